/-! printed by wip/whole/loopgen.py: the law's loop comes to its end with 1 -/
theorem Rel_0 : Rel I0 A0 J0 B0 := by
  refine ⟨⟨(2, (0, fun _ => 0), (0, fun _ => 0), (0, fun _ => 0, fun _ => 0), (0, fun _ => 0, fun _ => 0)), ⟨Or.inl rfl, ⟨by decide, fun i hi => by omega⟩, ⟨by decide, fun i hi => by omega⟩, ⟨by decide, fun i hi => by omega⟩, ⟨by decide, fun i hi => by omega⟩⟩, ⟨rfl, ⟨rfl, fun i hi => by omega⟩, ⟨rfl, fun i hi => by omega⟩, ⟨rfl, fun i hi => by omega⟩, ⟨rfl, fun i hi => by omega⟩⟩, ⟨rfl, ⟨rfl, fun i hi => by omega⟩, ⟨rfl, fun i hi => by omega⟩, ⟨rfl, fun i hi => by omega⟩, ⟨rfl, fun i hi => by omega⟩⟩⟩, Or.inl ⟨rfl, rfl⟩, ⟨0, fun _ => 0, by decide, rfl, rfl, fun i hi => by omega⟩, ⟨0, by decide, rfl, rfl, fun i hi => by omega⟩, ⟨⟨Or.inl ⟨rfl, rfl⟩, fun i _ => rfl⟩, ⟨Or.inl ⟨rfl, rfl⟩, fun i _ => rfl⟩, ⟨Or.inl ⟨rfl, rfl⟩, fun i _ => rfl⟩, ⟨Or.inl ⟨rfl, rfl⟩, fun i _ => rfl⟩⟩⟩
set_option maxHeartbeats 20000000 in
set_option maxRecDepth 100000 in
theorem law_loop (Lx : Nat) (xs : Nat → Int32) (hL : Lx ≤ 3072) : ∀ (n i f : Nat) (I : Nat → Int32) (A : Nat → Nat → Int32) (J : Nat → Int32) (B : Nat → Nat → Int32) (L : Nat → Nat → Int64), Lx < i + 6 * n → i ≤ Lx + 6 → 41 * n < f → Rel I A J B → ∃ h', zm_run zt_L_law zl_cuts true (some (Lx, xs)) (zC 60) f 18 [some (.ref 2000001), some (.ref 0), some (.ref 1000), some (.int (nI i))] [] (hC I A, hM J B L) = some (some (.int 1), h') := by
  intro n
  induction n with
  | zero =>
    intro i f I A J B L hi hi2 hf hR
    obtain ⟨f, rfl⟩ : ∃ e, f = e + 1 := ⟨f - 1, by omega⟩
    refine ⟨(hC I A, hM J B L), ?_⟩
    have lt : Int32.ofNat Lx - 6 < nI i := by
      rw [Int32.lt_iff_toInt_lt, show Int32.ofNat Lx - 6 = nI Lx - nI 6 from rfl, pk_sub_toInt (by omega) (by decide), nI_toInt (by omega)]
      omega
    rw [l_law_18, pn_t lt]
  | succ n ih =>
    intro i f I A J B L hi hi2 hf hR
    obtain ⟨f, rfl⟩ : ∃ e, f = e + 40 + 1 := ⟨f - 41, by omega⟩
    rw [l_law_18]
    have ls : (Int32.ofNat Lx - 6).toInt = (Lx : Int) - 6 := by
      rw [show Int32.ofNat Lx - 6 = nI Lx - nI 6 from rfl]
      exact pk_sub_toInt (by omega) (by decide)
    by_cases lt : Int32.ofNat Lx - 6 < nI i
    · exact ⟨(hC I A, hM J B L), by rw [pn_t lt]⟩
    rw [pn_f lt]
    rw [Int32.lt_iff_toInt_lt, ls, nI_toInt (by omega)] at lt
    have i0 : zm_in (nI i) Lx = true := pn_in (by omega) (by omega)
    have i1 : zm_in (nI i + 1) Lx = true := by rw [show (1 : Int32) = nI 1 from rfl, nI_add]; exact pn_in (by omega) (by omega)
    have i2 : zm_in (nI i + 2) Lx = true := by rw [show (2 : Int32) = nI 2 from rfl, nI_add]; exact pn_in (by omega) (by omega)
    have i3 : zm_in (nI i + 3) Lx = true := by rw [show (3 : Int32) = nI 3 from rfl, nI_add]; exact pn_in (by omega) (by omega)
    have i4 : zm_in (nI i + 4) Lx = true := by rw [show (4 : Int32) = nI 4 from rfl, nI_add]; exact pn_in (by omega) (by omega)
    have i5 : zm_in (nI i + 5) Lx = true := by rw [show (5 : Int32) = nI 5 from rfl, nI_add]; exact pn_in (by omega) (by omega)
    have e6 : nI i + 6 = nI (i + 6) := by rw [show (6 : Int32) = nI 6 from rfl, nI_add]
    have go : ∀ f', 41 * n < f' → ∀ (I : Nat → Int32) (A : Nat → Nat → Int32) (J : Nat → Int32) (B : Nat → Nat → Int32) (L : Nat → Nat → Int64), Rel I A J B → ∃ h', zm_run zt_L_law zl_cuts true (some (Lx, xs)) (zC 60) f' 18 [some (.ref 2000001), some (.ref 0), some (.ref 1000), some (.int (nI (i + 6)))] [] (hC I A, hM J B L) = some (some (.int 1), h') := fun f' hf' I A J B L r => ih (i + 6) f' I A J B L (by omega) (by omega) hf' r
    rw [i0, cond_true]
    by_cases q0 : Int32.toInt ((xs (Int32.toNatClampNeg (nI i))) &&& 63) = 0
    · rw [pn_t q0]
      obtain ⟨v, I', A', J', B', L', e1, e2, r⟩ := P_sides (L := L) hR (xs (Int32.toNatClampNeg (nI i + 1)))
      rw [lc_208 Lx xs (zC 60) f (nI i) i1 (e1 _) (e2 _), e6]
      exact go _ (by omega) I' A' J' B' L' r
    rw [pn_f q0]
    by_cases q1 : Int32.toInt ((xs (Int32.toNatClampNeg (nI i))) &&& 63) = 1
    · rw [pn_t q1]
      obtain ⟨v, I', A', J', B', L', e1, e2, r⟩ := P_feed (L := L) hR (xs (Int32.toNatClampNeg (nI i + 1)))
      rw [lc_231 Lx xs (zC 60) f (nI i) i1 (e1 _) (e2 _), e6]
      exact go _ (by omega) I' A' J' B' L' r
    rw [pn_f q1]
    by_cases q2 : Int32.toInt ((xs (Int32.toNatClampNeg (nI i))) &&& 63) = 2
    · rw [pn_t q2]
      obtain ⟨v, I', A', J', B', L', e1, e2, r⟩ := P_words (L := L) hR
      rw [lc_254 Lx xs (zC 60) f (nI i) (e1 _) (e2 _), e6]
      exact go _ (by omega) I' A' J' B' L' r
    rw [pn_f q2]
    by_cases q3 : Int32.toInt ((xs (Int32.toNatClampNeg (nI i))) &&& 63) = 3
    · rw [pn_t q3]
      obtain ⟨v, I', A', J', B', L', e1, e2, r⟩ := P_becomes (L := L) hR (xs (Int32.toNatClampNeg (nI i + 1))) (xs (Int32.toNatClampNeg (nI i + 2)))
      rw [lc_267 Lx xs (zC 60) f (nI i) i1 i2 (e1 _) (e2 _), e6]
      exact go _ (by omega) I' A' J' B' L' r
    rw [pn_f q3]
    by_cases q4 : Int32.toInt ((xs (Int32.toNatClampNeg (nI i))) &&& 63) = 4
    · rw [pn_t q4]
      obtain ⟨v, I', A', J', B', L', e1, e2, r⟩ := P_of (L := L) hR (xs (Int32.toNatClampNeg (nI i + 1))) (xs (Int32.toNatClampNeg (nI i + 2)))
      rw [lc_300 Lx xs (zC 60) f (nI i) i1 i2 (e1 _) (e2 _), e6]
      exact go _ (by omega) I' A' J' B' L' r
    rw [pn_f q4]
    by_cases q5 : Int32.toInt ((xs (Int32.toNatClampNeg (nI i))) &&& 63) = 5
    · rw [pn_t q5]
      obtain ⟨v, I', A', J', B', L', e1, e2, r⟩ := P_overlaps (L := L) hR (xs (Int32.toNatClampNeg (nI i + 1))) (xs (Int32.toNatClampNeg (nI i + 2)))
      rw [lc_333 Lx xs (zC 60) f (nI i) i1 i2 (e1 _) (e2 _), e6]
      exact go _ (by omega) I' A' J' B' L' r
    rw [pn_f q5]
    by_cases q6 : Int32.toInt ((xs (Int32.toNatClampNeg (nI i))) &&& 63) = 6
    · rw [pn_t q6]
      obtain ⟨v, I', A', J', B', L', e1, e2, r⟩ := P_number (L := L) hR (xs (Int32.toNatClampNeg (nI i + 1))) (xs (Int32.toNatClampNeg (nI i + 2)))
      rw [lc_366 Lx xs (zC 60) f (nI i) i1 i2 (e1 _) (e2 _), e6]
      exact go _ (by omega) I' A' J' B' L' r
    rw [pn_f q6]
    by_cases q7 : Int32.toInt ((xs (Int32.toNatClampNeg (nI i))) &&& 63) = 7
    · rw [pn_t q7]
      obtain ⟨v, I', A', J', B', L', e1, e2, r⟩ := P_isIn (L := L) hR (xs (Int32.toNatClampNeg (nI i + 1))) (xs (Int32.toNatClampNeg (nI i + 2)))
      rw [lc_399 Lx xs (zC 60) f (nI i) i1 i2 (e1 _) (e2 _), e6]
      exact go _ (by omega) I' A' J' B' L' r
    rw [pn_f q7]
    by_cases q8 : Int32.toInt ((xs (Int32.toNatClampNeg (nI i))) &&& 63) = 8
    · rw [pn_t q8]
      obtain ⟨v, I', A', J', B', L', e1, e2, r⟩ := P_chance (L := L) hR (xs (Int32.toNatClampNeg (nI i + 1))) (xs (Int32.toNatClampNeg (nI i + 2))) (xs (Int32.toNatClampNeg (nI i + 3)))
      rw [lc_432 Lx xs (zC 60) f (nI i) i1 i2 i3 (e1 _) (e2 _), e6]
      exact go _ (by omega) I' A' J' B' L' r
    rw [pn_f q8]
    by_cases q9 : Int32.toInt ((xs (Int32.toNatClampNeg (nI i))) &&& 63) = 9
    · rw [pn_t q9]
      obtain ⟨v, I', A', J', B', L', e1, e2, r⟩ := P_answered (L := L) hR (xs (Int32.toNatClampNeg (nI i + 1))) (xs (Int32.toNatClampNeg (nI i + 2)))
      rw [lc_476 Lx xs (zC 60) f (nI i) i1 i2 (e1 _) (e2 _), e6]
      exact go _ (by omega) I' A' J' B' L' r
    rw [pn_f q9]
    by_cases q10 : Int32.toInt ((xs (Int32.toNatClampNeg (nI i))) &&& 63) = 10
    · rw [pn_t q10]
      obtain ⟨v, I', A', J', B', L', e1, e2, r⟩ := P_trail (L := L) hR (xs (Int32.toNatClampNeg (nI i + 1))) (xs (Int32.toNatClampNeg (nI i + 2)))
      rw [lc_510 Lx xs (zC 60) f (nI i) i1 i2 (e1 _) (e2 _), e6]
      exact go _ (by omega) I' A' J' B' L' r
    rw [pn_f q10]
    by_cases q11 : Int32.toInt ((xs (Int32.toNatClampNeg (nI i))) &&& 63) = 11
    · rw [pn_t q11]
      obtain ⟨v, I', A', J', B', L', e1, e2, r⟩ := P_ring (L := L) hR (xs (Int32.toNatClampNeg (nI i + 1)))
      rw [lc_543 Lx xs (zC 60) f (nI i) i1 (e1 _) (e2 _), e6]
      exact go _ (by omega) I' A' J' B' L' r
    rw [pn_f q11]
    by_cases q12 : Int32.toInt ((xs (Int32.toNatClampNeg (nI i))) &&& 63) = 12
    · rw [pn_t q12]
      obtain ⟨v, I', A', J', B', L', e1, e2, r⟩ := P_field (L := L) hR (xs (Int32.toNatClampNeg (nI i + 1))) (xs (Int32.toNatClampNeg (nI i + 2))) (xs (Int32.toNatClampNeg (nI i + 3)))
      rw [lc_566 Lx xs (zC 60) f (nI i) i1 i2 i3 (e1 _) (e2 _), e6]
      exact go _ (by omega) I' A' J' B' L' r
    rw [pn_f q12]
    by_cases q13 : Int32.toInt ((xs (Int32.toNatClampNeg (nI i))) &&& 63) = 13
    · rw [pn_t q13]
      obtain ⟨v, I', A', J', B', L', e1, e2, r⟩ := P_mean (L := L) hR (xs (Int32.toNatClampNeg (nI i + 1))) (xs (Int32.toNatClampNeg (nI i + 2)))
      rw [lc_610 Lx xs (zC 60) f (nI i) i1 i2 (e1 _) (e2 _), e6]
      exact go _ (by omega) I' A' J' B' L' r
    rw [pn_f q13]
    by_cases q14 : Int32.toInt ((xs (Int32.toNatClampNeg (nI i))) &&& 63) = 14
    · rw [pn_t q14]
      obtain ⟨v, I', A', J', B', L', e1, e2, r⟩ := P_within (L := L) hR (xs (Int32.toNatClampNeg (nI i + 1))) (xs (Int32.toNatClampNeg (nI i + 2))) (xs (Int32.toNatClampNeg (nI i + 3)))
      rw [lc_644 Lx xs (zC 60) f (nI i) i1 i2 i3 (e1 _) (e2 _), e6]
      exact go _ (by omega) I' A' J' B' L' r
    rw [pn_f q14]
    by_cases q15 : Int32.toInt ((xs (Int32.toNatClampNeg (nI i))) &&& 63) = 15
    · rw [pn_t q15]
      obtain ⟨v, I', A', J', B', L', e1, e2, r⟩ := P_cast (L := L) hR (xs (Int32.toNatClampNeg (nI i + 1)))
      rw [lc_687 Lx xs (zC 60) f (nI i) i1 (e1 _) (e2 _), e6]
      exact go _ (by omega) I' A' J' B' L' r
    rw [pn_f q15]
    by_cases q16 : Int32.toInt ((xs (Int32.toNatClampNeg (nI i))) &&& 63) = 16
    · rw [pn_t q16]
      obtain ⟨v, I', A', J', B', L', e1, e2, r⟩ := P_casts (L := L) hR (xs (Int32.toNatClampNeg (nI i + 1))) (xs (Int32.toNatClampNeg (nI i + 2)))
      rw [lc_710 Lx xs (zC 60) f (nI i) i1 i2 (e1 _) (e2 _), e6]
      exact go _ (by omega) I' A' J' B' L' r
    rw [pn_f q16]
    by_cases q17 : Int32.toInt ((xs (Int32.toNatClampNeg (nI i))) &&& 63) = 17
    · rw [pn_t q17]
      obtain ⟨v, I', A', J', B', L', e1, e2, r⟩ := P_wipe (L := L) hR
      rw [lc_743 Lx xs (zC 60) f (nI i) (e1 _) (e2 _), e6]
      exact go _ (by omega) I' A' J' B' L' r
    rw [pn_f q17]
    by_cases q18 : Int32.toInt ((xs (Int32.toNatClampNeg (nI i))) &&& 63) = 18
    · rw [pn_t q18]
      obtain ⟨v, I', A', J', B', L', e1, e2, r⟩ := P_strip (L := L) hR (xs (Int32.toNatClampNeg (nI i + 1)))
      rw [lc_756 Lx xs (zC 60) f (nI i) i1 (e1 _) (e2 _), e6]
      exact go _ (by omega) I' A' J' B' L' r
    rw [pn_f q18]
    by_cases q19 : Int32.toInt ((xs (Int32.toNatClampNeg (nI i))) &&& 63) = 19
    · rw [pn_t q19]
      obtain ⟨v, I', A', J', B', L', e1, e2, r⟩ := P_ends (L := L) hR (xs (Int32.toNatClampNeg (nI i + 1)))
      rw [lc_779 Lx xs (zC 60) f (nI i) i1 (e1 _) (e2 _), e6]
      exact go _ (by omega) I' A' J' B' L' r
    rw [pn_f q19]
    by_cases q20 : Int32.toInt ((xs (Int32.toNatClampNeg (nI i))) &&& 63) = 20
    · rw [pn_t q20]
      obtain ⟨v, I', A', J', B', L', e1, e2, r⟩ := P_seen (L := L) hR (xs (Int32.toNatClampNeg (nI i + 1))) (xs (Int32.toNatClampNeg (nI i + 2)))
      rw [lc_803 Lx xs (zC 60) f (nI i) i1 i2 (e1 _) (e2 _), e6]
      exact go _ (by omega) I' A' J' B' L' r
    rw [pn_f q20]
    by_cases q21 : Int32.toInt ((xs (Int32.toNatClampNeg (nI i))) &&& 63) = 21
    · rw [pn_t q21]
      obtain ⟨v, I', A', J', B', L', e1, e2, r⟩ := P_who (L := L) hR
      rw [lc_836 Lx xs (zC 60) f (nI i) (e1 _) (e2 _), e6]
      exact go _ (by omega) I' A' J' B' L' r
    rw [pn_f q21]
    by_cases q22 : Int32.toInt ((xs (Int32.toNatClampNeg (nI i))) &&& 63) = 22
    · rw [pn_t q22]
      obtain ⟨v, I', A', J', B', L', e1, e2, r⟩ := P_were (L := L) hR (xs (Int32.toNatClampNeg (nI i + 1))) (xs (Int32.toNatClampNeg (nI i + 2)))
      rw [lc_849 Lx xs (zC 60) f (nI i) i1 i2 (e1 _) (e2 _), e6]
      exact go _ (by omega) I' A' J' B' L' r
    rw [pn_f q22]
    by_cases q23 : Int32.toInt ((xs (Int32.toNatClampNeg (nI i))) &&& 63) = 23
    · rw [pn_t q23]
      obtain ⟨v, I', A', J', B', L', e1, e2, r⟩ := P_player (L := L) hR (xs (Int32.toNatClampNeg (nI i + 1))) (xs (Int32.toNatClampNeg (nI i + 2)))
      rw [lc_882 Lx xs (zC 60) f (nI i) i1 i2 (e1 _) (e2 _), e6]
      exact go _ (by omega) I' A' J' B' L' r
    rw [pn_f q23]
    by_cases q24 : Int32.toInt ((xs (Int32.toNatClampNeg (nI i))) &&& 63) = 24
    · rw [pn_t q24]
      obtain ⟨v, I', A', J', B', L', e1, e2, r⟩ := P_playerOf (L := L) hR (xs (Int32.toNatClampNeg (nI i + 1))) (xs (Int32.toNatClampNeg (nI i + 2)))
      rw [lc_915 Lx xs (zC 60) f (nI i) i1 i2 (e1 _) (e2 _), e6]
      exact go _ (by omega) I' A' J' B' L' r
    rw [pn_f q24]
    by_cases q25 : Int32.toInt ((xs (Int32.toNatClampNeg (nI i))) &&& 63) = 25
    · rw [pn_t q25]
      obtain ⟨v, I', A', J', B', L', e1, e2, r⟩ := P_pick (L := L) hR (xs (Int32.toNatClampNeg (nI i + 1))) (xs (Int32.toNatClampNeg (nI i + 2))) (xs (Int32.toNatClampNeg (nI i + 3)))
      rw [lc_948 Lx xs (zC 60) f (nI i) i1 i2 i3 (e1 _) (e2 _), e6]
      exact go _ (by omega) I' A' J' B' L' r
    rw [pn_f q25]
    by_cases q26 : Int32.toInt ((xs (Int32.toNatClampNeg (nI i))) &&& 63) = 26
    · rw [pn_t q26]
      obtain ⟨v, I', A', J', B', L', e1, e2, r⟩ := P_match (L := L) hR (xs (Int32.toNatClampNeg (nI i + 1))) (xs (Int32.toNatClampNeg (nI i + 2))) (xs (Int32.toNatClampNeg (nI i + 3)))
      rw [lc_991 Lx xs (zC 60) f (nI i) i1 i2 i3 (e1 _) (e2 _), e6]
      exact go _ (by omega) I' A' J' B' L' r
    rw [pn_f q26]
    by_cases q27 : Int32.toInt ((xs (Int32.toNatClampNeg (nI i))) &&& 63) = 27
    · rw [pn_t q27]
      obtain ⟨v, I', A', J', B', L', e1, e2, r⟩ := P_duel (L := L) hR (xs (Int32.toNatClampNeg (nI i + 1))) (xs (Int32.toNatClampNeg (nI i + 2))) (xs (Int32.toNatClampNeg (nI i + 3))) (xs (Int32.toNatClampNeg (nI i + 4)))
      rw [lc_1035 Lx xs (zC 60) f (nI i) i1 i2 i3 i4 (e1 _) (e2 _), e6]
      exact go _ (by omega) I' A' J' B' L' r
    rw [pn_f q27]
    by_cases q28 : Int32.toInt ((xs (Int32.toNatClampNeg (nI i))) &&& 63) = 28
    · rw [pn_t q28]
      obtain ⟨v, I', A', J', B', L', e1, e2, r⟩ := P_odds (L := L) hR (xs (Int32.toNatClampNeg (nI i + 1))) (xs (Int32.toNatClampNeg (nI i + 2))) (xs (Int32.toNatClampNeg (nI i + 3))) (xs (Int32.toNatClampNeg (nI i + 4))) (xs (Int32.toNatClampNeg (nI i + 5)))
      rw [lc_1088 Lx xs (zC 60) f (nI i) i1 i2 i3 i4 i5 (e1 _) (e2 _), e6]
      exact go _ (by omega) I' A' J' B' L' r
    rw [pn_f q28]
    by_cases q29 : Int32.toInt ((xs (Int32.toNatClampNeg (nI i))) &&& 63) = 29
    · rw [pn_t q29]
      obtain ⟨v, I', A', J', B', L', e1, e2, r⟩ := P_plan (L := L) hR (xs (Int32.toNatClampNeg (nI i + 1))) (xs (Int32.toNatClampNeg (nI i + 2)))
      rw [lc_1152 Lx xs (zC 60) f (nI i) i1 i2 (e1 _) (e2 _), e6]
      exact go _ (by omega) I' A' J' B' L' r
    rw [pn_f q29]
    by_cases q30 : Int32.toInt ((xs (Int32.toNatClampNeg (nI i))) &&& 63) = 30
    · rw [pn_t q30]
      obtain ⟨v, I', A', J', B', L', e1, e2, r⟩ := P_behind (L := L) hR (xs (Int32.toNatClampNeg (nI i + 1)))
      rw [lc_1185 Lx xs (zC 60) f (nI i) i1 (e1 _) (e2 _), e6]
      exact go _ (by omega) I' A' J' B' L' r
    rw [pn_f q30]
    by_cases q31 : Int32.toInt ((xs (Int32.toNatClampNeg (nI i))) &&& 63) = 31
    · rw [pn_t q31]
      obtain ⟨v, I', A', J', B', L', e1, e2, r⟩ := P_write (L := L) hR (xs (Int32.toNatClampNeg (nI i + 1)))
      rw [lc_1208 Lx xs (zC 60) f (nI i) i1 (e1 _) (e2 _), e6]
      exact go _ (by omega) I' A' J' B' L' r
    rw [pn_f q31]
    by_cases q32 : Int32.toInt ((xs (Int32.toNatClampNeg (nI i))) &&& 63) = 32
    · rw [pn_t q32]
      obtain ⟨v, I', A', J', B', L', e1, e2, r⟩ := P_paper (L := L) hR (xs (Int32.toNatClampNeg (nI i + 1)))
      rw [lc_1231 Lx xs (zC 60) f (nI i) i1 (e1 _) (e2 _), e6]
      exact go _ (by omega) I' A' J' B' L' r
    rw [pn_f q32]
    by_cases q33 : Int32.toInt ((xs (Int32.toNatClampNeg (nI i))) &&& 63) = 33
    · rw [pn_t q33]
      obtain ⟨v, I', A', J', B', L', e1, e2, r⟩ := P_judge (L := L) hR (xs (Int32.toNatClampNeg (nI i + 1)))
      rw [lc_1254 Lx xs (zC 60) f (nI i) i1 (e1 _) (e2 _), e6]
      exact go _ (by omega) I' A' J' B' L' r
    rw [pn_f q33]
    by_cases q34 : Int32.toInt ((xs (Int32.toNatClampNeg (nI i))) &&& 63) = 34
    · rw [pn_t q34]
      obtain ⟨v, I', A', J', B', L', e1, e2, r⟩ := P_list (L := L) hR (xs (Int32.toNatClampNeg (nI i + 1))) (xs (Int32.toNatClampNeg (nI i + 2)))
      rw [lc_1277 Lx xs (zC 60) f (nI i) i1 i2 (e1 _) (e2 _), e6]
      exact go _ (by omega) I' A' J' B' L' r
    rw [pn_f q34]
    by_cases q35 : Int32.toInt ((xs (Int32.toNatClampNeg (nI i))) &&& 63) = 35
    · rw [pn_t q35]
      obtain ⟨v, I', A', J', B', L', e1, e2, r⟩ := P_put (L := L) hR (xs (Int32.toNatClampNeg (nI i + 1))) (xs (Int32.toNatClampNeg (nI i + 2))) (xs (Int32.toNatClampNeg (nI i + 3)))
      rw [lc_1310 Lx xs (zC 60) f (nI i) i1 i2 i3 (e1 _) (e2 _), e6]
      exact go _ (by omega) I' A' J' B' L' r
    rw [pn_f q35]
    by_cases q36 : Int32.toInt ((xs (Int32.toNatClampNeg (nI i))) &&& 63) = 36
    · rw [pn_t q36]
      obtain ⟨v, I', A', J', B', L', e1, e2, r⟩ := P_get (L := L) hR (xs (Int32.toNatClampNeg (nI i + 1))) (xs (Int32.toNatClampNeg (nI i + 2)))
      rw [lc_1353 Lx xs (zC 60) f (nI i) i1 i2 (e1 _) (e2 _), e6]
      exact go _ (by omega) I' A' J' B' L' r
    rw [pn_f q36]
    by_cases q37 : Int32.toInt ((xs (Int32.toNatClampNeg (nI i))) &&& 63) = 37
    · rw [pn_t q37]
      obtain ⟨v, I', A', J', B', L', e1, e2, r⟩ := P_image (L := L) hR
      rw [lc_1387 Lx xs (zC 60) f (nI i) (e1 _) (e2 _), e6]
      exact go _ (by omega) I' A' J' B' L' r
    rw [pn_f q37]
    by_cases q38 : Int32.toInt ((xs (Int32.toNatClampNeg (nI i))) &&& 63) = 38
    · rw [pn_t q38]
      obtain ⟨v, I', A', J', B', L', e1, e2, r⟩ := P_undo (L := L) hR
      rw [lc_1400 Lx xs (zC 60) f (nI i) (e1 _) (e2 _), e6]
      exact go _ (by omega) I' A' J' B' L' r
    rw [pn_f q38]
    by_cases q39 : Int32.toInt ((xs (Int32.toNatClampNeg (nI i))) &&& 63) = 39
    · rw [pn_t q39]
      obtain ⟨v, I', A', J', B', L', e1, e2, r⟩ := P_count (L := L) hR (xs (Int32.toNatClampNeg (nI i + 1)))
      rw [lc_1413 Lx xs (zC 60) f (nI i) i1 (e1 _) (e2 _), e6]
      exact go _ (by omega) I' A' J' B' L' r
    rw [pn_f q39]
    rw [e6]
    exact go _ (by omega) I A J B L hR
theorem law_pure (Lx : Nat) (xs : Nat → Int32) (hL : Lx ≤ 3072) : ∃ h', zm_run zt_L_law zl_cuts true (some (Lx, xs)) (zC 60) 10000000 18 [some (.ref 2000001), some (.ref 0), some (.ref 1000), some (.int 0)] [] (hC I0 A0, hM J0 B0 L0) = some (some (.int 1), h') := law_loop Lx xs hL 3073 0 10000000 I0 A0 J0 B0 L0 (by omega) (by omega) (by omega) Rel_0
theorem whole_start {p : Program} {e : Env} {s : State} {m : MethodId} {below : List Frame} {meth : Method} {c : Code} (l : Launch) (hflags : l.flags = flags0) {b L : Nat} {xs : Nat → Int32} (hL : L ≤ 3072) (C0 : lw_At p s m meth c b L xs) : W p l e room_1 s m #[Value.ref b] below meth c s.heap [] 0 0 (lw_Z below #[Value.ref b] s) (entryFrame m ([Value.ref b] : List Value).toArray 4) := start_open l hL C0 (law_pure L xs hL)
