/-! printed by wip/whole/loopgen.py: the law's loop comes to its end with 1 -/
theorem lg_self (a : Int64) : lg_cmp a a = 0 := by
  unfold lg_cmp
  simp [Int64.lt_irrefl]
theorem go1 {I : Nat → Int32} {A : Nat → Nat → Int32} {J : Nat → Int32} {B : Nat → Nat → Int32} {L : Nat → Nat → Int64} {mc mm : Nat} {as : List Value} (h : Ans mc mm as I A J B L) (G : zm_H → Option zm_R) : ∃ (I' : Nat → Int32) (A' : Nat → Nat → Int32) (J' : Nat → Int32) (B' : Nat → Nat → Int32) (L' : Nat → Nat → Int64), Rel I' A' J' B' ∧ (zm_c1 (zC 60 mc (.ref 0 :: as) (hC I A, hM J B L)) fun v h1 => zm_c1 (zC 60 mm (.ref 1000 :: as) h1) fun v2 h2 => bif decide (v = v2) then G h2 else some (some (.int 0), h2)) = G (hC I' A', hM J' B' L') := by
  obtain ⟨v, I', A', J', B', L', e1, e2, r⟩ := h
  refine ⟨I', A', J', B', L', r, ?_⟩
  rw [e1, pn_c1, e2, pn_c1, pn_t rfl]
theorem go2 {I : Nat → Int32} {A : Nat → Nat → Int32} {J : Nat → Int32} {B : Nat → Nat → Int32} {L : Nat → Nat → Int64} {mc mm : Nat} {as : List Value} (h : AnsL mc mm as I A J B L) (G : zm_H → Option zm_R) : ∃ (I' : Nat → Int32) (A' : Nat → Nat → Int32) (J' : Nat → Int32) (B' : Nat → Nat → Int32) (L' : Nat → Nat → Int64), Rel I' A' J' B' ∧ (zm_c2 (zC 60 mc (.ref 0 :: as) (hC I A, hM J B L)) fun v h1 => zm_c2 (zC 60 mm (.ref 1000 :: as) h1) fun v2 h2 => bif decide ((lg_cmp v v2) = 0) then G h2 else some (some (.int 0), h2)) = G (hC I' A', hM J' B' L') := by
  obtain ⟨v, I', A', J', B', L', e1, e2, r⟩ := h
  refine ⟨I', A', J', B', L', r, ?_⟩
  rw [e1, pn_c2, e2, pn_c2, pn_t (lg_self v)]
theorem Rel_0 : Rel I0 A0 J0 B0 := by
  refine ⟨⟨(2, (0, fun _ => 0), (0, fun _ => 0), (0, fun _ => 0, fun _ => 0), (0, fun _ => 0, fun _ => 0)), ⟨Or.inl rfl, ⟨by decide, fun i hi => by omega⟩, ⟨by decide, fun i hi => by omega⟩, ⟨by decide, fun i hi => by omega⟩, ⟨by decide, fun i hi => by omega⟩⟩, ⟨rfl, ⟨rfl, fun i hi => by omega⟩, ⟨rfl, fun i hi => by omega⟩, ⟨rfl, fun i hi => by omega⟩, ⟨rfl, fun i hi => by omega⟩⟩, ⟨rfl, ⟨rfl, fun i hi => by omega⟩, ⟨rfl, fun i hi => by omega⟩, ⟨rfl, fun i hi => by omega⟩, ⟨rfl, fun i hi => by omega⟩⟩⟩, Or.inl ⟨rfl, rfl⟩, ⟨0, fun _ => 0, by decide, rfl, rfl, fun i hi => by omega⟩, ⟨0, by decide, rfl, rfl, fun i hi => by omega⟩, ⟨⟨Or.inl ⟨rfl, rfl⟩, fun i _ => rfl⟩, ⟨Or.inl ⟨rfl, rfl⟩, fun i _ => rfl⟩, ⟨Or.inl ⟨rfl, rfl⟩, fun i _ => rfl⟩, ⟨Or.inl ⟨rfl, rfl⟩, fun i _ => rfl⟩⟩⟩
set_option maxHeartbeats 20000000 in
set_option maxRecDepth 100000 in
theorem law_loop (Lx : Nat) (xs : Nat → Int32) (hL : Lx ≤ 3072) : ∀ (n i f : Nat) (I : Nat → Int32) (A : Nat → Nat → Int32) (J : Nat → Int32) (B : Nat → Nat → Int32) (L : Nat → Nat → Int64), Lx < i + 6 * n → i ≤ Lx + 6 → 2 * n < f → Rel I A J B → ∃ h', zm_run zt_L_law zl_cuts true (some (Lx, xs)) (zC 60) f 18 [some (.ref 2000001), some (.ref 0), some (.ref 1000), some (.int (nI i))] [] (hC I A, hM J B L) = some (some (.int 1), h') := by
  intro n
  induction n with
  | zero =>
    intro i f I A J B L hi hi2 hf hR
    obtain ⟨f, rfl⟩ : ∃ e, f = e + 1 := ⟨f - 1, by omega⟩
    refine ⟨(hC I A, hM J B L), ?_⟩
    have lt : Int32.ofNat Lx - 6 < nI i := by
      rw [Int32.lt_iff_toInt_lt, show Int32.ofNat Lx - 6 = nI Lx - nI 6 from rfl, pk_sub_toInt (by omega) (by decide), nI_toInt (by omega)]
      omega
    show zm_blk zt_L_law zl_cuts true (some (Lx, xs)) (zC 60) (zm_run zt_L_law zl_cuts true (some (Lx, xs)) (zC 60) f) 3000 18 [some (.ref 2000001), some (.ref 0), some (.ref 1000), some (.int (nI i))] [] (hC I A, hM J B L) = _
    rw [b_law, pn_t lt]
  | succ n ih =>
    intro i f I A J B L hi hi2 hf hR
    obtain ⟨f, rfl⟩ : ∃ e, f = e + 1 + 1 := ⟨f - 2, by omega⟩
    show ∃ h', zm_blk zt_L_law zl_cuts true (some (Lx, xs)) (zC 60) (zm_run zt_L_law zl_cuts true (some (Lx, xs)) (zC 60) (f + 1)) 3000 18 [some (.ref 2000001), some (.ref 0), some (.ref 1000), some (.int (nI i))] [] (hC I A, hM J B L) = some (some (.int 1), h')
    rw [b_law]
    have ls : (Int32.ofNat Lx - 6).toInt = (Lx : Int) - 6 := by
      rw [show Int32.ofNat Lx - 6 = nI Lx - nI 6 from rfl]
      exact pk_sub_toInt (by omega) (by decide)
    by_cases lt : Int32.ofNat Lx - 6 < nI i
    · exact ⟨(hC I A, hM J B L), by rw [pn_t lt]⟩
    rw [pn_f lt]
    rw [Int32.lt_iff_toInt_lt, ls, nI_toInt (by omega)] at lt
    have i0 : zm_in (nI i) Lx = true := pn_in (by omega) (by omega)
    have i1 : zm_in (nI i + 1) Lx = true := by rw [show (1 : Int32) = nI 1 from rfl, nI_add]; exact pn_in (by omega) (by omega)
    have i2 : zm_in (nI i + 2) Lx = true := by rw [show (2 : Int32) = nI 2 from rfl, nI_add]; exact pn_in (by omega) (by omega)
    have i3 : zm_in (nI i + 3) Lx = true := by rw [show (3 : Int32) = nI 3 from rfl, nI_add]; exact pn_in (by omega) (by omega)
    have i4 : zm_in (nI i + 4) Lx = true := by rw [show (4 : Int32) = nI 4 from rfl, nI_add]; exact pn_in (by omega) (by omega)
    have i5 : zm_in (nI i + 5) Lx = true := by rw [show (5 : Int32) = nI 5 from rfl, nI_add]; exact pn_in (by omega) (by omega)
    have e6 : nI i + 6 = nI (i + 6) := by rw [show (6 : Int32) = nI 6 from rfl, nI_add]
    have go : ∀ f', 2 * n < f' → ∀ (I : Nat → Int32) (A : Nat → Nat → Int32) (J : Nat → Int32) (B : Nat → Nat → Int32) (L : Nat → Nat → Int64), Rel I A J B → ∃ h', zm_run zt_L_law zl_cuts true (some (Lx, xs)) (zC 60) f' 18 [some (.ref 2000001), some (.ref 0), some (.ref 1000), some (.int (nI (i + 6)))] [] (hC I A, hM J B L) = some (some (.int 1), h') := fun f' hf' I A J B L r => ih (i + 6) f' I A J B L (by omega) (by omega) hf' r
    rw [i0, cond_true]
    by_cases q0 : Int32.toInt ((xs (Int32.toNatClampNeg (nI i))) &&& 63) = 0
    · rw [pn_t q0]
      show ∃ h', zm_blk zt_L_law zl_cuts true (some (Lx, xs)) (zC 60) (zm_run zt_L_law zl_cuts true (some (Lx, xs)) (zC 60) f) 3000 208 [some (.ref 2000001), some (.ref 0), some (.ref 1000), some (.int (nI i))] [] (hC I A, hM J B L) = some (some (.int 1), h')
      rw [b_law_208]
      simp only [i1, i2, i3, i4, i5, cond_true, e6]
      obtain ⟨I', A', J', B', L', r, e⟩ := go1 (P_sides (L := L) hR _) (fun h => zm_run zt_L_law zl_cuts true (some (Lx, xs)) (zC 60) f 18 [some (.ref 2000001), some (.ref 0), some (.ref 1000), some (.int (nI (i + 6)))] [] h)
      obtain ⟨h', e'⟩ := go f (by omega) I' A' J' B' L' r
      exact ⟨h', Eq.trans e e'⟩
    rw [pn_f q0]
    by_cases q1 : Int32.toInt ((xs (Int32.toNatClampNeg (nI i))) &&& 63) = 1
    · rw [pn_t q1]
      show ∃ h', zm_blk zt_L_law zl_cuts true (some (Lx, xs)) (zC 60) (zm_run zt_L_law zl_cuts true (some (Lx, xs)) (zC 60) f) 3000 231 [some (.ref 2000001), some (.ref 0), some (.ref 1000), some (.int (nI i))] [] (hC I A, hM J B L) = some (some (.int 1), h')
      rw [b_law_231]
      simp only [i1, i2, i3, i4, i5, cond_true, e6]
      obtain ⟨I', A', J', B', L', r, e⟩ := go1 (P_feed (L := L) hR _) (fun h => zm_run zt_L_law zl_cuts true (some (Lx, xs)) (zC 60) f 18 [some (.ref 2000001), some (.ref 0), some (.ref 1000), some (.int (nI (i + 6)))] [] h)
      obtain ⟨h', e'⟩ := go f (by omega) I' A' J' B' L' r
      exact ⟨h', Eq.trans e e'⟩
    rw [pn_f q1]
    by_cases q2 : Int32.toInt ((xs (Int32.toNatClampNeg (nI i))) &&& 63) = 2
    · rw [pn_t q2]
      show ∃ h', zm_blk zt_L_law zl_cuts true (some (Lx, xs)) (zC 60) (zm_run zt_L_law zl_cuts true (some (Lx, xs)) (zC 60) f) 3000 254 [some (.ref 2000001), some (.ref 0), some (.ref 1000), some (.int (nI i))] [] (hC I A, hM J B L) = some (some (.int 1), h')
      rw [b_law_254]
      simp only [i1, i2, i3, i4, i5, cond_true, e6]
      obtain ⟨I', A', J', B', L', r, e⟩ := go1 (P_words (L := L) hR) (fun h => zm_run zt_L_law zl_cuts true (some (Lx, xs)) (zC 60) f 18 [some (.ref 2000001), some (.ref 0), some (.ref 1000), some (.int (nI (i + 6)))] [] h)
      obtain ⟨h', e'⟩ := go f (by omega) I' A' J' B' L' r
      exact ⟨h', Eq.trans e e'⟩
    rw [pn_f q2]
    by_cases q3 : Int32.toInt ((xs (Int32.toNatClampNeg (nI i))) &&& 63) = 3
    · rw [pn_t q3]
      show ∃ h', zm_blk zt_L_law zl_cuts true (some (Lx, xs)) (zC 60) (zm_run zt_L_law zl_cuts true (some (Lx, xs)) (zC 60) f) 3000 267 [some (.ref 2000001), some (.ref 0), some (.ref 1000), some (.int (nI i))] [] (hC I A, hM J B L) = some (some (.int 1), h')
      rw [b_law_267]
      simp only [i1, i2, i3, i4, i5, cond_true, e6]
      obtain ⟨I', A', J', B', L', r, e⟩ := go1 (P_becomes (L := L) hR _ _) (fun h => zm_run zt_L_law zl_cuts true (some (Lx, xs)) (zC 60) f 18 [some (.ref 2000001), some (.ref 0), some (.ref 1000), some (.int (nI (i + 6)))] [] h)
      obtain ⟨h', e'⟩ := go f (by omega) I' A' J' B' L' r
      exact ⟨h', Eq.trans e e'⟩
    rw [pn_f q3]
    by_cases q4 : Int32.toInt ((xs (Int32.toNatClampNeg (nI i))) &&& 63) = 4
    · rw [pn_t q4]
      show ∃ h', zm_blk zt_L_law zl_cuts true (some (Lx, xs)) (zC 60) (zm_run zt_L_law zl_cuts true (some (Lx, xs)) (zC 60) f) 3000 300 [some (.ref 2000001), some (.ref 0), some (.ref 1000), some (.int (nI i))] [] (hC I A, hM J B L) = some (some (.int 1), h')
      rw [b_law_300]
      simp only [i1, i2, i3, i4, i5, cond_true, e6]
      obtain ⟨I', A', J', B', L', r, e⟩ := go1 (P_of (L := L) hR _ _) (fun h => zm_run zt_L_law zl_cuts true (some (Lx, xs)) (zC 60) f 18 [some (.ref 2000001), some (.ref 0), some (.ref 1000), some (.int (nI (i + 6)))] [] h)
      obtain ⟨h', e'⟩ := go f (by omega) I' A' J' B' L' r
      exact ⟨h', Eq.trans e e'⟩
    rw [pn_f q4]
    by_cases q5 : Int32.toInt ((xs (Int32.toNatClampNeg (nI i))) &&& 63) = 5
    · rw [pn_t q5]
      show ∃ h', zm_blk zt_L_law zl_cuts true (some (Lx, xs)) (zC 60) (zm_run zt_L_law zl_cuts true (some (Lx, xs)) (zC 60) f) 3000 333 [some (.ref 2000001), some (.ref 0), some (.ref 1000), some (.int (nI i))] [] (hC I A, hM J B L) = some (some (.int 1), h')
      rw [b_law_333]
      simp only [i1, i2, i3, i4, i5, cond_true, e6]
      obtain ⟨I', A', J', B', L', r, e⟩ := go1 (P_overlaps (L := L) hR _ _) (fun h => zm_run zt_L_law zl_cuts true (some (Lx, xs)) (zC 60) f 18 [some (.ref 2000001), some (.ref 0), some (.ref 1000), some (.int (nI (i + 6)))] [] h)
      obtain ⟨h', e'⟩ := go f (by omega) I' A' J' B' L' r
      exact ⟨h', Eq.trans e e'⟩
    rw [pn_f q5]
    by_cases q6 : Int32.toInt ((xs (Int32.toNatClampNeg (nI i))) &&& 63) = 6
    · rw [pn_t q6]
      show ∃ h', zm_blk zt_L_law zl_cuts true (some (Lx, xs)) (zC 60) (zm_run zt_L_law zl_cuts true (some (Lx, xs)) (zC 60) f) 3000 366 [some (.ref 2000001), some (.ref 0), some (.ref 1000), some (.int (nI i))] [] (hC I A, hM J B L) = some (some (.int 1), h')
      rw [b_law_366]
      simp only [i1, i2, i3, i4, i5, cond_true, e6]
      obtain ⟨I', A', J', B', L', r, e⟩ := go1 (P_number (L := L) hR _ _) (fun h => zm_run zt_L_law zl_cuts true (some (Lx, xs)) (zC 60) f 18 [some (.ref 2000001), some (.ref 0), some (.ref 1000), some (.int (nI (i + 6)))] [] h)
      obtain ⟨h', e'⟩ := go f (by omega) I' A' J' B' L' r
      exact ⟨h', Eq.trans e e'⟩
    rw [pn_f q6]
    by_cases q7 : Int32.toInt ((xs (Int32.toNatClampNeg (nI i))) &&& 63) = 7
    · rw [pn_t q7]
      show ∃ h', zm_blk zt_L_law zl_cuts true (some (Lx, xs)) (zC 60) (zm_run zt_L_law zl_cuts true (some (Lx, xs)) (zC 60) f) 3000 399 [some (.ref 2000001), some (.ref 0), some (.ref 1000), some (.int (nI i))] [] (hC I A, hM J B L) = some (some (.int 1), h')
      rw [b_law_399]
      simp only [i1, i2, i3, i4, i5, cond_true, e6]
      obtain ⟨I', A', J', B', L', r, e⟩ := go1 (P_isIn (L := L) hR _ _) (fun h => zm_run zt_L_law zl_cuts true (some (Lx, xs)) (zC 60) f 18 [some (.ref 2000001), some (.ref 0), some (.ref 1000), some (.int (nI (i + 6)))] [] h)
      obtain ⟨h', e'⟩ := go f (by omega) I' A' J' B' L' r
      exact ⟨h', Eq.trans e e'⟩
    rw [pn_f q7]
    by_cases q8 : Int32.toInt ((xs (Int32.toNatClampNeg (nI i))) &&& 63) = 8
    · rw [pn_t q8]
      show ∃ h', zm_blk zt_L_law zl_cuts true (some (Lx, xs)) (zC 60) (zm_run zt_L_law zl_cuts true (some (Lx, xs)) (zC 60) f) 3000 432 [some (.ref 2000001), some (.ref 0), some (.ref 1000), some (.int (nI i))] [] (hC I A, hM J B L) = some (some (.int 1), h')
      rw [b_law_432]
      simp only [i1, i2, i3, i4, i5, cond_true, e6]
      obtain ⟨I', A', J', B', L', r, e⟩ := go2 (P_chance (L := L) hR _ _ _) (fun h => zm_run zt_L_law zl_cuts true (some (Lx, xs)) (zC 60) f 18 [some (.ref 2000001), some (.ref 0), some (.ref 1000), some (.int (nI (i + 6)))] [] h)
      obtain ⟨h', e'⟩ := go f (by omega) I' A' J' B' L' r
      exact ⟨h', Eq.trans e e'⟩
    rw [pn_f q8]
    by_cases q9 : Int32.toInt ((xs (Int32.toNatClampNeg (nI i))) &&& 63) = 9
    · rw [pn_t q9]
      show ∃ h', zm_blk zt_L_law zl_cuts true (some (Lx, xs)) (zC 60) (zm_run zt_L_law zl_cuts true (some (Lx, xs)) (zC 60) f) 3000 476 [some (.ref 2000001), some (.ref 0), some (.ref 1000), some (.int (nI i))] [] (hC I A, hM J B L) = some (some (.int 1), h')
      rw [b_law_476]
      simp only [i1, i2, i3, i4, i5, cond_true, e6]
      obtain ⟨I', A', J', B', L', r, e⟩ := go2 (P_answered (L := L) hR _ _) (fun h => zm_run zt_L_law zl_cuts true (some (Lx, xs)) (zC 60) f 18 [some (.ref 2000001), some (.ref 0), some (.ref 1000), some (.int (nI (i + 6)))] [] h)
      obtain ⟨h', e'⟩ := go f (by omega) I' A' J' B' L' r
      exact ⟨h', Eq.trans e e'⟩
    rw [pn_f q9]
    by_cases q10 : Int32.toInt ((xs (Int32.toNatClampNeg (nI i))) &&& 63) = 10
    · rw [pn_t q10]
      show ∃ h', zm_blk zt_L_law zl_cuts true (some (Lx, xs)) (zC 60) (zm_run zt_L_law zl_cuts true (some (Lx, xs)) (zC 60) f) 3000 510 [some (.ref 2000001), some (.ref 0), some (.ref 1000), some (.int (nI i))] [] (hC I A, hM J B L) = some (some (.int 1), h')
      rw [b_law_510]
      simp only [i1, i2, i3, i4, i5, cond_true, e6]
      obtain ⟨I', A', J', B', L', r, e⟩ := go1 (P_trail (L := L) hR _ _) (fun h => zm_run zt_L_law zl_cuts true (some (Lx, xs)) (zC 60) f 18 [some (.ref 2000001), some (.ref 0), some (.ref 1000), some (.int (nI (i + 6)))] [] h)
      obtain ⟨h', e'⟩ := go f (by omega) I' A' J' B' L' r
      exact ⟨h', Eq.trans e e'⟩
    rw [pn_f q10]
    by_cases q11 : Int32.toInt ((xs (Int32.toNatClampNeg (nI i))) &&& 63) = 11
    · rw [pn_t q11]
      show ∃ h', zm_blk zt_L_law zl_cuts true (some (Lx, xs)) (zC 60) (zm_run zt_L_law zl_cuts true (some (Lx, xs)) (zC 60) f) 3000 543 [some (.ref 2000001), some (.ref 0), some (.ref 1000), some (.int (nI i))] [] (hC I A, hM J B L) = some (some (.int 1), h')
      rw [b_law_543]
      simp only [i1, i2, i3, i4, i5, cond_true, e6]
      obtain ⟨I', A', J', B', L', r, e⟩ := go1 (P_ring (L := L) hR _) (fun h => zm_run zt_L_law zl_cuts true (some (Lx, xs)) (zC 60) f 18 [some (.ref 2000001), some (.ref 0), some (.ref 1000), some (.int (nI (i + 6)))] [] h)
      obtain ⟨h', e'⟩ := go f (by omega) I' A' J' B' L' r
      exact ⟨h', Eq.trans e e'⟩
    rw [pn_f q11]
    by_cases q12 : Int32.toInt ((xs (Int32.toNatClampNeg (nI i))) &&& 63) = 12
    · rw [pn_t q12]
      show ∃ h', zm_blk zt_L_law zl_cuts true (some (Lx, xs)) (zC 60) (zm_run zt_L_law zl_cuts true (some (Lx, xs)) (zC 60) f) 3000 566 [some (.ref 2000001), some (.ref 0), some (.ref 1000), some (.int (nI i))] [] (hC I A, hM J B L) = some (some (.int 1), h')
      rw [b_law_566]
      simp only [i1, i2, i3, i4, i5, cond_true, e6]
      obtain ⟨I', A', J', B', L', r, e⟩ := go2 (P_field (L := L) hR _ _ _) (fun h => zm_run zt_L_law zl_cuts true (some (Lx, xs)) (zC 60) f 18 [some (.ref 2000001), some (.ref 0), some (.ref 1000), some (.int (nI (i + 6)))] [] h)
      obtain ⟨h', e'⟩ := go f (by omega) I' A' J' B' L' r
      exact ⟨h', Eq.trans e e'⟩
    rw [pn_f q12]
    by_cases q13 : Int32.toInt ((xs (Int32.toNatClampNeg (nI i))) &&& 63) = 13
    · rw [pn_t q13]
      show ∃ h', zm_blk zt_L_law zl_cuts true (some (Lx, xs)) (zC 60) (zm_run zt_L_law zl_cuts true (some (Lx, xs)) (zC 60) f) 3000 610 [some (.ref 2000001), some (.ref 0), some (.ref 1000), some (.int (nI i))] [] (hC I A, hM J B L) = some (some (.int 1), h')
      rw [b_law_610]
      simp only [i1, i2, i3, i4, i5, cond_true, e6]
      obtain ⟨I', A', J', B', L', r, e⟩ := go2 (P_mean (L := L) hR _ _) (fun h => zm_run zt_L_law zl_cuts true (some (Lx, xs)) (zC 60) f 18 [some (.ref 2000001), some (.ref 0), some (.ref 1000), some (.int (nI (i + 6)))] [] h)
      obtain ⟨h', e'⟩ := go f (by omega) I' A' J' B' L' r
      exact ⟨h', Eq.trans e e'⟩
    rw [pn_f q13]
    by_cases q14 : Int32.toInt ((xs (Int32.toNatClampNeg (nI i))) &&& 63) = 14
    · rw [pn_t q14]
      show ∃ h', zm_blk zt_L_law zl_cuts true (some (Lx, xs)) (zC 60) (zm_run zt_L_law zl_cuts true (some (Lx, xs)) (zC 60) f) 3000 644 [some (.ref 2000001), some (.ref 0), some (.ref 1000), some (.int (nI i))] [] (hC I A, hM J B L) = some (some (.int 1), h')
      rw [b_law_644]
      simp only [i1, i2, i3, i4, i5, cond_true, e6]
      obtain ⟨I', A', J', B', L', r, e⟩ := go1 (P_within (L := L) hR _ _ _) (fun h => zm_run zt_L_law zl_cuts true (some (Lx, xs)) (zC 60) f 18 [some (.ref 2000001), some (.ref 0), some (.ref 1000), some (.int (nI (i + 6)))] [] h)
      obtain ⟨h', e'⟩ := go f (by omega) I' A' J' B' L' r
      exact ⟨h', Eq.trans e e'⟩
    rw [pn_f q14]
    by_cases q15 : Int32.toInt ((xs (Int32.toNatClampNeg (nI i))) &&& 63) = 15
    · rw [pn_t q15]
      show ∃ h', zm_blk zt_L_law zl_cuts true (some (Lx, xs)) (zC 60) (zm_run zt_L_law zl_cuts true (some (Lx, xs)) (zC 60) f) 3000 687 [some (.ref 2000001), some (.ref 0), some (.ref 1000), some (.int (nI i))] [] (hC I A, hM J B L) = some (some (.int 1), h')
      rw [b_law_687]
      simp only [i1, i2, i3, i4, i5, cond_true, e6]
      obtain ⟨I', A', J', B', L', r, e⟩ := go1 (P_cast (L := L) hR _) (fun h => zm_run zt_L_law zl_cuts true (some (Lx, xs)) (zC 60) f 18 [some (.ref 2000001), some (.ref 0), some (.ref 1000), some (.int (nI (i + 6)))] [] h)
      obtain ⟨h', e'⟩ := go f (by omega) I' A' J' B' L' r
      exact ⟨h', Eq.trans e e'⟩
    rw [pn_f q15]
    by_cases q16 : Int32.toInt ((xs (Int32.toNatClampNeg (nI i))) &&& 63) = 16
    · rw [pn_t q16]
      show ∃ h', zm_blk zt_L_law zl_cuts true (some (Lx, xs)) (zC 60) (zm_run zt_L_law zl_cuts true (some (Lx, xs)) (zC 60) f) 3000 710 [some (.ref 2000001), some (.ref 0), some (.ref 1000), some (.int (nI i))] [] (hC I A, hM J B L) = some (some (.int 1), h')
      rw [b_law_710]
      simp only [i1, i2, i3, i4, i5, cond_true, e6]
      obtain ⟨I', A', J', B', L', r, e⟩ := go1 (P_casts (L := L) hR _ _) (fun h => zm_run zt_L_law zl_cuts true (some (Lx, xs)) (zC 60) f 18 [some (.ref 2000001), some (.ref 0), some (.ref 1000), some (.int (nI (i + 6)))] [] h)
      obtain ⟨h', e'⟩ := go f (by omega) I' A' J' B' L' r
      exact ⟨h', Eq.trans e e'⟩
    rw [pn_f q16]
    by_cases q17 : Int32.toInt ((xs (Int32.toNatClampNeg (nI i))) &&& 63) = 17
    · rw [pn_t q17]
      show ∃ h', zm_blk zt_L_law zl_cuts true (some (Lx, xs)) (zC 60) (zm_run zt_L_law zl_cuts true (some (Lx, xs)) (zC 60) f) 3000 743 [some (.ref 2000001), some (.ref 0), some (.ref 1000), some (.int (nI i))] [] (hC I A, hM J B L) = some (some (.int 1), h')
      rw [b_law_743]
      simp only [i1, i2, i3, i4, i5, cond_true, e6]
      obtain ⟨I', A', J', B', L', r, e⟩ := go1 (P_wipe (L := L) hR) (fun h => zm_run zt_L_law zl_cuts true (some (Lx, xs)) (zC 60) f 18 [some (.ref 2000001), some (.ref 0), some (.ref 1000), some (.int (nI (i + 6)))] [] h)
      obtain ⟨h', e'⟩ := go f (by omega) I' A' J' B' L' r
      exact ⟨h', Eq.trans e e'⟩
    rw [pn_f q17]
    by_cases q18 : Int32.toInt ((xs (Int32.toNatClampNeg (nI i))) &&& 63) = 18
    · rw [pn_t q18]
      show ∃ h', zm_blk zt_L_law zl_cuts true (some (Lx, xs)) (zC 60) (zm_run zt_L_law zl_cuts true (some (Lx, xs)) (zC 60) f) 3000 756 [some (.ref 2000001), some (.ref 0), some (.ref 1000), some (.int (nI i))] [] (hC I A, hM J B L) = some (some (.int 1), h')
      rw [b_law_756]
      simp only [i1, i2, i3, i4, i5, cond_true, e6]
      obtain ⟨I', A', J', B', L', r, e⟩ := go1 (P_strip (L := L) hR _) (fun h => zm_run zt_L_law zl_cuts true (some (Lx, xs)) (zC 60) f 18 [some (.ref 2000001), some (.ref 0), some (.ref 1000), some (.int (nI (i + 6)))] [] h)
      obtain ⟨h', e'⟩ := go f (by omega) I' A' J' B' L' r
      exact ⟨h', Eq.trans e e'⟩
    rw [pn_f q18]
    by_cases q19 : Int32.toInt ((xs (Int32.toNatClampNeg (nI i))) &&& 63) = 19
    · rw [pn_t q19]
      show ∃ h', zm_blk zt_L_law zl_cuts true (some (Lx, xs)) (zC 60) (zm_run zt_L_law zl_cuts true (some (Lx, xs)) (zC 60) f) 3000 779 [some (.ref 2000001), some (.ref 0), some (.ref 1000), some (.int (nI i))] [] (hC I A, hM J B L) = some (some (.int 1), h')
      rw [b_law_779]
      simp only [i1, i2, i3, i4, i5, cond_true, e6]
      obtain ⟨I', A', J', B', L', r, e⟩ := go2 (P_ends (L := L) hR _) (fun h => zm_run zt_L_law zl_cuts true (some (Lx, xs)) (zC 60) f 18 [some (.ref 2000001), some (.ref 0), some (.ref 1000), some (.int (nI (i + 6)))] [] h)
      obtain ⟨h', e'⟩ := go f (by omega) I' A' J' B' L' r
      exact ⟨h', Eq.trans e e'⟩
    rw [pn_f q19]
    by_cases q20 : Int32.toInt ((xs (Int32.toNatClampNeg (nI i))) &&& 63) = 20
    · rw [pn_t q20]
      show ∃ h', zm_blk zt_L_law zl_cuts true (some (Lx, xs)) (zC 60) (zm_run zt_L_law zl_cuts true (some (Lx, xs)) (zC 60) f) 3000 803 [some (.ref 2000001), some (.ref 0), some (.ref 1000), some (.int (nI i))] [] (hC I A, hM J B L) = some (some (.int 1), h')
      rw [b_law_803]
      simp only [i1, i2, i3, i4, i5, cond_true, e6]
      obtain ⟨I', A', J', B', L', r, e⟩ := go1 (P_seen (L := L) hR _ _) (fun h => zm_run zt_L_law zl_cuts true (some (Lx, xs)) (zC 60) f 18 [some (.ref 2000001), some (.ref 0), some (.ref 1000), some (.int (nI (i + 6)))] [] h)
      obtain ⟨h', e'⟩ := go f (by omega) I' A' J' B' L' r
      exact ⟨h', Eq.trans e e'⟩
    rw [pn_f q20]
    by_cases q21 : Int32.toInt ((xs (Int32.toNatClampNeg (nI i))) &&& 63) = 21
    · rw [pn_t q21]
      show ∃ h', zm_blk zt_L_law zl_cuts true (some (Lx, xs)) (zC 60) (zm_run zt_L_law zl_cuts true (some (Lx, xs)) (zC 60) f) 3000 836 [some (.ref 2000001), some (.ref 0), some (.ref 1000), some (.int (nI i))] [] (hC I A, hM J B L) = some (some (.int 1), h')
      rw [b_law_836]
      simp only [i1, i2, i3, i4, i5, cond_true, e6]
      obtain ⟨I', A', J', B', L', r, e⟩ := go1 (P_who (L := L) hR) (fun h => zm_run zt_L_law zl_cuts true (some (Lx, xs)) (zC 60) f 18 [some (.ref 2000001), some (.ref 0), some (.ref 1000), some (.int (nI (i + 6)))] [] h)
      obtain ⟨h', e'⟩ := go f (by omega) I' A' J' B' L' r
      exact ⟨h', Eq.trans e e'⟩
    rw [pn_f q21]
    by_cases q22 : Int32.toInt ((xs (Int32.toNatClampNeg (nI i))) &&& 63) = 22
    · rw [pn_t q22]
      show ∃ h', zm_blk zt_L_law zl_cuts true (some (Lx, xs)) (zC 60) (zm_run zt_L_law zl_cuts true (some (Lx, xs)) (zC 60) f) 3000 849 [some (.ref 2000001), some (.ref 0), some (.ref 1000), some (.int (nI i))] [] (hC I A, hM J B L) = some (some (.int 1), h')
      rw [b_law_849]
      simp only [i1, i2, i3, i4, i5, cond_true, e6]
      obtain ⟨I', A', J', B', L', r, e⟩ := go1 (P_were (L := L) hR _ _) (fun h => zm_run zt_L_law zl_cuts true (some (Lx, xs)) (zC 60) f 18 [some (.ref 2000001), some (.ref 0), some (.ref 1000), some (.int (nI (i + 6)))] [] h)
      obtain ⟨h', e'⟩ := go f (by omega) I' A' J' B' L' r
      exact ⟨h', Eq.trans e e'⟩
    rw [pn_f q22]
    by_cases q23 : Int32.toInt ((xs (Int32.toNatClampNeg (nI i))) &&& 63) = 23
    · rw [pn_t q23]
      show ∃ h', zm_blk zt_L_law zl_cuts true (some (Lx, xs)) (zC 60) (zm_run zt_L_law zl_cuts true (some (Lx, xs)) (zC 60) f) 3000 882 [some (.ref 2000001), some (.ref 0), some (.ref 1000), some (.int (nI i))] [] (hC I A, hM J B L) = some (some (.int 1), h')
      rw [b_law_882]
      simp only [i1, i2, i3, i4, i5, cond_true, e6]
      obtain ⟨I', A', J', B', L', r, e⟩ := go1 (P_player (L := L) hR _ _) (fun h => zm_run zt_L_law zl_cuts true (some (Lx, xs)) (zC 60) f 18 [some (.ref 2000001), some (.ref 0), some (.ref 1000), some (.int (nI (i + 6)))] [] h)
      obtain ⟨h', e'⟩ := go f (by omega) I' A' J' B' L' r
      exact ⟨h', Eq.trans e e'⟩
    rw [pn_f q23]
    by_cases q24 : Int32.toInt ((xs (Int32.toNatClampNeg (nI i))) &&& 63) = 24
    · rw [pn_t q24]
      show ∃ h', zm_blk zt_L_law zl_cuts true (some (Lx, xs)) (zC 60) (zm_run zt_L_law zl_cuts true (some (Lx, xs)) (zC 60) f) 3000 915 [some (.ref 2000001), some (.ref 0), some (.ref 1000), some (.int (nI i))] [] (hC I A, hM J B L) = some (some (.int 1), h')
      rw [b_law_915]
      simp only [i1, i2, i3, i4, i5, cond_true, e6]
      obtain ⟨I', A', J', B', L', r, e⟩ := go1 (P_playerOf (L := L) hR _ _) (fun h => zm_run zt_L_law zl_cuts true (some (Lx, xs)) (zC 60) f 18 [some (.ref 2000001), some (.ref 0), some (.ref 1000), some (.int (nI (i + 6)))] [] h)
      obtain ⟨h', e'⟩ := go f (by omega) I' A' J' B' L' r
      exact ⟨h', Eq.trans e e'⟩
    rw [pn_f q24]
    by_cases q25 : Int32.toInt ((xs (Int32.toNatClampNeg (nI i))) &&& 63) = 25
    · rw [pn_t q25]
      show ∃ h', zm_blk zt_L_law zl_cuts true (some (Lx, xs)) (zC 60) (zm_run zt_L_law zl_cuts true (some (Lx, xs)) (zC 60) f) 3000 948 [some (.ref 2000001), some (.ref 0), some (.ref 1000), some (.int (nI i))] [] (hC I A, hM J B L) = some (some (.int 1), h')
      rw [b_law_948]
      simp only [i1, i2, i3, i4, i5, cond_true, e6]
      obtain ⟨I', A', J', B', L', r, e⟩ := go1 (P_pick (L := L) hR _ _ _) (fun h => zm_run zt_L_law zl_cuts true (some (Lx, xs)) (zC 60) f 18 [some (.ref 2000001), some (.ref 0), some (.ref 1000), some (.int (nI (i + 6)))] [] h)
      obtain ⟨h', e'⟩ := go f (by omega) I' A' J' B' L' r
      exact ⟨h', Eq.trans e e'⟩
    rw [pn_f q25]
    by_cases q26 : Int32.toInt ((xs (Int32.toNatClampNeg (nI i))) &&& 63) = 26
    · rw [pn_t q26]
      show ∃ h', zm_blk zt_L_law zl_cuts true (some (Lx, xs)) (zC 60) (zm_run zt_L_law zl_cuts true (some (Lx, xs)) (zC 60) f) 3000 991 [some (.ref 2000001), some (.ref 0), some (.ref 1000), some (.int (nI i))] [] (hC I A, hM J B L) = some (some (.int 1), h')
      rw [b_law_991]
      simp only [i1, i2, i3, i4, i5, cond_true, e6]
      obtain ⟨I', A', J', B', L', r, e⟩ := go2 (P_match (L := L) hR _ _ _) (fun h => zm_run zt_L_law zl_cuts true (some (Lx, xs)) (zC 60) f 18 [some (.ref 2000001), some (.ref 0), some (.ref 1000), some (.int (nI (i + 6)))] [] h)
      obtain ⟨h', e'⟩ := go f (by omega) I' A' J' B' L' r
      exact ⟨h', Eq.trans e e'⟩
    rw [pn_f q26]
    by_cases q27 : Int32.toInt ((xs (Int32.toNatClampNeg (nI i))) &&& 63) = 27
    · rw [pn_t q27]
      show ∃ h', zm_blk zt_L_law zl_cuts true (some (Lx, xs)) (zC 60) (zm_run zt_L_law zl_cuts true (some (Lx, xs)) (zC 60) f) 3000 1035 [some (.ref 2000001), some (.ref 0), some (.ref 1000), some (.int (nI i))] [] (hC I A, hM J B L) = some (some (.int 1), h')
      rw [b_law_1035]
      simp only [i1, i2, i3, i4, i5, cond_true, e6]
      obtain ⟨I', A', J', B', L', r, e⟩ := go1 (P_duel (L := L) hR _ _ _ _) (fun h => zm_run zt_L_law zl_cuts true (some (Lx, xs)) (zC 60) f 18 [some (.ref 2000001), some (.ref 0), some (.ref 1000), some (.int (nI (i + 6)))] [] h)
      obtain ⟨h', e'⟩ := go f (by omega) I' A' J' B' L' r
      exact ⟨h', Eq.trans e e'⟩
    rw [pn_f q27]
    by_cases q28 : Int32.toInt ((xs (Int32.toNatClampNeg (nI i))) &&& 63) = 28
    · rw [pn_t q28]
      show ∃ h', zm_blk zt_L_law zl_cuts true (some (Lx, xs)) (zC 60) (zm_run zt_L_law zl_cuts true (some (Lx, xs)) (zC 60) f) 3000 1088 [some (.ref 2000001), some (.ref 0), some (.ref 1000), some (.int (nI i))] [] (hC I A, hM J B L) = some (some (.int 1), h')
      rw [b_law_1088]
      simp only [i1, i2, i3, i4, i5, cond_true, e6]
      obtain ⟨I', A', J', B', L', r, e⟩ := go2 (P_odds (L := L) hR _ _ _ _ _) (fun h => zm_run zt_L_law zl_cuts true (some (Lx, xs)) (zC 60) f 18 [some (.ref 2000001), some (.ref 0), some (.ref 1000), some (.int (nI (i + 6)))] [] h)
      obtain ⟨h', e'⟩ := go f (by omega) I' A' J' B' L' r
      exact ⟨h', Eq.trans e e'⟩
    rw [pn_f q28]
    by_cases q29 : Int32.toInt ((xs (Int32.toNatClampNeg (nI i))) &&& 63) = 29
    · rw [pn_t q29]
      show ∃ h', zm_blk zt_L_law zl_cuts true (some (Lx, xs)) (zC 60) (zm_run zt_L_law zl_cuts true (some (Lx, xs)) (zC 60) f) 3000 1152 [some (.ref 2000001), some (.ref 0), some (.ref 1000), some (.int (nI i))] [] (hC I A, hM J B L) = some (some (.int 1), h')
      rw [b_law_1152]
      simp only [i1, i2, i3, i4, i5, cond_true, e6]
      obtain ⟨I', A', J', B', L', r, e⟩ := go1 (P_plan (L := L) hR _ _) (fun h => zm_run zt_L_law zl_cuts true (some (Lx, xs)) (zC 60) f 18 [some (.ref 2000001), some (.ref 0), some (.ref 1000), some (.int (nI (i + 6)))] [] h)
      obtain ⟨h', e'⟩ := go f (by omega) I' A' J' B' L' r
      exact ⟨h', Eq.trans e e'⟩
    rw [pn_f q29]
    by_cases q30 : Int32.toInt ((xs (Int32.toNatClampNeg (nI i))) &&& 63) = 30
    · rw [pn_t q30]
      show ∃ h', zm_blk zt_L_law zl_cuts true (some (Lx, xs)) (zC 60) (zm_run zt_L_law zl_cuts true (some (Lx, xs)) (zC 60) f) 3000 1185 [some (.ref 2000001), some (.ref 0), some (.ref 1000), some (.int (nI i))] [] (hC I A, hM J B L) = some (some (.int 1), h')
      rw [b_law_1185]
      simp only [i1, i2, i3, i4, i5, cond_true, e6]
      obtain ⟨I', A', J', B', L', r, e⟩ := go1 (P_behind (L := L) hR _) (fun h => zm_run zt_L_law zl_cuts true (some (Lx, xs)) (zC 60) f 18 [some (.ref 2000001), some (.ref 0), some (.ref 1000), some (.int (nI (i + 6)))] [] h)
      obtain ⟨h', e'⟩ := go f (by omega) I' A' J' B' L' r
      exact ⟨h', Eq.trans e e'⟩
    rw [pn_f q30]
    by_cases q31 : Int32.toInt ((xs (Int32.toNatClampNeg (nI i))) &&& 63) = 31
    · rw [pn_t q31]
      show ∃ h', zm_blk zt_L_law zl_cuts true (some (Lx, xs)) (zC 60) (zm_run zt_L_law zl_cuts true (some (Lx, xs)) (zC 60) f) 3000 1208 [some (.ref 2000001), some (.ref 0), some (.ref 1000), some (.int (nI i))] [] (hC I A, hM J B L) = some (some (.int 1), h')
      rw [b_law_1208]
      simp only [i1, i2, i3, i4, i5, cond_true, e6]
      obtain ⟨I', A', J', B', L', r, e⟩ := go1 (P_write (L := L) hR _) (fun h => zm_run zt_L_law zl_cuts true (some (Lx, xs)) (zC 60) f 18 [some (.ref 2000001), some (.ref 0), some (.ref 1000), some (.int (nI (i + 6)))] [] h)
      obtain ⟨h', e'⟩ := go f (by omega) I' A' J' B' L' r
      exact ⟨h', Eq.trans e e'⟩
    rw [pn_f q31]
    by_cases q32 : Int32.toInt ((xs (Int32.toNatClampNeg (nI i))) &&& 63) = 32
    · rw [pn_t q32]
      show ∃ h', zm_blk zt_L_law zl_cuts true (some (Lx, xs)) (zC 60) (zm_run zt_L_law zl_cuts true (some (Lx, xs)) (zC 60) f) 3000 1231 [some (.ref 2000001), some (.ref 0), some (.ref 1000), some (.int (nI i))] [] (hC I A, hM J B L) = some (some (.int 1), h')
      rw [b_law_1231]
      simp only [i1, i2, i3, i4, i5, cond_true, e6]
      obtain ⟨I', A', J', B', L', r, e⟩ := go1 (P_paper (L := L) hR _) (fun h => zm_run zt_L_law zl_cuts true (some (Lx, xs)) (zC 60) f 18 [some (.ref 2000001), some (.ref 0), some (.ref 1000), some (.int (nI (i + 6)))] [] h)
      obtain ⟨h', e'⟩ := go f (by omega) I' A' J' B' L' r
      exact ⟨h', Eq.trans e e'⟩
    rw [pn_f q32]
    by_cases q33 : Int32.toInt ((xs (Int32.toNatClampNeg (nI i))) &&& 63) = 33
    · rw [pn_t q33]
      show ∃ h', zm_blk zt_L_law zl_cuts true (some (Lx, xs)) (zC 60) (zm_run zt_L_law zl_cuts true (some (Lx, xs)) (zC 60) f) 3000 1254 [some (.ref 2000001), some (.ref 0), some (.ref 1000), some (.int (nI i))] [] (hC I A, hM J B L) = some (some (.int 1), h')
      rw [b_law_1254]
      simp only [i1, i2, i3, i4, i5, cond_true, e6]
      obtain ⟨I', A', J', B', L', r, e⟩ := go1 (P_judge (L := L) hR _) (fun h => zm_run zt_L_law zl_cuts true (some (Lx, xs)) (zC 60) f 18 [some (.ref 2000001), some (.ref 0), some (.ref 1000), some (.int (nI (i + 6)))] [] h)
      obtain ⟨h', e'⟩ := go f (by omega) I' A' J' B' L' r
      exact ⟨h', Eq.trans e e'⟩
    rw [pn_f q33]
    by_cases q34 : Int32.toInt ((xs (Int32.toNatClampNeg (nI i))) &&& 63) = 34
    · rw [pn_t q34]
      show ∃ h', zm_blk zt_L_law zl_cuts true (some (Lx, xs)) (zC 60) (zm_run zt_L_law zl_cuts true (some (Lx, xs)) (zC 60) f) 3000 1277 [some (.ref 2000001), some (.ref 0), some (.ref 1000), some (.int (nI i))] [] (hC I A, hM J B L) = some (some (.int 1), h')
      rw [b_law_1277]
      simp only [i1, i2, i3, i4, i5, cond_true, e6]
      obtain ⟨I', A', J', B', L', r, e⟩ := go1 (P_list (L := L) hR _ _) (fun h => zm_run zt_L_law zl_cuts true (some (Lx, xs)) (zC 60) f 18 [some (.ref 2000001), some (.ref 0), some (.ref 1000), some (.int (nI (i + 6)))] [] h)
      obtain ⟨h', e'⟩ := go f (by omega) I' A' J' B' L' r
      exact ⟨h', Eq.trans e e'⟩
    rw [pn_f q34]
    by_cases q35 : Int32.toInt ((xs (Int32.toNatClampNeg (nI i))) &&& 63) = 35
    · rw [pn_t q35]
      show ∃ h', zm_blk zt_L_law zl_cuts true (some (Lx, xs)) (zC 60) (zm_run zt_L_law zl_cuts true (some (Lx, xs)) (zC 60) f) 3000 1310 [some (.ref 2000001), some (.ref 0), some (.ref 1000), some (.int (nI i))] [] (hC I A, hM J B L) = some (some (.int 1), h')
      rw [b_law_1310]
      simp only [i1, i2, i3, i4, i5, cond_true, e6]
      obtain ⟨I', A', J', B', L', r, e⟩ := go1 (P_put (L := L) hR _ _ _) (fun h => zm_run zt_L_law zl_cuts true (some (Lx, xs)) (zC 60) f 18 [some (.ref 2000001), some (.ref 0), some (.ref 1000), some (.int (nI (i + 6)))] [] h)
      obtain ⟨h', e'⟩ := go f (by omega) I' A' J' B' L' r
      exact ⟨h', Eq.trans e e'⟩
    rw [pn_f q35]
    by_cases q36 : Int32.toInt ((xs (Int32.toNatClampNeg (nI i))) &&& 63) = 36
    · rw [pn_t q36]
      show ∃ h', zm_blk zt_L_law zl_cuts true (some (Lx, xs)) (zC 60) (zm_run zt_L_law zl_cuts true (some (Lx, xs)) (zC 60) f) 3000 1353 [some (.ref 2000001), some (.ref 0), some (.ref 1000), some (.int (nI i))] [] (hC I A, hM J B L) = some (some (.int 1), h')
      rw [b_law_1353]
      simp only [i1, i2, i3, i4, i5, cond_true, e6]
      obtain ⟨I', A', J', B', L', r, e⟩ := go2 (P_get (L := L) hR _ _) (fun h => zm_run zt_L_law zl_cuts true (some (Lx, xs)) (zC 60) f 18 [some (.ref 2000001), some (.ref 0), some (.ref 1000), some (.int (nI (i + 6)))] [] h)
      obtain ⟨h', e'⟩ := go f (by omega) I' A' J' B' L' r
      exact ⟨h', Eq.trans e e'⟩
    rw [pn_f q36]
    by_cases q37 : Int32.toInt ((xs (Int32.toNatClampNeg (nI i))) &&& 63) = 37
    · rw [pn_t q37]
      show ∃ h', zm_blk zt_L_law zl_cuts true (some (Lx, xs)) (zC 60) (zm_run zt_L_law zl_cuts true (some (Lx, xs)) (zC 60) f) 3000 1387 [some (.ref 2000001), some (.ref 0), some (.ref 1000), some (.int (nI i))] [] (hC I A, hM J B L) = some (some (.int 1), h')
      rw [b_law_1387]
      simp only [i1, i2, i3, i4, i5, cond_true, e6]
      obtain ⟨I', A', J', B', L', r, e⟩ := go1 (P_image (L := L) hR) (fun h => zm_run zt_L_law zl_cuts true (some (Lx, xs)) (zC 60) f 18 [some (.ref 2000001), some (.ref 0), some (.ref 1000), some (.int (nI (i + 6)))] [] h)
      obtain ⟨h', e'⟩ := go f (by omega) I' A' J' B' L' r
      exact ⟨h', Eq.trans e e'⟩
    rw [pn_f q37]
    by_cases q38 : Int32.toInt ((xs (Int32.toNatClampNeg (nI i))) &&& 63) = 38
    · rw [pn_t q38]
      show ∃ h', zm_blk zt_L_law zl_cuts true (some (Lx, xs)) (zC 60) (zm_run zt_L_law zl_cuts true (some (Lx, xs)) (zC 60) f) 3000 1400 [some (.ref 2000001), some (.ref 0), some (.ref 1000), some (.int (nI i))] [] (hC I A, hM J B L) = some (some (.int 1), h')
      rw [b_law_1400]
      simp only [i1, i2, i3, i4, i5, cond_true, e6]
      obtain ⟨I', A', J', B', L', r, e⟩ := go1 (P_undo (L := L) hR) (fun h => zm_run zt_L_law zl_cuts true (some (Lx, xs)) (zC 60) f 18 [some (.ref 2000001), some (.ref 0), some (.ref 1000), some (.int (nI (i + 6)))] [] h)
      obtain ⟨h', e'⟩ := go f (by omega) I' A' J' B' L' r
      exact ⟨h', Eq.trans e e'⟩
    rw [pn_f q38]
    by_cases q39 : Int32.toInt ((xs (Int32.toNatClampNeg (nI i))) &&& 63) = 39
    · rw [pn_t q39]
      show ∃ h', zm_blk zt_L_law zl_cuts true (some (Lx, xs)) (zC 60) (zm_run zt_L_law zl_cuts true (some (Lx, xs)) (zC 60) f) 3000 1413 [some (.ref 2000001), some (.ref 0), some (.ref 1000), some (.int (nI i))] [] (hC I A, hM J B L) = some (some (.int 1), h')
      rw [b_law_1413]
      simp only [i1, i2, i3, i4, i5, cond_true, e6]
      obtain ⟨I', A', J', B', L', r, e⟩ := go1 (P_count (L := L) hR _) (fun h => zm_run zt_L_law zl_cuts true (some (Lx, xs)) (zC 60) f 18 [some (.ref 2000001), some (.ref 0), some (.ref 1000), some (.int (nI (i + 6)))] [] h)
      obtain ⟨h', e'⟩ := go f (by omega) I' A' J' B' L' r
      exact ⟨h', Eq.trans e e'⟩
    rw [pn_f q39]
    rw [e6]
    exact go (f + 1) (by omega) I A J B L hR
theorem law_pure (Lx : Nat) (xs : Nat → Int32) (hL : Lx ≤ 3072) : ∃ h', zm_run zt_L_law zl_cuts true (some (Lx, xs)) (zC 60) 10000000 18 [some (.ref 2000001), some (.ref 0), some (.ref 1000), some (.int 0)] [] (hC I0 A0, hM J0 B0 L0) = some (some (.int 1), h') := law_loop Lx xs hL 3073 0 10000000 I0 A0 J0 B0 L0 (by omega) (by omega) (by omega) Rel_0
theorem whole_start {p : Program} {e : Env} {s : State} {m : MethodId} {below : List Frame} {meth : Method} {c : Code} (l : Launch) (hflags : l.flags = flags0) {b L : Nat} {xs : Nat → Int32} (hL : L ≤ 3072) (C0 : lw_At p s m meth c b L xs) : W p l e room_1 s m #[Value.ref b] below meth c s.heap [] 0 0 (lw_Z below #[Value.ref b] s) (entryFrame m ([Value.ref b] : List Value).toArray 4) := start_open l hL C0 (law_pure L xs hL)
