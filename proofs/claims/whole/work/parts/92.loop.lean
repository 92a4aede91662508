/-! printed by wip/whole/loopgen.py: the law's loop comes to its end with 1 -/
theorem lg_self (a : Int64) : lg_cmp a a = 0 := by
  unfold lg_cmp
  simp [Int64.lt_irrefl]
theorem Rel_0 : Rel I0 A0 J0 B0 := by
  refine ⟨⟨(2, (0, fun _ => 0), (0, fun _ => 0), (0, fun _ => 0, fun _ => 0), (0, fun _ => 0, fun _ => 0)), ⟨Or.inl rfl, ⟨by decide, fun i hi => by omega⟩, ⟨by decide, fun i hi => by omega⟩, ⟨by decide, fun i hi => by omega⟩, ⟨by decide, fun i hi => by omega⟩⟩, ⟨rfl, ⟨rfl, fun i hi => by omega⟩, ⟨rfl, fun i hi => by omega⟩, ⟨rfl, fun i hi => by omega⟩, ⟨rfl, fun i hi => by omega⟩⟩, ⟨rfl, ⟨rfl, fun i hi => by omega⟩, ⟨rfl, fun i hi => by omega⟩, ⟨rfl, fun i hi => by omega⟩, ⟨rfl, fun i hi => by omega⟩⟩⟩, Or.inl ⟨rfl, rfl⟩, ⟨0, fun _ => 0, by decide, rfl, rfl, fun i hi => by omega⟩, ⟨0, by decide, rfl, rfl, fun i hi => by omega⟩, ⟨⟨Or.inl ⟨rfl, rfl⟩, fun i _ => rfl⟩, ⟨Or.inl ⟨rfl, rfl⟩, fun i _ => rfl⟩, ⟨Or.inl ⟨rfl, rfl⟩, fun i _ => rfl⟩, ⟨Or.inl ⟨rfl, rfl⟩, fun i _ => rfl⟩⟩⟩
set_option maxHeartbeats 20000000 in
set_option maxRecDepth 100000 in
theorem law_loop (Lx : Nat) (xs : Nat → Int32) (hL : Lx ≤ 3072) : ∀ (n i f : Nat) (I : Nat → Int32) (A : Nat → Nat → Int32) (J : Nat → Int32) (B : Nat → Nat → Int32) (L : Nat → Nat → Int64), Lx < i + 6 * n → i ≤ Lx + 6 → 20 * n < f → Rel I A J B → ∃ h', zm_run zt_L_law zl_cuts true (some (Lx, xs)) (zC 60) f 18 [some (.ref 2000001), some (.ref 0), some (.ref 1000), some (.int (nI i))] [] (hC I A, hM J B L) = some (some (.int 1), h') := by
  intro n
  induction n with
  | zero =>
    intro i f I A J B L hi hi2 hf hR
    obtain ⟨f, rfl⟩ : ∃ e, f = e + 1 := ⟨f - 1, by omega⟩
    refine ⟨(hC I A, hM J B L), ?_⟩
    have lt : Int32.ofNat Lx - 6 < nI i := by
      rw [Int32.lt_iff_toInt_lt, show Int32.ofNat Lx - 6 = nI Lx - nI 6 from rfl, pk_sub_toInt (by omega) (by decide), nI_toInt (by omega)]
      omega
    rw [l_law_18, pn_t lt]
  | succ n ih =>
    intro i f I A J B L hi hi2 hf hR
    obtain ⟨f, rfl⟩ : ∃ e, f = e + 1 + 1 + 1 + 1 + 1 + 1 + 1 + 1 + 1 + 1 + 1 + 1 + 1 + 1 + 1 + 1 + 1 + 1 + 1 + 1 := ⟨f - 20, by omega⟩
    rw [l_law_18]
    have ls : (Int32.ofNat Lx - 6).toInt = (Lx : Int) - 6 := by
      rw [show Int32.ofNat Lx - 6 = nI Lx - nI 6 from rfl]
      exact pk_sub_toInt (by omega) (by decide)
    by_cases lt : Int32.ofNat Lx - 6 < nI i
    · exact ⟨(hC I A, hM J B L), by rw [pn_t lt]⟩
    rw [pn_f lt]
    rw [Int32.lt_iff_toInt_lt, ls, nI_toInt (by omega)] at lt
    have i0 : zm_in (nI i) Lx = true := pn_in (by omega) (by omega)
    have i1 : zm_in (nI i + 1) Lx = true := by rw [show (1 : Int32) = nI 1 from rfl, nI_add]; exact pn_in (by omega) (by omega)
    have i2 : zm_in (nI i + 2) Lx = true := by rw [show (2 : Int32) = nI 2 from rfl, nI_add]; exact pn_in (by omega) (by omega)
    have i3 : zm_in (nI i + 3) Lx = true := by rw [show (3 : Int32) = nI 3 from rfl, nI_add]; exact pn_in (by omega) (by omega)
    have i4 : zm_in (nI i + 4) Lx = true := by rw [show (4 : Int32) = nI 4 from rfl, nI_add]; exact pn_in (by omega) (by omega)
    have i5 : zm_in (nI i + 5) Lx = true := by rw [show (5 : Int32) = nI 5 from rfl, nI_add]; exact pn_in (by omega) (by omega)
    have e6 : nI i + 6 = nI (i + 6) := by rw [show (6 : Int32) = nI 6 from rfl, nI_add]
    have go : ∀ f', 20 * n < f' → ∀ (I : Nat → Int32) (A : Nat → Nat → Int32) (J : Nat → Int32) (B : Nat → Nat → Int32) (L : Nat → Nat → Int64), Rel I A J B → ∃ h', zm_run zt_L_law zl_cuts true (some (Lx, xs)) (zC 60) f' 18 [some (.ref 2000001), some (.ref 0), some (.ref 1000), some (.int (nI (i + 6)))] [] (hC I A, hM J B L) = some (some (.int 1), h') := fun f' hf' I A J B L r => ih (i + 6) f' I A J B L (by omega) (by omega) hf' r
    rw [i0, cond_true]
    by_cases q0 : Int32.toInt ((xs (Int32.toNatClampNeg (nI i))) &&& 63) = 0
    · rw [pn_t q0]
      obtain ⟨v, I', A', J', B', L', e1, e2, r⟩ := P_sides (L := L) hR (xs (Int32.toNatClampNeg (nI i + 1)))
      simp only [l_law_208, l_law_214, l_law_217, l_law_223, l_law_226, i1, i2, i3, i4, i5, cond_true, e1, e2, pn_c1, pn_c2, lg_self, eq_self, decide_true, e6]
      exact go _ (by omega) I' A' J' B' L' r
    rw [pn_f q0]
    by_cases q1 : Int32.toInt ((xs (Int32.toNatClampNeg (nI i))) &&& 63) = 1
    · rw [pn_t q1]
      obtain ⟨v, I', A', J', B', L', e1, e2, r⟩ := P_feed (L := L) hR (xs (Int32.toNatClampNeg (nI i + 1)))
      simp only [l_law_231, l_law_237, l_law_240, l_law_246, l_law_249, i1, i2, i3, i4, i5, cond_true, e1, e2, pn_c1, pn_c2, lg_self, eq_self, decide_true, e6]
      exact go _ (by omega) I' A' J' B' L' r
    rw [pn_f q1]
    by_cases q2 : Int32.toInt ((xs (Int32.toNatClampNeg (nI i))) &&& 63) = 2
    · rw [pn_t q2]
      obtain ⟨v, I', A', J', B', L', e1, e2, r⟩ := P_words (L := L) hR
      simp only [l_law_254, l_law_258, l_law_262, i1, i2, i3, i4, i5, cond_true, e1, e2, pn_c1, pn_c2, lg_self, eq_self, decide_true, e6]
      exact go _ (by omega) I' A' J' B' L' r
    rw [pn_f q2]
    by_cases q3 : Int32.toInt ((xs (Int32.toNatClampNeg (nI i))) &&& 63) = 3
    · rw [pn_t q3]
      obtain ⟨v, I', A', J', B', L', e1, e2, r⟩ := P_becomes (L := L) hR (xs (Int32.toNatClampNeg (nI i + 1))) (xs (Int32.toNatClampNeg (nI i + 2)))
      simp only [l_law_267, l_law_273, l_law_278, l_law_281, l_law_287, l_law_292, l_law_295, i1, i2, i3, i4, i5, cond_true, e1, e2, pn_c1, pn_c2, lg_self, eq_self, decide_true, e6]
      exact go _ (by omega) I' A' J' B' L' r
    rw [pn_f q3]
    by_cases q4 : Int32.toInt ((xs (Int32.toNatClampNeg (nI i))) &&& 63) = 4
    · rw [pn_t q4]
      obtain ⟨v, I', A', J', B', L', e1, e2, r⟩ := P_of (L := L) hR (xs (Int32.toNatClampNeg (nI i + 1))) (xs (Int32.toNatClampNeg (nI i + 2)))
      simp only [l_law_300, l_law_306, l_law_311, l_law_314, l_law_320, l_law_325, l_law_328, i1, i2, i3, i4, i5, cond_true, e1, e2, pn_c1, pn_c2, lg_self, eq_self, decide_true, e6]
      exact go _ (by omega) I' A' J' B' L' r
    rw [pn_f q4]
    by_cases q5 : Int32.toInt ((xs (Int32.toNatClampNeg (nI i))) &&& 63) = 5
    · rw [pn_t q5]
      obtain ⟨v, I', A', J', B', L', e1, e2, r⟩ := P_overlaps (L := L) hR (xs (Int32.toNatClampNeg (nI i + 1))) (xs (Int32.toNatClampNeg (nI i + 2)))
      simp only [l_law_333, l_law_339, l_law_344, l_law_347, l_law_353, l_law_358, l_law_361, i1, i2, i3, i4, i5, cond_true, e1, e2, pn_c1, pn_c2, lg_self, eq_self, decide_true, e6]
      exact go _ (by omega) I' A' J' B' L' r
    rw [pn_f q5]
    by_cases q6 : Int32.toInt ((xs (Int32.toNatClampNeg (nI i))) &&& 63) = 6
    · rw [pn_t q6]
      obtain ⟨v, I', A', J', B', L', e1, e2, r⟩ := P_number (L := L) hR (xs (Int32.toNatClampNeg (nI i + 1))) (xs (Int32.toNatClampNeg (nI i + 2)))
      simp only [l_law_366, l_law_372, l_law_377, l_law_380, l_law_386, l_law_391, l_law_394, i1, i2, i3, i4, i5, cond_true, e1, e2, pn_c1, pn_c2, lg_self, eq_self, decide_true, e6]
      exact go _ (by omega) I' A' J' B' L' r
    rw [pn_f q6]
    by_cases q7 : Int32.toInt ((xs (Int32.toNatClampNeg (nI i))) &&& 63) = 7
    · rw [pn_t q7]
      obtain ⟨v, I', A', J', B', L', e1, e2, r⟩ := P_isIn (L := L) hR (xs (Int32.toNatClampNeg (nI i + 1))) (xs (Int32.toNatClampNeg (nI i + 2)))
      simp only [l_law_399, l_law_405, l_law_410, l_law_413, l_law_419, l_law_424, l_law_427, i1, i2, i3, i4, i5, cond_true, e1, e2, pn_c1, pn_c2, lg_self, eq_self, decide_true, e6]
      exact go _ (by omega) I' A' J' B' L' r
    rw [pn_f q7]
    by_cases q8 : Int32.toInt ((xs (Int32.toNatClampNeg (nI i))) &&& 63) = 8
    · rw [pn_t q8]
      obtain ⟨v, I', A', J', B', L', e1, e2, r⟩ := P_chance (L := L) hR (xs (Int32.toNatClampNeg (nI i + 1))) (xs (Int32.toNatClampNeg (nI i + 2))) (xs (Int32.toNatClampNeg (nI i + 3)))
      simp only [l_law_432, l_law_438, l_law_443, l_law_448, l_law_451, l_law_457, l_law_462, l_law_467, l_law_470, i1, i2, i3, i4, i5, cond_true, e1, e2, pn_c1, pn_c2, lg_self, eq_self, decide_true, e6]
      exact go _ (by omega) I' A' J' B' L' r
    rw [pn_f q8]
    by_cases q9 : Int32.toInt ((xs (Int32.toNatClampNeg (nI i))) &&& 63) = 9
    · rw [pn_t q9]
      obtain ⟨v, I', A', J', B', L', e1, e2, r⟩ := P_answered (L := L) hR (xs (Int32.toNatClampNeg (nI i + 1))) (xs (Int32.toNatClampNeg (nI i + 2)))
      simp only [l_law_476, l_law_482, l_law_487, l_law_490, l_law_496, l_law_501, l_law_504, i1, i2, i3, i4, i5, cond_true, e1, e2, pn_c1, pn_c2, lg_self, eq_self, decide_true, e6]
      exact go _ (by omega) I' A' J' B' L' r
    rw [pn_f q9]
    by_cases q10 : Int32.toInt ((xs (Int32.toNatClampNeg (nI i))) &&& 63) = 10
    · rw [pn_t q10]
      obtain ⟨v, I', A', J', B', L', e1, e2, r⟩ := P_trail (L := L) hR (xs (Int32.toNatClampNeg (nI i + 1))) (xs (Int32.toNatClampNeg (nI i + 2)))
      simp only [l_law_510, l_law_516, l_law_521, l_law_524, l_law_530, l_law_535, l_law_538, i1, i2, i3, i4, i5, cond_true, e1, e2, pn_c1, pn_c2, lg_self, eq_self, decide_true, e6]
      exact go _ (by omega) I' A' J' B' L' r
    rw [pn_f q10]
    by_cases q11 : Int32.toInt ((xs (Int32.toNatClampNeg (nI i))) &&& 63) = 11
    · rw [pn_t q11]
      obtain ⟨v, I', A', J', B', L', e1, e2, r⟩ := P_ring (L := L) hR (xs (Int32.toNatClampNeg (nI i + 1)))
      simp only [l_law_543, l_law_549, l_law_552, l_law_558, l_law_561, i1, i2, i3, i4, i5, cond_true, e1, e2, pn_c1, pn_c2, lg_self, eq_self, decide_true, e6]
      exact go _ (by omega) I' A' J' B' L' r
    rw [pn_f q11]
    by_cases q12 : Int32.toInt ((xs (Int32.toNatClampNeg (nI i))) &&& 63) = 12
    · rw [pn_t q12]
      obtain ⟨v, I', A', J', B', L', e1, e2, r⟩ := P_field (L := L) hR (xs (Int32.toNatClampNeg (nI i + 1))) (xs (Int32.toNatClampNeg (nI i + 2))) (xs (Int32.toNatClampNeg (nI i + 3)))
      simp only [l_law_566, l_law_572, l_law_577, l_law_582, l_law_585, l_law_591, l_law_596, l_law_601, l_law_604, i1, i2, i3, i4, i5, cond_true, e1, e2, pn_c1, pn_c2, lg_self, eq_self, decide_true, e6]
      exact go _ (by omega) I' A' J' B' L' r
    rw [pn_f q12]
    by_cases q13 : Int32.toInt ((xs (Int32.toNatClampNeg (nI i))) &&& 63) = 13
    · rw [pn_t q13]
      obtain ⟨v, I', A', J', B', L', e1, e2, r⟩ := P_mean (L := L) hR (xs (Int32.toNatClampNeg (nI i + 1))) (xs (Int32.toNatClampNeg (nI i + 2)))
      simp only [l_law_610, l_law_616, l_law_621, l_law_624, l_law_630, l_law_635, l_law_638, i1, i2, i3, i4, i5, cond_true, e1, e2, pn_c1, pn_c2, lg_self, eq_self, decide_true, e6]
      exact go _ (by omega) I' A' J' B' L' r
    rw [pn_f q13]
    by_cases q14 : Int32.toInt ((xs (Int32.toNatClampNeg (nI i))) &&& 63) = 14
    · rw [pn_t q14]
      obtain ⟨v, I', A', J', B', L', e1, e2, r⟩ := P_within (L := L) hR (xs (Int32.toNatClampNeg (nI i + 1))) (xs (Int32.toNatClampNeg (nI i + 2))) (xs (Int32.toNatClampNeg (nI i + 3)))
      simp only [l_law_644, l_law_650, l_law_655, l_law_660, l_law_663, l_law_669, l_law_674, l_law_679, l_law_682, i1, i2, i3, i4, i5, cond_true, e1, e2, pn_c1, pn_c2, lg_self, eq_self, decide_true, e6]
      exact go _ (by omega) I' A' J' B' L' r
    rw [pn_f q14]
    by_cases q15 : Int32.toInt ((xs (Int32.toNatClampNeg (nI i))) &&& 63) = 15
    · rw [pn_t q15]
      obtain ⟨v, I', A', J', B', L', e1, e2, r⟩ := P_cast (L := L) hR (xs (Int32.toNatClampNeg (nI i + 1)))
      simp only [l_law_687, l_law_693, l_law_696, l_law_702, l_law_705, i1, i2, i3, i4, i5, cond_true, e1, e2, pn_c1, pn_c2, lg_self, eq_self, decide_true, e6]
      exact go _ (by omega) I' A' J' B' L' r
    rw [pn_f q15]
    by_cases q16 : Int32.toInt ((xs (Int32.toNatClampNeg (nI i))) &&& 63) = 16
    · rw [pn_t q16]
      obtain ⟨v, I', A', J', B', L', e1, e2, r⟩ := P_casts (L := L) hR (xs (Int32.toNatClampNeg (nI i + 1))) (xs (Int32.toNatClampNeg (nI i + 2)))
      simp only [l_law_710, l_law_716, l_law_721, l_law_724, l_law_730, l_law_735, l_law_738, i1, i2, i3, i4, i5, cond_true, e1, e2, pn_c1, pn_c2, lg_self, eq_self, decide_true, e6]
      exact go _ (by omega) I' A' J' B' L' r
    rw [pn_f q16]
    by_cases q17 : Int32.toInt ((xs (Int32.toNatClampNeg (nI i))) &&& 63) = 17
    · rw [pn_t q17]
      obtain ⟨v, I', A', J', B', L', e1, e2, r⟩ := P_wipe (L := L) hR
      simp only [l_law_743, l_law_747, l_law_751, i1, i2, i3, i4, i5, cond_true, e1, e2, pn_c1, pn_c2, lg_self, eq_self, decide_true, e6]
      exact go _ (by omega) I' A' J' B' L' r
    rw [pn_f q17]
    by_cases q18 : Int32.toInt ((xs (Int32.toNatClampNeg (nI i))) &&& 63) = 18
    · rw [pn_t q18]
      obtain ⟨v, I', A', J', B', L', e1, e2, r⟩ := P_strip (L := L) hR (xs (Int32.toNatClampNeg (nI i + 1)))
      simp only [l_law_756, l_law_762, l_law_765, l_law_771, l_law_774, i1, i2, i3, i4, i5, cond_true, e1, e2, pn_c1, pn_c2, lg_self, eq_self, decide_true, e6]
      exact go _ (by omega) I' A' J' B' L' r
    rw [pn_f q18]
    by_cases q19 : Int32.toInt ((xs (Int32.toNatClampNeg (nI i))) &&& 63) = 19
    · rw [pn_t q19]
      obtain ⟨v, I', A', J', B', L', e1, e2, r⟩ := P_ends (L := L) hR (xs (Int32.toNatClampNeg (nI i + 1)))
      simp only [l_law_779, l_law_785, l_law_788, l_law_794, l_law_797, i1, i2, i3, i4, i5, cond_true, e1, e2, pn_c1, pn_c2, lg_self, eq_self, decide_true, e6]
      exact go _ (by omega) I' A' J' B' L' r
    rw [pn_f q19]
    by_cases q20 : Int32.toInt ((xs (Int32.toNatClampNeg (nI i))) &&& 63) = 20
    · rw [pn_t q20]
      obtain ⟨v, I', A', J', B', L', e1, e2, r⟩ := P_seen (L := L) hR (xs (Int32.toNatClampNeg (nI i + 1))) (xs (Int32.toNatClampNeg (nI i + 2)))
      simp only [l_law_803, l_law_809, l_law_814, l_law_817, l_law_823, l_law_828, l_law_831, i1, i2, i3, i4, i5, cond_true, e1, e2, pn_c1, pn_c2, lg_self, eq_self, decide_true, e6]
      exact go _ (by omega) I' A' J' B' L' r
    rw [pn_f q20]
    by_cases q21 : Int32.toInt ((xs (Int32.toNatClampNeg (nI i))) &&& 63) = 21
    · rw [pn_t q21]
      obtain ⟨v, I', A', J', B', L', e1, e2, r⟩ := P_who (L := L) hR
      simp only [l_law_836, l_law_840, l_law_844, i1, i2, i3, i4, i5, cond_true, e1, e2, pn_c1, pn_c2, lg_self, eq_self, decide_true, e6]
      exact go _ (by omega) I' A' J' B' L' r
    rw [pn_f q21]
    by_cases q22 : Int32.toInt ((xs (Int32.toNatClampNeg (nI i))) &&& 63) = 22
    · rw [pn_t q22]
      obtain ⟨v, I', A', J', B', L', e1, e2, r⟩ := P_were (L := L) hR (xs (Int32.toNatClampNeg (nI i + 1))) (xs (Int32.toNatClampNeg (nI i + 2)))
      simp only [l_law_849, l_law_855, l_law_860, l_law_863, l_law_869, l_law_874, l_law_877, i1, i2, i3, i4, i5, cond_true, e1, e2, pn_c1, pn_c2, lg_self, eq_self, decide_true, e6]
      exact go _ (by omega) I' A' J' B' L' r
    rw [pn_f q22]
    by_cases q23 : Int32.toInt ((xs (Int32.toNatClampNeg (nI i))) &&& 63) = 23
    · rw [pn_t q23]
      obtain ⟨v, I', A', J', B', L', e1, e2, r⟩ := P_player (L := L) hR (xs (Int32.toNatClampNeg (nI i + 1))) (xs (Int32.toNatClampNeg (nI i + 2)))
      simp only [l_law_882, l_law_888, l_law_893, l_law_896, l_law_902, l_law_907, l_law_910, i1, i2, i3, i4, i5, cond_true, e1, e2, pn_c1, pn_c2, lg_self, eq_self, decide_true, e6]
      exact go _ (by omega) I' A' J' B' L' r
    rw [pn_f q23]
    by_cases q24 : Int32.toInt ((xs (Int32.toNatClampNeg (nI i))) &&& 63) = 24
    · rw [pn_t q24]
      obtain ⟨v, I', A', J', B', L', e1, e2, r⟩ := P_playerOf (L := L) hR (xs (Int32.toNatClampNeg (nI i + 1))) (xs (Int32.toNatClampNeg (nI i + 2)))
      simp only [l_law_915, l_law_921, l_law_926, l_law_929, l_law_935, l_law_940, l_law_943, i1, i2, i3, i4, i5, cond_true, e1, e2, pn_c1, pn_c2, lg_self, eq_self, decide_true, e6]
      exact go _ (by omega) I' A' J' B' L' r
    rw [pn_f q24]
    by_cases q25 : Int32.toInt ((xs (Int32.toNatClampNeg (nI i))) &&& 63) = 25
    · rw [pn_t q25]
      obtain ⟨v, I', A', J', B', L', e1, e2, r⟩ := P_pick (L := L) hR (xs (Int32.toNatClampNeg (nI i + 1))) (xs (Int32.toNatClampNeg (nI i + 2))) (xs (Int32.toNatClampNeg (nI i + 3)))
      simp only [l_law_948, l_law_954, l_law_959, l_law_964, l_law_967, l_law_973, l_law_978, l_law_983, l_law_986, i1, i2, i3, i4, i5, cond_true, e1, e2, pn_c1, pn_c2, lg_self, eq_self, decide_true, e6]
      exact go _ (by omega) I' A' J' B' L' r
    rw [pn_f q25]
    by_cases q26 : Int32.toInt ((xs (Int32.toNatClampNeg (nI i))) &&& 63) = 26
    · rw [pn_t q26]
      obtain ⟨v, I', A', J', B', L', e1, e2, r⟩ := P_match (L := L) hR (xs (Int32.toNatClampNeg (nI i + 1))) (xs (Int32.toNatClampNeg (nI i + 2))) (xs (Int32.toNatClampNeg (nI i + 3)))
      simp only [l_law_991, l_law_997, l_law_1002, l_law_1007, l_law_1010, l_law_1016, l_law_1021, l_law_1026, l_law_1029, i1, i2, i3, i4, i5, cond_true, e1, e2, pn_c1, pn_c2, lg_self, eq_self, decide_true, e6]
      exact go _ (by omega) I' A' J' B' L' r
    rw [pn_f q26]
    by_cases q27 : Int32.toInt ((xs (Int32.toNatClampNeg (nI i))) &&& 63) = 27
    · rw [pn_t q27]
      obtain ⟨v, I', A', J', B', L', e1, e2, r⟩ := P_duel (L := L) hR (xs (Int32.toNatClampNeg (nI i + 1))) (xs (Int32.toNatClampNeg (nI i + 2))) (xs (Int32.toNatClampNeg (nI i + 3))) (xs (Int32.toNatClampNeg (nI i + 4)))
      simp only [l_law_1035, l_law_1041, l_law_1046, l_law_1051, l_law_1056, l_law_1059, l_law_1065, l_law_1070, l_law_1075, l_law_1080, l_law_1083, i1, i2, i3, i4, i5, cond_true, e1, e2, pn_c1, pn_c2, lg_self, eq_self, decide_true, e6]
      exact go _ (by omega) I' A' J' B' L' r
    rw [pn_f q27]
    by_cases q28 : Int32.toInt ((xs (Int32.toNatClampNeg (nI i))) &&& 63) = 28
    · rw [pn_t q28]
      obtain ⟨v, I', A', J', B', L', e1, e2, r⟩ := P_odds (L := L) hR (xs (Int32.toNatClampNeg (nI i + 1))) (xs (Int32.toNatClampNeg (nI i + 2))) (xs (Int32.toNatClampNeg (nI i + 3))) (xs (Int32.toNatClampNeg (nI i + 4))) (xs (Int32.toNatClampNeg (nI i + 5)))
      simp only [l_law_1088, l_law_1094, l_law_1099, l_law_1104, l_law_1109, l_law_1114, l_law_1117, l_law_1123, l_law_1128, l_law_1133, l_law_1138, l_law_1143, l_law_1146, i1, i2, i3, i4, i5, cond_true, e1, e2, pn_c1, pn_c2, lg_self, eq_self, decide_true, e6]
      exact go _ (by omega) I' A' J' B' L' r
    rw [pn_f q28]
    by_cases q29 : Int32.toInt ((xs (Int32.toNatClampNeg (nI i))) &&& 63) = 29
    · rw [pn_t q29]
      obtain ⟨v, I', A', J', B', L', e1, e2, r⟩ := P_plan (L := L) hR (xs (Int32.toNatClampNeg (nI i + 1))) (xs (Int32.toNatClampNeg (nI i + 2)))
      simp only [l_law_1152, l_law_1158, l_law_1163, l_law_1166, l_law_1172, l_law_1177, l_law_1180, i1, i2, i3, i4, i5, cond_true, e1, e2, pn_c1, pn_c2, lg_self, eq_self, decide_true, e6]
      exact go _ (by omega) I' A' J' B' L' r
    rw [pn_f q29]
    by_cases q30 : Int32.toInt ((xs (Int32.toNatClampNeg (nI i))) &&& 63) = 30
    · rw [pn_t q30]
      obtain ⟨v, I', A', J', B', L', e1, e2, r⟩ := P_behind (L := L) hR (xs (Int32.toNatClampNeg (nI i + 1)))
      simp only [l_law_1185, l_law_1191, l_law_1194, l_law_1200, l_law_1203, i1, i2, i3, i4, i5, cond_true, e1, e2, pn_c1, pn_c2, lg_self, eq_self, decide_true, e6]
      exact go _ (by omega) I' A' J' B' L' r
    rw [pn_f q30]
    by_cases q31 : Int32.toInt ((xs (Int32.toNatClampNeg (nI i))) &&& 63) = 31
    · rw [pn_t q31]
      obtain ⟨v, I', A', J', B', L', e1, e2, r⟩ := P_write (L := L) hR (xs (Int32.toNatClampNeg (nI i + 1)))
      simp only [l_law_1208, l_law_1214, l_law_1217, l_law_1223, l_law_1226, i1, i2, i3, i4, i5, cond_true, e1, e2, pn_c1, pn_c2, lg_self, eq_self, decide_true, e6]
      exact go _ (by omega) I' A' J' B' L' r
    rw [pn_f q31]
    by_cases q32 : Int32.toInt ((xs (Int32.toNatClampNeg (nI i))) &&& 63) = 32
    · rw [pn_t q32]
      obtain ⟨v, I', A', J', B', L', e1, e2, r⟩ := P_paper (L := L) hR (xs (Int32.toNatClampNeg (nI i + 1)))
      simp only [l_law_1231, l_law_1237, l_law_1240, l_law_1246, l_law_1249, i1, i2, i3, i4, i5, cond_true, e1, e2, pn_c1, pn_c2, lg_self, eq_self, decide_true, e6]
      exact go _ (by omega) I' A' J' B' L' r
    rw [pn_f q32]
    by_cases q33 : Int32.toInt ((xs (Int32.toNatClampNeg (nI i))) &&& 63) = 33
    · rw [pn_t q33]
      obtain ⟨v, I', A', J', B', L', e1, e2, r⟩ := P_judge (L := L) hR (xs (Int32.toNatClampNeg (nI i + 1)))
      simp only [l_law_1254, l_law_1260, l_law_1263, l_law_1269, l_law_1272, i1, i2, i3, i4, i5, cond_true, e1, e2, pn_c1, pn_c2, lg_self, eq_self, decide_true, e6]
      exact go _ (by omega) I' A' J' B' L' r
    rw [pn_f q33]
    by_cases q34 : Int32.toInt ((xs (Int32.toNatClampNeg (nI i))) &&& 63) = 34
    · rw [pn_t q34]
      obtain ⟨v, I', A', J', B', L', e1, e2, r⟩ := P_list (L := L) hR (xs (Int32.toNatClampNeg (nI i + 1))) (xs (Int32.toNatClampNeg (nI i + 2)))
      simp only [l_law_1277, l_law_1283, l_law_1288, l_law_1291, l_law_1297, l_law_1302, l_law_1305, i1, i2, i3, i4, i5, cond_true, e1, e2, pn_c1, pn_c2, lg_self, eq_self, decide_true, e6]
      exact go _ (by omega) I' A' J' B' L' r
    rw [pn_f q34]
    by_cases q35 : Int32.toInt ((xs (Int32.toNatClampNeg (nI i))) &&& 63) = 35
    · rw [pn_t q35]
      obtain ⟨v, I', A', J', B', L', e1, e2, r⟩ := P_put (L := L) hR (xs (Int32.toNatClampNeg (nI i + 1))) (xs (Int32.toNatClampNeg (nI i + 2))) (xs (Int32.toNatClampNeg (nI i + 3)))
      simp only [l_law_1310, l_law_1316, l_law_1321, l_law_1326, l_law_1329, l_law_1335, l_law_1340, l_law_1345, l_law_1348, i1, i2, i3, i4, i5, cond_true, e1, e2, pn_c1, pn_c2, lg_self, eq_self, decide_true, e6]
      exact go _ (by omega) I' A' J' B' L' r
    rw [pn_f q35]
    by_cases q36 : Int32.toInt ((xs (Int32.toNatClampNeg (nI i))) &&& 63) = 36
    · rw [pn_t q36]
      obtain ⟨v, I', A', J', B', L', e1, e2, r⟩ := P_get (L := L) hR (xs (Int32.toNatClampNeg (nI i + 1))) (xs (Int32.toNatClampNeg (nI i + 2)))
      simp only [l_law_1353, l_law_1359, l_law_1364, l_law_1367, l_law_1373, l_law_1378, l_law_1381, i1, i2, i3, i4, i5, cond_true, e1, e2, pn_c1, pn_c2, lg_self, eq_self, decide_true, e6]
      exact go _ (by omega) I' A' J' B' L' r
    rw [pn_f q36]
    by_cases q37 : Int32.toInt ((xs (Int32.toNatClampNeg (nI i))) &&& 63) = 37
    · rw [pn_t q37]
      obtain ⟨v, I', A', J', B', L', e1, e2, r⟩ := P_image (L := L) hR
      simp only [l_law_1387, l_law_1391, l_law_1395, i1, i2, i3, i4, i5, cond_true, e1, e2, pn_c1, pn_c2, lg_self, eq_self, decide_true, e6]
      exact go _ (by omega) I' A' J' B' L' r
    rw [pn_f q37]
    by_cases q38 : Int32.toInt ((xs (Int32.toNatClampNeg (nI i))) &&& 63) = 38
    · rw [pn_t q38]
      obtain ⟨v, I', A', J', B', L', e1, e2, r⟩ := P_undo (L := L) hR
      simp only [l_law_1400, l_law_1404, l_law_1408, i1, i2, i3, i4, i5, cond_true, e1, e2, pn_c1, pn_c2, lg_self, eq_self, decide_true, e6]
      exact go _ (by omega) I' A' J' B' L' r
    rw [pn_f q38]
    by_cases q39 : Int32.toInt ((xs (Int32.toNatClampNeg (nI i))) &&& 63) = 39
    · rw [pn_t q39]
      obtain ⟨v, I', A', J', B', L', e1, e2, r⟩ := P_count (L := L) hR (xs (Int32.toNatClampNeg (nI i + 1)))
      simp only [l_law_1413, l_law_1419, l_law_1422, l_law_1428, l_law_1431, i1, i2, i3, i4, i5, cond_true, e1, e2, pn_c1, pn_c2, lg_self, eq_self, decide_true, e6]
      exact go _ (by omega) I' A' J' B' L' r
    rw [pn_f q39]
    rw [e6]
    exact go _ (by omega) I A J B L hR
theorem law_pure (Lx : Nat) (xs : Nat → Int32) (hL : Lx ≤ 3072) : ∃ h', zm_run zt_L_law zl_cuts true (some (Lx, xs)) (zC 60) 10000000 18 [some (.ref 2000001), some (.ref 0), some (.ref 1000), some (.int 0)] [] (hC I0 A0, hM J0 B0 L0) = some (some (.int 1), h') := law_loop Lx xs hL 3073 0 10000000 I0 A0 J0 B0 L0 (by omega) (by omega) (by omega) Rel_0
theorem whole_start {p : Program} {e : Env} {s : State} {m : MethodId} {below : List Frame} {meth : Method} {c : Code} (l : Launch) (hflags : l.flags = flags0) {b L : Nat} {xs : Nat → Int32} (hL : L ≤ 3072) (C0 : lw_At p s m meth c b L xs) : W p l e room_1 s m #[Value.ref b] below meth c s.heap [] 0 0 (lw_Z below #[Value.ref b] s) (entryFrame m ([Value.ref b] : List Value).toArray 4) := start_open l hL C0 (law_pure L xs hL)
