/-! overlaps, number, isIn; becomes, player, plan -/
section PR
variable {I : Nat → Int32} {A : Nat → Nat → Int32} {J : Nat → Int32} {B : Nat → Nat → Int32} {L : Nat → Nat → Int64} {t : List zm_E}
theorem P_overlaps (h : Rel I A J B) (x y : Int32) : Ans 81 151 [.int x, .int y] I A J B L := by
  have hh := h
  obtain ⟨⟨⟨s, ⟨n, w⟩, ⟨z, l⟩, ⟨p, k, o⟩, ⟨r, a, v⟩⟩, hv, hc, hm⟩, -⟩ := h
  have c1 : I 100 = nI s := hc.1
  have m1 : J 0 = nI s := hm.1
  have c2 : I 102 = nI n := hc.2.1.1
  have m2 : J 2 = nI n := hm.2.1.1
  have n6 : n ≤ 6 := hv.2.1.1
  have e1 := fun t => e_X9_overlaps 59 I A t x y
  have e2 := fun t => e_X10_overlaps 59 J B L t x y
  have no : ∀ q : x < 0 ∨ nI n ≤ x, Ans 81 151 [.int x, .int y] I A J B L := fun q => by
    simp only [c_hw0 (A := A) (show 1 ≤ 59 by omega) c2 q, pn_c1, F1, e_X9_overlaps_at8, d_00, cond_true] at e1
    simp only [r_iw0 (B := B) (L := L) (show 2 ≤ 59 by omega) m2 n6 q, pn_c1, d_00, cond_true] at e2
    exact ⟨_, _, _, _, _, _, e1, e2, hh⟩
  rcases pk_ix x (n := n) (by omega) with q | q | ⟨i, hi, rfl⟩
  · exact no (Or.inl q)
  · exact no (Or.inr q)
  simp only [c_hw1 (A := A) (show 1 ≤ 59 by omega) c2 n6 hi, pn_c1, F1, e_X9_overlaps_at8, d_10, cond_false] at e1
  simp only [r_iw1 (B := B) (L := L) (show 2 ≤ 59 by omega) m2 n6 hi, pn_c1, d_10, cond_false] at e2
  have no2 : ∀ q : y < 0 ∨ nI n ≤ y, Ans 81 151 [.int (nI i), .int y] I A J B L := fun q => by
    simp only [c_hw0 (A := A) (show 1 ≤ 59 by omega) c2 q, pn_c1, show (9999999 : Nat) = 9999998 + 1 from (Eq.refl _).trans (Eq.refl _), e_X9_overlaps_at19, d_n00, cond_false] at e1
    simp only [r_iw0 (B := B) (L := L) (show 2 ≤ 59 by omega) m2 n6 q, pn_c1, F1, e_X10_overlaps_at13, d_00, cond_true] at e2
    exact ⟨_, _, _, _, _, _, e1, e2, hh⟩
  rcases pk_ix y (n := n) (by omega) with q | q | ⟨j, hj, rfl⟩
  · exact no2 (Or.inl q)
  · exact no2 (Or.inr q)
  have wi := okw_lt (hv.2.1.2 i hi)
  have wj := okw_lt (hv.2.1.2 j hj)
  have a1 : A 2 i = nI (w i) := hc.2.1.2 i hi
  have a2 : A 2 j = nI (w j) := hc.2.1.2 j hj
  have b1 : B 1 i = nI (w i) := hm.2.1.2 i hi
  have b2 : B 1 j = nI (w j) := hm.2.1.2 j hj
  simp only [c_hw1 (A := A) (show 1 ≤ 59 by omega) c2 n6 hj, pn_c1, show (9999999 : Nat) = 9999998 + 1 from (Eq.refl _).trans (Eq.refl _), e_X9_overlaps_at19, d_n10, cond_true, c_wa (A := A) (show 2 ≤ 59 by omega) c2 n6 hi, a1] at e1
  simp only [show (9999998 : Nat) = 9999997 + 1 from (Eq.refl _).trans (Eq.refl _), e_X9_overlaps_at32, c_wa (A := A) (show 2 ≤ 59 by omega) c2 n6 hj, pn_c1, a2, s_overlap (show 2 ≤ 59 by omega) _ (show w i < 2 ^ 31 by omega) (show w j < 2 ^ 31 by omega)] at e1
  simp only [r_iw1 (B := B) (L := L) (show 2 ≤ 59 by omega) m2 n6 hj, pn_c1, F1, e_X10_overlaps_at13, d_10, cond_false, pn_in (show i < 6 by omega) (show 6 < 2 ^ 31 by omega), pn_in (show j < 6 by omega) (show 6 < 2 ^ 31 by omega), cond_true, pn_cl (show i < 2 ^ 31 by omega), pn_cl (show j < 2 ^ 31 by omega), b1, b2, r_overlap (show 2 ≤ 59 by omega) _ wi.2 wj.2] at e2
  exact ⟨_, _, _, _, _, _, e1, e2, hh⟩
theorem P_number (h : Rel I A J B) (x y : Int32) : Ans 82 152 [.int x, .int y] I A J B L := by
  have hh := h
  obtain ⟨⟨⟨s, ⟨n, w⟩, ⟨z, l⟩, ⟨p, k, o⟩, ⟨r, a, v⟩⟩, hv, hc, hm⟩, -⟩ := h
  have c1 : I 100 = nI s := hc.1
  have m1 : J 0 = nI s := hm.1
  have c2 : I 102 = nI n := hc.2.1.1
  have m2 : J 2 = nI n := hm.2.1.1
  have n6 : n ≤ 6 := hv.2.1.1
  have e1 := fun t => e_X9_number 59 I A t x y
  have e2 := fun t => e_X10_number 59 J B L t x y
  have no : ∀ q : x < 0 ∨ nI n ≤ x, Ans 82 152 [.int x, .int y] I A J B L := fun q => by
    simp only [c_hw0 (A := A) (show 1 ≤ 59 by omega) c2 q, pn_c1, F1, e_X9_number_at8, d_00, cond_true] at e1
    simp only [r_iw0 (B := B) (L := L) (show 2 ≤ 59 by omega) m2 n6 q, pn_c1, d_00, cond_true] at e2
    exact ⟨_, _, _, _, _, _, e1, e2, hh⟩
  rcases pk_ix x (n := n) (by omega) with q | q | ⟨i, hi, rfl⟩
  · exact no (Or.inl q)
  · exact no (Or.inr q)
  simp only [c_hw1 (A := A) (show 1 ≤ 59 by omega) c2 n6 hi, pn_c1, F1, e_X9_number_at8, d_10, cond_false] at e1
  simp only [r_iw1 (B := B) (L := L) (show 2 ≤ 59 by omega) m2 n6 hi, pn_c1, d_10, cond_false] at e2
  have no2 : ∀ q : y < 0 ∨ nI n ≤ y, Ans 82 152 [.int (nI i), .int y] I A J B L := fun q => by
    simp only [c_hw0 (A := A) (show 1 ≤ 59 by omega) c2 q, pn_c1, show (9999999 : Nat) = 9999998 + 1 from (Eq.refl _).trans (Eq.refl _), e_X9_number_at19, d_n00, cond_false] at e1
    simp only [r_iw0 (B := B) (L := L) (show 2 ≤ 59 by omega) m2 n6 q, pn_c1, F1, e_X10_number_at13, d_00, cond_true] at e2
    exact ⟨_, _, _, _, _, _, e1, e2, hh⟩
  rcases pk_ix y (n := n) (by omega) with q | q | ⟨j, hj, rfl⟩
  · exact no2 (Or.inl q)
  · exact no2 (Or.inr q)
  have wi := okw_lt (hv.2.1.2 i hi)
  have wj := okw_lt (hv.2.1.2 j hj)
  have a1 : A 2 i = nI (w i) := hc.2.1.2 i hi
  have a2 : A 2 j = nI (w j) := hc.2.1.2 j hj
  have b1 : B 1 i = nI (w i) := hm.2.1.2 i hi
  have b2 : B 1 j = nI (w j) := hm.2.1.2 j hj
  simp only [c_hw1 (A := A) (show 1 ≤ 59 by omega) c2 n6 hj, pn_c1, show (9999999 : Nat) = 9999998 + 1 from (Eq.refl _).trans (Eq.refl _), e_X9_number_at19, d_n10, cond_true, c_wa (A := A) (show 2 ≤ 59 by omega) c2 n6 hi, a1] at e1
  simp only [show (9999998 : Nat) = 9999997 + 1 from (Eq.refl _).trans (Eq.refl _), e_X9_number_at32, c_wa (A := A) (show 2 ≤ 59 by omega) c2 n6 hj, pn_c1, a2, show (9999997 : Nat) = 9999996 + 1 from (Eq.refl _).trans (Eq.refl _), e_X9_number_at40, c1, s_number (show 3 ≤ 59 by omega) _ (show w i < 2 ^ 31 by omega) (show w j < 2 ^ 31 by omega)] at e1
  simp only [r_iw1 (B := B) (L := L) (show 2 ≤ 59 by omega) m2 n6 hj, pn_c1, F1, e_X10_number_at13, d_10, cond_false, pn_in (show i < 6 by omega) (show 6 < 2 ^ 31 by omega), pn_in (show j < 6 by omega) (show 6 < 2 ^ 31 by omega), cond_true, pn_cl (show i < 2 ^ 31 by omega), pn_cl (show j < 2 ^ 31 by omega), b1, b2, r_number (show 3 ≤ 59 by omega) _ J B L m1 wi.2 wj.2] at e2
  exact ⟨_, _, _, _, _, _, e1, e2, hh⟩
theorem P_isIn (h : Rel I A J B) (x y : Int32) : Ans 83 153 [.int x, .int y] I A J B L := by
  have hh := h
  obtain ⟨⟨⟨s, ⟨n, w⟩, ⟨z, l⟩, ⟨p, k, o⟩, ⟨r, a, v⟩⟩, hv, hc, hm⟩, -⟩ := h
  have c1 : I 100 = nI s := hc.1
  have m1 : J 0 = nI s := hm.1
  have c2 : I 102 = nI n := hc.2.1.1
  have m2 : J 2 = nI n := hm.2.1.1
  have n6 : n ≤ 6 := hv.2.1.1
  have e1 := fun t => e_X9_isIn 59 I A t x y
  have e2 := fun t => e_X10_isIn 59 J B L t x y
  have no : ∀ q : x < 0 ∨ nI n ≤ x, Ans 83 153 [.int x, .int y] I A J B L := fun q => by
    simp only [c_hw0 (A := A) (show 1 ≤ 59 by omega) c2 q, pn_c1, F1, e_X9_isIn_at8, d_00, cond_true] at e1
    simp only [r_iw0 (B := B) (L := L) (show 2 ≤ 59 by omega) m2 n6 q, pn_c1, d_00, cond_true] at e2
    exact ⟨_, _, _, _, _, _, e1, e2, hh⟩
  rcases pk_ix x (n := n) (by omega) with q | q | ⟨i, hi, rfl⟩
  · exact no (Or.inl q)
  · exact no (Or.inr q)
  simp only [c_hw1 (A := A) (show 1 ≤ 59 by omega) c2 n6 hi, pn_c1, F1, e_X9_isIn_at8, d_10, cond_false] at e1
  simp only [r_iw1 (B := B) (L := L) (show 2 ≤ 59 by omega) m2 n6 hi, pn_c1, d_10, cond_false] at e2
  have no2 : ∀ q : y < 0 ∨ nI n ≤ y, Ans 83 153 [.int (nI i), .int y] I A J B L := fun q => by
    simp only [c_hw0 (A := A) (show 1 ≤ 59 by omega) c2 q, pn_c1, show (9999999 : Nat) = 9999998 + 1 from (Eq.refl _).trans (Eq.refl _), e_X9_isIn_at19, d_n00, cond_false] at e1
    simp only [r_iw0 (B := B) (L := L) (show 2 ≤ 59 by omega) m2 n6 q, pn_c1, F1, e_X10_isIn_at13, d_n00, cond_false] at e2
    exact ⟨_, _, _, _, _, _, e1, e2, hh⟩
  rcases pk_ix y (n := n) (by omega) with q | q | ⟨j, hj, rfl⟩
  · exact no2 (Or.inl q)
  · exact no2 (Or.inr q)
  have wi := okw_lt (hv.2.1.2 i hi)
  have wj := okw_lt (hv.2.1.2 j hj)
  have a1 : A 2 i = nI (w i) := hc.2.1.2 i hi
  have a2 : A 2 j = nI (w j) := hc.2.1.2 j hj
  have b1 : B 1 i = nI (w i) := hm.2.1.2 i hi
  have b2 : B 1 j = nI (w j) := hm.2.1.2 j hj
  simp only [c_hw1 (A := A) (show 1 ≤ 59 by omega) c2 n6 hj, pn_c1, show (9999999 : Nat) = 9999998 + 1 from (Eq.refl _).trans (Eq.refl _), e_X9_isIn_at19, d_n10, cond_true, c_wa (A := A) (show 2 ≤ 59 by omega) c2 n6 hi, a1] at e1
  simp only [show (9999998 : Nat) = 9999997 + 1 from (Eq.refl _).trans (Eq.refl _), e_X9_isIn_at32, c_wa (A := A) (show 2 ≤ 59 by omega) c2 n6 hj, pn_c1, a2, s_stands (show 2 ≤ 59 by omega) _ (show w i < 2 ^ 31 by omega) (show w j < 2 ^ 31 by omega)] at e1
  simp only [r_iw1 (B := B) (L := L) (show 2 ≤ 59 by omega) m2 n6 hj, pn_c1, F1, e_X10_isIn_at13, d_n10, cond_true, pn_in (show i < 6 by omega) (show 6 < 2 ^ 31 by omega), pn_in (show j < 6 by omega) (show 6 < 2 ^ 31 by omega), cond_true, pn_cl (show i < 2 ^ 31 by omega), pn_cl (show j < 2 ^ 31 by omega), b1, b2, r_stands (show 2 ≤ 59 by omega) _ wi.1 wi.2 wj.2] at e2
  cases hb : inn (w i) (w j) with
  | true =>
    simp only [hb, b01_t, d_10, cond_false] at e1 e2
    exact ⟨_, _, _, _, _, _, e1, e2, hh⟩
  | false =>
    simp only [hb, b01_f, d_00, cond_true] at e1 e2
    exact ⟨_, _, _, _, _, _, e1, e2, hh⟩
theorem F2 : (9999999 : Nat) = 9999998 + 1 := (Eq.refl _).trans (Eq.refl _)
theorem F3 : (9999998 : Nat) = 9999997 + 1 := (Eq.refl _).trans (Eq.refl _)
theorem F4 : (9999997 : Nat) = 9999996 + 1 := (Eq.refl _).trans (Eq.refl _)
theorem F5 : (9999996 : Nat) = 9999995 + 1 := (Eq.refl _).trans (Eq.refl _)
theorem P_becomes (h : Rel I A J B) (x y : Int32) : Ans 79 149 [.int x, .int y] I A J B L := by
  have hh := h
  obtain ⟨⟨⟨s, ⟨n, w⟩, ⟨z, l⟩, ⟨p, k, o⟩, ⟨r, a, v⟩⟩, hv, hc, hm⟩, hR⟩ := h
  obtain ⟨v1, ⟨n6, vw⟩, v3, v4, v5⟩ := id hv
  obtain ⟨c1, ⟨c2, cw⟩, c3, c4, c5⟩ := id hc
  obtain ⟨m1, ⟨m2, mw⟩, m3, m4, m5⟩ := id hm
  have c1 : I 100 = nI s := c1
  have c2 : I 102 = nI n := c2
  have s3 : s < 2 ^ 31 := by omega
  have e1 := fun t => e_X9_becomes 59 I A t x y
  have e2 := fun t => e_X10_becomes 59 J B L t x y
  have no : ∀ q : x < 0 ∨ nI n ≤ x, Ans 79 149 [.int x, .int y] I A J B L := fun q => by
    simp only [c_hw0 (A := A) (show 1 ≤ 59 by omega) c2 q, pn_c1, F1, e_X9_becomes_at8, d_n00, cond_false] at e1
    simp only [r_iw0 (B := B) (L := L) (show 2 ≤ 59 by omega) m2 n6 q, pn_c1, d_n00, cond_false] at e2
    exact ⟨_, _, _, _, _, _, e1, e2, hh⟩
  rcases pk_ix x (n := n) (by omega) with q | q | ⟨i, hi, rfl⟩
  · exact no (Or.inl q)
  · exact no (Or.inr q)
  simp only [c_hw1 (A := A) (show 1 ≤ 59 by omega) c2 n6 hi, pn_c1, F1, e_X9_becomes_at8, d_n10, cond_true, c1, s_isWord (show 3 ≤ 59 by omega) _ y s3, F2, e_X9_becomes_at24] at e1
  simp only [r_iw1 (B := B) (L := L) (show 2 ≤ 59 by omega) m2 n6 hi, pn_c1, d_n10, cond_true, r_isSuch (show 2 ≤ 59 by omega) _ J B L y m1 s3, F1, e_X10_becomes_at15] at e2
  cases hb : (decide (0 < y) && okw s y.toNatClampNeg) with
  | false =>
    simp only [hb, b01_f, d_n00, cond_false] at e1 e2
    exact ⟨_, _, _, _, _, _, e1, e2, hh⟩
  | true =>
    obtain ⟨y0, yw⟩ := Bool.and_eq_true_iff.mp hb
    have y0 : 0 < y := of_decide_eq_true y0
    obtain ⟨u, hu, rfl⟩ := nI_of (x := y) (fun q => by
      have g1 := Int32.lt_iff_toInt_lt.mp q
      have g2 := Int32.lt_iff_toInt_lt.mp y0
      omega)
    rw [nI_clamp hu] at yw
    simp only [hb, b01_t, d_n10, cond_true, pn_in (show i < 6 by omega) (show 6 < 2 ^ 31 by omega), pn_cl (show i < 2 ^ 31 by omega), show A 2 i = nI (w i) from cw i hi] at e1
    simp only [hb, b01_t, d_n10, cond_true, pn_in (show i < 6 by omega) (show 6 < 2 ^ 31 by omega), pn_cl (show i < 2 ^ 31 by omega), show B 1 i = nI (w i) from mw i hi] at e2
    refine ⟨_, _, _, _, _, _, e1, e2, ⟨(s, (n, fun j => if j = i then u else w j), (z, l), (p, k, o), (r, a, v)), ⟨v1, ⟨n6, fun j hj => ?_⟩, v3, v4, v5⟩, ⟨c1, ⟨c2, fun j hj => ?_⟩, c3, c4, c5⟩, ⟨m1, ⟨m2, fun j hj => ?_⟩, m3, m4, m5⟩⟩, hR⟩
    · dsimp only
      by_cases e : j = i
      · rw [if_pos e]; exact yw
      · rw [if_neg e]; exact vw j hj
    · show upd (A 2) i (nI u) j = nI (if j = i then u else w j)
      by_cases e : j = i
      · subst e; rw [if_pos rfl, upd_eq]
      · rw [if_neg e, upd_ne e]; exact cw j hj
    · show upd (B 1) i (nI u) j = nI (if j = i then u else w j)
      by_cases e : j = i
      · subst e; rw [if_pos rfl, upd_eq]
      · rw [if_neg e, upd_ne e]; exact mw j hj
end PR
