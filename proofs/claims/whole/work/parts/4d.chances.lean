/-! of, chance, answered, playerOf, pick, match -/
theorem F6 : (9999995 : Nat) = 9999994 + 1 := (Eq.refl _).trans (Eq.refl _)
theorem i_ofT {x : Int32} {n : Nat} (hn : n < 2 ^ 31) (h : x.toInt = n) : x = nI n := Int32.toInt_inj.mp (by rw [h, nI_toInt hn])
theorem i_02 {x : Int32} {n : Nat} (hn : n < 2 ^ 30) : decide (0 ≤ x ∧ x ≤ nI n) = true ↔ ∃ j, j ≤ n ∧ x = nI j := by
  rw [decide_eq_true_eq]
  constructor
  · rintro ⟨h1, h2⟩
    obtain ⟨j, hj, e⟩ := i_rng (n := n + 1) (lo := 0) (by omega) (by decide) (Int32.not_lt.mpr h1) (nle_of hn h2)
    exact ⟨j, by omega, e⟩
  · rintro ⟨j, hj, rfl⟩
    exact ⟨nI_pos' (by omega), nI_le hj (by omega)⟩
section CH
variable {I : Nat → Int32} {A : Nat → Nat → Int32} {J : Nat → Int32} {B : Nat → Nat → Int32} {L : Nat → Nat → Int64} {t : List zm_E}
theorem P_of (h : Rel I A J B) (x y : Int32) : Ans 80 150 [.int x, .int y] I A J B L := by
  have hh := h
  obtain ⟨⟨⟨s, ⟨n, w⟩, ⟨z, l⟩, ⟨p, k, o⟩, ⟨r, a, v⟩⟩, hv, hc, hm⟩, -⟩ := h
  have c1 : I 100 = nI s := hc.1
  have m1 : J 0 = nI s := hm.1
  have c2 : I 102 = nI n := hc.2.1.1
  have m2 : J 2 = nI n := hm.2.1.1
  have n6 : n ≤ 6 := hv.2.1.1
  have e1 := fun t => e_X9_of 59 I A t x y
  have e2 := fun t => e_X10_of 59 J B L t x y
  have no : ∀ q : x < 0 ∨ nI n ≤ x, Ans 80 150 [.int x, .int y] I A J B L := fun q => by
    simp only [c_hw0 (A := A) (show 1 ≤ 59 by omega) c2 q, pn_c1, F1, e_X9_of_at8, d_n00, cond_false] at e1
    simp only [r_iw0 (B := B) (L := L) (show 2 ≤ 59 by omega) m2 n6 q, pn_c1, F1, e_X10_of_at5, d_n00, cond_false] at e2
    exact ⟨_, _, _, _, _, _, e1, e2, hh⟩
  rcases pk_ix x (n := n) (by omega) with q | q | ⟨i, hi, rfl⟩
  · exact no (Or.inl q)
  · exact no (Or.inr q)
  have wi := okw_lt (hv.2.1.2 i hi)
  have a1 : A 2 i = nI (w i) := hc.2.1.2 i hi
  have b1 : B 1 i = nI (w i) := hm.2.1.2 i hi
  simp only [c_hw1 (A := A) (show 1 ≤ 59 by omega) c2 n6 hi, pn_c1, F1, e_X9_of_at8, d_n10, cond_true, c_wa (A := A) (show 2 ≤ 59 by omega) c2 n6 hi, a1, F2, e_X9_of_at21, c1] at e1
  simp only [r_iw1 (B := B) (L := L) (show 2 ≤ 59 by omega) m2 n6 hi, pn_c1, F1, e_X10_of_at5, d_n10, cond_true, pn_in (show i < 6 by omega) (show 6 < 2 ^ 31 by omega), pn_cl (show i < 2 ^ 31 by omega), b1] at e2
  by_cases y0 : y.toInt = 0
  · simp only [pn_t y0] at e1 e2
    exact ⟨_, _, _, _, _, _, e1, e2, hh⟩
  simp only [pn_f y0] at e1 e2
  by_cases y1 : y.toInt = 1
  · simp only [pn_t y1, s_length (show 1 ≤ 59 by omega) _ (show w i < 2 ^ 31 by omega), pn_c1] at e1
    simp only [pn_t y1, r_sizeW (show 1 ≤ 59 by omega) _ wi.2, pn_c1] at e2
    exact ⟨_, _, _, _, _, _, e1, e2, hh⟩
  simp only [pn_f y1] at e1 e2
  by_cases y2 : y.toInt = 2
  · simp only [pn_t y2, s_number (show 3 ≤ 59 by omega) _ (show w i < 2 ^ 31 by omega) (show w i < 2 ^ 31 by omega), pn_c1] at e1
    simp only [pn_t y2, r_number (show 3 ≤ 59 by omega) _ J B L m1 wi.2 wi.2, pn_c1] at e2
    exact ⟨_, _, _, _, _, _, e1, e2, hh⟩
  simp only [pn_f y2] at e1 e2
  by_cases y3 : y.toInt = 3
  · simp only [pn_t y3, s_best (show 6 ≤ 59 by omega) _ hv.1 (hv.2.1.2 i hi), pn_c1] at e1
    simp only [pn_t y3, r_best (show 6 ≤ 59 by omega) _ J B L m1 hv.1 (hv.2.1.2 i hi), pn_c1] at e2
    exact ⟨_, _, _, _, _, _, e1, e2, hh⟩
  simp only [pn_f y3] at e1 e2
  exact ⟨_, _, _, _, _, _, e1, e2, hh⟩
theorem P_chance (h : Rel I A J B) (x y u : Int32) : AnsL 84 154 [.int x, .int y, .int u] I A J B L := by
  have hh := h
  obtain ⟨⟨⟨s, ⟨n, w⟩, ⟨z, l⟩, ⟨p, k, o⟩, ⟨r, a, v⟩⟩, hv, hc, hm⟩, -⟩ := h
  have c1 : I 100 = nI s := hc.1
  have m1 : J 0 = nI s := hm.1
  have c2 : I 102 = nI n := hc.2.1.1
  have m2 : J 2 = nI n := hm.2.1.1
  have n6 : n ≤ 6 := hv.2.1.1
  have e1 := fun t => e_X9_chance 59 I A t x y u
  have e2 := fun t => e_X10_chance 59 J B L t x y u
  have no : ∀ q : x < 0 ∨ nI n ≤ x, AnsL 84 154 [.int x, .int y, .int u] I A J B L := fun q => by
    simp only [c_hw0 (A := A) (show 1 ≤ 59 by omega) c2 q, pn_c1, F1, e_X9_chance_at8, d_00, cond_true] at e1
    simp only [r_iw0 (B := B) (L := L) (show 2 ≤ 59 by omega) m2 n6 q, pn_c1, d_00, cond_true] at e2
    exact ⟨_, _, _, _, _, _, e1, e2, hh⟩
  rcases pk_ix x (n := n) (by omega) with q | q | ⟨i, hi, rfl⟩
  · exact no (Or.inl q)
  · exact no (Or.inr q)
  simp only [c_hw1 (A := A) (show 1 ≤ 59 by omega) c2 n6 hi, pn_c1, F1, e_X9_chance_at8, d_10, cond_false] at e1
  simp only [r_iw1 (B := B) (L := L) (show 2 ≤ 59 by omega) m2 n6 hi, pn_c1, d_10, cond_false] at e2
  have no2 : ∀ q : y < 0 ∨ nI n ≤ y, AnsL 84 154 [.int (nI i), .int y, .int u] I A J B L := fun q => by
    simp only [c_hw0 (A := A) (show 1 ≤ 59 by omega) c2 q, pn_c1, d_00, cond_true] at e1
    simp only [r_iw0 (B := B) (L := L) (show 2 ≤ 59 by omega) m2 n6 q, pn_c1, d_00, cond_true] at e2
    exact ⟨_, _, _, _, _, _, e1, e2, hh⟩
  rcases pk_ix y (n := n) (by omega) with q | q | ⟨j, hj, rfl⟩
  · exact no2 (Or.inl q)
  · exact no2 (Or.inr q)
  have wi := okw_lt (hv.2.1.2 i hi)
  have wj := okw_lt (hv.2.1.2 j hj)
  have a1 : A 2 i = nI (w i) := hc.2.1.2 i hi
  have a2 : A 2 j = nI (w j) := hc.2.1.2 j hj
  have b1 : B 1 i = nI (w i) := hm.2.1.2 i hi
  have b2 : B 1 j = nI (w j) := hm.2.1.2 j hj
  simp only [c_hw1 (A := A) (show 1 ≤ 59 by omega) c2 n6 hj, pn_c1, d_10, cond_false, s_isPart (show 1 ≤ 59 by omega), F2, e_X9_chance_at26] at e1
  simp only [r_iw1 (B := B) (L := L) (show 2 ≤ 59 by omega) m2 n6 hj, pn_c1, d_10, cond_false, r_isPart (show 1 ≤ 59 by omega), F1, e_X10_chance_at20] at e2
  by_cases hu : u = 0 ∨ u = 1
  · simp only [decide_eq_true hu, b01_t, d_n10, cond_true, c_wa (A := A) (show 2 ≤ 59 by omega) c2 n6 hi, pn_c1, a1, F3, e_X9_chance_at41, c_wa (A := A) (show 2 ≤ 59 by omega) c2 n6 hj, a2, F4, e_X9_chance_at49, c1, s_chance (show 5 ≤ 59 by omega) _ hv.1 (hv.2.1.2 i hi) (hv.2.1.2 j hj), pn_c2] at e1
    simp only [decide_eq_true hu, b01_t, d_10, cond_false, pn_in (show i < 6 by omega) (show 6 < 2 ^ 31 by omega), pn_in (show j < 6 by omega) (show 6 < 2 ^ 31 by omega), cond_true, pn_cl (show i < 2 ^ 31 by omega), pn_cl (show j < 2 ^ 31 by omega), b1, b2, r_apart (show 3 ≤ 59 by omega) _ wi.1 wi.2 wj.1 wj.2, pn_c1, F2, e_X10_chance_at38] at e2
    cases hb : (inn (w i) (w j) || inn (w j) (w i)) with
    | true =>
      simp only [hb, cond_true] at e1
      simp only [hb, Bool.not_true, b01_f, d_n00, cond_false] at e2
      exact ⟨_, _, _, _, _, _, e1, e2, hh⟩
    | false =>
      simp only [hb, cond_false] at e1
      simp only [hb, Bool.not_false, b01_t, d_n10, cond_true, pn_in (show i < 6 by omega) (show 6 < 2 ^ 31 by omega), pn_in (show j < 6 by omega) (show 6 < 2 ^ 31 by omega), pn_cl (show i < 2 ^ 31 by omega), pn_cl (show j < 2 ^ 31 by omega), b1, b2, r_chanceOf (show 5 ≤ 59 by omega) _ J B L m1 hv.1 (hv.2.1.2 i hi) (hv.2.1.2 j hj) u hb, pn_c2] at e2
      exact ⟨_, _, _, _, _, _, e1, e2, hh⟩
  · simp only [decide_eq_false hu, b01_f, d_n00, cond_false] at e1
    simp only [decide_eq_false hu, b01_f, d_00, cond_true] at e2
    exact ⟨_, _, _, _, _, _, e1, e2, hh⟩
theorem P_answered (h : Rel I A J B) (x u : Int32) : AnsL 85 155 [.int x, .int u] I A J B L := by
  have hh := h
  obtain ⟨⟨⟨s, ⟨n, w⟩, ⟨z, l⟩, ⟨p, k, o⟩, ⟨r, a, v⟩⟩, hv, hc, hm⟩, -⟩ := h
  have c1 : I 100 = nI s := hc.1
  have m1 : J 0 = nI s := hm.1
  have c2 : I 102 = nI n := hc.2.1.1
  have m2 : J 2 = nI n := hm.2.1.1
  have n6 : n ≤ 6 := hv.2.1.1
  have e1 := fun t => e_X9_answered 59 I A t x u
  have e2 := fun t => e_X10_answered 59 J B L t x u
  have no : ∀ q : x < 0 ∨ nI n ≤ x, AnsL 85 155 [.int x, .int u] I A J B L := fun q => by
    simp only [c_hw0 (A := A) (show 1 ≤ 59 by omega) c2 q, pn_c1, d_00, cond_true] at e1
    simp only [r_iw0 (B := B) (L := L) (show 2 ≤ 59 by omega) m2 n6 q, pn_c1, d_00, cond_true] at e2
    exact ⟨_, _, _, _, _, _, e1, e2, hh⟩
  rcases pk_ix x (n := n) (by omega) with q | q | ⟨i, hi, rfl⟩
  · exact no (Or.inl q)
  · exact no (Or.inr q)
  have hw := hv.2.1.2 i hi
  have wi := okw_lt hw
  have a1 : A 2 i = nI (w i) := hc.2.1.2 i hi
  have b1 : B 1 i = nI (w i) := hm.2.1.2 i hi
  simp only [c_hw1 (A := A) (show 1 ≤ 59 by omega) c2 n6 hi, pn_c1, d_10, cond_false, s_isPart (show 1 ≤ 59 by omega), F1, e_X9_answered_at15] at e1
  simp only [r_iw1 (B := B) (L := L) (show 2 ≤ 59 by omega) m2 n6 hi, pn_c1, d_10, cond_false, r_isPart (show 1 ≤ 59 by omega), F1, e_X10_answered_at12] at e2
  by_cases hu : u = 0 ∨ u = 1
  · have hb := ba_ok hv.1 hw
    have hb' := okw_lt hb.1
    have hap : (inn (ba s (w i)) (w i) || inn (w i) (ba s (w i))) = false := by
      rw [inn_same wi.2 hb.2.1 hb.2.2, inn_same hb'.2 hb.2.1.symm (fun e => hb.2.2 e.symm)]
      rfl
    simp only [decide_eq_true hu, b01_t, d_n10, cond_true, c_wa (A := A) (show 2 ≤ 59 by omega) c2 n6 hi, pn_c1, a1, F2, e_X9_answered_at30, c1, s_best (show 6 ≤ 59 by omega) _ hv.1 hw, F3, e_X9_answered_at42, s_chance (show 5 ≤ 59 by omega) _ hv.1 hb.1 hw, pn_c2, hap, cond_false] at e1
    simp only [decide_eq_true hu, b01_t, d_n10, cond_true, pn_in (show i < 6 by omega) (show 6 < 2 ^ 31 by omega), pn_cl (show i < 2 ^ 31 by omega), b1, r_best (show 6 ≤ 59 by omega) _ J B L m1 hv.1 hw, pn_c1, r_chanceOf (show 5 ≤ 59 by omega) _ J B L m1 hv.1 hb.1 hw u hap, pn_c2] at e2
    exact ⟨_, _, _, _, _, _, e1, e2, hh⟩
  · simp only [decide_eq_false hu, b01_f, d_n00, cond_false] at e1
    simp only [decide_eq_false hu, b01_f, d_n00, cond_false] at e2
    exact ⟨_, _, _, _, _, _, e1, e2, hh⟩
theorem P_playerOf (h : Rel I A J B) (x y : Int32) : Ans 100 189 [.int x, .int y] I A J B L := by
  have hh := h
  obtain ⟨⟨⟨s, ⟨n, w⟩, ⟨z, l⟩, ⟨p, k, o⟩, ⟨r, a, v⟩⟩, hv, hc, hm⟩, -⟩ := h
  have c4 : I 106 = nI p := hc.2.2.2.1.1
  have m4 : J 7 = nI p := hm.2.2.2.1.1
  have p4 : p ≤ 4 := hv.2.2.2.1.1
  have e1 := fun t => e_X9_playerOf 59 I A t x y
  have e2 := fun t => e_X10_playerOf 59 J B L t x y
  have no : ∀ q : x < 0 ∨ nI p ≤ x, Ans 100 189 [.int x, .int y] I A J B L := fun q => by
    simp only [c_hpl0 (A := A) (show 1 ≤ 59 by omega) c4 q, pn_c1, F1, e_X9_playerOf_at8, d_n00, cond_false] at e1
    simp only [r_ipl0 (B := B) (L := L) (show 2 ≤ 59 by omega) m4 p4 q, pn_c1, d_00, cond_true] at e2
    exact ⟨_, _, _, _, _, _, e1, e2, hh⟩
  rcases pk_ix x (n := p) (by omega) with q | q | ⟨i, hi, rfl⟩
  · exact no (Or.inl q)
  · exact no (Or.inr q)
  have a1 : A 5 i = nI (k i) := (hc.2.2.2.1.2 i hi).1
  have a2 : A 6 i = nI (o i) := (hc.2.2.2.1.2 i hi).2
  have b1 : B 3 i = nI (k i) := (hm.2.2.2.1.2 i hi).1
  have b2 : B 4 i = nI (o i) := (hm.2.2.2.1.2 i hi).2
  simp only [c_hpl1 (A := A) (show 1 ≤ 59 by omega) c4 p4 hi, pn_c1, F1, e_X9_playerOf_at8, d_n10, cond_true, pn_in (show i < 4 by omega) (show 4 < 2 ^ 31 by omega), pn_cl (show i < 2 ^ 31 by omega), a1, a2] at e1
  simp only [r_ipl1 (B := B) (L := L) (show 2 ≤ 59 by omega) m4 p4 hi, pn_c1, d_10, cond_false, r_in (show 1 ≤ 59 by omega), F1, e_X10_playerOf_at14, pn_in (show i < 4 by omega) (show 4 < 2 ^ 31 by omega), pn_cl (show i < 2 ^ 31 by omega), b1, b2, cond_true] at e2
  by_cases g : ∃ j, j ≤ 2 ∧ y = nI j
  · have g' : decide (0 ≤ y ∧ y ≤ 2) = true := (i_02 (n := 2) (by omega)).mpr g
    simp only [g', b01_t, d_n10, cond_true] at e2
    obtain ⟨j, hj, rfl⟩ := g
    have hj' : j = 0 ∨ j = 1 ∨ j = 2 := by omega
    rcases hj' with rfl | rfl | rfl
    · simp only [pn_t (show Int32.toInt (nI 0) = 0 by decide)] at e1
      simp only [pn_f (show ¬ ¬ nI 0 = 0 by decide)] at e2
      exact ⟨_, _, _, _, _, _, e1, e2, hh⟩
    · simp only [pn_f (show ¬ Int32.toInt (nI 1) = 0 by decide), pn_t (show Int32.toInt (nI 1) = 1 by decide)] at e1
      simp only [pn_t (show ¬ nI 1 = 0 by decide), pn_f (show ¬ ¬ nI 1 = 1 by decide)] at e2
      exact ⟨_, _, _, _, _, _, e1, e2, hh⟩
    · simp only [pn_f (show ¬ Int32.toInt (nI 2) = 0 by decide), pn_f (show ¬ Int32.toInt (nI 2) = 1 by decide), pn_t (show Int32.toInt (nI 2) = 2 by decide), c_wins (show 8 ≤ 59 by omega) hv hc hi, pn_c1] at e1
      simp only [pn_t (show ¬ nI 2 = 0 by decide), pn_t (show ¬ nI 2 = 1 by decide), r_wins (show 9 ≤ 59 by omega) hv hm hi, pn_c1] at e2
      exact ⟨_, _, _, _, _, _, e1, e2, hh⟩
  · have g' : decide (0 ≤ y ∧ y ≤ 2) = false := Bool.eq_false_iff.mpr (fun q => g ((i_02 (n := 2) (by omega)).mp q))
    have y0 : ¬ y.toInt = 0 := fun q => g ⟨0, by omega, i_ofT (by omega) q⟩
    have y1 : ¬ y.toInt = 1 := fun q => g ⟨1, by omega, i_ofT (by omega) q⟩
    have y2 : ¬ y.toInt = 2 := fun q => g ⟨2, by omega, i_ofT (by omega) q⟩
    simp only [pn_f y0, pn_f y1, pn_f y2] at e1
    simp only [g', b01_f, d_n00, cond_false] at e2
    exact ⟨_, _, _, _, _, _, e1, e2, hh⟩
theorem P_pick (h : Rel I A J B) (x y u : Int32) : Ans 101 191 [.int x, .int y, .int u] I A J B L := by
  have hh := h
  obtain ⟨⟨⟨s, ⟨n, w⟩, ⟨z, l⟩, ⟨p, k, o⟩, ⟨r, a, v⟩⟩, hv, hc, hm⟩, -⟩ := h
  have c4 : I 106 = nI p := hc.2.2.2.1.1
  have m4 : J 7 = nI p := hm.2.2.2.1.1
  have p4 : p ≤ 4 := hv.2.2.2.1.1
  have e1 := fun t => e_X9_pick 59 I A t x y u
  have e2 := fun t => e_X10_pick 59 J B L t x y u
  by_cases g : two p x y
  · obtain ⟨i, j, hi, hj, hij, rfl, rfl⟩ := g
    simp only [c_two1 (A := A) (show 2 ≤ 59 by omega) c4 p4 hi hj hij, pn_c1, F1, e_X9_pick_at9, d_10, cond_false] at e1
    simp only [r_two1 (B := B) (L := L) (show 3 ≤ 59 by omega) m4 p4 hi hj hij, pn_c1, d_10, cond_false, r_in (show 1 ≤ 59 by omega)] at e2
    have hk := pck_ok (kd := k i) hv.1 (hv.2.1.2 _ (hv.2.2.2.1.2 i hi).2) (hv.2.1.2 _ (hv.2.2.2.1.2 i hi).2)
    by_cases g : ∃ j, j ≤ 1 ∧ u = nI j
    · have g' : decide (0 ≤ u ∧ u ≤ 1) = true := (i_02 (n := 1) (by omega)).mpr g
      simp only [g', b01_t, d_n10, cond_true, r_firstP (show 8 ≤ 59 by omega) hv hm hi, pn_c1, r_picks (show 7 ≤ 59 by omega) hv hm hj hk] at e2
      obtain ⟨c, hc', rfl⟩ := g
      simp only [pn_f (nI_pos (show c < 2 ^ 31 by omega)), pn_t (show nI c ≤ (1 : Int32) from nI_le (b := 1) hc' (by decide)), c_firstP (show 8 ≤ 59 by omega) hv hc hi, pn_c1, c_pickA (show 7 ≤ 59 by omega) hv hc hj hk] at e1
      have hj' : c = 0 ∨ c = 1 := by omega
      rcases hj' with rfl | rfl
      · simp only [pn_f (show ¬ ¬ nI 0 = 0 by decide)] at e1 e2
        exact ⟨_, _, _, _, _, _, e1, e2, hh⟩
      · simp only [pn_t (show ¬ nI 1 = 0 by decide)] at e1 e2
        exact ⟨_, _, _, _, _, _, e1, e2, hh⟩
    · have g' : decide (0 ≤ u ∧ u ≤ 1) = false := Bool.eq_false_iff.mpr (fun q => g ((i_02 (n := 1) (by omega)).mp q))
      simp only [g', b01_f, d_n00, cond_false] at e2
      by_cases u0 : u < 0
      · simp only [pn_t u0] at e1
        exact ⟨_, _, _, _, _, _, e1, e2, hh⟩
      · have u1 : ¬ u ≤ 1 := fun q => by
          have := (decide_eq_true_eq (p := 0 ≤ u ∧ u ≤ 1)).mpr ⟨Int32.not_lt.mp u0, q⟩
          rw [g'] at this
          cases this
        simp only [pn_f u0, pn_f u1] at e1
        exact ⟨_, _, _, _, _, _, e1, e2, hh⟩
  · simp only [c_two0 (A := A) (show 2 ≤ 59 by omega) c4 p4 g, pn_c1, F1, e_X9_pick_at9, d_00, cond_true] at e1
    simp only [r_two0 (B := B) (L := L) (show 3 ≤ 59 by omega) m4 p4 g, pn_c1, d_00, cond_true] at e2
    exact ⟨_, _, _, _, _, _, e1, e2, hh⟩
theorem P_match (h : Rel I A J B) (x y u : Int32) : AnsL 102 192 [.int x, .int y, .int u] I A J B L := by
  have hh := h
  obtain ⟨⟨⟨s, ⟨n, w⟩, ⟨z, l⟩, ⟨p, k, o⟩, ⟨r, a, v⟩⟩, hv, hc, hm⟩, -⟩ := h
  have c1 : I 100 = nI s := hc.1
  have m1 : J 0 = nI s := hm.1
  have c4 : I 106 = nI p := hc.2.2.2.1.1
  have m4 : J 7 = nI p := hm.2.2.2.1.1
  have p4 : p ≤ 4 := hv.2.2.2.1.1
  have e1 := fun t => e_X9_match 59 I A t x y u
  have e2 := fun t => e_X10_match 59 J B L t x y u
  by_cases g : two p x y
  · obtain ⟨i, j, hi, hj, hij, rfl, rfl⟩ := g
    simp only [c_two1 (A := A) (show 2 ≤ 59 by omega) c4 p4 hi hj hij, pn_c1, d_10, cond_false, s_isPart (show 1 ≤ 59 by omega), F1, e_X9_match_at16] at e1
    simp only [r_two1 (B := B) (L := L) (show 3 ≤ 59 by omega) m4 p4 hi hj hij, pn_c1, d_10, cond_false, r_isPart (show 1 ≤ 59 by omega)] at e2
    have hk := pck_ok (kd := k i) hv.1 (hv.2.1.2 _ (hv.2.2.2.1.2 i hi).2) (hv.2.1.2 _ (hv.2.2.2.1.2 i hi).2)
    have hk2 := pck_ok (kd := k j) hv.1 (hv.2.1.2 _ (hv.2.2.2.1.2 j hj).2) hk
    have hk' := okw_lt hk
    have hk2' := okw_lt hk2
    by_cases hu : u = 0 ∨ u = 1
    · simp only [decide_eq_true hu, b01_t, d_n10, cond_true, c_firstP (show 8 ≤ 59 by omega) hv hc hi, pn_c1, F2, e_X9_match_at31, c_pickA (show 7 ≤ 59 by omega) hv hc hj hk, F3, e_X9_match_at45, c1, s_chance (show 5 ≤ 59 by omega) _ hv.1 hk hk2, pn_c2] at e1
      simp only [decide_eq_true hu, b01_t, d_n10, cond_true, r_firstP (show 8 ≤ 59 by omega) hv hm hi, pn_c1, r_picks (show 7 ≤ 59 by omega) hv hm hj hk, r_apart (show 3 ≤ 59 by omega) _ hk'.1 hk'.2 hk2'.1 hk2'.2] at e2
      generalize pck s (k j) (w (o j)) (pck s (k i) (w (o i)) (w (o i))) = y2 at *
      generalize pck s (k i) (w (o i)) (w (o i)) = y1 at *
      cases hb : (inn y1 y2 || inn y2 y1) with
      | true =>
        simp only [hb, cond_true] at e1
        simp only [hb, Bool.not_true, b01_f, d_00, cond_true] at e2
        exact ⟨_, _, _, _, _, _, e1, e2, hh⟩
      | false =>
        simp only [hb, cond_false] at e1
        simp only [hb, Bool.not_false, b01_t, d_10, cond_false, r_chanceOf (show 5 ≤ 59 by omega) _ J B L m1 hv.1 hk hk2 u hb, pn_c2] at e2
        exact ⟨_, _, _, _, _, _, e1, e2, hh⟩
    · simp only [decide_eq_false hu, b01_f, d_n00, cond_false] at e1
      simp only [decide_eq_false hu, b01_f, d_n00, cond_false] at e2
      exact ⟨_, _, _, _, _, _, e1, e2, hh⟩
  · simp only [c_two0 (A := A) (show 2 ≤ 59 by omega) c4 p4 g, pn_c1, d_00, cond_true] at e1
    simp only [r_two0 (B := B) (L := L) (show 3 ≤ 59 by omega) m4 p4 g, pn_c1, d_00, cond_true] at e2
    exact ⟨_, _, _, _, _, _, e1, e2, hh⟩
end CH
