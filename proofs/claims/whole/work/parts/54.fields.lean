/-! field and mean -/
theorem sl_le (m : Nat) : ∀ i, (sl m i).1 ≤ i
  | 0 => Nat.le_refl _
  | i + 1 => by
    have := sl_le m i
    simp only [sl]
    split
    · dsimp only; omega
    · omega
theorem d_24 : ∀ K, K ≤ 6 → decide ((2 : Int32) ≤ nI K ∧ nI K ≤ 4) = decide (2 ≤ K ∧ K ≤ 4) := by decide
theorem d_nI10 : decide (nI 1 = (0 : Int32)) = false := rfl
theorem d_nI00 : decide (nI 0 = (0 : Int32)) = true := rfl
theorem fL_two {X Y X' Y' g : Int} (hg : g = 1 ∨ g = -1) (hX : X.natAbs < 2 ^ 62) (hY : Y.natAbs < 2 ^ 62) (h0 : Y ≠ 0) (e1 : X' = g * X) (e2 : Y' = g * Y) (u : Int32) : fL (lI X') (lI Y') (if u = 0 then lI X' else lI Y') = fL (lI X) (lI Y) (if u = 0 then lI X else lI Y) := by
  rw [e1, e2]
  by_cases c : u = 0
  · rw [if_pos c, if_pos c]; exact fL_sgn hg hX hY hX h0
  · rw [if_neg c, if_neg c]; exact fL_sgn hg hX hY hY h0
theorem e_1452 : (1452 : Nat) ^ 3 = 3061257408 := by decide
theorem nat_sgn {g X : Int} (hg : g = 1 ∨ g = -1) : (g * X).natAbs = X.natAbs := by
  rcases hg with rfl | rfl
  · rw [Int.one_mul]
  · rw [Int.neg_one_mul, Int.natAbs_neg]
section FM
variable {I : Nat → Int32} {A : Nat → Nat → Int32} {J : Nat → Int32} {B : Nat → Nat → Int32} {L : Nat → Nat → Int64} {t : List zm_E} {s n m K : Nat} {w u : Nat → Nat}
theorem c_rf0 {d : Nat} (hd : 2 ≤ d) (hn : I 102 = nI n) (n6 : n ≤ 6) {x : Int32} (h : x < 0 ∨ nI (2 ^ n) ≤ x) : zC d 117 [.ref 0, .int x] (hC I A, t) = some (some (.int 0), (hC I A, t)) := by
  obtain ⟨d, rfl⟩ : ∃ e, d = e + 1 := ⟨d - 1, by omega⟩
  rw [e_X9_isRacingField, c_is0 (by omega) hn n6 h, pn_c1, d_n00, cond_false]
theorem c_rf {d : Nat} (hd : 6 ≤ d) (n6 : n ≤ 6) (hm : m < 2 ^ n) (hs : I 100 = nI s) (hn : I 102 = nI n) (hw : ∀ i, i < n → A 2 i = nI (w i)) (hl : ∀ i, i < n → w i < 100000) : ∃ I' A', (∀ t, zC d 117 [.ref 0, .int (nI m)] (hC I A, t) = some (some (.int (b01 (decide (2 ≤ (sl m n).1 ∧ (sl m n).1 ≤ 4) && !cls (sl m n).1 (fun k => w ((sl m n).2 k))))), (hC I' A', t))) ∧ (∀ c, c ≠ 2901 → c ≠ 2902 → I' c = I c) ∧ (∀ c, c ≠ 30 → A' c = A c) ∧ (2 ≤ (sl m n).1 → (sl m n).1 ≤ 4 → fdC s (sl m n).1 (fun k => w ((sl m n).2 k)) I' A') := by
  obtain ⟨d, rfl⟩ : ∃ e, d = e + 1 := ⟨d - 1, by omega⟩
  have h64 := p2_64 n6
  have hle := sl_le m n
  have e := fun t => e_X9_isRacingField d I A t (nI m)
  simp only [c_is1 (A := A) (show 1 ≤ d by omega) hn n6 hm, pn_c1, d_n10, cond_true, z_bc (show 1 ≤ d by omega) _ (show m < 64 by omega), ← sl_n n n6 m hm, F1, e_X9_isRacingField_at17] at e
  by_cases k2 : (sl m n).1 < 2
  · refine ⟨I, A, fun t => ?_, fun c _ _ => rfl, fun c _ => rfl, fun q => by omega⟩
    rw [e t, pn_t (show nI (sl m n).1 < (2 : Int32) from nI_lt (b := 2) k2 (by decide)), decide_eq_false (show ¬ (2 ≤ (sl m n).1 ∧ (sl m n).1 ≤ 4) from fun q => by omega)]
    rfl
  have nk2 : ¬ nI (sl m n).1 < (2 : Int32) := nI_nlt (b := 2) (by omega) (by omega)
  by_cases k4 : (sl m n).1 ≤ 4
  · obtain ⟨I', A', a1, a2, a3, a4⟩ := c_fill (I := I) (A := A) (d := d) (s := s) (by omega) n6 (show m < 64 by omega) k4 hs hn hw
    refine ⟨I', A', fun t => ?_, a2, a3, fun _ _ => a4⟩
    have ho := c_ho (t := t) (d := d) (by omega) k4 a4 (fun i hi => hl _ (sl_bit m n i hi).1)
    rw [e t, pn_f nk2, pn_t (show nI (sl m n).1 ≤ (4 : Int32) from nI_le (b := 4) k4 (by decide)), a1 t, pn_c0, F2, e_X9_isRacingField_at42, ho, pn_c1, decide_eq_true (show 2 ≤ (sl m n).1 ∧ (sl m n).1 ≤ 4 from ⟨by omega, k4⟩), Bool.true_and]
    cases cls (sl m n).1 (fun k => w ((sl m n).2 k)) with
    | true => rfl
    | false => rfl
  · refine ⟨I, A, fun t => ?_, fun c _ _ => rfl, fun c _ => rfl, fun _ q => by omega⟩
    rw [e t, pn_f nk2, pn_f (show ¬ nI (sl m n).1 ≤ (4 : Int32) from nI_ge (a := 4) (by omega) (by omega)), decide_eq_false (show ¬ (2 ≤ (sl m n).1 ∧ (sl m n).1 ≤ 4) from fun q => by omega)]
    rfl
theorem c_chP {d p : Nat} (hd : 8 ≤ d) (hs : s = 2 ∨ s = 3) (K2 : 2 ≤ K) (K4 : K ≤ 4) (hu : ∀ i, i < K → u i < 100000) (h : fdC s K u I A) (hne : sm K (wgt s u K) ≠ 0) (hp : p < K) (x : Int32) : ∃ A', (∀ t, zC d 22 [.ref 29, .int (nI p), .int x] (hC I A, t) = some (some (.long (fL (lI (wgt s u K p)) (lI (sm K (wgt s u K))) (if x = 0 then lI (wgt s u K p) else lI (sm K (wgt s u K))))), (hC I A', t))) ∧ ∀ c, c < 32 ∨ 34 < c → A' c = A c := by
  obtain ⟨d, rfl⟩ : ∃ e, d = e + 1 := ⟨d - 1, by omega⟩
  obtain ⟨A', a1, a2, a3⟩ := c_setA (s := s) (I := I) (A := A) (d := d) (by omega) (by omega) K4 hu h
  refine ⟨A', fun t => ?_, a2⟩
  have b1 := wgt_bd (u := u) (p := p) hs K2 K4
  have b2 := (whole_bd (u := u) hs K2 K4).1
  rw [e_1452] at b1 b2
  have t1 := lI_T (a := wgt s u K p) (by omega)
  have t2 := lI_T (a := sm K (wgt s u K)) (by omega)
  rw [e_X2_chancePart, pn_f (nI_pos (by omega)), h.1, pn_t (nI_lt hp (by omega)), a1 t, pn_c0, c_weight (by omega) hs K2 K4 h.1 a3 hp, pn_c2, c_whole (by omega) hs K2 K4 h.1 a3, pn_c2, s_partOf (by omega) _ _ _ x (by rw [t1]; omega) (by rw [t2]; omega) (by rw [t2]; exact hne), pn_c2]
theorem c_mnP {d : Nat} (hd : 9 ≤ d) (hs : s = 2 ∨ s = 3) (K2 : 2 ≤ K) (K4 : K ≤ 4) (hu : ∀ i, i < K → u i < 100000) (h : fdC s K u I A) (hne : sm K (wgt s u K) ≠ 0) (x : Int32) : ∃ A', (∀ t, zC d 23 [.ref 29, .int x] (hC I A, t) = some (some (.long (fL (lI (sm K (fun i => wgt s u K i * Nm s u i 0))) (lI (sm K (wgt s u K))) (if x = 0 then lI (sm K (fun i => wgt s u K i * Nm s u i 0)) else lI (sm K (wgt s u K))))), (hC I A', t))) ∧ ∀ c, c < 32 ∨ 34 < c → A' c = A c := by
  obtain ⟨d, rfl⟩ : ∃ e, d = e + 1 := ⟨d - 1, by omega⟩
  obtain ⟨A', a1, a2, a3⟩ := c_setA (s := s) (I := I) (A := A) (d := d) (by omega) (by omega) K4 hu h
  refine ⟨A', fun t => ?_, a2⟩
  have h' : fdC s K u I A' := ⟨h.1, h.2.1, fun k hk => by rw [a2 30 (by omega)]; exact h.2.2 k hk⟩
  have b := whole_bd (u := u) hs K2 K4
  rw [e_1452] at b
  have t1 := lI_T (a := sm K (fun i => wgt s u K i * Nm s u i 0)) (by omega)
  have t2 := lI_T (a := sm K (wgt s u K)) (by omega)
  have lp := c_meanL (t := t) d (by omega) hs K2 K4 hu h' a3 x K 0 10000000 (by omega) (by omega)
  rw [e_X2_meanPart, a1 t, pn_c0]
  refine Eq.trans lp ?_
  rw [s_partOf (by omega) _ _ _ x (by rw [t1]; omega) (by rw [t2]; omega) (by rw [t2]; exact hne), pn_c2]
theorem r_col (d : Nat) {e : Nat → Nat} (K4 : K ≤ 4) (hB : ∀ i, i < K → B 17 i = nI (e i)) (he : ∀ i, i < K → e i < 6) {v p : Nat} (hp : p < K) (hpv : e p = v) (hin : ∀ i, i < p → e i ≠ v) (x1 x3 : Int32) : ∀ (j i f : Nat), i + j = p → j < f → zR d f 164 57 [some (.ref 1000), some (.int x1), some (.int (nI v)), some (.int x3), some (.int (nI i))] [] (t, hM J B L) = (zm_c2 (zC d 163 [(.ref 1000), (.int (nI p)), (.int x3)] (t, hM J B L)) fun v2 h1 => some (some (.long v2), h1)) := by
  intro j
  induction j with
  | zero =>
    intro i f hi hf
    obtain ⟨f, rfl⟩ : ∃ e, f = e + 1 := ⟨f - 1, by omega⟩
    have e0 : i = p := by omega
    subst e0
    rw [e_X10_field_at57, pn_in (show i < 4 by omega) (by decide), cond_true, pn_cl (by omega), hB i hp, hpv, pn_t rfl]
  | succ j ih =>
    intro i f hi hf
    obtain ⟨f, rfl⟩ : ∃ e, f = e + 1 := ⟨f - 1, by omega⟩
    have ei := he i (by omega)
    have ep := he p hp
    have ne : ¬ nI (e i) = nI v := fun q => hin i (by omega) ((nI_eq (by omega) (by omega)).mp q)
    rw [e_X10_field_at57, pn_in (show i < 4 by omega) (by decide), cond_true, pn_cl (by omega), hB i (by omega), pn_f ne, nI_1]
    exact ih (i + 1) f (by omega) (by omega)
theorem P_field (h : Rel I A J B) (x y u : Int32) : AnsL 88 164 [.int x, .int y, .int u] I A J B L := by
  have hh := h
  obtain ⟨⟨⟨s, ⟨n, w⟩, ⟨z, l⟩, ⟨p, k, o⟩, ⟨r, a, v⟩⟩, hv, hc, hm⟩, -⟩ := h
  have hs : s = 2 ∨ s = 3 := hv.1
  have c1 : I 100 = nI s := hc.1
  have m1 : J 0 = nI s := hm.1
  have c2 : I 102 = nI n := hc.2.1.1
  have m2 : J 2 = nI n := hm.2.1.1
  have n6 : n ≤ 6 := hv.2.1.1
  have hw : ∀ i, i < n → okw s (w i) = true := hv.2.1.2
  have aw : ∀ i, i < n → A 2 i = nI (w i) := hc.2.1.2
  have bw : ∀ i, i < n → B 1 i = nI (w i) := hm.2.1.2
  have h64 := p2_64 n6
  have e1 := fun t => e_X9_field 59 I A t x y u
  have e2 := fun t => e_X10_field 59 J B L t x y u
  have no : ∀ q : x < 0 ∨ nI (2 ^ n) ≤ x, AnsL 88 164 [.int x, .int y, .int u] I A J B L := fun q => by
    simp only [c_rf0 (A := A) (show 2 ≤ 59 by omega) c2 n6 q, pn_c1, F1, e_X9_field_at5, d_00, cond_true] at e1
    simp only [r_setsN (B := B) (L := L) (show 2 ≤ 59 by omega) n6 m2 q, pn_c1, F1, e_X10_field_at5, d_00, cond_true] at e2
    exact ⟨_, _, _, _, _, _, e1, e2, hh⟩
  rcases pk_ix x (n := 2 ^ n) (by omega) with q | q | ⟨m, ml, rfl⟩
  · exact no (Or.inl q)
  · exact no (Or.inr q)
  have hle := sl_le m n
  obtain ⟨I1, A1, r1, r2, r3, r4⟩ := c_rf (I := I) (A := A) (d := 59) (by omega) n6 ml c1 c2 aw (fun i hi => (okw_lt (hw i hi)).2)
  obtain ⟨J1, B1, q1, q2, q3, q4, q5⟩ := r_sets (J := J) (B := B) (L := L) (d := 59) (by omega) n6 ml m2
  have rel : Rel I1 A1 J1 B1 := Rel_fr hh (fun c hc => r2 c (by omega) (by omega)) (fun c h1 h2 => r3 c (by omega)) (fun c hc => q2 c (by omega)) (fun c hc => q3 c (by omega))
  have i1 : I1 102 = nI n := (r2 102 (by decide) (by decide)).trans c2
  have j1 : J1 2 = nI n := (q2 2 (by decide)).trans m2
  have j0 : J1 0 = nI s := (q2 0 (by decide)).trans m1
  simp only [r1, pn_c1, F1, e_X9_field_at5] at e1
  simp only [q1, pn_c1, F1, e_X10_field_at5, d_10, cond_false, r_in (show 1 ≤ 59 by omega), q4, d_24 _ (Nat.le_trans hle n6)] at e2
  by_cases k24 : 2 ≤ (sl m n).1 ∧ (sl m n).1 ≤ 4
  rotate_left
  · simp only [decide_eq_false k24, Bool.false_and, b01_f, d_00, cond_true] at e1
    simp only [decide_eq_false k24, b01_f, d_00, cond_true] at e2
    exact ⟨_, _, _, _, _, _, e1, e2, rel⟩
  have hf := r4 k24.1 k24.2
  have hfm := q5 k24.2
  have he : ∀ i, i < (sl m n).1 → (sl m n).2 i < n := fun i hi => (sl_bit m n i hi).1
  have he6 : ∀ i, i < (sl m n).1 → (sl m n).2 i < 6 := fun i hi => Nat.lt_of_lt_of_le (he i hi) n6
  have hbw : ∀ i, i < (sl m n).1 → B1 1 ((sl m n).2 i) = nI (w ((sl m n).2 i)) ∧ 1 ≤ w ((sl m n).2 i) ∧ w ((sl m n).2 i) < 100000 := fun i hi => ⟨by rw [q3 1 (by decide)]; exact bw _ (he i hi), okw_lt (hw _ (he i hi))⟩
  have isf := fun t => r_isField (t := t) (J := J1) (B := B1) (L := L) (d := 59) (u := fun k => w ((sl m n).2 k)) (by omega) k24.2 hfm he6 hbw
  simp only [decide_eq_true k24, Bool.true_and] at e1
  simp only [decide_eq_true k24, b01_t, d_10, cond_false] at e2
  cases hb : cls (sl m n).1 (fun k => w ((sl m n).2 k)) with
  | true =>
    simp only [hb, Bool.not_true, b01_f, d_00, cond_true] at e1
    have no2 : ∀ q : y < 0 ∨ nI n ≤ y, AnsL 88 164 [.int (nI m), .int y, .int u] I A J B L := fun q => by
      simp only [r_iw0 (B := B1) (L := L) (show 2 ≤ 59 by omega) j1 n6 q, pn_c1, d_00, cond_true] at e2
      exact ⟨_, _, _, _, _, _, e1, e2, rel⟩
    rcases pk_ix y (n := n) (by omega) with q | q | ⟨v, vl, rfl⟩
    · exact no2 (Or.inl q)
    · exact no2 (Or.inr q)
    simp only [r_iw1 (B := B1) (L := L) (show 2 ≤ 59 by omega) j1 n6 vl, pn_c1, d_10, cond_false, b_bit m (show m < 64 by omega) v (show v < 6 by omega)] at e2
    by_cases c : m / 2 ^ v % 2 = 1
    · simp only [c, d_nI10, cond_false, r_isPart (show 1 ≤ 59 by omega), pn_c1] at e2
      by_cases hu : u = 0 ∨ u = 1
      · simp only [decide_eq_true hu, b01_t, d_10, cond_false, isf, hb, Bool.not_true, b01_f, pn_c1, d_n00] at e2
        exact ⟨_, _, _, _, _, _, e1, e2, rel⟩
      · simp only [decide_eq_false hu, b01_f, d_00, cond_true] at e2
        exact ⟨_, _, _, _, _, _, e1, e2, rel⟩
    · simp only [show m / 2 ^ v % 2 = 0 by omega, d_nI00, cond_true] at e2
      exact ⟨_, _, _, _, _, _, e1, e2, rel⟩
  | false =>
    simp only [hb, Bool.not_false, b01_t, d_10, cond_false] at e1
    have no2 : ∀ q : y < 0 ∨ nI n ≤ y, AnsL 88 164 [.int (nI m), .int y, .int u] I A J B L := fun q => by
      simp only [c_iis0 (A := A1) (show 2 ≤ 59 by omega) i1 q, pn_c1, d_00, cond_true] at e1
      simp only [r_iw0 (B := B1) (L := L) (show 2 ≤ 59 by omega) j1 n6 q, pn_c1, d_00, cond_true] at e2
      exact ⟨_, _, _, _, _, _, e1, e2, rel⟩
    rcases pk_ix y (n := n) (by omega) with q | q | ⟨v, vl, rfl⟩
    · exact no2 (Or.inl q)
    · exact no2 (Or.inr q)
    simp only [c_iis1 (A := A1) (show 2 ≤ 59 by omega) i1 n6 (show m < 64 by omega) vl, pn_c1] at e1
    simp only [r_iw1 (B := B1) (L := L) (show 2 ≤ 59 by omega) j1 n6 vl, pn_c1, d_10, cond_false, b_bit m (show m < 64 by omega) v (show v < 6 by omega)] at e2
    by_cases c : m / 2 ^ v % 2 = 1
    rotate_left
    · simp only [decide_eq_false c, b01_f, d_00, cond_true] at e1
      simp only [show m / 2 ^ v % 2 = 0 by omega, d_nI00, cond_true] at e2
      exact ⟨_, _, _, _, _, _, e1, e2, rel⟩
    simp only [decide_eq_true c, b01_t, d_10, cond_false, s_isPart (show 1 ≤ 59 by omega), pn_c1] at e1
    simp only [c, d_nI10, cond_false, r_isPart (show 1 ≤ 59 by omega), pn_c1] at e2
    by_cases hu : u = 0 ∨ u = 1
    rotate_left
    · simp only [decide_eq_false hu, b01_f, F2, e_X9_field_at24, d_n00, cond_false] at e1
      simp only [decide_eq_false hu, b01_f, d_00, cond_true] at e2
      exact ⟨_, _, _, _, _, _, e1, e2, rel⟩
    have hok : ∀ i, i < (sl m n).1 → okw s (w ((sl m n).2 i)) = true := fun i hi => hw _ (he i hi)
    have hne := whole_ne (u := fun k => w ((sl m n).2 k)) hs k24.1 k24.2 hok (cls_apt hb)
    obtain ⟨hp, hpv⟩ := sl_at m n v vl c
    obtain ⟨g, hg, d1, d2⟩ := det_up (s := s) (u := fun k => w ((sl m n).2 k)) k24.1 k24.2 hp
    have b1 := wgt_bd (u := fun k => w ((sl m n).2 k)) (p := (sl m v).1) hs k24.1 k24.2
    have b2 := (whole_bd (u := fun k => w ((sl m n).2 k)) hs k24.1 k24.2).1
    rw [e_1452] at b1 b2
    obtain ⟨A2, f1, f2⟩ := c_chP (I := I1) (A := A1) (d := 59) (by omega) hs k24.1 k24.2 (fun i hi => (hbw i hi).2.2) hf hne hp u
    obtain ⟨L2, g1⟩ := r_solved (J := J1) (B := B1) (L := L) (d := 59) (x1 := nI (sl m v).1) (p := u) (by omega) hs j0 hfm.1 k24.2 he6 hfm.2 (fun i hi => ⟨(hbw i hi).1, (hbw i hi).2.2⟩) (col := fun c => decide (c = (sl m v).1)) (fun c hc => by
      rw [nI_eq (by omega) (by omega)]
      exact (decide_eq_true_iff).symm) (by rw [d1, nat_sgn hg]; omega) (by rw [d2, nat_sgn hg]; omega) (by
      rw [d2]
      intro q
      have := nat_sgn (X := sm (sl m n).1 (wgt s (fun k => w ((sl m n).2 k)) (sl m n).1)) hg
      rw [q] at this
      exact hne (Int.natAbs_eq_zero.mp this.symm))
    simp only [decide_eq_true hu, b01_t, F2, e_X9_field_at24, d_n10, cond_true, s_place (show 2 ≤ 59 by omega) _ (show m < 64 by omega) (show v < 6 by omega), pn_c1, f1, pn_c2] at e1
    have sc : ∀ t, zR 59 9999999 164 57 [some (.ref 1000), some (.int (nI m)), some (.int (nI v)), some (.int u), some (.int 0)] [] (t, hM J1 B1 L) = (zm_c2 (zC 59 163 [(.ref 1000), (.int (nI (sl m v).1)), (.int u)] (t, hM J1 B1 L)) fun v2 h1 => some (some (.long v2), h1)) := fun t => r_col (t := t) (J := J1) (B := B1) (L := L) 59 k24.2 hfm.2 he6 hp hpv (fun i hi q => by
      have := sl_inj m n i (sl m v).1 (by omega) hp (q.trans hpv.symm)
      omega) (nI m) u (sl m v).1 0 9999999 (by omega) (by omega)
    simp only [decide_eq_true hu, b01_t, d_10, cond_false, isf, hb, Bool.not_false, pn_c1, d_n10, cond_true, sc, g1, pn_c2] at e2
    rw [fL_two hg (by omega) (by omega) hne d1 d2 u] at e2
    exact ⟨_, _, _, _, _, _, e1, e2, Rel_fr hh (fun c hc => r2 c (by omega) (by omega)) (fun c h1 h2 => (f2 c (by omega)).trans (r3 c (by omega))) (fun c hc => q2 c (by omega)) (fun c hc => q3 c (by omega))⟩
theorem P_mean (h : Rel I A J B) (x u : Int32) : AnsL 89 165 [.int x, .int u] I A J B L := by
  have hh := h
  obtain ⟨⟨⟨s, ⟨n, w⟩, ⟨z, l⟩, ⟨p, k, o⟩, ⟨r, a, v⟩⟩, hv, hc, hm⟩, -⟩ := h
  have hs : s = 2 ∨ s = 3 := hv.1
  have c1 : I 100 = nI s := hc.1
  have m1 : J 0 = nI s := hm.1
  have c2 : I 102 = nI n := hc.2.1.1
  have m2 : J 2 = nI n := hm.2.1.1
  have n6 : n ≤ 6 := hv.2.1.1
  have hw : ∀ i, i < n → okw s (w i) = true := hv.2.1.2
  have aw : ∀ i, i < n → A 2 i = nI (w i) := hc.2.1.2
  have bw : ∀ i, i < n → B 1 i = nI (w i) := hm.2.1.2
  have h64 := p2_64 n6
  have e1 := fun t => e_X9_mean 59 I A t x u
  have e2 := fun t => e_X10_mean 59 J B L t x u
  have no : ∀ q : x < 0 ∨ nI (2 ^ n) ≤ x, AnsL 89 165 [.int x, .int u] I A J B L := fun q => by
    simp only [c_rf0 (A := A) (show 2 ≤ 59 by omega) c2 n6 q, pn_c1, d_00, cond_true] at e1
    simp only [r_setsN (B := B) (L := L) (show 2 ≤ 59 by omega) n6 m2 q, pn_c1, F1, e_X10_mean_at5, d_00, cond_true] at e2
    exact ⟨_, _, _, _, _, _, e1, e2, hh⟩
  rcases pk_ix x (n := 2 ^ n) (by omega) with q | q | ⟨m, ml, rfl⟩
  · exact no (Or.inl q)
  · exact no (Or.inr q)
  have hle := sl_le m n
  obtain ⟨I1, A1, r1, r2, r3, r4⟩ := c_rf (I := I) (A := A) (d := 59) (by omega) n6 ml c1 c2 aw (fun i hi => (okw_lt (hw i hi)).2)
  obtain ⟨J1, B1, q1, q2, q3, q4, q5⟩ := r_sets (J := J) (B := B) (L := L) (d := 59) (by omega) n6 ml m2
  have rel : Rel I1 A1 J1 B1 := Rel_fr hh (fun c hc => r2 c (by omega) (by omega)) (fun c h1 h2 => r3 c (by omega)) (fun c hc => q2 c (by omega)) (fun c hc => q3 c (by omega))
  have j0 : J1 0 = nI s := (q2 0 (by decide)).trans m1
  simp only [r1, pn_c1] at e1
  simp only [q1, pn_c1, F1, e_X10_mean_at5, d_10, cond_false, r_in (show 1 ≤ 59 by omega), q4, d_24 _ (Nat.le_trans hle n6)] at e2
  by_cases k24 : 2 ≤ (sl m n).1 ∧ (sl m n).1 ≤ 4
  rotate_left
  · simp only [decide_eq_false k24, Bool.false_and, b01_f, d_00, cond_true] at e1
    simp only [decide_eq_false k24, b01_f, d_00, cond_true] at e2
    exact ⟨_, _, _, _, _, _, e1, e2, rel⟩
  have hf := r4 k24.1 k24.2
  have hfm := q5 k24.2
  have he : ∀ i, i < (sl m n).1 → (sl m n).2 i < n := fun i hi => (sl_bit m n i hi).1
  have he6 : ∀ i, i < (sl m n).1 → (sl m n).2 i < 6 := fun i hi => Nat.lt_of_lt_of_le (he i hi) n6
  have hbw : ∀ i, i < (sl m n).1 → B1 1 ((sl m n).2 i) = nI (w ((sl m n).2 i)) ∧ 1 ≤ w ((sl m n).2 i) ∧ w ((sl m n).2 i) < 100000 := fun i hi => ⟨by rw [q3 1 (by decide)]; exact bw _ (he i hi), okw_lt (hw _ (he i hi))⟩
  have isf := fun t => r_isField (t := t) (J := J1) (B := B1) (L := L) (d := 59) (u := fun k => w ((sl m n).2 k)) (by omega) k24.2 hfm he6 hbw
  simp only [decide_eq_true k24, Bool.true_and] at e1
  simp only [decide_eq_true k24, b01_t, d_10, cond_false, r_isPart (show 1 ≤ 59 by omega), pn_c1] at e2
  cases hb : cls (sl m n).1 (fun k => w ((sl m n).2 k)) with
  | true =>
    simp only [hb, Bool.not_true, b01_f, d_00, cond_true] at e1
    by_cases hu : u = 0 ∨ u = 1
    · simp only [decide_eq_true hu, b01_t, d_10, cond_false, isf, hb, Bool.not_true, b01_f, pn_c1, F2, e_X10_mean_at31, d_n00] at e2
      exact ⟨_, _, _, _, _, _, e1, e2, rel⟩
    · simp only [decide_eq_false hu, b01_f, d_00, cond_true] at e2
      exact ⟨_, _, _, _, _, _, e1, e2, rel⟩
  | false =>
    simp only [hb, Bool.not_false, b01_t, d_10, cond_false, s_isPart (show 1 ≤ 59 by omega), pn_c1] at e1
    by_cases hu : u = 0 ∨ u = 1
    rotate_left
    · simp only [decide_eq_false hu, b01_f, F1, e_X9_mean_at12, d_n00, cond_false] at e1
      simp only [decide_eq_false hu, b01_f, d_00, cond_true] at e2
      exact ⟨_, _, _, _, _, _, e1, e2, rel⟩
    have hok : ∀ i, i < (sl m n).1 → okw s (w ((sl m n).2 i)) = true := fun i hi => hw _ (he i hi)
    have hne := whole_ne (u := fun k => w ((sl m n).2 k)) hs k24.1 k24.2 hok (cls_apt hb)
    obtain ⟨g, hg, d1, d2⟩ := det_sum (s := s) (u := fun k => w ((sl m n).2 k)) k24.1 k24.2
    have b0 := whole_bd (u := fun k => w ((sl m n).2 k)) hs k24.1 k24.2
    rw [e_1452] at b0
    have b1 := b0.1
    have b2 := b0.2
    obtain ⟨A2, f1, f2⟩ := c_mnP (I := I1) (A := A1) (d := 59) (by omega) hs k24.1 k24.2 (fun i hi => (hbw i hi).2.2) hf hne u
    obtain ⟨L2, g1⟩ := r_solved (J := J1) (B := B1) (L := L) (d := 59) (x1 := nI (sl m n).1) (p := u) (by omega) hs j0 hfm.1 k24.2 he6 hfm.2 (fun i hi => ⟨(hbw i hi).1, (hbw i hi).2.2⟩) (col := fun c => decide (c = (sl m n).1)) (fun c hc => by
      rw [nI_eq (by omega) (by omega)]
      exact (decide_eq_true_iff).symm) (by rw [d1, nat_sgn hg]; omega) (by rw [d2, nat_sgn hg]; omega) (by
      rw [d2]
      intro q
      have := nat_sgn (X := sm (sl m n).1 (wgt s (fun k => w ((sl m n).2 k)) (sl m n).1)) hg
      rw [q] at this
      exact hne (Int.natAbs_eq_zero.mp this.symm))
    simp only [decide_eq_true hu, b01_t, F1, e_X9_mean_at12, d_n10, cond_true, f1, pn_c2] at e1
    simp only [decide_eq_true hu, b01_t, d_10, cond_false, isf, hb, Bool.not_false, pn_c1, F2, e_X10_mean_at31, d_n10, cond_true, q4, g1, pn_c2] at e2
    rw [fL_two hg (by omega) (by omega) hne d1 d2 u] at e2
    exact ⟨_, _, _, _, _, _, e1, e2, Rel_fr hh (fun c hc => r2 c (by omega) (by omega)) (fun c h1 h2 => (f2 c (by omega)).trans (r3 c (by omega))) (fun c hc => q2 c (by omega)) (fun c hc => q3 c (by omega))⟩
end FM
