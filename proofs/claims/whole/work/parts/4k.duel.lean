/-! the run of 60 throws, as one function that nothing unfolds -/
theorem du_ex : ∃ F : Nat → Nat → Nat → Int32 → Nat × Nat, ∀ s a b x, F s a b x = dul s a b 60 0 x 0 := ⟨fun s a b x => dul s a b 60 0 x 0, fun _ _ _ _ => rfl⟩
noncomputable def du60 : Nat → Nat → Nat → Int32 → Nat × Nat := Classical.choose du_ex
theorem du_def (s a b : Nat) (x : Int32) : du60 s a b x = dul s a b 60 0 x 0 := Classical.choose_spec du_ex s a b x
theorem du_le (s a b : Nat) (x : Int32) : (du60 s a b x).2 ≤ 60 ∧ (du60 s a b x).1 ≤ 2 ∧ ((du60 s a b x).1 = 2 → (du60 s a b x).2 = 60) ∧ 0 ≤ (du60 s a b x).2 := by
  have h := dul_le (s := s) (a := a) (b := b) 60 0 x 0
  rw [← du_def] at h
  exact h
theorem c_run2 {I : Nat → Int32} {A : Nat → Nat → Int32} {d s a b : Nat} {sd : Int32} (hd : 4 ≤ d) (hs : s = 2 ∨ s = 3) (ha1 : 1 ≤ a) (ha : a < 100000) (hb1 : 1 ≤ b) (hb : b < 100000) : ∃ I', (∀ t, zC d 19 [.ref 44, .int (nI a), .int (nI b), .int sd, .int (nI s)] (hC I A, t) = some (none, (hC I' A, t))) ∧ (∀ c, c ≠ 4400 → c ≠ 4401 → I' c = I c) ∧ I' 4400 = wI (du60 s a b sd).1 ∧ I' 4401 = nI (du60 s a b sd).2 := by
  rw [du_def]
  exact c_run hd hs ha1 ha hb1 hb
theorem r_duels2 {J : Nat → Int32} {B : Nat → Nat → Int32} {L : Nat → Nat → Int64} {t : List zm_E} {d s a b : Nat} {sd : Int32} (hd : 2 ≤ d) (hJ : J 0 = nI s) (hs : s = 2 ∨ s = 3) (ha : a < 100000) (hb : b < 100000) : zC d 193 [.ref 1000, .int (nI a), .int (nI b), .int sd] (t, hM J B L) = some (some (.int (nI (dlN (du60 s a b sd)))), (t, hM J B L)) := by
  rw [du_def]
  exact r_duels hd hJ hs ha hb
/-! duel, odds -/
section DU
variable {I : Nat → Int32} {A : Nat → Nat → Int32} {J : Nat → Int32} {B : Nat → Nat → Int32} {L : Nat → Nat → Int64} {t : List zm_E} {p n : Nat}
theorem c_tw0 {d : Nat} (hd : 2 ≤ d) (hp : I 102 = nI p) (p4 : p ≤ 6) {x y : Int32} (h : ¬ two p x y) : zC d 2 [.ref 1, .int x, .int y] (hC I A, t) = some (some (.int 0), (hC I A, t)) := by
  obtain ⟨d, rfl⟩ : ∃ e, d = e + 1 := ⟨d - 1, by omega⟩
  have nx : ∀ q : x < 0 ∨ nI p ≤ x, zC (d + 1) 2 [.ref 1, .int x, .int y] (hC I A, t) = some (some (.int 0), (hC I A, t)) := fun q => by
    rw [e_X0_areTwoWords, c_hw0 (by omega) hp q, pn_c1, d_00, cond_true]
  rcases pk_ix x (n := p) (by omega) with q | q | ⟨i, hi, rfl⟩
  · exact nx (Or.inl q)
  · exact nx (Or.inr q)
  have ny : ∀ q : y < 0 ∨ nI p ≤ y, zC (d + 1) 2 [.ref 1, .int (nI i), .int y] (hC I A, t) = some (some (.int 0), (hC I A, t)) := fun q => by
    rw [e_X0_areTwoWords, c_hw1 (by omega) hp p4 hi, pn_c1, d_10, cond_false, c_hw0 (by omega) hp q, pn_c1, d_00, cond_true]
  rcases pk_ix y (n := p) (by omega) with q | q | ⟨j, hj, rfl⟩
  · exact ny (Or.inl q)
  · exact ny (Or.inr q)
  have e : i = j := by
    rcases Nat.decEq i j with q | q
    · exact absurd ⟨i, j, hi, hj, q, rfl, rfl⟩ h
    · exact q
  rw [e_X0_areTwoWords, c_hw1 (by omega) hp p4 hi, pn_c1, d_10, cond_false, c_hw1 (by omega) hp p4 hj, pn_c1, d_10, cond_false, pn_t (by rw [e])]
theorem c_tw1 {d i j : Nat} (hd : 2 ≤ d) (hp : I 102 = nI p) (p4 : p ≤ 6) (hi : i < p) (hj : j < p) (h : i ≠ j) : zC d 2 [.ref 1, .int (nI i), .int (nI j)] (hC I A, t) = some (some (.int 1), (hC I A, t)) := by
  obtain ⟨d, rfl⟩ : ∃ e, d = e + 1 := ⟨d - 1, by omega⟩
  rw [e_X0_areTwoWords, c_hw1 (by omega) hp p4 hi, pn_c1, d_10, cond_false, c_hw1 (by omega) hp p4 hj, pn_c1, d_10, cond_false, pn_eq (by omega) (by omega), pn_f h]
theorem P_duel (h : Rel I A J B) (x y sd u : Int32) : Ans 103 194 [.int x, .int y, .int sd, .int u] I A J B L := by
  have hh := h
  obtain ⟨⟨⟨s, ⟨n, w⟩, ⟨z, l⟩, ⟨p, k, o⟩, ⟨r, a, v⟩⟩, hv, hc, hm⟩, -⟩ := h
  have c1 : I 100 = nI s := hc.1
  have m1 : J 0 = nI s := hm.1
  have c2 : I 102 = nI n := hc.2.1.1
  have m2 : J 2 = nI n := hm.2.1.1
  have n6 : n ≤ 6 := hv.2.1.1
  have e1 := fun t => e_X9_duel 59 I A t x y sd u
  have e2 := fun t => e_X10_duel 59 J B L t x y sd u
  by_cases g : two n x y
  · obtain ⟨i, j, hi, hj, hij, rfl, rfl⟩ := g
    have wi := okw_lt (hv.2.1.2 i hi)
    have wj := okw_lt (hv.2.1.2 j hj)
    have a1 : A 2 i = nI (w i) := hc.2.1.2 i hi
    have a2 : A 2 j = nI (w j) := hc.2.1.2 j hj
    have b1 : B 1 i = nI (w i) := hm.2.1.2 i hi
    have b2 : B 1 j = nI (w j) := hm.2.1.2 j hj
    have nij : ¬ nI i = nI j := fun q => hij ((nI_eq (by omega) (by omega)).mp q)
    simp only [c_tw1 (A := A) (show 2 ≤ 59 by omega) c2 n6 hi hj hij, pn_c1, F1, e_X9_duel_at9, d_10, cond_false] at e1
    simp only [r_iw1 (B := B) (L := L) (show 2 ≤ 59 by omega) m2 n6 hi, r_iw1 (B := B) (L := L) (show 2 ≤ 59 by omega) m2 n6 hj, pn_c1, d_10, cond_false, pn_f nij, r_in (show 1 ≤ 59 by omega), F1, e_X10_duel_at28] at e2
    by_cases g : ∃ j, j ≤ 1 ∧ u = nI j
    · have g' : decide (0 ≤ u ∧ u ≤ 1) = true := (i_02 (n := 1) (by omega)).mpr g
      simp only [g', b01_t, d_n10, cond_true, pn_in (show i < 6 by omega) (show 6 < 2 ^ 31 by omega), pn_in (show j < 6 by omega) (show 6 < 2 ^ 31 by omega), pn_cl (show i < 2 ^ 31 by omega), pn_cl (show j < 2 ^ 31 by omega), b1, b2, r_apart (show 3 ≤ 59 by omega) _ wi.1 wi.2 wj.1 wj.2, pn_c1, F2, e_X10_duel_at48] at e2
      obtain ⟨c, hc', rfl⟩ := g
      simp only [pn_f (nI_pos (show c < 2 ^ 31 by omega)), pn_t (show nI c ≤ (1 : Int32) from nI_le (b := 1) hc' (by decide)), c_wa (A := A) (show 2 ≤ 59 by omega) c2 n6 hi, pn_c1, a1, F2, e_X9_duel_at33, c_wa (A := A) (show 2 ≤ 59 by omega) c2 n6 hj, a2, s_clash (show 3 ≤ 59 by omega) _ (show w i < 2 ^ 31 by omega) (show w j < 2 ^ 31 by omega), F3, e_X9_duel_at52] at e1
      cases hb : (inn (w i) (w j) || inn (w j) (w i)) with
      | true =>
        simp only [hb, b01_t, d_10, cond_false] at e1
        simp only [hb, Bool.not_true, b01_f, d_n00, cond_false] at e2
        exact ⟨_, _, _, _, _, _, e1, e2, hh⟩
      | false =>
        obtain ⟨I', r1, r2, r3, r4⟩ := c_run2 (I := I) (A := A) (sd := sd) (show 4 ≤ 59 by omega) hv.1 wi.1 wi.2 wj.1 wj.2
        have hdl := du_le s (w i) (w j) sd
        simp only [hb, b01_f, d_00, cond_true, c1, r1, pn_c0, F4, e_X9_duel_at77, r3, r4] at e1
        simp only [hb, Bool.not_false, b01_t, d_n10, cond_true, pn_in (show i < 6 by omega) (show 6 < 2 ^ 31 by omega), pn_in (show j < 6 by omega) (show 6 < 2 ^ 31 by omega), pn_cl (show i < 2 ^ 31 by omega), pn_cl (show j < 2 ^ 31 by omega), b1, b2, r_duels2 (show 2 ≤ 59 by omega) m1 hv.1 wi.2 wj.2, pn_c1] at e2
        have hR : Rel I' A J B := Rel_fr hh (fun c hc => r2 c (by omega) (by omega)) (fun c _ _ => rfl) (fun c _ => rfl) (fun c _ => rfl)
        generalize du60 s (w i) (w j) sd = Q at e1 e2 hdl
        obtain ⟨W, N⟩ := Q
        dsimp only at e1 e2 hdl
        have hj' : c = 0 ∨ c = 1 := by omega
        have hW : W = 0 ∨ W = 1 ∨ W = 2 := by omega
        rcases hj' with rfl | rfl
        · simp only [pn_f (show ¬ ¬ nI 0 = 0 by decide)] at e1
          simp only [pn_t (show ¬ nI 0 = 1 by decide)] at e2
          rcases hW with rfl | rfl | rfl
          · have hN : dlN (0, N) = N := dlN_0 N
            simp only [hN, pn_t (show nI N < (200 : Int32) from nI_lt (b := 200) (by omega) (by decide)), show nI N / 100 = nI (N / 100) from pk_div (d := 100) (by omega) (by decide) (by decide), show N / 100 = 0 by omega] at e2
            exact ⟨_, _, _, _, _, _, e1, e2, hR⟩
          · have hN : dlN (1, N) = 100 + N := dlN_1 N
            simp only [hN, pn_t (show nI (100 + N) < (200 : Int32) from nI_lt (b := 200) (by omega) (by decide)), show nI (100 + N) / 100 = nI ((100 + N) / 100) from pk_div (d := 100) (by omega) (by decide) (by decide), show (100 + N) / 100 = 1 by omega] at e2
            exact ⟨_, _, _, _, _, _, e1, e2, hR⟩
          · have hN : dlN (2, N) = 260 := rfl
            simp only [hN, pn_f (show ¬ nI 260 < (200 : Int32) by decide)] at e2
            exact ⟨_, _, _, _, _, _, e1, e2, hR⟩
        · simp only [pn_t (show ¬ nI 1 = 0 by decide)] at e1
          simp only [pn_f (show ¬ ¬ nI 1 = 1 by decide)] at e2
          have hN : dlN (W, N) < 2 ^ 31 ∧ dlN (W, N) % 100 = N := by
            rcases hW with rfl | rfl | rfl
            · rw [dlN_0]; omega
            · rw [dlN_1]; omega
            · have := hdl.2.2.1 rfl
              unfold dlN; rw [if_pos rfl]; omega
          simp only [show nI (dlN (W, N)) - nI (dlN (W, N)) / 100 * 100 = nI (dlN (W, N) % 100) from pk_rem (d := 100) hN.1 (by decide) (by decide), hN.2] at e2
          exact ⟨_, _, _, _, _, _, e1, e2, hR⟩
    · have g' : decide (0 ≤ u ∧ u ≤ 1) = false := Bool.eq_false_iff.mpr (fun q => g ((i_02 (n := 1) (by omega)).mp q))
      simp only [g', b01_f, d_n00, cond_false] at e2
      by_cases u0 : u < 0
      · simp only [pn_t u0] at e1
        exact ⟨_, _, _, _, _, _, e1, e2, hh⟩
      · have u1 : ¬ u ≤ 1 := fun q => by
          have := (decide_eq_true_eq (p := 0 ≤ u ∧ u ≤ 1)).mpr ⟨Int32.not_lt.mp u0, q⟩
          rw [g'] at this
          cases this
        simp only [pn_f u0, pn_f u1] at e1
        exact ⟨_, _, _, _, _, _, e1, e2, hh⟩
  · simp only [c_tw0 (A := A) (show 2 ≤ 59 by omega) c2 n6 g, pn_c1, F1, e_X9_duel_at9, d_00, cond_true] at e1
    rcases pk_ix x (n := n) (by omega) with q | q | ⟨i, hi, rfl⟩
    · simp only [r_iw0 (B := B) (L := L) (show 2 ≤ 59 by omega) m2 n6 (Or.inl q), pn_c1, d_00, cond_true] at e2
      exact ⟨_, _, _, _, _, _, e1, e2, hh⟩
    · simp only [r_iw0 (B := B) (L := L) (show 2 ≤ 59 by omega) m2 n6 (Or.inr q), pn_c1, d_00, cond_true] at e2
      exact ⟨_, _, _, _, _, _, e1, e2, hh⟩
    simp only [r_iw1 (B := B) (L := L) (show 2 ≤ 59 by omega) m2 n6 hi, pn_c1, d_10, cond_false] at e2
    rcases pk_ix y (n := n) (by omega) with q | q | ⟨j, hj, rfl⟩
    · simp only [r_iw0 (B := B) (L := L) (show 2 ≤ 59 by omega) m2 n6 (Or.inl q), pn_c1, d_00, cond_true] at e2
      exact ⟨_, _, _, _, _, _, e1, e2, hh⟩
    · simp only [r_iw0 (B := B) (L := L) (show 2 ≤ 59 by omega) m2 n6 (Or.inr q), pn_c1, d_00, cond_true] at e2
      exact ⟨_, _, _, _, _, _, e1, e2, hh⟩
    have e : i = j := by
      rcases Nat.decEq i j with q | q
      · exact absurd ⟨i, j, hi, hj, q, rfl, rfl⟩ g
      · exact q
    subst e
    simp only [r_iw1 (B := B) (L := L) (show 2 ≤ 59 by omega) m2 n6 hi, pn_c1, d_10, cond_false, pn_t (show nI i = nI i from rfl)] at e2
    exact ⟨_, _, _, _, _, _, e1, e2, hh⟩
/-- how many of m seeds from i on (j left) the first one wins -/
noncomputable def won (s a b : Nat) (sd : Int32) : Nat → Nat → Nat → Nat
  | 0, _, c => c
  | j + 1, i, c => won s a b sd j (i + 1) (if (du60 s a b (sd + nI i)).1 = 0 then c + 1 else c)
theorem won_le {s a b : Nat} {sd : Int32} : ∀ j i c, won s a b sd j i c ≤ c + j
  | 0, _, _ => Nat.le_refl _
  | j + 1, i, c => by
    simp only [won]
    have := won_le (s := s) (a := a) (b := b) (sd := sd) j (i + 1) (if (du60 s a b (sd + nI i)).1 = 0 then c + 1 else c)
    split at this <;> split <;> omega
theorem c_oddsL (d : Nat) (hd : 4 ≤ d) {s a b m : Nat} {x1 x2 sd u : Int32} (hs : s = 2 ∨ s = 3) (ha1 : 1 ≤ a) (ha : a < 100000) (hb1 : 1 ≤ b) (hb : b < 100000) (hm1 : 1 ≤ m) (hm : m ≤ 30) : ∀ (j i f c : Nat) (I : Nat → Int32), i + j = m → c ≤ i → 2 * j < f → I 100 = nI s → ∃ I', (∀ t, zR d f 104 77 [some (.ref 0), some (.int x1), some (.int x2), some (.int sd), some (.int (nI m)), some (.int u), some (.int (nI a)), some (.int (nI b)), some (.int (nI c)), some (.int (nI i))] [] (hC I A, t) = some (some (.long (fL (Int32.toInt64 (nI (won s a b sd j i c))) (Int32.toInt64 (nI m)) (if u = 0 then Int32.toInt64 (nI (won s a b sd j i c)) else Int32.toInt64 (nI m)))), (hC I' A, t))) ∧ ∀ c, c ≤ 1701 → I' c = I c := by
  intro j
  induction j with
  | zero =>
    intro i f c I hi hci hf c1
    obtain ⟨f, rfl⟩ : ∃ e, f = e + 1 := ⟨f - 1, by omega⟩
    refine ⟨I, fun t => ?_, fun c _ => rfl⟩
    rw [e_X9_odds_at77, pn_t (nI_le (by omega) (by omega)), s_partOf (by omega) _ _ _ u (by rw [Int32.toInt_toInt64, nI_toInt (by omega)]; omega) (by rw [Int32.toInt_toInt64, nI_toInt (by omega)]; omega) (by rw [Int32.toInt_toInt64, nI_toInt (by omega)]; omega), pn_c2]
    rfl
  | succ j ih =>
    intro i f c I hi hci hf c1
    obtain ⟨f, rfl⟩ : ∃ e, f = e + 1 + 1 := ⟨f - 2, by omega⟩
    obtain ⟨I1, r1, r2, r3, r4⟩ := c_run2 (I := I) (A := A) (sd := sd + nI i) hd hs ha1 ha hb1 hb
    have hdl := (du_le s (a) (b) (sd + nI i)).2.1
    simp only [won]
    by_cases cw : (du60 s a b (sd + nI i)).1 = 0
    · obtain ⟨I', b1, b2⟩ := ih (i + 1) f (c + 1) I1 (by omega) (by omega) (by omega) ((r2 100 (by decide) (by decide)).trans c1)
      refine ⟨I', fun t => ?_, fun c hc => (b2 c hc).trans (r2 c (by omega) (by omega))⟩
      rw [if_pos cw, e_X9_odds_at77, pn_f (nI_ge (by omega) (by omega)), c1, r1, pn_c0, e_X9_odds_at106, r3, cw, pn_f (by decide), nI_1, nI_1]
      exact b1 t
    · obtain ⟨I', b1, b2⟩ := ih (i + 1) f c I1 (by omega) (by omega) (by omega) ((r2 100 (by decide) (by decide)).trans c1)
      refine ⟨I', fun t => ?_, fun c hc => (b2 c hc).trans (r2 c (by omega) (by omega))⟩
      have hw : ¬ wI (du60 s a b (sd + nI i)).1 = 0 := by
        have : (du60 s a b (sd + nI i)).1 = 1 ∨ (du60 s a b (sd + nI i)).1 = 2 := by omega
        rcases this with e | e <;> rw [e] <;> decide
      rw [if_neg cw, e_X9_odds_at77, pn_f (nI_ge (by omega) (by omega)), c1, r1, pn_c0, e_X9_odds_at106, r3, pn_t hw, nI_1]
      exact b1 t
theorem r_oddsL (d : Nat) (hd : 2 ≤ d) {s a b m k1 k2 : Nat} {sd u : Int32} (hJ : J 0 = nI s) (hs : s = 2 ∨ s = 3) (ha : a < 100000) (hb : b < 100000) (hm1 : 1 ≤ m) (hm : m ≤ 30) (h1 : k1 < 6) (h2 : k2 < 6) (b1 : B 1 k1 = nI a) (b2 : B 1 k2 = nI b) : ∀ (j i f c : Nat), i + j = m → c ≤ i → j < f → zR d f 195 68 [some (.ref 1000), some (.int (nI k1)), some (.int (nI k2)), some (.int sd), some (.int (nI m)), some (.int u), some (.int (nI c)), some (.int (nI i))] [] (t, hM J B L) = some (some (.long (fL (Int32.toInt64 (nI (won s a b sd j i c))) (Int32.toInt64 (nI m)) (if u = 0 then Int32.toInt64 (nI (won s a b sd j i c)) else Int32.toInt64 (nI m)))), (t, hM J B L)) := by
  intro j
  induction j with
  | zero =>
    intro i f c hi hci hf
    obtain ⟨f, rfl⟩ : ∃ e, f = e + 1 := ⟨f - 1, by omega⟩
    rw [e_X10_odds_at68, pn_t (nI_le (by omega) (by omega)), r_lowest (by omega) _ _ _ u (by rw [Int32.toInt_toInt64, nI_toInt (by omega)]; omega) (by rw [Int32.toInt_toInt64, nI_toInt (by omega)]; omega) (by rw [Int32.toInt_toInt64, nI_toInt (by omega)]; omega), pn_c2]
    rfl
  | succ j ih =>
    intro i f c hi hci hf
    obtain ⟨f, rfl⟩ : ∃ e, f = e + 1 := ⟨f - 1, by omega⟩
    have hdl := du_le s (a) (b) (sd + nI i)
    rw [e_X10_odds_at68, pn_f (nI_ge (by omega) (by omega)), pn_in h1 (by decide), cond_true, pn_in h2 (by decide), cond_true, pn_cl (show k1 < 2 ^ 31 by omega), pn_cl (show k2 < 2 ^ 31 by omega), b1, b2, r_duels2 hd hJ hs ha hb, pn_c1, nI_1, nI_1]
    simp only [won]
    by_cases cw : (du60 s a b (sd + nI i)).1 = 0
    · have hN : dlN (du60 s a b (sd + nI i)) < 100 := by
        unfold dlN
        rw [cw, if_neg (by decide)]
        omega
      rw [if_pos cw, pn_f (show ¬ (100 : Int32) ≤ nI (dlN (du60 s a b (sd + nI i))) from nI_ge (b := 100) hN (by decide)), ih (i + 1) f (c + 1) (by omega) (by omega) (by omega)]
    · have hN : 100 ≤ dlN (du60 s a b (sd + nI i)) ∧ dlN (du60 s a b (sd + nI i)) < 2 ^ 31 := by
        unfold dlN
        split <;> omega
      rw [if_neg cw, pn_t (show (100 : Int32) ≤ nI (dlN (du60 s a b (sd + nI i))) from nI_le (a := 100) hN.1 hN.2), ih (i + 1) f c (by omega) (by omega) (by omega)]
theorem P_odds (h : Rel I A J B) (x y sd m u : Int32) : AnsL 104 195 [.int x, .int y, .int sd, .int m, .int u] I A J B L := by
  have hh := h
  obtain ⟨⟨⟨s, ⟨n, w⟩, ⟨z, l⟩, ⟨p, k, o⟩, ⟨r, a, v⟩⟩, hv, hc, hm⟩, -⟩ := h
  have c1 : I 100 = nI s := hc.1
  have m1 : J 0 = nI s := hm.1
  have c2 : I 102 = nI n := hc.2.1.1
  have m2 : J 2 = nI n := hm.2.1.1
  have n6 : n ≤ 6 := hv.2.1.1
  have e1 := fun t => e_X9_odds 59 I A t x y sd m u
  have e2 := fun t => e_X10_odds 59 J B L t x y sd m u
  by_cases g : two n x y
  · obtain ⟨i, j, hi, hj, hij, rfl, rfl⟩ := g
    have wi := okw_lt (hv.2.1.2 i hi)
    have wj := okw_lt (hv.2.1.2 j hj)
    have a1 : A 2 i = nI (w i) := hc.2.1.2 i hi
    have a2 : A 2 j = nI (w j) := hc.2.1.2 j hj
    have b1 : B 1 i = nI (w i) := hm.2.1.2 i hi
    have b2 : B 1 j = nI (w j) := hm.2.1.2 j hj
    have nij : ¬ nI i = nI j := fun q => hij ((nI_eq (by omega) (by omega)).mp q)
    simp only [c_tw1 (A := A) (show 2 ≤ 59 by omega) c2 n6 hi hj hij, pn_c1, d_10, cond_false] at e1
    simp only [r_iw1 (B := B) (L := L) (show 2 ≤ 59 by omega) m2 n6 hi, r_iw1 (B := B) (L := L) (show 2 ≤ 59 by omega) m2 n6 hj, pn_c1, d_10, cond_false, pn_f nij, r_in (show 1 ≤ 59 by omega)] at e2
    by_cases h1 : m < 1
    · have g : decide (1 ≤ m ∧ m ≤ 30) = false := decide_eq_false (fun q => Int32.not_lt.mpr q.1 h1)
      simp only [pn_t h1] at e1
      simp only [g, b01_f, d_00, cond_true] at e2
      exact ⟨_, _, _, _, _, _, e1, e2, hh⟩
    by_cases h2 : 30 < m
    · have g : decide (1 ≤ m ∧ m ≤ 30) = false := decide_eq_false (fun q => Int32.not_lt.mpr q.2 h2)
      simp only [pn_f h1, pn_t h2] at e1
      simp only [g, b01_f, d_00, cond_true] at e2
      exact ⟨_, _, _, _, _, _, e1, e2, hh⟩
    have g : decide (1 ≤ m ∧ m ≤ 30) = true := decide_eq_true ⟨Int32.not_lt.mp h1, Int32.not_lt.mp h2⟩
    obtain ⟨c, hcm, rfl⟩ := i_rng (n := 31) (lo := 1) (by omega) (by decide) h1 (nle_of (n := 30) (by omega) (Int32.not_lt.mp h2))
    have hc1 : 1 ≤ c := by
      rcases Nat.eq_zero_or_pos c with q | q
      · rw [q] at h1; exact absurd (by decide) h1
      · exact q
    simp only [pn_f h1, pn_f h2, s_isPart (show 1 ≤ 59 by omega), pn_c1, F1, e_X9_odds_at30] at e1
    simp only [g, b01_t, d_10, cond_false, r_isPart (show 1 ≤ 59 by omega), pn_c1, F1, e_X10_odds_at37] at e2
    by_cases hu : u = 0 ∨ u = 1
    · simp only [decide_eq_true hu, b01_t, d_n10, cond_true, c_wa (A := A) (show 2 ≤ 59 by omega) c2 n6 hi, pn_c1, a1, F2, e_X9_odds_at45, c_wa (A := A) (show 2 ≤ 59 by omega) c2 n6 hj, a2, s_clash (show 3 ≤ 59 by omega) _ (show w i < 2 ^ 31 by omega) (show w j < 2 ^ 31 by omega)] at e1
      simp only [decide_eq_true hu, b01_t, d_10, cond_false, pn_in (show i < 6 by omega) (show 6 < 2 ^ 31 by omega), pn_in (show j < 6 by omega) (show 6 < 2 ^ 31 by omega), cond_true, pn_cl (show i < 2 ^ 31 by omega), pn_cl (show j < 2 ^ 31 by omega), b1, b2, r_apart (show 3 ≤ 59 by omega) _ wi.1 wi.2 wj.1 wj.2, pn_c1] at e2
      cases hb : (inn (w i) (w j) || inn (w j) (w i)) with
      | true =>
        simp only [hb, b01_t, d_10, cond_false] at e1
        simp only [hb, Bool.not_true, b01_f, d_n00, cond_false] at e2
        exact ⟨_, _, _, _, _, _, e1, e2, hh⟩
      | false =>
        obtain ⟨I', q1, q2⟩ := c_oddsL (A := A) (x1 := nI i) (x2 := nI j) (sd := sd) (u := u) 59 (by omega) hv.1 wi.1 wi.2 wj.1 wj.2 hc1 (show c ≤ 30 by omega) c 0 9999998 0 I (by omega) (by omega) (by omega) c1
        have r1 := fun t => r_oddsL (J := J) (B := B) (L := L) (t := t) (sd := sd) (u := u) 59 (by omega) m1 hv.1 wi.2 wj.2 hc1 (show c ≤ 30 by omega) (show i < 6 by omega) (show j < 6 by omega) b1 b2 c 0 9999999 0 (by omega) (by omega) (by omega)
        simp only [hb, b01_f, d_00, cond_true] at e1
        simp only [hb, Bool.not_false, b01_t, d_n10, cond_true] at e2
        have q1' : ∀ t, zR 59 9999998 104 77 [some (.ref 0), some (.int (nI i)), some (.int (nI j)), some (.int sd), some (.int (nI c)), some (.int u), some (.int (nI (w i))), some (.int (nI (w j))), some (.int 0), some (.int 0)] [] (hC I A, t) = _ := q1
        have r1' : ∀ t, zR 59 9999999 195 68 [some (.ref 1000), some (.int (nI i)), some (.int (nI j)), some (.int sd), some (.int (nI c)), some (.int u), some (.int 0), some (.int 0)] [] (t, hM J B L) = _ := r1
        exact ⟨_, _, _, _, _, _, fun t => (e1 t).trans (q1' t), fun t => (e2 t).trans (r1' t), Rel_fr hh q2 (fun c _ _ => rfl) (fun c _ => rfl) (fun c _ => rfl)⟩
    · simp only [decide_eq_false hu, b01_f, d_n00, cond_false] at e1
      simp only [decide_eq_false hu, b01_f, d_00, cond_true] at e2
      exact ⟨_, _, _, _, _, _, e1, e2, hh⟩
  · simp only [c_tw0 (A := A) (show 2 ≤ 59 by omega) c2 n6 g, pn_c1, d_00, cond_true] at e1
    rcases pk_ix x (n := n) (by omega) with q | q | ⟨i, hi, rfl⟩
    · simp only [r_iw0 (B := B) (L := L) (show 2 ≤ 59 by omega) m2 n6 (Or.inl q), pn_c1, d_00, cond_true] at e2
      exact ⟨_, _, _, _, _, _, e1, e2, hh⟩
    · simp only [r_iw0 (B := B) (L := L) (show 2 ≤ 59 by omega) m2 n6 (Or.inr q), pn_c1, d_00, cond_true] at e2
      exact ⟨_, _, _, _, _, _, e1, e2, hh⟩
    simp only [r_iw1 (B := B) (L := L) (show 2 ≤ 59 by omega) m2 n6 hi, pn_c1, d_10, cond_false] at e2
    rcases pk_ix y (n := n) (by omega) with q | q | ⟨j, hj, rfl⟩
    · simp only [r_iw0 (B := B) (L := L) (show 2 ≤ 59 by omega) m2 n6 (Or.inl q), pn_c1, d_00, cond_true] at e2
      exact ⟨_, _, _, _, _, _, e1, e2, hh⟩
    · simp only [r_iw0 (B := B) (L := L) (show 2 ≤ 59 by omega) m2 n6 (Or.inr q), pn_c1, d_00, cond_true] at e2
      exact ⟨_, _, _, _, _, _, e1, e2, hh⟩
    have e : i = j := by
      rcases Nat.decEq i j with q | q
      · exact absurd ⟨i, j, hi, hj, q, rfl, rfl⟩ g
      · exact q
    subst e
    simp only [r_iw1 (B := B) (L := L) (show 2 ≤ 59 by omega) m2 n6 hi, pn_c1, d_10, cond_false, pn_t (show nI i = nI i from rfl)] at e2
    exact ⟨_, _, _, _, _, _, e1, e2, hh⟩
end DU
