/-! list -/
section LJ
variable {I : Nat → Int32} {A : Nat → Nat → Int32} {J : Nat → Int32} {B : Nat → Nat → Int32} {L : Nat → Nat → Int64} {t : List zm_E}
set_option maxRecDepth 100000 in
theorem b_list4n (C : zm_C) (K : zm_G) (I : Nat → Int32) (A : Nat → Nat → Int32) (t : List zm_E) (x1 x2 : Int32) : zm_blk zt_X9_list [4] false none C K 3000 4 [some (.ref 0), some (.int x1), some (.int x2)] [(.int 0)] (hC I A, t) = some (some (.int (-1)), (hC I A, t)) := rfl
theorem e_list4n (d f : Nat) (I : Nat → Int32) (A : Nat → Nat → Int32) (t : List zm_E) (x1 x2 : Int32) : zR d (f + 1) 110 4 [some (.ref 0), some (.int x1), some (.int x2)] [(.int 0)] (hC I A, t) = some (some (.int (-1)), (hC I A, t)) := (zm_R_eq m_X9_list d f _ _ _ _).trans (b_list4n _ _ I A t x1 x2)
theorem c_fillS (d f : Nat) {q : Nat} (hq : q < 4) (x1 x2 x3 : Int32) : zR d (f + 1) 210 5 [some (.ref (22 + q)), some (.int x1), some (.int x2), some (.int x3)] [] (hC I A, t) = (bif decide (x3 ≤ x2) then (some (none, (hC I A, t))) else bif zm_in x2 12 then (zR d f 210 5 [some (.ref (22 + q)), some (.int x1), some (.int (x2 + 1)), some (.int x3)] [] (hC I (va_up A (22 + q) (upd (A (22 + q)) (Int32.toNatClampNeg x2) x1)), t)) else none) := by
  have hc : q = 0 ∨ q = 1 ∨ q = 2 ∨ q = 3 := by omega
  rcases hc with rfl | rfl | rfl | rfl
  · exact e_J7_fill_53178_22_at5 d f I A t x1 x2 x3
  · exact e_J7_fill_53178_23_at5 d f I A t x1 x2 x3
  · exact e_J7_fill_53178_24_at5 d f I A t x1 x2 x3
  · exact e_J7_fill_53178_25_at5 d f I A t x1 x2 x3
theorem c_fillE (d : Nat) {q : Nat} (hq : q < 4) (x1 : Int32) : zC (d + 1) 210 [(.ref (22 + q)), (.int x1)] (hC I A, t) = (zR d 10000000 210 5 [some (.ref (22 + q)), some (.int x1), some (.int 0), some (.int 12)] [] (hC I A, t)) := by
  have hc : q = 0 ∨ q = 1 ∨ q = 2 ∨ q = 3 := by omega
  rcases hc with rfl | rfl | rfl | rfl
  · exact e_J7_fill_53178_22 d I A t x1
  · exact e_J7_fill_53178_23 d I A t x1
  · exact e_J7_fill_53178_24 d I A t x1
  · exact e_J7_fill_53178_25 d I A t x1
theorem c_fillL (d : Nat) {q : Nat} (hq : q < 4) : ∀ (j k f : Nat) (A : Nat → Nat → Int32), k + j = 12 → j < f → ∃ A', (∀ t, zR d f 210 5 [some (.ref (22 + q)), some (.int 0), some (.int (nI k)), some (.int 12)] [] (hC I A, t) = some (none, (hC I A', t))) ∧ (∀ c, c ≠ 22 + q → A' c = A c) ∧ (∀ i, k ≤ i → i < 12 → A' (22 + q) i = 0) ∧ (∀ i, i < k → A' (22 + q) i = A (22 + q) i) := by
  intro j
  induction j with
  | zero =>
    intro k f A hk hf
    obtain ⟨f, rfl⟩ : ∃ e, f = e + 1 := ⟨f - 1, by omega⟩
    refine ⟨A, fun t => ?_, fun c _ => rfl, fun i h1 h2 => by omega, fun i _ => rfl⟩
    rw [c_fillS d f hq, pn_t (show (12 : Int32) ≤ nI k from nI_le (a := 12) (by omega) (by omega))]
  | succ j ih =>
    intro k f A hk hf
    obtain ⟨f, rfl⟩ : ∃ e, f = e + 1 := ⟨f - 1, by omega⟩
    obtain ⟨A', h1, h2, h3, h4⟩ := ih (k + 1) f (va_up A (22 + q) (upd (A (22 + q)) k 0)) (by omega) (by omega)
    refine ⟨A', fun t => ?_, fun c hc => ?_, fun i g1 g2 => ?_, fun i g1 => ?_⟩
    · rw [c_fillS d f hq, pn_f (show ¬ (12 : Int32) ≤ nI k from nI_ge (b := 12) (by omega) (by decide)), pn_in (show k < 12 by omega) (by decide), cond_true, pn_cl (by omega), nI_1, h1 t]
    · rw [h2 c hc, vu_ne hc]
    · rcases Nat.lt_or_ge k i with u | u
      · exact h3 i u g2
      · rw [h4 i (by omega), vu_eq, show i = k by omega, upd_eq]
    · rw [h4 i (by omega), vu_eq, upd_ne (by omega)]
theorem c_list4 (d f : Nat) {q : Nat} (hq : q < 4) (x s0 : Int32) : zR d (f + 1) 110 4 [some (.ref 0), some (.int (nI q)), some (.int x)] [(.int s0)] (hC I A, t) = (bif decide (¬ s0 = 0) then (bif decide (x ≤ 12) then (bif decide (0 ≤ x) then (zm_c0 (zC d 210 [(.ref (22 + q)), (.int 0)] (hC I (va_up A 26 (upd (A 26) q x)), t)) fun h1 => some (some (.int 1), h1)) else some (some (.int (-14)), (hC I A, t))) else some (some (.int (-2)), (hC I A, t))) else some (some (.int (-1)), (hC I A, t))) := by
  have hc : q = 0 ∨ q = 1 ∨ q = 2 ∨ q = 3 := by omega
  rcases hc with rfl | rfl | rfl | rfl
  · exact e_X9_list_at4_10 d f I A t x s0
  · exact e_X9_list_at4_11 d f I A t x s0
  · exact e_X9_list_at4_12 d f I A t x s0
  · exact e_X9_list_at4_13 d f I A t x s0
theorem r_listL (d : Nat) {q : Nat} (hq : q < 4) (x : Int32) : ∀ (j k f : Nat) (B : Nat → Nat → Int32), k + j = 12 → j < f → ∃ B', (∀ t, zR d f 202 34 [some (.ref 1000), some (.int (nI q)), some (.int x), some (.int (nI k))] [] (t, hM J B L) = some (some (.int 1), (t, hM J B' L))) ∧ (∀ c, c ≠ 9 → B' c = B c) ∧ (∀ i, k ≤ i → i < 12 → B' 9 (12 * q + i) = 0) ∧ (∀ i, i < 12 * q + k ∨ 12 * q + 12 ≤ i → B' 9 i = B 9 i) := by
  intro j
  induction j with
  | zero =>
    intro k f B hk hf
    obtain ⟨f, rfl⟩ : ∃ e, f = e + 1 := ⟨f - 1, by omega⟩
    refine ⟨B, fun t => ?_, fun c _ => rfl, fun i h1 h2 => by omega, fun i _ => rfl⟩
    rw [e_X10_list_at34, pn_t (show (12 : Int32) ≤ nI k from nI_le (a := 12) (by omega) (by omega))]
  | succ j ih =>
    intro k f B hk hf
    obtain ⟨f, rfl⟩ : ∃ e, f = e + 1 := ⟨f - 1, by omega⟩
    obtain ⟨B', h1, h2, h3, h4⟩ := ih (k + 1) f (va_up B 9 (upd (B 9) (12 * q + k) 0)) (by omega) (by omega)
    refine ⟨B', fun t => ?_, fun c hc => ?_, fun i g1 g2 => ?_, fun i g1 => ?_⟩
    · rw [e_X10_list_at34, pn_f (show ¬ (12 : Int32) ≤ nI k from nI_ge (b := 12) (by omega) (by decide)), l_ix, pn_in (show 12 * q + k < 48 by omega) (by decide), cond_true, pn_cl (by omega), nI_1, h1 t]
    · rw [h2 c hc, vu_ne hc]
    · rcases Nat.lt_or_ge k i with u | u
      · exact h3 i u g2
      · rw [h4 _ (by omega), vu_eq, show i = k by omega, upd_eq]
    · rw [h4 i (by omega), vu_eq, upd_ne (by omega)]
theorem P_list (h : Rel I A J B) (x y : Int32) : Ans 110 202 [.int x, .int y] I A J B L := by
  have hh := h
  have hL := rL_all.mp h.2.2.2.2
  have e1 := fun t => e_X9_list 59 I A t x y
  have e2 := fun t => e_X10_list 59 J B L t x y
  rcases pk_ix x (n := 4) (by omega) with q | q | ⟨q, hq, rfl⟩
  · simp only [r_il0 (show 2 ≤ 59 by omega) _ (Or.inl q), pn_c1, F1, e_X10_list_at4, d_n00, cond_false] at e2
    simp only [c_hl0 (show 1 ≤ 59 by omega) _ (Or.inl q), pn_c1, F1, e_list4n] at e1
    exact ⟨_, _, _, _, _, _, e1, e2, hh⟩
  · simp only [r_il0 (show 2 ≤ 59 by omega) _ (Or.inr q), pn_c1, F1, e_X10_list_at4, d_n00, cond_false] at e2
    simp only [c_hl0 (show 1 ≤ 59 by omega) _ (Or.inr q), pn_c1, F1, e_list4n] at e1
    exact ⟨_, _, _, _, _, _, e1, e2, hh⟩
  simp only [c_hl1 (show 1 ≤ 59 by omega) _ hq, pn_c1, F1, c_list4 _ _ hq, d_n10, cond_true] at e1
  simp only [r_il1 (show 2 ≤ 59 by omega) _ hq, pn_c1, F1, e_X10_list_at4, d_n10, cond_true, pn_in hq (show 4 < 2 ^ 31 by omega), pn_cl (show q < 2 ^ 31 by omega)] at e2
  by_cases y12 : y ≤ 12
  · by_cases y0 : (0 : Int32) ≤ y
    · obtain ⟨n, hn, rfl⟩ := i_nneg (x := y) (n := 13) (by omega) (Int32.not_lt.mpr y0) (nle_of (n := 12) (by omega) y12)
      obtain ⟨A', a1, a2, a3, -⟩ := c_fillL (I := I) 58 hq 12 0 10000000 (va_up A 26 (upd (A 26) q (nI n))) (by omega) (by omega)
      obtain ⟨B', b1, b2, b3, b4⟩ := r_listL (J := J) (L := L) 59 hq (nI n) 12 0 9999999 (va_up B 10 (upd (B 10) q (nI n))) (by omega) (by omega)
      rw [show nI 0 = (0 : Int32) from rfl] at a1 b1
      simp only [pn_t y12, pn_t y0, c_fillE 58 hq, a1, pn_c0] at e1
      simp only [pn_t y12, pn_t y0, b1] at e2
      refine ⟨_, _, _, _, _, _, e1, e2, Rel_lists hh (fun c hc => ?_) (fun c hc => ?_) ?_ (rL_all.mpr (fun p hp => ?_))⟩
      · rw [a2 c (by omega), vu_ne (by omega)]
      · rw [b2 c (by omega), vu_ne (by omega)]
      · rw [b2 11 (by omega), vu_ne (by omega)]
      obtain ⟨h1, h2⟩ := hL p hp
      refine ⟨?_, fun i hi => ?_⟩
      · rw [a2 26 (by omega), b2 10 (by omega), vu_eq, vu_eq]
        by_cases e : p = q
        · subst e; rw [upd_eq, upd_eq]; exact Or.inr ⟨n, by omega, rfl, rfl⟩
        · rw [upd_ne e, upd_ne e]; exact h1
      · by_cases e : p = q
        · subst e; rw [a3 i (by omega) hi, b3 i (by omega) hi]
        · rw [a2 (22 + p) (by omega), vu_ne (by omega), b4 _ (by omega), vu_ne (by omega)]; exact h2 i hi
    · simp only [pn_t y12, pn_f y0] at e1 e2
      exact ⟨_, _, _, _, _, _, e1, e2, hh⟩
  · simp only [pn_f y12] at e1 e2
    exact ⟨_, _, _, _, _, _, e1, e2, hh⟩
end LJ
