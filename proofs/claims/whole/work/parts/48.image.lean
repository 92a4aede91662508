/-! image, undo -/
theorem cpy_in {f g : Nat → Int32} {n i : Nat} (h : i < n) : va_cpy f g 0 0 n i = f i := by
  unfold va_cpy
  rw [if_pos (by omega)]
  congr 1
  omega
theorem i_add (a b : Nat) : nI a + nI b = nI (a + b) := nI_add a b
section IM
variable {I : Nat → Int32} {A : Nat → Nat → Int32} {J : Nat → Int32} {B : Nat → Nat → Int32} {L : Nat → Nat → Int64} {t : List zm_E}
theorem r_img57 (d g : Nat) : ∀ (j k : Nat) (B : Nat → Nat → Int32), k + j = 6 → ∃ B', (∀ t, zR d (g + j + 1) 205 57 [some (.ref 1000), some (.int (nI k))] [] (t, hM J B L) = zR d g 205 85 [some (.ref 1000), some (.int 0)] [] (t, hM J B' L)) ∧ (∀ c, c ≠ 11 → B' c = B c) ∧ (∀ i, k ≤ i → i < 6 → B' 11 (5 + i) = B 1 i) ∧ (∀ m, (m < 5 + k ∨ 5 + 6 ≤ m) → B' 11 m = B 11 m) := by
  intro j
  induction j with
  | zero =>
    intro k B hk
    refine ⟨B, fun t => ?_, fun c _ => rfl, fun i h1 h2 => by omega, fun i _ => rfl⟩
    rw [e_X10_image_at57, pn_t (show (6 : Int32) ≤ nI k from nI_le (a := 6) (by omega) (by omega))]
  | succ j ih =>
    intro k B hk
    obtain ⟨B', h1, h2, h3, h4⟩ := ih (k + 1) (va_up B 11 (upd (B 11) (5 + k) (B 1 k))) (by omega)
    refine ⟨B', fun t => ?_, fun c hc => ?_, fun i g1 g2 => ?_, fun m g1 => ?_⟩
    · rw [e_X10_image_at57, pn_f (show ¬ (6 : Int32) ≤ nI k from nI_ge (b := 6) (by omega) (by decide)), show (5 : Int32) + nI k = nI (5 + k) from i_add 5 k, pn_in (show 5 + k < 80 by omega) (by decide), pn_in (show k < 6 by omega) (by decide), pn_cl (show k < 2 ^ 31 by omega), pn_cl (show 5 + k < 2 ^ 31 by omega), nI_1]
      exact h1 t
    · rw [h2 c hc, vu_ne hc]
    · rcases Nat.lt_or_ge k i with u | u
      · rw [h3 i u g2, vu_ne (by omega)]
      · rw [h4 _ (by omega), vu_eq, show i = k by omega, upd_eq]
    · rw [h4 m (by omega), vu_eq, upd_ne (by omega)]
theorem r_img85 (d g : Nat) : ∀ (j k : Nat) (B : Nat → Nat → Int32), k + j = 40 → ∃ B', (∀ t, zR d (g + j + 1) 205 85 [some (.ref 1000), some (.int (nI k))] [] (t, hM J B L) = zR d g 205 114 [some (.ref 1000), some (.int 0)] [] (t, hM J B' L)) ∧ (∀ c, c ≠ 11 → B' c = B c) ∧ (∀ i, k ≤ i → i < 40 → B' 11 (11 + i) = B 2 i) ∧ (∀ m, (m < 11 + k ∨ 11 + 40 ≤ m) → B' 11 m = B 11 m) := by
  intro j
  induction j with
  | zero =>
    intro k B hk
    refine ⟨B, fun t => ?_, fun c _ => rfl, fun i h1 h2 => by omega, fun i _ => rfl⟩
    rw [e_X10_image_at85, pn_t (show (40 : Int32) ≤ nI k from nI_le (a := 40) (by omega) (by omega))]
  | succ j ih =>
    intro k B hk
    obtain ⟨B', h1, h2, h3, h4⟩ := ih (k + 1) (va_up B 11 (upd (B 11) (11 + k) (B 2 k))) (by omega)
    refine ⟨B', fun t => ?_, fun c hc => ?_, fun i g1 g2 => ?_, fun m g1 => ?_⟩
    · rw [e_X10_image_at85, pn_f (show ¬ (40 : Int32) ≤ nI k from nI_ge (b := 40) (by omega) (by decide)), show (11 : Int32) + nI k = nI (11 + k) from i_add 11 k, pn_in (show 11 + k < 80 by omega) (by decide), pn_in (show k < 40 by omega) (by decide), pn_cl (show k < 2 ^ 31 by omega), pn_cl (show 11 + k < 2 ^ 31 by omega), nI_1]
      exact h1 t
    · rw [h2 c hc, vu_ne hc]
    · rcases Nat.lt_or_ge k i with u | u
      · rw [h3 i u g2, vu_ne (by omega)]
      · rw [h4 _ (by omega), vu_eq, show i = k by omega, upd_eq]
    · rw [h4 m (by omega), vu_eq, upd_ne (by omega)]
theorem r_img114 (d g : Nat) : ∀ (j k : Nat) (B : Nat → Nat → Int32), k + j = 4 → ∃ B', (∀ t, zR d (g + j + 1) 205 114 [some (.ref 1000), some (.int (nI k))] [] (t, hM J B L) = zR d g 205 157 [some (.ref 1000), some (.int 0)] [] (t, hM J B' L)) ∧ (∀ c, c ≠ 11 → B' c = B c) ∧ (∀ i, k ≤ i → i < 4 → B' 11 (51 + i) = B 3 i ∧ B' 11 (55 + i) = B 4 i) ∧ (∀ m, (m < 51 + k ∨ 51 + 4 ≤ m) ∧ (m < 55 + k ∨ 55 + 4 ≤ m) → B' 11 m = B 11 m) := by
  intro j
  induction j with
  | zero =>
    intro k B hk
    refine ⟨B, fun t => ?_, fun c _ => rfl, fun i h1 h2 => by omega, fun i _ => rfl⟩
    rw [e_X10_image_at114, pn_t (show (4 : Int32) ≤ nI k from nI_le (a := 4) (by omega) (by omega))]
  | succ j ih =>
    intro k B hk
    obtain ⟨B', h1, h2, h3, h4⟩ := ih (k + 1) (va_up (va_up B 11 (upd (B 11) (51 + k) (B 3 k))) 11 (upd (upd (B 11) (51 + k) (B 3 k)) (55 + k) (B 4 k))) (by omega)
    refine ⟨B', fun t => ?_, fun c hc => ?_, fun i g1 g2 => ?_, fun m g1 => ?_⟩
    · rw [e_X10_image_at114, pn_f (show ¬ (4 : Int32) ≤ nI k from nI_ge (b := 4) (by omega) (by decide)), show (51 : Int32) + nI k = nI (51 + k) from i_add 51 k, pn_in (show 51 + k < 80 by omega) (by decide), show (55 : Int32) + nI k = nI (55 + k) from i_add 55 k, pn_in (show 55 + k < 80 by omega) (by decide), pn_in (show k < 4 by omega) (by decide), pn_cl (show k < 2 ^ 31 by omega), pn_cl (show 51 + k < 2 ^ 31 by omega), pn_cl (show 55 + k < 2 ^ 31 by omega), nI_1]
      exact h1 t
    · rw [h2 c hc, vu_ne hc, vu_ne hc]
    · rcases Nat.lt_or_ge k i with u | u
      · have := h3 i u g2
        rw [vu_ne (show 3 ≠ 11 by omega), vu_ne (show 3 ≠ 11 by omega), vu_ne (show 4 ≠ 11 by omega), vu_ne (show 4 ≠ 11 by omega)] at this
        exact this
      · rw [h4 _ (by omega), h4 _ (by omega), vu_eq, show i = k by omega, upd_eq, upd_ne (by omega), upd_eq]
        exact ⟨rfl, rfl⟩
    · rw [h4 m (by omega), vu_eq, upd_ne (by omega), upd_ne (by omega)]
theorem r_img157 (d g : Nat) : ∀ (j k : Nat) (B : Nat → Nat → Int32), k + j = 8 → ∃ B', (∀ t, zR d (g + j + 1) 205 157 [some (.ref 1000), some (.int (nI k))] [] (t, hM J B L) = some (some (.int (J 2)), (t, hM J B' L))) ∧ (∀ c, c ≠ 11 → B' c = B c) ∧ (∀ i, k ≤ i → i < 8 → B' 11 (59 + i) = B 5 i ∧ B' 11 (67 + i) = B 6 i) ∧ (∀ m, (m < 59 + k ∨ 59 + 8 ≤ m) ∧ (m < 67 + k ∨ 67 + 8 ≤ m) → B' 11 m = B 11 m) := by
  intro j
  induction j with
  | zero =>
    intro k B hk
    refine ⟨B, fun t => ?_, fun c _ => rfl, fun i h1 h2 => by omega, fun i _ => rfl⟩
    rw [e_X10_image_at157, pn_t (show (8 : Int32) ≤ nI k from nI_le (a := 8) (by omega) (by omega))]
  | succ j ih =>
    intro k B hk
    obtain ⟨B', h1, h2, h3, h4⟩ := ih (k + 1) (va_up (va_up B 11 (upd (B 11) (59 + k) (B 5 k))) 11 (upd (upd (B 11) (59 + k) (B 5 k)) (67 + k) (B 6 k))) (by omega)
    refine ⟨B', fun t => ?_, fun c hc => ?_, fun i g1 g2 => ?_, fun m g1 => ?_⟩
    · rw [e_X10_image_at157, pn_f (show ¬ (8 : Int32) ≤ nI k from nI_ge (b := 8) (by omega) (by decide)), show (59 : Int32) + nI k = nI (59 + k) from i_add 59 k, pn_in (show 59 + k < 80 by omega) (by decide), show (67 : Int32) + nI k = nI (67 + k) from i_add 67 k, pn_in (show 67 + k < 80 by omega) (by decide), pn_in (show k < 8 by omega) (by decide), pn_cl (show k < 2 ^ 31 by omega), pn_cl (show 59 + k < 2 ^ 31 by omega), pn_cl (show 67 + k < 2 ^ 31 by omega), nI_1]
      exact h1 t
    · rw [h2 c hc, vu_ne hc, vu_ne hc]
    · rcases Nat.lt_or_ge k i with u | u
      · have := h3 i u g2
        rw [vu_ne (show 5 ≠ 11 by omega), vu_ne (show 5 ≠ 11 by omega), vu_ne (show 6 ≠ 11 by omega), vu_ne (show 6 ≠ 11 by omega)] at this
        exact this
      · rw [h4 _ (by omega), h4 _ (by omega), vu_eq, show i = k by omega, upd_eq, upd_ne (by omega), upd_eq]
        exact ⟨rfl, rfl⟩
    · rw [h4 m (by omega), vu_eq, upd_ne (by omega), upd_ne (by omega)]
theorem r_und62 (d g : Nat) : ∀ (j k : Nat) (B : Nat → Nat → Int32), k + j = 6 → ∃ B', (∀ t, zR d (g + j + 1) 206 62 [some (.ref 1000), some (.int (nI k))] [] (t, hM J B L) = zR d g 206 90 [some (.ref 1000), some (.int 0)] [] (t, hM J B' L)) ∧ (∀ c, c ≠ 1 → B' c = B c) ∧ (∀ i, k ≤ i → i < 6 → B' 1 i = B 11 (5 + i)) ∧ (∀ i, i < k → B' 1 i = B 1 i) := by
  intro j
  induction j with
  | zero =>
    intro k B hk
    refine ⟨B, fun t => ?_, fun c _ => rfl, fun i h1 h2 => by omega, fun i _ => rfl⟩
    rw [e_X10_undo_at62, pn_t (show (6 : Int32) ≤ nI k from nI_le (a := 6) (by omega) (by omega))]
  | succ j ih =>
    intro k B hk
    obtain ⟨B', h1, h2, h3, h4⟩ := ih (k + 1) (va_up B 1 (upd (B 1) k (B 11 (5 + k)))) (by omega)
    refine ⟨B', fun t => ?_, fun c hc => ?_, fun i g1 g2 => ?_, fun m g1 => ?_⟩
    · rw [e_X10_undo_at62, pn_f (show ¬ (6 : Int32) ≤ nI k from nI_ge (b := 6) (by omega) (by decide)), show (5 : Int32) + nI k = nI (5 + k) from i_add 5 k, pn_in (show 5 + k < 80 by omega) (by decide), pn_in (show k < 6 by omega) (by decide), pn_cl (show k < 2 ^ 31 by omega), pn_cl (show 5 + k < 2 ^ 31 by omega), nI_1]
      exact h1 t
    · rw [h2 c hc, vu_ne hc]
    · rcases Nat.lt_or_ge k i with u | u
      · rw [h3 i u g2, vu_ne (by omega)]
      · rw [h4 _ (by omega), vu_eq, show i = k by omega, upd_eq]
    · rw [h4 m (by omega), vu_eq, upd_ne (by omega)]
theorem r_und90 (d g : Nat) : ∀ (j k : Nat) (B : Nat → Nat → Int32), k + j = 40 → ∃ B', (∀ t, zR d (g + j + 1) 206 90 [some (.ref 1000), some (.int (nI k))] [] (t, hM J B L) = zR d g 206 119 [some (.ref 1000), some (.int 0)] [] (t, hM J B' L)) ∧ (∀ c, c ≠ 2 → B' c = B c) ∧ (∀ i, k ≤ i → i < 40 → B' 2 i = B 11 (11 + i)) ∧ (∀ i, i < k → B' 2 i = B 2 i) := by
  intro j
  induction j with
  | zero =>
    intro k B hk
    refine ⟨B, fun t => ?_, fun c _ => rfl, fun i h1 h2 => by omega, fun i _ => rfl⟩
    rw [e_X10_undo_at90, pn_t (show (40 : Int32) ≤ nI k from nI_le (a := 40) (by omega) (by omega))]
  | succ j ih =>
    intro k B hk
    obtain ⟨B', h1, h2, h3, h4⟩ := ih (k + 1) (va_up B 2 (upd (B 2) k (B 11 (11 + k)))) (by omega)
    refine ⟨B', fun t => ?_, fun c hc => ?_, fun i g1 g2 => ?_, fun m g1 => ?_⟩
    · rw [e_X10_undo_at90, pn_f (show ¬ (40 : Int32) ≤ nI k from nI_ge (b := 40) (by omega) (by decide)), show (11 : Int32) + nI k = nI (11 + k) from i_add 11 k, pn_in (show 11 + k < 80 by omega) (by decide), pn_in (show k < 40 by omega) (by decide), pn_cl (show k < 2 ^ 31 by omega), pn_cl (show 11 + k < 2 ^ 31 by omega), nI_1]
      exact h1 t
    · rw [h2 c hc, vu_ne hc]
    · rcases Nat.lt_or_ge k i with u | u
      · rw [h3 i u g2, vu_ne (by omega)]
      · rw [h4 _ (by omega), vu_eq, show i = k by omega, upd_eq]
    · rw [h4 m (by omega), vu_eq, upd_ne (by omega)]
theorem r_und119 (d g : Nat) : ∀ (j k : Nat) (B : Nat → Nat → Int32), k + j = 4 → ∃ B', (∀ t, zR d (g + j + 1) 206 119 [some (.ref 1000), some (.int (nI k))] [] (t, hM J B L) = zR d g 206 162 [some (.ref 1000), some (.int 0)] [] (t, hM J B' L)) ∧ (∀ c, c ≠ 3 ∧ c ≠ 4 → B' c = B c) ∧ (∀ i, k ≤ i → i < 4 → B' 3 i = B 11 (51 + i) ∧ B' 4 i = B 11 (55 + i)) ∧ (∀ i, i < k → B' 3 i = B 3 i ∧ B' 4 i = B 4 i) := by
  intro j
  induction j with
  | zero =>
    intro k B hk
    refine ⟨B, fun t => ?_, fun c _ => rfl, fun i h1 h2 => by omega, fun i _ => ⟨rfl, rfl⟩⟩
    rw [e_X10_undo_at119, pn_t (show (4 : Int32) ≤ nI k from nI_le (a := 4) (by omega) (by omega))]
  | succ j ih =>
    intro k B hk
    obtain ⟨B', h1, h2, h3, h4⟩ := ih (k + 1) (va_up (va_up B 3 (upd (B 3) k (B 11 (51 + k)))) 4 (upd (B 4) k (B 11 (55 + k)))) (by omega)
    refine ⟨B', fun t => ?_, fun c hc => ?_, fun i g1 g2 => ?_, fun m g1 => ?_⟩
    · rw [e_X10_undo_at119, pn_f (show ¬ (4 : Int32) ≤ nI k from nI_ge (b := 4) (by omega) (by decide)), show (51 : Int32) + nI k = nI (51 + k) from i_add 51 k, pn_in (show 51 + k < 80 by omega) (by decide), show (55 : Int32) + nI k = nI (55 + k) from i_add 55 k, pn_in (show 55 + k < 80 by omega) (by decide), pn_in (show k < 4 by omega) (by decide), pn_cl (show k < 2 ^ 31 by omega), pn_cl (show 51 + k < 2 ^ 31 by omega), pn_cl (show 55 + k < 2 ^ 31 by omega), nI_1]
      exact h1 t
    · rw [h2 c hc, vu_ne hc.2, vu_ne hc.1]
    · rcases Nat.lt_or_ge k i with u | u
      · have := h3 i u g2
        rw [vu_ne (show 11 ≠ 4 by omega), vu_ne (show 11 ≠ 3 by omega)] at this
        exact this
      · have := h4 i (by omega)
        rw [vu_ne (show 3 ≠ 4 by omega), vu_eq, vu_eq, show i = k by omega, upd_eq, upd_eq] at this
        rw [show i = k by omega]
        exact this
    · have := h4 m (by omega)
      rw [vu_ne (show 3 ≠ 4 by omega), vu_eq, vu_eq, upd_ne (by omega), upd_ne (by omega)] at this
      exact this
theorem r_und162 (d g : Nat) : ∀ (j k : Nat) (B : Nat → Nat → Int32), k + j = 8 → ∃ B', (∀ t, zR d (g + j + 1) 206 162 [some (.ref 1000), some (.int (nI k))] [] (t, hM J B L) = some (some (.int (J 2)), (t, hM J B' L))) ∧ (∀ c, c ≠ 5 ∧ c ≠ 6 → B' c = B c) ∧ (∀ i, k ≤ i → i < 8 → B' 5 i = B 11 (59 + i) ∧ B' 6 i = B 11 (67 + i)) ∧ (∀ i, i < k → B' 5 i = B 5 i ∧ B' 6 i = B 6 i) := by
  intro j
  induction j with
  | zero =>
    intro k B hk
    refine ⟨B, fun t => ?_, fun c _ => rfl, fun i h1 h2 => by omega, fun i _ => ⟨rfl, rfl⟩⟩
    rw [e_X10_undo_at162, pn_t (show (8 : Int32) ≤ nI k from nI_le (a := 8) (by omega) (by omega))]
  | succ j ih =>
    intro k B hk
    obtain ⟨B', h1, h2, h3, h4⟩ := ih (k + 1) (va_up (va_up B 5 (upd (B 5) k (B 11 (59 + k)))) 6 (upd (B 6) k (B 11 (67 + k)))) (by omega)
    refine ⟨B', fun t => ?_, fun c hc => ?_, fun i g1 g2 => ?_, fun m g1 => ?_⟩
    · rw [e_X10_undo_at162, pn_f (show ¬ (8 : Int32) ≤ nI k from nI_ge (b := 8) (by omega) (by decide)), show (59 : Int32) + nI k = nI (59 + k) from i_add 59 k, pn_in (show 59 + k < 80 by omega) (by decide), show (67 : Int32) + nI k = nI (67 + k) from i_add 67 k, pn_in (show 67 + k < 80 by omega) (by decide), pn_in (show k < 8 by omega) (by decide), pn_cl (show k < 2 ^ 31 by omega), pn_cl (show 59 + k < 2 ^ 31 by omega), pn_cl (show 67 + k < 2 ^ 31 by omega), nI_1]
      exact h1 t
    · rw [h2 c hc, vu_ne hc.2, vu_ne hc.1]
    · rcases Nat.lt_or_ge k i with u | u
      · have := h3 i u g2
        rw [vu_ne (show 11 ≠ 6 by omega), vu_ne (show 11 ≠ 5 by omega)] at this
        exact this
      · have := h4 i (by omega)
        rw [vu_ne (show 5 ≠ 6 by omega), vu_eq, vu_eq, show i = k by omega, upd_eq, upd_eq] at this
        rw [show i = k by omega]
        exact this
    · have := h4 m (by omega)
      rw [vu_ne (show 5 ≠ 6 by omega), vu_eq, vu_eq, upd_ne (by omega), upd_ne (by omega)] at this
      exact this
theorem r_image : ∃ B', (∀ t, zC 60 205 [.ref 1000] (t, hM J B L) = some (some (.int (J 2)), (t, hM (upd J 18 1) B' L))) ∧ (∀ c, c ≠ 11 → B' c = B c) ∧ (B' 11 0 = J 0 ∧ B' 11 1 = J 2 ∧ B' 11 2 = J 4 ∧ B' 11 3 = J 7 ∧ B' 11 4 = J 10) ∧ (∀ i, i < 6 → B' 11 (5 + i) = B 1 i) ∧ (∀ i, i < 40 → B' 11 (11 + i) = B 2 i) ∧ (∀ i, i < 4 → B' 11 (51 + i) = B 3 i ∧ B' 11 (55 + i) = B 4 i) ∧ (∀ i, i < 8 → B' 11 (59 + i) = B 5 i ∧ B' 11 (67 + i) = B 6 i) := by
  have e := fun t => e_X10_image 59 J B L t
  generalize hB : va_up (va_up (va_up (va_up (va_up B 11 (upd (B 11) (Int32.toNatClampNeg 0) ((upd J 18 1) 0))) 11 _) 11 _) 11 _) 11 _ = B0 at e
  have z0 : B0 11 0 = J 0 ∧ B0 11 1 = J 2 ∧ B0 11 2 = J 4 ∧ B0 11 3 = J 7 ∧ B0 11 4 = J 10 := by rw [← hB]; exact ⟨rfl, rfl, rfl, rfl, rfl⟩
  have z1 : ∀ c, c ≠ 11 → B0 c = B c := fun c hc => by rw [← hB, vu_ne hc, vu_ne hc, vu_ne hc, vu_ne hc, vu_ne hc]
  clear hB
  obtain ⟨B1, p1, p2, p3, p4⟩ := r_img57 (J := upd J 18 1) (L := L) 59 9999993 6 0 B0 (by omega)
  obtain ⟨B2, q1, q2, q3, q4⟩ := r_img85 (J := upd J 18 1) (L := L) 59 9999952 40 0 B1 (by omega)
  obtain ⟨B3, r1, r2, r3, r4⟩ := r_img114 (J := upd J 18 1) (L := L) 59 9999947 4 0 B2 (by omega)
  obtain ⟨B4, s1, s2, s3, s4⟩ := r_img157 (J := upd J 18 1) (L := L) 59 9999938 8 0 B3 (by omega)
  have c1 : ∀ c, c ≠ 11 → B1 c = B c := fun c hc => (p2 c hc).trans (z1 c hc)
  have c2 : ∀ c, c ≠ 11 → B2 c = B c := fun c hc => (q2 c hc).trans (c1 c hc)
  have c3 : ∀ c, c ≠ 11 → B3 c = B c := fun c hc => (r2 c hc).trans (c2 c hc)
  refine ⟨B4, fun t => (e t).trans ((p1 t).trans ((q1 t).trans ((r1 t).trans (s1 t)))), fun c hc => (s2 c hc).trans (c3 c hc), ?_, fun i hi => ?_, fun i hi => ?_, fun i hi => ?_, fun i hi => ?_⟩
  · rw [s4 0 (by omega), r4 0 (by omega), q4 0 (by omega), p4 0 (by omega), s4 1 (by omega), r4 1 (by omega), q4 1 (by omega), p4 1 (by omega), s4 2 (by omega), r4 2 (by omega), q4 2 (by omega), p4 2 (by omega), s4 3 (by omega), r4 3 (by omega), q4 3 (by omega), p4 3 (by omega), s4 4 (by omega), r4 4 (by omega), q4 4 (by omega), p4 4 (by omega)]
    exact z0
  · rw [s4 _ (by omega), r4 _ (by omega), q4 _ (by omega), p3 i (by omega) hi, z1 1 (by omega)]
  · rw [s4 _ (by omega), r4 _ (by omega), q3 i (by omega) hi, c1 2 (by omega)]
  · rw [s4 _ (by omega), s4 _ (by omega), (r3 i (by omega) hi).1, (r3 i (by omega) hi).2, c2 3 (by omega), c2 4 (by omega)]
    exact ⟨rfl, rfl⟩
  · rw [(s3 i (by omega) hi).1, (s3 i (by omega) hi).2, c3 5 (by omega), c3 6 (by omega)]
    exact ⟨rfl, rfl⟩
theorem r_undo (h18 : J 18 = 1) : ∃ B', (∀ t, zC 60 206 [.ref 1000] (t, hM J B L) = some (some (.int (B 11 1)), (t, hM (upd (upd (upd (upd (upd J 0 (B 11 0)) 2 (B 11 1)) 4 (B 11 2)) 7 (B 11 3)) 10 (B 11 4)) B' L))) ∧ (∀ c, 7 ≤ c → B' c = B c) ∧ (∀ i, i < 6 → B' 1 i = B 11 (5 + i)) ∧ (∀ i, i < 40 → B' 2 i = B 11 (11 + i)) ∧ (∀ i, i < 4 → B' 3 i = B 11 (51 + i) ∧ B' 4 i = B 11 (55 + i)) ∧ (∀ i, i < 8 → B' 5 i = B 11 (59 + i) ∧ B' 6 i = B 11 (67 + i)) := by
  have e := fun t => e_X10_undo 59 J B L t
  simp only [h18, d_n10, cond_true] at e
  generalize hJ : upd (upd (upd (upd (upd J 0 (B 11 (Int32.toNatClampNeg 0))) 2 (B 11 (Int32.toNatClampNeg 1))) 4 (B 11 (Int32.toNatClampNeg 2))) 7 (B 11 (Int32.toNatClampNeg 3))) 10 (B 11 (Int32.toNatClampNeg 4)) = J0 at e
  have hJ2 : J0 2 = B 11 1 := by rw [← hJ]; rfl
  obtain ⟨B1, p1, p2, p3, p4⟩ := r_und62 (J := J0) (L := L) 59 9999993 6 0 B (by omega)
  obtain ⟨B2, q1, q2, q3, q4⟩ := r_und90 (J := J0) (L := L) 59 9999952 40 0 B1 (by omega)
  obtain ⟨B3, r1, r2, r3, r4⟩ := r_und119 (J := J0) (L := L) 59 9999947 4 0 B2 (by omega)
  obtain ⟨B4, s1, s2, s3, s4⟩ := r_und162 (J := J0) (L := L) 59 9999938 8 0 B3 (by omega)
  have f1 : B1 11 = B 11 := p2 11 (by omega)
  have f2 : B2 11 = B 11 := (q2 11 (by omega)).trans f1
  have f3 : B3 11 = B 11 := (r2 11 (by omega)).trans f2
  rw [hJ2] at s1
  rw [← hJ] at s1 r1 q1 p1 e
  refine ⟨B4, fun t => (e t).trans ((p1 t).trans ((q1 t).trans ((r1 t).trans (s1 t)))), fun c hc => ?_, fun i hi => ?_, fun i hi => ?_, fun i hi => ?_, fun i hi => ?_⟩
  · rw [s2 c (by omega), r2 c (by omega), q2 c (by omega), p2 c (by omega)]
  · rw [s2 1 (by omega), r2 1 (by omega), q2 1 (by omega)]; exact p3 i (by omega) hi
  · rw [s2 2 (by omega), r2 2 (by omega), q3 i (by omega) hi, f1]
  · rw [s2 3 (by omega), s2 4 (by omega), (r3 i (by omega) hi).1, (r3 i (by omega) hi).2, f2]; exact ⟨rfl, rfl⟩
  · rw [(s3 i (by omega) hi).1, (s3 i (by omega) hi).2, f3]; exact ⟨rfl, rfl⟩
theorem P_image (h : Rel I A J B) : Ans 113 205 [] I A J B L := by
  obtain ⟨⟨⟨s, ⟨n, w⟩, ⟨z, l⟩, ⟨p, k, o⟩, ⟨r, a, v⟩⟩, hv, hc, hm⟩, hI, hT, hP, hL⟩ := h
  have hv' := hv
  obtain ⟨v1, ⟨n6, vw⟩, ⟨z40, vl⟩, ⟨p4, vp⟩, ⟨r8, vr⟩⟩ := hv'
  obtain ⟨c1, ⟨c2, cw⟩, ⟨c3, cl⟩, ⟨c4, cp⟩, ⟨c5, cr⟩⟩ := id hc
  obtain ⟨m1, ⟨m2, mw⟩, ⟨m3, ml⟩, ⟨m4, mp⟩, ⟨m5, mr⟩⟩ := id hm
  obtain ⟨B', b1, b2, ⟨z0, z1, z2, z3, z4⟩, y1, y2, y3, y4⟩ := r_image (J := J) (B := B) (L := L)
  have e1 := fun t => e_X9_image 59 I A t
  simp only [e_X0_copyFrom_9_1 58, e_X6_copyFrom_11_3 57, pn_c0, F1, e_X9_image_at11] at e1
  have hw : J 2 = I 102 := m2.trans c2.symm
  rw [hw] at b1
  refine ⟨_, _, _, _, _, _, e1, b1, ⟨(s, (n, w), (z, l), (p, k, o), (r, a, v)), hv, hc, ?_⟩, Or.inr ⟨rfl, rfl, (s, (n, w), (z, l), (p, k, o), (r, a, v)), hv, ⟨c1, ⟨c2, fun i hi => (cpy_in (by omega)).trans (cw i hi)⟩, ⟨c3, fun i hi => (cpy_in (by omega)).trans (cl i hi)⟩, ⟨c4, fun i hi => ⟨(cpy_in (by omega)).trans (cp i hi).1, (cpy_in (by omega)).trans (cp i hi).2⟩⟩, ⟨c5, fun i hi => ⟨(cpy_in (by omega)).trans (cr i hi).1, (cpy_in (by omega)).trans (cr i hi).2⟩⟩⟩, ?_⟩, ?_, ?_, ?_⟩
  · refine ⟨m1, ⟨m2, ?_⟩, ⟨m3, ?_⟩, ⟨m4, ?_⟩, ⟨m5, ?_⟩⟩
    · rw [b2 1 (by omega)]; exact mw
    · rw [b2 2 (by omega)]; exact ml
    · rw [b2 3 (by omega), b2 4 (by omega)]; exact mp
    · rw [b2 5 (by omega), b2 6 (by omega)]; exact mr
  · refine ⟨z0.trans m1, ⟨z1.trans m2, fun i hi => ?_⟩, ⟨z2.trans m3, fun i hi => ?_⟩, ⟨z3.trans m4, fun i hi => ?_⟩, ⟨z4.trans m5, fun i hi => ?_⟩⟩
    · rw [y1 i (by omega)]; exact mw i hi
    · rw [y2 i (by omega)]; exact ml i hi
    · rw [(y3 i (by omega)).1, (y3 i (by omega)).2]; exact mp i hi
    · rw [(y4 i (by omega)).1, (y4 i (by omega)).2]; exact mr i hi
  · obtain ⟨tz, tc, t1, t2, t3, t4⟩ := hT
    exact ⟨tz, tc, t1, t2, t3, by rw [b2 7 (by omega)]; exact t4⟩
  · obtain ⟨pz, p1, p2, p3, p4⟩ := hP
    exact ⟨pz, p1, p2, p3, by rw [b2 8 (by omega)]; exact p4⟩
  · unfold rL rL1
    rw [b2 9 (by omega), b2 10 (by omega)]
    exact hL
theorem P_undo (h : Rel I A J B) : Ans 114 206 [] I A J B L := by
  have hh := h
  obtain ⟨-, hI, hT, hP, hL⟩ := h
  rcases hI with ⟨i1, i2⟩ | ⟨i1, i2, ⟨s, ⟨n, w⟩, ⟨z, l⟩, ⟨p, k, o⟩, ⟨r, a, v⟩⟩, hv, hc, hm⟩
  · have e1 := fun t => e_X9_undo 59 I A t
    have e2 := fun t => e_X10_undo 59 J B L t
    simp only [i1, d_n00, cond_false] at e1
    simp only [i2, d_n00, cond_false] at e2
    exact ⟨_, _, _, _, _, _, e1, e2, hh⟩
  have hv' := hv
  obtain ⟨v1, ⟨n6, vw⟩, ⟨z40, vl⟩, ⟨p4, vp⟩, ⟨r8, vr⟩⟩ := hv'
  obtain ⟨c1, ⟨c2, cw⟩, ⟨c3, cl⟩, ⟨c4, cp⟩, ⟨c5, cr⟩⟩ := id hc
  obtain ⟨m1, ⟨m2, mw⟩, ⟨m3, ml⟩, ⟨m4, mp⟩, ⟨m5, mr⟩⟩ := id hm
  obtain ⟨B', b1, b2, y1, y2, y3, y4⟩ := r_undo (J := J) (B := B) (L := L) i2
  have e1 := fun t => e_X9_undo 59 I A t
  simp only [i1, d_n10, cond_true, e_X0_copyFrom_1_9 58, e_X6_copyFrom_3_11 57, pn_c0, F1, e_X9_undo_at21] at e1
  have hw : B 11 1 = I 902 := m2.trans c2.symm
  have e1' : ∀ t, zC 60 114 [.ref 0] (hC I A, t) = some (some (.int (I 902)), _) := e1
  rw [hw] at b1
  refine ⟨_, _, _, _, _, _, e1', b1, ⟨(s, (n, w), (z, l), (p, k, o), (r, a, v)), hv, ⟨c1, ⟨c2, fun i hi => (cpy_in (by omega)).trans (cw i hi)⟩, ⟨c3, fun i hi => (cpy_in (by omega)).trans (cl i hi)⟩, ⟨c4, fun i hi => ⟨(cpy_in (by omega)).trans (cp i hi).1, (cpy_in (by omega)).trans (cp i hi).2⟩⟩, ⟨c5, fun i hi => ⟨(cpy_in (by omega)).trans (cr i hi).1, (cpy_in (by omega)).trans (cr i hi).2⟩⟩⟩, ?_⟩, Or.inr ⟨i1, i2, (s, (n, w), (z, l), (p, k, o), (r, a, v)), hv, hc, ?_⟩, ?_, ?_, ?_⟩
  · refine ⟨m1, ⟨hw.symm.trans m2, fun i hi => ?_⟩, ⟨m3, fun i hi => ?_⟩, ⟨m4, fun i hi => ?_⟩, ⟨m5, fun i hi => ?_⟩⟩
    · rw [y1 i (by omega)]; exact mw i hi
    · rw [y2 i (by omega)]; exact ml i hi
    · rw [(y3 i (by omega)).1, (y3 i (by omega)).2]; exact mp i hi
    · rw [(y4 i (by omega)).1, (y4 i (by omega)).2]; exact mr i hi
  · rw [b2 11 (by omega)]; exact hm
  · obtain ⟨tz, tc, t1, t2, t3, t4⟩ := hT
    exact ⟨tz, tc, t1, t2, t3, by rw [b2 7 (by omega)]; exact t4⟩
  · obtain ⟨pz, p1, p2, p3, p4⟩ := hP
    exact ⟨pz, p1, p2, p3, by rw [b2 8 (by omega)]; exact p4⟩
  · unfold rL rL1
    rw [b2 9 (by omega), b2 10 (by omega)]
    exact hL
end IM
