/-! the best answer: both ways to look for it -/
def vld (s a m c : Nat) : Bool := decide (wl c = m) && (okw s c && decide (c ≠ a))
def stp (s a : Nat) (q : Nat × Nat × Nat) (c : Nat) : Nat × Nat × Nat := if q.2.1 * (nb s (ov c c) - nb s (ov c a)) < (nb s (ov a a) - nb s (ov a c)) * q.2.2 then (c, nb s (ov a a) - nb s (ov a c), nb s (ov c c) - nb s (ov c a)) else q
def scn (s a m : Nat) : Nat → Nat → Nat × Nat × Nat → Nat × Nat × Nat
  | 0, _, q => q
  | j + 1, b, q => scn s a m j (b + 1) (if vld s a m b = true then stp s a q b else q)
def qok (q : Nat × Nat × Nat) : Prop := q.1 < 100000 ∧ q.2.1 ≤ 363 ∧ q.2.2 ≤ 363 ∧ (q.1 = 0 → q.2.1 = 0 ∧ q.2.2 = 1)
theorem vld_iff {s a m c : Nat} : vld s a m c = true ↔ wl c = m ∧ okw s c = true ∧ c ≠ a := by
  unfold vld
  simp only [Bool.and_eq_true, decide_eq_true_eq]
theorem w_pos' {s a b : Nat} (hs : s = 2 ∨ s = 3) (ha1 : 1 ≤ a) (ha : a < 100000) (h : wl a = wl b) (hn : a ≠ b) : nb s (ov a b) < nb s (ov a a) :=
  w_pos hs ha1 ha (fun _ => by rw [h, Nat.sub_self, Nat.pow_zero, Nat.div_one]; exact hn)
theorem stp_qok {s a : Nat} (hs : s = 2 ∨ s = 3) {q : Nat × Nat × Nat} {c : Nat} (hq : qok q) (hc1 : 1 ≤ c) (hc : c < 100000) : qok (stp s a q c) := by
  have h1 := nb_363 hs (ov_lt a a)
  have h2 := nb_363 hs (ov_lt c c)
  unfold stp
  split
  · refine ⟨hc, ?_, ?_, fun h => ?_⟩
    · dsimp only; omega
    · dsimp only; omega
    · dsimp only at h; omega
  · exact hq
theorem scn_qok {s a m : Nat} (hs : s = 2 ∨ s = 3) : ∀ (j b : Nat) (q : Nat × Nat × Nat), qok q → qok (scn s a m j b q) := by
  intro j
  induction j with
  | zero => intro b q h; exact h
  | succ j ih =>
    intro b q h
    simp only [scn]
    by_cases hv : vld s a m b = true
    · rw [if_pos hv]
      have := okw_lt (vld_iff.mp hv).2.1
      exact ih _ _ (stp_qok hs h this.1 this.2)
    · rw [if_neg hv]; exact ih _ _ h
theorem scn_skip {s a m : Nat} : ∀ (k b j : Nat) (q : Nat × Nat × Nat), (∀ c, b ≤ c → c < b + k → ¬ vld s a m c = true) → scn s a m (k + j) b q = scn s a m j (b + k) q := by
  intro k
  induction k with
  | zero => intro b j q _; rw [Nat.zero_add]; rfl
  | succ k ih =>
    intro b j q h
    rw [show k + 1 + j = (k + j) + 1 by omega]
    simp only [scn]
    rw [if_neg (h b (by omega) (by omega)), ih (b + 1) j q (fun c h1 h2 => h c (by omega) (by omega)), show b + 1 + k = b + (k + 1) by omega]
theorem scn_none {s a m j b : Nat} {q : Nat × Nat × Nat} (h : ∀ c, b ≤ c → c < b + j → ¬ vld s a m c = true) : scn s a m j b q = q := by
  have := scn_skip (s := s) (a := a) (m := m) j b 0 q h
  rw [Nat.add_zero] at this
  rw [this]
  rfl
theorem stp_val {s a : Nat} {q : Nat × Nat × Nat} {c m : Nat} (hv : vld s a m c = true) (hq : vld s a m q.1 = true) : vld s a m (stp s a q c).1 = true := by
  unfold stp
  split
  · exact hv
  · exact hq
theorem scn_val {s a m : Nat} : ∀ (j b : Nat) (q : Nat × Nat × Nat), vld s a m q.1 = true → vld s a m (scn s a m j b q).1 = true := by
  intro j
  induction j with
  | zero => intro b q h; exact h
  | succ j ih =>
    intro b q h
    simp only [scn]
    by_cases hv : vld s a m b = true
    · rw [if_pos hv]; exact ih _ _ (stp_val hv h)
    · rw [if_neg hv]; exact ih _ _ h
theorem scn_ex {s a m : Nat} (hs : s = 2 ∨ s = 3) (ha1 : 1 ≤ a) (ha : a < 100000) (hm : wl a = m) {c : Nat} (hc : vld s a m c = true) : ∀ (j b : Nat), b ≤ c → c < b + j → vld s a m (scn s a m j b (0, 0, 1)).1 = true := by
  intro j
  induction j with
  | zero => intro b h1 h2; omega
  | succ j ih =>
    intro b h1 h2
    simp only [scn]
    by_cases hv : vld s a m b = true
    · rw [if_pos hv]
      apply scn_val
      have hw := vld_iff.mp hv
      have hp := w_pos' hs ha1 ha (hm.trans hw.1.symm) (fun e => hw.2.2 e.symm)
      have : stp s a (0, 0, 1) b = (b, nb s (ov a a) - nb s (ov a b), nb s (ov b b) - nb s (ov b a)) := by
        unfold stp
        rw [if_pos (by dsimp only; omega)]
      rw [this]
      exact hv
    · rw [if_neg hv]
      have : b ≠ c := fun e => hv (e ▸ hc)
      exact ih (b + 1) (by omega) (by omega)
/-- the best answer to a word -/
def ba (s a : Nat) : Nat := (scn s a (wl a) (10 ^ wl a - 1) 1 (0, 0, 1)).1
theorem pow35 {s g : Nat} (hs : s = 2 ∨ s = 3) (hg : g < 5) : s ^ (g + 1) ≤ 243 := by
  have hg5 : g = 0 ∨ g = 1 ∨ g = 2 ∨ g = 3 ∨ g = 4 := by omega
  rcases hs with rfl | rfl <;> rcases hg5 with rfl | rfl | rfl | rfl | rfl <;> decide
theorem ones_ok : ∀ g, g < 5 → ∀ s, s < 4 → 2 ≤ s → okd s (g + 1) (ones (g + 1)) = true ∧ okd s (g + 1) (ones (g + 1) + 1) = true ∧ rk s (g + 1) (ones (g + 1)) = 0 ∧ 10 ^ g ≤ ones (g + 1) ∧ ones (g + 1) + 1 < 10 ^ (g + 1) ∧ 10 ^ (g + 1) / 9 = ones (g + 1) := by decide
theorem ba_vld {s a : Nat} (hs : s = 2 ∨ s = 3) (h : okw s a = true) : vld s a (wl a) (ba s a) = true := by
  have h1 := okw_lt h
  have lp := wl_pos h1.1
  have l5 := wl_le a
  obtain ⟨o1, o2, o3, o4, o5, o6⟩ := ones_ok (wl a - 1) (by omega) s (by omega) (by omega)
  rw [show wl a - 1 + 1 = wl a by omega] at o1 o2 o3 o4 o5 o6
  have hp := p10_pos (wl a - 1)
  unfold ba
  by_cases e : a = ones (wl a)
  · have w := okw_of (s := s) (w := ones (wl a) + 1) (g := wl a - 1) (by omega) (by omega) (by rw [show wl a - 1 + 1 = wl a by omega]; omega) (by rw [show wl a - 1 + 1 = wl a by omega]; exact o2)
    exact scn_ex hs h1.1 h1.2 rfl (vld_iff.mpr ⟨by omega, w.1, by omega⟩) _ _ (by omega) (by omega)
  · have w := okw_of (s := s) (w := ones (wl a)) (g := wl a - 1) (by omega) (by omega) (by rw [show wl a - 1 + 1 = wl a by omega]; omega) (by rw [show wl a - 1 + 1 = wl a by omega]; exact o1)
    exact scn_ex hs h1.1 h1.2 rfl (vld_iff.mpr ⟨by omega, w.1, fun q => e q.symm⟩) _ _ (by omega) (by omega)
theorem ba_ok {s a : Nat} (hs : s = 2 ∨ s = 3) (h : okw s a = true) : okw s (ba s a) = true ∧ wl (ba s a) = wl a ∧ ba s a ≠ a := by
  have := vld_iff.mp (ba_vld hs h)
  exact ⟨this.2.1, this.1, this.2.2⟩
theorem r_bestL (d : Nat) (hd : 5 ≤ d) (t : List zm_E) (J : Nat → Int32) (B : Nat → Nat → Int32) (L : Nat → Nat → Int64) {s a m : Nat} (hJ : J 0 = nI s) (hs : s = 2 ∨ s = 3) (ha1 : 1 ≤ a) (ha : a < 100000) (hm : wl a = m) : ∀ (j b f : Nat) (q : Nat × Nat × Nat) (o7 o8 : Option Value), b + j = 10 ^ m → 1 ≤ b → qok q → j < f → zR d f 141 16 [some (.ref 1000), some (.int (nI a)), some (.int (nI m)), some (.int (nI q.1)), some (.int (nI q.2.1)), some (.int (nI q.2.2)), some (.int (nI b)), o7, o8] [] (t, hM J B L) = some (some (.int (nI (scn s a m j b q).1)), (t, hM J B L)) := by
  have l5 := wl_le a
  have h10 : 10 ^ m ≤ 100000 := by rw [show (100000 : Nat) = 10 ^ 5 from rfl]; exact Nat.pow_le_pow_right (by omega) (by omega)
  intro j
  induction j with
  | zero =>
    intro b f q o7 o8 hb hb1 hq hf
    obtain ⟨f, rfl⟩ : ∃ e, f = e + 1 := ⟨f - 1, by omega⟩
    rw [e_X10_bestAnswer_at16, r_ten (by omega) _ (by omega), pn_c1, pn_le (by omega) (by omega), pn_t (by omega)]
    rfl
  | succ j ih =>
    intro b f q o7 o8 hb hb1 hq hf
    obtain ⟨f, rfl⟩ : ∃ e, f = e + 1 := ⟨f - 1, by omega⟩
    have hb5 : b < 100000 := by omega
    have hwb := wl_le b
    rw [e_X10_bestAnswer_at16, r_ten (by omega) _ (by omega), pn_c1, pn_le (by omega) (by omega), pn_f (by omega), r_sizeW (by omega) _ hb5, pn_c1, pn_ne (by omega) (by omega), nI_1]
    simp only [scn]
    by_cases c1 : wl b = m
    · rw [pn_f (by simpa using c1), r_isSuch (by omega) t J B L _ hJ (by omega), pn_c1, show decide (0 < nI b) = true from decide_eq_true (nI_lt (a := 0) hb1 (by omega)), nI_clamp (by omega), Bool.true_and]
      cases c2 : okw s b with
      | false =>
        rw [b01_f, d_00, cond_true, if_neg (fun h => by have := (vld_iff.mp h).2.1; rw [c2] at this; cases this), ih (b + 1) f q _ _ (by omega) (by omega) hq (by omega)]
      | true =>
        rw [b01_t, d_10, cond_false, pn_ne (by omega) (by omega)]
        by_cases c3 : b = a
        · rw [pn_f (by simpa using c3), if_neg (fun h => (vld_iff.mp h).2.2 c3), ih (b + 1) f q _ _ (by omega) (by omega) hq (by omega)]
        · have hp1 := w_pos' hs ha1 ha (hm.trans c1.symm) (fun e => c3 e.symm)
          have hp2 := w_pos' hs hb1 hb5 (c1.trans hm.symm) c3
          have g1 := nb_363 hs (ov_lt a a)
          have g2 := nb_363 hs (ov_lt b b)
          rw [pn_t c3, r_weight (by omega) t J B L hJ hb5 ha, pn_c1, r_weight (by omega) t J B L hJ ha hb5, pn_c1, if_pos (vld_iff.mpr ⟨c1, c2, c3⟩)]
          unfold wt
          rw [pn_sub (Nat.le_of_lt hp1), pn_sub (Nat.le_of_lt hp2), show (0 : Int32) = nI 0 from rfl, pn_eq (by have := hq.1; omega) (by decide)]
          have hq' := stp_qok (a := a) hs hq hb1 hb5
          by_cases c4 : q.1 = 0
          · have e := hq.2.2.2 c4
            have : stp s a q b = (b, nb s (ov a a) - nb s (ov a b), nb s (ov b b) - nb s (ov b a)) := by
              unfold stp
              rw [if_pos (by rw [e.1, e.2]; omega)]
            rw [pn_t c4]
            rw [this] at hq' ⊢
            exact ih (b + 1) f _ _ _ (by omega) (by omega) hq' (by omega)
          · have m1 : q.2.1 * (nb s (ov b b) - nb s (ov b a)) ≤ 363 * 363 := Nat.mul_le_mul hq.2.1 (by omega)
            have m2 : (nb s (ov a a) - nb s (ov a b)) * q.2.2 ≤ 363 * 363 := Nat.mul_le_mul (by omega) hq.2.2.1
            rw [pn_f c4, pk_mul, pk_mul, pn_lt (by omega) (by omega)]
            unfold stp at hq' ⊢
            by_cases c5 : q.2.1 * (nb s (ov b b) - nb s (ov b a)) < (nb s (ov a a) - nb s (ov a b)) * q.2.2
            · rw [if_pos c5] at hq' ⊢
              rw [pn_t c5]
              exact ih (b + 1) f _ _ _ (by omega) (by omega) hq' (by omega)
            · rw [if_neg c5, pn_f c5]
              exact ih (b + 1) f _ _ _ (by omega) (by omega) hq (by omega)
    · rw [pn_t c1, if_neg (fun h => c1 (vld_iff.mp h).1), ih (b + 1) f q _ _ (by omega) (by omega) hq (by omega)]
theorem qok0 : qok (0, 0, 1) := ⟨by decide, by decide, by decide, fun _ => ⟨rfl, rfl⟩⟩
theorem r_best {d : Nat} (hd : 6 ≤ d) (t : List zm_E) (J : Nat → Int32) (B : Nat → Nat → Int32) (L : Nat → Nat → Int64) {s a : Nat} (hJ : J 0 = nI s) (hs : s = 2 ∨ s = 3) (h : okw s a = true) : zC d 141 [.ref 1000, .int (nI a)] (t, hM J B L) = some (some (.int (nI (ba s a))), (t, hM J B L)) := by
  obtain ⟨d, rfl⟩ : ∃ e, d = e + 1 := ⟨d - 1, by omega⟩
  have h1 := okw_lt h
  have l5 := wl_le a
  have lp := p10_pos (wl a)
  have l9 : 10 ^ wl a ≤ 100000 := by rw [show (100000 : Nat) = 10 ^ 5 from rfl]; exact Nat.pow_le_pow_right (by omega) l5
  rw [e_X10_bestAnswer, r_sizeW (by omega) _ h1.2, pn_c1]
  exact r_bestL d (by omega) t J B L hJ hs h1.1 h1.2 rfl (10 ^ wl a - 1) 1 10000000 (0, 0, 1) none none (by omega) (by omega) qok0 (by omega)
theorem s_bestL (d : Nat) (hd : 5 ≤ d) (h : zm_H) {s a g : Nat} (hs : s = 2 ∨ s = 3) (ha1 : 1 ≤ a) (ha : a < 100000) (hm : wl a = g + 1) (hg : g < 5) : ∀ (n j c f : Nat) (q : Nat × Nat × Nat) (o8 o9 : Option Value), s ^ (g + 1) - rk s (g + 1) c ≤ n → c + j = 10 ^ (g + 1) → 10 ^ g ≤ c → 0 < j → okd s (g + 1) c = true → qok q → 2 * n < f → zR d f 37 27 [some (.int (nI a)), some (.int (nI s)), some (.int (nI (nb s (ov a a)))), some (.int (nI q.1)), some (.int (nI q.2.1)), some (.int (nI q.2.2)), some (.int (nI c)), some (.int (nI (rk s (g + 1) c))), o8, o9] [] h = some (some (.int (nI (scn s a (g + 1) j c q).1)), h) := by
  have s1 : 1 ≤ s := by omega
  have s3 : s ≤ 3 := by omega
  have h243 := pow35 hs hg
  have h10 : 10 ^ (g + 1) ≤ 100000 := by rw [show (100000 : Nat) = 10 ^ 5 from rfl]; exact Nat.pow_le_pow_right (by omega) (by omega)
  have hp := p10_pos g
  intro n
  induction n with
  | zero =>
    intro j c f q o8 o9 hn hj hc hj0 hok hq hf
    have := rk_lt s1 _ _ hok
    omega
  | succ n ih =>
    intro j c f q o8 o9 hn hj hc hj0 hok hq hf
    have hr := rk_lt s1 _ _ hok
    have hcw := okw_of hg hc (by omega) hok
    have hc5 := okw_lt hcw.1
    obtain ⟨f, rfl⟩ : ∃ e, f = e + 1 + 1 := ⟨f - 2, by omega⟩
    obtain ⟨j, rfl⟩ : ∃ e, j = e + 1 := ⟨j - 1, by omega⟩
    have at99 : ∀ (q : Nat × Nat × Nat) (o8 o9 : Option Value), qok q → zR d (f + 1) 37 99 [some (.int (nI a)), some (.int (nI s)), some (.int (nI (nb s (ov a a)))), some (.int (nI q.1)), some (.int (nI q.2.1)), some (.int (nI q.2.2)), some (.int (nI c)), some (.int (nI (rk s (g + 1) c))), o8, o9] [] h = some (some (.int (nI (scn s a (g + 1) j (c + 1) q).1)), h) := by
      intro q o8 o9 hq
      rw [e_X4_bestAnswer_at99, s_following (by omega) h s3 hcw.1, pn_c1, hcw.2, nI_1]
      rcases nx_spec s1 s3 g c hc (by omega) hok with ⟨n1, n2⟩ | ⟨n1, n2, n3, n4, n5⟩
      · rw [n1, scn_none (fun b b1 b2 b3 => n2 b (by omega) (by omega) (by
          have := vld_iff.mp b3
          have w := okw_dig this.2.1
          rw [this.1, show g + 1 - 1 + 1 = g + 1 by omega] at w
          exact w.2.1))]
        obtain ⟨f, rfl⟩ : ∃ e, f = e + 1 := ⟨f - 1, by omega⟩
        rw [e_X4_bestAnswer_at27]
        by_cases e : (243 : Int32) ≤ nI (rk s (g + 1) c + 1)
        · rw [pn_t e]
        · rw [pn_f e, pn_t (show nI 0 ≤ (0 : Int32) by decide)]
      · generalize hu : nx s (g + 1) c = u at n1 n2 n3 n4 n5 ⊢
        rw [← n4, ih (10 ^ (g + 1) - u) u f q o8 o9 (by omega) (by omega) (by omega) (by omega) n3 hq (by omega)]
        have := scn_skip (s := s) (a := a) (m := g + 1) (u - (c + 1)) (c + 1) (10 ^ (g + 1) - u) q (fun b b1 b2 b3 => n5 b (by omega) (by omega) (by
          have := vld_iff.mp b3
          have w := okw_dig this.2.1
          rw [this.1, show g + 1 - 1 + 1 = g + 1 by omega] at w
          exact w.2.1))
        rw [show u - (c + 1) + (10 ^ (g + 1) - u) = j by omega, show c + 1 + (u - (c + 1)) = u by omega] at this
        rw [this]
    rw [e_X4_bestAnswer_at27, pn_f (show ¬ (243 : Int32) ≤ nI (rk s (g + 1) c) from nI_ge (b := 243) (by omega) (by decide)), pn_f (show ¬ nI c ≤ (0 : Int32) from nI_nle (by omega) (by omega)), pn_eq (by omega) (by omega)]
    simp only [scn]
    by_cases c3 : c = a
    · rw [pn_t c3, at99 q _ _ hq, if_neg (fun h => (vld_iff.mp h).2.2 c3)]
    · have hp1 := w_pos' hs ha1 ha (hm.trans hcw.2.symm) (fun e => c3 e.symm)
      have hp2 := w_pos' hs hc5.1 hc5.2 (hcw.2.trans hm.symm) c3
      have g1 := nb_363 hs (ov_lt a a)
      have g2 := nb_363 hs (ov_lt c c)
      have m1 : q.2.1 * (nb s (ov c c) - nb s (ov c a)) ≤ 363 * 363 := Nat.mul_le_mul hq.2.1 (by omega)
      have m2 : (nb s (ov a a) - nb s (ov a c)) * q.2.2 ≤ 363 * 363 := Nat.mul_le_mul (by omega) hq.2.2.1
      rw [pn_f c3, s_number (by omega) h (by omega) (by omega), pn_c1, s_number (by omega) h (by omega) (by omega), pn_c1, s_number (by omega) h (by omega) (by omega), pn_c1, pn_sub (Nat.le_of_lt hp1), pn_sub (Nat.le_of_lt hp2), pk_mul, pk_mul, pn_le (by omega) (by omega), if_pos (vld_iff.mpr ⟨hcw.2, hcw.1, c3⟩)]
      have hq' := stp_qok (a := a) hs hq hc5.1 hc5.2
      unfold stp at hq' ⊢
      by_cases c5 : q.2.1 * (nb s (ov c c) - nb s (ov c a)) < (nb s (ov a a) - nb s (ov a c)) * q.2.2
      · rw [if_pos c5] at hq' ⊢
        rw [pn_f (by omega), at99 _ _ _ hq']
      · rw [if_neg c5, pn_t (by omega), at99 q _ _ hq]
theorem s_least {d : Nat} (hd : 2 ≤ d) (h : zm_H) {g : Nat} (hg : g < 5) : zC d 74 [.int (nI (g + 1))] h = some (some (.int (nI (ones (g + 1)))), h) := by
  obtain ⟨d, rfl⟩ : ∃ e, d = e + 1 := ⟨d - 1, by omega⟩
  have o6 := (ones_ok g hg 2 (by omega) (by omega)).2.2.2.2.2
  have l9 := p10_lt (k := g + 1) (by omega)
  rw [e_X8_least, s_tens (by omega) h (by omega), pn_c1, show (9 : Int32) = nI 9 from rfl, pk_div l9 (by decide) (by decide), o6]
theorem s_best {d : Nat} (hd : 6 ≤ d) (h : zm_H) {s a : Nat} (hs : s = 2 ∨ s = 3) (ho : okw s a = true) : zC d 37 [.int (nI a), .int (nI s)] h = some (some (.int (nI (ba s a))), h) := by
  obtain ⟨d, rfl⟩ : ∃ e, d = e + 1 := ⟨d - 1, by omega⟩
  have h1 := okw_lt ho
  have lp := wl_pos h1.1
  have l5 := wl_le a
  obtain ⟨g, hg⟩ : ∃ g, wl a = g + 1 := ⟨wl a - 1, by omega⟩
  obtain ⟨o1, o2, o3, o4, o5, o6⟩ := ones_ok g (by omega) s (by omega) (by omega)
  have hp := p10_pos g
  have l9 : 10 ^ (g + 1) ≤ 100000 := by rw [show (100000 : Nat) = 10 ^ 5 from rfl]; exact Nat.pow_le_pow_right (by omega) (by omega)
  have h243 := pow35 hs (show g < 5 by omega)
  rw [e_X4_bestAnswer, s_number (by omega) h (by omega) (by omega), pn_c1, s_length (by omega) h (by omega), pn_c1, hg, s_least (by omega) h (by omega), pn_c1]
  have := s_bestL d (by omega) h hs h1.1 h1.2 hg (by omega) (s ^ (g + 1)) (10 ^ (g + 1) - ones (g + 1)) (ones (g + 1)) 10000000 (0, 0, 1) none none (by omega) (by omega) o4 (by omega) o1 qok0 (by omega)
  rw [o3] at this
  rw [show (0 : Int32) = nI 0 from rfl, show (1 : Int32) = nI 1 from rfl, this]
  unfold ba
  rw [hg]
  have sk := scn_skip (s := s) (a := a) (m := g + 1) (ones (g + 1) - 1) 1 (10 ^ (g + 1) - ones (g + 1)) (0, 0, 1) (fun b b1 b2 b3 => by
    have h3 := vld_iff.mp b3
    have w := okw_dig h3.2.1
    rw [h3.1, show g + 1 - 1 + 1 = g + 1 by omega, show g + 1 - 1 = g by omega] at w
    have := okd_ge g b w.1 w.2.1
    omega)
  rw [show ones (g + 1) - 1 + (10 ^ (g + 1) - ones (g + 1)) = 10 ^ (g + 1) - 1 by omega, show 1 + (ones (g + 1) - 1) = ones (g + 1) by omega] at sk
  rw [sk]
/-! letters; words made of words: turned, shifted, led by a letter -/
def ltr (w i : Nat) : Nat := w / 10 ^ (wl w - 1 - i) % 10
def dg (s : Nat) : Nat → Nat → Prop
  | 0, m => m = 0
  | e + 1, m => dg s e (m / 10) ∧ (1 ≤ m % 10 ∧ m % 10 ≤ s)
theorem dg_lt {s : Nat} : ∀ e m, dg s e m → m < 10 ^ e
  | 0, m, h => by have h : m = 0 := h; subst h; decide
  | e + 1, m, h => by have := dg_lt e _ h.1; rw [Nat.pow_succ]; omega
theorem dg_ge {s : Nat} : ∀ e m, dg s (e + 1) m → 10 ^ e ≤ m
  | 0, m, h => by have := h.2; rw [Nat.pow_zero]; omega
  | e + 1, m, h => by have := dg_ge e _ h.1; rw [Nat.pow_succ]; omega
theorem dg_okd {s : Nat} : ∀ e m, dg s e m → okd s e m = true
  | 0, m, h => rfl
  | e + 1, m, h => okd_s.mpr (Or.inr ⟨h.2, dg_okd e _ h.1⟩)
theorem dg_of {s : Nat} : ∀ e m, 10 ^ e ≤ m → m < 10 ^ (e + 1) → okd s (e + 1) m = true → dg s (e + 1) m
  | 0, m, h1, h2, h3 => by
    rw [Nat.pow_zero] at h1
    have h4 := (okd_s.mp h3).resolve_left (by omega)
    have h5 : m < 10 := by simpa using h2
    exact ⟨show m / 10 = 0 by omega, h4.1⟩
  | e + 1, m, h1, h2, h3 => by
    have e1 : 10 ^ (e + 1) = 10 ^ e * 10 := Nat.pow_succ ..
    have e2 : 10 ^ (e + 1 + 1) = 10 ^ (e + 1) * 10 := Nat.pow_succ ..
    have hp := p10_pos e
    have h4 := (okd_s.mp h3).resolve_left (by omega)
    exact ⟨dg_of e _ (by omega) (by omega) h4.2, h4.1⟩
theorem okw_dg {s w : Nat} (h : okw s w = true) : dg s (wl w) w := by
  obtain ⟨g1, g2, g3⟩ := okw_dig h
  have lp := wl_pos (okw_lt h).1
  have := dg_of _ _ g1 g3 g2
  rw [show wl w - 1 + 1 = wl w by omega] at this
  exact this
theorem dg_okw {s e m : Nat} (h : dg s (e + 1) m) (he : e < 5) : okw s m = true ∧ wl m = e + 1 := okw_of he (dg_ge e m h) (dg_lt _ _ h) (dg_okd _ _ h)
theorem dg_push {s e m l : Nat} (hs : s ≤ 3) (h : dg s e m) (h1 : 1 ≤ l) (h2 : l ≤ s) : dg s (e + 1) (m * 10 + l) := by
  refine ⟨?_, ?_⟩
  · rw [show (m * 10 + l) / 10 = m by omega]; exact h
  · omega
theorem dg_lead {s l : Nat} (hs : s ≤ 3) (h1 : 1 ≤ l) (h2 : l ≤ s) : ∀ e u, dg s e u → dg s (e + 1) (l * 10 ^ e + u)
  | 0, u, h => by
    have h : u = 0 := h
    subst h
    rw [Nat.pow_zero, Nat.mul_one, Nat.add_zero]
    exact ⟨show l / 10 = 0 by omega, by omega⟩
  | e + 1, u, h => by
    have ih := dg_lead hs h1 h2 e (u / 10) h.1
    have e1 : l * 10 ^ (e + 1) = l * 10 ^ e * 10 := by rw [Nat.pow_succ, Nat.mul_assoc]
    refine ⟨?_, ?_⟩
    · rw [show (l * 10 ^ (e + 1) + u) / 10 = l * 10 ^ e + u / 10 by rw [e1]; omega]; exact ih
    · rw [show (l * 10 ^ (e + 1) + u) % 10 = u % 10 by rw [e1]; omega]; exact h.2
theorem dg_div {s : Nat} : ∀ k e m, dg s (e + k) m → dg s e (m / 10 ^ k)
  | 0, e, m, h => by rw [Nat.pow_zero, Nat.div_one]; exact h
  | k + 1, e, m, h => by
    have h1 : dg s (e + k) (m / 10) := h.1
    have := dg_div k e _ h1
    rw [Nat.div_div_eq_div_mul, ← Nat.pow_succ'] at this
    exact this
theorem ltr_ok {s w i : Nat} (h : okw s w = true) (hi : i < wl w) : 1 ≤ ltr w i ∧ ltr w i ≤ s := by
  have := dg_div (wl w - 1 - i) (i + 1) w (by rw [show i + 1 + (wl w - 1 - i) = wl w by omega]; exact okw_dg h)
  exact this.2
theorem s_letterAt {d : Nat} (hd : 3 ≤ d) (h : zm_H) {w i : Nat} (hw : w < 2 ^ 31) (hi : i < wl w) : zC d 59 [.int (nI w), .int (nI i)] h = some (some (.int (nI (ltr w i))), h) := by
  obtain ⟨d, rfl⟩ : ∃ e, d = e + 1 := ⟨d - 1, by omega⟩
  rw [e_X8_letterAt, nI_1, s_firstLetters (by omega) h hw (by omega), pn_c1, show (10 : Int32) = nI 10 from rfl, pk_rem (Nat.lt_of_le_of_lt (Nat.div_le_self _ _) hw) (by decide) (by decide)]
  unfold ltr
  rw [show wl w - (i + 1) = wl w - 1 - i by omega]
theorem r_letterOf {d : Nat} (hd : 2 ≤ d) (h : zm_H) {w i : Nat} (hw : w < 100000) (hi : i < wl w) : zC d 131 [.int (nI w), .int (nI i)] h = some (some (.int (nI (ltr w i))), h) := by
  obtain ⟨d, rfl⟩ : ∃ e, d = e + 1 := ⟨d - 1, by omega⟩
  have l5 := wl_le w
  have h10 := p10_lt (k := wl w - 1 - i) (by omega)
  have hp := p10_pos (wl w - 1 - i)
  rw [e_X10_letterOf, r_sizeW (by omega) _ hw, pn_c1, show (1 : Int32) = nI 1 from rfl, pn_sub (by omega), pn_sub (by omega), r_ten (by omega) _ (by omega), pn_c1, show (0 : Int32) = nI 0 from rfl, pn_eq h10 (by decide), pn_f (by omega), show (10 : Int32) = nI 10 from rfl, pk_div (by omega) hp h10, pk_rem (Nat.lt_of_le_of_lt (Nat.div_le_self _ _) (by omega)) (by decide) (by decide)]
  rfl
def on1 (s l : Nat) : Nat := if l < s then l + 1 else 1
theorem on1_ok {s l : Nat} (hs : 1 ≤ s) : 1 ≤ on1 s l ∧ on1 s l ≤ s := by
  unfold on1
  split <;> omega
theorem s_oneOn {d : Nat} (hd : 1 ≤ d) (h : zm_H) {s l : Nat} (hl : l < 2 ^ 30) (hs : s < 2 ^ 31) : zC d 68 [.int (nI l), .int (nI s)] h = some (some (.int (nI (on1 s l))), h) := by
  obtain ⟨d, rfl⟩ : ∃ e, d = e + 1 := ⟨d - 1, by omega⟩
  rw [e_X8_oneOn, pn_le hs (by omega), nI_1]
  unfold on1
  by_cases c : l < s
  · rw [pn_f (by omega), if_pos c]
  · rw [pn_t (by omega), if_neg c]; rfl
theorem r_on {d : Nat} (hd : 1 ≤ d) (t : List zm_E) (J : Nat → Int32) (B : Nat → Nat → Int32) (L : Nat → Nat → Int64) {s l : Nat} (hJ : J 0 = nI s) (hl : l ≤ s) (hs : s < 2 ^ 30) : zC d 134 [.ref 1000, .int (nI l)] (t, hM J B L) = some (some (.int (nI (on1 s l))), (t, hM J B L)) := by
  obtain ⟨d, rfl⟩ : ∃ e, d = e + 1 := ⟨d - 1, by omega⟩
  rw [e_X10_on, hJ, pn_ne (by omega) (by omega), nI_1]
  unfold on1
  by_cases c : l = s
  · rw [pn_f (by simpa using c), if_neg (by omega)]; rfl
  · rw [pn_t c, if_pos (by omega)]
/-! turned about -/
def trn : Nat → Nat → Nat → Nat
  | 0, _, m => m
  | g + 1, v, m => if v = 0 then m else trn g (v / 10) (m * 10 + v % 10)
def tn (w : Nat) : Nat := trn (wl w) w 0
theorem trn_dg {s : Nat} (hs : s ≤ 3) : ∀ g e v m, dg s g v → dg s e m → dg s (g + e) (trn g v m)
  | 0, e, v, m, h1, h2 => by rw [Nat.zero_add]; exact h2
  | g + 1, e, v, m, h1, h2 => by
    simp only [trn]
    have := h1.2
    rw [if_neg (by omega), show g + 1 + e = g + (e + 1) by omega]
    exact trn_dg hs g (e + 1) _ _ h1.1 (dg_push hs h2 this.1 this.2)
theorem tn_dg {s w : Nat} (hs : s ≤ 3) (h : okw s w = true) : dg s (wl w) (tn w) := by
  have := trn_dg hs (wl w) 0 w 0 (okw_dg h) rfl
  exact this
theorem dg_ok {s w u : Nat} (h : okw s w = true) (hd : dg s (wl w) u) : okw s u = true ∧ wl u = wl w := by
  have lp := wl_pos (okw_lt h).1
  have l5 := wl_le w
  obtain ⟨g, hg⟩ : ∃ g, wl w = g + 1 := ⟨wl w - 1, by omega⟩
  rw [hg] at hd ⊢
  exact dg_okw hd (by omega)
theorem s_turnedL (d : Nat) (hd : 3 ≤ d) (h : zm_H) {w : Nat} (hw1 : 1 ≤ w) (hw : w < 100000) : ∀ (k m f : Nat), k < f → k ≤ wl w → zR d f 69 9 [some (.int (nI w)), some (.int (nI m)), some (.int (nI k - 1))] [] h = some (some (.int (nI (trn k (w / 10 ^ (wl w - k)) m))), h) := by
  intro k
  induction k with
  | zero =>
    intro m f hf hk
    obtain ⟨f, rfl⟩ : ∃ e, f = e + 1 := ⟨f - 1, by omega⟩
    rw [e_X8_turned_at9, pn_t (show nI 0 - 1 < 0 by decide)]
    rfl
  | succ k ih =>
    intro m f hf hk
    obtain ⟨f, rfl⟩ : ∃ e, f = e + 1 := ⟨f - 1, by omega⟩
    have g1 := wl_ge hw1
    have l5 := wl_le w
    have g2 : 10 ^ (wl w - (k + 1)) ≤ 10 ^ (wl w - 1) := Nat.pow_le_pow_right (by omega) (by omega)
    have g3 : 1 ≤ w / 10 ^ (wl w - (k + 1)) := (Nat.le_div_iff_mul_le (p10_pos _)).mpr (by omega)
    have hn : w / 10 ^ (wl w - k) = w / 10 ^ (wl w - (k + 1)) / 10 := by
      rw [Nat.div_div_eq_div_mul, ← Nat.pow_succ, show (wl w - (k + 1)).succ = wl w - k by omega]
    have hl : ltr w k = w / 10 ^ (wl w - (k + 1)) % 10 := by
      unfold ltr
      rw [show wl w - 1 - k = wl w - (k + 1) by omega]
    rw [e_X8_turned_at9, nI_pred, pn_f (nI_pos (by omega)), s_letterAt hd h (by omega) (by omega), pn_c1, show (10 : Int32) = nI 10 from rfl, pk_mul, nI_add, ← Int32.sub_eq_add_neg, ih _ f (by omega) (by omega)]
    rw [trn, if_neg (by omega), hn, hl]
theorem s_turned {d : Nat} (hd : 4 ≤ d) (h : zm_H) {w : Nat} (hw1 : 1 ≤ w) (hw : w < 100000) : zC d 69 [.int (nI w)] h = some (some (.int (nI (tn w))), h) := by
  obtain ⟨d, rfl⟩ : ∃ e, d = e + 1 := ⟨d - 1, by omega⟩
  have l5 := wl_le w
  rw [e_X8_turned, s_length (by omega) h (by omega), pn_c1]
  have := s_turnedL d (by omega) h hw1 hw (wl w) 0 10000000 (by omega) (Nat.le_refl _)
  rw [Nat.sub_self, Nat.pow_zero, Nat.div_one] at this
  exact this
theorem r_turnedL (d : Nat) (h : zm_H) (w : Int32) : ∀ (g f v m : Nat), g < f → v < 2 ^ 31 → v < 10 ^ g → zR d f 183 4 [some (.int w), some (.int (nI m)), some (.int (nI v))] [] h = some (some (.int (nI (trn g v m))), h) := by
  intro g
  induction g with
  | zero =>
    intro f v m hf hv h10
    obtain ⟨f, rfl⟩ : ∃ e, f = e + 1 := ⟨f - 1, by omega⟩
    have : v = 0 := by omega
    subst this
    rw [e_X10_turned_at4, pn_t (show nI 0 ≤ 0 by decide)]
    rfl
  | succ g ih =>
    intro f v m hf hv h10
    obtain ⟨f, rfl⟩ : ∃ e, f = e + 1 := ⟨f - 1, by omega⟩
    rw [e_X10_turned_at4, show (0 : Int32) = nI 0 from rfl, pn_le hv (by decide), trn]
    by_cases h0 : v = 0
    · rw [pn_t (by omega), if_pos h0]
    · rw [pn_f (by omega), if_neg h0, show (10 : Int32) = nI 10 from rfl, pk_rem hv (by decide) (by decide), pk_mul, nI_add, pk_div hv (by decide) (by decide), ih f (v / 10) _ (by omega) (by omega) (by rw [Nat.pow_succ] at h10; omega), Nat.mul_comm 10 m]
theorem r_turned {d : Nat} (hd : 1 ≤ d) (h : zm_H) {w : Nat} (hw : w < 100000) : zC d 183 [.int (nI w)] h = some (some (.int (nI (tn w))), h) := by
  obtain ⟨d, rfl⟩ : ∃ e, d = e + 1 := ⟨d - 1, by omega⟩
  have l5 := wl_le w
  rw [e_X10_turned]
  exact r_turnedL d h (nI w) (wl w) 10000000 w 0 (by omega) (by omega) (wl_lt hw)
/-! shifted -/
def shf (s w : Nat) : Nat → Nat → Nat → Nat
  | 0, _, m => m
  | j + 1, i, m => shf s w j (i + 1) (m * 10 + on1 s (ltr w i))
def sh (s w : Nat) : Nat := shf s w (wl w) 0 0
theorem shf_dg {s w : Nat} (hs : s ≤ 3) (hs1 : 1 ≤ s) : ∀ j e i m, dg s e m → dg s (j + e) (shf s w j i m)
  | 0, e, i, m, h => by rw [Nat.zero_add]; exact h
  | j + 1, e, i, m, h => by
    have := on1_ok (s := s) (l := ltr w i) hs1
    simp only [shf]
    rw [show j + 1 + e = j + (e + 1) by omega]
    exact shf_dg hs hs1 j (e + 1) _ _ (dg_push hs h this.1 this.2)
theorem sh_dg {s w : Nat} (hs : s ≤ 3) (hs1 : 1 ≤ s) : dg s (wl w) (sh s w) := by
  have := shf_dg (w := w) hs hs1 (wl w) 0 0 0 rfl
  exact this
theorem s_shiftedL (d : Nat) (hd : 3 ≤ d) (h : zm_H) {s w : Nat} (hw : okw s w = true) (hs3 : s ≤ 3) : ∀ (j i m f : Nat), i + j = wl w → j < f → zR d f 70 10 [some (.int (nI w)), some (.int (nI s)), some (.int (nI m)), some (.int (nI (wl w))), some (.int (nI i))] [] h = some (some (.int (nI (shf s w j i m))), h) := by
  have hlt := okw_lt hw
  have l5 := wl_le w
  intro j
  induction j with
  | zero =>
    intro i m f hi hf
    obtain ⟨f, rfl⟩ : ∃ e, f = e + 1 := ⟨f - 1, by omega⟩
    rw [e_X8_shifted_at10, pn_t (nI_le (by omega) (by omega))]
    rfl
  | succ j ih =>
    intro i m f hi hf
    obtain ⟨f, rfl⟩ : ∃ e, f = e + 1 := ⟨f - 1, by omega⟩
    have hl := ltr_ok hw (i := i) (by omega)
    rw [e_X8_shifted_at10, pn_f (nI_ge (by omega) (by omega)), s_letterAt hd h (by omega) (by omega), pn_c1, s_oneOn (by omega) h (by omega) (by omega), pn_c1, show (10 : Int32) = nI 10 from rfl, pk_mul, nI_add, nI_1, ih (i + 1) _ f (by omega) (by omega)]
    rfl
theorem s_shifted {d : Nat} (hd : 4 ≤ d) (h : zm_H) {s w : Nat} (hw : okw s w = true) (hs3 : s ≤ 3) : zC d 70 [.int (nI w), .int (nI s)] h = some (some (.int (nI (sh s w))), h) := by
  obtain ⟨d, rfl⟩ : ∃ e, d = e + 1 := ⟨d - 1, by omega⟩
  have hlt := okw_lt hw
  have l5 := wl_le w
  rw [e_X8_shifted, s_length (by omega) h (by omega), pn_c1, show (0 : Int32) = nI 0 from rfl, s_shiftedL d (by omega) h hw hs3 (wl w) 0 0 10000000 (by omega) (by omega)]
  rfl
theorem r_shiftedL (d : Nat) (hd : 2 ≤ d) (t : List zm_E) (J : Nat → Int32) (B : Nat → Nat → Int32) (L : Nat → Nat → Int64) {s w : Nat} (hJ : J 0 = nI s) (hw : okw s w = true) (hs3 : s ≤ 3) : ∀ (j i m f : Nat), i + j = wl w → j < f → zR d f 184 4 [some (.ref 1000), some (.int (nI w)), some (.int (nI m)), some (.int (nI i))] [] (t, hM J B L) = some (some (.int (nI (shf s w j i m))), (t, hM J B L)) := by
  have hlt := okw_lt hw
  have l5 := wl_le w
  intro j
  induction j with
  | zero =>
    intro i m f hi hf
    obtain ⟨f, rfl⟩ : ∃ e, f = e + 1 := ⟨f - 1, by omega⟩
    rw [e_X10_shifted_at4, r_sizeW (by omega) _ hlt.2, pn_c1, pn_t (nI_le (by omega) (by omega))]
    rfl
  | succ j ih =>
    intro i m f hi hf
    obtain ⟨f, rfl⟩ : ∃ e, f = e + 1 := ⟨f - 1, by omega⟩
    have hl := ltr_ok hw (i := i) (by omega)
    rw [e_X10_shifted_at4, r_sizeW (by omega) _ hlt.2, pn_c1, pn_f (nI_ge (by omega) (by omega)), r_letterOf hd _ hlt.2 (by omega), pn_c1, r_on (by omega) t J B L hJ hl.2 (by omega), pn_c1, show (10 : Int32) = nI 10 from rfl, pk_mul, nI_add, nI_1, ih (i + 1) _ f (by omega) (by omega), Nat.mul_comm 10 m]
    rfl
theorem r_shifted {d : Nat} (hd : 3 ≤ d) (t : List zm_E) (J : Nat → Int32) (B : Nat → Nat → Int32) (L : Nat → Nat → Int64) {s w : Nat} (hJ : J 0 = nI s) (hw : okw s w = true) (hs3 : s ≤ 3) : zC d 184 [.ref 1000, .int (nI w)] (t, hM J B L) = some (some (.int (nI (sh s w))), (t, hM J B L)) := by
  obtain ⟨d, rfl⟩ : ∃ e, d = e + 1 := ⟨d - 1, by omega⟩
  have l5 := wl_le w
  rw [e_X10_shifted, show (0 : Int32) = nI 0 from rfl, r_shiftedL d (by omega) t J B L hJ hw hs3 (wl w) 0 0 10000000 (by omega) (by omega)]
  rfl
/-! led by a letter -/
def led (l w : Nat) : Nat := l * 10 ^ (wl w - 1) + w / 10
theorem led_dg {s l w : Nat} (hs : s ≤ 3) (h1 : 1 ≤ l) (h2 : l ≤ s) (h : okw s w = true) : dg s (wl w) (led l w) := by
  have lp := wl_pos (okw_lt h).1
  obtain ⟨g, hg⟩ : ∃ g, wl w = g + 1 := ⟨wl w - 1, by omega⟩
  have hd := okw_dg h
  unfold led
  rw [hg] at hd ⊢
  exact dg_lead hs h1 h2 g _ hd.1
theorem s_ledBy {d : Nat} (hd : 2 ≤ d) (h : zm_H) {l w : Nat} (hw1 : 1 ≤ w) (hw : w < 100000) : zC d 73 [.int (nI l), .int (nI w)] h = some (some (.int (nI (led l w))), h) := by
  obtain ⟨d, rfl⟩ : ∃ e, d = e + 1 := ⟨d - 1, by omega⟩
  have l5 := wl_le w
  have lp := wl_pos hw1
  rw [e_X8_ledBy, s_length (by omega) h (by omega), pn_c1, show (1 : Int32) = nI 1 from rfl, pn_sub lp, s_tens (by omega) h (by omega), pn_c1, show (10 : Int32) = nI 10 from rfl, pk_mul, pk_div (by omega) (by decide) (by decide), nI_add]
  rfl
theorem r_ahead {d : Nat} (hd : 2 ≤ d) (h : zm_H) {l w : Nat} (hw1 : 1 ≤ w) (hw : w < 100000) : zC d 185 [.int (nI l), .int (nI w)] h = some (some (.int (nI (led l w))), h) := by
  obtain ⟨d, rfl⟩ : ∃ e, d = e + 1 := ⟨d - 1, by omega⟩
  have l5 := wl_le w
  have lp := wl_pos hw1
  rw [e_X10_ahead, r_sizeW (by omega) h hw, pn_c1, show (1 : Int32) = nI 1 from rfl, pn_sub lp, r_ten (by omega) h (by omega), pn_c1, show (10 : Int32) = nI 10 from rfl, pk_mul, pk_div (by omega) (by decide) (by decide), nI_add]
  rfl
theorem s_doubled {d : Nat} (hd : 4 ≤ d) (h : zm_H) {w : Nat} (hw1 : 1 ≤ w) (hw : w < 100000) : zC d 71 [.int (nI w)] h = some (some (.int (nI (led (ltr w 0) w))), h) := by
  obtain ⟨d, rfl⟩ : ∃ e, d = e + 1 := ⟨d - 1, by omega⟩
  rw [e_X8_doubled, show (0 : Int32) = nI 0 from rfl, s_letterAt (by omega) h (by omega) (wl_pos hw1), pn_c1, s_ledBy (by omega) h hw1 hw, pn_c1]
def asw (s w : Nat) : Nat := led (on1 s (ltr w (if wl w ≤ 1 then 0 else 1))) w
theorem ltr_one {w : Nat} (hw1 : 1 ≤ w) (hw : w < 100000) (h : wl w ≤ 1) : ltr w 0 = w := by
  have h1 := wl_lt hw
  have h2 : 10 ^ wl w ≤ 10 ^ 1 := Nat.pow_le_pow_right (by omega) h
  unfold ltr
  rw [show wl w - 1 - 0 = 0 by omega, Nat.pow_zero, Nat.div_one]
  omega
theorem s_answering {d : Nat} (hd : 4 ≤ d) (h : zm_H) {s w : Nat} (hw1 : 1 ≤ w) (hw : w < 100000) (hs : s < 2 ^ 31) : zC d 72 [.int (nI w), .int (nI s)] h = some (some (.int (nI (asw s w))), h) := by
  obtain ⟨d, rfl⟩ : ∃ e, d = e + 1 := ⟨d - 1, by omega⟩
  have l5 := wl_le w
  unfold asw
  rw [e_X8_answering, s_length (by omega) h (by omega), pn_c1, show (1 : Int32) = nI 1 from rfl, pn_le (by omega) (by decide)]
  by_cases c : wl w ≤ 1
  · rw [pn_t c, if_pos c, ltr_one hw1 hw c, s_oneOn (by omega) h (by omega) hs, pn_c1, s_ledBy (by omega) h hw1 hw, pn_c1]
  · have hl : ltr w 1 < 10 := Nat.mod_lt _ (by decide)
    rw [pn_f c, if_neg c, s_letterAt (by omega) h (by omega) (by omega), pn_c1, s_oneOn (by omega) h (by omega) hs, pn_c1, s_ledBy (by omega) h hw1 hw, pn_c1]
/-- what a player of a kind picks, by his own word and the other's pick -/
def pck (s kd own ag : Nat) : Nat := if kd = 0 then own else if kd = 1 then tn own else if kd = 2 then asw s ag else if kd = 3 then sh s (tn own) else if kd = 4 then ba s ag else led (ltr (sh s (tn own)) 0) (sh s (tn own))
theorem tn_ok {s w : Nat} (hs : s ≤ 3) (h : okw s w = true) : okw s (tn w) = true ∧ wl (tn w) = wl w := dg_ok h (tn_dg hs h)
theorem sh_ok {s w : Nat} (hs : s ≤ 3) (hs1 : 1 ≤ s) (h : okw s w = true) : okw s (sh s w) = true ∧ wl (sh s w) = wl w := dg_ok h (sh_dg hs hs1)
theorem pck_ok {s kd own ag : Nat} (hs : s = 2 ∨ s = 3) (h1 : okw s own = true) (h2 : okw s ag = true) : okw s (pck s kd own ag) = true := by
  have s3 : s ≤ 3 := by omega
  have s1 : 1 ≤ s := by omega
  have t1 := tn_ok s3 h1
  have t2 := sh_ok s3 s1 t1.1
  unfold pck
  by_cases k0 : kd = 0
  · rw [if_pos k0]; exact h1
  rw [if_neg k0]
  by_cases k1 : kd = 1
  · rw [if_pos k1]; exact t1.1
  rw [if_neg k1]
  by_cases k2 : kd = 2
  · rw [if_pos k2]
    have := on1_ok (s := s) (l := ltr ag (if wl ag ≤ 1 then 0 else 1)) s1
    exact (dg_ok h2 (led_dg s3 this.1 this.2 h2)).1
  rw [if_neg k2]
  by_cases k3 : kd = 3
  · rw [if_pos k3]; exact t2.1
  rw [if_neg k3]
  by_cases k4 : kd = 4
  · rw [if_pos k4]; exact (ba_ok hs h2).1
  rw [if_neg k4]
  have := ltr_ok t2.1 (i := 0) (wl_pos (okw_lt t2.1).1)
  exact (dg_ok t2.1 (led_dg s3 this.1 this.2 t2.1)).1
/-! who beats whom; the chance of one against another -/
def bt (s a b : Nat) : Bool := !(inn a b || inn b a) && decide (¬ wt s a b ≤ wt s b a)
theorem s_beats {d : Nat} (hd : 5 ≤ d) (h : zm_H) {a b s : Nat} (ha : a < 100000) (hb : b < 100000) : zC d 36 [.int (nI a), .int (nI b), .int (nI s)] h = some (some (.int (b01 (bt s a b))), h) := by
  obtain ⟨d, rfl⟩ : ∃ e, d = e + 1 := ⟨d - 1, by omega⟩
  rw [e_X4_beats, s_clash (by omega) h (by omega) (by omega), pn_c1]
  unfold bt
  cases h1 : (inn a b || inn b a) with
  | true => rfl
  | false =>
    rw [b01_f, d_n00, cond_false, s_share (by omega) h ha hb, pn_c1, s_share (by omega) h hb ha, pn_c1]
    by_cases c : wt s a b ≤ wt s b a
    · rw [pn_t c, decide_eq_false (fun q => q c)]; rfl
    · rw [pn_f c, decide_eq_true c]; rfl
theorem r_beats {d : Nat} (hd : 5 ≤ d) (t : List zm_E) (J : Nat → Int32) (B : Nat → Nat → Int32) (L : Nat → Nat → Int64) {a b s : Nat} (hJ : J 0 = nI s) (ha1 : 1 ≤ a) (ha : a < 100000) (hb1 : 1 ≤ b) (hb : b < 100000) : zC d 140 [.ref 1000, .int (nI a), .int (nI b)] (t, hM J B L) = some (some (.int (b01 (bt s a b))), (t, hM J B L)) := by
  obtain ⟨d, rfl⟩ : ∃ e, d = e + 1 := ⟨d - 1, by omega⟩
  rw [e_X10_beats, r_apart (by omega) _ ha1 ha hb1 hb, pn_c1]
  unfold bt
  cases h1 : (inn a b || inn b a) with
  | true => rfl
  | false =>
    rw [show b01 (!false) = 1 from rfl, d_10, cond_false, r_weight (by omega) t J B L hJ ha hb, pn_c1, r_weight (by omega) t J B L hJ hb ha, pn_c1]
    by_cases c : wt s a b ≤ wt s b a
    · rw [pn_t c, decide_eq_false (fun q => q c)]; rfl
    · rw [pn_f c, decide_eq_true c]; rfl
def chn (s a b : Nat) (p : Int32) : Int64 := fL (Int32.toInt64 (wt s a b)) (Int32.toInt64 (wt s a b + wt s b a)) (if p = 0 then Int32.toInt64 (wt s a b) else Int32.toInt64 (wt s a b + wt s b a))
theorem inn_pre {a b : Nat} (hb : b < 100000) (h : inn b a = false) (hle : wl b ≤ wl a) : b ≠ a / 10 ^ (wl a - wl b) := by
  intro e
  have : inn b a = true := by
    unfold inn
    rw [inr_iff]
    exact ⟨wl a - wl b, by omega, by omega, by rw [← e]; exact Nat.mod_eq_of_lt (wl_lt hb)⟩
  rw [this] at h
  cases h
theorem inn_same {a b : Nat} (hb : b < 100000) (h : wl a = wl b) (hn : a ≠ b) : inn a b = false := by
  rw [Bool.eq_false_iff]
  intro q
  unfold inn at q
  rw [inr_iff] at q
  obtain ⟨i, h1, h2, h3⟩ := q
  have e : i = 0 := by omega
  subst e
  rw [Nat.pow_zero, Nat.div_one, h, Nat.mod_eq_of_lt (wl_lt hb)] at h3
  exact hn h3.symm
theorem wt_n {s a b : Nat} (hs : s = 2 ∨ s = 3) (hb1 : 1 ≤ b) (hb : b < 100000) (h : inn b a = false) : ∃ x, 0 < x ∧ x ≤ 363 ∧ wt s a b = nI x := by
  have h1 := w_pos hs hb1 hb (b := a) (inn_pre hb h)
  have h2 := nb_363 hs (ov_lt b b)
  refine ⟨nb s (ov b b) - nb s (ov b a), by omega, by omega, ?_⟩
  unfold wt
  rw [pn_sub (by omega)]
theorem chn_pre {s a b : Nat} (hs : s = 2 ∨ s = 3) (ha : okw s a = true) (hb : okw s b = true) (h : (inn a b || inn b a) = false) : (Int32.toInt64 (wt s a b)).toInt.natAbs < 2 ^ 49 ∧ (Int32.toInt64 (wt s a b + wt s b a)).toInt.natAbs < 2 ^ 49 ∧ (Int32.toInt64 (wt s a b + wt s b a)).toInt ≠ 0 := by
  have ha := okw_lt ha
  have hb := okw_lt hb
  rw [Bool.or_eq_false_iff] at h
  obtain ⟨x, x1, x2, x3⟩ := wt_n hs hb.1 hb.2 h.2
  obtain ⟨y, y1, y2, y3⟩ := wt_n hs ha.1 ha.2 h.1
  rw [x3, y3, nI_add, Int32.toInt_toInt64, Int32.toInt_toInt64, nI_toInt (by omega), nI_toInt (by omega)]
  omega
theorem s_chance {d : Nat} (hd : 5 ≤ d) (h : zm_H) {s a b : Nat} (hs : s = 2 ∨ s = 3) (ha : okw s a = true) (hb : okw s b = true) (p : Int32) : zC d 35 [.int (nI a), .int (nI b), .int (nI s), .int p] h = some (some (.long (bif inn a b || inn b a then -9223372036854775808 else chn s a b p)), h) := by
  obtain ⟨d, rfl⟩ : ∃ e, d = e + 1 := ⟨d - 1, by omega⟩
  have ha' := okw_lt ha
  have hb' := okw_lt hb
  rw [e_X4_chancePart, s_clash (by omega) h (by omega) (by omega), pn_c1]
  cases h1 : (inn a b || inn b a) with
  | true => rw [b01_t, d_10, cond_false, cond_true]
  | false =>
    obtain ⟨q1, q2, q3⟩ := chn_pre hs ha hb h1
    rw [b01_f, d_00, cond_true, s_share (by omega) h ha'.2 hb'.2, pn_c1, s_share (by omega) h hb'.2 ha'.2, pn_c1, s_partOf (by omega) h _ _ p q1 q2 q3, pn_c2, cond_false]
    rfl
theorem r_chanceOf {d : Nat} (hd : 5 ≤ d) (t : List zm_E) (J : Nat → Int32) (B : Nat → Nat → Int32) (L : Nat → Nat → Int64) {s a b : Nat} (hJ : J 0 = nI s) (hs : s = 2 ∨ s = 3) (ha : okw s a = true) (hb : okw s b = true) (p : Int32) (h1 : (inn a b || inn b a) = false) : zC d 143 [.ref 1000, .int (nI a), .int (nI b), .int p] (t, hM J B L) = some (some (.long (chn s a b p)), (t, hM J B L)) := by
  obtain ⟨d, rfl⟩ : ∃ e, d = e + 1 := ⟨d - 1, by omega⟩
  have ha' := okw_lt ha
  have hb' := okw_lt hb
  obtain ⟨q1, q2, q3⟩ := chn_pre hs ha hb h1
  rw [e_X10_chanceOf, r_weight (by omega) t J B L hJ ha'.2 hb'.2, pn_c1, r_weight (by omega) t J B L hJ hb'.2 ha'.2, pn_c1, r_lowest (by omega) _ _ _ p (by omega) (by omega) q3, pn_c2]
  rfl
theorem s_isPart {d : Nat} (hd : 1 ≤ d) (h : zm_H) (x : Int32) : zC d 31 [.int x] h = some (some (.int (b01 (decide (x = 0 ∨ x = 1)))), h) := by
  obtain ⟨d, rfl⟩ : ∃ e, d = e + 1 := ⟨d - 1, by omega⟩
  rw [e_X3_isPart]
  by_cases h0 : x = 0
  · rw [pn_t h0, decide_eq_true (Or.inl h0)]; rfl
  · rw [pn_f h0]
    by_cases h1 : x = 1
    · rw [pn_f (by simpa using h1), decide_eq_true (Or.inr h1)]; rfl
    · rw [pn_t h1, decide_eq_false (fun q => q.elim h0 h1)]; rfl
theorem r_isPart {d : Nat} (hd : 1 ≤ d) (h : zm_H) (x : Int32) : zC d 127 [.int x] h = some (some (.int (b01 (decide (x = 0 ∨ x = 1)))), h) := by
  obtain ⟨d, rfl⟩ : ∃ e, d = e + 1 := ⟨d - 1, by omega⟩
  rw [e_X10_isPart]
  by_cases h0 : x = 0
  · rw [pn_t h0, decide_eq_true (Or.inl h0)]; rfl
  · rw [pn_f h0]
    by_cases h1 : x = 1
    · rw [pn_f (by simpa using h1), decide_eq_true (Or.inr h1)]; rfl
    · rw [pn_t h1, decide_eq_false (fun q => q.elim h0 h1)]; rfl
section PL
variable {I : Nat → Int32} {A : Nat → Nat → Int32} {J : Nat → Int32} {B : Nat → Nat → Int32} {L : Nat → Nat → Int64} {t : List zm_E} {s n z p r : Nat} {w l k o a v : Nat → Nat}
theorem c_hpl0 {d : Nat} (hd : 1 ≤ d) (hp : I 106 = nI p) {x : Int32} (h : x < 0 ∨ nI p ≤ x) : zC d 9 [.ref 1, .int x] (hC I A, t) = some (some (.int 0), (hC I A, t)) := by
  obtain ⟨d, rfl⟩ : ∃ e, d = e + 1 := ⟨d - 1, by omega⟩
  rw [e_X0_hasPlayer, hp]
  by_cases h1 : x < 0
  · rw [pn_t h1]
  · rw [pn_f h1, pn_t (h.resolve_left h1)]
theorem c_hpl1 {d j : Nat} (hd : 1 ≤ d) (hp : I 106 = nI p) (p4 : p ≤ 4) (hj : j < p) : zC d 9 [.ref 1, .int (nI j)] (hC I A, t) = some (some (.int 1), (hC I A, t)) := by
  obtain ⟨d, rfl⟩ : ∃ e, d = e + 1 := ⟨d - 1, by omega⟩
  rw [e_X0_hasPlayer, hp, pn_f (nI_pos (by omega)), pn_f (nI_ge hj (by omega)), pn_f (show ¬ (4 : Int32) ≤ nI j from nI_ge (b := 4) (by omega) (by decide))]
theorem r_ipl0 {d : Nat} (hd : 2 ≤ d) (hp : J 7 = nI p) (p4 : p ≤ 4) {x : Int32} (h : x < 0 ∨ nI p ≤ x) : zC d 182 [.ref 1000, .int x] (t, hM J B L) = some (some (.int 0), (t, hM J B L)) := by
  obtain ⟨d, rfl⟩ : ∃ e, d = e + 1 := ⟨d - 1, by omega⟩
  rw [e_X10_isPlayer, r_in (by omega), pn_c1, hp, i_in0 (by omega) h]
  rfl
theorem r_ipl1 {d j : Nat} (hd : 2 ≤ d) (hp : J 7 = nI p) (p4 : p ≤ 4) (hj : j < p) : zC d 182 [.ref 1000, .int (nI j)] (t, hM J B L) = some (some (.int 1), (t, hM J B L)) := by
  obtain ⟨d, rfl⟩ : ∃ e, d = e + 1 := ⟨d - 1, by omega⟩
  rw [e_X10_isPlayer, r_in (by omega), pn_c1, hp, i_in1 (by omega) hj]
  rfl
theorem c_pickA {d q u : Nat} (hd : 7 ≤ d) (hv : vB (s, (n, w), (z, l), (p, k, o), (r, a, v))) (hc : cB 1 I A (s, (n, w), (z, l), (p, k, o), (r, a, v))) (hq : q < p) (hu : okw s u = true) : zC d 13 [.ref 1, .int (nI q), .int (nI u)] (hC I A, t) = some (some (.int (nI (pck s (k q) (w (o q)) u))), (hC I A, t)) := by
  obtain ⟨d, rfl⟩ : ∃ e, d = e + 1 := ⟨d - 1, by omega⟩
  obtain ⟨v1, ⟨n6, vw⟩, v3, ⟨p4, vp⟩, v5⟩ := hv
  obtain ⟨c1, ⟨c2, cw⟩, c3, ⟨c4, cp⟩, c5⟩ := hc
  have c1 : I 100 = nI s := c1
  have c2 : I 102 = nI n := c2
  have c4 : I 106 = nI p := c4
  have ck : A 5 q = nI (k q) := (cp q hq).1
  have co : A 6 q = nI (o q) := (cp q hq).2
  have hk := (vp q hq).1
  have ho := (vp q hq).2
  have cwo : A 2 (o q) = nI (w (o q)) := cw _ ho
  have how := vw _ ho
  have hlt := okw_lt how
  have s3 : s ≤ 3 := by omega
  have s1 : 1 ≤ s := by omega
  have hu' := okw_lt hu
  have t1 := tn_ok s3 how
  have t1' := okw_lt t1.1
  have t2 := sh_ok s3 s1 t1.1
  have t2' := okw_lt t2.1
  rw [e_X0_pickAgainst, c_hpl1 (by omega) c4 p4 hq, pn_c1, F1, e_X0_pickAgainst_at5, d_n10, cond_true, pn_in (show q < 4 by omega) (by decide), cond_true, pn_cl (show q < 2 ^ 31 by omega), co, c_wa (by omega) c2 n6 ho, pn_c1, cwo, F2, e_X0_pickAgainst_at20, pn_in (show q < 4 by omega) (by decide), cond_true, pn_cl (show q < 2 ^ 31 by omega), ck, c1]
  unfold pck
  generalize k q = kd at hk ⊢
  have hk' : kd = 0 ∨ kd = 1 ∨ kd = 2 ∨ kd = 3 ∨ kd = 4 ∨ kd = 5 := by omega
  rcases hk' with rfl | rfl | rfl | rfl | rfl | rfl
  · rw [pn_f (by decide), pn_f (by decide), pn_f (by decide), pn_f (by decide), pn_f (by decide), if_pos rfl]
  · rw [pn_t (by decide), s_turned (by omega) _ hlt.1 hlt.2, pn_c1, if_neg (by decide), if_pos rfl]
  · rw [pn_f (by decide), pn_t (by decide), s_answering (by omega) _ hu'.1 hu'.2 (by omega), pn_c1, if_neg (by decide), if_neg (by decide), if_pos rfl]
  · rw [pn_f (by decide), pn_f (by decide), pn_t (by decide), s_turned (by omega) _ hlt.1 hlt.2, pn_c1, F3, e_X0_pickAgainst_at78, c1, s_shifted (by omega) _ t1.1 s3, pn_c1, if_neg (by decide), if_neg (by decide), if_neg (by decide), if_pos rfl]
  · rw [pn_f (by decide), pn_f (by decide), pn_f (by decide), pn_t (by decide), s_best (by omega) _ v1 hu, pn_c1, if_neg (by decide), if_neg (by decide), if_neg (by decide), if_neg (by decide), if_pos rfl]
  · rw [pn_f (by decide), pn_f (by decide), pn_f (by decide), pn_f (by decide), pn_t (by decide), s_turned (by omega) _ hlt.1 hlt.2, pn_c1, F3, e_X0_pickAgainst_at99, c1, s_shifted (by omega) _ t1.1 s3, pn_c1, s_doubled (by omega) _ t2'.1 t2'.2, pn_c1, if_neg (by decide), if_neg (by decide), if_neg (by decide), if_neg (by decide), if_neg (by decide)]
theorem c_firstP {d q : Nat} (hd : 8 ≤ d) (hv : vB (s, (n, w), (z, l), (p, k, o), (r, a, v))) (hc : cB 1 I A (s, (n, w), (z, l), (p, k, o), (r, a, v))) (hq : q < p) : zC d 12 [.ref 1, .int (nI q)] (hC I A, t) = some (some (.int (nI (pck s (k q) (w (o q)) (w (o q))))), (hC I A, t)) := by
  obtain ⟨d, rfl⟩ : ∃ e, d = e + 1 := ⟨d - 1, by omega⟩
  have c2 : I 102 = nI n := hc.2.1.1
  have c4 : I 106 = nI p := hc.2.2.2.1.1
  have p4 : p ≤ 4 := hv.2.2.2.1.1
  have n6 : n ≤ 6 := hv.2.1.1
  have co : A 6 q = nI (o q) := (hc.2.2.2.1.2 q hq).2
  have ho : o q < n := (hv.2.2.2.1.2 q hq).2
  have cwo : A 2 (o q) = nI (w (o q)) := hc.2.1.2 _ ho
  rw [e_X0_firstPick, c_hpl1 (by omega) c4 p4 hq, pn_c1, F1, e_X0_firstPick_at5, d_10, cond_false, pn_in (show q < 4 by omega) (by decide), cond_true, pn_cl (show q < 2 ^ 31 by omega), co, c_wa (by omega) c2 n6 ho, pn_c1, cwo, c_pickA (by omega) hv hc hq (hv.2.1.2 _ ho), pn_c1]
theorem r_picks {d q u : Nat} (hd : 7 ≤ d) (hv : vB (s, (n, w), (z, l), (p, k, o), (r, a, v))) (hm : mB J B (s, (n, w), (z, l), (p, k, o), (r, a, v))) (hq : q < p) (hu : okw s u = true) : zC d 186 [.ref 1000, .int (nI q), .int (nI u)] (t, hM J B L) = some (some (.int (nI (pck s (k q) (w (o q)) u))), (t, hM J B L)) := by
  obtain ⟨d, rfl⟩ : ∃ e, d = e + 1 := ⟨d - 1, by omega⟩
  obtain ⟨v1, ⟨n6, vw⟩, v3, ⟨p4, vp⟩, v5⟩ := hv
  obtain ⟨m1, ⟨m2, mw⟩, m3, ⟨m4, mp⟩, m5⟩ := hm
  have mk : B 3 q = nI (k q) := (mp q hq).1
  have mo : B 4 q = nI (o q) := (mp q hq).2
  have hk := (vp q hq).1
  have ho := (vp q hq).2
  have mwo : B 1 (o q) = nI (w (o q)) := mw _ ho
  have how := vw _ ho
  have hlt := okw_lt how
  have s3 : s ≤ 3 := by omega
  have s1 : 1 ≤ s := by omega
  have hu' := okw_lt hu
  have t1 := tn_ok s3 how
  have t1' := okw_lt t1.1
  have t2 := sh_ok s3 s1 t1.1
  have t2' := okw_lt t2.1
  have lu := wl_pos hu'.1
  have lu5 := wl_le u
  have e := e_X10_picks d J B L t (nI q) (nI u)
  simp only [pn_in (show q < 4 by omega) (show 4 < 2 ^ 31 by decide), cond_true, pn_cl (show q < 2 ^ 31 by omega), mk, mo, pn_in (show o q < 6 by omega) (show 6 < 2 ^ 31 by decide), pn_cl (show o q < 2 ^ 31 by omega), mwo] at e
  rw [e]
  clear e mk
  unfold pck
  generalize k q = kd at hk ⊢
  have hk' : kd = 0 ∨ kd = 1 ∨ kd = 2 ∨ kd = 3 ∨ kd = 4 ∨ kd = 5 := by omega
  rcases hk' with rfl | rfl | rfl | rfl | rfl | rfl
  · rw [pn_t (by decide), if_pos rfl]
  · rw [pn_f (by decide), pn_t (by decide), r_turned (by omega) _ hlt.2, pn_c1, if_neg (by decide), if_pos rfl]
  · rw [pn_f (by decide), pn_f (by decide), pn_t (by decide), r_sizeW (by omega) _ hu'.2, pn_c1, if_neg (by decide), if_neg (by decide), if_pos rfl, show (1 : Int32) = nI 1 from rfl, pn_le (by omega) (by decide)]
    unfold asw
    by_cases c : wl u ≤ 1
    · rw [pn_t c, if_pos c, show (0 : Int32) = nI 0 from rfl, r_letterOf (by omega) _ hu'.2 (by omega), pn_c1, r_on (by omega) t J B L m1 (ltr_ok hu (by omega)).2 (by omega), pn_c1, r_ahead (by omega) _ hu'.1 hu'.2, pn_c1]
    · rw [pn_f c, if_neg c, r_letterOf (by omega) _ hu'.2 (by omega), pn_c1, r_on (by omega) t J B L m1 (ltr_ok hu (by omega)).2 (by omega), pn_c1, r_ahead (by omega) _ hu'.1 hu'.2, pn_c1]
  · rw [pn_f (by decide), pn_f (by decide), pn_f (by decide), pn_t (by decide), r_turned (by omega) _ hlt.2, pn_c1, r_shifted (by omega) t J B L m1 t1.1 s3, pn_c1, if_neg (by decide), if_neg (by decide), if_neg (by decide), if_pos rfl]
  · rw [pn_f (by decide), pn_f (by decide), pn_f (by decide), pn_f (by decide), pn_t (by decide), r_best (by omega) t J B L m1 v1 hu, pn_c1, if_neg (by decide), if_neg (by decide), if_neg (by decide), if_neg (by decide), if_pos rfl]
  · rw [pn_f (by decide), pn_f (by decide), pn_f (by decide), pn_f (by decide), pn_f (by decide), r_turned (by omega) _ hlt.2, pn_c1, r_shifted (by omega) t J B L m1 t1.1 s3, pn_c1, show (0 : Int32) = nI 0 from rfl, r_letterOf (by omega) _ t2'.2 (wl_pos t2'.1), pn_c1, r_ahead (by omega) _ t2'.1 t2'.2, pn_c1, if_neg (by decide), if_neg (by decide), if_neg (by decide), if_neg (by decide), if_neg (by decide)]
theorem r_firstP {d q : Nat} (hd : 8 ≤ d) (hv : vB (s, (n, w), (z, l), (p, k, o), (r, a, v))) (hm : mB J B (s, (n, w), (z, l), (p, k, o), (r, a, v))) (hq : q < p) : zC d 187 [.ref 1000, .int (nI q)] (t, hM J B L) = some (some (.int (nI (pck s (k q) (w (o q)) (w (o q))))), (t, hM J B L)) := by
  obtain ⟨d, rfl⟩ : ∃ e, d = e + 1 := ⟨d - 1, by omega⟩
  have p4 : p ≤ 4 := hv.2.2.2.1.1
  have n6 : n ≤ 6 := hv.2.1.1
  have mo : B 4 q = nI (o q) := (hm.2.2.2.1.2 q hq).2
  have ho : o q < n := (hv.2.2.2.1.2 q hq).2
  have mwo : B 1 (o q) = nI (w (o q)) := hm.2.1.2 _ ho
  rw [e_X10_firstPick, pn_in (show q < 4 by omega) (by decide), cond_true, pn_cl (show q < 2 ^ 31 by omega), mo, pn_in (show o q < 6 by omega) (by decide), cond_true, pn_cl (show o q < 2 ^ 31 by omega), mwo, r_picks (by omega) hv hm hq (hv.2.1.2 _ ho), pn_c1]
def wns (s me x : Nat) (k ow : Nat → Nat) : Nat → Nat → Nat → Nat
  | 0, _, m => m
  | j + 1, i, m => wns s me x k ow j (i + 1) (if i = me then m else if bt s x (pck s (k i) (ow i) x) = true then m + 1 else m)
theorem c_winsL (d : Nat) (hd : 7 ≤ d) (hv : vB (s, (n, w), (z, l), (p, k, o), (r, a, v))) (hc : cB 1 I A (s, (n, w), (z, l), (p, k, o), (r, a, v))) {me x : Nat} (hme : me < p) (hx : okw s x = true) : ∀ (j i m f : Nat), i + j = p → 2 * j < f → zR d f 14 31 [some (.ref 1), some (.int (nI me)), some (.int (nI x)), some (.int (nI m)), some (.int (nI i))] [] (hC I A, t) = some (some (.int (nI (wns s me x k (fun i => w (o i)) j i m))), (hC I A, t)) := by
  have c1 : I 100 = nI s := hc.1
  have c4 : I 106 = nI p := hc.2.2.2.1.1
  have p4 : p ≤ 4 := hv.2.2.2.1.1
  have hx' := okw_lt hx
  intro j
  induction j with
  | zero =>
    intro i m f hi hf
    obtain ⟨f, rfl⟩ : ∃ e, f = e + 1 := ⟨f - 1, by omega⟩
    rw [e_X0_wins_at31, c4, pn_t (nI_le (by omega) (by omega))]
    rfl
  | succ j ih =>
    intro i m f hi hf
    obtain ⟨f, rfl⟩ : ∃ e, f = e + 1 + 1 := ⟨f - 2, by omega⟩
    rw [e_X0_wins_at31, c4, pn_f (nI_ge (by omega) (by omega)), pn_eq (by omega) (by omega), nI_1]
    simp only [wns]
    by_cases c : i = me
    · rw [pn_t c, if_pos c, ih (i + 1) m (f + 1) (by omega) (by omega)]
    · have ho : o i < n := (hv.2.2.2.1.2 i (by omega)).2
      have hp := pck_ok (kd := k i) hv.1 (hv.2.1.2 _ ho) hx
      have hp' := okw_lt hp
      rw [pn_f c, if_neg c, c_pickA hd hv hc (by omega) hx, pn_c1, e_X0_wins_at54, c1, s_beats (by omega) _ hx'.2 hp'.2, pn_c1, nI_1, nI_1]
      cases hb : bt s x (pck s (k i) (w (o i)) x) with
      | true => rw [b01_t, d_10, cond_false, if_pos rfl, ih (i + 1) (m + 1) f (by omega) (by omega)]
      | false => rw [b01_f, d_00, cond_true, if_neg (by decide), ih (i + 1) m f (by omega) (by omega)]
theorem c_wins {d q : Nat} (hd : 8 ≤ d) (hv : vB (s, (n, w), (z, l), (p, k, o), (r, a, v))) (hc : cB 1 I A (s, (n, w), (z, l), (p, k, o), (r, a, v))) (hq : q < p) : zC d 14 [.ref 1, .int (nI q)] (hC I A, t) = some (some (.int (nI (wns s q (pck s (k q) (w (o q)) (w (o q))) k (fun i => w (o i)) p 0 0))), (hC I A, t)) := by
  obtain ⟨d, rfl⟩ : ∃ e, d = e + 1 := ⟨d - 1, by omega⟩
  have c2 : I 102 = nI n := hc.2.1.1
  have c4 : I 106 = nI p := hc.2.2.2.1.1
  have p4 : p ≤ 4 := hv.2.2.2.1.1
  have n6 : n ≤ 6 := hv.2.1.1
  have co : A 6 q = nI (o q) := (hc.2.2.2.1.2 q hq).2
  have ho : o q < n := (hv.2.2.2.1.2 q hq).2
  have cwo : A 2 (o q) = nI (w (o q)) := hc.2.1.2 _ ho
  have how := hv.2.1.2 _ ho
  rw [e_X0_wins, c_hpl1 (by omega) c4 p4 hq, pn_c1, F1, e_X0_wins_at5, d_n10, cond_true, pn_in (show q < 4 by omega) (by decide), cond_true, pn_cl (show q < 2 ^ 31 by omega), co, c_wa (by omega) c2 n6 ho, pn_c1, cwo, c_pickA (by omega) hv hc hq how, pn_c1, show (0 : Int32) = nI 0 from rfl, c_winsL d (by omega) hv hc hq (pck_ok hv.1 how how) p 0 0 9999999 (by omega) (by omega)]
theorem r_winsL (d : Nat) (hd : 7 ≤ d) (hv : vB (s, (n, w), (z, l), (p, k, o), (r, a, v))) (hm : mB J B (s, (n, w), (z, l), (p, k, o), (r, a, v))) {me x : Nat} (hme : me < p) (hx : okw s x = true) : ∀ (j i m f : Nat), i + j = p → j < f → zR d f 188 11 [some (.ref 1000), some (.int (nI me)), some (.int (nI m)), some (.int (nI x)), some (.int (nI i))] [] (t, hM J B L) = some (some (.int (nI (wns s me x k (fun i => w (o i)) j i m))), (t, hM J B L)) := by
  have m1 : J 0 = nI s := hm.1
  have m4 : J 7 = nI p := hm.2.2.2.1.1
  have p4 : p ≤ 4 := hv.2.2.2.1.1
  have hx' := okw_lt hx
  intro j
  induction j with
  | zero =>
    intro i m f hi hf
    obtain ⟨f, rfl⟩ : ∃ e, f = e + 1 := ⟨f - 1, by omega⟩
    rw [e_X10_wins_at11, m4, pn_t (nI_le (by omega) (by omega))]
    rfl
  | succ j ih =>
    intro i m f hi hf
    obtain ⟨f, rfl⟩ : ∃ e, f = e + 1 := ⟨f - 1, by omega⟩
    rw [e_X10_wins_at11, m4, pn_f (nI_ge (by omega) (by omega)), pn_eq (by omega) (by omega), nI_1]
    simp only [wns]
    by_cases c : i = me
    · rw [pn_t c, if_pos c, ih (i + 1) m f (by omega) (by omega)]
    · have ho : o i < n := (hv.2.2.2.1.2 i (by omega)).2
      have hp := pck_ok (kd := k i) hv.1 (hv.2.1.2 _ ho) hx
      have hp' := okw_lt hp
      rw [pn_f c, if_neg c, r_picks hd hv hm (by omega) hx, pn_c1, r_beats (by omega) t J B L m1 hx'.1 hx'.2 hp'.1 hp'.2, pn_c1, nI_1]
      cases hb : bt s x (pck s (k i) (w (o i)) x) with
      | true => rw [b01_t, d_10, cond_false, if_pos rfl, ih (i + 1) (m + 1) f (by omega) (by omega)]
      | false => rw [b01_f, d_00, cond_true, if_neg (by decide), ih (i + 1) m f (by omega) (by omega)]
theorem r_wins {d q : Nat} (hd : 9 ≤ d) (hv : vB (s, (n, w), (z, l), (p, k, o), (r, a, v))) (hm : mB J B (s, (n, w), (z, l), (p, k, o), (r, a, v))) (hq : q < p) : zC d 188 [.ref 1000, .int (nI q)] (t, hM J B L) = some (some (.int (nI (wns s q (pck s (k q) (w (o q)) (w (o q))) k (fun i => w (o i)) p 0 0))), (t, hM J B L)) := by
  obtain ⟨d, rfl⟩ : ∃ e, d = e + 1 := ⟨d - 1, by omega⟩
  have ho : o q < n := (hv.2.2.2.1.2 q hq).2
  have how := hv.2.1.2 _ ho
  have p4 : p ≤ 4 := hv.2.2.2.1.1
  rw [e_X10_wins, r_firstP (by omega) hv hm hq, pn_c1, show (0 : Int32) = nI 0 from rfl, r_winsL d (by omega) hv hm hq (pck_ok hv.1 how how) p 0 0 10000000 (by omega) (by omega)]
def two (p : Nat) (x y : Int32) : Prop := ∃ i j, i < p ∧ j < p ∧ i ≠ j ∧ x = nI i ∧ y = nI j
theorem c_two0 {d : Nat} (hd : 2 ≤ d) (hp : I 106 = nI p) (p4 : p ≤ 4) {x y : Int32} (h : ¬ two p x y) : zC d 10 [.ref 1, .int x, .int y] (hC I A, t) = some (some (.int 0), (hC I A, t)) := by
  obtain ⟨d, rfl⟩ : ∃ e, d = e + 1 := ⟨d - 1, by omega⟩
  have nx : ∀ q : x < 0 ∨ nI p ≤ x, zC (d + 1) 10 [.ref 1, .int x, .int y] (hC I A, t) = some (some (.int 0), (hC I A, t)) := fun q => by
    rw [e_X0_areTwoPlayers, c_hpl0 (by omega) hp q, pn_c1, d_00, cond_true]
  rcases pk_ix x (n := p) (by omega) with q | q | ⟨i, hi, rfl⟩
  · exact nx (Or.inl q)
  · exact nx (Or.inr q)
  have ny : ∀ q : y < 0 ∨ nI p ≤ y, zC (d + 1) 10 [.ref 1, .int (nI i), .int y] (hC I A, t) = some (some (.int 0), (hC I A, t)) := fun q => by
    rw [e_X0_areTwoPlayers, c_hpl1 (by omega) hp p4 hi, pn_c1, d_10, cond_false, c_hpl0 (by omega) hp q, pn_c1, d_00, cond_true]
  rcases pk_ix y (n := p) (by omega) with q | q | ⟨j, hj, rfl⟩
  · exact ny (Or.inl q)
  · exact ny (Or.inr q)
  have e : i = j := by
    rcases Nat.decEq i j with q | q
    · exact absurd ⟨i, j, hi, hj, q, rfl, rfl⟩ h
    · exact q
  rw [e_X0_areTwoPlayers, c_hpl1 (by omega) hp p4 hi, pn_c1, d_10, cond_false, c_hpl1 (by omega) hp p4 hj, pn_c1, d_10, cond_false, pn_t (by rw [e])]
theorem c_two1 {d i j : Nat} (hd : 2 ≤ d) (hp : I 106 = nI p) (p4 : p ≤ 4) (hi : i < p) (hj : j < p) (h : i ≠ j) : zC d 10 [.ref 1, .int (nI i), .int (nI j)] (hC I A, t) = some (some (.int 1), (hC I A, t)) := by
  obtain ⟨d, rfl⟩ : ∃ e, d = e + 1 := ⟨d - 1, by omega⟩
  rw [e_X0_areTwoPlayers, c_hpl1 (by omega) hp p4 hi, pn_c1, d_10, cond_false, c_hpl1 (by omega) hp p4 hj, pn_c1, d_10, cond_false, pn_eq (by omega) (by omega), pn_f h]
theorem r_two0 {d : Nat} (hd : 3 ≤ d) (hp : J 7 = nI p) (p4 : p ≤ 4) {x y : Int32} (h : ¬ two p x y) : zC d 190 [.ref 1000, .int x, .int y] (t, hM J B L) = some (some (.int 0), (t, hM J B L)) := by
  obtain ⟨d, rfl⟩ : ∃ e, d = e + 1 := ⟨d - 1, by omega⟩
  have nx : ∀ q : x < 0 ∨ nI p ≤ x, zC (d + 1) 190 [.ref 1000, .int x, .int y] (t, hM J B L) = some (some (.int 0), (t, hM J B L)) := fun q => by
    rw [e_X10_areTwo, r_ipl0 (by omega) hp p4 q, pn_c1, d_00, cond_true]
  rcases pk_ix x (n := p) (by omega) with q | q | ⟨i, hi, rfl⟩
  · exact nx (Or.inl q)
  · exact nx (Or.inr q)
  have ny : ∀ q : y < 0 ∨ nI p ≤ y, zC (d + 1) 190 [.ref 1000, .int (nI i), .int y] (t, hM J B L) = some (some (.int 0), (t, hM J B L)) := fun q => by
    rw [e_X10_areTwo, r_ipl1 (by omega) hp p4 hi, pn_c1, d_10, cond_false, r_ipl0 (by omega) hp p4 q, pn_c1, d_00, cond_true]
  rcases pk_ix y (n := p) (by omega) with q | q | ⟨j, hj, rfl⟩
  · exact ny (Or.inl q)
  · exact ny (Or.inr q)
  have e : i = j := by
    rcases Nat.decEq i j with q | q
    · exact absurd ⟨i, j, hi, hj, q, rfl, rfl⟩ h
    · exact q
  rw [e_X10_areTwo, r_ipl1 (by omega) hp p4 hi, pn_c1, d_10, cond_false, r_ipl1 (by omega) hp p4 hj, pn_c1, d_10, cond_false, pn_t (by rw [e])]
theorem r_two1 {d i j : Nat} (hd : 3 ≤ d) (hp : J 7 = nI p) (p4 : p ≤ 4) (hi : i < p) (hj : j < p) (h : i ≠ j) : zC d 190 [.ref 1000, .int (nI i), .int (nI j)] (t, hM J B L) = some (some (.int 1), (t, hM J B L)) := by
  obtain ⟨d, rfl⟩ : ∃ e, d = e + 1 := ⟨d - 1, by omega⟩
  rw [e_X10_areTwo, r_ipl1 (by omega) hp p4 hi, pn_c1, d_10, cond_false, r_ipl1 (by omega) hp p4 hj, pn_c1, d_10, cond_false, pn_eq (by omega) (by omega), pn_f h]
end PL
