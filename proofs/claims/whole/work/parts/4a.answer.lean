/-! the best answer: both ways to look for it -/
def vld (s a m c : Nat) : Bool := decide (wl c = m) && (okw s c && decide (c ≠ a))
def stp (s a : Nat) (q : Nat × Nat × Nat) (c : Nat) : Nat × Nat × Nat := if q.2.1 * (nb s (ov c c) - nb s (ov c a)) < (nb s (ov a a) - nb s (ov a c)) * q.2.2 then (c, nb s (ov a a) - nb s (ov a c), nb s (ov c c) - nb s (ov c a)) else q
def scn (s a m : Nat) : Nat → Nat → Nat × Nat × Nat → Nat × Nat × Nat
  | 0, _, q => q
  | j + 1, b, q => scn s a m j (b + 1) (if vld s a m b = true then stp s a q b else q)
def qok (q : Nat × Nat × Nat) : Prop := q.1 < 100000 ∧ q.2.1 ≤ 363 ∧ q.2.2 ≤ 363 ∧ (q.1 = 0 → q.2.1 = 0 ∧ q.2.2 = 1)
theorem vld_iff {s a m c : Nat} : vld s a m c = true ↔ wl c = m ∧ okw s c = true ∧ c ≠ a := by
  unfold vld
  simp only [Bool.and_eq_true, decide_eq_true_eq]
theorem w_pos' {s a b : Nat} (hs : s = 2 ∨ s = 3) (ha1 : 1 ≤ a) (ha : a < 100000) (h : wl a = wl b) (hn : a ≠ b) : nb s (ov a b) < nb s (ov a a) :=
  w_pos hs ha1 ha (fun _ => by rw [h, Nat.sub_self, Nat.pow_zero, Nat.div_one]; exact hn)
theorem stp_qok {s a : Nat} (hs : s = 2 ∨ s = 3) {q : Nat × Nat × Nat} {c : Nat} (hq : qok q) (hc1 : 1 ≤ c) (hc : c < 100000) : qok (stp s a q c) := by
  have h1 := nb_363 hs (ov_lt a a)
  have h2 := nb_363 hs (ov_lt c c)
  unfold stp
  split
  · refine ⟨hc, ?_, ?_, fun h => ?_⟩
    · dsimp only; omega
    · dsimp only; omega
    · dsimp only at h; omega
  · exact hq
theorem scn_qok {s a m : Nat} (hs : s = 2 ∨ s = 3) : ∀ (j b : Nat) (q : Nat × Nat × Nat), qok q → qok (scn s a m j b q) := by
  intro j
  induction j with
  | zero => intro b q h; exact h
  | succ j ih =>
    intro b q h
    simp only [scn]
    by_cases hv : vld s a m b = true
    · rw [if_pos hv]
      have := okw_lt (vld_iff.mp hv).2.1
      exact ih _ _ (stp_qok hs h this.1 this.2)
    · rw [if_neg hv]; exact ih _ _ h
theorem scn_skip {s a m : Nat} : ∀ (k b j : Nat) (q : Nat × Nat × Nat), (∀ c, b ≤ c → c < b + k → ¬ vld s a m c = true) → scn s a m (k + j) b q = scn s a m j (b + k) q := by
  intro k
  induction k with
  | zero => intro b j q _; rw [Nat.zero_add]; rfl
  | succ k ih =>
    intro b j q h
    rw [show k + 1 + j = (k + j) + 1 by omega]
    simp only [scn]
    rw [if_neg (h b (by omega) (by omega)), ih (b + 1) j q (fun c h1 h2 => h c (by omega) (by omega)), show b + 1 + k = b + (k + 1) by omega]
theorem scn_none {s a m j b : Nat} {q : Nat × Nat × Nat} (h : ∀ c, b ≤ c → c < b + j → ¬ vld s a m c = true) : scn s a m j b q = q := by
  have := scn_skip (s := s) (a := a) (m := m) j b 0 q h
  rw [Nat.add_zero] at this
  rw [this]
  rfl
theorem stp_val {s a : Nat} {q : Nat × Nat × Nat} {c m : Nat} (hv : vld s a m c = true) (hq : vld s a m q.1 = true) : vld s a m (stp s a q c).1 = true := by
  unfold stp
  split
  · exact hv
  · exact hq
theorem scn_val {s a m : Nat} : ∀ (j b : Nat) (q : Nat × Nat × Nat), vld s a m q.1 = true → vld s a m (scn s a m j b q).1 = true := by
  intro j
  induction j with
  | zero => intro b q h; exact h
  | succ j ih =>
    intro b q h
    simp only [scn]
    by_cases hv : vld s a m b = true
    · rw [if_pos hv]; exact ih _ _ (stp_val hv h)
    · rw [if_neg hv]; exact ih _ _ h
theorem scn_ex {s a m : Nat} (hs : s = 2 ∨ s = 3) (ha1 : 1 ≤ a) (ha : a < 100000) (hm : wl a = m) {c : Nat} (hc : vld s a m c = true) : ∀ (j b : Nat), b ≤ c → c < b + j → vld s a m (scn s a m j b (0, 0, 1)).1 = true := by
  intro j
  induction j with
  | zero => intro b h1 h2; omega
  | succ j ih =>
    intro b h1 h2
    simp only [scn]
    by_cases hv : vld s a m b = true
    · rw [if_pos hv]
      apply scn_val
      have hw := vld_iff.mp hv
      have hp := w_pos' hs ha1 ha (hm.trans hw.1.symm) (fun e => hw.2.2 e.symm)
      have : stp s a (0, 0, 1) b = (b, nb s (ov a a) - nb s (ov a b), nb s (ov b b) - nb s (ov b a)) := by
        unfold stp
        rw [if_pos (by dsimp only; omega)]
      rw [this]
      exact hv
    · rw [if_neg hv]
      have : b ≠ c := fun e => hv (e ▸ hc)
      exact ih (b + 1) (by omega) (by omega)
/-- the best answer to a word -/
def ba (s a : Nat) : Nat := (scn s a (wl a) (10 ^ wl a - 1) 1 (0, 0, 1)).1
theorem pow35 {s g : Nat} (hs : s = 2 ∨ s = 3) (hg : g < 5) : s ^ (g + 1) ≤ 243 := by
  have hg5 : g = 0 ∨ g = 1 ∨ g = 2 ∨ g = 3 ∨ g = 4 := by omega
  rcases hs with rfl | rfl <;> rcases hg5 with rfl | rfl | rfl | rfl | rfl <;> decide
theorem ones_ok2 : ∀ g, g < 5 → okd 2 (g + 1) (ones (g + 1)) = true ∧ okd 2 (g + 1) (ones (g + 1) + 1) = true ∧ rk 2 (g + 1) (ones (g + 1)) = 0 ∧ 10 ^ g ≤ ones (g + 1) ∧ ones (g + 1) + 1 < 10 ^ (g + 1) ∧ 10 ^ (g + 1) / 9 = ones (g + 1) := by decide
theorem ones_ok3 : ∀ g, g < 5 → okd 3 (g + 1) (ones (g + 1)) = true ∧ okd 3 (g + 1) (ones (g + 1) + 1) = true ∧ rk 3 (g + 1) (ones (g + 1)) = 0 ∧ 10 ^ g ≤ ones (g + 1) ∧ ones (g + 1) + 1 < 10 ^ (g + 1) ∧ 10 ^ (g + 1) / 9 = ones (g + 1) := by decide
theorem ones_ok (g : Nat) (hg : g < 5) (s : Nat) (h4 : s < 4) (h2 : 2 ≤ s) : okd s (g + 1) (ones (g + 1)) = true ∧ okd s (g + 1) (ones (g + 1) + 1) = true ∧ rk s (g + 1) (ones (g + 1)) = 0 ∧ 10 ^ g ≤ ones (g + 1) ∧ ones (g + 1) + 1 < 10 ^ (g + 1) ∧ 10 ^ (g + 1) / 9 = ones (g + 1) := by
  have : s = 2 ∨ s = 3 := by omega
  rcases this with rfl | rfl
  · exact ones_ok2 g hg
  · exact ones_ok3 g hg
theorem ba_vld {s a : Nat} (hs : s = 2 ∨ s = 3) (h : okw s a = true) : vld s a (wl a) (ba s a) = true := by
  have h1 := okw_lt h
  have lp := wl_pos h1.1
  have l5 := wl_le a
  obtain ⟨o1, o2, o3, o4, o5, o6⟩ := ones_ok (wl a - 1) (by omega) s (by omega) (by omega)
  rw [show wl a - 1 + 1 = wl a by omega] at o1 o2 o3 o4 o5 o6
  have hp := p10_pos (wl a - 1)
  unfold ba
  by_cases e : a = ones (wl a)
  · have w := okw_of (s := s) (w := ones (wl a) + 1) (g := wl a - 1) (by omega) (by omega) (by rw [show wl a - 1 + 1 = wl a by omega]; omega) (by rw [show wl a - 1 + 1 = wl a by omega]; exact o2)
    exact scn_ex hs h1.1 h1.2 rfl (vld_iff.mpr ⟨by omega, w.1, by omega⟩) _ _ (by omega) (by omega)
  · have w := okw_of (s := s) (w := ones (wl a)) (g := wl a - 1) (by omega) (by omega) (by rw [show wl a - 1 + 1 = wl a by omega]; omega) (by rw [show wl a - 1 + 1 = wl a by omega]; exact o1)
    exact scn_ex hs h1.1 h1.2 rfl (vld_iff.mpr ⟨by omega, w.1, fun q => e q.symm⟩) _ _ (by omega) (by omega)
theorem ba_ok {s a : Nat} (hs : s = 2 ∨ s = 3) (h : okw s a = true) : okw s (ba s a) = true ∧ wl (ba s a) = wl a ∧ ba s a ≠ a := by
  have := vld_iff.mp (ba_vld hs h)
  exact ⟨this.2.1, this.1, this.2.2⟩
theorem r_bestL (d : Nat) (hd : 5 ≤ d) (t : List zm_E) (J : Nat → Int32) (B : Nat → Nat → Int32) (L : Nat → Nat → Int64) {s a m : Nat} (hJ : J 0 = nI s) (hs : s = 2 ∨ s = 3) (ha1 : 1 ≤ a) (ha : a < 100000) (hm : wl a = m) : ∀ (j b f : Nat) (q : Nat × Nat × Nat) (o7 o8 : Option Value), b + j = 10 ^ m → 1 ≤ b → qok q → j < f → zR d f 141 16 [some (.ref 1000), some (.int (nI a)), some (.int (nI m)), some (.int (nI q.1)), some (.int (nI q.2.1)), some (.int (nI q.2.2)), some (.int (nI b)), o7, o8] [] (t, hM J B L) = some (some (.int (nI (scn s a m j b q).1)), (t, hM J B L)) := by
  have l5 := wl_le a
  have h10 : 10 ^ m ≤ 100000 := by rw [show (100000 : Nat) = 10 ^ 5 from rfl]; exact Nat.pow_le_pow_right (by omega) (by omega)
  intro j
  induction j with
  | zero =>
    intro b f q o7 o8 hb hb1 hq hf
    obtain ⟨f, rfl⟩ : ∃ e, f = e + 1 := ⟨f - 1, by omega⟩
    rw [e_X10_bestAnswer_at16, r_ten (by omega) _ (by omega), pn_c1, pn_le (by omega) (by omega), pn_t (by omega)]
    rfl
  | succ j ih =>
    intro b f q o7 o8 hb hb1 hq hf
    obtain ⟨f, rfl⟩ : ∃ e, f = e + 1 := ⟨f - 1, by omega⟩
    have hb5 : b < 100000 := by omega
    have hwb := wl_le b
    rw [e_X10_bestAnswer_at16, r_ten (by omega) _ (by omega), pn_c1, pn_le (by omega) (by omega), pn_f (by omega), r_sizeW (by omega) _ hb5, pn_c1, pn_ne (by omega) (by omega), nI_1]
    simp only [scn]
    by_cases c1 : wl b = m
    · rw [pn_f (by simpa using c1), r_isSuch (by omega) t J B L _ hJ (by omega), pn_c1, show decide (0 < nI b) = true from decide_eq_true (nI_lt (a := 0) hb1 (by omega)), nI_clamp (by omega), Bool.true_and]
      cases c2 : okw s b with
      | false =>
        rw [b01_f, d_00, cond_true, if_neg (fun h => by have := (vld_iff.mp h).2.1; rw [c2] at this; cases this), ih (b + 1) f q _ _ (by omega) (by omega) hq (by omega)]
      | true =>
        rw [b01_t, d_10, cond_false, pn_ne (by omega) (by omega)]
        by_cases c3 : b = a
        · rw [pn_f (by simpa using c3), if_neg (fun h => (vld_iff.mp h).2.2 c3), ih (b + 1) f q _ _ (by omega) (by omega) hq (by omega)]
        · have hp1 := w_pos' hs ha1 ha (hm.trans c1.symm) (fun e => c3 e.symm)
          have hp2 := w_pos' hs hb1 hb5 (c1.trans hm.symm) c3
          have g1 := nb_363 hs (ov_lt a a)
          have g2 := nb_363 hs (ov_lt b b)
          rw [pn_t c3, r_weight (by omega) t J B L hJ hb5 ha, pn_c1, r_weight (by omega) t J B L hJ ha hb5, pn_c1, if_pos (vld_iff.mpr ⟨c1, c2, c3⟩)]
          unfold wt
          rw [pn_sub (Nat.le_of_lt hp1), pn_sub (Nat.le_of_lt hp2), show (0 : Int32) = nI 0 from rfl, pn_eq (by have := hq.1; omega) (by decide)]
          have hq' := stp_qok (a := a) hs hq hb1 hb5
          by_cases c4 : q.1 = 0
          · have e := hq.2.2.2 c4
            have : stp s a q b = (b, nb s (ov a a) - nb s (ov a b), nb s (ov b b) - nb s (ov b a)) := by
              unfold stp
              rw [if_pos (by rw [e.1, e.2]; omega)]
            rw [pn_t c4]
            rw [this] at hq' ⊢
            exact ih (b + 1) f _ _ _ (by omega) (by omega) hq' (by omega)
          · have m1 : q.2.1 * (nb s (ov b b) - nb s (ov b a)) ≤ 363 * 363 := Nat.mul_le_mul hq.2.1 (by omega)
            have m2 : (nb s (ov a a) - nb s (ov a b)) * q.2.2 ≤ 363 * 363 := Nat.mul_le_mul (by omega) hq.2.2.1
            rw [pn_f c4, pk_mul, pk_mul, pn_lt (by omega) (by omega)]
            unfold stp at hq' ⊢
            by_cases c5 : q.2.1 * (nb s (ov b b) - nb s (ov b a)) < (nb s (ov a a) - nb s (ov a b)) * q.2.2
            · rw [if_pos c5] at hq' ⊢
              rw [pn_t c5]
              exact ih (b + 1) f _ _ _ (by omega) (by omega) hq' (by omega)
            · rw [if_neg c5, pn_f c5]
              exact ih (b + 1) f _ _ _ (by omega) (by omega) hq (by omega)
    · rw [pn_t c1, if_neg (fun h => c1 (vld_iff.mp h).1), ih (b + 1) f q _ _ (by omega) (by omega) hq (by omega)]
theorem qok0 : qok (0, 0, 1) := ⟨by decide, by decide, by decide, fun _ => ⟨rfl, rfl⟩⟩
theorem r_best {d : Nat} (hd : 6 ≤ d) (t : List zm_E) (J : Nat → Int32) (B : Nat → Nat → Int32) (L : Nat → Nat → Int64) {s a : Nat} (hJ : J 0 = nI s) (hs : s = 2 ∨ s = 3) (h : okw s a = true) : zC d 141 [.ref 1000, .int (nI a)] (t, hM J B L) = some (some (.int (nI (ba s a))), (t, hM J B L)) := by
  obtain ⟨d, rfl⟩ : ∃ e, d = e + 1 := ⟨d - 1, by omega⟩
  have h1 := okw_lt h
  have l5 := wl_le a
  have lp := p10_pos (wl a)
  have l9 : 10 ^ wl a ≤ 100000 := by rw [show (100000 : Nat) = 10 ^ 5 from rfl]; exact Nat.pow_le_pow_right (by omega) l5
  rw [e_X10_bestAnswer, r_sizeW (by omega) _ h1.2, pn_c1]
  exact r_bestL d (by omega) t J B L hJ hs h1.1 h1.2 rfl (10 ^ wl a - 1) 1 10000000 (0, 0, 1) none none (by omega) (by omega) qok0 (by omega)
theorem s_bestL (d : Nat) (hd : 5 ≤ d) (h : zm_H) {s a g : Nat} (hs : s = 2 ∨ s = 3) (ha1 : 1 ≤ a) (ha : a < 100000) (hm : wl a = g + 1) (hg : g < 5) : ∀ (n j c f : Nat) (q : Nat × Nat × Nat) (o8 o9 : Option Value), s ^ (g + 1) - rk s (g + 1) c ≤ n → c + j = 10 ^ (g + 1) → 10 ^ g ≤ c → 0 < j → okd s (g + 1) c = true → qok q → 2 * n < f → zR d f 37 27 [some (.int (nI a)), some (.int (nI s)), some (.int (nI (nb s (ov a a)))), some (.int (nI q.1)), some (.int (nI q.2.1)), some (.int (nI q.2.2)), some (.int (nI c)), some (.int (nI (rk s (g + 1) c))), o8, o9] [] h = some (some (.int (nI (scn s a (g + 1) j c q).1)), h) := by
  have s1 : 1 ≤ s := by omega
  have s3 : s ≤ 3 := by omega
  have h243 := pow35 hs hg
  have h10 : 10 ^ (g + 1) ≤ 100000 := by rw [show (100000 : Nat) = 10 ^ 5 from rfl]; exact Nat.pow_le_pow_right (by omega) (by omega)
  have hp := p10_pos g
  intro n
  induction n with
  | zero =>
    intro j c f q o8 o9 hn hj hc hj0 hok hq hf
    have := rk_lt s1 _ _ hok
    omega
  | succ n ih =>
    intro j c f q o8 o9 hn hj hc hj0 hok hq hf
    have hr := rk_lt s1 _ _ hok
    have hcw := okw_of hg hc (by omega) hok
    have hc5 := okw_lt hcw.1
    obtain ⟨f, rfl⟩ : ∃ e, f = e + 1 + 1 := ⟨f - 2, by omega⟩
    obtain ⟨j, rfl⟩ : ∃ e, j = e + 1 := ⟨j - 1, by omega⟩
    have at99 : ∀ (q : Nat × Nat × Nat) (o8 o9 : Option Value), qok q → zR d (f + 1) 37 99 [some (.int (nI a)), some (.int (nI s)), some (.int (nI (nb s (ov a a)))), some (.int (nI q.1)), some (.int (nI q.2.1)), some (.int (nI q.2.2)), some (.int (nI c)), some (.int (nI (rk s (g + 1) c))), o8, o9] [] h = some (some (.int (nI (scn s a (g + 1) j (c + 1) q).1)), h) := by
      intro q o8 o9 hq
      rw [e_X4_bestAnswer_at99, s_following (by omega) h s3 hcw.1, pn_c1, hcw.2, nI_1]
      rcases nx_spec s1 s3 g c hc (by omega) hok with ⟨n1, n2⟩ | ⟨n1, n2, n3, n4, n5⟩
      · rw [n1, scn_none (fun b b1 b2 b3 => n2 b (by omega) (by omega) (by
          have := vld_iff.mp b3
          have w := okw_dig this.2.1
          rw [this.1, show g + 1 - 1 + 1 = g + 1 by omega] at w
          exact w.2.1))]
        obtain ⟨f, rfl⟩ : ∃ e, f = e + 1 := ⟨f - 1, by omega⟩
        rw [e_X4_bestAnswer_at27]
        by_cases e : (243 : Int32) ≤ nI (rk s (g + 1) c + 1)
        · rw [pn_t e]
        · rw [pn_f e, pn_t (show nI 0 ≤ (0 : Int32) by decide)]
      · generalize hu : nx s (g + 1) c = u at n1 n2 n3 n4 n5 ⊢
        rw [← n4, ih (10 ^ (g + 1) - u) u f q o8 o9 (by omega) (by omega) (by omega) (by omega) n3 hq (by omega)]
        have := scn_skip (s := s) (a := a) (m := g + 1) (u - (c + 1)) (c + 1) (10 ^ (g + 1) - u) q (fun b b1 b2 b3 => n5 b (by omega) (by omega) (by
          have := vld_iff.mp b3
          have w := okw_dig this.2.1
          rw [this.1, show g + 1 - 1 + 1 = g + 1 by omega] at w
          exact w.2.1))
        rw [show u - (c + 1) + (10 ^ (g + 1) - u) = j by omega, show c + 1 + (u - (c + 1)) = u by omega] at this
        rw [this]
    rw [e_X4_bestAnswer_at27, pn_f (show ¬ (243 : Int32) ≤ nI (rk s (g + 1) c) from nI_ge (b := 243) (by omega) (by decide)), pn_f (show ¬ nI c ≤ (0 : Int32) from nI_nle (by omega) (by omega)), pn_eq (by omega) (by omega)]
    simp only [scn]
    by_cases c3 : c = a
    · rw [pn_t c3, at99 q _ _ hq, if_neg (fun h => (vld_iff.mp h).2.2 c3)]
    · have hp1 := w_pos' hs ha1 ha (hm.trans hcw.2.symm) (fun e => c3 e.symm)
      have hp2 := w_pos' hs hc5.1 hc5.2 (hcw.2.trans hm.symm) c3
      have g1 := nb_363 hs (ov_lt a a)
      have g2 := nb_363 hs (ov_lt c c)
      have m1 : q.2.1 * (nb s (ov c c) - nb s (ov c a)) ≤ 363 * 363 := Nat.mul_le_mul hq.2.1 (by omega)
      have m2 : (nb s (ov a a) - nb s (ov a c)) * q.2.2 ≤ 363 * 363 := Nat.mul_le_mul (by omega) hq.2.2.1
      rw [pn_f c3, s_number (by omega) h (by omega) (by omega), pn_c1, s_number (by omega) h (by omega) (by omega), pn_c1, s_number (by omega) h (by omega) (by omega), pn_c1, pn_sub (Nat.le_of_lt hp1), pn_sub (Nat.le_of_lt hp2), pk_mul, pk_mul, pn_le (by omega) (by omega), if_pos (vld_iff.mpr ⟨hcw.2, hcw.1, c3⟩)]
      have hq' := stp_qok (a := a) hs hq hc5.1 hc5.2
      unfold stp at hq' ⊢
      by_cases c5 : q.2.1 * (nb s (ov c c) - nb s (ov c a)) < (nb s (ov a a) - nb s (ov a c)) * q.2.2
      · rw [if_pos c5] at hq' ⊢
        rw [pn_f (by omega), at99 _ _ _ hq']
      · rw [if_neg c5, pn_t (by omega), at99 q _ _ hq]
theorem s_least {d : Nat} (hd : 2 ≤ d) (h : zm_H) {g : Nat} (hg : g < 5) : zC d 74 [.int (nI (g + 1))] h = some (some (.int (nI (ones (g + 1)))), h) := by
  obtain ⟨d, rfl⟩ : ∃ e, d = e + 1 := ⟨d - 1, by omega⟩
  have o6 := (ones_ok g hg 2 (by omega) (by omega)).2.2.2.2.2
  have l9 := p10_lt (k := g + 1) (by omega)
  rw [e_X8_least, s_tens (by omega) h (by omega), pn_c1, show (9 : Int32) = nI 9 from rfl, pk_div l9 (by decide) (by decide), o6]
theorem s_best {d : Nat} (hd : 6 ≤ d) (h : zm_H) {s a : Nat} (hs : s = 2 ∨ s = 3) (ho : okw s a = true) : zC d 37 [.int (nI a), .int (nI s)] h = some (some (.int (nI (ba s a))), h) := by
  obtain ⟨d, rfl⟩ : ∃ e, d = e + 1 := ⟨d - 1, by omega⟩
  have h1 := okw_lt ho
  have lp := wl_pos h1.1
  have l5 := wl_le a
  obtain ⟨g, hg⟩ : ∃ g, wl a = g + 1 := ⟨wl a - 1, by omega⟩
  obtain ⟨o1, o2, o3, o4, o5, o6⟩ := ones_ok g (by omega) s (by omega) (by omega)
  have hp := p10_pos g
  have l9 : 10 ^ (g + 1) ≤ 100000 := by rw [show (100000 : Nat) = 10 ^ 5 from rfl]; exact Nat.pow_le_pow_right (by omega) (by omega)
  have h243 := pow35 hs (show g < 5 by omega)
  rw [e_X4_bestAnswer, s_number (by omega) h (by omega) (by omega), pn_c1, s_length (by omega) h (by omega), pn_c1, hg, s_least (by omega) h (by omega), pn_c1]
  have := s_bestL d (by omega) h hs h1.1 h1.2 hg (by omega) (s ^ (g + 1)) (10 ^ (g + 1) - ones (g + 1)) (ones (g + 1)) 10000000 (0, 0, 1) none none (by omega) (by omega) o4 (by omega) o1 qok0 (by omega)
  rw [o3] at this
  rw [show (0 : Int32) = nI 0 from rfl, show (1 : Int32) = nI 1 from rfl, this]
  unfold ba
  rw [hg]
  have sk := scn_skip (s := s) (a := a) (m := g + 1) (ones (g + 1) - 1) 1 (10 ^ (g + 1) - ones (g + 1)) (0, 0, 1) (fun b b1 b2 b3 => by
    have h3 := vld_iff.mp b3
    have w := okw_dig h3.2.1
    rw [h3.1, show g + 1 - 1 + 1 = g + 1 by omega, show g + 1 - 1 = g by omega] at w
    have := okd_ge g b w.1 w.2.1
    omega)
  rw [show ones (g + 1) - 1 + (10 ^ (g + 1) - ones (g + 1)) = 10 ^ (g + 1) - 1 by omega, show 1 + (ones (g + 1) - 1) = ones (g + 1) by omega] at sk
  rw [sk]
