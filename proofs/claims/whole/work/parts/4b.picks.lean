/-! letters; words made of words: turned, shifted, led by a letter -/
def ltr (w i : Nat) : Nat := w / 10 ^ (wl w - 1 - i) % 10
def dg (s : Nat) : Nat → Nat → Prop
  | 0, m => m = 0
  | e + 1, m => dg s e (m / 10) ∧ (1 ≤ m % 10 ∧ m % 10 ≤ s)
theorem dg_lt {s : Nat} : ∀ e m, dg s e m → m < 10 ^ e
  | 0, m, h => by have h : m = 0 := h; subst h; decide
  | e + 1, m, h => by have := dg_lt e _ h.1; rw [Nat.pow_succ]; omega
theorem dg_ge {s : Nat} : ∀ e m, dg s (e + 1) m → 10 ^ e ≤ m
  | 0, m, h => by have := h.2; rw [Nat.pow_zero]; omega
  | e + 1, m, h => by have := dg_ge e _ h.1; rw [Nat.pow_succ]; omega
theorem dg_okd {s : Nat} : ∀ e m, dg s e m → okd s e m = true
  | 0, m, h => rfl
  | e + 1, m, h => okd_s.mpr (Or.inr ⟨h.2, dg_okd e _ h.1⟩)
theorem dg_of {s : Nat} : ∀ e m, 10 ^ e ≤ m → m < 10 ^ (e + 1) → okd s (e + 1) m = true → dg s (e + 1) m
  | 0, m, h1, h2, h3 => by
    rw [Nat.pow_zero] at h1
    have h4 := (okd_s.mp h3).resolve_left (by omega)
    have h5 : m < 10 := by simpa using h2
    exact ⟨show m / 10 = 0 by omega, h4.1⟩
  | e + 1, m, h1, h2, h3 => by
    have e1 : 10 ^ (e + 1) = 10 ^ e * 10 := Nat.pow_succ ..
    have e2 : 10 ^ (e + 1 + 1) = 10 ^ (e + 1) * 10 := Nat.pow_succ ..
    have hp := p10_pos e
    have h4 := (okd_s.mp h3).resolve_left (by omega)
    exact ⟨dg_of e _ (by omega) (by omega) h4.2, h4.1⟩
theorem okw_dg {s w : Nat} (h : okw s w = true) : dg s (wl w) w := by
  obtain ⟨g1, g2, g3⟩ := okw_dig h
  have lp := wl_pos (okw_lt h).1
  have := dg_of _ _ g1 g3 g2
  rw [show wl w - 1 + 1 = wl w by omega] at this
  exact this
theorem dg_okw {s e m : Nat} (h : dg s (e + 1) m) (he : e < 5) : okw s m = true ∧ wl m = e + 1 := okw_of he (dg_ge e m h) (dg_lt _ _ h) (dg_okd _ _ h)
theorem dg_push {s e m l : Nat} (hs : s ≤ 3) (h : dg s e m) (h1 : 1 ≤ l) (h2 : l ≤ s) : dg s (e + 1) (m * 10 + l) := by
  refine ⟨?_, ?_⟩
  · rw [show (m * 10 + l) / 10 = m by omega]; exact h
  · omega
theorem dg_lead {s l : Nat} (hs : s ≤ 3) (h1 : 1 ≤ l) (h2 : l ≤ s) : ∀ e u, dg s e u → dg s (e + 1) (l * 10 ^ e + u)
  | 0, u, h => by
    have h : u = 0 := h
    subst h
    rw [Nat.pow_zero, Nat.mul_one, Nat.add_zero]
    exact ⟨show l / 10 = 0 by omega, by omega⟩
  | e + 1, u, h => by
    have ih := dg_lead hs h1 h2 e (u / 10) h.1
    have e1 : l * 10 ^ (e + 1) = l * 10 ^ e * 10 := by rw [Nat.pow_succ, Nat.mul_assoc]
    refine ⟨?_, ?_⟩
    · rw [show (l * 10 ^ (e + 1) + u) / 10 = l * 10 ^ e + u / 10 by rw [e1]; omega]; exact ih
    · rw [show (l * 10 ^ (e + 1) + u) % 10 = u % 10 by rw [e1]; omega]; exact h.2
theorem dg_div {s : Nat} : ∀ k e m, dg s (e + k) m → dg s e (m / 10 ^ k)
  | 0, e, m, h => by rw [Nat.pow_zero, Nat.div_one]; exact h
  | k + 1, e, m, h => by
    have h1 : dg s (e + k) (m / 10) := h.1
    have := dg_div k e _ h1
    rw [Nat.div_div_eq_div_mul, ← Nat.pow_succ'] at this
    exact this
theorem ltr_ok {s w i : Nat} (h : okw s w = true) (hi : i < wl w) : 1 ≤ ltr w i ∧ ltr w i ≤ s := by
  have := dg_div (wl w - 1 - i) (i + 1) w (by rw [show i + 1 + (wl w - 1 - i) = wl w by omega]; exact okw_dg h)
  exact this.2
theorem s_letterAt {d : Nat} (hd : 3 ≤ d) (h : zm_H) {w i : Nat} (hw : w < 2 ^ 31) (hi : i < wl w) : zC d 59 [.int (nI w), .int (nI i)] h = some (some (.int (nI (ltr w i))), h) := by
  obtain ⟨d, rfl⟩ : ∃ e, d = e + 1 := ⟨d - 1, by omega⟩
  rw [e_X8_letterAt, nI_1, s_firstLetters (by omega) h hw (by omega), pn_c1, show (10 : Int32) = nI 10 from rfl, pk_rem (Nat.lt_of_le_of_lt (Nat.div_le_self _ _) hw) (by decide) (by decide)]
  unfold ltr
  rw [show wl w - (i + 1) = wl w - 1 - i by omega]
theorem r_letterOf {d : Nat} (hd : 2 ≤ d) (h : zm_H) {w i : Nat} (hw : w < 100000) (hi : i < wl w) : zC d 131 [.int (nI w), .int (nI i)] h = some (some (.int (nI (ltr w i))), h) := by
  obtain ⟨d, rfl⟩ : ∃ e, d = e + 1 := ⟨d - 1, by omega⟩
  have l5 := wl_le w
  have h10 := p10_lt (k := wl w - 1 - i) (by omega)
  have hp := p10_pos (wl w - 1 - i)
  rw [e_X10_letterOf, r_sizeW (by omega) _ hw, pn_c1, show (1 : Int32) = nI 1 from rfl, pn_sub (by omega), pn_sub (by omega), r_ten (by omega) _ (by omega), pn_c1, show (0 : Int32) = nI 0 from rfl, pn_eq h10 (by decide), pn_f (by omega), show (10 : Int32) = nI 10 from rfl, pk_div (by omega) hp h10, pk_rem (Nat.lt_of_le_of_lt (Nat.div_le_self _ _) (by omega)) (by decide) (by decide)]
  rfl
def on1 (s l : Nat) : Nat := if l < s then l + 1 else 1
theorem on1_ok {s l : Nat} (hs : 1 ≤ s) : 1 ≤ on1 s l ∧ on1 s l ≤ s := by
  unfold on1
  split <;> omega
theorem s_oneOn {d : Nat} (hd : 1 ≤ d) (h : zm_H) {s l : Nat} (hl : l < 2 ^ 30) (hs : s < 2 ^ 31) : zC d 68 [.int (nI l), .int (nI s)] h = some (some (.int (nI (on1 s l))), h) := by
  obtain ⟨d, rfl⟩ : ∃ e, d = e + 1 := ⟨d - 1, by omega⟩
  rw [e_X8_oneOn, pn_le hs (by omega), nI_1]
  unfold on1
  by_cases c : l < s
  · rw [pn_f (by omega), if_pos c]
  · rw [pn_t (by omega), if_neg c]; rfl
theorem r_on {d : Nat} (hd : 1 ≤ d) (t : List zm_E) (J : Nat → Int32) (B : Nat → Nat → Int32) (L : Nat → Nat → Int64) {s l : Nat} (hJ : J 0 = nI s) (hl : l ≤ s) (hs : s < 2 ^ 30) : zC d 134 [.ref 1000, .int (nI l)] (t, hM J B L) = some (some (.int (nI (on1 s l))), (t, hM J B L)) := by
  obtain ⟨d, rfl⟩ : ∃ e, d = e + 1 := ⟨d - 1, by omega⟩
  rw [e_X10_on, hJ, pn_ne (by omega) (by omega), nI_1]
  unfold on1
  by_cases c : l = s
  · rw [pn_f (by simpa using c), if_neg (by omega)]; rfl
  · rw [pn_t c, if_pos (by omega)]
/-! turned about -/
def trn : Nat → Nat → Nat → Nat
  | 0, _, m => m
  | g + 1, v, m => if v = 0 then m else trn g (v / 10) (m * 10 + v % 10)
def tn (w : Nat) : Nat := trn (wl w) w 0
theorem trn_dg {s : Nat} (hs : s ≤ 3) : ∀ g e v m, dg s g v → dg s e m → dg s (g + e) (trn g v m)
  | 0, e, v, m, h1, h2 => by rw [Nat.zero_add]; exact h2
  | g + 1, e, v, m, h1, h2 => by
    simp only [trn]
    have := h1.2
    rw [if_neg (by omega), show g + 1 + e = g + (e + 1) by omega]
    exact trn_dg hs g (e + 1) _ _ h1.1 (dg_push hs h2 this.1 this.2)
theorem tn_dg {s w : Nat} (hs : s ≤ 3) (h : okw s w = true) : dg s (wl w) (tn w) := by
  have := trn_dg hs (wl w) 0 w 0 (okw_dg h) rfl
  exact this
theorem dg_ok {s w u : Nat} (h : okw s w = true) (hd : dg s (wl w) u) : okw s u = true ∧ wl u = wl w := by
  have lp := wl_pos (okw_lt h).1
  have l5 := wl_le w
  obtain ⟨g, hg⟩ : ∃ g, wl w = g + 1 := ⟨wl w - 1, by omega⟩
  rw [hg] at hd ⊢
  exact dg_okw hd (by omega)
theorem s_turnedL (d : Nat) (hd : 3 ≤ d) (h : zm_H) {w : Nat} (hw1 : 1 ≤ w) (hw : w < 100000) : ∀ (k m f : Nat), k < f → k ≤ wl w → zR d f 69 9 [some (.int (nI w)), some (.int (nI m)), some (.int (nI k - 1))] [] h = some (some (.int (nI (trn k (w / 10 ^ (wl w - k)) m))), h) := by
  intro k
  induction k with
  | zero =>
    intro m f hf hk
    obtain ⟨f, rfl⟩ : ∃ e, f = e + 1 := ⟨f - 1, by omega⟩
    rw [e_X8_turned_at9, pn_t (show nI 0 - 1 < 0 by decide)]
    rfl
  | succ k ih =>
    intro m f hf hk
    obtain ⟨f, rfl⟩ : ∃ e, f = e + 1 := ⟨f - 1, by omega⟩
    have g1 := wl_ge hw1
    have l5 := wl_le w
    have g2 : 10 ^ (wl w - (k + 1)) ≤ 10 ^ (wl w - 1) := Nat.pow_le_pow_right (by omega) (by omega)
    have g3 : 1 ≤ w / 10 ^ (wl w - (k + 1)) := (Nat.le_div_iff_mul_le (p10_pos _)).mpr (by omega)
    have hn : w / 10 ^ (wl w - k) = w / 10 ^ (wl w - (k + 1)) / 10 := by
      rw [Nat.div_div_eq_div_mul, ← Nat.pow_succ, show (wl w - (k + 1)).succ = wl w - k by omega]
    have hl : ltr w k = w / 10 ^ (wl w - (k + 1)) % 10 := by
      unfold ltr
      rw [show wl w - 1 - k = wl w - (k + 1) by omega]
    rw [e_X8_turned_at9, nI_pred, pn_f (nI_pos (by omega)), s_letterAt hd h (by omega) (by omega), pn_c1, show (10 : Int32) = nI 10 from rfl, pk_mul, nI_add, ← Int32.sub_eq_add_neg, ih _ f (by omega) (by omega)]
    rw [trn, if_neg (by omega), hn, hl]
theorem s_turned {d : Nat} (hd : 4 ≤ d) (h : zm_H) {w : Nat} (hw1 : 1 ≤ w) (hw : w < 100000) : zC d 69 [.int (nI w)] h = some (some (.int (nI (tn w))), h) := by
  obtain ⟨d, rfl⟩ : ∃ e, d = e + 1 := ⟨d - 1, by omega⟩
  have l5 := wl_le w
  rw [e_X8_turned, s_length (by omega) h (by omega), pn_c1]
  have := s_turnedL d (by omega) h hw1 hw (wl w) 0 10000000 (by omega) (Nat.le_refl _)
  rw [Nat.sub_self, Nat.pow_zero, Nat.div_one] at this
  exact this
theorem r_turnedL (d : Nat) (h : zm_H) (w : Int32) : ∀ (g f v m : Nat), g < f → v < 2 ^ 31 → v < 10 ^ g → zR d f 183 4 [some (.int w), some (.int (nI m)), some (.int (nI v))] [] h = some (some (.int (nI (trn g v m))), h) := by
  intro g
  induction g with
  | zero =>
    intro f v m hf hv h10
    obtain ⟨f, rfl⟩ : ∃ e, f = e + 1 := ⟨f - 1, by omega⟩
    have : v = 0 := by omega
    subst this
    rw [e_X10_turned_at4, pn_t (show nI 0 ≤ 0 by decide)]
    rfl
  | succ g ih =>
    intro f v m hf hv h10
    obtain ⟨f, rfl⟩ : ∃ e, f = e + 1 := ⟨f - 1, by omega⟩
    rw [e_X10_turned_at4, show (0 : Int32) = nI 0 from rfl, pn_le hv (by decide), trn]
    by_cases h0 : v = 0
    · rw [pn_t (by omega), if_pos h0]
    · rw [pn_f (by omega), if_neg h0, show (10 : Int32) = nI 10 from rfl, pk_rem hv (by decide) (by decide), pk_mul, nI_add, pk_div hv (by decide) (by decide), ih f (v / 10) _ (by omega) (by omega) (by rw [Nat.pow_succ] at h10; omega), Nat.mul_comm 10 m]
theorem r_turned {d : Nat} (hd : 1 ≤ d) (h : zm_H) {w : Nat} (hw : w < 100000) : zC d 183 [.int (nI w)] h = some (some (.int (nI (tn w))), h) := by
  obtain ⟨d, rfl⟩ : ∃ e, d = e + 1 := ⟨d - 1, by omega⟩
  have l5 := wl_le w
  rw [e_X10_turned]
  exact r_turnedL d h (nI w) (wl w) 10000000 w 0 (by omega) (by omega) (wl_lt hw)
/-! shifted -/
def shf (s w : Nat) : Nat → Nat → Nat → Nat
  | 0, _, m => m
  | j + 1, i, m => shf s w j (i + 1) (m * 10 + on1 s (ltr w i))
def sh (s w : Nat) : Nat := shf s w (wl w) 0 0
theorem shf_dg {s w : Nat} (hs : s ≤ 3) (hs1 : 1 ≤ s) : ∀ j e i m, dg s e m → dg s (j + e) (shf s w j i m)
  | 0, e, i, m, h => by rw [Nat.zero_add]; exact h
  | j + 1, e, i, m, h => by
    have := on1_ok (s := s) (l := ltr w i) hs1
    simp only [shf]
    rw [show j + 1 + e = j + (e + 1) by omega]
    exact shf_dg hs hs1 j (e + 1) _ _ (dg_push hs h this.1 this.2)
theorem sh_dg {s w : Nat} (hs : s ≤ 3) (hs1 : 1 ≤ s) : dg s (wl w) (sh s w) := by
  have := shf_dg (w := w) hs hs1 (wl w) 0 0 0 rfl
  exact this
theorem s_shiftedL (d : Nat) (hd : 3 ≤ d) (h : zm_H) {s w : Nat} (hw : okw s w = true) (hs3 : s ≤ 3) : ∀ (j i m f : Nat), i + j = wl w → j < f → zR d f 70 10 [some (.int (nI w)), some (.int (nI s)), some (.int (nI m)), some (.int (nI (wl w))), some (.int (nI i))] [] h = some (some (.int (nI (shf s w j i m))), h) := by
  have hlt := okw_lt hw
  have l5 := wl_le w
  intro j
  induction j with
  | zero =>
    intro i m f hi hf
    obtain ⟨f, rfl⟩ : ∃ e, f = e + 1 := ⟨f - 1, by omega⟩
    rw [e_X8_shifted_at10, pn_t (nI_le (by omega) (by omega))]
    rfl
  | succ j ih =>
    intro i m f hi hf
    obtain ⟨f, rfl⟩ : ∃ e, f = e + 1 := ⟨f - 1, by omega⟩
    have hl := ltr_ok hw (i := i) (by omega)
    rw [e_X8_shifted_at10, pn_f (nI_ge (by omega) (by omega)), s_letterAt hd h (by omega) (by omega), pn_c1, s_oneOn (by omega) h (by omega) (by omega), pn_c1, show (10 : Int32) = nI 10 from rfl, pk_mul, nI_add, nI_1, ih (i + 1) _ f (by omega) (by omega)]
    rfl
theorem s_shifted {d : Nat} (hd : 4 ≤ d) (h : zm_H) {s w : Nat} (hw : okw s w = true) (hs3 : s ≤ 3) : zC d 70 [.int (nI w), .int (nI s)] h = some (some (.int (nI (sh s w))), h) := by
  obtain ⟨d, rfl⟩ : ∃ e, d = e + 1 := ⟨d - 1, by omega⟩
  have hlt := okw_lt hw
  have l5 := wl_le w
  rw [e_X8_shifted, s_length (by omega) h (by omega), pn_c1, show (0 : Int32) = nI 0 from rfl, s_shiftedL d (by omega) h hw hs3 (wl w) 0 0 10000000 (by omega) (by omega)]
  rfl
theorem r_shiftedL (d : Nat) (hd : 2 ≤ d) (t : List zm_E) (J : Nat → Int32) (B : Nat → Nat → Int32) (L : Nat → Nat → Int64) {s w : Nat} (hJ : J 0 = nI s) (hw : okw s w = true) (hs3 : s ≤ 3) : ∀ (j i m f : Nat), i + j = wl w → j < f → zR d f 184 4 [some (.ref 1000), some (.int (nI w)), some (.int (nI m)), some (.int (nI i))] [] (t, hM J B L) = some (some (.int (nI (shf s w j i m))), (t, hM J B L)) := by
  have hlt := okw_lt hw
  have l5 := wl_le w
  intro j
  induction j with
  | zero =>
    intro i m f hi hf
    obtain ⟨f, rfl⟩ : ∃ e, f = e + 1 := ⟨f - 1, by omega⟩
    rw [e_X10_shifted_at4, r_sizeW (by omega) _ hlt.2, pn_c1, pn_t (nI_le (by omega) (by omega))]
    rfl
  | succ j ih =>
    intro i m f hi hf
    obtain ⟨f, rfl⟩ : ∃ e, f = e + 1 := ⟨f - 1, by omega⟩
    have hl := ltr_ok hw (i := i) (by omega)
    rw [e_X10_shifted_at4, r_sizeW (by omega) _ hlt.2, pn_c1, pn_f (nI_ge (by omega) (by omega)), r_letterOf hd _ hlt.2 (by omega), pn_c1, r_on (by omega) t J B L hJ hl.2 (by omega), pn_c1, show (10 : Int32) = nI 10 from rfl, pk_mul, nI_add, nI_1, ih (i + 1) _ f (by omega) (by omega), Nat.mul_comm 10 m]
    rfl
theorem r_shifted {d : Nat} (hd : 3 ≤ d) (t : List zm_E) (J : Nat → Int32) (B : Nat → Nat → Int32) (L : Nat → Nat → Int64) {s w : Nat} (hJ : J 0 = nI s) (hw : okw s w = true) (hs3 : s ≤ 3) : zC d 184 [.ref 1000, .int (nI w)] (t, hM J B L) = some (some (.int (nI (sh s w))), (t, hM J B L)) := by
  obtain ⟨d, rfl⟩ : ∃ e, d = e + 1 := ⟨d - 1, by omega⟩
  have l5 := wl_le w
  rw [e_X10_shifted, show (0 : Int32) = nI 0 from rfl, r_shiftedL d (by omega) t J B L hJ hw hs3 (wl w) 0 0 10000000 (by omega) (by omega)]
  rfl
/-! led by a letter -/
def led (l w : Nat) : Nat := l * 10 ^ (wl w - 1) + w / 10
theorem led_dg {s l w : Nat} (hs : s ≤ 3) (h1 : 1 ≤ l) (h2 : l ≤ s) (h : okw s w = true) : dg s (wl w) (led l w) := by
  have lp := wl_pos (okw_lt h).1
  obtain ⟨g, hg⟩ : ∃ g, wl w = g + 1 := ⟨wl w - 1, by omega⟩
  have hd := okw_dg h
  unfold led
  rw [hg] at hd ⊢
  exact dg_lead hs h1 h2 g _ hd.1
theorem s_ledBy {d : Nat} (hd : 2 ≤ d) (h : zm_H) {l w : Nat} (hw1 : 1 ≤ w) (hw : w < 100000) : zC d 73 [.int (nI l), .int (nI w)] h = some (some (.int (nI (led l w))), h) := by
  obtain ⟨d, rfl⟩ : ∃ e, d = e + 1 := ⟨d - 1, by omega⟩
  have l5 := wl_le w
  have lp := wl_pos hw1
  rw [e_X8_ledBy, s_length (by omega) h (by omega), pn_c1, show (1 : Int32) = nI 1 from rfl, pn_sub lp, s_tens (by omega) h (by omega), pn_c1, show (10 : Int32) = nI 10 from rfl, pk_mul, pk_div (by omega) (by decide) (by decide), nI_add]
  rfl
theorem r_ahead {d : Nat} (hd : 2 ≤ d) (h : zm_H) {l w : Nat} (hw1 : 1 ≤ w) (hw : w < 100000) : zC d 185 [.int (nI l), .int (nI w)] h = some (some (.int (nI (led l w))), h) := by
  obtain ⟨d, rfl⟩ : ∃ e, d = e + 1 := ⟨d - 1, by omega⟩
  have l5 := wl_le w
  have lp := wl_pos hw1
  rw [e_X10_ahead, r_sizeW (by omega) h hw, pn_c1, show (1 : Int32) = nI 1 from rfl, pn_sub lp, r_ten (by omega) h (by omega), pn_c1, show (10 : Int32) = nI 10 from rfl, pk_mul, pk_div (by omega) (by decide) (by decide), nI_add]
  rfl
theorem s_doubled {d : Nat} (hd : 4 ≤ d) (h : zm_H) {w : Nat} (hw1 : 1 ≤ w) (hw : w < 100000) : zC d 71 [.int (nI w)] h = some (some (.int (nI (led (ltr w 0) w))), h) := by
  obtain ⟨d, rfl⟩ : ∃ e, d = e + 1 := ⟨d - 1, by omega⟩
  rw [e_X8_doubled, show (0 : Int32) = nI 0 from rfl, s_letterAt (by omega) h (by omega) (wl_pos hw1), pn_c1, s_ledBy (by omega) h hw1 hw, pn_c1]
def asw (s w : Nat) : Nat := led (on1 s (ltr w (if wl w ≤ 1 then 0 else 1))) w
theorem ltr_one {w : Nat} (hw1 : 1 ≤ w) (hw : w < 100000) (h : wl w ≤ 1) : ltr w 0 = w := by
  have h1 := wl_lt hw
  have h2 : 10 ^ wl w ≤ 10 ^ 1 := Nat.pow_le_pow_right (by omega) h
  unfold ltr
  rw [show wl w - 1 - 0 = 0 by omega, Nat.pow_zero, Nat.div_one]
  omega
theorem s_answering {d : Nat} (hd : 4 ≤ d) (h : zm_H) {s w : Nat} (hw1 : 1 ≤ w) (hw : w < 100000) (hs : s < 2 ^ 31) : zC d 72 [.int (nI w), .int (nI s)] h = some (some (.int (nI (asw s w))), h) := by
  obtain ⟨d, rfl⟩ : ∃ e, d = e + 1 := ⟨d - 1, by omega⟩
  have l5 := wl_le w
  unfold asw
  rw [e_X8_answering, s_length (by omega) h (by omega), pn_c1, show (1 : Int32) = nI 1 from rfl, pn_le (by omega) (by decide)]
  by_cases c : wl w ≤ 1
  · rw [pn_t c, if_pos c, ltr_one hw1 hw c, s_oneOn (by omega) h (by omega) hs, pn_c1, s_ledBy (by omega) h hw1 hw, pn_c1]
  · have hl : ltr w 1 < 10 := Nat.mod_lt _ (by decide)
    rw [pn_f c, if_neg c, s_letterAt (by omega) h (by omega) (by omega), pn_c1, s_oneOn (by omega) h (by omega) hs, pn_c1, s_ledBy (by omega) h hw1 hw, pn_c1]
/-- what a player of a kind picks, by his own word and the other's pick -/
def pck (s kd own ag : Nat) : Nat := if kd = 0 then own else if kd = 1 then tn own else if kd = 2 then asw s ag else if kd = 3 then sh s (tn own) else if kd = 4 then ba s ag else led (ltr (sh s (tn own)) 0) (sh s (tn own))
theorem tn_ok {s w : Nat} (hs : s ≤ 3) (h : okw s w = true) : okw s (tn w) = true ∧ wl (tn w) = wl w := dg_ok h (tn_dg hs h)
theorem sh_ok {s w : Nat} (hs : s ≤ 3) (hs1 : 1 ≤ s) (h : okw s w = true) : okw s (sh s w) = true ∧ wl (sh s w) = wl w := dg_ok h (sh_dg hs hs1)
theorem pck_ok {s kd own ag : Nat} (hs : s = 2 ∨ s = 3) (h1 : okw s own = true) (h2 : okw s ag = true) : okw s (pck s kd own ag) = true := by
  have s3 : s ≤ 3 := by omega
  have s1 : 1 ≤ s := by omega
  have t1 := tn_ok s3 h1
  have t2 := sh_ok s3 s1 t1.1
  unfold pck
  by_cases k0 : kd = 0
  · rw [if_pos k0]; exact h1
  rw [if_neg k0]
  by_cases k1 : kd = 1
  · rw [if_pos k1]; exact t1.1
  rw [if_neg k1]
  by_cases k2 : kd = 2
  · rw [if_pos k2]
    have := on1_ok (s := s) (l := ltr ag (if wl ag ≤ 1 then 0 else 1)) s1
    exact (dg_ok h2 (led_dg s3 this.1 this.2 h2)).1
  rw [if_neg k2]
  by_cases k3 : kd = 3
  · rw [if_pos k3]; exact t2.1
  rw [if_neg k3]
  by_cases k4 : kd = 4
  · rw [if_pos k4]; exact (ba_ok hs h2).1
  rw [if_neg k4]
  have := ltr_ok t2.1 (i := 0) (wl_pos (okw_lt t2.1).1)
  exact (dg_ok t2.1 (led_dg s3 this.1 this.2 t2.1)).1
