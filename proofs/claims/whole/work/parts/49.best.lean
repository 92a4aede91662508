/-! what is for one against the other; the best answer -/
theorem ovr_last (a b lb : Nat) : ∀ j k : Nat, ovr a b lb (j + 1) k = ovr a b lb j k + (if a % 10 ^ (k + j) = b / 10 ^ (lb - (k + j)) then 2 ^ (k + j - 1) else 0)
  | 0, k => by simp only [ovr, Nat.add_zero, Nat.zero_add]
  | j + 1, k => by
    rw [ovr, ovr_last a b lb j (k + 1)]
    simp only [ovr]
    rw [show k + 1 + j = k + (j + 1) by omega, Nat.add_assoc]
theorem ov_no {a b : Nat} (ha1 : 1 ≤ a) (ha : a < 100000) (h : wl a ≤ wl b → a ≠ b / 10 ^ (wl b - wl a)) : ov a b < 2 ^ (wl a - 1) := by
  have la := wl_pos ha1
  have hz := ovr_lt a b (wl b)
  unfold ov
  by_cases q : wl a ≤ wl b
  · rw [Nat.min_eq_left q]
    obtain ⟨j, hj⟩ : ∃ j, wl a = j + 1 := ⟨wl a - 1, by omega⟩
    have e : a % 10 ^ (1 + j) = a := Nat.mod_eq_of_lt (by rw [show 1 + j = wl a by omega]; exact wl_lt ha)
    have n := h q
    rw [hj, ovr_last, e, if_neg (by rw [show 1 + j = j + 1 by omega, ← hj]; exact n)]
    have := hz j 1 (by omega)
    rw [show 1 - 1 + j = j + 1 - 1 by omega] at this
    have p := Nat.pow_pos (n := 1 - 1) (show 0 < 2 by omega)
    omega
  · rw [Nat.min_eq_right (by omega)]
    have h1 := hz (wl b) 1 (by omega)
    have h2 : 2 ^ (1 - 1 + wl b) ≤ 2 ^ (wl a - 1) := Nat.pow_le_pow_right (by omega) (by omega)
    have p := Nat.pow_pos (n := 1 - 1) (show 0 < 2 by omega)
    omega
theorem ov_self {a : Nat} (ha1 : 1 ≤ a) (ha : a < 100000) : 2 ^ (wl a - 1) ≤ ov a a ∧ ov a a < 2 ^ wl a := by
  have la := wl_pos ha1
  unfold ov
  rw [Nat.min_self]
  obtain ⟨j, hj⟩ : ∃ j, wl a = j + 1 := ⟨wl a - 1, by omega⟩
  have e : a % 10 ^ (1 + j) = a := Nat.mod_eq_of_lt (by rw [show 1 + j = wl a by omega]; exact wl_lt ha)
  have h1 := ovr_lt a a (wl a) (wl a) 1 (by omega)
  rw [show 1 - 1 + wl a = wl a by omega] at h1
  constructor
  · rw [hj, ovr_last, e, show j + 1 - (1 + j) = 0 by omega, Nat.pow_zero, Nat.div_one, if_pos rfl, show 1 + j - 1 = j + 1 - 1 by omega]
    omega
  · omega
theorem nb_up : ∀ B, B < 32 → ∀ m, m < 5 → B < 2 ^ m → nb 2 B < 2 ^ (m + 1) ∧ nb 3 B < 3 ^ (m + 1) := by decide
theorem nb_dn : ∀ B, B < 32 → ∀ m, m < 5 → 2 ^ m ≤ B → B < 2 ^ (m + 1) → 2 ^ (m + 1) ≤ nb 2 B ∧ 3 ^ (m + 1) ≤ nb 3 B := by decide
theorem nb_le : ∀ B, B < 32 → nb 2 B ≤ 363 ∧ nb 3 B ≤ 363 := by decide
theorem nb_363 {s B : Nat} (hs : s = 2 ∨ s = 3) (h : B < 32) : nb s B ≤ 363 := by
  rcases hs with rfl | rfl
  · exact (nb_le B h).1
  · exact (nb_le B h).2
theorem w_pos {s a b : Nat} (hs : s = 2 ∨ s = 3) (ha1 : 1 ≤ a) (ha : a < 100000) (h : wl a ≤ wl b → a ≠ b / 10 ^ (wl b - wl a)) : nb s (ov a b) < nb s (ov a a) := by
  have la := wl_pos ha1
  have l5 := wl_le a
  have h1 := ov_no ha1 ha h
  obtain ⟨h2, h3⟩ := ov_self ha1 ha
  have g1 := nb_up (ov a b) (ov_lt a b) (wl a - 1) (by omega) h1
  have g2 := nb_dn (ov a a) (ov_lt a a) (wl a - 1) (by omega) h2 (by rw [show wl a - 1 + 1 = wl a by omega]; exact h3)
  rcases hs with rfl | rfl
  · omega
  · omega
/-- what is for a against b -/
def wt (s a b : Nat) : Int32 := nI (nb s (ov b b)) - nI (nb s (ov b a))
theorem s_share {d : Nat} (hd : 4 ≤ d) (h : zm_H) {a b s : Nat} (ha : a < 100000) (hb : b < 100000) : zC d 34 [.int (nI a), .int (nI b), .int (nI s)] h = some (some (.int (wt s a b)), h) := by
  obtain ⟨d, rfl⟩ : ∃ e, d = e + 1 := ⟨d - 1, by omega⟩
  rw [e_X4_share, s_number (by omega) h (by omega) (by omega), pn_c1, s_number (by omega) h (by omega) (by omega), pn_c1]
  rfl
theorem r_weight {d : Nat} (hd : 4 ≤ d) (t : List zm_E) (J : Nat → Int32) (B : Nat → Nat → Int32) (L : Nat → Nat → Int64) {a b s : Nat} (hs : J 0 = nI s) (ha : a < 100000) (hb : b < 100000) : zC d 139 [.ref 1000, .int (nI a), .int (nI b)] (t, hM J B L) = some (some (.int (wt s a b)), (t, hM J B L)) := by
  obtain ⟨d, rfl⟩ : ∃ e, d = e + 1 := ⟨d - 1, by omega⟩
  rw [e_X10_weight, r_number (by omega) t J B L hs hb hb, pn_c1, r_number (by omega) t J B L hs hb ha, pn_c1]
  rfl
/-! the next greater word -/
def ones : Nat → Nat
  | 0 => 0
  | k + 1 => 10 ^ k + ones k
def nx (s : Nat) : Nat → Nat → Nat
  | 0, _ => 0
  | g + 1, v => if v % 10 < s then v + 1 else if nx s g (v / 10) = 0 then 0 else 10 * nx s g (v / 10) + 1
theorem ones_lt : ∀ k, ones k < 10 ^ k
  | 0 => by decide
  | k + 1 => by
    have := ones_lt k
    simp only [ones]
    rw [Nat.pow_succ]
    omega
theorem ones10 : ∀ k, ones (k + 1) = 10 * ones k + 1
  | 0 => rfl
  | k + 1 => by
    have := ones10 k
    have e : 10 ^ (k + 1) = 10 ^ k * 10 := Nat.pow_succ ..
    have e1 : ones (k + 1 + 1) = 10 ^ (k + 1) + ones (k + 1) := rfl
    have e2 : ones (k + 1) = 10 ^ k + ones k := rfl
    omega
def rk (s : Nat) : Nat → Nat → Nat
  | 0, _ => 0
  | g + 1, v => if v = 0 then 0 else rk s g (v / 10) * s + (v % 10 - 1)
theorem rk_s {s g v : Nat} (h : v ≠ 0) : rk s (g + 1) v = rk s g (v / 10) * s + (v % 10 - 1) := by
  simp only [rk]
  rw [if_neg h]
theorem rk_lt {s : Nat} (hs : 1 ≤ s) : ∀ g v : Nat, okd s g v = true → rk s g v < s ^ g
  | 0, v, _ => by simp [rk]
  | g + 1, v, h => by
    simp only [rk]
    have p : 0 < s ^ (g + 1) := Nat.pow_pos hs
    by_cases h0 : v = 0
    · rw [if_pos h0]; exact p
    · rw [if_neg h0]
      simp only [okd] at h
      rw [if_neg h0] at h
      by_cases h1 : 1 ≤ v % 10 ∧ v % 10 ≤ s
      · rw [if_pos h1] at h
        have := rk_lt hs g (v / 10) h
        have e : s ^ (g + 1) = s ^ g * s := Nat.pow_succ ..
        rw [e]
        have q : (rk s g (v / 10) + 1) * s ≤ s ^ g * s := Nat.mul_le_mul_right s this
        rw [Nat.add_mul] at q
        omega
      · rw [if_neg h1] at h; cases h
theorem okd_s {s g v : Nat} : okd s (g + 1) v = true ↔ v = 0 ∨ ((1 ≤ v % 10 ∧ v % 10 ≤ s) ∧ okd s g (v / 10) = true) := by
  simp only [okd]
  by_cases h0 : v = 0
  · rw [if_pos h0]; exact ⟨fun _ => Or.inl h0, fun _ => rfl⟩
  · rw [if_neg h0]
    by_cases h1 : 1 ≤ v % 10 ∧ v % 10 ≤ s
    · rw [if_pos h1]
      exact ⟨fun h => Or.inr ⟨h1, h⟩, fun h => (h.resolve_left h0).2⟩
    · rw [if_neg h1]
      constructor
      · intro h; cases h
      · intro h; exact absurd (h.resolve_left h0).1 h1
theorem nx_spec {s : Nat} (hs1 : 1 ≤ s) (hs : s ≤ 3) : ∀ g v : Nat, 10 ^ g ≤ v → v < 10 ^ (g + 1) → okd s (g + 1) v = true → (nx s (g + 1) v = 0 ∧ ∀ b, v < b → b < 10 ^ (g + 1) → ¬ okd s (g + 1) b = true) ∨ (v < nx s (g + 1) v ∧ nx s (g + 1) v < 10 ^ (g + 1) ∧ okd s (g + 1) (nx s (g + 1) v) = true ∧ rk s (g + 1) (nx s (g + 1) v) = rk s (g + 1) v + 1 ∧ ∀ b, v < b → b < nx s (g + 1) v → ¬ okd s (g + 1) b = true) := by
  intro g
  induction g with
  | zero =>
    intro v h1 h2 h3
    have hv : v ≠ 0 := by simp at h1; omega
    have hv10 : v < 10 := by simpa using h2
    have h4 := (okd_s.mp h3).resolve_left hv
    simp only [nx]
    by_cases c : v % 10 < s
    · rw [if_pos c]
      right
      refine ⟨by omega, by omega, okd_s.mpr (Or.inr ⟨by omega, rfl⟩), ?_, fun b g1 g2 => by omega⟩
      simp only [rk]
      rw [if_neg (by omega), if_neg hv]
      omega
    · rw [if_neg c, if_pos trivial]
      left
      refine ⟨rfl, fun b g1 g2 g3 => ?_⟩
      have := (okd_s.mp g3).resolve_left (by omega)
      have : b < 10 := by simpa using g2
      omega
  | succ g ih =>
    intro v h1 h2 h3
    have e1 : 10 ^ (g + 1) = 10 ^ g * 10 := Nat.pow_succ ..
    have e2 : 10 ^ (g + 1 + 1) = 10 ^ (g + 1) * 10 := Nat.pow_succ ..
    have hp := p10_pos g
    have hv : v ≠ 0 := by omega
    have h4 := (okd_s.mp h3).resolve_left hv
    have ih := ih (v / 10) (by omega) (by omega) h4.2
    rw [show nx s (g + 1 + 1) v = if v % 10 < s then v + 1 else if nx s (g + 1) (v / 10) = 0 then 0 else 10 * nx s (g + 1) (v / 10) + 1 from rfl]
    by_cases c : v % 10 < s
    · rw [if_pos c]
      right
      refine ⟨by omega, by omega, okd_s.mpr (Or.inr ⟨by omega, ?_⟩), ?_, fun b g1 g2 => by omega⟩
      · rw [show (v + 1) / 10 = v / 10 by omega]; exact h4.2
      · rw [rk_s (by omega), rk_s hv, show (v + 1) / 10 = v / 10 by omega]
        omega
    · rw [if_neg c]
      have hvs : v % 10 = s := by omega
      rcases ih with ⟨i1, i2⟩ | ⟨i1, i2, i3, i4, i5⟩
      · rw [if_pos i1]
        left
        refine ⟨rfl, fun b g1 g2 g3 => ?_⟩
        have g4 := (okd_s.mp g3).resolve_left (by omega)
        rcases Nat.lt_or_ge (v / 10) (b / 10) with q | q
        · exact i2 (b / 10) q (by omega) g4.2
        · omega
      · rw [if_neg (by omega)]
        generalize hu : nx s (g + 1) (v / 10) = u at i1 i2 i3 i4 i5 ⊢
        right
        have d1 : (10 * u + 1) / 10 = u := by omega
        have d2 : (10 * u + 1) % 10 = 1 := by omega
        refine ⟨by omega, by omega, okd_s.mpr (Or.inr ⟨by omega, by rw [d1]; exact i3⟩), ?_, fun b g1 g2 g3 => ?_⟩
        · rw [rk_s (by omega), d1, d2, i4, Nat.add_mul, rk_s hv]
          omega
        · have g4 := (okd_s.mp g3).resolve_left (by omega)
          rcases Nat.lt_or_ge (v / 10) (b / 10) with q | q
          · rcases Nat.lt_or_ge (b / 10) u with q' | q'
            · exact i5 (b / 10) q q' g4.2
            · omega
          · omega
theorem okd_ge {s : Nat} : ∀ g v : Nat, 10 ^ g ≤ v → okd s (g + 1) v = true → ones (g + 1) ≤ v := by
  intro g
  induction g with
  | zero => intro v h1 _; simpa [ones] using h1
  | succ g ih =>
    intro v h1 h2
    have e1 : 10 ^ (g + 1) = 10 ^ g * 10 := Nat.pow_succ ..
    have hp := p10_pos g
    have h4 := (okd_s.mp h2).resolve_left (by omega)
    have := ih (v / 10) (by omega) h4.2
    rw [ones10]
    omega
theorem s_follL (d : Nat) (hd : 1 ≤ d) (h : zm_H) (w : Int32) {s : Nat} (hs3 : s ≤ 3) {n : Nat} (hn : n ≤ 5) : ∀ (j k f P : Nat) (o : Option Value), k + j = n → P < 10 ^ j → (∀ i, i < j → 1 ≤ P / 10 ^ i % 10) → j < f → zR d f 75 10 [some (.int w), some (.int (nI s)), some (.int (nI (P * 10 ^ k + ones k))), some (.int (nI n)), some (.int (nI k)), o] [] h = some (some (.int (nI (if nx s j P = 0 then 0 else nx s j P * 10 ^ k + ones k))), h) := by
  intro j
  induction j with
  | zero =>
    intro k f P o hk hP hd1 hf
    obtain ⟨f, rfl⟩ : ∃ e, f = e + 1 := ⟨f - 1, by omega⟩
    rw [e_X8_following_at10, pn_t (nI_le (by omega) (by omega)), nx, if_pos rfl]
    rfl
  | succ j ih =>
    intro k f P o hk hP hd1 hf
    obtain ⟨f, rfl⟩ : ∃ e, f = e + 1 := ⟨f - 1, by omega⟩
    have h10 := p10_lt (k := k) (by omega)
    have hp := p10_pos k
    have ho := ones_lt k
    have hb : P * 10 ^ k + ones k < 100000 := by
      have e : (P + 1) * 10 ^ k ≤ 10 ^ (j + 1) * 10 ^ k := Nat.mul_le_mul_right _ hP
      rw [← Nat.pow_add] at e
      have e2 : 10 ^ (j + 1 + k) ≤ 10 ^ 5 := Nat.pow_le_pow_right (by omega) (by omega)
      rw [Nat.add_mul] at e
      omega
    have hq : (P * 10 ^ k + ones k) / 10 ^ k = P := by
      rw [Nat.mul_comm, Nat.mul_add_div hp, Nat.div_eq_of_lt ho, Nat.add_zero]
    have hP5 : P < 100000 := by
      have : P * 1 ≤ P * 10 ^ k := Nat.mul_le_mul_left _ hp
      omega
    rw [e_X8_following_at10, pn_f (nI_ge (by omega) (by omega)), s_tens hd h (by omega), pn_c1, show (0 : Int32) = nI 0 from rfl, pn_eq h10 (by decide), pn_f (by omega), pk_div (by omega) hp h10, hq, show (10 : Int32) = nI 10 from rfl, pk_rem (by omega) (by decide) (by decide), pn_le (by omega) (by omega)]
    rw [nx]
    by_cases c : P % 10 < s
    · rw [pn_f (by omega), s_tens hd h (by omega), pn_c1, nI_add, if_pos c, if_neg (by omega), Nat.add_mul, Nat.one_mul, show P * 10 ^ k + ones k + 10 ^ k = P * 10 ^ k + 10 ^ k + ones k by omega]
    · rw [pn_t (by omega), s_tens hd h (by omega), pn_c1, if_neg c]
      have l1 : 1 ≤ P % 10 := by simpa using hd1 0 (by omega)
      have e1 : nI (P * 10 ^ k + ones k) - (nI (P % 10) - 1) * nI (10 ^ k) = nI (P / 10 * 10 ^ (k + 1) + ones (k + 1)) := by
        have hle : (P % 10 - 1) * 10 ^ k ≤ P * 10 ^ k := Nat.mul_le_mul_right _ (by omega)
        rw [show (1 : Int32) = nI 1 from rfl, pn_sub l1, pk_mul, pn_sub (by omega)]
        congr 1
        simp only [ones]
        have e : P = P / 10 * 10 + (P % 10 - 1) + 1 := by omega
        have e3 : 10 ^ (k + 1) = 10 ^ k * 10 := Nat.pow_succ ..
        have e4 : P * 10 ^ k = P / 10 * 10 * 10 ^ k + (P % 10 - 1) * 10 ^ k + 1 * 10 ^ k := by
          rw [← Nat.add_mul, ← Nat.add_mul, ← e]
        rw [e3, e4]
        have e5 : P / 10 * (10 ^ k * 10) = P / 10 * 10 * 10 ^ k := by
          rw [Nat.mul_comm (10 ^ k) 10, Nat.mul_assoc]
        omega
      rw [e1, nI_1, ih (k + 1) f (P / 10) _ (by omega) (by rw [Nat.pow_succ] at hP; omega) (fun i hi => by
        have := hd1 (i + 1) (by omega)
        rw [Nat.div_div_eq_div_mul, ← Nat.pow_succ']
        exact this) (by omega)]
      by_cases z : nx s j (P / 10) = 0
      · rw [if_pos z, if_pos z, if_pos rfl]
      · rw [if_neg z, if_neg z, if_neg (by omega)]
        have e3 : 10 ^ (k + 1) = 10 ^ k * 10 := Nat.pow_succ ..
        have e4 : nx s j (P / 10) * 10 ^ (k + 1) + ones (k + 1) = (10 * nx s j (P / 10) + 1) * 10 ^ k + ones k := by
          simp only [ones]
          rw [e3, Nat.add_mul, Nat.mul_comm (10 ^ k) 10, ← Nat.mul_assoc, Nat.mul_comm _ 10]
          omega
        rw [e4]
theorem okd_dig {s : Nat} : ∀ g v : Nat, 10 ^ g ≤ v → okd s (g + 1) v = true → ∀ i, i < g + 1 → 1 ≤ v / 10 ^ i % 10 := by
  intro g
  induction g with
  | zero =>
    intro v h1 h2 i hi
    have h4 := (okd_s.mp h2).resolve_left (by simp at h1; omega)
    rw [show i = 0 by omega]
    simpa using h4.1.1
  | succ g ih =>
    intro v h1 h2 i hi
    have e1 : 10 ^ (g + 1) = 10 ^ g * 10 := Nat.pow_succ ..
    have hp := p10_pos g
    have h4 := (okd_s.mp h2).resolve_left (by omega)
    cases i with
    | zero => simpa using h4.1.1
    | succ i =>
      have := ih (v / 10) (by omega) h4.2 i (by omega)
      rw [Nat.div_div_eq_div_mul, ← Nat.pow_succ'] at this
      exact this
theorem okw_dig {s w : Nat} (h : okw s w = true) : 10 ^ (wl w - 1) ≤ w ∧ okd s (wl w - 1 + 1) w = true ∧ w < 10 ^ (wl w - 1 + 1) := by
  have h1 := okw_lt h
  have h2 := okw_d h
  have lp := wl_pos h1.1
  have l5 := wl_le w
  have e : wl w - 1 + 1 = wl w := by omega
  rw [e]
  have h3 := wl_lt h1.2
  rw [okd_mono s (wl w) 10 w h3 (by omega)] at h2
  exact ⟨wl_ge h1.1, h2, h3⟩
theorem okw_of {s w g : Nat} (hg : g < 5) (h1 : 10 ^ g ≤ w) (h2 : w < 10 ^ (g + 1)) (h3 : okd s (g + 1) w = true) : okw s w = true ∧ wl w = g + 1 := by
  have hw := wl_of h1 h2 hg
  have hp := p10_pos g
  have h5 : w < 100000 := by
    rw [show (100000 : Nat) = 10 ^ 5 from rfl]
    exact Nat.lt_of_lt_of_le h2 (Nat.pow_le_pow_right (by omega) (by omega))
  refine ⟨?_, hw⟩
  unfold okw
  rw [okd_mono s (g + 1) 10 w h2 (by omega), h3, decide_eq_true (show 1 ≤ w by omega), decide_eq_true h5]
  rfl
theorem s_following {d : Nat} (hd : 2 ≤ d) (h : zm_H) {w s : Nat} (hs3 : s ≤ 3) (hw : okw s w = true) : zC d 75 [.int (nI w), .int (nI s)] h = some (some (.int (nI (nx s (wl w) w))), h) := by
  obtain ⟨d, rfl⟩ : ∃ e, d = e + 1 := ⟨d - 1, by omega⟩
  have h1 := okw_lt hw
  have l5 := wl_le w
  have lp := wl_pos h1.1
  obtain ⟨g1, g2, g3⟩ := okw_dig hw
  have dg := okd_dig _ _ g1 g2
  rw [show wl w - 1 + 1 = wl w by omega] at dg
  rw [e_X8_following, s_length (by omega) h (by omega), pn_c1]
  have := s_follL d (by omega) h (nI w) hs3 l5 (wl w) 0 10000000 w none (by omega) (wl_lt h1.2) dg (by omega)
  rw [show w * 10 ^ 0 + ones 0 = w by simp [ones]] at this
  rw [show (0 : Int32) = nI 0 from rfl, this]
  by_cases z : nx s (wl w) w = 0
  · rw [if_pos z, z]
  · rw [if_neg z, show nx s (wl w) w * 10 ^ 0 + ones 0 = nx s (wl w) w by simp [ones]]
