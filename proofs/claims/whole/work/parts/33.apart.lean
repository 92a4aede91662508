/-! the reference's way to see whether one stands in the other; words that are such -/
def inv (a la : Nat) : Nat → Nat → Bool
  | 0, _ => false
  | g + 1, v => if v = 0 then false else if v % 10 ^ la = a then true else inv a la g (v / 10)
theorem inr_iff (a b la : Nat) : ∀ j k : Nat, inr a b la j k = true ↔ ∃ i, k ≤ i ∧ i < k + j ∧ b / 10 ^ i % 10 ^ la = a
  | 0, k => by simp only [inr]; constructor
               · intro h; cases h
               · rintro ⟨i, h1, h2, -⟩; omega
  | j + 1, k => by
    simp only [inr]
    by_cases h : b / 10 ^ k % 10 ^ la = a
    · rw [if_pos h]
      exact ⟨fun _ => ⟨k, Nat.le_refl _, by omega, h⟩, fun _ => rfl⟩
    · rw [if_neg h, inr_iff a b la j (k + 1)]
      constructor
      · rintro ⟨i, h1, h2, h3⟩; exact ⟨i, by omega, by omega, h3⟩
      · rintro ⟨i, h1, h2, h3⟩
        refine ⟨i, ?_, by omega, h3⟩
        rcases Nat.lt_or_ge k i with q | q
        · exact q
        · exact absurd (by rw [show k = i by omega]; exact h3) h
theorem inv_iff (a la : Nat) : ∀ g v : Nat, inv a la g v = true ↔ ∃ i, i < g ∧ v / 10 ^ i ≠ 0 ∧ v / 10 ^ i % 10 ^ la = a
  | 0, v => by simp only [inv]; constructor
               · intro h; cases h
               · rintro ⟨i, h1, -⟩; omega
  | g + 1, v => by
    simp only [inv]
    by_cases h0 : v = 0
    · rw [if_pos h0]
      constructor
      · intro h; cases h
      · rintro ⟨i, -, h2, -⟩; rw [h0, Nat.zero_div] at h2; exact absurd rfl h2
    · rw [if_neg h0]
      by_cases h : v % 10 ^ la = a
      · rw [if_pos h]
        exact ⟨fun _ => ⟨0, by omega, by simpa using h0, by simpa using h⟩, fun _ => rfl⟩
      · rw [if_neg h, inv_iff a la g (v / 10)]
        constructor
        · rintro ⟨i, h1, h2, h3⟩
          rw [Nat.div_div_eq_div_mul, ← Nat.pow_succ'] at h2 h3
          exact ⟨i + 1, by omega, h2, h3⟩
        · rintro ⟨i, h1, h2, h3⟩
          cases i with
          | zero => simp at h3; exact absurd h3 h
          | succ i =>
            refine ⟨i, by omega, ?_, ?_⟩
            · rw [Nat.div_div_eq_div_mul, ← Nat.pow_succ']; exact h2
            · rw [Nat.div_div_eq_div_mul, ← Nat.pow_succ']; exact h3
theorem inv_inn {a b : Nat} (ha : 1 ≤ a) (hb : b < 100000) : inv a (wl a) 10 b = inn a b := by
  rw [Bool.eq_iff_iff]
  unfold inn
  rw [inv_iff, inr_iff]
  have la := wl_pos ha
  have lb5 := wl_le b
  constructor
  · rintro ⟨i, h1, h2, h3⟩
    refine ⟨i, by omega, ?_, h3⟩
    have g1 := wl_ge ha
    have g2 : 10 ^ (wl a - 1) ≤ b / 10 ^ i := by
      have := Nat.mod_le (b / 10 ^ i) (10 ^ wl a)
      omega
    have g3 : 10 ^ (wl a - 1) * 10 ^ i ≤ b := (Nat.le_div_iff_mul_le (p10_pos i)).mp g2
    rw [← Nat.pow_add] at g3
    have g4 := wl_lt hb
    have g5 : wl a - 1 + i < wl b := (Nat.pow_lt_pow_iff_right (by omega : 1 < 10)).mp (Nat.lt_of_le_of_lt g3 g4)
    omega
  · rintro ⟨i, -, h2, h3⟩
    have lb : 1 ≤ wl b := by omega
    have hb1 : 1 ≤ b := by
      rcases Nat.eq_zero_or_pos b with q | q
      · rw [q] at lb; simp [wl] at lb
      · exact q
    refine ⟨i, by omega, ?_, h3⟩
    have g1 := wl_ge hb1
    have g2 : 10 ^ i ≤ 10 ^ (wl b - 1) := Nat.pow_le_pow_right (by omega) (by omega)
    have g3 : 1 ≤ b / 10 ^ i := (Nat.le_div_iff_mul_le (p10_pos i)).mpr (by omega)
    omega
theorem r_standsLoop (d : Nat) (h : zm_H) {a la : Nat} (b : Int32) (ha : a < 2 ^ 31) (hla : la ≤ 5) : ∀ (g f v : Nat), g < f → v < 2 ^ 31 → v < 10 ^ g → zR d f 137 10 [some (.int (nI a)), some (.int b), some (.int (nI (10 ^ la))), some (.int (nI v))] [] h = some (some (.int (b01 (inv a la g v))), h) := by
  intro g
  induction g with
  | zero =>
    intro f v hf hv h10
    obtain ⟨f, rfl⟩ : ∃ e, f = e + 1 := ⟨f - 1, by omega⟩
    have : v = 0 := by omega
    subst this
    rw [e_X10_stands_at10]
    rfl
  | succ g ih =>
    intro f v hf hv h10
    obtain ⟨f, rfl⟩ : ∃ e, f = e + 1 := ⟨f - 1, by omega⟩
    have h11 := p10_lt (k := la) (by omega)
    rw [e_X10_stands_at10, show (0 : Int32) = nI 0 from rfl, pn_le hv (by decide)]
    simp only [inv]
    by_cases h0 : v = 0
    · rw [pn_t (by omega), if_pos h0]; rfl
    · rw [pn_f (by omega), if_neg h0, pn_eq h11 (by decide), pn_f (by have := p10_pos la; omega), pk_rem hv (p10_pos la) h11]
      have hm : v % 10 ^ la < 2 ^ 31 := Nat.lt_of_le_of_lt (Nat.mod_le _ _) hv
      rw [pn_ne hm ha]
      by_cases hc : v % 10 ^ la = a
      · rw [pn_f (by simpa using hc), if_pos hc]; rfl
      · rw [pn_t hc, if_neg hc, show (10 : Int32) = nI 10 from rfl, pk_div hv (by decide) (by decide), ih f (v / 10) (by omega) (by omega) (by rw [Nat.pow_succ] at h10; omega)]
theorem r_stands {d : Nat} (hd : 2 ≤ d) (h : zm_H) {a b : Nat} (ha1 : 1 ≤ a) (ha : a < 100000) (hb : b < 100000) : zC d 137 [.int (nI a), .int (nI b)] h = some (some (.int (b01 (inn a b))), h) := by
  obtain ⟨d, rfl⟩ : ∃ e, d = e + 1 := ⟨d - 1, by omega⟩
  have la := wl_le a
  rw [e_X10_stands, r_sizeW (by omega) h ha, pn_c1, r_ten (by omega) h (by omega), pn_c1, r_standsLoop d h (nI b) (by omega) la 10 10000000 b (by omega) (by omega) (by omega), inv_inn ha1 hb]
theorem r_apart {d : Nat} (hd : 3 ≤ d) (h : zm_H) {a b : Nat} (ha1 : 1 ≤ a) (ha : a < 100000) (hb1 : 1 ≤ b) (hb : b < 100000) : zC d 138 [.int (nI a), .int (nI b)] h = some (some (.int (b01 (!(inn a b || inn b a)))), h) := by
  obtain ⟨d, rfl⟩ : ∃ e, d = e + 1 := ⟨d - 1, by omega⟩
  rw [e_X10_areApart, r_stands (by omega) h ha1 ha hb, pn_c1]
  cases h1 : inn a b with
  | true => rfl
  | false =>
    rw [show (decide (¬ b01 false = 0)) = false from rfl, cond_false, r_stands (by omega) h hb1 hb ha, pn_c1]
    cases h2 : inn b a <;> rfl
/-- all digits of v are letters of s -/
def okd (s : Nat) : Nat → Nat → Bool
  | 0, _ => true
  | g + 1, v => if v = 0 then true else if 1 ≤ v % 10 ∧ v % 10 ≤ s then okd s g (v / 10) else false
/-- a word of s sides -/
def okw (s w : Nat) : Bool := decide (1 ≤ w) && (decide (w < 100000) && okd s 10 w)
theorem okd_mono (s : Nat) : ∀ g g' v : Nat, v < 10 ^ g → g ≤ g' → okd s g' v = okd s g v
  | 0, g', v, h, _ => by
    have : v = 0 := by simpa using h
    subst this
    cases g' <;> simp [okd]
  | g + 1, g' + 1, v, h, hg => by
    simp only [okd]
    rw [okd_mono s g g' (v / 10) (by rw [Nat.pow_succ] at h; omega) (by omega)]
  | g + 1, 0, v, h, hg => by omega
theorem s_firstLetters {d : Nat} (hd : 2 ≤ d) (h : zm_H) {w k : Nat} (hw : w < 2 ^ 31) (hk : k ≤ wl w) : zC d 60 [.int (nI w), .int (nI k)] h = some (some (.int (nI (w / 10 ^ (wl w - k)))), h) := by
  obtain ⟨d, rfl⟩ : ∃ e, d = e + 1 := ⟨d - 1, by omega⟩
  have l5 := wl_le w
  have h10 := p10_lt (k := wl w - k) (by omega)
  rw [e_X8_firstLetters, s_length (by omega) h hw, pn_c1, pn_sub hk, s_tens (by omega) h (by omega), pn_c1, show (0 : Int32) = nI 0 from rfl, pn_eq h10 (by decide), pn_f (by have := p10_pos (wl w - k); omega), pk_div hw (p10_pos _) h10]
theorem s_isWordLoop (d : Nat) (hd : 2 ≤ d) (h : zm_H) {w s : Nat} (hw : w < 100000) (hs : s < 2 ^ 31) : ∀ (k f : Nat) (o : Option Value), k < f → k ≤ wl w → zR d f 58 20 [some (.int (nI w)), some (.int (nI s)), some (.int (nI k)), o] [] h = some (some (.int (b01 (okd s k (w / 10 ^ (wl w - k))))), h) := by
  intro k
  induction k with
  | zero =>
    intro f o hf hk
    obtain ⟨f, rfl⟩ : ∃ e, f = e + 1 := ⟨f - 1, by omega⟩
    rw [e_X8_isWord_at20]
    rfl
  | succ k ih =>
    intro f o hf hk
    obtain ⟨f, rfl⟩ : ∃ e, f = e + 1 := ⟨f - 1, by omega⟩
    rw [e_X8_isWord_at20, show (0 : Int32) = nI 0 from rfl, pn_le (by have := wl_le w; omega) (by decide), pn_f (by omega), s_firstLetters hd h (by omega) hk, pn_c1]
    have hv : w / 10 ^ (wl w - (k + 1)) < 100000 := Nat.lt_of_le_of_lt (Nat.div_le_self _ _) hw
    generalize hvv : w / 10 ^ (wl w - (k + 1)) = v at hv ⊢
    have hv0 : v ≠ 0 := by
      have h1 : 1 ≤ w := by
        rcases Nat.eq_zero_or_pos w with q | q
        · rw [q] at hk; simp [wl] at hk
        · exact q
      have g1 := wl_ge h1
      have g2 : 10 ^ (wl w - (k + 1)) ≤ 10 ^ (wl w - 1) := Nat.pow_le_pow_right (by omega) (by omega)
      have g3 : 1 ≤ w / 10 ^ (wl w - (k + 1)) := (Nat.le_div_iff_mul_le (p10_pos _)).mpr (by omega)
      omega
    have hn : w / 10 ^ (wl w - k) = v / 10 := by
      rw [← hvv, Nat.div_div_eq_div_mul, ← Nat.pow_succ, show (wl w - (k + 1)).succ = wl w - k by omega]
    rw [show (10 : Int32) = nI 10 from rfl, pk_rem (by omega) (by decide) (by decide), show (1 : Int32) = nI 1 from rfl, pn_lt (by omega) (by decide), pn_le (by omega) hs]
    simp only [okd]
    rw [if_neg hv0]
    by_cases c1 : v % 10 < 1
    · rw [pn_t c1, if_neg (by omega)]; rfl
    · rw [pn_f c1]
      by_cases c2 : v % 10 ≤ s
      · rw [pn_t c2, if_pos (by omega), show nI (k + 1) + -nI 1 = nI k from pk_m1 k, ih f _ (by omega) (by omega), hn]
      · rw [pn_f c2, if_neg (by omega)]; rfl
theorem s_isWord {d : Nat} (hd : 3 ≤ d) (h : zm_H) (x : Int32) {s : Nat} (hs : s < 2 ^ 31) : zC d 58 [.int x, .int (nI s)] h = some (some (.int (b01 (decide (0 < x) && okw s x.toNatClampNeg))), h) := by
  obtain ⟨d, rfl⟩ : ∃ e, d = e + 1 := ⟨d - 1, by omega⟩
  rw [e_X8_isWord]
  by_cases hx : x < 1
  · rw [pn_t hx, show decide (0 < x) = false from decide_eq_false (fun q => by
      have h1 := Int32.lt_iff_toInt_lt.mp hx
      have h2 := Int32.lt_iff_toInt_lt.mp q
      have e1 : (1 : Int32).toInt = 1 := rfl
      have e0 : (0 : Int32).toInt = 0 := rfl
      omega)]
    rfl
  · rw [pn_f hx]
    have hx0 : ¬ x < 0 := fun q => hx (by
      have h2 := Int32.lt_iff_toInt_lt.mp q
      apply Int32.lt_iff_toInt_lt.mpr
      have e1 : (1 : Int32).toInt = 1 := rfl
      have e0 : (0 : Int32).toInt = 0 := rfl
      omega)
    obtain ⟨w, hw, rfl⟩ := nI_of hx0
    have hw1 : 1 ≤ w := by
      rcases Nat.eq_zero_or_pos w with q | q
      · rw [q] at hx; exact absurd (by decide) hx
      · exact q
    rw [show decide (0 < nI w) = true from decide_eq_true ((nI_ltI (a := 0) (by decide) hw).mpr hw1), nI_clamp hw]
    rw [show (5 : Int32) = nI 5 from rfl, s_tens (by omega) h (by omega), pn_c1, pn_lt hw (by decide)]
    unfold okw
    rw [decide_eq_true hw1]
    by_cases c : w < 10 ^ 5
    · rw [pn_t c, s_length (by omega) h hw, pn_c1, s_isWordLoop d (by omega) h (by omega) hs (wl w) 10000000 none (by have := wl_le w; omega) (Nat.le_refl _)]
      rw [Nat.sub_self, Nat.pow_zero, Nat.div_one, decide_eq_true (show w < 100000 by omega), okd_mono s (wl w) 10 w (wl_lt (by omega)) (by have := wl_le w; omega)]
      rfl
    · rw [pn_f c, decide_eq_false (show ¬ w < 100000 by omega)]
      rfl
theorem r_isSuchLoop (d : Nat) (hd : 1 ≤ d) (t : List zm_E) (J : Nat → Int32) (B : Nat → Nat → Int32) (L : Nat → Nat → Int64) (a : Int32) {s : Nat} (hs : J 0 = nI s) (hs31 : s < 2 ^ 31) : ∀ (g f v : Nat), g < f → v < 2 ^ 31 → v < 10 ^ g → zR d f 133 17 [some (.ref 1000), some (.int a), some (.int (nI v))] [] (t, hM J B L) = some (some (.int (b01 (okd s g v))), (t, hM J B L)) := by
  obtain ⟨d, rfl⟩ : ∃ e, d = e + 1 := ⟨d - 1, by omega⟩
  intro g
  induction g with
  | zero =>
    intro f v hf hv h10
    obtain ⟨f, rfl⟩ : ∃ e, f = e + 1 := ⟨f - 1, by omega⟩
    have : v = 0 := by omega
    subst this
    rw [e_X10_isSuch_at17]
    rfl
  | succ g ih =>
    intro f v hf hv h10
    obtain ⟨f, rfl⟩ : ∃ e, f = e + 1 := ⟨f - 1, by omega⟩
    rw [e_X10_isSuch_at17, show (0 : Int32) = nI 0 from rfl, pn_le hv (by decide)]
    simp only [okd]
    by_cases h0 : v = 0
    · rw [pn_t (by omega), if_pos h0]; rfl
    · rw [pn_f (by omega), if_neg h0, show (10 : Int32) = nI 10 from rfl, pk_rem hv (by decide) (by decide), hs, e_X10_in, show (1 : Int32) = nI 1 from rfl, pn_lt (by omega) (by decide), pn_lt hs31 (by omega)]
      by_cases c1 : v % 10 < 1
      · rw [pn_t c1, if_neg (by omega)]; rfl
      · rw [pn_f c1]
        by_cases c2 : s < v % 10
        · rw [pn_t c2, if_neg (by omega)]; rfl
        · rw [pn_f c2, if_pos (by omega), pn_c1, pk_div hv (by decide) (by decide)]
          rw [show (decide (¬ nI 1 = nI 0)) = true from rfl, cond_true, ih f (v / 10) (by omega) (by omega) (by rw [Nat.pow_succ] at h10; omega)]
theorem r_isSuch {d : Nat} (hd : 2 ≤ d) (t : List zm_E) (J : Nat → Int32) (B : Nat → Nat → Int32) (L : Nat → Nat → Int64) (x : Int32) {s : Nat} (hs : J 0 = nI s) (hs31 : s < 2 ^ 31) : zC d 133 [.ref 1000, .int x] (t, hM J B L) = some (some (.int (b01 (decide (0 < x) && okw s x.toNatClampNeg))), (t, hM J B L)) := by
  obtain ⟨d, rfl⟩ : ∃ e, d = e + 1 := ⟨d - 1, by omega⟩
  rw [e_X10_isSuch]
  by_cases hx : x < 1
  · rw [pn_t hx, show decide (0 < x) = false from decide_eq_false (fun q => by
      have h1 := Int32.lt_iff_toInt_lt.mp hx
      have h2 := Int32.lt_iff_toInt_lt.mp q
      have e1 : (1 : Int32).toInt = 1 := rfl
      have e0 : (0 : Int32).toInt = 0 := rfl
      omega)]
    rfl
  · rw [pn_f hx]
    have hx0 : ¬ x < 0 := fun q => hx (by
      have h2 := Int32.lt_iff_toInt_lt.mp q
      apply Int32.lt_iff_toInt_lt.mpr
      have e1 : (1 : Int32).toInt = 1 := rfl
      have e0 : (0 : Int32).toInt = 0 := rfl
      omega)
    obtain ⟨w, hw, rfl⟩ := nI_of hx0
    have hw1 : 1 ≤ w := by
      rcases Nat.eq_zero_or_pos w with q | q
      · rw [q] at hx; exact absurd (by decide) hx
      · exact q
    rw [show decide (0 < nI w) = true from decide_eq_true ((nI_ltI (a := 0) (by decide) hw).mpr hw1), nI_clamp hw]
    rw [r_size (by omega) _ hw, pn_c1, show (5 : Int32) = nI 5 from rfl, pn_le (by have := dl_le 10 w; omega) (by decide)]
    unfold okw
    rw [decide_eq_true hw1]
    by_cases c : w < 100000
    · rw [pn_t (by rw [dl_wl 10 w c (by omega)]; exact wl_le w), r_isSuchLoop d (by omega) t J B L _ hs hs31 10 10000000 w (by omega) hw (by omega), decide_eq_true c]
      rfl
    · rw [pn_f (by have := dl_big 10 w (by omega) (by omega); omega), decide_eq_false c]
      rfl
