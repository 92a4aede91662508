/-! numbers: ints that are naturals; powers of ten; digits -/
theorem pn_lt {a b : Nat} (ha : a < 2 ^ 31) (hb : b < 2 ^ 31) : decide (nI a < nI b) = decide (a < b) := by
  rw [decide_eq_decide]; exact nI_ltI ha hb
theorem pn_le {a b : Nat} (ha : a < 2 ^ 31) (hb : b < 2 ^ 31) : decide (nI a ≤ nI b) = decide (a ≤ b) := by
  rw [decide_eq_decide]; exact nI_leI ha hb
theorem pn_eq {a b : Nat} (ha : a < 2 ^ 31) (hb : b < 2 ^ 31) : decide (nI a = nI b) = decide (a = b) := by
  rw [decide_eq_decide]; exact nI_eq ha hb
theorem pn_ne {a b : Nat} (ha : a < 2 ^ 31) (hb : b < 2 ^ 31) : decide (¬ nI a = nI b) = decide (¬ a = b) := by
  rw [decide_eq_decide, nI_eq ha hb]
theorem pn_t {p : Prop} (h : p) {α : Type} {hd : Decidable p} {a b : α} : (bif @decide p hd then a else b) = a := by
  rw [decide_eq_true h]; rfl
theorem pn_f {p : Prop} (h : ¬ p) {α : Type} {hd : Decidable p} {a b : α} : (bif @decide p hd then a else b) = b := by
  rw [decide_eq_false h]; rfl
theorem pn_c1 {x : Int32} {h : zm_H} {k : Int32 → zm_H → Option zm_R} : zm_c1 (some (some (.int x), h)) k = k x h := (Eq.refl _).trans (Eq.refl _)
theorem pn_c2 {x : Int64} {h : zm_H} {k : Int64 → zm_H → Option zm_R} : zm_c2 (some (some (.long x), h)) k = k x h := (Eq.refl _).trans (Eq.refl _)
theorem pn_c0 {h : zm_H} {k : zm_H → Option zm_R} : zm_c0 (some (none, h)) k = k h := (Eq.refl _).trans (Eq.refl _)
theorem pn_sub {a b : Nat} (h : b ≤ a) : nI a - nI b = nI (a - b) := pk_sub h
theorem pn_in {i N : Nat} (h : i < N) (hN : N < 2 ^ 31) : zm_in (nI i) N = true := by
  unfold zm_in
  exact decide_eq_true (nI_in h hN)
theorem pn_cl {i : Nat} (h : i < 2 ^ 31) : (nI i).toNatClampNeg = i := nI_clamp h
/-- how many digits (up to five) -/
def wl (w : Nat) : Nat := if w < 1000 then (if w < 10 then (if w < 1 then 0 else 1) else if w < 100 then 2 else 3) else if w < 10000 then 4 else 5
theorem wl_le (w : Nat) : wl w ≤ 5 := by unfold wl; split <;> (try split) <;> (try split) <;> omega
theorem wl_lt {w : Nat} (h : w < 100000) : w < 10 ^ wl w := by
  unfold wl
  split
  · split
    · split <;> omega
    · split <;> omega
  · split <;> omega
theorem wl_ge {w : Nat} (h : 1 ≤ w) : 10 ^ (wl w - 1) ≤ w := by
  unfold wl
  split
  · split
    · split <;> omega
    · split <;> omega
  · split <;> omega
theorem wl_pos {w : Nat} (h : 1 ≤ w) : 1 ≤ wl w := by
  unfold wl
  split
  · split
    · split <;> omega
    · split <;> omega
  · split <;> omega
theorem wl_of {w k : Nat} (h1 : 10 ^ k ≤ w) (h2 : w < 10 ^ (k + 1)) (hk : k < 5) : wl w = k + 1 := by
  have hc : k = 0 ∨ k = 1 ∨ k = 2 ∨ k = 3 ∨ k = 4 := by omega
  rcases hc with rfl | rfl | rfl | rfl | rfl <;> simp at h1 h2 <;> unfold wl
  · rw [if_pos (by omega), if_pos (by omega), if_neg (by omega)]
  · rw [if_pos (by omega), if_neg (by omega), if_pos (by omega)]
  · rw [if_pos (by omega), if_neg (by omega), if_neg (by omega)]
  · rw [if_neg (by omega), if_pos (by omega)]
  · rw [if_neg (by omega), if_neg (by omega)]
theorem wl_div {w : Nat} (h1 : 1 ≤ w) (h2 : w < 100000) : wl (w / 10) = wl w - 1 := by
  unfold wl
  repeat' split
  all_goals omega
/-- digits of any natural -/
def dl : Nat → Nat → Nat
  | 0, _ => 0
  | f + 1, w => if w = 0 then 0 else dl f (w / 10) + 1
theorem dl_wl : ∀ (f w : Nat), w < 100000 → 5 ≤ f → dl f w = wl w := by
  intro f w hw hf
  obtain ⟨g, rfl⟩ : ∃ g, f = g + 5 := ⟨f - 5, by omega⟩
  have z : ∀ g, dl g 0 = 0 := fun g => by cases g <;> simp [dl]
  simp only [dl]
  unfold wl
  by_cases h0 : w = 0
  · subst h0; simp
  rw [if_neg h0]
  by_cases h1 : w / 10 = 0
  · rw [if_pos h1, if_pos (by omega), if_pos (by omega), if_neg (by omega)]
  rw [if_neg h1]
  by_cases h2 : w / 10 / 10 = 0
  · rw [if_pos h2, if_pos (by omega), if_neg (by omega), if_pos (by omega)]
  rw [if_neg h2]
  by_cases h3 : w / 10 / 10 / 10 = 0
  · rw [if_pos h3, if_pos (by omega), if_neg (by omega), if_neg (by omega)]
  rw [if_neg h3]
  by_cases h4 : w / 10 / 10 / 10 / 10 = 0
  · rw [if_pos h4, if_neg (by omega), if_pos (by omega)]
  rw [if_neg h4, show w / 10 / 10 / 10 / 10 / 10 = 0 by omega, z, if_neg (by omega), if_neg (by omega)]
theorem dl_big : ∀ (f w : Nat), 100000 ≤ w → 6 ≤ f → 6 ≤ dl f w := by
  intro f w hw hf
  obtain ⟨g, rfl⟩ : ∃ g, f = g + 6 := ⟨f - 6, by omega⟩
  simp only [dl]
  rw [if_neg (by omega), if_neg (by omega), if_neg (by omega), if_neg (by omega), if_neg (by omega), if_neg (by omega)]
  omega
theorem dl_le : ∀ (f w : Nat), dl f w ≤ f
  | 0, _ => Nat.le_refl _
  | f + 1, w => by
    simp only [dl]
    split
    · omega
    · have := dl_le f (w / 10); omega
theorem p10_pos (k : Nat) : 0 < 10 ^ k := Nat.pow_pos (by omega)
theorem p10_lt {k : Nat} (h : k ≤ 9) : 10 ^ k < 2 ^ 31 := Nat.lt_of_le_of_lt (Nat.pow_le_pow_right (by omega) h) (by decide)
