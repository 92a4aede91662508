/-! words: the class's own functions on them -/
theorem s_tens {d : Nat} (hd : 1 ≤ d) (h : zm_H) {k : Nat} (hk : k ≤ 5) : zC d 56 [.int (nI k)] h = some (some (.int (nI (10 ^ k))), h) := by
  obtain ⟨d, rfl⟩ : ∃ e, d = e + 1 := ⟨d - 1, by omega⟩
  have hc : k = 0 ∨ k = 1 ∨ k = 2 ∨ k = 3 ∨ k = 4 ∨ k = 5 := by omega
  rcases hc with rfl | rfl | rfl | rfl | rfl | rfl <;> (rw [e_X8_tens]; rfl)
theorem s_length {d : Nat} (hd : 1 ≤ d) (h : zm_H) {w : Nat} (hw : w < 2 ^ 31) : zC d 57 [.int (nI w)] h = some (some (.int (nI (wl w))), h) := by
  obtain ⟨d, rfl⟩ : ∃ e, d = e + 1 := ⟨d - 1, by omega⟩
  rw [e_X8_length]
  rw [show (1000 : Int32) = nI 1000 from rfl, show (10 : Int32) = nI 10 from rfl, show (1 : Int32) = nI 1 from rfl, show (100 : Int32) = nI 100 from rfl, show (10000 : Int32) = nI 10000 from rfl]
  rw [pn_lt hw (by decide), pn_lt hw (by decide), pn_lt hw (by decide), pn_lt hw (by decide), pn_lt hw (by decide)]
  unfold wl
  by_cases h1 : w < 1000
  · rw [pn_t h1, if_pos h1]
    by_cases h2 : w < 10
    · rw [pn_t h2, if_pos h2]
      by_cases h3 : w < 1
      · rw [pn_t h3, if_pos h3]; rfl
      · rw [pn_f h3, if_neg h3]
    · rw [pn_f h2, if_neg h2]
      by_cases h3 : w < 100
      · rw [pn_t h3, if_pos h3]; rfl
      · rw [pn_f h3, if_neg h3]; rfl
  · rw [pn_f h1, if_neg h1]
    by_cases h2 : w < 10000
    · rw [pn_t h2, if_pos h2]; rfl
    · rw [pn_f h2, if_neg h2]; rfl
/-- how the end of one is the beginning of the other: bits from k on, j of them -/
def ovr (a b lb : Nat) : Nat → Nat → Nat
  | 0, _ => 0
  | j + 1, k => (if a % 10 ^ k = b / 10 ^ (lb - k) then 2 ^ (k - 1) else 0) + ovr a b lb j (k + 1)
def ov (a b : Nat) : Nat := ovr a b (wl b) (min (wl a) (wl b)) 1
theorem ov_bit : ∀ k, k < 5 → ∀ B, B < 2 ^ k → nI B ||| ((1 : Int32) <<< ((nI (k + 1) - 1) &&& 31)) = nI (B + 2 ^ k) := by decide
theorem s_ovLoop (d : Nat) (hd : 1 ≤ d) (h : zm_H) {a b lb : Nat} (ha : a < 2 ^ 31) (hb : b < 2 ^ 31) (hlb : lb ≤ 5) : ∀ (j k B f : Nat), 1 ≤ k → k + j ≤ lb + 1 → B < 2 ^ (k - 1) → j < f → zR d f 64 20 [some (.int (nI a)), some (.int (nI b)), some (.int (nI lb)), some (.int (nI (k + j - 1))), some (.int (nI B)), some (.int (nI k))] [] h = some (some (.int (nI (B + ovr a b lb j k))), h) := by
  intro j
  induction j with
  | zero =>
    intro k B f hk hkj hB hf
    obtain ⟨f, rfl⟩ : ∃ e, f = e + 1 := ⟨f - 1, by omega⟩
    rw [e_X8_overlapBits_at20, pn_lt (by omega) (by omega), pn_t (by omega)]
    rfl
  | succ j ih =>
    intro k B f hk hkj hB hf
    obtain ⟨f, rfl⟩ : ∃ e, f = e + 1 := ⟨f - 1, by omega⟩
    rw [e_X8_overlapBits_at20, pn_lt (by omega) (by omega), pn_f (by omega), s_tens hd h (by omega), pn_c1]
    have h10 := p10_lt (k := k) (by omega)
    have h11 := p10_lt (k := lb - k) (by omega)
    rw [show (0 : Int32) = nI 0 from rfl, pn_eq h10 (by decide), pn_f (by have := p10_pos k; omega), pn_sub (by omega), s_tens hd h (by omega), pn_c1, pn_eq h11 (by decide), pn_f (by have := p10_pos (lb - k); omega)]
    rw [pk_rem ha (p10_pos k) h10, pk_div hb (p10_pos _) h11]
    have hm : a % 10 ^ k < 2 ^ 31 := Nat.lt_of_le_of_lt (Nat.mod_le _ _) ha
    have hq : b / 10 ^ (lb - k) < 2 ^ 31 := Nat.lt_of_le_of_lt (Nat.div_le_self _ _) hb
    rw [pn_ne hm hq]
    simp only [ovr]
    have e1 : nI k + 1 = nI (k + 1) := nI_1 k
    have e2 : k + (j + 1) - 1 = k + 1 + j - 1 := by omega
    by_cases hc : a % 10 ^ k = b / 10 ^ (lb - k)
    · rw [pn_f (by simpa using hc), if_pos hc]
      have eb := ov_bit (k - 1) (by omega) B hB
      rw [show k - 1 + 1 = k by omega] at eb
      rw [eb, e1, e2, ih (k + 1) (B + 2 ^ (k - 1)) f (by omega) (by omega) (by
        rw [show k + 1 - 1 = (k - 1) + 1 by omega, Nat.pow_succ]; omega) (by omega)]
      rw [Nat.add_assoc]
    · rw [pn_t hc, if_neg hc, e1, e2, ih (k + 1) B f (by omega) (by omega) (by
        rw [show k + 1 - 1 = (k - 1) + 1 by omega, Nat.pow_succ]; omega) (by omega)]
      rw [Nat.zero_add]
theorem s_overlap {d : Nat} (hd : 2 ≤ d) (h : zm_H) {a b : Nat} (ha : a < 2 ^ 31) (hb : b < 2 ^ 31) : zC d 64 [.int (nI a), .int (nI b)] h = some (some (.int (nI (ov a b))), h) := by
  obtain ⟨d, rfl⟩ : ∃ e, d = e + 1 := ⟨d - 1, by omega⟩
  have la := wl_le a
  have lb := wl_le b
  rw [e_X8_overlapBits, s_length (by omega) h hb, pn_c1, s_length (by omega) h ha, pn_c1]
  have hm : (if nI (wl b) < nI (wl a) then nI (wl b) else nI (wl a)) = nI (1 + min (wl a) (wl b) - 1) := by
    by_cases q : wl b < wl a
    · rw [if_pos ((nI_ltI (by omega) (by omega)).mpr q), Nat.min_eq_right (by omega)]
      congr 1; omega
    · rw [if_neg (fun z => q ((nI_ltI (by omega) (by omega)).mp z)), Nat.min_eq_left (by omega)]
      congr 1; omega
  rw [hm, show (0 : Int32) = nI 0 from rfl, show (1 : Int32) = nI 1 from rfl]
  rw [s_ovLoop d (by omega) h ha hb lb (min (wl a) (wl b)) 1 0 10000000 (by omega) (by have := Nat.min_le_right (wl a) (wl b); omega) (by decide) (by have := Nat.min_le_right (wl a) (wl b); omega)]
  rw [Nat.zero_add]
  rfl
theorem ovr_lt (a b lb : Nat) : ∀ j k : Nat, 1 ≤ k → ovr a b lb j k + 2 ^ (k - 1) ≤ 2 ^ (k - 1 + j)
  | 0, k, _ => by simp [ovr]
  | j + 1, k, hk => by
    have := ovr_lt a b lb j (k + 1) (by omega)
    rw [show k + 1 - 1 = (k - 1) + 1 by omega, show k - 1 + 1 + j = k - 1 + (j + 1) by omega, Nat.pow_succ] at this
    simp only [ovr]
    split <;> omega
theorem ov_lt (a b : Nat) : ov a b < 32 := by
  have h := ovr_lt a b (wl b) (min (wl a) (wl b)) 1 (by omega)
  have h2 : 2 ^ (1 - 1 + min (wl a) (wl b)) ≤ 2 ^ 5 := Nat.pow_le_pow_right (by omega) (by have := Nat.min_le_right (wl a) (wl b); have := wl_le b; omega)
  unfold ov
  omega
/-- the number of bits -/
def nbr (s B : Nat) : Nat → Nat → Nat
  | 0, _ => 0
  | j + 1, k => (if B / 2 ^ k % 2 = 1 then s ^ (k + 1) else 0) + nbr s B j (k + 1)
def nb (s B : Nat) : Nat := nbr s B 5 0
theorem nb_bit : ∀ B, B < 32 → ∀ k, k < 5 → (((nI B >>> (nI k &&& 31)) &&& 1) = 1 ↔ B / 2 ^ k % 2 = 1) := by decide
theorem s_numLoop (d : Nat) (h : zm_H) {a b : Int32} {s B : Nat} (hB : B < 32) : ∀ (j k m f : Nat), k + j = 5 → j < f → zR d f 65 15 [some (.int a), some (.int b), some (.int (nI s)), some (.int (nI B)), some (.int (nI (s ^ k))), some (.int (nI m)), some (.int (nI k))] [] h = some (some (.int (nI (m + nbr s B j k))), h) := by
  intro j
  induction j with
  | zero =>
    intro k m f hk hf
    obtain ⟨f, rfl⟩ : ∃ e, f = e + 1 := ⟨f - 1, by omega⟩
    rw [e_X8_numberOn_at15, show (5 : Int32) = nI 5 from rfl, pn_le (by decide) (by omega), pn_t (by omega)]
    rfl
  | succ j ih =>
    intro k m f hk hf
    obtain ⟨f, rfl⟩ : ∃ e, f = e + 1 := ⟨f - 1, by omega⟩
    rw [e_X8_numberOn_at15, show (5 : Int32) = nI 5 from rfl, pn_le (by decide) (by omega), pn_f (by omega)]
    rw [pk_mul, show s ^ k * s = s ^ (k + 1) from (Nat.pow_succ s k).symm, nI_1 k, nI_add]
    have hb := nb_bit B hB k (by omega)
    simp only [nbr]
    by_cases hc : B / 2 ^ k % 2 = 1
    · rw [pn_f (by simpa using hb.mpr hc), if_pos hc, ih (k + 1) (m + s ^ (k + 1)) f (by omega) (by omega), Nat.add_assoc]
    · rw [pn_t (fun q => hc (hb.mp q)), if_neg hc, ih (k + 1) m f (by omega) (by omega), Nat.zero_add]
theorem s_number {d : Nat} (hd : 3 ≤ d) (h : zm_H) {a b s : Nat} (ha : a < 2 ^ 31) (hb : b < 2 ^ 31) : zC d 65 [.int (nI a), .int (nI b), .int (nI s)] h = some (some (.int (nI (nb s (ov a b)))), h) := by
  obtain ⟨d, rfl⟩ : ∃ e, d = e + 1 := ⟨d - 1, by omega⟩
  rw [e_X8_numberOn, s_overlap (by omega) h ha hb, pn_c1, show (1 : Int32) = nI (s ^ 0) from rfl, show (0 : Int32) = nI 0 from rfl]
  rw [s_numLoop d h (ov_lt a b) 5 0 0 10000000 rfl (by omega), Nat.zero_add]
  rfl
