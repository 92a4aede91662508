/-! whether one stands in the other -/
def inr (a b la : Nat) : Nat → Nat → Bool
  | 0, _ => false
  | j + 1, k => if b / 10 ^ k % 10 ^ la = a then true else inr a b la j (k + 1)
/-- a stands in b -/
def inn (a b : Nat) : Bool := inr a b (wl a) (wl b + 1 - wl a) 0
def b01 (b : Bool) : Int32 := if b then 1 else 0
theorem s_standsLoop (d : Nat) (hd : 1 ≤ d) (h : zm_H) {a b la : Nat} (ha : a < 2 ^ 31) (hb : b < 2 ^ 31) (hla : la ≤ 5) : ∀ (j k f : Nat), k + j ≤ 6 → 1 ≤ k + j → j < f → zR d f 66 21 [some (.int (nI a)), some (.int (nI b)), some (.int (nI (10 ^ la))), some (.int (nI (k + j - 1))), some (.int (nI k))] [] h = some (some (.int (b01 (inr a b la j k))), h) := by
  intro j
  induction j with
  | zero =>
    intro k f hk hk1 hf
    obtain ⟨f, rfl⟩ : ∃ e, f = e + 1 := ⟨f - 1, by omega⟩
    rw [e_X8_standsIn_at21, pn_lt (by omega) (by omega), pn_t (by omega)]
    rfl
  | succ j ih =>
    intro k f hk hk1 hf
    obtain ⟨f, rfl⟩ : ∃ e, f = e + 1 := ⟨f - 1, by omega⟩
    have h10 := p10_lt (k := k) (by omega)
    have h11 := p10_lt (k := la) (by omega)
    rw [e_X8_standsIn_at21, pn_lt (by omega) (by omega), pn_f (by omega), s_tens hd h (by omega), pn_c1, show (0 : Int32) = nI 0 from rfl, pn_eq h10 (by decide), pn_f (by have := p10_pos k; omega), pn_eq h11 (by decide), pn_f (by have := p10_pos la; omega)]
    rw [pk_div hb (p10_pos k) h10]
    have hq : b / 10 ^ k < 2 ^ 31 := Nat.lt_of_le_of_lt (Nat.div_le_self _ _) hb
    rw [pk_rem hq (p10_pos la) h11]
    have hm : b / 10 ^ k % 10 ^ la < 2 ^ 31 := Nat.lt_of_le_of_lt (Nat.mod_le _ _) hq
    rw [pn_ne hm ha]
    simp only [inr]
    by_cases hc : b / 10 ^ k % 10 ^ la = a
    · rw [pn_f (by simpa using hc), if_pos hc]; rfl
    · rw [pn_t hc, if_neg hc, nI_1 k, show k + (j + 1) - 1 = k + 1 + j - 1 by omega, ih (k + 1) f (by omega) (by omega) (by omega)]
theorem s_stands {d : Nat} (hd : 2 ≤ d) (h : zm_H) {a b : Nat} (ha : a < 2 ^ 31) (hb : b < 2 ^ 31) : zC d 66 [.int (nI a), .int (nI b)] h = some (some (.int (b01 (inn a b))), h) := by
  obtain ⟨d, rfl⟩ : ∃ e, d = e + 1 := ⟨d - 1, by omega⟩
  have la := wl_le a
  have lb := wl_le b
  rw [e_X8_standsIn, s_length (by omega) h ha, pn_c1, s_tens (by omega) h la, pn_c1, s_length (by omega) h hb, pn_c1, s_length (by omega) h ha, pn_c1]
  unfold inn
  by_cases hc : wl a ≤ wl b
  · rw [pn_sub hc, show (0 : Int32) = nI 0 from rfl, show wl b - wl a = 0 + (wl b + 1 - wl a) - 1 by omega, s_standsLoop d (by omega) h ha hb la (wl b + 1 - wl a) 0 10000000 (by omega) (by omega) (by omega)]
  · obtain ⟨f, hf⟩ : ∃ f, 10000000 = f + 1 := ⟨9999999, rfl⟩
    rw [hf, e_X8_standsIn_at21, pn_t (pk_sneg (by omega) (by omega)), show wl b + 1 - wl a = 0 by omega]
    rfl
theorem s_clash {d : Nat} (hd : 3 ≤ d) (h : zm_H) {a b : Nat} (ha : a < 2 ^ 31) (hb : b < 2 ^ 31) : zC d 67 [.int (nI a), .int (nI b)] h = some (some (.int (b01 (inn a b || inn b a))), h) := by
  obtain ⟨d, rfl⟩ : ∃ e, d = e + 1 := ⟨d - 1, by omega⟩
  rw [e_X8_clash, s_stands (by omega) h ha hb, pn_c1]
  cases h1 : inn a b with
  | true => rfl
  | false =>
    rw [show (decide (¬ b01 false = 0)) = false from rfl, cond_false, s_stands (by omega) h hb ha, pn_c1]
    cases h2 : inn b a <;> rfl
/-! the reference's -/
theorem r_tenLoop (d : Nat) (h : zm_H) : ∀ (j i f : Nat), j < f → i + j ≤ 9 → zR d f 129 4 [some (.int (nI (i + j))), some (.int (nI (10 ^ i))), some (.int (nI i))] [] h = some (some (.int (nI (10 ^ (i + j)))), h) := by
  intro j
  induction j with
  | zero =>
    intro i f hf hi
    obtain ⟨f, rfl⟩ : ∃ e, f = e + 1 := ⟨f - 1, by omega⟩
    rw [e_X10_ten_at4, pn_le (by omega) (by omega), pn_t (by omega)]
    rfl
  | succ j ih =>
    intro i f hf hi
    obtain ⟨f, rfl⟩ : ∃ e, f = e + 1 := ⟨f - 1, by omega⟩
    rw [e_X10_ten_at4, pn_le (by omega) (by omega), pn_f (by omega), show (10 : Int32) = nI 10 from rfl, pk_mul, ← Nat.pow_succ, nI_1 i, show i + (j + 1) = (i + 1) + j by omega, ih (i + 1) f (by omega) (by omega)]
theorem r_ten {d : Nat} (hd : 1 ≤ d) (h : zm_H) {k : Nat} (hk : k ≤ 9) : zC d 129 [.int (nI k)] h = some (some (.int (nI (10 ^ k))), h) := by
  obtain ⟨d, rfl⟩ : ∃ e, d = e + 1 := ⟨d - 1, by omega⟩
  rw [e_X10_ten, show (1 : Int32) = nI (10 ^ 0) from rfl, show (0 : Int32) = nI 0 from rfl]
  have := r_tenLoop d h k 0 10000000 (by omega) (by omega)
  rw [Nat.zero_add] at this
  exact this
theorem r_sizeLoop (d : Nat) (h : zm_H) (a : Int32) : ∀ (g f n w : Nat), g < f → w < 2 ^ 31 → w < 10 ^ g → zR d f 130 4 [some (.int a), some (.int (nI n)), some (.int (nI w))] [] h = some (some (.int (nI (n + dl g w))), h) := by
  intro g
  induction g with
  | zero =>
    intro f n w hf hw h10
    obtain ⟨f, rfl⟩ : ∃ e, f = e + 1 := ⟨f - 1, by omega⟩
    have : w = 0 := by omega
    subst this
    rw [e_X10_sizeOf_at4]
    rfl
  | succ g ih =>
    intro f n w hf hw h10
    obtain ⟨f, rfl⟩ : ∃ e, f = e + 1 := ⟨f - 1, by omega⟩
    rw [e_X10_sizeOf_at4, show (0 : Int32) = nI 0 from rfl, pn_le hw (by decide)]
    simp only [dl]
    by_cases h0 : w = 0
    · rw [pn_t (by omega), if_pos h0]; rfl
    · rw [pn_f (by omega), if_neg h0, nI_1 n, show (10 : Int32) = nI 10 from rfl, pk_div hw (by decide) (by decide), ih f (n + 1) (w / 10) (by omega) (by omega) (by rw [Nat.pow_succ] at h10; omega)]
      rw [show n + 1 + dl g (w / 10) = n + (dl g (w / 10) + 1) by omega]
theorem r_size {d : Nat} (hd : 1 ≤ d) (h : zm_H) {w : Nat} (hw : w < 2 ^ 31) : zC d 130 [.int (nI w)] h = some (some (.int (nI (dl 10 w))), h) := by
  obtain ⟨d, rfl⟩ : ∃ e, d = e + 1 := ⟨d - 1, by omega⟩
  rw [e_X10_sizeOf, show (0 : Int32) = nI 0 from rfl, r_sizeLoop d h _ 10 10000000 0 w (by omega) hw (by omega), Nat.zero_add]
theorem r_sizeW {d : Nat} (hd : 1 ≤ d) (h : zm_H) {w : Nat} (hw : w < 100000) : zC d 130 [.int (nI w)] h = some (some (.int (nI (wl w))), h) := by
  rw [r_size hd h (by omega), dl_wl 10 w hw (by omega)]
theorem r_ovLoop (d : Nat) (hd : 1 ≤ d) (h : zm_H) {a b lb : Nat} (ha : a < 2 ^ 31) (hb : b < 2 ^ 31) (hlb : lb ≤ 5) : ∀ (j k B f : Nat), 1 ≤ k → k + j ≤ lb + 1 → B < 2 ^ (k - 1) → j < f → zR d f 135 20 [some (.int (nI a)), some (.int (nI b)), some (.int (nI B)), some (.int (nI lb)), some (.int (nI (k + j - 1))), some (.int (nI k))] [] h = some (some (.int (nI (B + ovr a b lb j k))), h) := by
  intro j
  induction j with
  | zero =>
    intro k B f hk hkj hB hf
    obtain ⟨f, rfl⟩ : ∃ e, f = e + 1 := ⟨f - 1, by omega⟩
    rw [e_X10_overlap_at20, pn_lt (by omega) (by omega), pn_t (by omega)]
    rfl
  | succ j ih =>
    intro k B f hk hkj hB hf
    obtain ⟨f, rfl⟩ : ∃ e, f = e + 1 := ⟨f - 1, by omega⟩
    rw [e_X10_overlap_at20, pn_lt (by omega) (by omega), pn_f (by omega), r_ten hd h (by omega), pn_c1]
    have h10 := p10_lt (k := k) (by omega)
    have h11 := p10_lt (k := lb - k) (by omega)
    rw [show (0 : Int32) = nI 0 from rfl, pn_eq h10 (by decide), pn_f (by have := p10_pos k; omega), pn_sub (by omega), r_ten hd h (by omega), pn_c1, pn_eq h11 (by decide), pn_f (by have := p10_pos (lb - k); omega)]
    rw [pk_rem ha (p10_pos k) h10, pk_div hb (p10_pos _) h11]
    have hm : a % 10 ^ k < 2 ^ 31 := Nat.lt_of_le_of_lt (Nat.mod_le _ _) ha
    have hq : b / 10 ^ (lb - k) < 2 ^ 31 := Nat.lt_of_le_of_lt (Nat.div_le_self _ _) hb
    rw [pn_ne hm hq]
    simp only [ovr]
    have e1 : nI k + 1 = nI (k + 1) := nI_1 k
    have e2 : k + (j + 1) - 1 = k + 1 + j - 1 := by omega
    by_cases hc : a % 10 ^ k = b / 10 ^ (lb - k)
    · rw [pn_f (by simpa using hc), if_pos hc]
      have eb := ov_bit (k - 1) (by omega) B hB
      rw [show k - 1 + 1 = k by omega] at eb
      rw [eb, e1, e2, ih (k + 1) (B + 2 ^ (k - 1)) f (by omega) (by omega) (by
        rw [show k + 1 - 1 = (k - 1) + 1 by omega, Nat.pow_succ]; omega) (by omega)]
      rw [Nat.add_assoc]
    · rw [pn_t hc, if_neg hc, e1, e2, ih (k + 1) B f (by omega) (by omega) (by
        rw [show k + 1 - 1 = (k - 1) + 1 by omega, Nat.pow_succ]; omega) (by omega)]
      rw [Nat.zero_add]
theorem r_overlap {d : Nat} (hd : 2 ≤ d) (h : zm_H) {a b : Nat} (ha : a < 100000) (hb : b < 100000) : zC d 135 [.int (nI a), .int (nI b)] h = some (some (.int (nI (ov a b))), h) := by
  obtain ⟨d, rfl⟩ : ∃ e, d = e + 1 := ⟨d - 1, by omega⟩
  have la := wl_le a
  have lb := wl_le b
  rw [e_X10_overlap, r_sizeW (by omega) h hb, pn_c1, r_sizeW (by omega) h ha, pn_c1]
  have hm : (if nI (wl b) < nI (wl a) then nI (wl b) else nI (wl a)) = nI (1 + min (wl a) (wl b) - 1) := by
    by_cases q : wl b < wl a
    · rw [if_pos ((nI_ltI (by omega) (by omega)).mpr q), Nat.min_eq_right (by omega)]
      congr 1; omega
    · rw [if_neg (fun z => q ((nI_ltI (by omega) (by omega)).mp z)), Nat.min_eq_left (by omega)]
      congr 1; omega
  rw [hm, show (0 : Int32) = nI 0 from rfl, show (1 : Int32) = nI 1 from rfl]
  rw [r_ovLoop d (by omega) h (by omega) (by omega) lb (min (wl a) (wl b)) 1 0 10000000 (by omega) (by have := Nat.min_le_right (wl a) (wl b); omega) (by decide) (by have := Nat.min_le_right (wl a) (wl b); omega)]
  rw [Nat.zero_add]
  rfl
theorem r_numLoop (d : Nat) (t : List zm_E) (J : Nat → Int32) (B : Nat → Nat → Int32) (L : Nat → Nat → Int64) {a b : Int32} {s m0 : Nat} (hs : J 0 = nI s) (hB : m0 < 32) : ∀ (j k m f : Nat), k + j = 5 → j < f → zR d f 136 15 [some (.ref 1000), some (.int a), some (.int b), some (.int (nI m0)), some (.int (nI m)), some (.int (nI (s ^ k))), some (.int (nI k))] [] (t, hM J B L) = some (some (.int (nI (m + nbr s m0 j k))), (t, hM J B L)) := by
  intro j
  induction j with
  | zero =>
    intro k m f hk hf
    obtain ⟨f, rfl⟩ : ∃ e, f = e + 1 := ⟨f - 1, by omega⟩
    rw [e_X10_numberOf_at15, show (5 : Int32) = nI 5 from rfl, pn_le (by decide) (by omega), pn_t (by omega)]
    rfl
  | succ j ih =>
    intro k m f hk hf
    obtain ⟨f, rfl⟩ : ∃ e, f = e + 1 := ⟨f - 1, by omega⟩
    rw [e_X10_numberOf_at15, show (5 : Int32) = nI 5 from rfl, pn_le (by decide) (by omega), pn_f (by omega), hs]
    rw [pk_mul, show s ^ k * s = s ^ (k + 1) from (Nat.pow_succ s k).symm, nI_1 k, nI_add]
    have hb := nb_bit m0 hB k (by omega)
    simp only [nbr]
    by_cases hc : m0 / 2 ^ k % 2 = 1
    · rw [pn_f (by simpa using hb.mpr hc), if_pos hc, ih (k + 1) (m + s ^ (k + 1)) f (by omega) (by omega), Nat.add_assoc]
    · rw [pn_t (fun q => hc (hb.mp q)), if_neg hc, ih (k + 1) m f (by omega) (by omega), Nat.zero_add]
theorem r_number {d : Nat} (hd : 3 ≤ d) (t : List zm_E) (J : Nat → Int32) (B : Nat → Nat → Int32) (L : Nat → Nat → Int64) {a b s : Nat} (hs : J 0 = nI s) (ha : a < 100000) (hb : b < 100000) : zC d 136 [.ref 1000, .int (nI a), .int (nI b)] (t, hM J B L) = some (some (.int (nI (nb s (ov a b)))), (t, hM J B L)) := by
  obtain ⟨d, rfl⟩ : ∃ e, d = e + 1 := ⟨d - 1, by omega⟩
  rw [e_X10_numberOf, r_overlap (by omega) _ ha hb, pn_c1, show (1 : Int32) = nI (s ^ 0) from rfl, show (0 : Int32) = nI 0 from rfl]
  rw [r_numLoop d t J B L hs (ov_lt a b) 5 0 0 10000000 rfl (by omega), Nat.zero_add]
  rfl
