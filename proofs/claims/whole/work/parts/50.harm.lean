/-! sums; words that end in rows of letters; a harmonic function: no weights of the words of a field make it constant -/
def sm : Nat → (Nat → Int) → Int
  | 0, _ => 0
  | k + 1, f => sm k f + f k
theorem sm_add (f g : Nat → Int) : ∀ k, sm k (fun i => f i + g i) = sm k f + sm k g
  | 0 => rfl
  | k + 1 => by simp only [sm]; rw [sm_add f g k]; omega
theorem sm_mul (c : Int) (f : Nat → Int) : ∀ k, sm k (fun i => c * f i) = c * sm k f
  | 0 => by simp only [sm]; omega
  | k + 1 => by simp only [sm]; rw [sm_mul c f k, Int.mul_add]
theorem sm_eq {f g : Nat → Int} : ∀ k, (∀ i, i < k → f i = g i) → sm k f = sm k g
  | 0, _ => rfl
  | k + 1, h => by simp only [sm]; rw [sm_eq k (fun i hi => h i (by omega)), h k (by omega)]
theorem sm_neg (f : Nat → Int) : ∀ k, sm k (fun i => -f i) = -sm k f
  | 0 => rfl
  | k + 1 => by simp only [sm]; rw [sm_neg f k]; omega
theorem sm_one {f : Nat → Int} {j : Nat} : ∀ k, j < k → (∀ i, i < k → i ≠ j → f i = 0) → sm k f = f j
  | 0, h, _ => by omega
  | k + 1, h, h0 => by
    simp only [sm]
    by_cases e : j = k
    · subst e
      have : sm j f = sm j (fun _ => 0) := sm_eq j (fun i hi => h0 i (by omega) (by omega))
      have z : ∀ n, sm n (fun _ => 0) = 0 := fun n => by
        induction n with
        | zero => rfl
        | succ n ih => simp only [sm]; rw [ih]; rfl
      rw [this, z]
      omega
    · rw [sm_one k (by omega) (fun i hi hn => h0 i (by omega) hn), h0 k (by omega) (fun q => e q.symm)]
      omega
/-- over all letters -/
def sa (s : Nat) (f : Nat → Int) : Int := if s = 2 then f 1 + f 2 else f 1 + f 2 + f 3
theorem sa_add (s : Nat) (f g : Nat → Int) : sa s (fun a => f a + g a) = sa s f + sa s g := by
  simp only [sa]
  split <;> omega
theorem sa_mul (s : Nat) (c : Int) (f : Nat → Int) : sa s (fun a => c * f a) = c * sa s f := by
  unfold sa
  split
  · rw [Int.mul_add]
  · rw [Int.mul_add, Int.mul_add]
theorem sa_eq {s : Nat} {f g : Nat → Int} (hs : s = 2 ∨ s = 3) (h : ∀ a, 1 ≤ a → a ≤ s → f a = g a) : sa s f = sa s g := by
  unfold sa
  rcases hs with rfl | rfl
  · rw [if_pos rfl, if_pos rfl, h 1 (by omega) (by omega), h 2 (by omega) (by omega)]
  · rw [if_neg (by decide), if_neg (by decide), h 1 (by omega) (by omega), h 2 (by omega) (by omega), h 3 (by omega) (by omega)]
theorem sa_sm (s k : Nat) (f : Nat → Nat → Int) : sa s (fun a => sm k (f a)) = sm k (fun j => sa s (fun a => f a j)) := by
  unfold sa
  split
  · rw [sm_add]
  · rw [sm_add, sm_add]
theorem sa_pick {s d : Nat} {P : Prop} [Decidable P] {c : Int} (hs : s = 2 ∨ s = 3) (h1 : 1 ≤ d) (h2 : d ≤ s) : sa s (fun a => if P ∧ a = d then c else 0) = if P then c else 0 := by
  unfold sa
  by_cases p : P
  · rcases hs with rfl | rfl
    · have : d = 1 ∨ d = 2 := by omega
      rcases this with rfl | rfl <;> simp [p]
    · have : d = 1 ∨ d = 2 ∨ d = 3 := by omega
      rcases this with rfl | rfl | rfl <;> simp [p]
  · rcases hs with rfl | rfl <;> simp [p]
/-- how a row of letters goes on to a word -/
def gz (s T b : Nat) : Nat → Int
  | 0 => 0
  | m + 1 => gz s T b m + (if T % 10 ^ (m + 1) = b / 10 ^ (wl b - (m + 1)) then ((s ^ (m + 1) : Nat) : Int) else 0)
theorem nb_up2 : ∀ m, m < 5 → ∀ B, B < 2 ^ m → nb 2 (B + 2 ^ m) = nb 2 B + 2 ^ (m + 1) := by decide
theorem nb_up3 : ∀ m, m < 5 → ∀ B, B < 2 ^ m → nb 3 (B + 2 ^ m) = nb 3 B + 3 ^ (m + 1) := by decide
theorem nb_up1 {s : Nat} (hs : s = 2 ∨ s = 3) {m B : Nat} (hm : m < 5) (hB : B < 2 ^ m) : nb s (B + 2 ^ m) = nb s B + s ^ (m + 1) := by
  rcases hs with rfl | rfl
  · exact nb_up2 m hm B hB
  · exact nb_up3 m hm B hB
theorem gz_ov {s a b : Nat} (hs : s = 2 ∨ s = 3) : ∀ n, n ≤ 5 → ((nb s (ovr a b (wl b) n 1) : Nat) : Int) = gz s a b n
  | 0, _ => by
    simp only [ovr, gz]
    rcases hs with rfl | rfl <;> decide
  | n + 1, hn => by
    have ih := gz_ov (a := a) (b := b) hs n (by omega)
    have hl := ovr_lt a b (wl b) n 1 (by omega)
    rw [show 1 - 1 + n = n by omega] at hl
    have hl' : ovr a b (wl b) n 1 < 2 ^ n := by
      have := Nat.pow_pos (n := 1 - 1) (show 0 < 2 by omega)
      omega
    rw [ovr_last, show 1 + n = n + 1 by omega, show n + 1 - 1 = n by omega]
    simp only [gz]
    by_cases c : a % 10 ^ (n + 1) = b / 10 ^ (wl b - (n + 1))
    · rw [if_pos c, if_pos c, nb_up1 hs (by omega) hl', Int.natCast_add, ih]
    · rw [if_neg c, if_neg c, Nat.add_zero, ih, Int.add_zero]
theorem pre_ge {s b m : Nat} (hb : okw s b = true) (hm : m + 1 ≤ wl b) : 10 ^ m ≤ b / 10 ^ (wl b - (m + 1)) := by
  have := dg_div (wl b - (m + 1)) (m + 1) b (by rw [show m + 1 + (wl b - (m + 1)) = wl b by omega]; exact okw_dg hb)
  exact dg_ge m _ this
theorem gz_hi {s b T l : Nat} (hb : okw s b = true) (hT : T < 10 ^ l) : ∀ j, l + j ≤ wl b → gz s T b (l + j) = gz s T b l
  | 0, _ => rfl
  | j + 1, h => by
    have hp := pre_ge hb (m := l + j) (by omega)
    have h1 : 10 ^ l ≤ 10 ^ (l + j) := Nat.pow_le_pow_right (by omega) (by omega)
    have h2 : T % 10 ^ (l + j + 1) ≤ T := Nat.mod_le _ _
    rw [show l + (j + 1) = l + j + 1 from rfl, gz, gz_hi hb hT j (by omega), if_neg (by omega), Int.add_zero]
theorem gz_nb {s a b : Nat} (hs : s = 2 ∨ s = 3) (ha : a < 100000) (hb : okw s b = true) : ((nb s (ov a b) : Nat) : Int) = gz s a b (wl b) := by
  have la := wl_le a
  have lb := wl_le b
  unfold ov
  by_cases q : wl a ≤ wl b
  · rw [Nat.min_eq_left q, gz_ov hs _ (by omega)]
    have := gz_hi (s := s) (l := wl a) hb (wl_lt ha) (wl b - wl a) (by omega)
    rw [show wl a + (wl b - wl a) = wl b by omega] at this
    exact this.symm
  · rw [Nat.min_eq_right (by omega), gz_ov hs _ (by omega)]
theorem mod10 (T a m : Nat) (ha : a < 10) : (T * 10 + a) % 10 ^ (m + 1) = T % 10 ^ m * 10 + a := by
  rw [Nat.pow_succ, Nat.mul_comm (10 ^ m) 10, Nat.mod_mul, show (T * 10 + a) % 10 = a by omega, show (T * 10 + a) / 10 = T by omega]
  omega
theorem cnd_s {s T a b m : Nat} (hb : okw s b = true) (hm : m + 1 ≤ wl b) (ha : a < 10) : (T * 10 + a) % 10 ^ (m + 1) = b / 10 ^ (wl b - (m + 1)) ↔ T % 10 ^ m = b / 10 ^ (wl b - m) ∧ a = b / 10 ^ (wl b - (m + 1)) % 10 := by
  have e : b / 10 ^ (wl b - m) = b / 10 ^ (wl b - (m + 1)) / 10 := by
    rw [Nat.div_div_eq_div_mul, ← Nat.pow_succ, show (wl b - (m + 1)).succ = wl b - m by omega]
  rw [mod10 T a m ha, e]
  omega
theorem pre_dig {s b m : Nat} (hb : okw s b = true) (hm : m + 1 ≤ wl b) : 1 ≤ b / 10 ^ (wl b - (m + 1)) % 10 ∧ b / 10 ^ (wl b - (m + 1)) % 10 ≤ s := by
  have := dg_div (wl b - (m + 1)) (m + 1) b (by rw [show m + 1 + (wl b - (m + 1)) = wl b by omega]; exact okw_dg hb)
  exact this.2
/-- over all letters that may come next -/
theorem gz_step {s T b : Nat} (hs : s = 2 ∨ s = 3) (hb : okw s b = true) : ∀ m, m + 1 ≤ wl b → sa s (fun a => gz s (T * 10 + a) b (m + 1)) = (s : Int) * (1 + gz s T b m) := by
  have h0 : (T % 10 ^ 0 = b / 10 ^ (wl b - 0)) := by
    rw [Nat.pow_zero, Nat.mod_one, Nat.sub_zero, Nat.div_eq_of_lt (wl_lt (okw_lt hb).2)]
  have pk : ∀ m, m + 1 ≤ wl b → sa s (fun a => if (T * 10 + a) % 10 ^ (m + 1) = b / 10 ^ (wl b - (m + 1)) then ((s ^ (m + 1) : Nat) : Int) else 0) = if T % 10 ^ m = b / 10 ^ (wl b - m) then ((s ^ (m + 1) : Nat) : Int) else 0 := fun m hm => by
    have hd := pre_dig hb hm
    rw [← sa_pick (P := T % 10 ^ m = b / 10 ^ (wl b - m)) (c := ((s ^ (m + 1) : Nat) : Int)) hs hd.1 hd.2]
    apply sa_eq hs
    intro a a1 a2
    have := cnd_s (T := T) (a := a) hb hm (by omega)
    by_cases c : (T * 10 + a) % 10 ^ (m + 1) = b / 10 ^ (wl b - (m + 1))
    · rw [if_pos c, if_pos (this.mp c)]
    · rw [if_neg c, if_neg (fun q => c (this.mpr q))]
  intro m
  induction m with
  | zero =>
    intro hm
    have := pk 0 hm
    simp only [gz]
    rw [sa_add, this, if_pos h0, Nat.zero_add, Nat.pow_one]
    have z : sa s (fun _ => (0 : Int)) = 0 := by unfold sa; split <;> rfl
    rw [z]
    omega
  | succ m ih =>
    intro hm
    have h1 := ih (by omega)
    have h2 := pk (m + 1) hm
    have e : sa s (fun a => gz s (T * 10 + a) b (m + 1 + 1)) = sa s (fun a => gz s (T * 10 + a) b (m + 1)) + sa s (fun a => if (T * 10 + a) % 10 ^ (m + 1 + 1) = b / 10 ^ (wl b - (m + 1 + 1)) then ((s ^ (m + 1 + 1) : Nat) : Int) else 0) := sa_add s _ _
    rw [e, h1, h2, show gz s T b (m + 1) = gz s T b m + (if T % 10 ^ (m + 1) = b / 10 ^ (wl b - (m + 1)) then ((s ^ (m + 1) : Nat) : Int) else 0) from rfl]
    by_cases c : T % 10 ^ (m + 1) = b / 10 ^ (wl b - (m + 1))
    · rw [if_pos c, if_pos c, Nat.pow_succ s (m + 1), Int.natCast_mul, ← Int.add_assoc, Int.mul_add (s : Int), Int.mul_comm ((s ^ (m + 1) : Nat) : Int)]
      simp only [Int.mul_add]
    · rw [if_neg c, if_neg c, Int.add_zero, Int.add_zero]
def Fz (s k : Nat) (w : Nat → Nat) (y : Nat → Int) (T : Nat) : Int := sm k (fun j => y j * gz s T (w j) (wl (w j)))
/-- no word ends here -/
def opn (k : Nat) (w : Nat → Nat) (T : Nat) : Prop := ∀ j, j < k → T % 10 ^ wl (w j) ≠ w j
def apt (k : Nat) (w : Nat → Nat) : Prop := ∀ i j, i < k → j < k → i ≠ j → inn (w i) (w j) = false
section HZ
variable {s k : Nat} {w : Nat → Nat} {y : Nat → Int}
theorem gz_open {T b : Nat} (hb : okw s b = true) (h : T % 10 ^ wl b ≠ b) : gz s T b (wl b) = gz s T b (wl b - 1) := by
  have lp := wl_pos (okw_lt hb).1
  obtain ⟨g, hg⟩ : ∃ g, wl b = g + 1 := ⟨wl b - 1, by omega⟩
  rw [hg, Nat.add_sub_cancel, gz, if_neg (by rw [hg, Nat.sub_self, Nat.pow_zero, Nat.div_one, ← hg]; exact h), Int.add_zero]
theorem Fz_harm (hs : s = 2 ∨ s = 3) (hw : ∀ i, i < k → okw s (w i) = true) {T : Nat} (h : opn k w T) : sa s (fun a => Fz s k w y (T * 10 + a)) = (s : Int) * (sm k y + Fz s k w y T) := by
  unfold Fz
  rw [sa_sm s k (fun a j => y j * gz s (T * 10 + a) (w j) (wl (w j))), ← sm_add, ← sm_mul]
  apply sm_eq
  intro j hj
  have lp := wl_pos (okw_lt (hw j hj)).1
  have e := gz_step (T := T) hs (hw j hj) (wl (w j) - 1) (by omega)
  rw [show wl (w j) - 1 + 1 = wl (w j) by omega] at e
  rw [sa_mul s (y j) (fun a => gz s (T * 10 + a) (w j) (wl (w j))), e, gz_open (hw j hj) (h j hj)]
  rw [Int.mul_comm (y j), Int.mul_assoc, Int.add_mul, Int.one_mul, Int.mul_comm (y j)]
theorem gz_congr {T U b : Nat} : ∀ m, (∀ i, i < m → (T % 10 ^ (i + 1) = b / 10 ^ (wl b - (i + 1)) ↔ U % 10 ^ (i + 1) = b / 10 ^ (wl b - (i + 1)))) → gz s T b m = gz s U b m
  | 0, _ => rfl
  | m + 1, h => by
    simp only [gz]
    rw [gz_congr m (fun i hi => h i (by omega))]
    have := h m (by omega)
    by_cases c : T % 10 ^ (m + 1) = b / 10 ^ (wl b - (m + 1))
    · rw [if_pos c, if_pos (this.mp c)]
    · rw [if_neg c, if_neg (fun q => c (this.mpr q))]
theorem mod_mod10 (T : Nat) {i l : Nat} (h : i ≤ l) : T % 10 ^ l % 10 ^ i = T % 10 ^ i := Nat.mod_mod_of_dvd T (Nat.pow_dvd_pow 10 h)
theorem inn_of {a b i : Nat} (h : b / 10 ^ i % 10 ^ wl a = a) (hi : i + wl a ≤ wl b) : inn a b = true := by
  unfold inn
  rw [inr_iff]
  exact ⟨i, by omega, by omega, h⟩
/-- where a word ends, the row counts like the word -/
theorem gz_end (hw : ∀ i, i < k → okw s (w i) = true) (ha : apt k w) {T i j : Nat} (hi : i < k) (hj : j < k) (h : T % 10 ^ wl (w i) = w i) : gz s T (w j) (wl (w j)) = gz s (w i) (w j) (wl (w j)) := by
  have li := wl_lt (okw_lt (hw i hi)).2
  apply gz_congr
  intro m hm
  by_cases c : m + 1 ≤ wl (w i)
  · rw [← mod_mod10 T c, h]
  · have hp := pre_ge (hw j hj) (m := m) (by omega)
    have h1 : 10 ^ wl (w i) ≤ 10 ^ m := Nat.pow_le_pow_right (by omega) (by omega)
    have h2 : w i % 10 ^ (m + 1) ≤ w i := Nat.mod_le _ _
    constructor
    · intro q
      exfalso
      have e : i ≠ j := fun e => by rw [e] at c; omega
      have : inn (w i) (w j) = true := inn_of (i := wl (w j) - (m + 1)) (by rw [← q, mod_mod10 T (by omega)]; exact h) (by omega)
      rw [ha i j hi hj e] at this
      cases this
    · intro q; omega
theorem Fz_end (hw : ∀ i, i < k → okw s (w i) = true) (ha : apt k w) {T i : Nat} (hi : i < k) (h : T % 10 ^ wl (w i) = w i) : Fz s k w y T = Fz s k w y (w i) := by
  unfold Fz
  apply sm_eq
  intro j hj
  rw [gz_end hw ha hi hj h]
theorem Fz_max (hs : s = 2 ∨ s = 3) (hw : ∀ i, i < k → okw s (w i) = true) (ha : apt k w) (hk : 0 < k) {c : Int} (h0 : sm k y = 0) (hc : ∀ i, i < k → Fz s k w y (w i) = c) : ∀ K : Nat, (∀ T, opn k w T → Fz s k w y T ≤ c + K) → ∀ T, opn k w T → Fz s k w y T ≤ c := by
  intro K
  induction K with
  | zero => intro h T hT; have := h T hT; omega
  | succ K ih =>
    intro h
    apply ih
    intro T hT
    rcases Int.lt_or_le (c + K) (Fz s k w y T) with q | q
    · exfalso
      have hw0 := hw 0 hk
      have hl := okw_lt hw0
      have up : ∀ U, Fz s k w y U ≤ c + (K + 1 : Nat) ∧ (Fz s k w y U = c + (K + 1 : Nat) → opn k w U) := fun U => by
        by_cases o : opn k w U
        · exact ⟨h U o, fun _ => o⟩
        · have : ∃ i, i < k ∧ U % 10 ^ wl (w i) = w i := by
            apply Classical.byContradiction
            intro n
            exact o (fun j hj e => n ⟨j, hj, e⟩)
          obtain ⟨i, hi, e⟩ := this
          rw [Fz_end hw ha hi e, hc i hi]
          exact ⟨by omega, fun e => by omega⟩
      have walk : ∀ n, n ≤ wl (w 0) → Fz s k w y (T * 10 ^ n + w 0 / 10 ^ (wl (w 0) - n)) = c + (K + 1 : Nat) := by
        intro n
        induction n with
        | zero =>
          intro _
          rw [Nat.pow_zero, Nat.mul_one, Nat.sub_zero, Nat.div_eq_of_lt (wl_lt hl.2), Nat.add_zero]
          have := h T hT
          omega
        | succ n ihn =>
          intro hn
          have e1 := ihn (by omega)
          have o1 := (up _).2 e1
          have hd := pre_dig hw0 hn
          generalize hU : T * 10 ^ n + w 0 / 10 ^ (wl (w 0) - n) = U at e1 o1
          have e2 : T * 10 ^ (n + 1) + w 0 / 10 ^ (wl (w 0) - (n + 1)) = U * 10 + w 0 / 10 ^ (wl (w 0) - (n + 1)) % 10 := by
            have e : w 0 / 10 ^ (wl (w 0) - n) = w 0 / 10 ^ (wl (w 0) - (n + 1)) / 10 := by
              rw [Nat.div_div_eq_div_mul, ← Nat.pow_succ, show (wl (w 0) - (n + 1)).succ = wl (w 0) - n by omega]
            rw [e] at hU
            rw [← hU, Nat.pow_succ, ← Nat.mul_assoc]
            omega
          rw [e2]
          have hh := Fz_harm (y := y) hs hw o1
          rw [h0, e1, Int.zero_add] at hh
          generalize w 0 / 10 ^ (wl (w 0) - (n + 1)) % 10 = a at hd
          have u1 := (up (U * 10 + 1)).1
          have u2 := (up (U * 10 + 2)).1
          have u3 := (up (U * 10 + 3)).1
          simp only [sa] at hh
          rcases hs with rfl | rfl
          · rw [if_pos rfl] at hh
            have : a = 1 ∨ a = 2 := by omega
            rcases this with rfl | rfl <;> omega
          · rw [if_neg (by decide)] at hh
            have : a = 1 ∨ a = 2 ∨ a = 3 := by omega
            rcases this with rfl | rfl | rfl <;> omega
      have e := walk (wl (w 0)) (Nat.le_refl _)
      have o := (up _).2 e 0 hk
      rw [Nat.sub_self, Nat.pow_zero, Nat.div_one] at o
      exact o (by rw [Nat.mul_comm, Nat.mul_add_mod, Nat.mod_eq_of_lt (wl_lt hl.2)])
    · exact q
theorem gz_bd (hs : s = 2 ∨ s = 3) (T b : Nat) : ∀ m, m ≤ 5 → 0 ≤ gz s T b m ∧ gz s T b m ≤ 243 * m
  | 0, _ => ⟨Int.le_refl _, Int.le_refl _⟩
  | m + 1, h => by
    have ih := gz_bd hs T b m (by omega)
    have := pow35 hs (show m < 5 by omega)
    simp only [gz]
    split <;> omega
theorem Fz_bd (hs : s = 2 ∨ s = 3) (c : Int) : ∀ k, ∃ K : Nat, ∀ T, Fz s k w y T ≤ c + K
  | 0 => ⟨(-c).toNat, fun T => by show (0 : Int) ≤ _; omega⟩
  | k + 1 => by
    obtain ⟨K, h⟩ := Fz_bd hs c k
    refine ⟨K + (y k).natAbs * 1215, fun T => ?_⟩
    have h1 := h T
    have hb := gz_bd hs T (w k) (wl (w k)) (wl_le _)
    have l5 := wl_le (w k)
    have h2 : y k * gz s T (w k) (wl (w k)) ≤ ((y k).natAbs : Int) * 1215 := by
      have a1 : y k * gz s T (w k) (wl (w k)) ≤ ((y k).natAbs : Int) * gz s T (w k) (wl (w k)) := Int.mul_le_mul_of_nonneg_right (by omega) hb.1
      have a2 : ((y k).natAbs : Int) * gz s T (w k) (wl (w k)) ≤ ((y k).natAbs : Int) * 1215 := Int.mul_le_mul_of_nonneg_left (by omega) (by omega)
      omega
    show Fz s k w y T + y k * gz s T (w k) (wl (w k)) ≤ _
    rw [Int.natCast_add, Int.natCast_mul]
    have : ((1215 : Nat) : Int) = 1215 := rfl
    rw [this]
    omega
theorem Fz_neg (T : Nat) : Fz s k w (fun j => -y j) T = -Fz s k w y T := by
  unfold Fz
  rw [← sm_neg]
  apply sm_eq
  intro j _
  rw [Int.neg_mul]
theorem Fz_const (hs : s = 2 ∨ s = 3) (hw : ∀ i, i < k → okw s (w i) = true) (ha : apt k w) (hk : 0 < k) {c : Int} (h0 : sm k y = 0) (hc : ∀ i, i < k → Fz s k w y (w i) = c) {T : Nat} (hT : opn k w T) : Fz s k w y T = c := by
  obtain ⟨K1, b1⟩ := Fz_bd (w := w) (y := y) hs c k
  obtain ⟨K2, b2⟩ := Fz_bd (w := w) (y := fun j => -y j) hs (-c) k
  have h1 := Fz_max hs hw ha hk h0 hc K1 (fun T _ => b1 T) T hT
  have h2 := Fz_max (y := fun j => -y j) (c := -c) hs hw ha hk (by rw [sm_neg, h0]; rfl) (fun i hi => by rw [Fz_neg, hc i hi]) K2 (fun T _ => b2 T) T hT
  rw [Fz_neg] at h2
  omega
theorem opn_0 (hw : ∀ i, i < k → okw s (w i) = true) : opn k w 0 := fun j hj => by
  rw [Nat.zero_mod]
  have := okw_lt (hw j hj)
  omega
theorem Fz_0 (hw : ∀ i, i < k → okw s (w i) = true) : Fz s k w y 0 = 0 := by
  have : Fz s k w y 0 = sm k (fun j => 0 * y j) := by
    unfold Fz
    apply sm_eq
    intro j hj
    have := gz_hi (s := s) (T := 0) (l := 0) (hw j hj) (by decide) (wl (w j)) (by omega)
    rw [Nat.zero_add] at this
    rw [this, show gz s 0 (w j) 0 = 0 from rfl, Int.mul_zero, Int.zero_mul]
  rw [this, sm_mul, Int.zero_mul]
/-- weights that make it constant are 0 -/
theorem Fz_zero (hs : s = 2 ∨ s = 3) (hw : ∀ i, i < k → okw s (w i) = true) (ha : apt k w) (hk : 0 < k) {c : Int} (h0 : sm k y = 0) (hc : ∀ i, i < k → Fz s k w y (w i) = c) : ∀ j, j < k → y j = 0 := by
  have c0 : c = 0 := by
    have := Fz_const hs hw ha hk h0 hc (opn_0 hw)
    rw [Fz_0 hw] at this
    exact this.symm
  subst c0
  intro j hj
  have hwj := hw j hj
  have hl := okw_lt hwj
  have lp := wl_pos hl.1
  have llt := wl_lt hl.2
  have lge := wl_ge hl.1
  -- the word without its first letter is open
  have hS : w j % 10 ^ (wl (w j) - 1) < 10 ^ (wl (w j) - 1) := Nat.mod_lt _ (p10_pos _)
  have hop : opn k w (w j % 10 ^ (wl (w j) - 1)) := fun i hi e => by
    by_cases c : wl (w i) ≤ wl (w j) - 1
    · rw [mod_mod10 _ c] at e
      have ne : i ≠ j := fun q => by rw [q] at c; omega
      have : inn (w i) (w j) = true := inn_of (i := 0) (by rw [Nat.pow_zero, Nat.div_one]; exact e) (by omega)
      rw [ha i j hi hj ne] at this
      cases this
    · have h1 : 10 ^ (wl (w j) - 1) ≤ 10 ^ (wl (w i) - 1) := Nat.pow_le_pow_right (by omega) (by omega)
      have h2 := wl_ge (okw_lt (hw i hi)).1
      have h3 := Nat.mod_le (w j % 10 ^ (wl (w j) - 1)) (10 ^ wl (w i))
      omega
  have e1 := Fz_const hs hw ha hk h0 hc hop
  have e2 := hc j hj
  have dif : Fz s k w y (w j) = Fz s k w y (w j % 10 ^ (wl (w j) - 1)) + y j * ((s ^ wl (w j) : Nat) : Int) := by
    have : Fz s k w y (w j) = sm k (fun i => y i * gz s (w j % 10 ^ (wl (w j) - 1)) (w i) (wl (w i)) + (if i = j then y j * ((s ^ wl (w j) : Nat) : Int) else 0)) := by
      unfold Fz
      apply sm_eq
      intro i hi
      by_cases e : i = j
      · subst e
        rw [if_pos rfl, ← Int.mul_add]
        congr 1
        obtain ⟨g, hg⟩ : ∃ g, wl (w i) = g + 1 := ⟨wl (w i) - 1, by omega⟩
        have hq : gz s (w i) (w i) g = gz s (w i % 10 ^ g) (w i) g := gz_congr g (fun m hm => by rw [mod_mod10 _ (show m + 1 ≤ g by omega)])
        rw [hg, Nat.add_sub_cancel]
        rw [hg, Nat.add_sub_cancel] at hS
        simp only [gz]
        rw [hg, Nat.sub_self, Nat.pow_zero, Nat.div_one, if_pos (by rw [← hg]; exact Nat.mod_eq_of_lt llt), if_neg (by
          have := Nat.mod_le (w i % 10 ^ g) (10 ^ (g + 1))
          rw [hg, Nat.add_sub_cancel] at lge
          omega), hq, Int.add_zero]
      · rw [if_neg e, Int.add_zero]
        congr 1
        apply gz_congr
        intro m hm
        by_cases c : m + 1 ≤ wl (w j) - 1
        · rw [mod_mod10 _ c]
        · have hp := pre_ge (hw i hi) (m := m) (by omega)
          have h1 : 10 ^ (wl (w j) - 1) ≤ 10 ^ m := Nat.pow_le_pow_right (by omega) (by omega)
          have h3 := Nat.mod_le (w j % 10 ^ (wl (w j) - 1)) (10 ^ (m + 1))
          constructor
          · intro q
            exfalso
            by_cases c2 : m + 1 = wl (w j)
            · rw [c2, Nat.mod_eq_of_lt llt] at q
              have : inn (w j) (w i) = true := inn_of (i := wl (w i) - wl (w j)) (by rw [← q, Nat.mod_eq_of_lt llt]) (by omega)
              rw [ha j i hj hi (fun q => e q.symm)] at this
              cases this
            · have h4 : 10 ^ wl (w j) ≤ 10 ^ m := Nat.pow_le_pow_right (by omega) (by omega)
              have h5 := Nat.mod_le (w j) (10 ^ (m + 1))
              omega
          · intro q; omega
    rw [this, sm_add]
    congr 1
    rw [sm_one k hj (fun i _ hn => if_neg hn), if_pos rfl]
  rw [e2, e1, Int.zero_add] at dif
  have hp : (0 : Int) < ((s ^ wl (w j) : Nat) : Int) := by
    have := Nat.pow_pos (n := wl (w j)) (show 0 < s by omega)
    omega
  rcases Int.mul_eq_zero.mp dif.symm with q | q
  · exact q
  · omega
end HZ
