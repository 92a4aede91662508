/-! tails of a strip: where words end, who ends first -/
def tl (l : Nat → Nat) : Nat → Nat
  | 0 => 0
  | i + 1 => tl l i % 10000 * 10 + l i
def en (l : Nat → Nat) (a P : Nat) : Bool := decide (tl l P % 10 ^ wl a = a)
theorem en_s {l : Nat → Nat} {a i : Nat} : decide ((tl l i % 10000 * 10 + l i) % 10 ^ wl a = a) = en l a (i + 1) := rfl
theorem tl_lt {l : Nat → Nat} {z : Nat} (hl : ∀ i, i < z → l i < 10) : ∀ i, i ≤ z → tl l i < 100000
  | 0, _ => by show 0 < 100000; omega
  | i + 1, h => by
    have := hl i (by omega)
    simp only [tl]
    omega
theorem p10_s (n x c : Nat) (hn : n < 5) (hc : c < 10) : (x % 10000 * 10 + c) % 10 ^ (n + 1) = x % 10 ^ n * 10 + c := by
  have h : n = 0 ∨ n = 1 ∨ n = 2 ∨ n = 3 ∨ n = 4 := by omega
  rcases h with rfl | rfl | rfl | rfl | rfl
  · show (x % 10000 * 10 + c) % 10 = x % 1 * 10 + c; omega
  · show (x % 10000 * 10 + c) % 100 = x % 10 * 10 + c; omega
  · show (x % 10000 * 10 + c) % 1000 = x % 100 * 10 + c; omega
  · show (x % 10000 * 10 + c) % 10000 = x % 1000 * 10 + c; omega
  · show (x % 10000 * 10 + c) % 100000 = x % 10000 * 10 + c; omega
theorem tl_dg {s : Nat} {l : Nat → Nat} : ∀ n P a, n ≤ 5 → dg s n a → (∀ i, i < P → l i < 10) → (tl l P % 10 ^ n = a ↔ n ≤ P ∧ ∀ k, k < n → l (P - 1 - k) = a / 10 ^ k % 10)
  | 0, P, a, _, h, _ => by
    have h : a = 0 := h
    subst h
    rw [Nat.pow_zero, Nat.mod_one]
    exact ⟨fun _ => ⟨by omega, fun k hk => by omega⟩, fun _ => rfl⟩
  | n + 1, 0, a, _, h, _ => by
    have h1 := h.2
    simp only [tl]
    rw [Nat.zero_mod]
    constructor
    · intro q; omega
    · rintro ⟨q, -⟩; omega
  | n + 1, P + 1, a, hn, h, hl => by
    have h1 := h.2
    have ih := tl_dg n P (a / 10) (by omega) h.1 (fun i hi => hl i (by omega))
    have hc := hl P (by omega)
    simp only [tl]
    rw [p10_s n _ _ (by omega) hc]
    have e : tl l P % 10 ^ n * 10 + l P = a ↔ tl l P % 10 ^ n = a / 10 ∧ l P = a % 10 := by omega
    rw [e, ih]
    constructor
    · rintro ⟨⟨q1, q2⟩, q3⟩
      refine ⟨by omega, fun k hk => ?_⟩
      cases k with
      | zero => simpa using q3
      | succ k =>
        have := q2 k (by omega)
        rw [Nat.div_div_eq_div_mul, ← Nat.pow_succ'] at this
        rw [show P + 1 - 1 - (k + 1) = P - 1 - k by omega]
        exact this
    · rintro ⟨q1, q2⟩
      refine ⟨⟨by omega, fun k hk => ?_⟩, ?_⟩
      · have := q2 (k + 1) (by omega)
        rw [show P + 1 - 1 - (k + 1) = P - 1 - k by omega] at this
        rw [Nat.div_div_eq_div_mul, ← Nat.pow_succ']
        exact this
      · have := q2 0 (by omega)
        simpa using this
theorem pre_iff {s : Nat} {l : Nat → Nat} {P a k : Nat} (ha : okw s a = true) (hk : k ≤ wl a) (hl : ∀ i, i < P → l i < 10) : tl l P % 10 ^ k = a / 10 ^ (wl a - k) ↔ k ≤ P ∧ ∀ i, i < k → l (P - k + i) = ltr a i := by
  have l5 := wl_le a
  have hd := dg_div (wl a - k) k a (by rw [show k + (wl a - k) = wl a by omega]; exact okw_dg ha)
  rw [tl_dg k P _ (by omega) hd hl]
  have e : ∀ j, j < k → a / 10 ^ (wl a - k) / 10 ^ j % 10 = ltr a (k - 1 - j) := fun j hj => by
    unfold ltr
    rw [Nat.div_div_eq_div_mul, ← Nat.pow_add, show wl a - k + j = wl a - 1 - (k - 1 - j) by omega]
  constructor
  · rintro ⟨h1, h2⟩
    refine ⟨h1, fun i hi => ?_⟩
    have := h2 (k - 1 - i) (by omega)
    rw [e _ (by omega), show k - 1 - (k - 1 - i) = i by omega, show P - 1 - (k - 1 - i) = P - k + i by omega] at this
    exact this
  · rintro ⟨h1, h2⟩
    refine ⟨h1, fun j hj => ?_⟩
    have := h2 (k - 1 - j) (by omega)
    rw [e _ hj, ← this, show P - k + (k - 1 - j) = P - 1 - j by omega]
theorem en_iff {s : Nat} {l : Nat → Nat} {P a : Nat} (ha : okw s a = true) (hl : ∀ i, i < P → l i < 10) : en l a P = true ↔ wl a ≤ P ∧ ∀ i, i < wl a → l (P - wl a + i) = ltr a i := by
  unfold en
  rw [decide_eq_true_eq, ← pre_iff ha (Nat.le_refl _) hl, Nat.sub_self, Nat.pow_zero, Nat.div_one]
theorem s_grown {d : Nat} (hd : 1 ≤ d) (h : zm_H) {T c : Nat} (hT : T < 100000) : zC d 62 [.int (nI T), .int (nI c)] h = some (some (.int (nI (T % 10000 * 10 + c))), h) := by
  obtain ⟨d, rfl⟩ : ∃ e, d = e + 1 := ⟨d - 1, by omega⟩
  rw [e_X8_grown, show (10000 : Int32) = nI 10000 from rfl, show (10 : Int32) = nI 10 from rfl, pk_rem (by omega) (by decide) (by decide), pk_mul, nI_add]
theorem s_lastL {d : Nat} (hd : 2 ≤ d) (h : zm_H) {T k : Nat} (hT : T < 2 ^ 31) (hk : k ≤ 5) : zC d 61 [.int (nI T), .int (nI k)] h = some (some (.int (nI (T % 10 ^ k))), h) := by
  obtain ⟨d, rfl⟩ : ∃ e, d = e + 1 := ⟨d - 1, by omega⟩
  have h10 := p10_lt (k := k) (by omega)
  have hp := p10_pos k
  rw [e_X8_lastLetters, s_tens (by omega) h hk, pn_c1, show (0 : Int32) = nI 0 from rfl, pn_eq h10 (by decide), pn_f (by omega), pk_rem hT hp h10]
theorem s_endsWith {d : Nat} (hd : 3 ≤ d) (h : zm_H) {T a : Nat} (hT : T < 100000) (ha1 : 1 ≤ a) (ha : a < 100000) : zC d 63 [.int (nI T), .int (nI a)] h = some (some (.int (b01 (decide (T % 10 ^ wl a = a)))), h) := by
  obtain ⟨d, rfl⟩ : ∃ e, d = e + 1 := ⟨d - 1, by omega⟩
  have l5 := wl_le a
  rw [e_X8_endsWith, pn_f (nI_nle (by omega) (by omega)), s_length (by omega) h (by omega), pn_c1, s_lastL (by omega) h (by omega) l5, pn_c1, pn_ne (Nat.lt_of_le_of_lt (Nat.mod_le _ _) (by omega)) (by omega)]
  by_cases c : T % 10 ^ wl a = a
  · rw [pn_f (by simpa using c), decide_eq_true c]; rfl
  · rw [pn_t c, decide_eq_false c]; rfl
theorem nI_ne5 {q : Nat} (h : q < 2 ^ 31) : ¬ nI q = -5 := fun e => by
  have := congrArg Int32.toInt e
  rw [nI_toInt h] at this
  have e5 : (-5 : Int32).toInt = -5 := rfl
  omega
def fo (l : Nat → Nat) (a : Nat) : Nat → Nat → Option Nat
  | 0, _ => none
  | j + 1, i => if en l a (i + 1) = true then some i else fo l a j (i + 1)
def oI : Option Nat → Int32
  | none => -5
  | some i => nI i
theorem fo_lt {l : Nat → Nat} {a : Nat} : ∀ (j i : Nat) {q : Nat}, fo l a j i = some q → q < i + j
  | 0, i, q, h => by simp only [fo] at h; cases h
  | j + 1, i, q, h => by
    simp only [fo] at h
    split at h
    · cases h; omega
    · have := fo_lt j (i + 1) h; omega
def ebs (l : Nat → Nat) (a : Nat) : Nat → Nat → Int64 → Int64
  | 0, _, x => x
  | j + 1, i, x => ebs l a j (i + 1) (if en l a (i + 1) = true then x ||| ((1 : Int64) <<< (Int32.toInt64 (nI i) &&& 63)) else x)
/-- who ends first: of words from i on, j of them; the best so far, its place, its letters -/
def whf (l : Nat → Nat) (z : Nat) (w : Nat → Nat) : Nat → Nat → Option Nat → Nat → Nat → Option Nat
  | 0, _, b, _, _ => b
  | j + 1, i, b, e, m => match fo l (w i) z 0 with
    | none => whf l z w j (i + 1) b e m
    | some f => if f < e ∨ (f = e ∧ m < wl (w i)) then whf l z w j (i + 1) (some i) f (wl (w i)) else whf l z w j (i + 1) b e m
theorem whf_n {l : Nat → Nat} {z : Nat} {w : Nat → Nat} {j i : Nat} {b : Option Nat} {e m : Nat} (h : fo l (w i) z 0 = none) : whf l z w (j + 1) i b e m = whf l z w j (i + 1) b e m := by
  simp only [whf, h]
theorem whf_s {l : Nat → Nat} {z : Nat} {w : Nat → Nat} {j i : Nat} {b : Option Nat} {e m f : Nat} (h : fo l (w i) z 0 = some f) : whf l z w (j + 1) i b e m = if f < e ∨ (f = e ∧ m < wl (w i)) then whf l z w j (i + 1) (some i) f (wl (w i)) else whf l z w j (i + 1) b e m := by
  simp only [whf, h]
section ST
variable {I : Nat → Int32} {A : Nat → Nat → Int32} {J : Nat → Int32} {B : Nat → Nat → Int32} {L : Nat → Nat → Int64} {t : List zm_E} {l w : Nat → Nat} {n z a : Nat}
theorem c_hp1_27 {d n j : Nat} (hd : 1 ≤ d) (hn : I 2701 = nI n) (hn6 : n ≤ 40) (hj : j < n) : zC d 43 [.ref 27, .int (nI j)] (hC I A, t) = some (some (.int 1), (hC I A, t)) := by
  obtain ⟨d, rfl⟩ : ∃ e, d = e + 1 := ⟨d - 1, by omega⟩
  rw [e_X6_hasPlace_27, hn, pn_f (nI_pos (by omega)), pn_f (nI_ge hj (by omega)), pn_f (show ¬ (40 : Int32) ≤ nI j from nI_ge (b := 40) (by omega) (by decide))]
theorem c_letterAt_27 {d n j : Nat} (hd : 2 ≤ d) (hn : I 2701 = nI n) (hn6 : n ≤ 40) (hj : j < n) : zC d 44 [.ref 27, .int (nI j)] (hC I A, t) = some (some (.int (A 28 j)), (hC I A, t)) := by
  obtain ⟨d, rfl⟩ : ∃ e, d = e + 1 := ⟨d - 1, by omega⟩
  rw [e_X6_letterAt_27, c_hp1_27 (by omega) hn hn6 hj, pn_c1, F1, e_X6_letterAt_27_at5, d_10, cond_false, pn_in (by omega) (by decide), cond_true, pn_cl (by omega)]
theorem c_firstL_3 (d : Nat) (hd : 3 ≤ d) (hz : I 301 = nI z) (z40 : z ≤ 40) (hl : ∀ i, i < z → A 4 i = nI (l i) ∧ l i < 10) (ha1 : 1 ≤ a) (ha : a < 100000) : ∀ (j i f : Nat), i + j = z → j < f → zR d f 49 4 [some (.ref 3), some (.int (nI a)), some (.int (nI (tl l i))), some (.int (nI i))] [] (hC I A, t) = some (some (.int (oI (fo l a j i))), (hC I A, t)) := by
  intro j
  induction j with
  | zero =>
    intro i f hi hf
    obtain ⟨f, rfl⟩ : ∃ e, f = e + 1 := ⟨f - 1, by omega⟩
    rw [e_X6_firstEnd_3_at4, hz, pn_t (nI_le (by omega) (by omega))]
    rfl
  | succ j ih =>
    intro i f hi hf
    obtain ⟨f, rfl⟩ : ∃ e, f = e + 1 := ⟨f - 1, by omega⟩
    have h1 := hl i (by omega)
    have h2 := tl_lt (fun i hi => (hl i hi).2) i (by omega)
    have h3 : tl l i % 10000 * 10 + l i < 100000 := tl_lt (fun i hi => (hl i hi).2) (i + 1) (by omega)
    rw [e_X6_firstEnd_3_at4, hz, pn_f (nI_ge (by omega) (by omega)), c_letterAt (by omega) hz z40 (by omega), pn_c1, h1.1, s_grown (by omega) _ h2, pn_c1, s_endsWith hd _ h3 ha1 ha, pn_c1, en_s, nI_1]
    simp only [fo]
    cases hb : en l a (i + 1) with
    | true => rw [b01_t, d_10, cond_false, if_pos rfl]; rfl
    | false =>
      rw [b01_f, d_00, cond_true, if_neg (by decide)]
      exact ih (i + 1) f (by omega) (by omega)
theorem c_first_3 {d : Nat} (hd : 4 ≤ d) (hz : I 301 = nI z) (z40 : z ≤ 40) (hl : ∀ i, i < z → A 4 i = nI (l i) ∧ l i < 10) (ha1 : 1 ≤ a) (ha : a < 100000) : zC d 49 [.ref 3, .int (nI a)] (hC I A, t) = some (some (.int (oI (fo l a z 0))), (hC I A, t)) := by
  obtain ⟨d, rfl⟩ : ∃ e, d = e + 1 := ⟨d - 1, by omega⟩
  rw [e_X6_firstEnd_3]
  exact c_firstL_3 d (by omega) hz z40 hl ha1 ha z 0 10000000 (by omega) (by omega)
theorem c_whoL_3 (d : Nat) (hd : 4 ≤ d) {s : Nat} (hn : I 102 = nI n) (n6 : n ≤ 6) (hw : ∀ i, i < n → A 2 i = nI (w i) ∧ okw s (w i) = true) (hz : I 301 = nI z) (z40 : z ≤ 40) (hl : ∀ i, i < z → A 4 i = nI (l i) ∧ l i < 10) : ∀ (j i f : Nat) (b : Option Nat) (e m : Nat) (o6 o7 : Option Value), i + j = n → j < f → e ≤ 40 → m ≤ 5 → zR d f 8 12 [some (.ref 1), some (.ref 3), some (.int (oI b)), some (.int (nI e)), some (.int (nI m)), some (.int (nI i)), o6, o7] [] (hC I A, t) = some (some (.int (oI (whf l z w j i b e m))), (hC I A, t)) := by
  intro j
  induction j with
  | zero =>
    intro i f b e m o6 o7 hi hf he hm
    obtain ⟨f, rfl⟩ : ∃ e, f = e + 1 := ⟨f - 1, by omega⟩
    rw [e_X0_firstOn_1_3_at12, hn, pn_t (nI_le (by omega) (by omega))]
    rfl
  | succ j ih =>
    intro i f b e m o6 o7 hi hf he hm
    obtain ⟨f, rfl⟩ : ∃ e, f = e + 1 := ⟨f - 1, by omega⟩
    have hwi := hw i (by omega)
    have hlt := okw_lt hwi.2
    have l5 := wl_le (w i)
    rw [e_X0_firstOn_1_3_at12, hn, pn_f (nI_ge (by omega) (by omega)), c_wa (by omega) hn n6 (by omega), pn_c1, hwi.1, c_first_3 hd hz z40 hl hlt.1 hlt.2, pn_c1, c_wa (by omega) hn n6 (by omega), pn_c1, hwi.1, s_length (by omega) _ (by omega), pn_c1, nI_1]
    cases hfo : fo l (w i) z 0 with
    | none =>
      rw [pn_t (show oI none = -5 from rfl), whf_n hfo]
      exact ih (i + 1) f b e m _ _ (by omega) (by omega) he hm
    | some q =>
      have hq := fo_lt z 0 hfo
      rw [whf_s hfo, pn_f (show ¬ oI (some q) = -5 from nI_ne5 (by omega)), show oI (some q) = nI q from rfl, pn_le (by omega) (by omega), pn_lt (by omega) (by omega), pn_le (by omega) (by omega)]
      by_cases c1 : q ≤ e
      · rw [pn_t c1]
        by_cases c2 : q < e
        · rw [pn_t c2, if_pos (by omega)]
          exact ih (i + 1) f (some i) q (wl (w i)) _ _ (by omega) (by omega) (by omega) l5
        · rw [pn_f c2]
          by_cases c3 : wl (w i) ≤ m
          · rw [pn_t c3, if_neg (by omega)]
            exact ih (i + 1) f b e m _ _ (by omega) (by omega) he hm
          · rw [pn_f c3, if_pos (by omega)]
            exact ih (i + 1) f (some i) q (wl (w i)) _ _ (by omega) (by omega) (by omega) l5
      · rw [pn_f c1, if_neg (by omega)]
        exact ih (i + 1) f b e m _ _ (by omega) (by omega) he hm
theorem c_who_3 {d s : Nat} (hd : 5 ≤ d) (hn : I 102 = nI n) (n6 : n ≤ 6) (hw : ∀ i, i < n → A 2 i = nI (w i) ∧ okw s (w i) = true) (hz : I 301 = nI z) (z40 : z ≤ 40) (hl : ∀ i, i < z → A 4 i = nI (l i) ∧ l i < 10) : zC d 8 [.ref 1, .ref 3] (hC I A, t) = some (some (.int (oI (whf l z w n 0 none 40 0))), (hC I A, t)) := by
  obtain ⟨d, rfl⟩ : ∃ e, d = e + 1 := ⟨d - 1, by omega⟩
  rw [e_X0_firstOn_1_3]
  exact c_whoL_3 d (by omega) hn n6 hw hz z40 hl n 0 10000000 none 40 0 none none (by omega) (by omega) (by omega) (by omega)
theorem c_firstL_27 (d : Nat) (hd : 3 ≤ d) (hz : I 2701 = nI z) (z40 : z ≤ 40) (hl : ∀ i, i < z → A 28 i = nI (l i) ∧ l i < 10) (ha1 : 1 ≤ a) (ha : a < 100000) : ∀ (j i f : Nat), i + j = z → j < f → zR d f 49 4 [some (.ref 27), some (.int (nI a)), some (.int (nI (tl l i))), some (.int (nI i))] [] (hC I A, t) = some (some (.int (oI (fo l a j i))), (hC I A, t)) := by
  intro j
  induction j with
  | zero =>
    intro i f hi hf
    obtain ⟨f, rfl⟩ : ∃ e, f = e + 1 := ⟨f - 1, by omega⟩
    rw [e_X6_firstEnd_27_at4, hz, pn_t (nI_le (by omega) (by omega))]
    rfl
  | succ j ih =>
    intro i f hi hf
    obtain ⟨f, rfl⟩ : ∃ e, f = e + 1 := ⟨f - 1, by omega⟩
    have h1 := hl i (by omega)
    have h2 := tl_lt (fun i hi => (hl i hi).2) i (by omega)
    have h3 : tl l i % 10000 * 10 + l i < 100000 := tl_lt (fun i hi => (hl i hi).2) (i + 1) (by omega)
    rw [e_X6_firstEnd_27_at4, hz, pn_f (nI_ge (by omega) (by omega)), c_letterAt_27 (by omega) hz z40 (by omega), pn_c1, h1.1, s_grown (by omega) _ h2, pn_c1, s_endsWith hd _ h3 ha1 ha, pn_c1, en_s, nI_1]
    simp only [fo]
    cases hb : en l a (i + 1) with
    | true => rw [b01_t, d_10, cond_false, if_pos rfl]; rfl
    | false =>
      rw [b01_f, d_00, cond_true, if_neg (by decide)]
      exact ih (i + 1) f (by omega) (by omega)
theorem c_first_27 {d : Nat} (hd : 4 ≤ d) (hz : I 2701 = nI z) (z40 : z ≤ 40) (hl : ∀ i, i < z → A 28 i = nI (l i) ∧ l i < 10) (ha1 : 1 ≤ a) (ha : a < 100000) : zC d 49 [.ref 27, .int (nI a)] (hC I A, t) = some (some (.int (oI (fo l a z 0))), (hC I A, t)) := by
  obtain ⟨d, rfl⟩ : ∃ e, d = e + 1 := ⟨d - 1, by omega⟩
  rw [e_X6_firstEnd_27]
  exact c_firstL_27 d (by omega) hz z40 hl ha1 ha z 0 10000000 (by omega) (by omega)
theorem c_whoL_27 (d : Nat) (hd : 4 ≤ d) {s : Nat} (hn : I 102 = nI n) (n6 : n ≤ 6) (hw : ∀ i, i < n → A 2 i = nI (w i) ∧ okw s (w i) = true) (hz : I 2701 = nI z) (z40 : z ≤ 40) (hl : ∀ i, i < z → A 28 i = nI (l i) ∧ l i < 10) : ∀ (j i f : Nat) (b : Option Nat) (e m : Nat) (o6 o7 : Option Value), i + j = n → j < f → e ≤ 40 → m ≤ 5 → zR d f 8 12 [some (.ref 1), some (.ref 27), some (.int (oI b)), some (.int (nI e)), some (.int (nI m)), some (.int (nI i)), o6, o7] [] (hC I A, t) = some (some (.int (oI (whf l z w j i b e m))), (hC I A, t)) := by
  intro j
  induction j with
  | zero =>
    intro i f b e m o6 o7 hi hf he hm
    obtain ⟨f, rfl⟩ : ∃ e, f = e + 1 := ⟨f - 1, by omega⟩
    rw [e_X0_firstOn_1_27_at12, hn, pn_t (nI_le (by omega) (by omega))]
    rfl
  | succ j ih =>
    intro i f b e m o6 o7 hi hf he hm
    obtain ⟨f, rfl⟩ : ∃ e, f = e + 1 := ⟨f - 1, by omega⟩
    have hwi := hw i (by omega)
    have hlt := okw_lt hwi.2
    have l5 := wl_le (w i)
    rw [e_X0_firstOn_1_27_at12, hn, pn_f (nI_ge (by omega) (by omega)), c_wa (by omega) hn n6 (by omega), pn_c1, hwi.1, c_first_27 hd hz z40 hl hlt.1 hlt.2, pn_c1, c_wa (by omega) hn n6 (by omega), pn_c1, hwi.1, s_length (by omega) _ (by omega), pn_c1, nI_1]
    cases hfo : fo l (w i) z 0 with
    | none =>
      rw [pn_t (show oI none = -5 from rfl), whf_n hfo]
      exact ih (i + 1) f b e m _ _ (by omega) (by omega) he hm
    | some q =>
      have hq := fo_lt z 0 hfo
      rw [whf_s hfo, pn_f (show ¬ oI (some q) = -5 from nI_ne5 (by omega)), show oI (some q) = nI q from rfl, pn_le (by omega) (by omega), pn_lt (by omega) (by omega), pn_le (by omega) (by omega)]
      by_cases c1 : q ≤ e
      · rw [pn_t c1]
        by_cases c2 : q < e
        · rw [pn_t c2, if_pos (by omega)]
          exact ih (i + 1) f (some i) q (wl (w i)) _ _ (by omega) (by omega) (by omega) l5
        · rw [pn_f c2]
          by_cases c3 : wl (w i) ≤ m
          · rw [pn_t c3, if_neg (by omega)]
            exact ih (i + 1) f b e m _ _ (by omega) (by omega) he hm
          · rw [pn_f c3, if_pos (by omega)]
            exact ih (i + 1) f (some i) q (wl (w i)) _ _ (by omega) (by omega) (by omega) l5
      · rw [pn_f c1, if_neg (by omega)]
        exact ih (i + 1) f b e m _ _ (by omega) (by omega) he hm
theorem c_who_27 {d s : Nat} (hd : 5 ≤ d) (hn : I 102 = nI n) (n6 : n ≤ 6) (hw : ∀ i, i < n → A 2 i = nI (w i) ∧ okw s (w i) = true) (hz : I 2701 = nI z) (z40 : z ≤ 40) (hl : ∀ i, i < z → A 28 i = nI (l i) ∧ l i < 10) : zC d 8 [.ref 1, .ref 27] (hC I A, t) = some (some (.int (oI (whf l z w n 0 none 40 0))), (hC I A, t)) := by
  obtain ⟨d, rfl⟩ : ∃ e, d = e + 1 := ⟨d - 1, by omega⟩
  rw [e_X0_firstOn_1_27]
  exact c_whoL_27 d (by omega) hn n6 hw hz z40 hl n 0 10000000 none 40 0 none none (by omega) (by omega) (by omega) (by omega)
theorem c_endBL (d : Nat) (hd : 3 ≤ d) (hz : I 301 = nI z) (z40 : z ≤ 40) (hl : ∀ i, i < z → A 4 i = nI (l i) ∧ l i < 10) (ha1 : 1 ≤ a) (ha : a < 100000) : ∀ (j i f : Nat) (x : Int64), i + j = z → j < f → zR d f 48 8 [some (.ref 3), some (.int (nI a)), some (.long x), none, some (.int (nI (tl l i))), some (.int (nI i))] [] (hC I A, t) = some (some (.long (ebs l a j i x)), (hC I A, t)) := by
  intro j
  induction j with
  | zero =>
    intro i f x hi hf
    obtain ⟨f, rfl⟩ : ∃ e, f = e + 1 := ⟨f - 1, by omega⟩
    rw [e_X6_endBits_3_at8, hz, pn_t (nI_le (by omega) (by omega))]
    rfl
  | succ j ih =>
    intro i f x hi hf
    obtain ⟨f, rfl⟩ : ∃ e, f = e + 1 := ⟨f - 1, by omega⟩
    have h1 := hl i (by omega)
    have h2 := tl_lt (fun i hi => (hl i hi).2) i (by omega)
    have h3 : tl l i % 10000 * 10 + l i < 100000 := tl_lt (fun i hi => (hl i hi).2) (i + 1) (by omega)
    rw [e_X6_endBits_3_at8, hz, pn_f (nI_ge (by omega) (by omega)), c_letterAt (by omega) hz z40 (by omega), pn_c1, h1.1, s_grown (by omega) _ h2, pn_c1, s_endsWith hd _ h3 ha1 ha, pn_c1, en_s, nI_1, show tl l i % 10000 * 10 + l i = tl l (i + 1) from rfl]
    simp only [ebs]
    cases hb : en l a (i + 1) with
    | true => rw [b01_t, d_10, cond_false, if_pos rfl, ih (i + 1) f _ (by omega) (by omega)]
    | false => rw [b01_f, d_00, cond_true, if_neg (by decide), ih (i + 1) f _ (by omega) (by omega)]
theorem c_endB {d : Nat} (hd : 4 ≤ d) (hz : I 301 = nI z) (z40 : z ≤ 40) (hl : ∀ i, i < z → A 4 i = nI (l i) ∧ l i < 10) (ha1 : 1 ≤ a) (ha : a < 100000) : zC d 48 [.ref 3, .int (nI a)] (hC I A, t) = some (some (.long (ebs l a z 0 0)), (hC I A, t)) := by
  obtain ⟨d, rfl⟩ : ∃ e, d = e + 1 := ⟨d - 1, by omega⟩
  rw [e_X6_endBits_3]
  exact c_endBL d (by omega) hz z40 hl ha1 ha z 0 10000000 0 (by omega) (by omega)
/-! the reference's -/
theorem r_endsL (d : Nat) (hd : 2 ≤ d) {P : Nat} (z40 : z ≤ 40) (hP : P < z) (hl : ∀ i, i < z → B 2 i = nI (l i) ∧ l i < 10) (ha1 : 1 ≤ a) (ha : a < 100000) (hw : wl a ≤ P + 1) : ∀ (j i f : Nat), i + j = wl a → j < f → zR d f 174 17 [some (.ref 1000), some (.int (nI a)), some (.int (nI P)), some (.int (nI (wl a))), some (.int (nI i))] [] (t, hM J B L) = some (some (.int (b01 (!anyb (fun i => decide (¬ l (P + 1 - wl a + i) = ltr a i)) j i))), (t, hM J B L)) := by
  have l5 := wl_le a
  intro j
  induction j with
  | zero =>
    intro i f hi hf
    obtain ⟨f, rfl⟩ : ∃ e, f = e + 1 := ⟨f - 1, by omega⟩
    rw [e_X10_endsAt_at17, pn_t (nI_le (by omega) (by omega))]
    rfl
  | succ j ih =>
    intro i f hi hf
    obtain ⟨f, rfl⟩ : ∃ e, f = e + 1 := ⟨f - 1, by omega⟩
    have h1 := hl (P + 1 - wl a + i) (by omega)
    have h2 : ltr a i < 10 := Nat.mod_lt _ (by decide)
    rw [e_X10_endsAt_at17, pn_f (nI_ge (by omega) (by omega)), nI_1, pn_sub (by omega), nI_add, pn_in (show P + 1 - wl a + i < 40 by omega) (by decide), cond_true, r_letterOf hd _ ha (by omega), pn_c1, pn_cl (by omega), h1.1, pn_eq (by omega) (by omega), nI_1]
    simp only [anyb]
    by_cases c : l (P + 1 - wl a + i) = ltr a i
    · rw [pn_t c, if_neg (by simpa using c), ih (i + 1) f (by omega) (by omega)]
    · rw [pn_f c, if_pos (by simpa using c)]; rfl
theorem r_endsAt {d s P : Nat} (hd : 3 ≤ d) (z40 : z ≤ 40) (hP : P < z) (hl : ∀ i, i < z → B 2 i = nI (l i) ∧ l i < 10) (ho : okw s a = true) : zC d 174 [.ref 1000, .int (nI a), .int (nI P)] (t, hM J B L) = some (some (.int (b01 (en l a (P + 1)))), (t, hM J B L)) := by
  obtain ⟨d, rfl⟩ : ∃ e, d = e + 1 := ⟨d - 1, by omega⟩
  have ha := okw_lt ho
  have l5 := wl_le a
  have hi := en_iff (l := l) (P := P + 1) ho (fun i hi => (hl i (by omega)).2)
  rw [e_X10_endsAt, r_sizeW (by omega) _ ha.2, pn_c1, nI_1, pn_le (by omega) (by omega)]
  by_cases c : wl a ≤ P + 1
  · rw [pn_t c, show (0 : Int32) = nI 0 from rfl, r_endsL d (by omega) z40 hP hl ha.1 ha.2 c (wl a) 0 10000000 (by omega) (by omega)]
    have e : (!anyb (fun i => decide (¬ l (P + 1 - wl a + i) = ltr a i)) (wl a) 0) = en l a (P + 1) := by
      rw [Bool.eq_iff_iff, hi, Bool.not_eq_true', Bool.eq_false_iff]
      constructor
      · intro q
        refine ⟨c, fun i hi => ?_⟩
        rcases Nat.decEq (l (P + 1 - wl a + i)) (ltr a i) with u | u
        · exact absurd ((anyb_iff _ _ _).mpr ⟨i, by omega, by omega, decide_eq_true u⟩) q
        · exact u
      · rintro ⟨-, q⟩ u
        obtain ⟨i, g1, g2, g3⟩ := (anyb_iff _ _ _).mp u
        exact (of_decide_eq_true g3) (q i (by omega))
    rw [e]
  · rw [pn_f c, show en l a (P + 1) = false from Bool.eq_false_iff.mpr (fun q => c (hi.mp q).1)]
    rfl
theorem r_firstL (d : Nat) (hd : 3 ≤ d) {s k : Nat} (hz : J 4 = nI z) (z40 : z ≤ 40) (hl : ∀ i, i < z → B 2 i = nI (l i) ∧ l i < 10) (hk : k < 6) (hb : B 1 k = nI a) (ho : okw s a = true) : ∀ (j i f : Nat), i + j = z → j < f → zR d f 176 2 [some (.ref 1000), some (.int (nI k)), some (.int (nI i))] [] (t, hM J B L) = some (some (.int (oI (fo l a j i))), (t, hM J B L)) := by
  intro j
  induction j with
  | zero =>
    intro i f hi hf
    obtain ⟨f, rfl⟩ : ∃ e, f = e + 1 := ⟨f - 1, by omega⟩
    rw [e_X10_firstOf_at2, hz, pn_t (nI_le (by omega) (by omega))]
    rfl
  | succ j ih =>
    intro i f hi hf
    obtain ⟨f, rfl⟩ : ∃ e, f = e + 1 := ⟨f - 1, by omega⟩
    rw [e_X10_firstOf_at2, hz, pn_f (nI_ge (by omega) (by omega)), pn_in hk (by decide), cond_true, pn_cl (by omega), hb, r_endsAt hd z40 (by omega) hl ho, pn_c1, nI_1]
    simp only [fo]
    cases hb : en l a (i + 1) with
    | true => rw [b01_t, d_10, cond_false, if_pos rfl]; rfl
    | false => rw [b01_f, d_00, cond_true, if_neg (by decide), ih (i + 1) f (by omega) (by omega)]
theorem r_firstOf {d s k : Nat} (hd : 4 ≤ d) (hz : J 4 = nI z) (z40 : z ≤ 40) (hl : ∀ i, i < z → B 2 i = nI (l i) ∧ l i < 10) (hk : k < 6) (hb : B 1 k = nI a) (ho : okw s a = true) : zC d 176 [.ref 1000, .int (nI k)] (t, hM J B L) = some (some (.int (oI (fo l a z 0))), (t, hM J B L)) := by
  obtain ⟨d, rfl⟩ : ∃ e, d = e + 1 := ⟨d - 1, by omega⟩
  rw [e_X10_firstOf, show (0 : Int32) = nI 0 from rfl, r_firstL d (by omega) hz z40 hl hk hb ho z 0 10000000 (by omega) (by omega)]
theorem r_endBL (d : Nat) (hd : 3 ≤ d) {s k : Nat} (hz : J 4 = nI z) (z40 : z ≤ 40) (hl : ∀ i, i < z → B 2 i = nI (l i) ∧ l i < 10) (hk : k < 6) (hb : B 1 k = nI a) (ho : okw s a = true) : ∀ (j i f : Nat) (x : Int64), i + j = z → j < f → zR d f 175 17 [some (.ref 1000), some (.int (nI k)), some (.long x), none, some (.int (nI i))] [] (t, hM J B L) = some (some (.long (ebs l a j i x)), (t, hM J B L)) := by
  intro j
  induction j with
  | zero =>
    intro i f x hi hf
    obtain ⟨f, rfl⟩ : ∃ e, f = e + 1 := ⟨f - 1, by omega⟩
    rw [e_X10_ends_at17, hz, pn_t (nI_le (by omega) (by omega))]
    rfl
  | succ j ih =>
    intro i f x hi hf
    obtain ⟨f, rfl⟩ : ∃ e, f = e + 1 := ⟨f - 1, by omega⟩
    rw [e_X10_ends_at17, hz, pn_f (nI_ge (by omega) (by omega)), pn_in hk (by decide), cond_true, pn_cl (by omega), hb, r_endsAt hd z40 (by omega) hl ho, pn_c1, nI_1]
    simp only [ebs]
    cases hb : en l a (i + 1) with
    | true => rw [b01_t, d_10, cond_false, if_pos rfl, ih (i + 1) f _ (by omega) (by omega)]
    | false => rw [b01_f, d_00, cond_true, if_neg (by decide), ih (i + 1) f _ (by omega) (by omega)]
theorem r_whoL (d : Nat) (hd : 4 ≤ d) {s : Nat} (hn : J 2 = nI n) (n6 : n ≤ 6) (hw : ∀ i, i < n → B 1 i = nI (w i) ∧ okw s (w i) = true) (hz : J 4 = nI z) (z40 : z ≤ 40) (hl : ∀ i, i < z → B 2 i = nI (l i) ∧ l i < 10) : ∀ (j i f : Nat) (b : Option Nat) (e m : Nat) (o4 : Option Value), i + j = n → 3 * j < f → e ≤ 40 → (b = none → e = 40 ∧ m = 0) → (∀ q, b = some q → q < n ∧ m = wl (w q)) → zR d f 179 8 [some (.ref 1000), some (.int (oI b)), some (.int (nI e)), some (.int (nI i)), o4] [] (t, hM J B L) = some (some (.int (oI (whf l z w j i b e m))), (t, hM J B L)) := by
  intro j
  induction j with
  | zero =>
    intro i f b e m o4 hi hf he hb1 hb2
    obtain ⟨f, rfl⟩ : ∃ e, f = e + 1 := ⟨f - 1, by omega⟩
    rw [e_X10_who_at8, hn, pn_t (nI_le (by omega) (by omega))]
    rfl
  | succ j ih =>
    intro i f b e m o4 hi hf he hb1 hb2
    obtain ⟨f, rfl⟩ : ∃ e, f = e + 1 + 1 + 1 := ⟨f - 3, by omega⟩
    have hwi := hw i (by omega)
    have hlt := okw_lt hwi.2
    have l5 := wl_le (w i)
    rw [e_X10_who_at8, hn, pn_f (nI_ge (by omega) (by omega)), r_firstOf hd hz z40 hl (by omega) hwi.1 hwi.2, pn_c1, e_X10_who_at21]
    cases hfo : fo l (w i) z 0 with
    | none =>
      rw [pn_t (show oI none = -5 from rfl), nI_1, whf_n hfo]
      exact ih (i + 1) (f + 1) b e m _ (by omega) (by omega) he hb1 hb2
    | some q =>
      have hq := fo_lt z 0 hfo
      rw [whf_s hfo, pn_f (show ¬ oI (some q) = -5 from nI_ne5 (by omega)), show oI (some q) = nI q from rfl, pn_lt (by omega) (by omega), pn_ne (by omega) (by omega), nI_1]
      by_cases c1 : e < q
      · rw [pn_t c1, if_neg (by omega)]
        exact ih (i + 1) (f + 1) b e m _ (by omega) (by omega) he hb1 hb2
      · rw [pn_f c1]
        by_cases c2 : q = e
        · have hbs : ∃ u, b = some u := by
            cases b with
            | none => have := hb1 rfl; omega
            | some u => exact ⟨u, rfl⟩
          obtain ⟨u, rfl⟩ := hbs
          obtain ⟨u1, u2⟩ := hb2 u rfl
          have hwu := hw u u1
          have hlu := okw_lt hwu.2
          have l5u := wl_le (w u)
          rw [pn_f (by simpa using c2), pn_in (show i < 6 by omega) (by decide), cond_true, pn_cl (by omega), hwi.1, r_sizeW (by omega) _ hlt.2, pn_c1, e_X10_who_at51, show oI (some u) = nI u from rfl, pn_in (show u < 6 by omega) (by decide), cond_true, pn_cl (by omega), hwu.1, r_sizeW (by omega) _ hlu.2, pn_c1, pn_lt (by omega) (by omega), nI_1]
          by_cases c3 : wl (w u) < wl (w i)
          · rw [pn_t c3, if_pos (by omega)]
            exact ih (i + 1) f (some i) q (wl (w i)) _ (by omega) (by omega) (by omega) (fun h => by cases h) (fun v hv => by cases hv; exact ⟨by omega, rfl⟩)
          · rw [pn_f c3, if_neg (by omega)]
            exact ih (i + 1) f (some u) e m _ (by omega) (by omega) he (fun h => by cases h) hb2
        · rw [pn_t c2, if_pos (by omega)]
          exact ih (i + 1) (f + 1) (some i) q (wl (w i)) _ (by omega) (by omega) (by omega) (fun h => by cases h) (fun v hv => by cases hv; exact ⟨by omega, rfl⟩)
theorem r_who {d s : Nat} (hd : 5 ≤ d) (hn : J 2 = nI n) (n6 : n ≤ 6) (hw : ∀ i, i < n → B 1 i = nI (w i) ∧ okw s (w i) = true) (hz : J 4 = nI z) (z40 : z ≤ 40) (hl : ∀ i, i < z → B 2 i = nI (l i) ∧ l i < 10) : zC d 179 [.ref 1000] (t, hM J B L) = some (some (.int (oI (whf l z w n 0 none 40 0))), (t, hM J B L)) := by
  obtain ⟨d, rfl⟩ : ∃ e, d = e + 1 := ⟨d - 1, by omega⟩
  rw [e_X10_who]
  exact r_whoL d (by omega) hn n6 hw hz z40 hl n 0 10000000 none 40 0 none (by omega) (by omega) (by omega) (fun _ => ⟨rfl, rfl⟩) (fun q h => by cases h)
/-! calls -/
theorem P_ends (h : Rel I A J B) (x : Int32) : AnsL 95 175 [.int x] I A J B L := by
  have hh := h
  obtain ⟨⟨⟨s, ⟨n, w⟩, ⟨z, l⟩, ⟨p, k, o⟩, ⟨r, a, v⟩⟩, hv, hc, hm⟩, -⟩ := h
  have s3 : s ≤ 3 := by have := hv.1; omega
  have c2 : I 102 = nI n := hc.2.1.1
  have m2 : J 2 = nI n := hm.2.1.1
  have c3 : I 301 = nI z := hc.2.2.1.1
  have m3 : J 4 = nI z := hm.2.2.1.1
  have n6 : n ≤ 6 := hv.2.1.1
  have z40 : z ≤ 40 := hv.2.2.1.1
  have lc : ∀ i, i < z → A 4 i = nI (l i) ∧ l i < 10 := fun i hi => ⟨hc.2.2.1.2 i hi, by have := hv.2.2.1.2 i hi; omega⟩
  have lm : ∀ i, i < z → B 2 i = nI (l i) ∧ l i < 10 := fun i hi => ⟨hm.2.2.1.2 i hi, by have := hv.2.2.1.2 i hi; omega⟩
  have e1 := fun t => e_X9_ends 59 I A t x
  have e2 := fun t => e_X10_ends 59 J B L t x
  have no : ∀ q : x < 0 ∨ nI n ≤ x, AnsL 95 175 [.int x] I A J B L := fun q => by
    simp only [c_hw0 (A := A) (show 1 ≤ 59 by omega) c2 q, pn_c1, F1, e_X9_ends_at8, d_00, cond_true] at e1
    simp only [r_iw0 (B := B) (L := L) (show 2 ≤ 59 by omega) m2 n6 q, pn_c1, d_n00, cond_false] at e2
    exact ⟨_, _, _, _, _, _, e1, e2, hh⟩
  rcases pk_ix x (n := n) (by omega) with q | q | ⟨i, hi, rfl⟩
  · exact no (Or.inl q)
  · exact no (Or.inr q)
  have hw := hv.2.1.2 i hi
  have wi := okw_lt hw
  have a1 : A 2 i = nI (w i) := hc.2.1.2 i hi
  have b1 : B 1 i = nI (w i) := hm.2.1.2 i hi
  simp only [c_hw1 (A := A) (show 1 ≤ 59 by omega) c2 n6 hi, pn_c1, F1, e_X9_ends_at8, d_10, cond_false, c_wa (A := A) (show 2 ≤ 59 by omega) c2 n6 hi, a1, c_endB (show 4 ≤ 59 by omega) c3 z40 lc wi.1 wi.2, pn_c2] at e1
  have e3 := fun t => r_endBL (J := J) (L := L) (t := t) 59 (by omega) m3 z40 lm (show i < 6 by omega) b1 hw z 0 10000000 0 (by omega) (by omega)
  have e3' : ∀ t, zR 59 10000000 175 17 [some (.ref 1000), some (.int (nI i)), some (.long 0), none, some (.int 0)] [] (t, hM J B L) = some (some (.long (ebs l (w i) z 0 0)), (t, hM J B L)) := e3
  simp only [r_iw1 (B := B) (L := L) (show 2 ≤ 59 by omega) m2 n6 hi, pn_c1, d_n10, cond_true, e3'] at e2
  exact ⟨_, _, _, _, _, _, e1, e2, hh⟩
theorem P_who (h : Rel I A J B) : Ans 97 179 [] I A J B L := by
  have hh := h
  obtain ⟨⟨⟨s, ⟨n, w⟩, ⟨z, l⟩, ⟨p, k, o⟩, ⟨r, a, v⟩⟩, hv, hc, hm⟩, -⟩ := h
  have s3 : s ≤ 3 := by have := hv.1; omega
  have c2 : I 102 = nI n := hc.2.1.1
  have m2 : J 2 = nI n := hm.2.1.1
  have c3 : I 301 = nI z := hc.2.2.1.1
  have m3 : J 4 = nI z := hm.2.2.1.1
  have n6 : n ≤ 6 := hv.2.1.1
  have z40 : z ≤ 40 := hv.2.2.1.1
  have lc : ∀ i, i < z → A 4 i = nI (l i) ∧ l i < 10 := fun i hi => ⟨hc.2.2.1.2 i hi, by have := hv.2.2.1.2 i hi; omega⟩
  have lm : ∀ i, i < z → B 2 i = nI (l i) ∧ l i < 10 := fun i hi => ⟨hm.2.2.1.2 i hi, by have := hv.2.2.1.2 i hi; omega⟩
  have wc : ∀ i, i < n → A 2 i = nI (w i) ∧ okw s (w i) = true := fun i hi => ⟨hc.2.1.2 i hi, hv.2.1.2 i hi⟩
  have wm : ∀ i, i < n → B 1 i = nI (w i) ∧ okw s (w i) = true := fun i hi => ⟨hm.2.1.2 i hi, hv.2.1.2 i hi⟩
  have e1 := fun t => e_X9_who 59 I A t
  simp only [c_who_3 (show 5 ≤ 59 by omega) c2 n6 wc c3 z40 lc, pn_c1] at e1
  exact ⟨_, _, _, _, _, _, e1, fun t => r_who (by omega) m2 n6 wm m3 z40 lm, hh⟩
end ST
