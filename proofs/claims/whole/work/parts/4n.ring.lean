/-! rings -/
def fnd1 {α : Type} (F : Nat → Option α) : Nat → Nat → Option α
  | 0, _ => none
  | j + 1, w => match F w with
    | some r => some r
    | none => fnd1 F j (w + 1)
theorem fnd1_s {α : Type} {F : Nat → Option α} {j w : Nat} {r : α} (h : F w = some r) : fnd1 F (j + 1) w = some r := by simp only [fnd1, h]
theorem fnd1_n {α : Type} {F : Nat → Option α} {j w : Nat} (h : F w = none) : fnd1 F (j + 1) w = fnd1 F j (w + 1) := by simp only [fnd1, h]
theorem fnd1_0 {α : Type} {F : Nat → Option α} : ∀ j w, (∀ v, w ≤ v → F v = none) → fnd1 F j w = none
  | 0, _, _ => rfl
  | j + 1, w, h => by
    rw [fnd1_n (h w (Nat.le_refl _))]
    exact fnd1_0 j (w + 1) (fun v hv => h v (by omega))
def okk (n : Nat) (be : Nat → Nat → Bool) (row : Nat → Nat) (i w : Nat) : Bool := decide (w < n) && ((decide (i = 0) || be (row (i - 1)) w) && !anyb (fun k => decide (row k = w)) i 0)
/-- the first ring that goes on from a row of i (g are wanting) -/
def rg (n : Nat) (be : Nat → Nat → Bool) : Nat → Nat → (Nat → Nat) → Option (Nat → Nat)
  | 0, i, row => if be (row (i - 1)) (row 0) = true then some row else none
  | g + 1, i, row => fnd1 (fun w => if okk n be row i w = true then rg n be g (i + 1) (fun k => if k = i then w else row k) else none) 6 0
theorem okk_n {n i w : Nat} {be : Nat → Nat → Bool} {row : Nat → Nat} (h : n ≤ w) : okk n be row i w = false := by
  unfold okk
  rw [decide_eq_false (by omega), Bool.false_and]
/-- bits of a row of the beaten -/
def bmk (f : Nat → Bool) : Nat → Nat
  | 0 => 0
  | j + 1 => bmk f j + (if f j = true then 2 ^ j else 0)
theorem bmk_lt (f : Nat → Bool) : ∀ j, bmk f j < 2 ^ j
  | 0 => by simp only [bmk]; decide
  | j + 1 => by
    have := bmk_lt f j
    simp only [bmk]
    rw [Nat.pow_succ]
    split <;> omega
theorem bit_add : ∀ j, j < 6 → ∀ m, m < 2 ^ j → ∀ v, v < 6 → ((m + 2 ^ j) / 2 ^ v % 2 = 1 ↔ v = j ∨ m / 2 ^ v % 2 = 1) := by decide
theorem bit_hi : ∀ j, j < 6 → ∀ m, m < 2 ^ j → ¬ m / 2 ^ j % 2 = 1 := by decide
theorem bmk_bit (f : Nat → Bool) : ∀ j, j ≤ 6 → ∀ v, v < 6 → (bmk f j / 2 ^ v % 2 = 1 ↔ v < j ∧ f v = true)
  | 0, _, v, hv => by
    simp only [bmk, Nat.zero_div]
    constructor
    · intro h; cases h
    · rintro ⟨h, -⟩; omega
  | j + 1, hj, v, hv => by
    have ih := bmk_bit f j (by omega) v hv
    have hl := bmk_lt f j
    simp only [bmk]
    by_cases c : f j = true
    · rw [if_pos c, bit_add j (by omega) _ hl v hv, ih]
      constructor
      · rintro (rfl | ⟨h1, h2⟩)
        · exact ⟨by omega, c⟩
        · exact ⟨by omega, h2⟩
      · rintro ⟨h1, h2⟩
        rcases Nat.lt_or_ge v j with q | q
        · exact Or.inr ⟨q, h2⟩
        · exact Or.inl (by omega)
    · rw [if_neg c, Nat.add_zero, ih]
      constructor
      · rintro ⟨h1, h2⟩; exact ⟨by omega, h2⟩
      · rintro ⟨h1, h2⟩
        refine ⟨?_, h2⟩
        rcases Nat.lt_or_ge v j with q | q
        · exact q
        · exact absurd h2 (by rw [show v = j by omega]; exact c)
set_option maxRecDepth 10000 in
theorem b_get : ∀ m, m < 64 → ∀ w, w < 6 → (((nI m >>> (nI w &&& 31)) &&& 1) = 1 ↔ m / 2 ^ w % 2 = 1) := by decide
set_option maxRecDepth 10000 in
theorem b_or : ∀ j, j < 6 → ∀ m, m < 2 ^ j → nI m ||| ((1 : Int32) <<< (nI j &&& 31)) = nI (m + 2 ^ j) := by decide
set_option maxRecDepth 10000 in
theorem b_clr : ∀ m, m < 64 → ∀ w, w < 6 → m / 2 ^ w % 2 = 1 → nI m &&& (((1 : Int32) <<< (nI w &&& 31)) ^^^ (-1)) = nI (m - 2 ^ w) := by decide
set_option maxRecDepth 10000 in
theorem b_clr3 : ∀ m, m < 64 → ∀ x, x < 36 → m / 2 ^ (x / 6) % 2 = 1 → ((m - 2 ^ (x / 6)) / 2 ^ (x % 6) % 2 = 1 ↔ m / 2 ^ (x % 6) % 2 = 1 ∧ x % 6 ≠ x / 6) := by decide +kernel
theorem b_clr2 (m : Nat) (hm : m < 64) (w : Nat) (hw : w < 6) (h : m / 2 ^ w % 2 = 1) (v : Nat) (hv : v < 6) : (m - 2 ^ w) / 2 ^ v % 2 = 1 ↔ m / 2 ^ v % 2 = 1 ∧ v ≠ w := by
  have := b_clr3 m hm (6 * w + v) (by omega)
  rw [show (6 * w + v) / 6 = w by omega, show (6 * w + v) % 6 = v by omega] at this
  exact this h
theorem b_all : ∀ n, n ≤ 6 → ((1 : Int32) <<< (nI n &&& 31)) - 1 = nI (2 ^ n - 1) ∧ 2 ^ n - 1 < 64 ∧ ∀ v, v < 6 → ((2 ^ n - 1) / 2 ^ v % 2 = 1 ↔ v < n) := by decide
section RI
variable {I : Nat → Int32} {A : Nat → Nat → Int32} {J : Nat → Int32} {B : Nat → Nat → Int32} {L : Nat → Nat → Int64} {t : List zm_E} {s n : Nat} {w : Nat → Nat}
/-- the class's rows of the beaten -/
def btn (n : Nat) (be : Nat → Nat → Bool) (A : Nat → Nat → Int32) : Prop := ∀ i, i < n → A 43 i = nI (bmk (be i) n)
theorem c_isB {d p u v : Nat} {be : Nat → Nat → Bool} (hd : 1 ≤ d) (n6 : n ≤ 6) (hb : btn n be A) (hp : p < 6) (hr : A 42 p = nI u) (hu : u < n) (hv : v < n) : zC d 41 [.ref 41, .int (nI p), .int (nI v)] (hC I A, t) = some (some (.int (b01 (be u v))), (hC I A, t)) := by
  obtain ⟨d, rfl⟩ : ∃ e, d = e + 1 := ⟨d - 1, by omega⟩
  have hl := bmk_lt (be u) n
  have h64 : 2 ^ n ≤ 2 ^ 6 := Nat.pow_le_pow_right (by omega) n6
  have hg := b_get (bmk (be u) n) (by omega) v (by omega)
  rw [bmk_bit (be u) n n6 v (by omega)] at hg
  rw [e_X5_isBeaten, pn_f (nI_pos (by omega)), pn_f (show ¬ (6 : Int32) ≤ nI p from nI_ge (b := 6) hp (by decide)), pn_in hp (by decide), cond_true, pn_cl (by omega), hr, pn_in (show u < 6 by omega) (by decide), cond_true, pn_cl (by omega), hb u hu]
  by_cases c : be u v = true
  · rw [pn_f (fun q => q (hg.mpr ⟨hv, c⟩)), c]; rfl
  · rw [pn_t (fun q => c (hg.mp q).2), Bool.eq_false_iff.mpr c]; rfl
theorem c_closes {be : Nat → Nat → Bool} {N : Nat} (n6 : n ≤ 6) (N3 : 3 ≤ N) (N6 : N ≤ 6) : ∀ (g i d m : Nat) (A : Nat → Nat → Int32) (row : Nat → Nat), i + g = N → g + 10 ≤ d → btn n be A → (∀ k, k < i → A 42 k = nI (row k) ∧ row k < n) → m < 64 → (∀ v, v < 6 → (m / 2 ^ v % 2 = 1 ↔ v < n ∧ ¬ anyb (fun k => decide (row k = v)) i 0 = true)) → ∃ A', (∀ t, zC d 40 [.ref 41, .int (nI m), .int (nI i), .int (nI N)] (hC I A, t) = some (some (.int (b01 (rg n be g i row).isSome)), (hC I A', t))) ∧ (∀ c, c ≠ 42 → A' c = A c) ∧ (∀ k, k < i → A' 42 k = A 42 k) ∧ ∀ r, rg n be g i row = some r → ∀ k, k < N → A' 42 k = nI (r k) ∧ r k < n := by
  intro g
  induction g with
  | zero =>
    intro i d m A row hi hd hb hr hm hmb
    obtain ⟨d, rfl⟩ : ∃ e, d = e + 1 := ⟨d - 1, by omega⟩
    have e : i = N := by omega
    subst e
    have hr0 := hr 0 (by omega)
    have hr1 := hr (i - 1) (by omega)
    refine ⟨A, fun t => ?_, fun c _ => rfl, fun k _ => rfl, fun r h k hk => ?_⟩
    · rw [e_X5_closes, pn_t (nI_pos' (by omega)), pn_t (nI_le (Nat.le_refl _) (by omega)), show A 42 (Int32.toNatClampNeg 0) = nI (row 0) from hr0.1, show nI i - 1 = nI (i - 1) from pn_sub (b := 1) (by omega), c_isB (by omega) n6 hb (by omega) hr1.1 hr1.2 hr0.2, pn_c1, zm01_b, cond_true]
      simp only [rg]
      by_cases c : be (row (i - 1)) (row 0) = true
      · rw [if_pos c, c]; rfl
      · rw [if_neg c, Bool.eq_false_iff.mpr c]; rfl
    · simp only [rg] at h
      by_cases c : be (row (i - 1)) (row 0) = true
      · rw [if_pos c] at h; cases h; exact hr k hk
      · rw [if_neg c] at h; cases h
  | succ g ih =>
    intro i d m A row hi hd hb hr hm hmb
    obtain ⟨d, rfl⟩ : ∃ e, d = e + 1 := ⟨d - 1, by omega⟩
    have hN0 : ¬ nI N ≤ nI i := nI_ge (by omega) (by omega)
    have loop : ∀ (j v : Nat) (A : Nat → Nat → Int32), v + j = 6 → btn n be A → (∀ k, k < i → A 42 k = nI (row k) ∧ row k < n) → ∃ A', (∀ f t, 2 * j < f → zR d f 40 34 [some (.ref 41), some (.int (nI m)), some (.int (nI i)), some (.int (nI N)), some (.int (nI v))] [] (hC I A, t) = some (some (.int (b01 (fnd1 (fun w => if okk n be row i w = true then rg n be g (i + 1) (fun k => if k = i then w else row k) else none) j v).isSome)), (hC I A', t))) ∧ (∀ c, c ≠ 42 → A' c = A c) ∧ (∀ k, k < i → A' 42 k = A 42 k) ∧ ∀ r, fnd1 (fun w => if okk n be row i w = true then rg n be g (i + 1) (fun k => if k = i then w else row k) else none) j v = some r → ∀ k, k < N → A' 42 k = nI (r k) ∧ r k < n := by
      intro j
      induction j with
      | zero =>
        intro v A hv hb hr
        refine ⟨A, fun f t hf => ?_, fun c _ => rfl, fun k _ => rfl, fun r h => by (simp only [fnd1] at h; cases h)⟩
        obtain ⟨f, rfl⟩ : ∃ e, f = e + 1 := ⟨f - 1, by omega⟩
        rw [e_X5_closes_at34, pn_t (show (6 : Int32) ≤ nI v from nI_le (a := 6) (by omega) (by omega))]
        rfl
      | succ j ihj =>
        intro v A hv hb hr
        have hg := b_get m hm v (by omega)
        rw [hmb v (by omega)] at hg
        cases c : okk n be row i v with
        | false =>
          have hF : (fun w => if okk n be row i w = true then rg n be g (i + 1) (fun k => if k = i then w else row k) else none) v = none := by
            dsimp only
            rw [if_neg (by rw [c]; decide)]
          rw [fnd1_n hF]
          obtain ⟨A', a1, a2, a3, a4⟩ := ihj (v + 1) A (by omega) hb hr
          refine ⟨A', fun f t hf => ?_, a2, a3, a4⟩
          obtain ⟨f, rfl⟩ : ∃ e, f = e + 1 + 1 := ⟨f - 2, by omega⟩
          rw [e_X5_closes_at34, pn_f (show ¬ (6 : Int32) ≤ nI v from nI_ge (b := 6) (by omega) (by decide)), nI_1]
          by_cases cl : v < n ∧ ¬ anyb (fun k => decide (row k = v)) i 0 = true
          · unfold okk at c
            rw [decide_eq_true cl.1, Bool.true_and, Bool.eq_false_iff.mpr cl.2, Bool.not_false, Bool.and_true, Bool.or_eq_false_iff] at c
            have i0 : i ≠ 0 := fun q => by rw [decide_eq_true q] at c; cases c.1
            have hr1 := hr (i - 1) (by omega)
            rw [pn_f (fun q => q (hg.mpr cl)), pn_f (nI_ne0 (by omega) (by omega)), show nI i - 1 = nI (i - 1) from pn_sub (b := 1) (by omega), c_isB (by omega) n6 hb (by omega) hr1.1 hr1.2 cl.1, pn_c1, c.2, b01_f, e_X5_closes_at64, d_00, cond_true, nI_1]
            exact a1 f t (by omega)
          · rw [pn_t (fun q => cl (hg.mp q))]
            exact a1 (f + 1) t (by omega)
        | true =>
          have c' := c
          unfold okk at c'
          rw [Bool.and_eq_true, Bool.and_eq_true, decide_eq_true_eq, Bool.or_eq_true, decide_eq_true_eq, Bool.not_eq_true'] at c'
          obtain ⟨c1, c2, c3⟩ := c'
          have c3' : ¬ anyb (fun k => decide (row k = v)) i 0 = true := by rw [c3]; decide
          have hbit := (hmb v (by omega)).mpr ⟨c1, c3'⟩
          obtain ⟨A2, a1, a2, a3, a4⟩ := ih (i + 1) d (m - 2 ^ v) (va_up A 42 (upd (A 42) i (nI v))) (fun k => if k = i then v else row k) (by omega) (by omega) (fun q hq => by rw [vu_ne (by decide)]; exact hb q hq) (fun k hk => by
            rw [vu_eq]
            by_cases e : k = i
            · subst e; rw [upd_eq, if_pos rfl]; exact ⟨rfl, c1⟩
            · rw [upd_ne e, if_neg e]; exact hr k (by omega)) (Nat.lt_of_le_of_lt (Nat.sub_le _ _) hm) (fun u hu => by
            rw [b_clr2 m hm v (by omega) hbit u hu, hmb u hu]
            constructor
            · rintro ⟨⟨q1, q2⟩, q3⟩
              refine ⟨q1, fun q => ?_⟩
              obtain ⟨x, x1, x2, x3⟩ := (anyb_iff _ _ _).mp q
              have x3 := of_decide_eq_true x3
              by_cases e : x = i
              · rw [if_pos e] at x3; exact q3 x3.symm
              · rw [if_neg e] at x3; exact q2 ((anyb_iff _ _ _).mpr ⟨x, by omega, by omega, decide_eq_true x3⟩)
            · rintro ⟨q1, q2⟩
              refine ⟨⟨q1, fun q => ?_⟩, fun q => ?_⟩
              · obtain ⟨x, x1, x2, x3⟩ := (anyb_iff _ _ _).mp q
                have x3 := of_decide_eq_true x3
                exact q2 ((anyb_iff _ _ _).mpr ⟨x, by omega, by omega, decide_eq_true (by rw [if_neg (show x ≠ i by omega)]; exact x3)⟩)
              · exact q2 ((anyb_iff _ _ _).mpr ⟨i, by omega, by omega, decide_eq_true (by rw [if_pos rfl]; exact q.symm)⟩))
          have ec : ∀ t, zC d 40 [(.ref 41), (.int (nI m &&& (((1 : Int32) <<< (nI v &&& 31)) ^^^ (-1)))), (.int (nI i + 1)), (.int (nI N))] (hC I (va_up A 42 (upd (A 42) (Int32.toNatClampNeg (nI i)) (nI v))), t) = some (some (.int (b01 (rg n be g (i + 1) (fun k => if k = i then v else row k)).isSome)), (hC I A2, t)) := fun t => by
            rw [b_clr m hm v (by omega) hbit, nI_1, pn_cl (by omega)]
            exact a1 t
          have k3 : ∀ k, k < i → A2 42 k = A 42 k := fun k hk => by rw [a3 k (by omega), vu_eq, upd_ne (by omega)]
          have k2 : ∀ c, c ≠ 42 → A2 c = A c := fun c hc => by rw [a2 c hc, vu_ne hc]
          -- the step, whatever comes of it
          have st : ∀ f t, zR d (f + 1 + 1) 40 34 [some (.ref 41), some (.int (nI m)), some (.int (nI i)), some (.int (nI N)), some (.int (nI v))] [] (hC I A, t) = (if i = 0 then (bif decide (b01 (rg n be g (i + 1) (fun k => if k = i then v else row k)).isSome = 0) then (zR d (f + 1) 40 34 [some (.ref 41), some (.int (nI m)), some (.int (nI i)), some (.int (nI N)), some (.int (nI (v + 1)))] [] (hC I A2, t)) else some (some (.int 1), (hC I A2, t))) else (bif decide (b01 (rg n be g (i + 1) (fun k => if k = i then v else row k)).isSome = 0) then (zR d f 40 34 [some (.ref 41), some (.int (nI m)), some (.int (nI i)), some (.int (nI N)), some (.int (nI (v + 1)))] [] (hC I A2, t)) else some (some (.int 1), (hC I A2, t)))) := fun f t => by
            rw [e_X5_closes_at34, pn_f (show ¬ (6 : Int32) ≤ nI v from nI_ge (b := 6) (by omega) (by decide)), pn_f (fun q => q (hg.mpr ⟨c1, c3'⟩))]
            by_cases i0 : i = 0
            · rw [if_pos i0, pn_t (show nI i = 0 by rw [i0]; rfl), pn_in (show i < 6 by omega) (by decide), cond_true, ec, pn_c1, nI_1]
            · have hr1 := hr (i - 1) (by omega)
              rw [if_neg i0, pn_f (nI_ne0 (by omega) (by omega)), show nI i - 1 = nI (i - 1) from pn_sub (b := 1) (by omega), c_isB (by omega) n6 hb (by omega) hr1.1 hr1.2 c1, pn_c1, c2.resolve_left i0, b01_t, e_X5_closes_at64, d_10, cond_false, pn_in (show i < 6 by omega) (by decide), cond_true, ec, pn_c1, nI_1]
          cases hrg : rg n be g (i + 1) (fun k => if k = i then v else row k) with
          | none =>
            have hF : (fun w => if okk n be row i w = true then rg n be g (i + 1) (fun k => if k = i then w else row k) else none) v = none := by
              dsimp only
              rw [if_pos c, hrg]
            rw [fnd1_n hF]
            obtain ⟨A', b1, b2, b3, b4⟩ := ihj (v + 1) A2 (by omega) (fun q hq => by rw [k2 43 (by decide)]; exact hb q hq) (fun k hk => by rw [k3 k hk]; exact hr k hk)
            refine ⟨A', fun f t hf => ?_, fun c hc => (b2 c hc).trans (k2 c hc), fun k hk => (b3 k hk).trans (k3 k hk), b4⟩
            obtain ⟨f, rfl⟩ : ∃ e, f = e + 1 + 1 := ⟨f - 2, by omega⟩
            rw [st, hrg]
            by_cases i0 : i = 0
            · rw [if_pos i0]; exact b1 (f + 1) t (by omega)
            · rw [if_neg i0]; exact b1 f t (by omega)
          | some r =>
            have hF : (fun w => if okk n be row i w = true then rg n be g (i + 1) (fun k => if k = i then w else row k) else none) v = some r := by
              dsimp only
              rw [if_pos c, hrg]
            rw [fnd1_s hF]
            refine ⟨A2, fun f t hf => ?_, k2, k3, fun r' h => ?_⟩
            · obtain ⟨f, rfl⟩ : ∃ e, f = e + 1 + 1 := ⟨f - 2, by omega⟩
              rw [st, hrg]
              by_cases i0 : i = 0
              · rw [if_pos i0]; rfl
              · rw [if_neg i0]; rfl
            · cases h; exact a4 r hrg
    obtain ⟨A', a1, a2, a3, a4⟩ := loop 6 0 A (by omega) hb hr
    refine ⟨A', fun t => ?_, a2, a3, a4⟩
    rw [e_X5_closes, pn_t (nI_pos' (by omega)), pn_f hN0, pn_t (show nI i < (6 : Int32) from nI_lt (b := 6) (by omega) (by decide))]
    exact a1 10000000 t (by omega)
/-! the reference's -/
theorem r_rscan (d : Nat) {i N v : Nat} {row : Nat → Nat} (hi6 : i ≤ 6) (hv6 : v ≤ 6) (hr : ∀ k, k < i → B 14 k = nI (row k) ∧ row k < 2 ^ 31) : ∀ (j k f : Nat) (b : Bool), k + j = i → zR d (f + j) 157 84 [some (.ref 1000), some (.int (nI i)), some (.int (nI N)), some (.int (nI v)), some (.int (b01 b)), some (.int (nI k))] [] (t, hM J B L) = zR d f 157 84 [some (.ref 1000), some (.int (nI i)), some (.int (nI N)), some (.int (nI v)), some (.int (b01 (b && !anyb (fun k => decide (row k = v)) j k))), some (.int (nI i))] [] (t, hM J B L) := by
  intro j
  induction j with
  | zero =>
    intro k f b hk
    have : k = i := by omega
    subst this
    rw [Nat.add_zero]
    simp only [anyb, Bool.not_false, Bool.and_true]
  | succ j ih =>
    intro k f b hk
    have h1 := hr k (by omega)
    rw [show f + (j + 1) = (f + j) + 1 from rfl, e_X10_rings_at84, pn_f (nI_ge (by omega) (by omega)), pn_in (show k < 6 by omega) (by decide), cond_true, pn_cl (by omega), h1.1, pn_eq h1.2 (by omega), nI_1]
    simp only [anyb]
    by_cases c : row k = v
    · rw [pn_t c, if_pos (by simpa using c), show b01 b &&& 0 = b01 false by cases b <;> rfl, ih (k + 1) f false (by omega)]
      rw [Bool.false_and, Bool.not_true, Bool.and_false]
    · rw [pn_f c, if_neg (by simpa using c), show b01 b &&& 1 = b01 b by cases b <;> rfl, ih (k + 1) f b (by omega)]
theorem r_rings {be : Nat → Nat → Bool} {N : Nat} (n6 : n ≤ 6) (N3 : 3 ≤ N) (N6 : N ≤ 6) (hJ : J 0 = nI s) (hn : J 2 = nI n) (hbe : ∀ i j, be i j = bt s (w i) (w j)) : ∀ (g i d : Nat) (B : Nat → Nat → Int32) (row : Nat → Nat), i + g = N → g + 10 ≤ d → (∀ i, i < n → B 1 i = nI (w i) ∧ okw s (w i) = true) → (∀ k, k < i → B 14 k = nI (row k) ∧ row k < n) → ∃ B', (∀ t, zC d 157 [.ref 1000, .int (nI i), .int (nI N)] (t, hM J B L) = some (some (.int (b01 (rg n be g i row).isSome)), (t, hM J B' L))) ∧ (∀ c, c ≠ 14 → B' c = B c) ∧ (∀ k, k < i → B' 14 k = B 14 k) ∧ ∀ r, rg n be g i row = some r → ∀ k, k < N → B' 14 k = nI (r k) ∧ r k < n := by
  intro g
  induction g with
  | zero =>
    intro i d B row hi hd hw hr
    obtain ⟨d, rfl⟩ : ∃ e, d = e + 1 := ⟨d - 1, by omega⟩
    have e : i = N := by omega
    subst e
    have hr0 := hr 0 (by omega)
    have hr1 := hr (i - 1) (by omega)
    have w0 := hw _ hr0.2
    have w1 := hw _ hr1.2
    have l0 := okw_lt w0.2
    have l1 := okw_lt w1.2
    refine ⟨B, fun t => ?_, fun c _ => rfl, fun k _ => rfl, fun r h k hk => ?_⟩
    · rw [e_X10_rings, pn_f (fun q => q rfl), show nI i - 1 = nI (i - 1) from pn_sub (b := 1) (by omega), pn_in (show i - 1 < 6 by omega) (by decide), cond_true, pn_cl (by omega), hr1.1, pn_in (show row (i - 1) < 6 by omega) (by decide), cond_true, show B 14 (Int32.toNatClampNeg 0) = nI (row 0) from hr0.1, pn_in (show row 0 < 6 by omega) (by decide), cond_true, pn_cl (show row (i - 1) < 2 ^ 31 by omega), pn_cl (show row 0 < 2 ^ 31 by omega), w1.1, w0.1, r_beats (by omega) t J B L hJ l1.1 l1.2 l0.1 l0.2, pn_c1, zm01_b, cond_true]
      simp only [rg]
      rw [hbe]
      by_cases c : bt s (w (row (i - 1))) (w (row 0)) = true
      · rw [if_pos c, c]; rfl
      · rw [if_neg c, Bool.eq_false_iff.mpr c]; rfl
    · simp only [rg] at h
      by_cases c : be (row (i - 1)) (row 0) = true
      · rw [if_pos c] at h; cases h; exact hr k hk
      · rw [if_neg c] at h; cases h
  | succ g ih =>
    intro i d B row hi hd hw hr
    obtain ⟨d, rfl⟩ : ∃ e, d = e + 1 := ⟨d - 1, by omega⟩
    have nN : ¬ nI i = nI N := fun q => by
      have := (nI_eq (by omega) (by omega)).mp q
      omega
    have loop : ∀ (j v : Nat) (B : Nat → Nat → Int32), v + j = 6 → (∀ i, i < n → B 1 i = nI (w i) ∧ okw s (w i) = true) → (∀ k, k < i → B 14 k = nI (row k) ∧ row k < n) → ∃ B', (∀ f t o4 o5, 12 * j + 12 < f → zR d f 157 36 [some (.ref 1000), some (.int (nI i)), some (.int (nI N)), some (.int (nI v)), o4, o5] [] (t, hM J B L) = some (some (.int (b01 (fnd1 (fun w => if okk n be row i w = true then rg n be g (i + 1) (fun k => if k = i then w else row k) else none) j v).isSome)), (t, hM J B' L))) ∧ (∀ c, c ≠ 14 → B' c = B c) ∧ (∀ k, k < i → B' 14 k = B 14 k) ∧ ∀ r, fnd1 (fun w => if okk n be row i w = true then rg n be g (i + 1) (fun k => if k = i then w else row k) else none) j v = some r → ∀ k, k < N → B' 14 k = nI (r k) ∧ r k < n := by
      intro j
      induction j with
      | zero =>
        intro v B hv hw hr
        refine ⟨B, fun f t o4 o5 hf => ?_, fun c _ => rfl, fun k _ => rfl, fun r h => by (simp only [fnd1] at h; cases h)⟩
        obtain ⟨f, rfl⟩ : ∃ e, f = e + 1 := ⟨f - 1, by omega⟩
        rw [e_X10_rings_at36, hn, pn_t (nI_le (by omega) (by omega))]
        rfl
      | succ j ihj =>
        intro v B hv hw hr
        by_cases vn : v < n
        · -- the test of this word
          have hr' : ∀ k, k < i → B 14 k = nI (row k) ∧ row k < 2 ^ 31 := fun k hk => ⟨(hr k hk).1, by have := (hr k hk).2; omega⟩
          have hwv := hw v vn
          have lv := okw_lt hwv.2
          have tst : ∀ f t o4 o5, zR d (f + 1 + i + 1) 157 36 [some (.ref 1000), some (.int (nI i)), some (.int (nI N)), some (.int (nI v)), o4, o5] [] (t, hM J B L) = zR d (f + 1) 157 84 [some (.ref 1000), some (.int (nI i)), some (.int (nI N)), some (.int (nI v)), some (.int (b01 (okk n be row i v))), some (.int (nI i))] [] (t, hM J B L) := fun f t o4 o5 => by
            rw [e_X10_rings_at36, hn, pn_f (nI_ge vn (by omega))]
            unfold okk
            rw [decide_eq_true vn, Bool.true_and]
            by_cases i0 : i = 0
            · rw [pn_t (show nI i = 0 by rw [i0]; rfl), decide_eq_true i0, Bool.true_or]
              exact r_rscan (J := J) (L := L) (N := N) (t := t) d (show i ≤ 6 by omega) (show v ≤ 6 by omega) hr' i 0 (f + 1) true (by omega)
            · have hr1 := hr (i - 1) (by omega)
              have w1 := hw _ hr1.2
              have l1 := okw_lt w1.2
              rw [pn_f (nI_ne0 (by omega) (by omega)), show nI i - 1 = nI (i - 1) from pn_sub (b := 1) (by omega), pn_in (show i - 1 < 6 by omega) (by decide), cond_true, pn_cl (show i - 1 < 2 ^ 31 by omega), hr1.1, pn_in (show row (i - 1) < 6 by omega) (by decide), cond_true, pn_in (show v < 6 by omega) (by decide), cond_true, pn_cl (show row (i - 1) < 2 ^ 31 by omega), pn_cl (show v < 2 ^ 31 by omega), w1.1, hwv.1, r_beats (by omega) t J B L hJ l1.1 l1.2 lv.1 lv.2, pn_c1, decide_eq_false i0, Bool.false_or, hbe]
              cases hb : bt s (w (row (i - 1))) (w v) with
              | true =>
                rw [b01_t, d_10, cond_false]
                exact r_rscan (J := J) (L := L) (N := N) (t := t) d (show i ≤ 6 by omega) (show v ≤ 6 by omega) hr' i 0 (f + 1) true (by omega)
              | false =>
                rw [b01_f, d_00, cond_true]
                exact r_rscan (J := J) (L := L) (N := N) (t := t) d (show i ≤ 6 by omega) (show v ≤ 6 by omega) hr' i 0 (f + 1) false (by omega)
          cases c : okk n be row i v with
          | false =>
            have hF : (fun w => if okk n be row i w = true then rg n be g (i + 1) (fun k => if k = i then w else row k) else none) v = none := by
              dsimp only
              rw [if_neg (by rw [c]; decide)]
            rw [fnd1_n hF]
            obtain ⟨B', a1, a2, a3, a4⟩ := ihj (v + 1) B (by omega) hw hr
            refine ⟨B', fun f t o4 o5 hf => ?_, a2, a3, a4⟩
            obtain ⟨f, rfl⟩ : ∃ e, f = e + 1 + i + 1 := ⟨f - 2 - i, by omega⟩
            rw [tst, c, e_X10_rings_at84, pn_t (nI_le (Nat.le_refl _) (by omega)), b01_f, d_n00, cond_false, nI_1]
            exact a1 f t _ _ (by omega)
          | true =>
            obtain ⟨B2, a1, a2, a3, a4⟩ := ih (i + 1) d (va_up B 14 (upd (B 14) i (nI v))) (fun k => if k = i then v else row k) (by omega) (by omega) (fun q hq => by rw [vu_ne (by decide)]; exact hw q hq) (fun k hk => by
              rw [vu_eq]
              by_cases e : k = i
              · subst e; rw [upd_eq, if_pos rfl]; exact ⟨rfl, vn⟩
              · rw [upd_ne e, if_neg e]; exact hr k (by omega))
            have k3 : ∀ k, k < i → B2 14 k = B 14 k := fun k hk => by rw [a3 k (by omega), vu_eq, upd_ne (by omega)]
            have k2 : ∀ c, c ≠ 14 → B2 c = B c := fun c hc => by rw [a2 c hc, vu_ne hc]
            have st : ∀ f t, zR d (f + 1) 157 84 [some (.ref 1000), some (.int (nI i)), some (.int (nI N)), some (.int (nI v)), some (.int (b01 true)), some (.int (nI i))] [] (t, hM J B L) = bif decide (b01 (rg n be g (i + 1) (fun k => if k = i then v else row k)).isSome = 0) then (zR d f 157 36 [some (.ref 1000), some (.int (nI i)), some (.int (nI N)), some (.int (nI (v + 1))), some (.int (b01 true)), some (.int (nI i))] [] (t, hM J B2 L)) else some (some (.int 1), (t, hM J B2 L)) := fun f t => by
              rw [e_X10_rings_at84, pn_t (nI_le (Nat.le_refl _) (by omega)), pn_t (show ¬ b01 true = 0 by decide), pn_in (show i < 6 by omega) (by decide), cond_true, pn_cl (show i < 2 ^ 31 by omega), nI_1, a1 t, pn_c1, nI_1]
            cases hrg : rg n be g (i + 1) (fun k => if k = i then v else row k) with
            | none =>
              have hF : (fun w => if okk n be row i w = true then rg n be g (i + 1) (fun k => if k = i then w else row k) else none) v = none := by
                dsimp only
                rw [if_pos c, hrg]
              rw [fnd1_n hF]
              obtain ⟨B', b1, b2, b3, b4⟩ := ihj (v + 1) B2 (by omega) (fun q hq => by rw [k2 1 (by decide)]; exact hw q hq) (fun k hk => by rw [k3 k hk]; exact hr k hk)
              refine ⟨B', fun f t o4 o5 hf => ?_, fun c hc => (b2 c hc).trans (k2 c hc), fun k hk => (b3 k hk).trans (k3 k hk), b4⟩
              obtain ⟨f, rfl⟩ : ∃ e, f = e + 1 + i + 1 := ⟨f - 2 - i, by omega⟩
              rw [tst, c, st, hrg]
              exact b1 f t _ _ (by omega)
            | some r =>
              have hF : (fun w => if okk n be row i w = true then rg n be g (i + 1) (fun k => if k = i then w else row k) else none) v = some r := by
                dsimp only
                rw [if_pos c, hrg]
              rw [fnd1_s hF]
              refine ⟨B2, fun f t o4 o5 hf => ?_, k2, k3, fun r' h => ?_⟩
              · obtain ⟨f, rfl⟩ : ∃ e, f = e + 1 + i + 1 := ⟨f - 2 - i, by omega⟩
                rw [tst, c, st, hrg]
                rfl
              · cases h; exact a4 r hrg
        · have hz : fnd1 (fun w => if okk n be row i w = true then rg n be g (i + 1) (fun k => if k = i then w else row k) else none) (j + 1) v = none := fnd1_0 (j + 1) v (fun u hu => by
            rw [okk_n (by omega), if_neg (by decide)])
          rw [hz]
          refine ⟨B, fun f t o4 o5 hf => ?_, fun c _ => rfl, fun k _ => rfl, fun r h => by cases h⟩
          obtain ⟨f, rfl⟩ : ∃ e, f = e + 1 := ⟨f - 1, by omega⟩
          rw [e_X10_rings_at36, hn, pn_t (nI_le (by omega) (by omega))]
          rfl
    obtain ⟨B', a1, a2, a3, a4⟩ := loop 6 0 B (by omega) hw hr
    refine ⟨B', fun t => ?_, a2, a3, a4⟩
    rw [e_X10_rings, pn_t nN]
    exact a1 10000000 t _ _ (by omega)
/-- the shortest ring -/
def rgs (n : Nat) (be : Nat → Nat → Bool) : Nat → Nat → Option (Nat × (Nat → Nat))
  | 0, _ => none
  | j + 1, N => match rg n be N 0 (fun _ => 0) with
    | some r => some (N, r)
    | none => rgs n be j (N + 1)
theorem rgs_s {be : Nat → Nat → Bool} {j N : Nat} {r : Nat → Nat} (h : rg n be N 0 (fun _ => 0) = some r) : rgs n be (j + 1) N = some (N, r) := by simp only [rgs, h]
theorem rgs_n {be : Nat → Nat → Bool} {j N : Nat} (h : rg n be N 0 (fun _ => 0) = none) : rgs n be (j + 1) N = rgs n be j (N + 1) := by simp only [rgs, h]
theorem c_beatI (d : Nat) (hd : 5 ≤ d) {x2 : Int32} {be : Nat → Nat → Bool} {i : Nat} (n6 : n ≤ 6) (hs : I 100 = nI s) (hn : I 102 = nI n) (hi : i < n) (hbe : ∀ i j, be i j = bt s (w i) (w j)) : ∀ (j v f : Nat) (A : Nat → Nat → Int32), v + j = n → (∀ i, i < n → A 2 i = nI (w i) ∧ okw s (w i) = true) → A 43 i = nI (bmk (be i) v) → ∃ A', (∀ t, zR d (f + (3 * j + 1)) 39 27 [some (.ref 41), some (.ref 1), some (.int (nI n)), some (.int (nI i)), some (.int (nI v))] [] (hC I A, t) = zR d f 39 12 [some (.ref 41), some (.ref 1), some (.int (nI n)), some (.int (nI (i + 1))), some (.int (nI n))] [] (hC I A', t)) ∧ (∀ c, c ≠ 43 → A' c = A c) ∧ (∀ k, k ≠ i → A' 43 k = A 43 k) ∧ A' 43 i = nI (bmk (be i) n) := by
  intro j
  induction j with
  | zero =>
    intro v f A hv hw hA
    have e : v = n := by omega
    subst e
    refine ⟨A, fun t => ?_, fun c _ => rfl, fun k _ => rfl, hA⟩
    rw [show f + (3 * 0 + 1) = f + 1 from rfl, e_X5_find_41_1_at27, pn_t (nI_le (Nat.le_refl _) (by omega)), nI_1]
  | succ j ih =>
    intro v f A hv hw hA
    have wi := hw i hi
    have wv := hw v (by omega)
    have li := okw_lt wi.2
    have lv := okw_lt wv.2
    have hl := bmk_lt (be i) v
    have e0 : ∀ t, zR d (f + (3 * (j + 1) + 1)) 39 27 [some (.ref 41), some (.ref 1), some (.int (nI n)), some (.int (nI i)), some (.int (nI v))] [] (hC I A, t) = zR d (f + (3 * j + 1) + 1) 39 51 [some (.ref 41), some (.ref 1), some (.int (nI n)), some (.int (nI i)), some (.int (nI v))] [(.int (b01 (be i v)))] (hC I A, t) := fun t => by
      rw [show f + (3 * (j + 1) + 1) = f + (3 * j + 1) + 1 + 1 + 1 by omega, e_X5_find_41_1_at27, pn_f (nI_ge (by omega) (by omega)), c_wa (by omega) hn n6 hi, pn_c1, wi.1, c_wa (by omega) hn n6 (by omega), pn_c1, wv.1, e_X5_find_41_1_at44, hs, s_beats hd _ li.2 lv.2, pn_c1, hbe]
    cases hb : be i v with
    | true =>
      obtain ⟨A', a1, a2, a3, a4⟩ := ih (v + 1) f (va_up A 43 (upd (A 43) i (nI (bmk (be i) v + 2 ^ v)))) (by omega) (fun q hq => by rw [vu_ne (by decide)]; exact hw q hq) (by
        rw [vu_eq, upd_eq]
        simp only [bmk]
        rw [if_pos hb])
      refine ⟨A', fun t => ?_, fun c hc => by rw [a2 c hc, vu_ne hc], fun k hk => by rw [a3 k hk, vu_eq, upd_ne hk], a4⟩
      rw [e0, hb, b01_t, e_X5_find_41_1_at51, d_10, cond_false, pn_in (show i < 6 by omega) (by decide), cond_true, cond_true, pn_cl (show i < 2 ^ 31 by omega), hA, b_or v (by omega) _ hl, nI_1]
      exact a1 t
    | false =>
      obtain ⟨A', a1, a2, a3, a4⟩ := ih (v + 1) f A (by omega) hw (by
        rw [hA]
        simp only [bmk]
        rw [if_neg (by rw [hb]; decide), Nat.add_zero])
      refine ⟨A', fun t => ?_, a2, a3, a4⟩
      rw [e0, hb, b01_f, e_X5_find_41_1_at51, d_00, cond_true, nI_1]
      exact a1 t
theorem c_beatO (d : Nat) (hd : 5 ≤ d) {be : Nat → Nat → Bool} (n6 : n ≤ 6) (hs : I 100 = nI s) (hn : I 102 = nI n) (hbe : ∀ i j, be i j = bt s (w i) (w j)) : ∀ (j i : Nat) (A : Nat → Nat → Int32), i + j = n → (∀ i, i < n → A 2 i = nI (w i) ∧ okw s (w i) = true) → (∀ k, k < i → A 43 k = nI (bmk (be k) n)) → ∃ A', (∀ (R : Option zm_R) (t : List zm_E) (F0 : Nat), (∀ f o4, F0 < f → zR d f 39 81 [some (.ref 41), some (.ref 1), some (.int (nI n)), some (.int (nI 3)), o4] [] (hC I A', t) = R) → ∀ f o4, F0 + 30 * j + 1 < f → zR d f 39 12 [some (.ref 41), some (.ref 1), some (.int (nI n)), some (.int (nI i)), o4] [] (hC I A, t) = R) ∧ (∀ c, c ≠ 43 → A' c = A c) ∧ btn n be A' := by
  intro j
  induction j with
  | zero =>
    intro i A hi hw hA
    have e : i = n := by omega
    subst e
    refine ⟨A, fun R t F0 hR f o4 hf => ?_, fun c _ => rfl, hA⟩
    obtain ⟨f, rfl⟩ : ∃ e, f = e + 1 := ⟨f - 1, by omega⟩
    rw [e_X5_find_41_1_at12, pn_t (nI_le (Nat.le_refl _) (by omega))]
    exact hR f o4 (by omega)
  | succ j ih =>
    intro i A hi hw hA
    have hb := fun f => c_beatI (w := w) (x2 := 0) d hd n6 hs hn (show i < n by omega) hbe n 0 f (va_up A 43 (upd (A 43) i 0)) (by omega) (fun q hq => by rw [vu_ne (by decide)]; exact hw q hq) (by rw [vu_eq, upd_eq]; rfl)
    obtain ⟨A1, -, a2, a3, a4⟩ := hb 0
    -- the same row for every fuel
    have hAA : ∀ f, ∃ A', (∀ t, zR d (f + (3 * n + 1)) 39 27 [some (.ref 41), some (.ref 1), some (.int (nI n)), some (.int (nI i)), some (.int (nI 0))] [] (hC I (va_up A 43 (upd (A 43) i 0)), t) = zR d f 39 12 [some (.ref 41), some (.ref 1), some (.int (nI n)), some (.int (nI (i + 1))), some (.int (nI n))] [] (hC I A', t)) ∧ (∀ c, c ≠ 43 → A' c = va_up A 43 (upd (A 43) i 0) c) ∧ (∀ k, k ≠ i → A' 43 k = va_up A 43 (upd (A 43) i 0) 43 k) ∧ A' 43 i = nI (bmk (be i) n) := hb
    have same : ∀ (f : Nat) (A' : Nat → Nat → Int32), (∀ c, c ≠ 43 → A' c = va_up A 43 (upd (A 43) i 0) c) → (∀ k, k ≠ i → A' 43 k = va_up A 43 (upd (A 43) i 0) 43 k) → A' 43 i = nI (bmk (be i) n) → A' = A1 := fun f A' g2 g3 g4 => by
      funext c k
      by_cases e : c = 43
      · subst e
        by_cases e2 : k = i
        · rw [e2, g4, a4]
        · rw [g3 k e2, a3 k e2]
      · rw [g2 c e, a2 c e]
    obtain ⟨A', b1, b2, b3⟩ := ih (i + 1) A1 (by omega) (fun q hq => by rw [a2 2 (by decide), vu_ne (by decide)]; exact hw q hq) (fun k hk => by
      by_cases e : k = i
      · rw [e]; exact a4
      · rw [a3 k e, vu_eq, upd_ne e]; exact hA k (by omega))
    refine ⟨A', fun R t F0 hR f o4 hf => ?_, fun c hc => by rw [b2 c hc, a2 c hc, vu_ne hc], b3⟩
    obtain ⟨f, rfl⟩ : ∃ e, f = e + (3 * n + 1) + 1 := ⟨f - 3 * n - 2, by omega⟩
    obtain ⟨A2, g1, g2, g3, g4⟩ := hAA f
    have e2 := same f A2 g2 g3 g4
    subst e2
    rw [e_X5_find_41_1_at12, pn_f (nI_ge (by omega) (by omega)), pn_in (show i < 6 by omega) (by decide), cond_true, pn_cl (show i < 2 ^ 31 by omega)]
    have g1' := g1 t
    rw [show nI 0 = (0 : Int32) from rfl] at g1'
    rw [g1']
    exact b1 R t F0 hR f _ (by omega)
def ksz : Option (Nat × (Nat → Nat)) → Int32
  | none => 0
  | some q => nI q.1
theorem rgs_le {be : Nat → Nat → Bool} : ∀ j N K r, rgs n be j N = some (K, r) → N ≤ K ∧ K < N + j
  | 0, N, K, r, h => by simp only [rgs] at h; cases h
  | j + 1, N, K, r, h => by
    cases e : rg n be N 0 (fun _ => 0) with
    | some r' => rw [rgs_s e] at h; cases h; omega
    | none => rw [rgs_n e] at h; have := rgs_le j (N + 1) K r h; omega
theorem c_findL (d : Nat) (hd : 16 ≤ d) {be : Nat → Nat → Bool} (n6 : n ≤ 6) : ∀ (j N : Nat) (A : Nat → Nat → Int32), j = n + 1 - N → 3 ≤ N → N ≤ 100 → btn n be A → ∃ A', (∀ f t o4, j < f → zR d f 39 81 [some (.ref 41), some (.ref 1), some (.int (nI n)), some (.int (nI N)), o4] [] (hC I A, t) = some (some (.int (ksz (rgs n be j N))), (hC I A', t))) ∧ (∀ c, c ≠ 42 → A' c = A c) ∧ ∀ K r, rgs n be j N = some (K, r) → ∀ k, k < K → A' 42 k = nI (r k) ∧ r k < n := by
  intro j
  induction j with
  | zero =>
    intro N A hj hN h100 hb
    refine ⟨A, fun f t o4 hf => ?_, fun c _ => rfl, fun K r h => by (simp only [rgs] at h; cases h)⟩
    obtain ⟨f, rfl⟩ : ∃ e, f = e + 1 := ⟨f - 1, by omega⟩
    rw [e_X5_find_41_1_at81, pn_t (nI_lt (by omega) (by omega))]
    rfl
  | succ j ih =>
    intro N A hj hN h100 hb
    obtain ⟨h1, h2, h3⟩ := b_all n n6
    obtain ⟨A1, a1, a2, a3, a4⟩ := c_closes (I := I) (be := be) n6 hN (show N ≤ 6 by omega) N 0 d (2 ^ n - 1) A (fun _ => 0) (by omega) (by omega) hb (fun k hk => by omega) h2 (fun v hv => by
      rw [h3 v hv]
      exact ⟨fun q => ⟨q, fun q => by simp only [anyb] at q; cases q⟩, fun q => q.1⟩)
    have a1' : ∀ t, zC d 40 [.ref 41, .int (nI (2 ^ n - 1)), .int 0, .int (nI N)] (hC I A, t) = _ := a1
    cases e : rg n be N 0 (fun _ => 0) with
    | some r =>
      rw [rgs_s e]
      refine ⟨A1, fun f t o4 hf => ?_, a2, fun K r' h => by (cases h; exact a4 r e)⟩
      obtain ⟨f, rfl⟩ : ∃ e, f = e + 1 := ⟨f - 1, by omega⟩
      rw [e_X5_find_41_1_at81, pn_f (nI_nlt (by omega) (by omega)), h1, a1', pn_c1, e]
      rfl
    | none =>
      rw [rgs_n e]
      obtain ⟨A', b1, b2, b3⟩ := ih (N + 1) A1 (by omega) (by omega) (by omega) (fun q hq => by rw [a2 43 (by decide)]; exact hb q hq)
      refine ⟨A', fun f t o4 hf => ?_, fun c hc => (b2 c hc).trans (a2 c hc), b3⟩
      obtain ⟨f, rfl⟩ : ∃ e, f = e + 1 := ⟨f - 1, by omega⟩
      rw [e_X5_find_41_1_at81, pn_f (nI_nlt (by omega) (by omega)), h1, a1', pn_c1, e, nI_1]
      exact b1 f t o4 (by omega)
def rgA (x : Int32) : Option (Nat × (Nat → Nat)) → Int32
  | none => -5
  | some q => if x = -1 then nI q.1 else if x < 0 ∨ nI q.1 ≤ x then -5 else nI (q.2 x.toNatClampNeg)
theorem r_ringL (d : Nat) (hd : 17 ≤ d) {x : Int32} {be : Nat → Nat → Bool} (n6 : n ≤ 6) (hJ : J 0 = nI s) (hn : J 2 = nI n) (hbe : ∀ i j, be i j = bt s (w i) (w j)) : ∀ (j N : Nat) (B : Nat → Nat → Int32), j = n + 1 - N → 3 ≤ N → N ≤ 100 → (∀ i, i < n → B 1 i = nI (w i) ∧ okw s (w i) = true) → ∃ B', (∀ f t, 2 * j < f → zR d f 158 2 [some (.ref 1000), some (.int x), some (.int (nI N))] [] (t, hM J B L) = some (some (.int (rgA x (rgs n be j N))), (t, hM J B' L))) ∧ ∀ c, c ≠ 14 → B' c = B c := by
  intro j
  induction j with
  | zero =>
    intro N B hj hN h100 hw
    refine ⟨B, fun f t hf => ?_, fun c _ => rfl⟩
    obtain ⟨f, rfl⟩ : ∃ e, f = e + 1 := ⟨f - 1, by omega⟩
    rw [e_X10_ring_at2, hn, pn_t (nI_lt (by omega) (by omega))]
    rfl
  | succ j ih =>
    intro N B hj hN h100 hw
    obtain ⟨B1, a1, a2, a3, a4⟩ := r_rings (L := L) (be := be) n6 hN (show N ≤ 6 by omega) hJ hn hbe N 0 d B (fun _ => 0) (by omega) (by omega) hw (fun k hk => by omega)
    have a1' : ∀ t, zC d 157 [.ref 1000, .int 0, .int (nI N)] (t, hM J B L) = _ := a1
    cases e : rg n be N 0 (fun _ => 0) with
    | some r =>
      rw [rgs_s e]
      refine ⟨B1, fun f t hf => ?_, a2⟩
      obtain ⟨f, rfl⟩ : ∃ e, f = e + 1 + 1 := ⟨f - 2, by omega⟩
      rw [e_X10_ring_at2, hn, pn_f (nI_nlt (by omega) (by omega)), a1', pn_c1, e, show b01 (some r).isSome = 1 from rfl, d_n10, cond_true]
      unfold rgA
      dsimp only
      by_cases x1 : x = -1
      · rw [pn_f (fun q => q x1), if_pos x1]
      · rw [pn_t x1, if_neg x1, r_in (by omega), pn_c1, e_X10_ring_at39]
        by_cases xr : x < 0 ∨ nI N ≤ x
        · rw [i_in0 (by omega) xr, b01_f, d_00, cond_true, if_pos xr]
        · obtain ⟨k, hk, rfl⟩ := i_nneg (n := N) (by omega) (fun q => xr (Or.inl q)) (fun q => xr (Or.inr q))
          rw [i_in1 (by omega) hk, b01_t, d_10, cond_false, pn_in (show k < 6 by omega) (by decide), cond_true, if_neg xr, pn_cl (by omega), (a4 r e k hk).1]
    | none =>
      rw [rgs_n e]
      obtain ⟨B', b1, b2⟩ := ih (N + 1) B1 (by omega) (by omega) (by omega) (fun q hq => by rw [a2 1 (by decide)]; exact hw q hq)
      refine ⟨B', fun f t hf => ?_, fun c hc => (b2 c hc).trans (a2 c hc)⟩
      obtain ⟨f, rfl⟩ : ∃ e, f = e + 1 := ⟨f - 1, by omega⟩
      rw [e_X10_ring_at2, hn, pn_f (nI_nlt (by omega) (by omega)), a1', pn_c1, e, show b01 (none : Option (Nat → Nat)).isSome = 0 from rfl, d_n00, cond_false, nI_1]
      exact b1 f t (by omega)
theorem P_ring (h : Rel I A J B) (x : Int32) : Ans 87 158 [.int x] I A J B L := by
  have hh := h
  obtain ⟨⟨⟨s, ⟨n, w⟩, ⟨z, l⟩, ⟨p, k, o⟩, ⟨r, a, v⟩⟩, hv, hc, hm⟩, -⟩ := h
  have c1 : I 100 = nI s := hc.1
  have m1 : J 0 = nI s := hm.1
  have c2 : I 102 = nI n := hc.2.1.1
  have m2 : J 2 = nI n := hm.2.1.1
  have n6 : n ≤ 6 := hv.2.1.1
  have wc : ∀ i, i < n → A 2 i = nI (w i) ∧ okw s (w i) = true := fun i hi => ⟨hc.2.1.2 i hi, hv.2.1.2 i hi⟩
  have wm : ∀ i, i < n → B 1 i = nI (w i) ∧ okw s (w i) = true := fun i hi => ⟨hm.2.1.2 i hi, hv.2.1.2 i hi⟩
  have e1 := fun t => e_X9_ring 59 I A t x
  have e2 := fun t => e_X10_ring 59 J B L t x
  obtain ⟨A1, a1, a2, a3⟩ := c_beatO (I := I) (be := fun i j => bt s (w i) (w j)) 58 (by omega) n6 c1 c2 (fun _ _ => rfl) n 0 A (by omega) wc (fun k hk => by omega)
  obtain ⟨A2, b1, b2, b3⟩ := c_findL (I := I) (be := fun i j => bt s (w i) (w j)) 58 (by omega) n6 (n + 1 - 3) 3 A1 rfl (by omega) (by omega) a3
  obtain ⟨B', q1, q2⟩ := r_ringL (L := L) (be := fun i j => bt s (w i) (w j)) (x := x) 59 (by omega) n6 m1 m2 (fun _ _ => rfl) (n + 1 - 3) 3 B rfl (by omega) (by omega) wm
  have hmin : (if 6 < nI n then (6 : Int32) else nI n) = nI n := if_neg (show ¬ (6 : Int32) < nI n from nI_nlt (a := 6) n6 (by decide))
  have f1 : ∀ t, zC 59 39 [.ref 41, .ref 1] (hC I A, t) = some (some (.int (ksz (rgs n (fun i j => bt s (w i) (w j)) (n + 1 - 3) 3))), (hC I A2, t)) := fun t => by
    rw [e_X5_find_41_1, c2, hmin]
    exact a1 _ t 100 (fun f o4 hf => b1 f t o4 (by omega)) 10000000 none (by omega)
  have hle := rgs_le (n := n) (be := fun i j => bt s (w i) (w j)) (n + 1 - 3) 3
  have hR : Rel I A2 J B' := Rel_fr hh (fun c _ => rfl) (fun c hc _ => (b2 c (by omega)).trans (a2 c (by omega))) (fun c _ => rfl) (fun c hc => q2 c (by omega))
  have q1' : ∀ t, zR 59 10000000 158 2 [some (.ref 1000), some (.int x), some (.int 3)] [] (t, hM J B L) = _ := fun t => q1 10000000 t (by omega)
  simp only [f1, pn_c1, F1, e_X9_ring_at11] at e1
  generalize rgs n (fun i j => bt s (w i) (w j)) (n + 1 - 3) 3 = G at e1 q1' b3 hle
  refine ⟨rgA x G, I, A2, J, B', L, fun t => ?_, fun t => (e2 t).trans (q1' t), hR⟩
  rw [e1 t]
  cases G with
  | none => rfl
  | some q =>
    obtain ⟨K, r'⟩ := q
    have hK := hle K r' rfl
    have h3 := b3 K r' rfl
    unfold rgA ksz
    dsimp only
    rw [pn_f (nI_ne0 (by omega) (by omega))]
    by_cases x1 : x = -1
    · rw [if_pos x1, pn_f (show ¬ x < -1 by rw [x1]; decide), pn_t (show x < nI K by
        rw [x1]
        apply Int32.lt_iff_toInt_lt.mpr
        rw [nI_toInt (by omega)]
        have e1 : (-1 : Int32).toInt = -1 := rfl
        omega), pn_f (fun q => q x1)]
    · rw [if_neg x1]
      by_cases x0 : x < 0
      · have xm : x < -1 := by
          have g1 := Int32.lt_iff_toInt_lt.mp x0
          have e0 : (0 : Int32).toInt = 0 := rfl
          have e1 : (-1 : Int32).toInt = -1 := rfl
          apply Int32.lt_iff_toInt_lt.mpr
          have : x.toInt ≠ -1 := fun q => x1 (Int32.toInt_inj.mp (by rw [q]; rfl))
          omega
        rw [if_pos (Or.inl x0), pn_t xm]
      · have xm : ¬ x < -1 := fun q => x0 (by
          have g1 := Int32.lt_iff_toInt_lt.mp q
          have e0 : (0 : Int32).toInt = 0 := rfl
          have e1 : (-1 : Int32).toInt = -1 := rfl
          apply Int32.lt_iff_toInt_lt.mpr
          omega)
        rw [pn_f xm]
        by_cases xK : nI K ≤ x
        · rw [if_pos (Or.inr xK), pn_f (Int32.not_lt.mpr xK)]
        · obtain ⟨k, hk, rfl⟩ := i_nneg (n := K) (by omega) x0 xK
          rw [if_neg (fun q => q.elim x0 xK), pn_t (nI_lt hk (by omega)), pn_t x1, e_X5_wordAt 58, pn_f (nI_pos (by omega)), pn_f (show ¬ (6 : Int32) ≤ nI k from nI_ge (b := 6) (by omega) (by decide)), pn_in (show k < 6 by omega) (by decide), cond_true, pn_c1, pn_cl (by omega), (h3 k hk).1]
end RI
