/-! sets of words; fields -/
def bcE (x0 : Int32) : Int32 := ((((((((x0 - (((x0.toUInt32 >>> (Int32.toUInt32 1 &&& Int32.toUInt32 31)).toInt32) &&& 1431655765)) &&& 858993459) + ((((x0 - (((x0.toUInt32 >>> (Int32.toUInt32 1 &&& Int32.toUInt32 31)).toInt32) &&& 1431655765)).toUInt32 >>> (Int32.toUInt32 2 &&& Int32.toUInt32 31)).toInt32) &&& 858993459)) + (((((x0 - (((x0.toUInt32 >>> (Int32.toUInt32 1 &&& Int32.toUInt32 31)).toInt32) &&& 1431655765)) &&& 858993459) + ((((x0 - (((x0.toUInt32 >>> (Int32.toUInt32 1 &&& Int32.toUInt32 31)).toInt32) &&& 1431655765)).toUInt32 >>> (Int32.toUInt32 2 &&& Int32.toUInt32 31)).toInt32) &&& 858993459)).toUInt32 >>> (Int32.toUInt32 4 &&& Int32.toUInt32 31)).toInt32)) &&& 252645135) + (((((((x0 - (((x0.toUInt32 >>> (Int32.toUInt32 1 &&& Int32.toUInt32 31)).toInt32) &&& 1431655765)) &&& 858993459) + ((((x0 - (((x0.toUInt32 >>> (Int32.toUInt32 1 &&& Int32.toUInt32 31)).toInt32) &&& 1431655765)).toUInt32 >>> (Int32.toUInt32 2 &&& Int32.toUInt32 31)).toInt32) &&& 858993459)) + (((((x0 - (((x0.toUInt32 >>> (Int32.toUInt32 1 &&& Int32.toUInt32 31)).toInt32) &&& 1431655765)) &&& 858993459) + ((((x0 - (((x0.toUInt32 >>> (Int32.toUInt32 1 &&& Int32.toUInt32 31)).toInt32) &&& 1431655765)).toUInt32 >>> (Int32.toUInt32 2 &&& Int32.toUInt32 31)).toInt32) &&& 858993459)).toUInt32 >>> (Int32.toUInt32 4 &&& Int32.toUInt32 31)).toInt32)) &&& 252645135).toUInt32 >>> (Int32.toUInt32 8 &&& Int32.toUInt32 31)).toInt32)) + ((((((((x0 - (((x0.toUInt32 >>> (Int32.toUInt32 1 &&& Int32.toUInt32 31)).toInt32) &&& 1431655765)) &&& 858993459) + ((((x0 - (((x0.toUInt32 >>> (Int32.toUInt32 1 &&& Int32.toUInt32 31)).toInt32) &&& 1431655765)).toUInt32 >>> (Int32.toUInt32 2 &&& Int32.toUInt32 31)).toInt32) &&& 858993459)) + (((((x0 - (((x0.toUInt32 >>> (Int32.toUInt32 1 &&& Int32.toUInt32 31)).toInt32) &&& 1431655765)) &&& 858993459) + ((((x0 - (((x0.toUInt32 >>> (Int32.toUInt32 1 &&& Int32.toUInt32 31)).toInt32) &&& 1431655765)).toUInt32 >>> (Int32.toUInt32 2 &&& Int32.toUInt32 31)).toInt32) &&& 858993459)).toUInt32 >>> (Int32.toUInt32 4 &&& Int32.toUInt32 31)).toInt32)) &&& 252645135) + (((((((x0 - (((x0.toUInt32 >>> (Int32.toUInt32 1 &&& Int32.toUInt32 31)).toInt32) &&& 1431655765)) &&& 858993459) + ((((x0 - (((x0.toUInt32 >>> (Int32.toUInt32 1 &&& Int32.toUInt32 31)).toInt32) &&& 1431655765)).toUInt32 >>> (Int32.toUInt32 2 &&& Int32.toUInt32 31)).toInt32) &&& 858993459)) + (((((x0 - (((x0.toUInt32 >>> (Int32.toUInt32 1 &&& Int32.toUInt32 31)).toInt32) &&& 1431655765)) &&& 858993459) + ((((x0 - (((x0.toUInt32 >>> (Int32.toUInt32 1 &&& Int32.toUInt32 31)).toInt32) &&& 1431655765)).toUInt32 >>> (Int32.toUInt32 2 &&& Int32.toUInt32 31)).toInt32) &&& 858993459)).toUInt32 >>> (Int32.toUInt32 4 &&& Int32.toUInt32 31)).toInt32)) &&& 252645135).toUInt32 >>> (Int32.toUInt32 8 &&& Int32.toUInt32 31)).toInt32)).toUInt32 >>> (Int32.toUInt32 16 &&& Int32.toUInt32 31)).toInt32)) &&& 63)
/-- of a set the words below a place: how many, which -/
def sl (m : Nat) : Nat → Nat × (Nat → Nat)
  | 0 => (0, fun _ => 0)
  | i + 1 => if m / 2 ^ i % 2 = 1 then ((sl m i).1 + 1, fun j => if j = (sl m i).1 then i else (sl m i).2 j) else sl m i
set_option maxRecDepth 100000 in
set_option maxHeartbeats 4000000 in
theorem bc_k : ∀ m, m < 64 → bcE (nI m) = nI (sl m 6).1 := by decide
theorem sl_n : ∀ n, n ≤ 6 → ∀ m, m < 2 ^ n → (sl m n).1 = (sl m 6).1 := by decide
set_option maxRecDepth 100000 in
theorem sl_p : ∀ m, m < 64 → ∀ w, w < 6 → (sl m w).1 = (sl (m % 2 ^ w) 6).1 := by decide
set_option maxRecDepth 100000 in
theorem b_low : ∀ m, m < 64 → ∀ w, w < 6 → nI m &&& (((1 : Int32) <<< (nI w &&& 31)) - 1) = nI (m % 2 ^ w) := by decide
theorem b_2n : ∀ n, n ≤ 6 → (1 : Int32) <<< (nI n &&& 31) = nI (2 ^ n) := by decide
theorem sl_bit (m : Nat) : ∀ i j, j < (sl m i).1 → (sl m i).2 j < i ∧ m / 2 ^ (sl m i).2 j % 2 = 1
  | 0, j, h => by simp only [sl] at h; omega
  | i + 1, j, h => by
    simp only [sl] at h ⊢
    by_cases c : m / 2 ^ i % 2 = 1
    · rw [if_pos c] at h ⊢
      dsimp only at h ⊢
      by_cases e : j = (sl m i).1
      · rw [if_pos e]; exact ⟨by omega, c⟩
      · rw [if_neg e]
        have := sl_bit m i j (by omega)
        exact ⟨by omega, this.2⟩
    · rw [if_neg c] at h ⊢
      have := sl_bit m i j h
      exact ⟨by omega, this.2⟩
theorem sl_inj (m : Nat) : ∀ i a b, a < (sl m i).1 → b < (sl m i).1 → (sl m i).2 a = (sl m i).2 b → a = b
  | 0, a, b, h, _, _ => by simp only [sl] at h; omega
  | i + 1, a, b, h1, h2, h3 => by
    simp only [sl] at h1 h2 h3
    by_cases c : m / 2 ^ i % 2 = 1
    · rw [if_pos c] at h1 h2 h3
      dsimp only at h1 h2 h3
      by_cases ea : a = (sl m i).1
      · by_cases eb : b = (sl m i).1
        · omega
        · rw [if_pos ea, if_neg eb] at h3
          have := (sl_bit m i b (by omega)).1
          omega
      · by_cases eb : b = (sl m i).1
        · rw [if_neg ea, if_pos eb] at h3
          have := (sl_bit m i a (by omega)).1
          omega
        · rw [if_neg ea, if_neg eb] at h3
          exact sl_inj m i a b (by omega) (by omega) h3
    · rw [if_neg c] at h1 h2 h3
      exact sl_inj m i a b h1 h2 h3
/-- a word of the set has its place there -/
theorem sl_at (m : Nat) : ∀ i v, v < i → m / 2 ^ v % 2 = 1 → (sl m v).1 < (sl m i).1 ∧ (sl m i).2 (sl m v).1 = v
  | 0, v, h, _ => by omega
  | i + 1, v, h, hb => by
    simp only [sl]
    by_cases e : v = i
    · subst e
      rw [if_pos hb]
      exact ⟨by dsimp only; omega, if_pos rfl⟩
    · have ih := sl_at m i v (by omega) hb
      by_cases c : m / 2 ^ i % 2 = 1
      · rw [if_pos c]
        dsimp only
        rw [if_neg (by omega)]
        exact ⟨by omega, ih.2⟩
      · rw [if_neg c]; exact ih
/-- some word stands in another one -/
def cls (K : Nat) (u : Nat → Nat) : Bool := anyb (fun i => anyb (fun j => inn (u i) (u j) || inn (u j) (u i)) i 0) K 0
theorem cls_apt {K : Nat} {u : Nat → Nat} (h : cls K u = false) : ∀ i j, i < K → j < K → i ≠ j → inn (u i) (u j) = false := by
  have key : ∀ i j, i < K → j < i → inn (u i) (u j) = false ∧ inn (u j) (u i) = false := fun i j hi hj => by
    rw [← Bool.or_eq_false_iff]
    cases c : (inn (u i) (u j) || inn (u j) (u i)) with
    | false => rfl
    | true =>
      have h1 : anyb (fun j => inn (u i) (u j) || inn (u j) (u i)) i 0 = true := (anyb_iff _ _ _).mpr ⟨j, by omega, by omega, c⟩
      have h2 : cls K u = true := (anyb_iff (fun i => anyb (fun j => inn (u i) (u j) || inn (u j) (u i)) i 0) K 0).mpr ⟨i, by omega, by omega, h1⟩
      rw [h] at h2
      cases h2
  intro i j hi hj hn
  rcases Nat.lt_or_ge j i with q | q
  · exact (key i j hi q).1
  · exact (key j i hj (by omega)).2
section FD
variable {I : Nat → Int32} {A : Nat → Nat → Int32} {J : Nat → Int32} {B : Nat → Nat → Int32} {L : Nat → Nat → Int64} {t : List zm_E} {s n m K : Nat} {w u : Nat → Nat}
theorem z_bc {d : Nat} (hd : 1 ≤ d) (h : zm_H) (hm : m < 64) : zC d 208 [.int (nI m)] h = some (some (.int (nI (sl m 6).1)), h) := by
  obtain ⟨d, rfl⟩ : ∃ e, d = e + 1 := ⟨d - 1, by omega⟩
  have e : zC (d + 1) 208 [.int (nI m)] h = some (some (.int (bcE (nI m))), h) := e_J6_bitCount_0f7a4 d h (nI m)
  rw [e, bc_k m hm]
theorem p2_64 (hn : n ≤ 6) : 2 ^ n ≤ 64 := by
  have : 2 ^ n ≤ 2 ^ 6 := Nat.pow_le_pow_right (by omega) hn
  omega
theorem c_is0 {d : Nat} (hd : 1 ≤ d) (hn : I 102 = nI n) (n6 : n ≤ 6) {x : Int32} (h : x < 0 ∨ nI (2 ^ n) ≤ x) : zC d 6 [.ref 1, .int x] (hC I A, t) = some (some (.int 0), (hC I A, t)) := by
  obtain ⟨d, rfl⟩ : ∃ e, d = e + 1 := ⟨d - 1, by omega⟩
  rw [e_X0_isSet, hn, b_2n n n6]
  by_cases h1 : x < 0
  · rw [pn_t h1]
  · rw [pn_f h1, pn_t (h.resolve_left h1)]
theorem c_is1 {d : Nat} (hd : 1 ≤ d) (hn : I 102 = nI n) (n6 : n ≤ 6) (h : m < 2 ^ n) : zC d 6 [.ref 1, .int (nI m)] (hC I A, t) = some (some (.int 1), (hC I A, t)) := by
  obtain ⟨d, rfl⟩ : ∃ e, d = e + 1 := ⟨d - 1, by omega⟩
  have := p2_64 n6
  rw [e_X0_isSet, hn, b_2n n n6, pn_f (nI_pos (by omega)), pn_f (nI_ge h (by omega))]
theorem c_iis0 {d : Nat} (hd : 2 ≤ d) (hn : I 102 = nI n) {x y : Int32} (h : y < 0 ∨ nI n ≤ y) : zC d 7 [.ref 1, .int x, .int y] (hC I A, t) = some (some (.int 0), (hC I A, t)) := by
  obtain ⟨d, rfl⟩ : ∃ e, d = e + 1 := ⟨d - 1, by omega⟩
  rw [e_X0_isInSet, c_hw0 (by omega) hn h, pn_c1, d_00, cond_true]
theorem c_iis1 {d v : Nat} (hd : 2 ≤ d) (hn : I 102 = nI n) (n6 : n ≤ 6) (hm : m < 64) (hv : v < n) : zC d 7 [.ref 1, .int (nI m), .int (nI v)] (hC I A, t) = some (some (.int (b01 (decide (m / 2 ^ v % 2 = 1)))), (hC I A, t)) := by
  obtain ⟨d, rfl⟩ : ∃ e, d = e + 1 := ⟨d - 1, by omega⟩
  have hg := b_get m hm v (by omega)
  rw [e_X0_isInSet, c_hw1 (by omega) hn n6 hv, pn_c1, d_10, cond_false]
  by_cases c : m / 2 ^ v % 2 = 1
  · rw [pn_f (fun q => q (hg.mpr c)), decide_eq_true c]; rfl
  · rw [pn_t (fun q => c (hg.mp q)), decide_eq_false c]; rfl
theorem s_place {d v : Nat} (hd : 2 ≤ d) (h : zm_H) (hm : m < 64) (hv : v < 6) : zC d 118 [.int (nI m), .int (nI v)] h = some (some (.int (nI (sl m v).1)), h) := by
  obtain ⟨d, rfl⟩ : ∃ e, d = e + 1 := ⟨d - 1, by omega⟩
  rw [e_X9_placeInSet, b_low m hm v hv, z_bc (by omega) h (Nat.lt_of_le_of_lt (Nat.mod_le _ _) hm), pn_c1, sl_p m hm v hv]
/-- the class's field -/
def fdC (s K : Nat) (u : Nat → Nat) (I : Nat → Int32) (A : Nat → Nat → Int32) : Prop := I 2901 = nI K ∧ I 2902 = nI s ∧ ∀ i, i < K → A 30 i = nI (u i)
theorem c_fldL (d : Nat) (hd : 3 ≤ d) (n6 : n ≤ 6) (hm : m < 64) (h4 : (sl m n).1 ≤ 4) : ∀ (j i f : Nat) (I : Nat → Int32) (A : Nat → Nat → Int32), i + j = n → 3 * j < f → I 102 = nI n → (∀ i, i < n → A 2 i = nI (w i)) → (sl m i).1 ≤ (sl m n).1 → fdC s (sl m i).1 (fun k => w ((sl m i).2 k)) I A → ∃ I' A', (∀ t, zR d f 20 15 [some (.ref 29), some (.ref 1), some (.int (nI m)), some (.int (nI i))] [] (hC I A, t) = some (none, (hC I' A', t))) ∧ (∀ c, c ≠ 2901 → I' c = I c) ∧ (∀ c, c ≠ 30 → A' c = A c) ∧ fdC s (sl m n).1 (fun k => w ((sl m n).2 k)) I' A' := by
  intro j
  induction j with
  | zero =>
    intro i f I A hi hf hn hw hle h
    obtain ⟨f, rfl⟩ : ∃ e, f = e + 1 := ⟨f - 1, by omega⟩
    have e : i = n := by omega
    subst e
    refine ⟨I, A, fun t => ?_, fun c _ => rfl, fun c _ => rfl, h⟩
    rw [e_X2_fill_29_1_at15, hn, pn_t (nI_le (Nat.le_refl _) (by omega))]
  | succ j ih =>
    intro i f I A hi hf hn hw hle h
    obtain ⟨f, rfl⟩ : ∃ e, f = e + 1 + 1 + 1 := ⟨f - 3, by omega⟩
    obtain ⟨h1, h2, h3⟩ := id h
    have mono : ∀ a b, a ≤ b → (sl m a).1 ≤ (sl m b).1 := fun a b => by
      induction b with
      | zero => intro q; rw [show a = 0 by omega]; exact Nat.le_refl _
      | succ b ihb =>
        intro q
        rcases Nat.lt_or_ge b a with u | u
        · rw [show a = b + 1 by omega]; exact Nat.le_refl _
        · have := ihb u
          simp only [sl]
          split
          · dsimp only; omega
          · exact this
    by_cases c4 : (sl m i).1 = 4
    · -- all are there
      have st : ∀ k, i ≤ k → k ≤ n → sl m k = sl m i := fun k => by
        induction k with
        | zero => intro q _; rw [show i = 0 by omega]
        | succ k ihk =>
          intro q1 q2
          rcases Nat.lt_or_ge k i with u | u
          · rw [show k + 1 = i by omega]
          · have e := ihk u (by omega)
            have := mono (k + 1) n q2
            simp only [sl] at this ⊢
            by_cases c : m / 2 ^ k % 2 = 1
            · rw [if_pos c] at this
              dsimp only at this
              rw [e] at this
              omega
            · rw [if_neg c]; exact e
      refine ⟨I, A, fun t => ?_, fun c _ => rfl, fun c _ => rfl, by rw [st n (by omega) (Nat.le_refl _)]; exact h⟩
      rw [e_X2_fill_29_1_at15, hn, pn_f (nI_ge (by omega) (by omega)), h1, pn_t (show (4 : Int32) ≤ nI (sl m i).1 from nI_le (a := 4) (by omega) (by omega))]
    · have hlt : (sl m i).1 < 4 := by omega
      have e15 : ∀ t, zR d (f + 1 + 1 + 1) 20 15 [some (.ref 29), some (.ref 1), some (.int (nI m)), some (.int (nI i))] [] (hC I A, t) = zR d (f + 1 + 1) 20 37 [some (.ref 29), some (.ref 1), some (.int (nI m)), some (.int (nI i))] [(.int (b01 (decide (m / 2 ^ i % 2 = 1))))] (hC I A, t) := fun t => by
        rw [e_X2_fill_29_1_at15, hn, pn_f (nI_ge (by omega) (by omega)), h1, pn_f (show ¬ (4 : Int32) ≤ nI (sl m i).1 from nI_ge (b := 4) hlt (by decide)), c_iis1 (by omega) hn n6 hm (by omega), pn_c1]
      by_cases c : m / 2 ^ i % 2 = 1
      · have e : sl m (i + 1) = ((sl m i).1 + 1, fun j => if j = (sl m i).1 then i else (sl m i).2 j) := by
          simp only [sl]
          rw [if_pos c]
        obtain ⟨I', A', a1, a2, a3, a4⟩ := ih (i + 1) f (upd I 2901 (nI ((sl m i).1 + 1))) (va_up A 30 (upd (A 30) (sl m i).1 (nI (w i)))) (by omega) (by omega) ((upd_ne (by decide)).trans hn) (fun i hi => by rw [vu_ne (by decide)]; exact hw i hi) (mono _ _ (by omega)) (by
          rw [e]
          refine ⟨upd_eq, (upd_ne (by decide)).trans h2, fun k hk => ?_⟩
          dsimp only at hk ⊢
          rw [vu_eq]
          by_cases ek : k = (sl m i).1
          · rw [ek, upd_eq, if_pos rfl]
          · rw [upd_ne ek, if_neg ek]; exact h3 k (by omega))
        refine ⟨I', A', fun t => ?_, fun c hc => by rw [a2 c hc, upd_ne hc], fun c hc => by rw [a3 c hc, vu_ne hc], a4⟩
        rw [e15, decide_eq_true c, b01_t, e_X2_fill_29_1_at37, d_10, cond_false, c_wa (by omega) hn n6 (by omega), pn_c1, hw i (by omega), h1, e_X2_fill_29_1_at53, pn_in hlt (by decide), cond_true, pn_cl (by omega), h1, nI_1, nI_1]
        exact a1 t
      · have e : sl m (i + 1) = sl m i := by
          simp only [sl]
          rw [if_neg c]
        obtain ⟨I', A', a1, a2, a3, a4⟩ := ih (i + 1) (f + 1) I A (by omega) (by omega) hn hw (mono _ _ (by omega)) (by rw [e]; exact h)
        refine ⟨I', A', fun t => ?_, a2, a3, a4⟩
        rw [e15, decide_eq_false c, b01_f, e_X2_fill_29_1_at37, d_00, cond_true, nI_1]
        exact a1 t
theorem c_fill {d : Nat} (hd : 4 ≤ d) (n6 : n ≤ 6) (hm : m < 64) (h4 : (sl m n).1 ≤ 4) (hs : I 100 = nI s) (hn : I 102 = nI n) (hw : ∀ i, i < n → A 2 i = nI (w i)) : ∃ I' A', (∀ t, zC d 20 [.ref 29, .ref 1, .int (nI m)] (hC I A, t) = some (none, (hC I' A', t))) ∧ (∀ c, c ≠ 2901 → c ≠ 2902 → I' c = I c) ∧ (∀ c, c ≠ 30 → A' c = A c) ∧ fdC s (sl m n).1 (fun k => w ((sl m n).2 k)) I' A' := by
  obtain ⟨d, rfl⟩ : ∃ e, d = e + 1 := ⟨d - 1, by omega⟩
  obtain ⟨I', A', a1, a2, a3, a4⟩ := c_fldL (s := s) (w := w) d (by omega) n6 hm h4 n 0 10000000 (upd (upd I 2902 (I 100)) 2901 0) A (by omega) (by omega) (((upd_ne (by decide)).trans (upd_ne (by decide))).trans hn) hw (Nat.zero_le _) ⟨rfl, hs, fun k hk => by simp only [sl] at hk; omega⟩
  exact ⟨I', A', fun t => (e_X2_fill_29_1 d I A t (nI m)).trans (a1 t), fun c h1 h2 => by rw [a2 c h1, upd_ne h1, upd_ne h2], a3, a4⟩
theorem c_hoIn (d : Nat) (hd : 3 ≤ d) (hK : K ≤ 4) (h : fdC s K u I A) (hu : ∀ i, i < K → u i < 100000) {i : Nat} (hi : i < K) : ∀ (j k f : Nat), k + j = i → zR d (f + (j + 1)) 21 12 [some (.ref 29), some (.int (nI i)), some (.int (nI k))] [] (hC I A, t) = bif anyb (fun j => inn (u i) (u j) || inn (u j) (u i)) j k then some (some (.int 1), (hC I A, t)) else zR d f 21 2 [some (.ref 29), some (.int (nI (i + 1))), some (.int (nI i))] [] (hC I A, t) := by
  obtain ⟨h1, h2, h3⟩ := h
  intro j
  induction j with
  | zero =>
    intro k f hk
    rw [show f + (0 + 1) = f + 1 from rfl, e_X2_hasOneInAnother_at12, pn_t (nI_le (by omega) (by omega)), nI_1, show k = i by omega]
    rfl
  | succ j ih =>
    intro k f hk
    have ui := hu i hi
    have uk := hu k (by omega)
    rw [show f + (j + 1 + 1) = (f + (j + 1)) + 1 from rfl, e_X2_hasOneInAnother_at12, pn_f (nI_ge (by omega) (by omega)), pn_in (show i < 4 by omega) (by decide), cond_true, pn_in (show k < 4 by omega) (by decide), cond_true, pn_cl (show i < 2 ^ 31 by omega), pn_cl (show k < 2 ^ 31 by omega), h3 i hi, h3 k (by omega), s_clash hd _ (by omega) (by omega), pn_c1, nI_1]
    simp only [anyb]
    by_cases hb : (inn (u i) (u k) || inn (u k) (u i)) = true
    · rw [if_pos hb, hb, b01_t, d_10, cond_false, cond_true]
    · rw [if_neg hb, Bool.eq_false_iff.mpr hb, b01_f, d_00, cond_true, ih (k + 1) f (by omega)]
theorem c_hoOut (d : Nat) (hd : 3 ≤ d) (hK : K ≤ 4) (h : fdC s K u I A) (hu : ∀ i, i < K → u i < 100000) : ∀ (j i f : Nat) (o2 : Option Value), i + j = K → 8 * j < f → zR d f 21 2 [some (.ref 29), some (.int (nI i)), o2] [] (hC I A, t) = some (some (.int (b01 (anyb (fun i => anyb (fun j => inn (u i) (u j) || inn (u j) (u i)) i 0) j i))), (hC I A, t)) := by
  intro j
  induction j with
  | zero =>
    intro i f o2 hi hf
    obtain ⟨f, rfl⟩ : ∃ e, f = e + 1 := ⟨f - 1, by omega⟩
    rw [e_X2_hasOneInAnother_at2, h.1, pn_t (nI_le (by omega) (by omega))]
    rfl
  | succ j ih =>
    intro i f o2 hi hf
    obtain ⟨f, rfl⟩ : ∃ e, f = e + (i + 1) + 1 := ⟨f - i - 2, by omega⟩
    rw [e_X2_hasOneInAnother_at2, h.1, pn_f (nI_ge (by omega) (by omega)), show (0 : Int32) = nI 0 from rfl, c_hoIn d hd hK h hu (show i < K by omega) i 0 f (by omega)]
    simp only [anyb]
    by_cases hb : anyb (fun j => inn (u i) (u j) || inn (u j) (u i)) i 0 = true
    · rw [if_pos hb, hb, cond_true]; rfl
    · rw [if_neg hb, Bool.eq_false_iff.mpr hb, cond_false, ih (i + 1) f _ (by omega) (by omega)]
theorem c_ho {d : Nat} (hd : 4 ≤ d) (hK : K ≤ 4) (h : fdC s K u I A) (hu : ∀ i, i < K → u i < 100000) : zC d 21 [.ref 29] (hC I A, t) = some (some (.int (b01 (cls K u))), (hC I A, t)) := by
  obtain ⟨d, rfl⟩ : ∃ e, d = e + 1 := ⟨d - 1, by omega⟩
  rw [e_X2_hasOneInAnother]
  exact c_hoOut d (by omega) hK h hu K 0 10000000 none (by omega) (by omega)
/-! the reference's -/
def fdM (K : Nat) (e : Nat → Nat) (J : Nat → Int32) (B : Nat → Nat → Int32) : Prop := J 26 = nI K ∧ ∀ i, i < K → B 17 i = nI (e i)
theorem r_setsL (d : Nat) (n6 : n ≤ 6) (hm : m < 64) (hn : J 2 = nI n) (hK : J 26 = nI K) (h4 : K ≤ 4) (hKm : (sl m n).1 = K) : ∀ (j i f : Nat) (B : Nat → Nat → Int32), i + j = n → j < f → (sl m i).1 ≤ (sl m n).1 → (∀ k, k < (sl m i).1 → B 17 k = nI ((sl m i).2 k)) → ∃ B', (∀ t, zR d f 159 30 [some (.ref 1000), some (.int (nI m)), some (.int (nI (sl m i).1)), some (.int (nI i))] [] (t, hM J B L) = some (some (.int 1), (t, hM J B' L))) ∧ (∀ c, c ≠ 17 → B' c = B c) ∧ ∀ k, k < (sl m n).1 → B' 17 k = nI ((sl m n).2 k) := by
  intro j
  induction j with
  | zero =>
    intro i f B hi hf hle h
    obtain ⟨f, rfl⟩ : ∃ e, f = e + 1 := ⟨f - 1, by omega⟩
    have e : i = n := by omega
    subst e
    refine ⟨B, fun t => ?_, fun c _ => rfl, h⟩
    rw [e_X10_sets_at30, hn, pn_t (nI_le (Nat.le_refl _) (by omega))]
  | succ j ih =>
    intro i f B hi hf hle h
    obtain ⟨f, rfl⟩ : ∃ e, f = e + 1 := ⟨f - 1, by omega⟩
    have mono : ∀ a b, a ≤ b → (sl m a).1 ≤ (sl m b).1 := fun a b => by
      induction b with
      | zero => intro q; rw [show a = 0 by omega]; exact Nat.le_refl _
      | succ b ihb =>
        intro q
        rcases Nat.lt_or_ge b a with u | u
        · rw [show a = b + 1 by omega]; exact Nat.le_refl _
        · have := ihb u
          simp only [sl]
          split
          · dsimp only; omega
          · exact this
    have hg := b_get m hm i (by omega)
    have hm1 := mono (i + 1) n (by omega)
    have e30 : ∀ t, zR d (f + 1) 159 30 [some (.ref 1000), some (.int (nI m)), some (.int (nI (sl m i).1)), some (.int (nI i))] [] (t, hM J B L) = _ := fun t => by
      rw [e_X10_sets_at30, hn, pn_f (nI_ge (by omega) (by omega)), hK, pn_f (show ¬ (4 : Int32) < nI K from nI_nlt (a := 4) h4 (by decide)), nI_1]
    by_cases c : m / 2 ^ i % 2 = 1
    · have e : sl m (i + 1) = ((sl m i).1 + 1, fun j => if j = (sl m i).1 then i else (sl m i).2 j) := by
        simp only [sl]
        rw [if_pos c]
      have hlt : (sl m i).1 < 4 := by rw [e] at hm1; dsimp only at hm1; omega
      obtain ⟨B', a1, a2, a3⟩ := ih (i + 1) f (va_up B 17 (upd (B 17) (sl m i).1 (nI i))) (by omega) (by omega) hm1 (by
        rw [e]
        intro k hk
        dsimp only at hk ⊢
        rw [vu_eq]
        by_cases ek : k = (sl m i).1
        · rw [ek, upd_eq, if_pos rfl]
        · rw [upd_ne ek, if_neg ek]; exact h k (by omega))
      rw [e] at a1
      refine ⟨B', fun t => ?_, fun c hc => by rw [a2 c hc, vu_ne hc], a3⟩
      rw [e30, pn_f (fun q => q (hg.mpr c)), pn_in hlt (by decide), cond_true, pn_cl (by omega), nI_1]
      exact a1 t
    · have e : sl m (i + 1) = sl m i := by
        simp only [sl]
        rw [if_neg c]
      obtain ⟨B', a1, a2, a3⟩ := ih (i + 1) f B (by omega) (by omega) hm1 (by rw [e]; exact h)
      rw [e] at a1
      refine ⟨B', fun t => ?_, a2, a3⟩
      rw [e30, pn_t (fun q => c (hg.mp q))]
      exact a1 t
theorem r_setsN {d : Nat} (hd : 2 ≤ d) (n6 : n ≤ 6) (hn : J 2 = nI n) {x : Int32} (h : x < 0 ∨ nI (2 ^ n) ≤ x) : zC d 159 [.ref 1000, .int x] (t, hM J B L) = some (some (.int 0), (t, hM J B L)) := by
  obtain ⟨d, rfl⟩ : ∃ e, d = e + 1 := ⟨d - 1, by omega⟩
  have := p2_64 n6
  rw [e_X10_sets, hn, b_2n n n6, r_in (by omega), pn_c1, i_in0 (by omega) h]
  rfl
theorem r_sets {d : Nat} (hd : 2 ≤ d) (n6 : n ≤ 6) (hm : m < 2 ^ n) (hn : J 2 = nI n) : ∃ J' B', (∀ t, zC d 159 [.ref 1000, .int (nI m)] (t, hM J B L) = some (some (.int 1), (t, hM J' B' L))) ∧ (∀ c, c ≠ 26 → J' c = J c) ∧ (∀ c, c ≠ 17 → B' c = B c) ∧ J' 26 = nI (sl m n).1 ∧ ((sl m n).1 ≤ 4 → fdM (sl m n).1 (sl m n).2 J' B') := by
  obtain ⟨d, rfl⟩ : ∃ e, d = e + 1 := ⟨d - 1, by omega⟩
  have h64 := p2_64 n6
  have e := fun t => e_X10_sets d J B L t (nI m)
  simp only [hn, b_2n n n6, r_in (show 1 ≤ d by omega), pn_c1, i_in1 (show 2 ^ n < 2 ^ 30 by omega) hm, b01_t, d_n10, cond_true, z_bc (show 1 ≤ d by omega) _ (show m < 64 by omega), ← sl_n n n6 m hm, F1, e_X10_sets_at23] at e
  by_cases h4 : (sl m n).1 ≤ 4
  · obtain ⟨B', a1, a2, a3⟩ := r_setsL (J := upd J 26 (nI (sl m n).1)) (L := L) d n6 (show m < 64 by omega) ((upd_ne (by decide)).trans hn) upd_eq h4 rfl n 0 9999999 B (by omega) (by omega) (Nat.zero_le _) (fun k hk => by simp only [sl] at hk; omega)
    exact ⟨_, B', fun t => (e t).trans (a1 t), fun c hc => upd_ne hc, a2, upd_eq, fun _ => ⟨upd_eq, a3⟩⟩
  · refine ⟨upd J 26 (nI (sl m n).1), B, fun t => ?_, fun c hc => upd_ne hc, fun c _ => rfl, upd_eq, fun q => absurd q h4⟩
    have hle : (sl m n).1 < 2 ^ 30 := by
      have : ∀ i, (sl m i).1 ≤ i := fun i => by
        induction i with
        | zero => exact Nat.le_refl _
        | succ i ih =>
          simp only [sl]
          split
          · dsimp only; omega
          · omega
      have := this n
      omega
    have n0 : 0 < n := by
      rcases Nat.eq_zero_or_pos n with q | q
      · rw [q] at h4; exact absurd (Nat.zero_le _) h4
      · exact q
    rw [e t, show (9999999 : Nat) = 9999998 + 1 from F2, e_X10_sets_at30, upd_ne (by decide), hn, pn_f (show ¬ nI n ≤ 0 from nI_nle n0 (by omega)), upd_eq, pn_t (show (4 : Int32) < nI (sl m n).1 from nI_lt (a := 4) (by omega) (by omega))]
theorem r_isFIn (d : Nat) (hd : 3 ≤ d) {e : Nat → Nat} (hK : K ≤ 4) (h : fdM K e J B) (he : ∀ i, i < K → e i < 6) (hw : ∀ i, i < K → B 1 (e i) = nI (u i) ∧ 1 ≤ u i ∧ u i < 100000) {i : Nat} (hi : i < K) : ∀ (j k f : Nat), k + j = i → zR d (f + (j + 1)) 160 12 [some (.ref 1000), some (.int (nI i)), some (.int (nI k))] [] (t, hM J B L) = bif anyb (fun j => inn (u i) (u j) || inn (u j) (u i)) j k then some (some (.int 0), (t, hM J B L)) else zR d f 160 2 [some (.ref 1000), some (.int (nI (i + 1))), some (.int (nI i))] [] (t, hM J B L) := by
  intro j
  induction j with
  | zero =>
    intro k f hk
    rw [show f + (0 + 1) = f + 1 from rfl, e_X10_isField_at12, pn_t (nI_le (by omega) (by omega)), nI_1, show k = i by omega]
    rfl
  | succ j ih =>
    intro k f hk
    have ui := hw i hi
    have uk := hw k (by omega)
    have ei := he i hi
    have ek := he k (by omega)
    rw [show f + (j + 1 + 1) = (f + (j + 1)) + 1 from rfl, e_X10_isField_at12, pn_f (nI_ge (by omega) (by omega)), pn_in (show i < 4 by omega) (by decide), cond_true, pn_cl (show i < 2 ^ 31 by omega), h.2 i hi, pn_in ei (by decide), cond_true, pn_in (show k < 4 by omega) (by decide), cond_true, pn_cl (show k < 2 ^ 31 by omega), h.2 k (by omega), pn_in ek (by decide), cond_true, pn_cl (show e i < 2 ^ 31 by omega), pn_cl (show e k < 2 ^ 31 by omega), ui.1, uk.1, r_apart hd _ ui.2.1 ui.2.2 uk.2.1 uk.2.2, pn_c1, nI_1]
    simp only [anyb]
    by_cases hb : (inn (u i) (u k) || inn (u k) (u i)) = true
    · rw [if_pos hb, hb, Bool.not_true, b01_f, d_n00, cond_false, cond_true]
    · rw [if_neg hb, Bool.eq_false_iff.mpr hb, Bool.not_false, b01_t, d_n10, cond_true, ih (k + 1) f (by omega)]
theorem r_isFOut (d : Nat) (hd : 3 ≤ d) {e : Nat → Nat} (hK : K ≤ 4) (h : fdM K e J B) (he : ∀ i, i < K → e i < 6) (hw : ∀ i, i < K → B 1 (e i) = nI (u i) ∧ 1 ≤ u i ∧ u i < 100000) : ∀ (j i f : Nat) (o2 : Option Value), i + j = K → 8 * j < f → zR d f 160 2 [some (.ref 1000), some (.int (nI i)), o2] [] (t, hM J B L) = some (some (.int (b01 (!anyb (fun i => anyb (fun j => inn (u i) (u j) || inn (u j) (u i)) i 0) j i))), (t, hM J B L)) := by
  intro j
  induction j with
  | zero =>
    intro i f o2 hi hf
    obtain ⟨f, rfl⟩ : ∃ e, f = e + 1 := ⟨f - 1, by omega⟩
    rw [e_X10_isField_at2, h.1, pn_t (nI_le (by omega) (by omega))]
    rfl
  | succ j ih =>
    intro i f o2 hi hf
    obtain ⟨f, rfl⟩ : ∃ e, f = e + (i + 1) + 1 := ⟨f - i - 2, by omega⟩
    rw [e_X10_isField_at2, h.1, pn_f (nI_ge (by omega) (by omega)), show (0 : Int32) = nI 0 from rfl, r_isFIn d hd hK h he hw (show i < K by omega) i 0 f (by omega)]
    simp only [anyb]
    by_cases hb : anyb (fun j => inn (u i) (u j) || inn (u j) (u i)) i 0 = true
    · rw [if_pos hb, hb, cond_true]; rfl
    · rw [if_neg hb, Bool.eq_false_iff.mpr hb, cond_false, ih (i + 1) f _ (by omega) (by omega)]
theorem r_isField {d : Nat} (hd : 4 ≤ d) {e : Nat → Nat} (hK : K ≤ 4) (h : fdM K e J B) (he : ∀ i, i < K → e i < 6) (hw : ∀ i, i < K → B 1 (e i) = nI (u i) ∧ 1 ≤ u i ∧ u i < 100000) : zC d 160 [.ref 1000] (t, hM J B L) = some (some (.int (b01 (!cls K u))), (t, hM J B L)) := by
  obtain ⟨d, rfl⟩ : ∃ e, d = e + 1 := ⟨d - 1, by omega⟩
  rw [e_X10_isField]
  exact r_isFOut d (by omega) hK h he hw K 0 10000000 none (by omega) (by omega)
end FD
