/-! rows of throws by their last four letters, as the reference counts them -/
def q4 : Nat → Nat → Nat
  | 0, _ => 0
  | n + 1, T => 4 * q4 n (T / 10) + T % 10
def d4 (T : Nat) : Prop := ∀ k, T / 10 ^ k % 10 < 4
theorem d4_div {T : Nat} (h : d4 T) : d4 (T / 10) := fun k => by
  rw [Nat.div_div_eq_div_mul, Nat.mul_comm, ← Nat.pow_succ]
  exact h (k + 1)
theorem d4_mod {T : Nat} (h : d4 T) : T % 10 < 4 := by
  have := h 0
  rw [Nat.pow_zero, Nat.div_one] at this
  exact this
theorem q4_lt : ∀ n T, d4 T → q4 n T < 4 ^ n
  | 0, _, _ => by simp only [q4]; decide
  | n + 1, T, h => by
    have h1 := q4_lt n (T / 10) (d4_div h)
    have h2 := d4_mod h
    simp only [q4]
    rw [Nat.pow_succ]
    omega
theorem q4_mod : ∀ l n T, l ≤ n → d4 T → q4 n T % 4 ^ l = q4 l T
  | 0, n, T, _, _ => by rw [Nat.pow_zero, Nat.mod_one]; rfl
  | l + 1, n, T, hl, h => by
    obtain ⟨n, rfl⟩ : ∃ e, n = e + 1 := ⟨n - 1, by omega⟩
    have h1 := q4_mod l n (T / 10) (by omega) (d4_div h)
    have h2 := d4_mod h
    simp only [q4]
    rw [Nat.pow_succ, Nat.mul_comm (4 ^ l) 4, Nat.mod_mul, show (4 * q4 n (T / 10) + T % 10) % 4 = T % 10 by omega, show (4 * q4 n (T / 10) + T % 10) / 4 = q4 n (T / 10) by omega, h1]
    omega
theorem q4_inj : ∀ l T U, d4 T → d4 U → (q4 l T = q4 l U ↔ T % 10 ^ l = U % 10 ^ l)
  | 0, T, U, _, _ => by
    rw [Nat.pow_zero, Nat.mod_one, Nat.mod_one]
    exact ⟨fun _ => rfl, fun _ => rfl⟩
  | l + 1, T, U, hT, hU => by
    have ih := q4_inj l (T / 10) (U / 10) (d4_div hT) (d4_div hU)
    have h1 := d4_mod hT
    have h2 := d4_mod hU
    simp only [q4]
    rw [Nat.pow_succ, Nat.mul_comm (10 ^ l) 10, Nat.mod_mul, Nat.mod_mul]
    constructor
    · intro q
      have e1 : q4 l (T / 10) = q4 l (U / 10) := by omega
      have e2 := ih.mp e1
      omega
    · intro q
      have e1 : T / 10 % 10 ^ l = U / 10 % 10 ^ l := by omega
      have e2 := ih.mpr e1
      omega
theorem dg_d4 {s : Nat} (hs : s ≤ 3) : ∀ e m, dg s e m → d4 m
  | 0, m, h => by
    have h : m = 0 := h
    subst h
    intro k
    rw [Nat.zero_div]
    decide
  | e + 1, m, h => by
    have ih := dg_d4 hs e (m / 10) h.1
    intro k
    cases k with
    | zero => rw [Nat.pow_zero, Nat.div_one]; have := h.2; omega
    | succ k =>
      rw [Nat.pow_succ, Nat.mul_comm, ← Nat.div_div_eq_div_mul]
      exact ih k
/-- the place of the word that ends there -/
def ebf (u e : Nat → Nat) (x : Nat) : Nat → Nat → Int32
  | 0, _ => -1
  | j + 1, i => if x % 4 ^ wl (u i) = q4 (wl (u i)) (u i) then nI (e i) else ebf u e x j (i + 1)
theorem ebf_spec (u e : Nat → Nat) (x : Nat) : ∀ j i, (ebf u e x j i = -1 ∧ ∀ y, i ≤ y → y < i + j → ¬ x % 4 ^ wl (u y) = q4 (wl (u y)) (u y)) ∨ ∃ y, i ≤ y ∧ y < i + j ∧ x % 4 ^ wl (u y) = q4 (wl (u y)) (u y) ∧ ebf u e x j i = nI (e y)
  | 0, i => Or.inl ⟨rfl, fun y h1 h2 => by omega⟩
  | j + 1, i => by
    simp only [ebf]
    by_cases c : x % 4 ^ wl (u i) = q4 (wl (u i)) (u i)
    · rw [if_pos c]
      exact Or.inr ⟨i, Nat.le_refl _, by omega, c, rfl⟩
    · rw [if_neg c]
      rcases ebf_spec u e x j (i + 1) with ⟨h1, h2⟩ | ⟨y, h1, h2, h3, h4⟩
      · refine Or.inl ⟨h1, fun y h3 h4 => ?_⟩
        by_cases q : y = i
        · rw [q]; exact c
        · exact h2 y (by omega) (by omega)
      · exact Or.inr ⟨y, by omega, by omega, h3, h4⟩
def hBf (u e : Nat → Nat) (K v q a : Nat) : Int := if ebf u e (4 * q + a) K 0 = nI v then 1 else 0
def gBf (u e : Nat → Nat) (K y q a : Nat) : Int := if ¬ 0 ≤ ebf u e (4 * q + a) K 0 ∧ (4 * q + a) % 256 = y then 1 else 0
def Nst (s K : Nat) (u : Nat → Nat) (i y : Nat) : Int := xt s K u (fun T => if q4 4 T = y then 1 else 0) i 0
section RW
variable {s K : Nat} {u e : Nat → Nat}
theorem ends_one (ha : apt K u) {X i j : Nat} (hi : i < K) (hj : j < K) (h1 : X % 10 ^ wl (u i) = u i) (h2 : X % 10 ^ wl (u j) = u j) : i = j := by
  apply Classical.byContradiction
  intro n
  have key : ∀ i j, i < K → j < K → i ≠ j → X % 10 ^ wl (u i) = u i → X % 10 ^ wl (u j) = u j → wl (u i) ≤ wl (u j) → False := fun i j hi hj n h1 h2 h => by
    have : inn (u i) (u j) = true := inn_of (i := 0) (by
      have e := mod_mod10 X h
      rw [h2] at e
      rw [Nat.pow_zero, Nat.div_one]
      exact e.trans h1) (by omega)
    rw [ha i j hi hj n] at this
    cases this
  rcases Nat.le_total (wl (u i)) (wl (u j)) with q | q
  · exact key i j hi hj n h1 h2 q
  · exact key j i hj hi (fun q => n q.symm) h2 h1 q
theorem cnd4 (hs : s = 2 ∨ s = 3) (hw : ∀ i, i < K → okw s (u i) = true) {n U a i : Nat} (hU : gdr n U) (ha4 : a < 4) (hi : i < K) : ((4 * q4 4 U + a) % 4 ^ wl (u i) = q4 (wl (u i)) (u i) ↔ (U * 10 + a) % 10 ^ wl (u i) = u i) := by
  have hX : d4 (U * 10 + a) := (gdr_app hU ha4).2
  have e5 : 4 * q4 4 U + a = q4 5 (U * 10 + a) := by
    show _ = 4 * q4 4 ((U * 10 + a) / 10) + (U * 10 + a) % 10
    rw [show (U * 10 + a) / 10 = U by omega, show (U * 10 + a) % 10 = a by omega]
  have l5 := wl_le (u i)
  have hu : d4 (u i) := dg_d4 (s := s) (by omega) _ _ (okw_dg (hw i hi))
  rw [e5, q4_mod _ 5 _ l5 hX, q4_inj _ _ _ hX hu, Nat.mod_eq_of_lt (wl_lt (okw_lt (hw i hi)).2)]
theorem hB_eq (hs : s = 2 ∨ s = 3) (hw : ∀ i, i < K → okw s (u i) = true) (ha : apt K u) (he : ∀ i, i < K → e i < 6) (hin : ∀ i j, i < K → j < K → e i = e j → i = j) {n U a p : Nat} (hU : gdr n U) (ha4 : a < 4) (hp : p < K) : hBf u e K (e p) (q4 4 U) a = ewd (u p) (U * 10 + a) := by
  unfold hBf ewd
  have cp := cnd4 hs hw hU ha4 hp
  have ep := he p hp
  rcases ebf_spec u e (4 * q4 4 U + a) K 0 with ⟨h1, h2⟩ | ⟨y, h1, h2, h3, h4⟩
  · have n1 : ¬ (-1 : Int32) = nI (e p) := fun q => by
      have := congrArg Int32.toInt q
      rw [nI_toInt (by omega)] at this
      have e1 : (-1 : Int32).toInt = -1 := rfl
      omega
    rw [h1, if_neg n1, if_neg (fun q => h2 p (by omega) (by omega) (cp.mpr q))]
  · have ey := he y (by omega)
    rw [h4]
    by_cases q : y = p
    · rw [q, if_pos rfl, if_pos (cp.mp (by rw [← q]; exact h3))]
    · rw [if_neg (fun r => q (hin y p (by omega) hp ((nI_eq (by omega) (by omega)).mp r))), if_neg]
      intro r
      exact q (ends_one ha (by omega) hp ((cnd4 hs hw hU ha4 (show y < K by omega)).mp h3) r)
theorem gB_eq (hs : s = 2 ∨ s = 3) (hw : ∀ i, i < K → okw s (u i) = true) (ha : apt K u) (he : ∀ i, i < K → e i < 6) {n U a y : Nat} (hU : gdr n U) (ha4 : a < 4) : gBf u e K y (q4 4 U) a = opw K u (U * 10 + a) * (if q4 4 (U * 10 + a) = y then 1 else 0) := by
  have hX : d4 (U * 10 + a) := (gdr_app hU ha4).2
  have e5 : (4 * q4 4 U + a) % 256 = q4 4 (U * 10 + a) := by
    have e5 : 4 * q4 4 U + a = q4 5 (U * 10 + a) := by
      show _ = 4 * q4 4 ((U * 10 + a) / 10) + (U * 10 + a) % 10
      rw [show (U * 10 + a) / 10 = U by omega, show (U * 10 + a) % 10 = a by omega]
    rw [e5]
    exact q4_mod 4 5 _ (by omega) hX
  unfold gBf opw
  rw [e5]
  have z : ∀ n, sm n (fun _ => (0 : Int)) = 0 := fun n => by
    induction n with
    | zero => rfl
    | succ n ih => simp only [sm]; rw [ih]; rfl
  rcases ebf_spec u e (4 * q4 4 U + a) K 0 with ⟨h1, h2⟩ | ⟨v, h1, h2, h3, h4⟩
  · have s0 : sm K (fun j => ewd (u j) (U * 10 + a)) = 0 := by
      rw [← z K]
      apply sm_eq
      intro i hi
      unfold ewd
      rw [if_neg (fun q => h2 i (by omega) (by omega) ((cnd4 hs hw hU ha4 hi).mpr q))]
    rw [s0, h1, show (1 : Int) + (-1) * 0 = 1 by decide, Int.one_mul]
    by_cases c : q4 4 (U * 10 + a) = y
    · rw [if_pos ⟨by decide, c⟩, if_pos c]
    · rw [if_neg (fun q => c q.2), if_neg c]
  · have ev := he v (by omega)
    have cv := (cnd4 hs hw hU ha4 (show v < K by omega)).mp h3
    have s1 : sm K (fun j => ewd (u j) (U * 10 + a)) = 1 := by
      rw [sm_one (j := v) K (by omega) (fun i hi hn => by
        unfold ewd
        rw [if_neg (fun q => hn (ends_one ha hi (by omega) q cv))])]
      unfold ewd
      rw [if_pos cv]
    rw [s1, h4, show (1 : Int) + (-1) * 1 = 0 by decide, Int.zero_mul, if_neg (fun q => q.1 (nI_pos' (by omega)))]
theorem N_lin (hs : s = 2 ∨ s = 3) (F : Nat → Int) (i : Nat) : sm 256 (fun y => Nst s K u i y * F y) = xt s K u (fun T => F (q4 4 T)) i 0 := by
  have e1 : sm 256 (fun y => Nst s K u i y * F y) = sm 256 (fun y => xt s K u (fun T => F y * (if q4 4 T = y then 1 else 0)) i 0) := sm_eq 256 (fun y _ => by
    rw [xt_mul, Int.mul_comm]
    rfl)
  rw [e1, ← xt_sm (fun y T => F y * (if q4 4 T = y then 1 else 0)) i 0 256]
  apply xt_eq0 hs
  intro U hU
  have hl : q4 4 U < 256 := q4_lt 4 U hU.2
  rw [sm_one (j := q4 4 U) 256 hl (fun y _ hn => by rw [if_neg (fun q => hn q.symm), Int.mul_zero]), if_pos rfl, Int.mul_one]
theorem N_ends (hs : s = 2 ∨ s = 3) (hw : ∀ i, i < K → okw s (u i) = true) (ha : apt K u) (he : ∀ i, i < K → e i < 6) (hin : ∀ i j, i < K → j < K → e i = e j → i = j) {p : Nat} (hp : p < K) (i : Nat) : sm 256 (fun q => Nst s K u i q * sm s (fun a => hBf u e K (e p) q (a + 1))) = Emj s K u p (i + 1) := by
  rw [N_lin hs (fun q => sm s (fun a => hBf u e K (e p) q (a + 1)))]
  show _ = xt s K u (fun T => sa s (fun a => ewd (u p) (T * 10 + a))) i 0
  apply xt_eq0 hs
  intro U hU
  rw [← sa_sum s hs (fun a => hBf u e K (e p) (q4 4 U) a)]
  apply sa_eq hs
  intro a a1 a2
  exact hB_eq hs hw ha he hin hU (by omega) hp
theorem N_next (hs : s = 2 ∨ s = 3) (hw : ∀ i, i < K → okw s (u i) = true) (ha : apt K u) (he : ∀ i, i < K → e i < 6) (i y : Nat) : sm 256 (fun q => Nst s K u i q * sm s (fun a => gBf u e K y q (a + 1))) = Nst s K u (i + 1) y := by
  rw [N_lin hs (fun q => sm s (fun a => gBf u e K y q (a + 1)))]
  unfold Nst
  rw [xt_app]
  apply xt_eq0 hs
  intro U hU
  rw [← sa_sum s hs (fun a => gBf u e K y (q4 4 U) a)]
  apply sa_eq hs
  intro a a1 a2
  exact gB_eq hs hw ha he hU (by omega)
end RW
theorem b_4l : ∀ l, l ≤ 5 → (1 : Int32) <<< (((2 : Int32) * nI l) &&& 31) = nI (4 ^ l) := by decide
theorem p4_le : ∀ l, l ≤ 5 → 0 < 4 ^ l ∧ 4 ^ l ≤ 1024 := by decide
theorem l_skip {a b c : Int} (h : lI b = 0) : lI (a + b * c) = lI a := by rw [← lI_add, ← lI_mul, h, Int64.zero_mul, Int64.add_zero]
section RV
variable {J : Nat → Int32} {B : Nat → Nat → Int32} {L : Nat → Nat → Int64} {t : List zm_E} {s K : Nat} {u e : Nat → Nat}
theorem r_four {d a : Nat} (hd : 3 ≤ d) (h : zm_H) (ha : a < 100000) : zC d 166 [.int (nI a)] h = some (some (.int (nI (q4 (wl a) a))), h) := by
  obtain ⟨d, rfl⟩ : ∃ e, d = e + 1 := ⟨d - 1, by omega⟩
  have l5 := wl_le a
  have loop : ∀ (j i f : Nat), i + j = wl a → j < f → zR d f 166 4 [some (.int (nI a)), some (.int (nI (q4 i (a / 10 ^ (wl a - i))))), some (.int (nI i))] [] h = some (some (.int (nI (q4 (wl a) a))), h) := by
    intro j
    induction j with
    | zero =>
      intro i f hi hf
      obtain ⟨f, rfl⟩ : ∃ e, f = e + 1 := ⟨f - 1, by omega⟩
      have e0 : i = wl a := by omega
      subst e0
      rw [e_X10_fourOf_at4, r_sizeW (by omega) _ ha, pn_c1, pn_t (nI_le (Nat.le_refl _) (by omega)), Nat.sub_self, Nat.pow_zero, Nat.div_one]
    | succ j ih =>
      intro i f hi hf
      obtain ⟨f, rfl⟩ : ∃ e, f = e + 1 := ⟨f - 1, by omega⟩
      have e4 : (4 : Int32) * nI (q4 i (a / 10 ^ (wl a - i))) + nI (ltr a i) = nI (q4 (i + 1) (a / 10 ^ (wl a - (i + 1)))) := by
        have e5 : a / 10 ^ (wl a - (i + 1)) / 10 = a / 10 ^ (wl a - i) := by
          rw [Nat.div_div_eq_div_mul, ← Nat.pow_succ, show (wl a - (i + 1)).succ = wl a - i by omega]
        have e6 : ltr a i = a / 10 ^ (wl a - (i + 1)) % 10 := by
          unfold ltr
          rw [show wl a - 1 - i = wl a - (i + 1) by omega]
        simp only [q4]
        rw [show (4 : Int32) = nI 4 from rfl, pk_mul, nI_add, e5, e6]
      rw [e_X10_fourOf_at4, r_sizeW (by omega) _ ha, pn_c1, pn_f (nI_ge (by omega) (by omega)), r_letterOf (by omega) _ ha (by omega), pn_c1, e4, nI_1]
      exact ih (i + 1) f (by omega) (by omega)
  rw [e_X10_fourOf]
  exact loop (wl a) 0 10000000 (by omega) (by omega)
theorem r_ends4 {d x : Nat} (hd : 5 ≤ d) (hK : J 26 = nI K) (K4 : K ≤ 4) (he : ∀ i, i < K → e i < 6) (hB : ∀ i, i < K → B 17 i = nI (e i)) (hw : ∀ i, i < K → B 1 (e i) = nI (u i) ∧ 1 ≤ u i ∧ u i < 100000) (hx : x < 1024) : zC d 168 [.ref 1000, .int (nI x)] (t, hM J B L) = some (some (.int (ebf u e x K 0)), (t, hM J B L)) := by
  obtain ⟨d, rfl⟩ : ∃ e, d = e + 1 := ⟨d - 1, by omega⟩
  have loop : ∀ (j i f : Nat) (o3 : Option Value), i + j = K → 2 * j < f → zR d f 168 2 [some (.ref 1000), some (.int (nI x)), some (.int (nI i)), o3] [] (t, hM J B L) = some (some (.int (ebf u e x j i)), (t, hM J B L)) := by
    intro j
    induction j with
    | zero =>
      intro i f o3 hi hf
      obtain ⟨f, rfl⟩ : ∃ e, f = e + 1 := ⟨f - 1, by omega⟩
      rw [e_X10_endsBy_at2, hK, pn_t (nI_le (by omega) (by omega))]
      rfl
    | succ j ih =>
      intro i f o3 hi hf
      obtain ⟨f, rfl⟩ : ∃ e, f = e + 1 + 1 := ⟨f - 2, by omega⟩
      have ei := he i (by omega)
      have hi1 := hw i (by omega)
      have l5 := wl_le (u i)
      have p4 := p4_le _ l5
      have hq : q4 (wl (u i)) (u i) < 2 ^ 31 := by
        have h1 : ∀ n T, q4 n T < 16 ^ n := fun n => by
          induction n with
          | zero => intro T; simp only [q4]; decide
          | succ n ihn =>
            intro T
            have := ihn (T / 10)
            simp only [q4]
            rw [Nat.pow_succ]
            omega
        have h2 := h1 (wl (u i)) (u i)
        have h3 : 16 ^ wl (u i) ≤ 16 ^ 5 := Nat.pow_le_pow_right (by omega) l5
        omega
      have hm : x % 4 ^ wl (u i) < 2 ^ 31 := by
        have := Nat.mod_le x (4 ^ wl (u i))
        omega
      rw [e_X10_endsBy_at2, hK, pn_f (nI_ge (by omega) (by omega)), pn_in (show i < 4 by omega) (by decide), cond_true, pn_cl (show i < 2 ^ 31 by omega), hB i (by omega), pn_in ei (by decide), cond_true, pn_cl (show e i < 2 ^ 31 by omega), hi1.1, r_sizeW (by omega) _ hi1.2.2, pn_c1, b_4l _ l5, pn_f (nI_ne0 p4.1 (by omega)), r_four (by omega) _ hi1.2.2, pn_c1, pk_rem (by omega) p4.1 (by omega), e_X10_endsBy_at36]
      simp only [ebf]
      by_cases c : x % 4 ^ wl (u i) = q4 (wl (u i)) (u i)
      · rw [if_pos c, c, pn_f (fun q => q rfl), pn_in (show i < 4 by omega) (by decide), cond_true, pn_cl (show i < 2 ^ 31 by omega), hB i (by omega)]
      · rw [if_neg c, pn_t (fun q => c ((nI_eq hm hq).mp q)), nI_1]
        exact ih (i + 1) f _ (by omega) (by omega)
  rw [e_X10_endsBy]
  exact loop K 0 10000000 none (by omega) (by omega)
theorem r_lets (d : Nat) (hd : 5 ≤ d) (hs : s = 2 ∨ s = 3) (hJ : J 0 = nI s) (hK : J 26 = nI K) (K4 : K ≤ 4) (he : ∀ i, i < K → e i < 6) (hB : ∀ i, i < K → B 17 i = nI (e i)) (hw : ∀ i, i < K → B 1 (e i) = nI (u i) ∧ 1 ≤ u i ∧ u i < 100000) {q v : Nat} (hq : q < 256) (hv : v < 6) (x1 x3 x6 : Int32) (c X : Int) (M : Nat → Int) : ∀ (jj a : Nat) (L : Nat → Nat → Int64), a + jj = s → L 15 q = lI c → (∀ y, y < 256 → L 16 y = lI (M y + c * sm a (fun i => gBf u e K y q (i + 1)))) → ∃ L', (∀ (R : Option zm_R) (t : List zm_E) (F0 : Nat), (∀ f o8 o9, F0 < f → zR d f 167 139 [some (.ref 1000), some (.int x1), some (.int (nI v)), some (.int x3), some (.long (lI (X + c * sm s (fun i => hBf u e K v q (i + 1))))), none, some (.int x6), some (.int (nI (q + 1))), o8, o9] [] (t, hM J B L') = R) → ∀ f o9, F0 + 2 * jj + 1 < f → zR d f 167 165 [some (.ref 1000), some (.int x1), some (.int (nI v)), some (.int x3), some (.long (lI (X + c * sm a (fun i => hBf u e K v q (i + 1))))), none, some (.int x6), some (.int (nI q)), some (.int (nI (a + 1))), o9] [] (t, hM J B L) = R) ∧ (∀ y, y ≠ 16 → L' y = L y) ∧ ∀ y, y < 256 → L' 16 y = lI (M y + c * sm s (fun i => gBf u e K y q (i + 1))) := by
  intro jj
  induction jj with
  | zero =>
    intro a L ha h15 h16
    have e0 : a = s := by omega
    subst e0
    refine ⟨L, fun R t F0 hR f o9 hf => ?_, fun y _ => rfl, h16⟩
    obtain ⟨f, rfl⟩ : ∃ e, f = e + 1 := ⟨f - 1, by omega⟩
    rw [e_X10_within_at165, hJ, pn_t (nI_lt (by omega) (by omega)), nI_1]
    exact hR f _ _ (by omega)
  | succ jj ih =>
    intro a L ha h15 h16
    have eb := fun t => r_ends4 (t := t) (J := J) (B := B) (L := L) (u := u) (e := e) (x := 4 * q + (a + 1)) hd hK K4 he hB hw (by omega)
    have e4 : (4 : Int32) * nI q + nI (a + 1) = nI (4 * q + (a + 1)) := by rw [show (4 : Int32) = nI 4 from rfl, pk_mul, nI_add]
    have ns : ¬ nI s < nI (a + 1) := nI_nlt (by omega) (by omega)
    by_cases hE : ebf u e (4 * q + (a + 1)) K 0 = nI v
    · have h0 : 0 ≤ nI v := nI_pos' (by omega)
      have g0 : ∀ y, gBf u e K y q (a + 1) = 0 := fun y => if_neg (fun p => p.1 (by rw [hE]; exact h0))
      have h1 : hBf u e K v q (a + 1) = 1 := if_pos hE
      obtain ⟨L', l1, l2, l3⟩ := ih (a + 1) L (by omega) h15 (fun y hy => by
        simp only [sm]
        rw [g0, Int.add_zero]
        exact h16 y hy)
      refine ⟨L', fun R t F0 hR f o9 hf => ?_, l2, l3⟩
      obtain ⟨f, rfl⟩ : ∃ e, f = e + 1 + 1 := ⟨f - 2, by omega⟩
      have ex : X + c * sm a (fun i => hBf u e K v q (i + 1)) + c = X + c * sm (a + 1) (fun i => hBf u e K v q (i + 1)) := by
        simp only [sm]
        rw [h1, Int.mul_add, Int.mul_one, Int.add_assoc]
      rw [e_X10_within_at165, hJ, pn_f ns, e4, eb, pn_c1, e_X10_within_at185, hE, pn_f (fun p => p rfl), pn_in hq (by decide), cond_true, pn_t h0, pn_cl (by omega), h15, lI_add, ex, nI_1]
      exact l1 R t F0 hR f _ (by omega)
    · have h1 : hBf u e K v q (a + 1) = 0 := if_neg hE
      have ex : X + c * sm a (fun i => hBf u e K v q (i + 1)) = X + c * sm (a + 1) (fun i => hBf u e K v q (i + 1)) := by
        simp only [sm]
        rw [h1, Int.add_zero]
      by_cases h0 : 0 ≤ ebf u e (4 * q + (a + 1)) K 0
      · have g0 : ∀ y, gBf u e K y q (a + 1) = 0 := fun y => if_neg (fun p => p.1 h0)
        obtain ⟨L', l1, l2, l3⟩ := ih (a + 1) L (by omega) h15 (fun y hy => by
          simp only [sm]
          rw [g0, Int.add_zero]
          exact h16 y hy)
        refine ⟨L', fun R t F0 hR f o9 hf => ?_, l2, l3⟩
        obtain ⟨f, rfl⟩ : ∃ e, f = e + 1 + 1 := ⟨f - 2, by omega⟩
        rw [e_X10_within_at165, hJ, pn_f ns, e4, eb, pn_c1, e_X10_within_at185, pn_t hE, pn_t h0, ex, nI_1]
        exact l1 R t F0 hR f _ (by omega)
      · have hx : (4 * q + (a + 1)) % 256 < 256 := Nat.mod_lt _ (by decide)
        have er : nI (4 * q + (a + 1)) - nI (4 * q + (a + 1)) / 256 * 256 = nI ((4 * q + (a + 1)) % 256) := pk_rem (d := 256) (by omega) (by decide) (by decide)
        obtain ⟨L', l1, l2, l3⟩ := ih (a + 1) (va_up L 16 (vp_updL (L 16) ((4 * q + (a + 1)) % 256) ((L 16 ((4 * q + (a + 1)) % 256)) + (L 15 q)))) (by omega) (by rw [vu_ne (by decide)]; exact h15) (fun y hy => by
          rw [vu_eq]
          simp only [sm]
          by_cases ey : y = (4 * q + (a + 1)) % 256
          · have g1 : gBf u e K y q (a + 1) = 1 := if_pos ⟨h0, ey.symm⟩
            rw [g1, ← ey, pk_uLs, h16 y hy, h15, lI_add, Int.mul_add, Int.mul_one, Int.add_assoc]
          · have g0 : gBf u e K y q (a + 1) = 0 := if_neg (fun p => ey p.2.symm)
            rw [g0, Int.add_zero, pk_uLn ey]
            exact h16 y hy)
        refine ⟨L', fun R t F0 hR f o9 hf => ?_, fun y hy => by rw [l2 y hy, vu_ne hy], l3⟩
        obtain ⟨f, rfl⟩ : ∃ e, f = e + 1 + 1 := ⟨f - 2, by omega⟩
        rw [e_X10_within_at165, hJ, pn_f ns, e4, eb, pn_c1, e_X10_within_at185, pn_t hE, pn_f h0, e4, er, pn_in hx (by decide), cond_true, pn_in hq (by decide), cond_true, cond_true, pn_cl (show (4 * q + (a + 1)) % 256 < 2 ^ 31 by omega), pn_cl (show q < 2 ^ 31 by omega), ex, nI_1]
        exact l1 R t F0 hR f _ (by omega)
theorem r_scanQ (d : Nat) (hd : 5 ≤ d) (hs : s = 2 ∨ s = 3) (hJ : J 0 = nI s) (hK : J 26 = nI K) (K4 : K ≤ 4) (he : ∀ i, i < K → e i < 6) (hB : ∀ i, i < K → B 17 i = nI (e i)) (hw : ∀ i, i < K → B 1 (e i) = nI (u i) ∧ 1 ≤ u i ∧ u i < 100000) {v : Nat} (hv : v < 6) (x1 x3 x6 : Int32) (X : Int) (N : Nat → Int) : ∀ (jj q : Nat) (L : Nat → Nat → Int64), q + jj = 256 → (∀ y, y < 256 → L 15 y = lI (N y)) → (∀ y, y < 256 → L 16 y = lI (sm q (fun z => N z * sm s (fun i => gBf u e K y z (i + 1))))) → ∃ L', (∀ (R : Option zm_R) (t : List zm_E) (F0 : Nat), (∀ f o8 o9, F0 < f → zR d f 167 251 [some (.ref 1000), some (.int x1), some (.int (nI v)), some (.int x3), some (.long (lI (X + sm 256 (fun z => N z * sm s (fun i => hBf u e K v z (i + 1)))))), none, some (.int x6), some (.int 0), o8, o9] [] (t, hM J B L') = R) → ∀ f o8 o9, F0 + 10 * jj + 1 < f → zR d f 167 139 [some (.ref 1000), some (.int x1), some (.int (nI v)), some (.int x3), some (.long (lI (X + sm q (fun z => N z * sm s (fun i => hBf u e K v z (i + 1)))))), none, some (.int x6), some (.int (nI q)), o8, o9] [] (t, hM J B L) = R) ∧ (∀ y, y ≠ 16 → L' y = L y) ∧ ∀ y, y < 256 → L' 16 y = lI (sm 256 (fun z => N z * sm s (fun i => gBf u e K y z (i + 1)))) := by
  intro jj
  induction jj with
  | zero =>
    intro q L hq h15 h16
    have e0 : q = 256 := by omega
    subst e0
    refine ⟨L, fun R t F0 hR f o8 o9 hf => ?_, fun y _ => rfl, h16⟩
    obtain ⟨f, rfl⟩ : ∃ e, f = e + 1 := ⟨f - 1, by omega⟩
    rw [e_X10_within_at139, pn_t (show (256 : Int32) ≤ nI 256 from nI_le (a := 256) (Nat.le_refl _) (by decide))]
    exact hR f _ _ (by omega)
  | succ jj ih =>
    intro q L hq h15 h16
    have hq' : q < 256 := by omega
    have n256 : ¬ (256 : Int32) ≤ nI q := nI_ge (b := 256) hq' (by decide)
    by_cases z : (lI (N q)).toInt = 0
    · have z0 : lI (N q) = 0 := Int64.toInt_inj.mp (by rw [z]; rfl)
      have ex : lI (X + sm (q + 1) (fun z => N z * sm s (fun i => hBf u e K v z (i + 1)))) = lI (X + sm q (fun z => N z * sm s (fun i => hBf u e K v z (i + 1)))) := by
        simp only [sm]
        rw [← Int.add_assoc, l_skip z0]
      obtain ⟨L', l1, l2, l3⟩ := ih (q + 1) L (by omega) h15 (fun y hy => by
        simp only [sm]
        rw [l_skip z0]
        exact h16 y hy)
      refine ⟨L', fun R t F0 hR f o8 o9 hf => ?_, l2, l3⟩
      obtain ⟨f, rfl⟩ : ∃ e, f = e + 1 := ⟨f - 1, by omega⟩
      rw [e_X10_within_at139, pn_f n256, pn_in hq' (by decide), cond_true, pn_cl (by omega), h15 q hq', pn_f (fun p => p ((l_cmp0 _).mpr z)), nI_1, ← ex]
      exact l1 R t F0 hR f _ _ (by omega)
    · obtain ⟨L1, a1, a2, a3⟩ := r_lets d hd hs hJ hK K4 he hB hw hq' hv x1 x3 x6 (N q) (X + sm q (fun z => N z * sm s (fun i => hBf u e K v z (i + 1)))) (fun y => sm q (fun z => N z * sm s (fun i => gBf u e K y z (i + 1)))) s 0 L (by omega) (h15 q hq') (fun y hy => by
        simp only [sm]
        rw [Int.mul_zero, Int.add_zero]
        exact h16 y hy)
      obtain ⟨L', l1, l2, l3⟩ := ih (q + 1) L1 (by omega) (fun y hy => by rw [a2 15 (by decide)]; exact h15 y hy) (fun y hy => by
        rw [a3 y hy]
        rfl)
      refine ⟨L', fun R t F0 hR f o8 o9 hf => ?_, fun y hy => by rw [l2 y hy, a2 y hy], l3⟩
      obtain ⟨f, rfl⟩ : ∃ e, f = e + 1 := ⟨f - 1, by omega⟩
      rw [e_X10_within_at139, pn_f n256, pn_in hq' (by decide), cond_true, pn_cl (by omega), h15 q hq', pn_t (fun p => z ((l_cmp0 _).mp p))]
      have a1' := a1 R t (F0 + 10 * jj + 1) (fun f o8 o9 hf => by
        rw [Int.add_assoc]
        exact l1 R t F0 hR f o8 o9 hf) f o9 (by omega)
      rw [show (X + sm q (fun z => N z * sm s (fun i => hBf u e K v z (i + 1)))) + N q * sm 0 (fun i => hBf u e K v q (i + 1)) = X + sm q (fun z => N z * sm s (fun i => hBf u e K v z (i + 1))) by
        simp only [sm]
        rw [Int.mul_zero, Int.add_zero]] at a1'
      exact a1'
theorem r_clearQ (d : Nat) (x1 x2 x3 x6 : Int32) (x4 : Int64) : ∀ (jj q : Nat) (L : Nat → Nat → Int64), q + jj = 256 → (∀ y, y < q → L 16 y = 0) → ∃ L', (∀ (R : Option zm_R) (t : List zm_E) (F0 : Nat), (∀ f o8 o9, F0 < f → zR d f 167 139 [some (.ref 1000), some (.int x1), some (.int x2), some (.int x3), some (.long x4), none, some (.int x6), some (.int 0), o8, o9] [] (t, hM J B L') = R) → ∀ f o8 o9, F0 + jj + 1 < f → zR d f 167 114 [some (.ref 1000), some (.int x1), some (.int x2), some (.int x3), some (.long x4), none, some (.int x6), some (.int (nI q)), o8, o9] [] (t, hM J B L) = R) ∧ (∀ y, y ≠ 16 → L' y = L y) ∧ ∀ y, y < 256 → L' 16 y = 0 := by
  intro jj
  induction jj with
  | zero =>
    intro q L hq h
    have e0 : q = 256 := by omega
    subst e0
    refine ⟨L, fun R t F0 hR f o8 o9 hf => ?_, fun y _ => rfl, h⟩
    obtain ⟨f, rfl⟩ : ∃ e, f = e + 1 := ⟨f - 1, by omega⟩
    rw [e_X10_within_at114, pn_t (show (256 : Int32) ≤ nI 256 from nI_le (a := 256) (Nat.le_refl _) (by decide))]
    exact hR f _ _ (by omega)
  | succ jj ih =>
    intro q L hq h
    have hq' : q < 256 := by omega
    obtain ⟨L', l1, l2, l3⟩ := ih (q + 1) (va_up L 16 (vp_updL (L 16) q 0)) (by omega) (fun y hy => by
      rw [vu_eq]
      by_cases ey : y = q
      · rw [ey, pk_uLs]
      · rw [pk_uLn ey]; exact h y (by omega))
    refine ⟨L', fun R t F0 hR f o8 o9 hf => ?_, fun y hy => by rw [l2 y hy, vu_ne hy], l3⟩
    obtain ⟨f, rfl⟩ : ∃ e, f = e + 1 := ⟨f - 1, by omega⟩
    rw [e_X10_within_at114, pn_f (show ¬ (256 : Int32) ≤ nI q from nI_ge (b := 256) hq' (by decide)), pn_in hq' (by decide), cond_true, pn_cl (by omega), nI_1]
    exact l1 R t F0 hR f _ _ (by omega)
theorem r_copyQ (d : Nat) (x1 x2 x3 x6 : Int32) (x4 : Int64) : ∀ (jj q : Nat) (L : Nat → Nat → Int64), q + jj = 256 → (∀ y, y < q → L 15 y = L 16 y) → ∃ L', (∀ (R : Option zm_R) (t : List zm_E) (F0 : Nat), (∀ f o7 o8 o9, F0 < f → zR d f 167 95 [some (.ref 1000), some (.int x1), some (.int x2), some (.int x3), some (.long x4), none, some (.int (x6 + 1)), o7, o8, o9] [] (t, hM J B L') = R) → ∀ f o8 o9, F0 + jj + 1 < f → zR d f 167 251 [some (.ref 1000), some (.int x1), some (.int x2), some (.int x3), some (.long x4), none, some (.int x6), some (.int (nI q)), o8, o9] [] (t, hM J B L) = R) ∧ (∀ y, y ≠ 15 → L' y = L y) ∧ ∀ y, y < 256 → L' 15 y = L 16 y := by
  intro jj
  induction jj with
  | zero =>
    intro q L hq h
    have e0 : q = 256 := by omega
    subst e0
    refine ⟨L, fun R t F0 hR f o8 o9 hf => ?_, fun y _ => rfl, h⟩
    obtain ⟨f, rfl⟩ : ∃ e, f = e + 1 := ⟨f - 1, by omega⟩
    rw [e_X10_within_at251, pn_t (show (256 : Int32) ≤ nI 256 from nI_le (a := 256) (Nat.le_refl _) (by decide))]
    exact hR f _ _ _ (by omega)
  | succ jj ih =>
    intro q L hq h
    have hq' : q < 256 := by omega
    obtain ⟨L', l1, l2, l3⟩ := ih (q + 1) (va_up L 15 (vp_updL (L 15) q (L 16 q))) (by omega) (fun y hy => by
      rw [vu_eq, vu_ne (by decide)]
      by_cases ey : y = q
      · rw [ey, pk_uLs]
      · rw [pk_uLn ey]; exact h y (by omega))
    refine ⟨L', fun R t F0 hR f o8 o9 hf => ?_, fun y hy => by rw [l2 y hy, vu_ne hy], fun y hy => by rw [l3 y hy, vu_ne (by decide)]⟩
    obtain ⟨f, rfl⟩ : ∃ e, f = e + 1 := ⟨f - 1, by omega⟩
    rw [e_X10_within_at251, pn_f (show ¬ (256 : Int32) ≤ nI q from nI_ge (b := 256) hq' (by decide)), pn_in hq' (by decide), cond_true, cond_true, pn_cl (by omega), nI_1]
    exact l1 R t F0 hR f _ _ (by omega)
theorem r_initQ (d : Nat) (x1 x2 x3 : Int32) : ∀ (jj q : Nat) (L : Nat → Nat → Int64), q + jj = 256 → (∀ y, y < q → L 15 y = 0) → ∃ L', (∀ (R : Option zm_R) (t : List zm_E) (F0 : Nat), (∀ f, F0 < f → zR d f 167 95 [some (.ref 1000), some (.int x1), some (.int x2), some (.int x3), some (.long 0), none, some (.int 0), none, none, none] [] (t, hM J B L') = R) → ∀ f, F0 + jj + 1 < f → zR d f 167 60 [some (.ref 1000), some (.int x1), some (.int x2), some (.int x3), some (.int (nI q)), none, none, none, none, none] [] (t, hM J B L) = R) ∧ (∀ y, y ≠ 15 → L' y = L y) ∧ ∀ y, y < 256 → L' 15 y = lI (if 0 = y then 1 else 0) := by
  intro jj
  induction jj with
  | zero =>
    intro q L hq h
    have e0 : q = 256 := by omega
    subst e0
    refine ⟨va_up L 15 (vp_updL (L 15) 0 1), fun R t F0 hR f hf => ?_, fun y hy => vu_ne hy, fun y hy => ?_⟩
    · obtain ⟨f, rfl⟩ : ∃ e, f = e + 1 := ⟨f - 1, by omega⟩
      rw [e_X10_within_at60, pn_t (show (256 : Int32) ≤ nI 256 from nI_le (a := 256) (Nat.le_refl _) (by decide))]
      exact hR f (by omega)
    · rw [vu_eq]
      by_cases ey : y = 0
      · rw [ey, pk_uLs, if_pos rfl]; rfl
      · rw [pk_uLn ey, h y hy, if_neg (fun p => ey p.symm)]; rfl
  | succ jj ih =>
    intro q L hq h
    have hq' : q < 256 := by omega
    obtain ⟨L', l1, l2, l3⟩ := ih (q + 1) (va_up L 15 (vp_updL (L 15) q 0)) (by omega) (fun y hy => by
      rw [vu_eq]
      by_cases ey : y = q
      · rw [ey, pk_uLs]
      · rw [pk_uLn ey]; exact h y (by omega))
    refine ⟨L', fun R t F0 hR f hf => ?_, fun y hy => by rw [l2 y hy, vu_ne hy], l3⟩
    obtain ⟨f, rfl⟩ : ∃ e, f = e + 1 := ⟨f - 1, by omega⟩
    rw [e_X10_within_at60, pn_f (show ¬ (256 : Int32) ≤ nI q from nI_ge (b := 256) hq' (by decide)), pn_in hq' (by decide), cond_true, pn_cl (by omega), nI_1]
    exact l1 R t F0 hR f (by omega)
theorem r_rowsW (d : Nat) (hd : 5 ≤ d) (hs : s = 2 ∨ s = 3) (hJ : J 0 = nI s) (hK : J 26 = nI K) (K4 : K ≤ 4) (he : ∀ i, i < K → e i < 6) (hB : ∀ i, i < K → B 17 i = nI (e i)) (hw : ∀ i, i < K → B 1 (e i) = nI (u i) ∧ okw s (u i) = true) (ha : apt K u) (hin : ∀ i j, i < K → j < K → e i = e j → i = j) {p n : Nat} (hp : p < K) (hn : n ≤ 12) (x1 : Int32) : ∀ (jj i : Nat) (L : Nat → Nat → Int64), i + jj = n → (∀ y, y < 256 → L 15 y = lI (Nst s K u i y)) → ∃ L', ∀ t f o7 o8 o9, 4000 * jj < f → zR d f 167 95 [some (.ref 1000), some (.int x1), some (.int (nI (e p))), some (.int (nI n)), some (.long (lI (Hrn s (Emj s K u p) i))), none, some (.int (nI i)), o7, o8, o9] [] (t, hM J B L) = some (some (.int (iI (Hrn s (Emj s K u p) n))), (t, hM J B L')) := by
  intro jj
  induction jj with
  | zero =>
    intro i L hi h15
    have e0 : i = n := by omega
    subst e0
    refine ⟨L, fun t f o7 o8 o9 hf => ?_⟩
    obtain ⟨f, rfl⟩ : ∃ e, f = e + 1 := ⟨f - 1, by omega⟩
    rw [e_X10_within_at95, pn_t (nI_le (Nat.le_refl _) (by omega))]
    have ec : Int64.toInt32 (lI (Hrn s (Emj s K u p) i)) = iI (Hrn s (Emj s K u p) i) := Int64.toInt32_ofInt
    rw [ec]
  | succ jj ih =>
    intro i L hi h15
    have hok : ∀ i, i < K → okw s (u i) = true := fun i hi => (hw i hi).2
    have hw' : ∀ i, i < K → B 1 (e i) = nI (u i) ∧ 1 ≤ u i ∧ u i < 100000 := fun i hi => ⟨(hw i hi).1, okw_lt (hok i hi)⟩
    have hs4 : (s : Int).natAbs < 2 ^ 31 := by omega
    obtain ⟨L1, a1, a2, a3⟩ := r_clearQ (J := J) (B := B) d x1 (nI (e p)) (nI n) (nI i) (lI (Hrn s (Emj s K u p) i * s)) 256 0 L (by omega) (fun y hy => by omega)
    obtain ⟨L2, b1, b2, b3⟩ := r_scanQ (u := u) (e := e) d hd hs hJ hK K4 he hB hw' (he p hp) x1 (nI n) (nI i) (Hrn s (Emj s K u p) i * s) (Nst s K u i) 256 0 L1 (by omega) (fun y hy => by rw [a2 15 (by decide)]; exact h15 y hy) (fun y hy => by rw [a3 y hy]; rfl)
    obtain ⟨L3, c1, c2, c3⟩ := r_copyQ (J := J) (B := B) d x1 (nI (e p)) (nI n) (nI i) (lI (Hrn s (Emj s K u p) i * s + sm 256 (fun z => Nst s K u i z * sm s (fun a => hBf u e K (e p) z (a + 1))))) 256 0 L2 (by omega) (fun y hy => by omega)
    obtain ⟨L', l1⟩ := ih (i + 1) L3 (by omega) (fun y hy => by rw [c3 y hy, b3 y hy, N_next hs hok ha he])
    refine ⟨L', fun t f o7 o8 o9 hf => ?_⟩
    obtain ⟨f, rfl⟩ : ∃ e, f = e + 1 := ⟨f - 1, by omega⟩
    have s3 : ∀ f o7 o8 o9, 4000 * jj < f → zR d f 167 95 [some (.ref 1000), some (.int x1), some (.int (nI (e p))), some (.int (nI n)), some (.long (lI (Hrn s (Emj s K u p) i * s + sm 256 (fun z => Nst s K u i z * sm s (fun a => hBf u e K (e p) z (a + 1)))))), none, some (.int (nI i + 1)), o7, o8, o9] [] (t, hM J B L3) = some (some (.int (iI (Hrn s (Emj s K u p) n))), (t, hM J B L')) := fun f o7 o8 o9 hf => by
      rw [N_ends hs hok ha he hin hp, nI_1]
      exact l1 t f o7 o8 o9 hf
    have s2 := c1 _ t (4000 * jj) s3
    have s1 := b1 _ t (4000 * jj + 256 + 1) s2
    have s0 := a1 _ t (4000 * jj + 256 + 1 + 10 * 256 + 1) (fun f o8 o9 hf => by
      have := s1 f o8 o9 hf
      rw [show Hrn s (Emj s K u p) i * s + sm 0 (fun z => Nst s K u i z * sm s (fun a => hBf u e K (e p) z (a + 1))) = Hrn s (Emj s K u p) i * s by simp only [sm]; rw [Int.add_zero]] at this
      exact this) f o8 o9 (by omega)
    rw [e_X10_within_at95, pn_f (nI_ge (by omega) (by omega)), hJ, iI_nI s, iI_l hs4, lI_mul]
    exact s0
end RV
