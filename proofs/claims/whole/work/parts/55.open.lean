/-! rows of throws that are open, counted; rows in which a word ends just then -/
def ewd (b T : Nat) : Int := if T % 10 ^ wl b = b then 1 else 0
def opw (k : Nat) (w : Nat → Nat) (T : Nat) : Int := 1 + (-1) * sm k (fun j => ewd (w j) T)
def xt (s k : Nat) (w : Nat → Nat) (φ : Nat → Int) : Nat → Nat → Int
  | 0, T => φ T
  | i + 1, T => sa s (fun a => opw k w (T * 10 + a) * xt s k w φ i (T * 10 + a))
def Emj (s k : Nat) (w : Nat → Nat) (j : Nat) : Nat → Int
  | 0 => 0
  | m + 1 => xt s k w (fun T => sa s (fun a => ewd (w j) (T * 10 + a))) m 0
def Omj (s k : Nat) (w : Nat → Nat) (m : Nat) : Int := xt s k w (fun _ => 1) m 0
def prx (b k T : Nat) : Int := if T % 10 ^ k = b / 10 ^ (wl b - k) then 1 else 0
def bti (a b k : Nat) : Int := if k ≤ wl a ∧ a % 10 ^ k = b / 10 ^ (wl b - k) then 1 else 0
/-- a row of throws so long -/
def gdr (i T : Nat) : Prop := T < 10 ^ i ∧ ∀ k, T / 10 ^ k % 10 < 4
theorem sm_sm (f : Nat → Nat → Int) (b : Nat) : ∀ a, sm a (fun k => sm b (fun i => f k i)) = sm b (fun i => sm a (fun k => f k i))
  | 0 => by
    have z : ∀ n, sm n (fun _ => (0 : Int)) = 0 := fun n => by
      induction n with
      | zero => rfl
      | succ n ih => simp only [sm]; rw [ih]; rfl
    exact (z b).symm
  | a + 1 => by
    simp only [sm]
    rw [sm_sm f b a, ← sm_add]
theorem sa_sum (s : Nat) (hs : s = 2 ∨ s = 3) (f : Nat → Int) : sa s f = sm s (fun i => f (i + 1)) := by
  rcases hs with rfl | rfl
  · show f 1 + f 2 = (0 + f 1) + f 2
    omega
  · show f 1 + f 2 + f 3 = ((0 + f 1) + f 2) + f 3
    omega
theorem sa_z (s : Nat) : sa s (fun _ => (0 : Int)) = 0 := by unfold sa; split <;> rfl
theorem sa_1 {s : Nat} (hs : s = 2 ∨ s = 3) : sa s (fun _ => (1 : Int)) = s := by rcases hs with rfl | rfl <;> rfl
theorem gdr_0 : gdr 0 0 := ⟨by decide, fun k => by rw [Nat.zero_div]; decide⟩
theorem gdr_app {i T a : Nat} (h : gdr i T) (ha : a < 4) : gdr (i + 1) (T * 10 + a) := by
  refine ⟨by have := h.1; rw [Nat.pow_succ]; omega, fun k => ?_⟩
  cases k with
  | zero => rw [Nat.pow_zero, Nat.div_one]; omega
  | succ k =>
    rw [show (10 : Nat) ^ (k + 1) = 10 * 10 ^ k by rw [Nat.pow_succ, Nat.mul_comm], ← Nat.div_div_eq_div_mul, show (T * 10 + a) / 10 = T by omega]
    exact h.2 k
section XT
variable {s k : Nat} {w : Nat → Nat}
theorem xt_app (φ : Nat → Int) : ∀ i T, xt s k w φ (i + 1) T = xt s k w (fun T => sa s (fun a => opw k w (T * 10 + a) * φ (T * 10 + a))) i T
  | 0, T => rfl
  | i + 1, T => by
    have e : (fun a => opw k w (T * 10 + a) * xt s k w φ (i + 1) (T * 10 + a)) = (fun a => opw k w (T * 10 + a) * xt s k w (fun T => sa s (fun a => opw k w (T * 10 + a) * φ (T * 10 + a))) i (T * 10 + a)) := funext fun a => by rw [xt_app φ i]
    show sa s (fun a => opw k w (T * 10 + a) * xt s k w φ (i + 1) (T * 10 + a)) = _
    rw [e]
    rfl
theorem xt_add (φ ψ : Nat → Int) : ∀ i T, xt s k w (fun T => φ T + ψ T) i T = xt s k w φ i T + xt s k w ψ i T
  | 0, T => rfl
  | i + 1, T => by
    simp only [xt]
    rw [← sa_add]
    have e : (fun a => opw k w (T * 10 + a) * xt s k w (fun T => φ T + ψ T) i (T * 10 + a)) = (fun a => opw k w (T * 10 + a) * xt s k w φ i (T * 10 + a) + opw k w (T * 10 + a) * xt s k w ψ i (T * 10 + a)) := funext fun a => by rw [xt_add φ ψ i, Int.mul_add]
    rw [e]
theorem xt_mul (c : Int) (φ : Nat → Int) : ∀ i T, xt s k w (fun T => c * φ T) i T = c * xt s k w φ i T
  | 0, T => rfl
  | i + 1, T => by
    simp only [xt]
    rw [← sa_mul]
    have e : (fun a => opw k w (T * 10 + a) * xt s k w (fun T => c * φ T) i (T * 10 + a)) = (fun a => c * (opw k w (T * 10 + a) * xt s k w φ i (T * 10 + a))) := funext fun a => by rw [xt_mul c φ i, Int.mul_left_comm]
    rw [e]
theorem xt_z : ∀ i T, xt s k w (fun _ => 0) i T = 0
  | 0, T => rfl
  | i + 1, T => by
    simp only [xt]
    have e : (fun a => opw k w (T * 10 + a) * xt s k w (fun _ => 0) i (T * 10 + a)) = (fun _ => 0) := funext fun a => by rw [xt_z i, Int.mul_zero]
    rw [e, sa_z]
theorem xt_sm (φ : Nat → Nat → Int) (i T : Nat) : ∀ m, xt s k w (fun T => sm m (fun j => φ j T)) i T = sm m (fun j => xt s k w (φ j) i T)
  | 0 => xt_z i T
  | m + 1 => by
    simp only [sm]
    rw [xt_add, xt_sm φ i T m]
theorem xt_eq (hs : s = 2 ∨ s = 3) {φ ψ : Nat → Int} : ∀ i n T, gdr n T → (∀ U, gdr (n + i) U → φ U = ψ U) → xt s k w φ i T = xt s k w ψ i T
  | 0, n, T, h, e => e T h
  | i + 1, n, T, h, e => by
    simp only [xt]
    apply sa_eq hs
    intro a a1 a2
    rw [xt_eq hs i (n + 1) (T * 10 + a) (gdr_app h (by omega)) (fun U hU => e U (by rw [show n + (i + 1) = n + 1 + i by omega]; exact hU))]
theorem xt_eq0 (hs : s = 2 ∨ s = 3) {φ ψ : Nat → Int} (i : Nat) (e : ∀ U, gdr i U → φ U = ψ U) : xt s k w φ i 0 = xt s k w ψ i 0 := xt_eq hs i 0 0 gdr_0 (fun U hU => e U (by rw [Nat.zero_add] at hU; exact hU))
theorem xt_fn {φ ψ : Nat → Int} (e : ∀ U, φ U = ψ U) (i T : Nat) : xt s k w φ i T = xt s k w ψ i T := by rw [show φ = ψ from funext e]
theorem Om_succ (hs : s = 2 ∨ s = 3) (m : Nat) : Omj s k w (m + 1) = s * Omj s k w m + (-1) * sm k (fun j => Emj s k w j (m + 1)) := by
  unfold Omj
  rw [xt_app, ← xt_mul]
  have e : sm k (fun j => Emj s k w j (m + 1)) = xt s k w (fun T => sm k (fun j => sa s (fun a => ewd (w j) (T * 10 + a)))) m 0 := (xt_sm (fun j T => sa s (fun a => ewd (w j) (T * 10 + a))) m 0 k).symm
  rw [e, ← xt_mul, ← xt_add]
  apply xt_fn
  intro U
  have e2 : (fun a => opw k w (U * 10 + a) * 1) = (fun a => 1 + (-1) * sm k (fun j => ewd (w j) (U * 10 + a))) := funext fun a => by rw [Int.mul_one]; rfl
  rw [e2, sa_add s (fun _ => 1) (fun a => (-1) * sm k (fun j => ewd (w j) (U * 10 + a))), sa_mul s (-1) (fun a => sm k (fun j => ewd (w j) (U * 10 + a))), sa_sm s k (fun a j => ewd (w j) (U * 10 + a)), sa_1 hs, Int.mul_one]
theorem prx_sa (hs : s = 2 ∨ s = 3) {b : Nat} (hb : okw s b = true) {m : Nat} (hm : m + 1 ≤ wl b) (T : Nat) : sa s (fun a => prx b (m + 1) (T * 10 + a)) = prx b m T := by
  have hd := pre_dig hb hm
  unfold prx
  rw [← sa_pick (P := T % 10 ^ m = b / 10 ^ (wl b - m)) (c := 1) hs hd.1 hd.2]
  apply sa_eq hs
  intro a a1 a2
  have := cnd_s (T := T) (a := a) hb hm (by omega)
  by_cases c : (T * 10 + a) % 10 ^ (m + 1) = b / 10 ^ (wl b - (m + 1))
  · rw [if_pos c, if_pos (this.mp c)]
  · rw [if_neg c, if_neg (fun q => c (this.mpr q))]
theorem ewd_prx (hw : ∀ i, i < k → okw s (w i) = true) (ha : apt k w) {i j : Nat} (hi : i < k) (hj : j < k) {m : Nat} (hm : m + 1 ≤ wl (w j)) (X : Nat) : ewd (w i) X * prx (w j) (m + 1) X = bti (w i) (w j) (m + 1) * ewd (w i) X := by
  unfold ewd prx bti
  by_cases c : X % 10 ^ wl (w i) = w i
  · rw [if_pos c, Int.one_mul, Int.mul_one]
    by_cases l : m + 1 ≤ wl (w i)
    · have e : X % 10 ^ (m + 1) = w i % 10 ^ (m + 1) := by rw [← mod_mod10 X l, c]
      rw [e]
      by_cases q : w i % 10 ^ (m + 1) = w j / 10 ^ (wl (w j) - (m + 1))
      · rw [if_pos q, if_pos ⟨l, q⟩]
      · rw [if_neg q, if_neg (fun p => q p.2)]
    · rw [if_neg (fun p : (m + 1 ≤ wl (w i) ∧ _) => l p.1), if_neg]
      intro q
      have e : i ≠ j := fun e => by rw [e] at l; omega
      have : inn (w i) (w j) = true := inn_of (i := wl (w j) - (m + 1)) (by rw [← q, mod_mod10 X (by omega)]; exact c) (by omega)
      rw [ha i j hi hj e] at this
      cases this
  · rw [if_neg c, Int.zero_mul, Int.mul_zero]
/-- open rows of so many throws that end in the first letters of a word -/
def Vmj (s k : Nat) (w : Nat → Nat) (b start m : Nat) : Int := xt s k w (fun T => prx b m T) (start + m) 0
theorem Vm_succ (hs : s = 2 ∨ s = 3) (hw : ∀ i, i < k → okw s (w i) = true) (ha : apt k w) {j : Nat} (hj : j < k) {m : Nat} (hm : m + 1 ≤ wl (w j)) (start : Nat) : Vmj s k w (w j) start (m + 1) = Vmj s k w (w j) start m + (-1) * sm k (fun i => bti (w i) (w j) (m + 1) * Emj s k w i (start + (m + 1))) := by
  unfold Vmj
  rw [show start + (m + 1) = start + m + 1 from rfl, xt_app]
  have e : sm k (fun i => bti (w i) (w j) (m + 1) * Emj s k w i (start + m + 1)) = xt s k w (fun T => sm k (fun i => bti (w i) (w j) (m + 1) * sa s (fun a => ewd (w i) (T * 10 + a)))) (start + m) 0 := by
    rw [xt_sm (fun i T => bti (w i) (w j) (m + 1) * sa s (fun a => ewd (w i) (T * 10 + a)))]
    apply sm_eq
    intro i _
    rw [xt_mul]
    rfl
  rw [e, ← xt_mul, ← xt_add]
  apply xt_fn
  intro U
  have e2 : ∀ X, opw k w X * prx (w j) (m + 1) X = prx (w j) (m + 1) X + (-1) * sm k (fun i => bti (w i) (w j) (m + 1) * ewd (w i) X) := fun X => by
    have e3 : sm k (fun i => bti (w i) (w j) (m + 1) * ewd (w i) X) = prx (w j) (m + 1) X * sm k (fun i => ewd (w i) X) := by
      rw [← sm_mul]
      apply sm_eq
      intro i hi
      rw [← ewd_prx hw ha hi hj hm, Int.mul_comm]
    rw [e3]
    unfold opw
    rw [Int.add_mul, Int.one_mul, Int.mul_assoc, Int.mul_comm (sm k (fun i => ewd (w i) X))]
  have e4 : (fun a => opw k w (U * 10 + a) * prx (w j) (m + 1) (U * 10 + a)) = (fun a => prx (w j) (m + 1) (U * 10 + a) + (-1) * sm k (fun i => bti (w i) (w j) (m + 1) * ewd (w i) (U * 10 + a))) := funext fun a => e2 _
  rw [e4, sa_add s (fun a => prx (w j) (m + 1) (U * 10 + a)) (fun a => (-1) * sm k (fun i => bti (w i) (w j) (m + 1) * ewd (w i) (U * 10 + a))), prx_sa hs (hw j hj) hm, sa_mul s (-1) (fun a => sm k (fun i => bti (w i) (w j) (m + 1) * ewd (w i) (U * 10 + a))), sa_sm s k (fun a i => bti (w i) (w j) (m + 1) * ewd (w i) (U * 10 + a))]
  have e5 : sm k (fun i => sa s (fun a => bti (w i) (w j) (m + 1) * ewd (w i) (U * 10 + a))) = sm k (fun i => bti (w i) (w j) (m + 1) * sa s (fun a => ewd (w i) (U * 10 + a))) := sm_eq k (fun i _ => sa_mul s (bti (w i) (w j) (m + 1)) (fun a => ewd (w i) (U * 10 + a)))
  rw [e5]
theorem Vm_0 (b start : Nat) (hb : b < 100000) : Vmj s k w b start 0 = Omj s k w start := by
  unfold Vmj Omj
  apply xt_fn
  intro U
  unfold prx
  rw [Nat.pow_zero, Nat.mod_one, Nat.sub_zero, Nat.div_eq_of_lt (wl_lt hb), if_pos rfl]
theorem Em_V (hs : s = 2 ∨ s = 3) (hw : ∀ i, i < k → okw s (w i) = true) {j g : Nat} (hj : j < k) (hg : wl (w j) = g + 1) (start : Nat) : Emj s k w j (start + g + 1) = Vmj s k w (w j) start g := by
  unfold Vmj
  show xt s k w (fun T => sa s (fun a => ewd (w j) (T * 10 + a))) (start + g) 0 = _
  apply xt_fn
  intro U
  rw [← prx_sa hs (hw j hj) (m := g) (by omega)]
  have e : (fun a => ewd (w j) (U * 10 + a)) = (fun a => prx (w j) (g + 1) (U * 10 + a)) := funext fun a => by
    unfold ewd prx
    rw [hg, Nat.sub_self, Nat.pow_zero, Nat.div_one]
  rw [e]
theorem Em_rec (hs : s = 2 ∨ s = 3) (hw : ∀ i, i < k → okw s (w i) = true) (ha : apt k w) {j g : Nat} (hj : j < k) (hg : wl (w j) = g + 1) (start : Nat) : Emj s k w j (start + g + 1) = Omj s k w start + (-1) * sm k (fun i => sm g (fun m => bti (w i) (w j) (m + 1) * Emj s k w i (start + (m + 1)))) := by
  rw [Em_V hs hw hj hg, ← sm_sm (fun m i => bti (w i) (w j) (m + 1) * Emj s k w i (start + (m + 1))) k g]
  have key : ∀ m, m ≤ g → Vmj s k w (w j) start m = Omj s k w start + (-1) * sm m (fun m => sm k (fun i => bti (w i) (w j) (m + 1) * Emj s k w i (start + (m + 1)))) := by
    intro m
    induction m with
    | zero =>
      intro _
      rw [Vm_0 _ _ (okw_lt (hw j hj)).2]
      simp only [sm]
      omega
    | succ m ih =>
      intro hm
      rw [Vm_succ hs hw ha hj (by omega), ih (by omega)]
      simp only [sm]
      rw [Int.mul_add, Int.add_assoc]
  exact key g (Nat.le_refl _)
theorem Em_low (hs : s = 2 ∨ s = 3) (hw : ∀ i, i < k → okw s (w i) = true) {j : Nat} (hj : j < k) : ∀ m, m < wl (w j) → Emj s k w j m = 0
  | 0, _ => rfl
  | m + 1, h => by
    show xt s k w (fun T => sa s (fun a => ewd (w j) (T * 10 + a))) m 0 = 0
    rw [← xt_z (s := s) (k := k) (w := w) m 0]
    apply xt_eq0 hs
    intro U hU
    rw [← sa_z s]
    apply sa_eq hs
    intro a a1 a2
    have h1 := (gdr_app hU (show a < 4 by omega)).1
    have h2 := wl_ge (okw_lt (hw j hj)).1
    have h3 : 10 ^ (m + 1) ≤ 10 ^ (wl (w j) - 1) := Nat.pow_le_pow_right (by omega) (by omega)
    have h4 : (U * 10 + a) % 10 ^ wl (w j) ≤ U * 10 + a := Nat.mod_le _ _
    unfold ewd
    rw [if_neg (by omega)]
end XT
/-- the bits of an overlap -/
theorem ovr_bit (a b lb : Nat) : ∀ n k, k < n → (ovr a b lb n 1 / 2 ^ k % 2 = 1 ↔ a % 10 ^ (k + 1) = b / 10 ^ (lb - (k + 1)))
  | 0, k, h => by omega
  | n + 1, k, h => by
    have hl := ovr_lt a b lb n 1 (by omega)
    rw [show 1 - 1 + n = n by omega, show (2 : Nat) ^ (1 - 1) = 1 from rfl] at hl
    rw [ovr_last, show 1 + n = n + 1 by omega, show n + 1 - 1 = n by omega]
    by_cases e : k = n
    · subst e
      by_cases c : a % 10 ^ (k + 1) = b / 10 ^ (lb - (k + 1))
      · rw [if_pos c, Nat.add_div_right _ (Nat.pow_pos (by omega)), Nat.div_eq_of_lt (by omega)]
        exact ⟨fun _ => c, fun _ => rfl⟩
      · rw [if_neg c, Nat.add_zero, Nat.div_eq_of_lt (by omega)]
        exact ⟨fun q => by omega, fun q => absurd q c⟩
    · rw [← ovr_bit a b lb n k (by omega)]
      by_cases c : a % 10 ^ (n + 1) = b / 10 ^ (lb - (n + 1))
      · have e2 : (2 : Nat) ^ n = 2 ^ k * (2 * 2 ^ (n - k - 1)) := by
          rw [← Nat.pow_succ', ← Nat.pow_add]
          congr 1
          omega
        rw [if_pos c, e2, Nat.add_mul_div_left _ _ (Nat.pow_pos (by omega)), Nat.add_mul_mod_self_left]
      · rw [if_neg c, Nat.add_zero]
theorem ov_bti {a b k : Nat} (hk : k + 1 ≤ wl b) : (if ov a b / 2 ^ k % 2 = 1 then (1 : Int) else 0) = bti a b (k + 1) := by
  unfold bti ov
  by_cases l : k + 1 ≤ wl a
  · have h := ovr_bit a b (wl b) (min (wl a) (wl b)) k (by omega)
    by_cases c : a % 10 ^ (k + 1) = b / 10 ^ (wl b - (k + 1))
    · rw [if_pos (h.mpr c), if_pos ⟨l, c⟩]
    · rw [if_neg (fun q => c (h.mp q)), if_neg (fun q => c q.2)]
  · have hl := ovr_lt a b (wl b) (min (wl a) (wl b)) 1 (by omega)
    rw [show (2 : Nat) ^ (1 - 1) = 1 from rfl] at hl
    have h2 : 2 ^ (1 - 1 + min (wl a) (wl b)) ≤ 2 ^ k := Nat.pow_le_pow_right (by omega) (by omega)
    rw [Nat.div_eq_of_lt (by omega), if_neg (by decide), if_neg (fun q => l q.1)]
