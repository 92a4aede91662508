/-! minors: the class's and the reference's are one function -/
def lI (z : Int) : Int64 := Int64.ofInt z
def iI (z : Int) : Int32 := Int32.ofInt z
theorem iI_nI (n : Nat) : nI n = iI n := Int32.ofInt_eq_ofNat.symm
theorem lI_add (a b : Int) : lI a + lI b = lI (a + b) := (Int64.ofInt_add a b).symm
theorem lI_mul (a b : Int) : lI a * lI b = lI (a * b) := (Int64.ofInt_mul a b).symm
theorem lI_neg (a : Int) : -lI a = lI (-a) := (Int64.ofInt_neg a).symm
theorem iI_mul (a b : Int) : iI a * iI b = iI (a * b) := (Int32.ofInt_mul a b).symm
theorem iI_neg (a : Int) : -iI a = iI (-a) := (Int32.ofInt_neg a).symm
theorem iI_l {a : Int} (h : a.natAbs < 2 ^ 31) : Int32.toInt64 (iI a) = lI a := Int32.toInt64_ofInt (by
  have : Int32.minValue.toInt = -2147483648 := rfl
  omega) (by
  have : Int32.maxValue.toInt = 2147483647 := rfl
  omega)
theorem lI_T {a : Int} (h : a.natAbs < 2 ^ 63) : (lI a).toInt = a := Int64.toInt_ofInt_of_le (by omega) (by omega)
def mnl (G : Nat → Int) (gone : Nat) : Nat → Nat → Int → Int → Int
  | 0, _, _, acc => acc
  | j + 1, i, sg, acc => if gone / 2 ^ i % 2 = 1 then mnl G gone j (i + 1) sg acc else mnl G gone j (i + 1) (-sg) (acc + sg * G i)
/-- what the columns that are left come to, from a row on (g rows) -/
def mnr (a : Nat → Nat → Int) (K : Nat) : Nat → Nat → Nat → Int
  | 0, _, _ => 1
  | g + 1, row, gone => mnl (fun i => a row i * mnr a K g (row + 1) (gone + 2 ^ i)) gone K 0 1 0
theorem mnl_eq {G G' : Nat → Int} {gone : Nat} : ∀ j i sg acc, (∀ k, i ≤ k → k < i + j → G k = G' k) → mnl G gone j i sg acc = mnl G' gone j i sg acc
  | 0, _, _, _, _ => rfl
  | j + 1, i, sg, acc, h => by
    simp only [mnl]
    rw [h i (Nat.le_refl _) (by omega), mnl_eq j (i + 1) sg acc (fun k h1 h2 => h k (by omega) (by omega)), mnl_eq j (i + 1) (-sg) _ (fun k h1 h2 => h k (by omega) (by omega))]
theorem mnr_eq {a b : Nat → Nat → Int} {K : Nat} : ∀ g row gone, (∀ r c, row ≤ r → r < row + g → c < K → a r c = b r c) → mnr a K g row gone = mnr b K g row gone
  | 0, _, _, _ => rfl
  | g + 1, row, gone, h => by
    simp only [mnr]
    apply mnl_eq
    intro k _ hk
    rw [h row k (Nat.le_refl _) (by omega) (by omega), mnr_eq g (row + 1) _ (fun r c h1 h2 h3 => h r c (by omega) (by omega) h3)]
theorem mnl_bd {G : Nat → Int} {gone X : Nat} : ∀ j i sg acc, (sg = 1 ∨ sg = -1) → (∀ k, i ≤ k → k < i + j → (G k).natAbs ≤ X) → (mnl G gone j i sg acc).natAbs ≤ acc.natAbs + j * X
  | 0, _, _, _, _, _ => by simp only [mnl]; omega
  | j + 1, i, sg, acc, hs, h => by
    simp only [mnl]
    have e : (j + 1) * X = j * X + X := Nat.succ_mul ..
    by_cases c : gone / 2 ^ i % 2 = 1
    · rw [if_pos c]
      have := mnl_bd (gone := gone) j (i + 1) sg acc hs (fun k h1 h2 => h k (by omega) (by omega))
      omega
    · rw [if_neg c]
      have h1 := mnl_bd (gone := gone) j (i + 1) (-sg) (acc + sg * G i) (by omega) (fun k h1 h2 => h k (by omega) (by omega))
      have h2 := h i (Nat.le_refl _) (by omega)
      have h3 : (acc + sg * G i).natAbs ≤ acc.natAbs + X := by
        rcases hs with rfl | rfl
        · rw [Int.one_mul]; omega
        · rw [Int.neg_one_mul]; omega
      omega
theorem mnr_bd {a : Nat → Nat → Int} {K X : Nat} : ∀ g row gone, (∀ r c, row ≤ r → r < row + g → c < K → (a r c).natAbs ≤ X) → (mnr a K g row gone).natAbs ≤ (K * X) ^ g
  | 0, _, _, _ => by simp only [mnr, Nat.pow_zero]; decide
  | g + 1, row, gone, h => by
    simp only [mnr]
    have := mnl_bd (G := fun i => a row i * mnr a K g (row + 1) (gone + 2 ^ i)) (gone := gone) (X := X * (K * X) ^ g) K 0 1 0 (Or.inl rfl) (fun k _ hk => by
      rw [Int.natAbs_mul]
      exact Nat.mul_le_mul (h row k (Nat.le_refl _) (by omega) (by omega)) (mnr_bd g (row + 1) _ (fun r c h1 h2 h3 => h r c (by omega) (by omega) h3)))
    rw [Nat.pow_succ, Nat.mul_comm ((K * X) ^ g), Nat.mul_assoc]
    have z : (0 : Int).natAbs = 0 := rfl
    omega
set_option maxRecDepth 100000 in
theorem b_bit : ∀ m, m < 64 → ∀ i, i < 6 → (nI m >>> (nI i &&& 31)) &&& 1 = nI (m / 2 ^ i % 2) := by decide
set_option maxRecDepth 100000 in
theorem b_set : ∀ m, m < 64 → ∀ i, i < 6 → m / 2 ^ i % 2 = 0 → nI m ||| ((1 : Int32) <<< (nI i &&& 31)) = nI (m + 2 ^ i) := by decide
theorem b_s4 : ∀ m, m < 16 → ∀ i, i < 4 → m / 2 ^ i % 2 = 0 → m + 2 ^ i < 16 := by decide
theorem b_s5 : ∀ m, m < 32 → ∀ i, i < 5 → m / 2 ^ i % 2 = 0 → m + 2 ^ i < 32 := by decide
theorem l_cmpI {z : Int} (h : z.natAbs < 2 ^ 63) : lg_cmp (lI z) 0 = 0 ↔ z = 0 := by rw [l_cmp0, lI_T h]
section MN
variable {I : Nat → Int32} {A : Nat → Nat → Int32} {J : Nat → Int32} {B : Nat → Nat → Int32} {L : Nat → Nat → Int64} {t : List zm_E} {s K : Nat} {u : Nat → Nat}
theorem c_min27 (d f : Nat) {r : Nat} (hr : r < 3) (x1 x3 x6 x7 : Int32) (x4 : Int64) : zR d (f + 1) 27 27 [some (.ref 31), some (.int x1), some (.int (nI r)), some (.int x3), some (.long x4), none, some (.int x6), some (.int x7)] [] (hC I A, t) = (bif decide (x1 ≤ x7) then (some (some (.long x4), (hC I A, t))) else bif decide (4 ≤ x7) then (some (some (.long x4), (hC I A, t))) else bif decide (¬ ((x3 >>> (x7 &&& 31)) &&& 1) = 0) then (zR d f 27 27 [some (.ref 31), some (.int x1), some (.int (nI r)), some (.int x3), some (.long x4), none, some (.int x6), some (.int (x7 + 1))] [] (hC I A, t)) else bif zm_in x7 4 then (zm_c2 (zC d 27 [(.ref 31), (.int x1), (.int (nI (r + 1))), (.int (x3 ||| ((1 : Int32) <<< (x7 &&& 31))))] (hC I A, t)) fun v2 h1 => zR d f 27 27 [some (.ref 31), some (.int x1), some (.int (nI r)), some (.int x3), some (.long (x4 + ((Int32.toInt64 (x6 * (A (32 + r) (Int32.toNatClampNeg x7)))) * v2))), none, some (.int (-x6)), some (.int (x7 + 1))] [] h1) else none) := by
  have hc : r = 0 ∨ r = 1 ∨ r = 2 := by omega
  rcases hc with rfl | rfl | rfl
  · exact e_X2_minor_31_at27_20 d f I A t x1 x3 x4 x6 x7
  · exact e_X2_minor_31_at27_21 d f I A t x1 x3 x4 x6 x7
  · exact e_X2_minor_31_at27_22 d f I A t x1 x3 x4 x6 x7
theorem c_minor {a : Nat → Nat → Int} (K2 : 2 ≤ K) (K4 : K ≤ 4) (hA : ∀ r c, r < K - 1 → c < K → A (32 + r) c = iI (a r c) ∧ (a r c).natAbs ≤ 363) : ∀ (g row gone d : Nat), row + g = K - 1 → gone < 16 → g + 1 ≤ d → zC d 27 [.ref 31, .int (nI K), .int (nI row), .int (nI gone)] (hC I A, t) = some (some (.long (lI (mnr a K g row gone))), (hC I A, t)) := by
  intro g
  induction g with
  | zero =>
    intro row gone d hr hg hd
    obtain ⟨d, rfl⟩ : ∃ e, d = e + 1 := ⟨d - 1, by omega⟩
    rw [e_X2_minor_31, pn_f (nI_pos (by omega)), show nI K - 1 = nI (K - 1) from pn_sub (b := 1) (by omega), pn_t (nI_le (by omega) (by omega))]
    rfl
  | succ g ih =>
    intro row gone d hr hg hd
    obtain ⟨d, rfl⟩ : ∃ e, d = e + 1 := ⟨d - 1, by omega⟩
    rw [e_X2_minor_31, pn_f (nI_pos (by omega)), show nI K - 1 = nI (K - 1) from pn_sub (b := 1) (by omega), pn_f (nI_ge (by omega) (by omega)), pn_t (show nI row < (3 : Int32) from nI_lt (b := 3) (by omega) (by decide))]
    have loop : ∀ (j i f : Nat) (sg acc : Int), i + j = K → j < f → (sg = 1 ∨ sg = -1) → zR d f 27 27 [some (.ref 31), some (.int (nI K)), some (.int (nI row)), some (.int (nI gone)), some (.long (lI acc)), none, some (.int (iI sg)), some (.int (nI i))] [] (hC I A, t) = some (some (.long (lI (mnl (fun i => a row i * mnr a K g (row + 1) (gone + 2 ^ i)) gone j i sg acc))), (hC I A, t)) := by
      intro j
      induction j with
      | zero =>
        intro i f sg acc hi hf hs
        obtain ⟨f, rfl⟩ : ∃ e, f = e + 1 := ⟨f - 1, by omega⟩
        rw [c_min27 d f (by omega), pn_t (nI_le (by omega) (by omega))]
        rfl
      | succ j ihj =>
        intro i f sg acc hi hf hs
        obtain ⟨f, rfl⟩ : ∃ e, f = e + 1 := ⟨f - 1, by omega⟩
        rw [c_min27 d f (by omega), pn_f (nI_ge (by omega) (by omega)), pn_f (show ¬ (4 : Int32) ≤ nI i from nI_ge (b := 4) (by omega) (by decide)), b_bit gone (by omega) i (by omega), nI_1]
        simp only [mnl]
        by_cases c : gone / 2 ^ i % 2 = 1
        · rw [if_pos c, c, pn_t (show ¬ nI 1 = 0 by decide), ihj (i + 1) f sg acc (by omega) (by omega) hs]
        · have c0 : gone / 2 ^ i % 2 = 0 := by omega
          obtain ⟨e1, e2⟩ := hA row i (by omega) (by omega)
          rw [if_neg c, c0, pn_f (show ¬ ¬ nI 0 = 0 by decide), pn_in (show i < 4 by omega) (by decide), cond_true, b_set gone (by omega) i (by omega) c0, ih (row + 1) (gone + 2 ^ i) d (by omega) (b_s4 gone hg i (by omega) c0) (by omega), pn_c2, pn_cl (by omega), e1, iI_mul, iI_l (by rw [Int.natAbs_mul]; rcases hs with rfl | rfl <;> (simp only [Int.natAbs_neg, Int.natAbs_one]; omega)), lI_mul, lI_add, iI_neg, Int.mul_assoc]
          exact ihj (i + 1) f (-sg) _ (by omega) (by omega) (by omega)
    exact loop K 0 10000000 1 0 (by omega) (by omega) (Or.inl rfl)
theorem r_square {a : Nat → Nat → Int} {n : Nat} (n5 : n ≤ 5) (hL : ∀ r c, r < n → c < n → L 18 (6 * r + c) = lI (a r c) ∧ (a r c).natAbs < 2 ^ 63) : ∀ (g row gone d : Nat), row + g = n → gone < 32 → g + 1 ≤ d → zC d 161 [.ref 1000, .int (nI row), .int (nI gone), .int (nI n)] (t, hM J B L) = some (some (.long (lI (mnr a n g row gone))), (t, hM J B L)) := by
  intro g
  induction g with
  | zero =>
    intro row gone d hr hg hd
    obtain ⟨d, rfl⟩ : ∃ e, d = e + 1 := ⟨d - 1, by omega⟩
    rw [e_X10_square, show row = n by omega, pn_f (fun q => q rfl)]
    rfl
  | succ g ih =>
    intro row gone d hr hg hd
    obtain ⟨d, rfl⟩ : ∃ e, d = e + 1 := ⟨d - 1, by omega⟩
    have ne : ¬ nI row = nI n := fun q => by
      have := (nI_eq (by omega) (by omega)).mp q
      omega
    rw [e_X10_square, pn_t ne]
    have loop : ∀ (j i f : Nat) (sg acc : Int), i + j = n → j < f → zR d f 161 16 [some (.ref 1000), some (.int (nI row)), some (.int (nI gone)), some (.int (nI n)), some (.long (lI acc)), none, some (.long (lI sg)), none, some (.int (nI i))] [] (t, hM J B L) = some (some (.long (lI (mnl (fun i => a row i * mnr a n g (row + 1) (gone + 2 ^ i)) gone j i sg acc))), (t, hM J B L)) := by
      intro j
      induction j with
      | zero =>
        intro i f sg acc hi hf
        obtain ⟨f, rfl⟩ : ∃ e, f = e + 1 := ⟨f - 1, by omega⟩
        rw [e_X10_square_at16, pn_t (nI_le (by omega) (by omega))]
        rfl
      | succ j ihj =>
        intro i f sg acc hi hf
        obtain ⟨f, rfl⟩ : ∃ e, f = e + 1 := ⟨f - 1, by omega⟩
        rw [e_X10_square_at16, pn_f (nI_ge (by omega) (by omega)), b_bit gone (by omega) i (by omega), nI_1]
        simp only [mnl]
        by_cases c : gone / 2 ^ i % 2 = 1
        · rw [if_pos c, c, pn_f (show ¬ ¬ nI 1 = 1 by decide), ihj (i + 1) f sg acc (by omega) (by omega)]
        · have c0 : gone / 2 ^ i % 2 = 0 := by omega
          obtain ⟨e1, e2⟩ := hL row i (by omega) (by omega)
          have e6 : (6 : Int32) * nI row + nI i = nI (6 * row + i) := by rw [show (6 : Int32) = nI 6 from rfl, pk_mul, nI_add]
          rw [if_neg c, c0, pn_t (show ¬ nI 0 = 1 by decide), e6, pn_in (show 6 * row + i < 36 by omega) (by decide), cond_true, pn_cl (by omega), e1]
          by_cases z : a row i = 0
          · rw [pn_t ((l_cmpI e2).mpr z), z, Int.zero_mul, Int.mul_zero, Int.add_zero, lI_neg]
            exact ihj (i + 1) f (-sg) _ (by omega) (by omega)
          · rw [pn_f (fun q => z ((l_cmpI e2).mp q)), cond_true, b_set gone (by omega) i (by omega) c0, nI_1, ih (row + 1) (gone + 2 ^ i) d (by omega) (b_s5 gone hg i (by omega) c0) (by omega), pn_c2, lI_mul, lI_mul, lI_add, lI_neg, Int.mul_assoc]
            exact ihj (i + 1) f (-sg) _ (by omega) (by omega)
    exact loop n 0 10000000 1 0 (by omega) (by omega)
/-! the class's rows apart -/
def Nm (s : Nat) (u : Nat → Nat) (i j : Nat) : Int := ((nb s (ov (u i) (u j)) : Nat) : Int)
def apm (s : Nat) (u : Nat → Nat) (r c : Nat) : Int := Nm s u c (r + 1) - Nm s u c 0
theorem c_sa14 (d f : Nat) {r : Nat} (hr : r < 3) (x2 : Int32) : zR d (f + 1 + 1 + 1) 24 14 [some (.ref 29), some (.int (nI r)), some (.int x2)] [] (hC I A, t) = (bif decide ((I 2901) ≤ x2) then (zR d (f + 1 + 1) 24 2 [some (.ref 29), some (.int (nI (r + 1))), some (.int x2)] [] (hC I A, t)) else bif zm_in x2 4 then (zm_c1 (zC d 65 [(.int (A 30 (Int32.toNatClampNeg x2))), (.int (A 30 (r + 1))), (.int (I 2902))] (hC I A, t)) fun v2 h1 => zR d (f + 1 + 1) 24 50 [some (.ref 29), some (.int (nI r)), some (.int x2)] [(.int v2), (.int x2), (.ref (32 + r))] h1) else none) := by
  have hc : r = 0 ∨ r = 1 ∨ r = 2 := by omega
  rcases hc with rfl | rfl | rfl
  · exact e_X2_setApart_at14_10 d (f + 1 + 1) I A t x2
  · exact e_X2_setApart_at14_11 d (f + 1 + 1) I A t x2
  · exact e_X2_setApart_at14_12 d (f + 1 + 1) I A t x2
theorem c_sa50 (d f : Nat) {r : Nat} (hr : r < 3) (x1 x2 s0 s1 : Int32) : zR d (f + 1) 24 50 [some (.ref 29), some (.int x1), some (.int x2)] [(.int s0), (.int s1), (.ref (32 + r))] (hC I A, t) = (bif zm_in x2 4 then (zm_c1 (zC d 65 [(.int (A 30 (Int32.toNatClampNeg x2))), (.int (A 30 (Int32.toNatClampNeg 0))), (.int (I 2902))] (hC I A, t)) fun v2 h1 => zR d f 24 69 [some (.ref 29), some (.int x1), some (.int x2)] [(.int v2), (.int s0), (.int s1), (.ref (32 + r))] h1) else none) := by
  have hc : r = 0 ∨ r = 1 ∨ r = 2 := by omega
  rcases hc with rfl | rfl | rfl
  · exact e_X2_setApart_at50_S2r32 d f I A t x1 x2 s0 s1
  · exact e_X2_setApart_at50_S2r33 d f I A t x1 x2 s0 s1
  · exact e_X2_setApart_at50_S2r34 d f I A t x1 x2 s0 s1
theorem c_sa69 (d f : Nat) {r : Nat} (hr : r < 3) (x1 x2 s0 s1 s2 : Int32) : zR d (f + 1) 24 69 [some (.ref 29), some (.int x1), some (.int x2)] [(.int s0), (.int s1), (.int s2), (.ref (32 + r))] (hC I A, t) = (bif zm_in s2 4 then (zR d f 24 14 [some (.ref 29), some (.int x1), some (.int (x2 + 1))] [] (hC I (va_up A (32 + r) (upd (A (32 + r)) (Int32.toNatClampNeg s2) (s1 - s0))), t)) else none) := by
  have hc : r = 0 ∨ r = 1 ∨ r = 2 := by omega
  rcases hc with rfl | rfl | rfl
  · exact e_X2_setApart_at69_S3r32 d f I A t x1 x2 s0 s1 s2
  · exact e_X2_setApart_at69_S3r33 d f I A t x1 x2 s0 s1 s2
  · exact e_X2_setApart_at69_S3r34 d f I A t x1 x2 s0 s1 s2
theorem nI_subI (a b : Nat) : nI a - nI b = iI ((a : Int) - b) := by
  rw [iI_nI, iI_nI]
  exact (Int32.ofInt_sub _ _).symm
theorem c_saIn (d : Nat) (hd : 3 ≤ d) (K4 : K ≤ 4) (hu : ∀ i, i < K → u i < 100000) {r : Nat} (hr : r + 1 < K) : ∀ (j i : Nat) (A : Nat → Nat → Int32), i + j = K → fdC s K u I A → (∀ c, c < i → A (32 + r) c = iI (apm s u r c)) → ∃ A', (∀ f t, zR d (f + 3 * j + 3) 24 14 [some (.ref 29), some (.int (nI r)), some (.int (nI i))] [] (hC I A, t) = zR d (f + 2) 24 2 [some (.ref 29), some (.int (nI (r + 1))), some (.int (nI K))] [] (hC I A', t)) ∧ (∀ c, c ≠ 32 + r → A' c = A c) ∧ ∀ c, c < K → A' (32 + r) c = iI (apm s u r c) := by
  intro j
  induction j with
  | zero =>
    intro i A hi h hA
    have e : i = K := by omega
    subst e
    refine ⟨A, fun f t => ?_, fun c _ => rfl, hA⟩
    rw [show f + 3 * 0 + 3 = f + 1 + 1 + 1 from rfl, c_sa14 d f (by omega), h.1, pn_t (nI_le (Nat.le_refl _) (by omega))]
  | succ j ih =>
    intro i A hi h hA
    obtain ⟨h1, h2, h3⟩ := id h
    obtain ⟨A', a1, a2, a3⟩ := ih (i + 1) (va_up A (32 + r) (upd (A (32 + r)) i (iI (apm s u r i)))) (by omega) ⟨h1, h2, fun k hk => by rw [vu_ne (by omega)]; exact h3 k hk⟩ (fun c hc => by
      rw [vu_eq]
      by_cases e : c = i
      · rw [e, upd_eq]
      · rw [upd_ne e]; exact hA c (by omega))
    refine ⟨A', fun f t => ?_, fun c hc => by rw [a2 c hc, vu_ne hc], a3⟩
    have ui := hu i (by omega)
    have ur := hu (r + 1) hr
    have u0 := hu 0 (by omega)
    have e0 : A 30 (Int32.toNatClampNeg 0) = nI (u 0) := h3 0 (by omega)
    rw [show f + 3 * (j + 1) + 3 = (f + 3 * j + 3) + 1 + 1 + 1 by omega, c_sa14 d _ (by omega), h1, pn_f (nI_ge (by omega) (by omega)), pn_in (show i < 4 by omega) (by decide), cond_true, pn_cl (show i < 2 ^ 31 by omega), h3 i (by omega), h3 (r + 1) hr, h2, s_number hd _ (by omega) (by omega), pn_c1, c_sa50 d _ (by omega), pn_in (show i < 4 by omega) (by decide), cond_true, pn_cl (show i < 2 ^ 31 by omega), h3 i (by omega), e0, h2, s_number hd _ (by omega) (by omega), pn_c1, c_sa69 d _ (by omega), pn_in (show i < 4 by omega) (by decide), cond_true, pn_cl (show i < 2 ^ 31 by omega), nI_subI, nI_1]
    exact a1 f t
theorem c_saOut (d : Nat) (hd : 3 ≤ d) (K4 : K ≤ 4) (hu : ∀ i, i < K → u i < 100000) : ∀ (j r : Nat) (A : Nat → Nat → Int32), r + j + 1 = K → fdC s K u I A → (∀ q c, q < r → c < K → A (32 + q) c = iI (apm s u q c)) → ∃ A', (∀ f t o2, 20 * j < f → zR d f 24 2 [some (.ref 29), some (.int (nI r)), o2] [] (hC I A, t) = some (none, (hC I A', t))) ∧ (∀ c, c < 32 ∨ 34 < c → A' c = A c) ∧ ∀ q c, q < K - 1 → c < K → A' (32 + q) c = iI (apm s u q c) := by
  intro j
  induction j with
  | zero =>
    intro r A hr h hA
    refine ⟨A, fun f t o2 hf => ?_, fun c _ => rfl, fun q c hq hc => hA q c (by omega) hc⟩
    obtain ⟨f, rfl⟩ : ∃ e, f = e + 1 := ⟨f - 1, by omega⟩
    rw [e_X2_setApart_at2, h.1, show nI K - 1 = nI (K - 1) from pn_sub (b := 1) (by omega), pn_t (nI_le (by omega) (by omega))]
  | succ j ih =>
    intro r A hr h hA
    obtain ⟨A1, a1, a2, a3⟩ := c_saIn (s := s) (I := I) d hd K4 hu (show r + 1 < K by omega) K 0 A (by omega) h (fun c hc => by omega)
    obtain ⟨A', b1, b2, b3⟩ := ih (r + 1) A1 (by omega) ⟨h.1, h.2.1, fun k hk => by rw [a2 30 (by omega)]; exact h.2.2 k hk⟩ (fun q c hq hc => by
      by_cases e : q = r
      · rw [e]; exact a3 c hc
      · rw [a2 (32 + q) (by omega)]; exact hA q c (by omega) hc)
    refine ⟨A', fun f t o2 hf => ?_, fun c hc => by rw [b2 c hc, a2 c (by omega)], b3⟩
    obtain ⟨f, rfl⟩ : ∃ e, f = (e + 3 * K + 3) + 1 := ⟨f - 3 * K - 4, by omega⟩
    have a1' := a1 f t
    rw [show nI 0 = (0 : Int32) from rfl] at a1'
    rw [e_X2_setApart_at2, h.1, show nI K - 1 = nI (K - 1) from pn_sub (b := 1) (by omega), pn_f (nI_ge (by omega) (by omega)), a1']
    exact b1 (f + 2) t _ (by omega)
theorem c_setA {d : Nat} (hd : 4 ≤ d) (K1 : 1 ≤ K) (K4 : K ≤ 4) (hu : ∀ i, i < K → u i < 100000) (h : fdC s K u I A) : ∃ A', (∀ t, zC d 24 [.ref 29] (hC I A, t) = some (none, (hC I A', t))) ∧ (∀ c, c < 32 ∨ 34 < c → A' c = A c) ∧ ∀ q c, q < K - 1 → c < K → A' (32 + q) c = iI (apm s u q c) := by
  obtain ⟨d, rfl⟩ : ∃ e, d = e + 1 := ⟨d - 1, by omega⟩
  obtain ⟨A', a1, a2, a3⟩ := c_saOut (s := s) (I := I) d (by omega) K4 hu (K - 1) 0 A (by omega) h (fun q c hq => by omega)
  exact ⟨A', fun t => (e_X2_setApart d I A t).trans (a1 10000000 t none (by omega)), a2, a3⟩
def sgn (p : Nat) : Int := if p % 2 = 0 then 1 else -1
def wgt (s : Nat) (u : Nat → Nat) (K p : Nat) : Int := sgn p * mnr (apm s u) K (K - 1) 0 (2 ^ p)
theorem apm_bd (hs : s = 2 ∨ s = 3) (r c : Nat) : (apm s u r c).natAbs ≤ 363 := by
  have h1 := nb_363 hs (ov_lt (u c) (u (r + 1)))
  have h2 := nb_363 hs (ov_lt (u c) (u 0))
  unfold apm Nm
  omega
theorem b_one : ∀ p, p < 4 → (1 : Int32) <<< (nI p &&& 31) = nI (2 ^ p) ∧ 2 ^ p < 16 ∧ nI p &&& 1 = nI (p % 2) := by decide
theorem c_weight {d p : Nat} (hd : 6 ≤ d) (hs : s = 2 ∨ s = 3) (K2 : 2 ≤ K) (K4 : K ≤ 4) (hK : I 2901 = nI K) (hA : ∀ r c, r < K - 1 → c < K → A (32 + r) c = iI (apm s u r c)) (hp : p < K) : zC d 25 [.ref 29, .int (nI p)] (hC I A, t) = some (some (.long (lI (wgt s u K p))), (hC I A, t)) := by
  obtain ⟨d, rfl⟩ : ∃ e, d = e + 1 := ⟨d - 1, by omega⟩
  obtain ⟨h1, h2, h3⟩ := b_one p (by omega)
  have hm := c_minor (I := I) (t := t) K2 K4 (fun r c hr hc => ⟨hA r c hr hc, apm_bd hs r c⟩) (K - 1) 0 (2 ^ p) d (by omega) h2 (by omega)
  rw [show nI 0 = (0 : Int32) from rfl] at hm
  rw [e_X2_weight, hK, h1, hm, pn_c2, h3]
  unfold wgt sgn
  by_cases c : p % 2 = 0
  · rw [c, pn_f (show ¬ ¬ nI 0 = 0 by decide), if_pos rfl, Int.one_mul]
  · rw [show p % 2 = 1 by omega, pn_t (show ¬ nI 1 = 0 by decide), if_neg (by decide), Int.neg_one_mul, lI_neg]
theorem c_wholeL (d : Nat) (hd : 6 ≤ d) (hs : s = 2 ∨ s = 3) (K2 : 2 ≤ K) (K4 : K ≤ 4) (hK : I 2901 = nI K) (hA : ∀ r c, r < K - 1 → c < K → A (32 + r) c = iI (apm s u r c)) : ∀ (j i f : Nat), i + j = K → j < f → zR d f 26 4 [some (.ref 29), some (.long (lI (sm i (wgt s u K)))), none, some (.int (nI i))] [] (hC I A, t) = some (some (.long (lI (sm K (wgt s u K)))), (hC I A, t)) := by
  intro j
  induction j with
  | zero =>
    intro i f hi hf
    obtain ⟨f, rfl⟩ : ∃ e, f = e + 1 := ⟨f - 1, by omega⟩
    rw [e_X2_wholeWeight_at4, hK, pn_t (nI_le (by omega) (by omega)), show i = K by omega]
  | succ j ih =>
    intro i f hi hf
    obtain ⟨f, rfl⟩ : ∃ e, f = e + 1 := ⟨f - 1, by omega⟩
    rw [e_X2_wholeWeight_at4, hK, pn_f (nI_ge (by omega) (by omega)), c_weight hd hs K2 K4 hK hA (by omega), pn_c2, lI_add, nI_1]
    exact ih (i + 1) f (by omega) (by omega)
theorem c_whole {d : Nat} (hd : 7 ≤ d) (hs : s = 2 ∨ s = 3) (K2 : 2 ≤ K) (K4 : K ≤ 4) (hK : I 2901 = nI K) (hA : ∀ r c, r < K - 1 → c < K → A (32 + r) c = iI (apm s u r c)) : zC d 26 [.ref 29] (hC I A, t) = some (some (.long (lI (sm K (wgt s u K)))), (hC I A, t)) := by
  obtain ⟨d, rfl⟩ : ∃ e, d = e + 1 := ⟨d - 1, by omega⟩
  rw [e_X2_wholeWeight]
  exact c_wholeL d (by omega) hs K2 K4 hK hA K 0 10000000 (by omega) (by omega)
theorem c_meanL (d : Nat) (hd : 7 ≤ d) (hs : s = 2 ∨ s = 3) (K2 : 2 ≤ K) (K4 : K ≤ 4) (hu : ∀ i, i < K → u i < 100000) (h : fdC s K u I A) (hA : ∀ r c, r < K - 1 → c < K → A (32 + r) c = iI (apm s u r c)) (p : Int32) : ∀ (j i f : Nat), i + j = K → 2 * j < f → zR d f 23 9 [some (.ref 29), some (.int p), some (.long (lI (sm i (fun i => wgt s u K i * Nm s u i 0)))), none, some (.int (nI i))] [] (hC I A, t) = (zm_c2 (zC d 32 [(.long (lI (sm K (fun i => wgt s u K i * Nm s u i 0)))), (.long (lI (sm K (wgt s u K)))), (.int p)] (hC I A, t)) fun v4 h3 => some (some (.long v4), h3)) := by
  obtain ⟨h1, h2, h3⟩ := id h
  intro j
  induction j with
  | zero =>
    intro i f hi hf
    obtain ⟨f, rfl⟩ : ∃ e, f = e + 1 := ⟨f - 1, by omega⟩
    rw [e_X2_meanPart_at9, h1, pn_t (nI_le (by omega) (by omega)), c_whole hd hs K2 K4 h1 hA, pn_c2, show i = K by omega]
  | succ j ih =>
    intro i f hi hf
    obtain ⟨f, rfl⟩ : ∃ e, f = e + 1 + 1 := ⟨f - 2, by omega⟩
    have ui := hu i (by omega)
    have u0 := hu 0 (by omega)
    have e0 : A 30 (Int32.toNatClampNeg 0) = nI (u 0) := h3 0 (by omega)
    have hb := nb_363 hs (ov_lt (u i) (u 0))
    rw [e_X2_meanPart_at9, h1, pn_f (nI_ge (by omega) (by omega)), c_weight (by omega) hs K2 K4 h1 hA (by omega), pn_c2, e_X2_meanPart_at25, pn_in (show i < 4 by omega) (by decide), cond_true, pn_cl (show i < 2 ^ 31 by omega), h3 i (by omega), e0, h2, s_number (by omega) _ (by omega) (by omega), pn_c1, iI_nI (nb s (ov (u i) (u 0))), iI_l (by omega), lI_mul, lI_add, nI_1]
    exact ih (i + 1) f (by omega) (by omega)
/-! the reference's equations -/
theorem nb_lt30 {s : Nat} (a b : Nat) (hs : s = 2 ∨ s = 3) : nb s (ov a b) < 2 ^ 30 := by
  have := nb_363 hs (ov_lt a b)
  omega
def mxv (s : Nat) (u : Nat → Nat) (K : Nat) (col : Nat → Bool) (r c : Nat) : Int := if col c = true then (if r = 0 then 1 else 0) else if r = 0 then (if c < K then 1 else 0) else if c < K then Nm s u c (r - 1) else -1
theorem r_fillIn (d : Nat) (hd : 3 ≤ d) {e : Nat → Nat} {x1 : Int32} {col : Nat → Bool} (hs2 : s = 2 ∨ s = 3) (hs : J 0 = nI s) (K4 : K ≤ 4) (he : ∀ i, i < K → e i < 6) (hB : ∀ i, i < K → B 17 i = nI (e i)) (hw : ∀ i, i < K → B 1 (e i) = nI (u i) ∧ u i < 100000) (hcol : ∀ c, c ≤ K → (nI c = x1 ↔ col c = true)) {r : Nat} (hr : r ≤ K) : ∀ (j c : Nat) (L : Nat → Nat → Int64), c + j = K + 1 → (∀ q, q < c → L 18 (6 * r + q) = lI (mxv s u K col r q)) → ∃ L', (∀ (R : Option zm_R) (t : List zm_E) (F0 : Nat), (∀ f o4 o5, F0 < f → zR d f 162 7 [some (.ref 1000), some (.int x1), some (.int (nI K)), some (.int (nI (r + 1))), o4, o5, none] [] (t, hM J B L') = R) → ∀ f o5, F0 + 3 * j + 3 < f → zR d f 162 15 [some (.ref 1000), some (.int x1), some (.int (nI K)), some (.int (nI r)), some (.int (nI c)), o5, none] [] (t, hM J B L) = R) ∧ (∀ q, q ≠ 18 → L' q = L q) ∧ (∀ q, q ≤ K → L' 18 (6 * r + q) = lI (mxv s u K col r q)) ∧ ∀ x, x < 6 * r ∨ 6 * r + 6 ≤ x → L' 18 x = L 18 x := by
  intro j
  induction j with
  | zero =>
    intro c L hc hL
    have e1 : c = K + 1 := by omega
    subst e1
    refine ⟨L, fun R t F0 hR f o5 hf => ?_, fun q _ => rfl, fun q hq => hL q (by omega), fun x _ => rfl⟩
    obtain ⟨f, rfl⟩ : ∃ e, f = e + 1 := ⟨f - 1, by omega⟩
    rw [e_X10_fills_at15, pn_t (nI_lt (by omega) (by omega)), nI_1]
    exact hR f _ _ (by omega)
  | succ j ih =>
    intro c L hc hL
    have e6 : (6 : Int32) * nI r + nI c = nI (6 * r + c) := by rw [show (6 : Int32) = nI 6 from rfl, pk_mul, nI_add]
    have step : ∃ o' : Option Value, ∀ f t o5, ∃ g, f ≤ g ∧ zR d (f + 2) 162 15 [some (.ref 1000), some (.int x1), some (.int (nI K)), some (.int (nI r)), some (.int (nI c)), o5, none] [] (t, hM J B L) = zR d g 162 15 [some (.ref 1000), some (.int x1), some (.int (nI K)), some (.int (nI r)), some (.int (nI (c + 1))), o', none] [] (t, hM J B (va_up L 18 (vp_updL (L 18) (6 * r + c) (lI (mxv s u K col r c))))) := by
      have hcc := hcol c (by omega)
      have hin : zm_in (nI (6 * r + c)) 36 = true := pn_in (by omega) (by decide)
      by_cases r0 : r = 0
      · have rz : ¬ ¬ nI r = 0 := by rw [r0]; exact fun q => q rfl
        by_cases cK : K ≤ c
        · refine ⟨some (.long 0), fun f t o5 => ⟨f + 1, by omega, ?_⟩⟩
          rw [e_X10_fills_at15, pn_f (nI_nlt (by omega) (by omega)), pn_f rz, pn_t (nI_le cK (by omega)), e6, hin, cond_true, cond_true, pn_cl (show 6 * r + c < 2 ^ 31 by omega), nI_1]
          unfold mxv
          by_cases cc : col c = true
          · rw [pn_f (fun q => q (hcc.mpr cc)), pn_f rz, if_pos cc, if_pos r0]; rfl
          · rw [pn_t (fun q => cc (hcc.mp q)), if_neg cc, if_pos r0, if_neg (by omega)]; rfl
        · refine ⟨some (.long 1), fun f t o5 => ⟨f + 1, by omega, ?_⟩⟩
          rw [e_X10_fills_at15, pn_f (nI_nlt (by omega) (by omega)), pn_f rz, pn_f (nI_ge (by omega) (by omega)), e6, hin, cond_true, cond_true, pn_cl (show 6 * r + c < 2 ^ 31 by omega), nI_1]
          unfold mxv
          by_cases cc : col c = true
          · rw [pn_f (fun q => q (hcc.mpr cc)), pn_f rz, if_pos cc, if_pos r0]; rfl
          · rw [pn_t (fun q => cc (hcc.mp q)), if_neg cc, if_pos r0, if_pos (by omega)]; rfl
      · have rz : ¬ nI r = 0 := nI_ne0 (by omega) (by omega)
        by_cases cK : K ≤ c
        · refine ⟨some (.long (-1)), fun f t o5 => ⟨f + 1, by omega, ?_⟩⟩
          rw [e_X10_fills_at15, pn_f (nI_nlt (by omega) (by omega)), pn_t rz, pn_t (nI_le cK (by omega)), e6, hin, cond_true, cond_true, pn_cl (show 6 * r + c < 2 ^ 31 by omega), nI_1]
          unfold mxv
          by_cases cc : col c = true
          · rw [pn_f (fun q => q (hcc.mpr cc)), pn_t rz, if_pos cc, if_neg r0]; rfl
          · rw [pn_t (fun q => cc (hcc.mp q)), if_neg cc, if_neg r0, if_neg (by omega)]; rfl
        · have ec := he c (by omega)
          have er := he (r - 1) (by omega)
          have wc := hw c (by omega)
          have wr := hw (r - 1) (by omega)
          have hb := nb_lt30 (u c) (u (r - 1)) hs2
          refine ⟨some (.long (Int32.toInt64 (nI (nb s (ov (u c) (u (r - 1))))))), fun f t o5 => ⟨f, Nat.le_refl _, ?_⟩⟩
          rw [show f + 2 = f + 1 + 1 from rfl, e_X10_fills_at15, pn_f (nI_nlt (by omega) (by omega)), pn_t rz, pn_f (nI_ge (by omega) (by omega)), pn_in (show c < 4 by omega) (by decide), cond_true, pn_cl (show c < 2 ^ 31 by omega), hB c (by omega), pn_in ec (by decide), cond_true, show nI r - 1 = nI (r - 1) from pn_sub (b := 1) (by omega), pn_in (show r - 1 < 4 by omega) (by decide), cond_true, pn_cl (show r - 1 < 2 ^ 31 by omega), hB (r - 1) (by omega), pn_in er (by decide), cond_true, pn_cl (show e c < 2 ^ 31 by omega), pn_cl (show e (r - 1) < 2 ^ 31 by omega), wc.1, wr.1, r_number hd t J B L hs wc.2 wr.2, pn_c1, e_X10_fills_at74, e6, hin, cond_true, cond_true, cond_true, pn_cl (show 6 * r + c < 2 ^ 31 by omega), nI_1]
          unfold mxv
          by_cases cc : col c = true
          · rw [pn_f (fun q => q (hcc.mpr cc)), pn_t rz, if_pos cc, if_neg r0]; rfl
          · rw [pn_t (fun q => cc (hcc.mp q)), if_neg cc, if_neg r0, if_pos (by omega)]
            unfold Nm
            rw [← iI_l (by omega), ← iI_nI]
    obtain ⟨o', hst⟩ := step
    obtain ⟨L', l1, l2, l3, l4⟩ := ih (c + 1) (va_up L 18 (vp_updL (L 18) (6 * r + c) (lI (mxv s u K col r c)))) (by omega) (fun q hq => by
      rw [vu_eq]
      by_cases eq : q = c
      · rw [eq, pk_uLs]
      · rw [pk_uLn (by omega)]; exact hL q (by omega))
    refine ⟨L', fun R t F0 hR f o5 hf => ?_, fun q hq => by rw [l2 q hq, vu_ne hq], l3, fun x hx => by rw [l4 x hx, vu_eq, pk_uLn (by omega)]⟩
    obtain ⟨f, rfl⟩ : ∃ e, f = e + 2 := ⟨f - 2, by omega⟩
    obtain ⟨g, g1, g2⟩ := hst f t o5
    rw [g2]
    exact l1 R t F0 hR g o' (by omega)
theorem r_fillOut (d : Nat) (hd : 3 ≤ d) {e : Nat → Nat} {x1 : Int32} {col : Nat → Bool} (hs2 : s = 2 ∨ s = 3) (hs : J 0 = nI s) (K4 : K ≤ 4) (he : ∀ i, i < K → e i < 6) (hB : ∀ i, i < K → B 17 i = nI (e i)) (hw : ∀ i, i < K → B 1 (e i) = nI (u i) ∧ u i < 100000) (hcol : ∀ c, c ≤ K → (nI c = x1 ↔ col c = true)) : ∀ (j r : Nat) (L : Nat → Nat → Int64), r + j = K + 1 → (∀ p q, p < r → q ≤ K → L 18 (6 * p + q) = lI (mxv s u K col p q)) → ∃ L', (∀ f t o4 o5, 40 * j < f → zR d f 162 7 [some (.ref 1000), some (.int x1), some (.int (nI K)), some (.int (nI r)), o4, o5, none] [] (t, hM J B L) = some (none, (t, hM J B L'))) ∧ ∀ p q, p ≤ K → q ≤ K → L' 18 (6 * p + q) = lI (mxv s u K col p q) := by
  intro j
  induction j with
  | zero =>
    intro r L hr hL
    refine ⟨L, fun f t o4 o5 hf => ?_, fun p q hp hq => hL p q (by omega) hq⟩
    obtain ⟨f, rfl⟩ : ∃ e, f = e + 1 := ⟨f - 1, by omega⟩
    rw [e_X10_fills_at7, pn_t (nI_lt (by omega) (by omega))]
  | succ j ih =>
    intro r L hr hL
    obtain ⟨L1, l1, l2, l3, l4⟩ := r_fillIn (J := J) (B := B) d hd hs2 hs K4 he hB hw hcol (show r ≤ K by omega) (K + 1) 0 L (by omega) (fun q hq => by omega)
    obtain ⟨L', m1, m2⟩ := ih (r + 1) L1 (by omega) (fun p q hp hq => by
      by_cases e : p = r
      · rw [e]; exact l3 q hq
      · rw [l4 _ (by omega)]; exact hL p q (by omega) hq)
    refine ⟨L', fun f t o4 o5 hf => ?_, m2⟩
    obtain ⟨f, rfl⟩ : ∃ e, f = e + 1 := ⟨f - 1, by omega⟩
    rw [e_X10_fills_at7, pn_f (nI_nlt (by omega) (by omega))]
    exact l1 _ t (40 * j) (fun f o4 o5 hf => m1 f t o4 o5 hf) f _ (by omega)
theorem r_fills {d : Nat} (hd : 4 ≤ d) {e : Nat → Nat} {x1 : Int32} {col : Nat → Bool} (hs2 : s = 2 ∨ s = 3) (hs : J 0 = nI s) (hK : J 26 = nI K) (K4 : K ≤ 4) (he : ∀ i, i < K → e i < 6) (hB : ∀ i, i < K → B 17 i = nI (e i)) (hw : ∀ i, i < K → B 1 (e i) = nI (u i) ∧ u i < 100000) (hcol : ∀ c, c ≤ K → (nI c = x1 ↔ col c = true)) : ∃ L', (∀ t, zC d 162 [.ref 1000, .int x1] (t, hM J B L) = some (none, (t, hM J B L'))) ∧ ∀ p q, p ≤ K → q ≤ K → L' 18 (6 * p + q) = lI (mxv s u K col p q) := by
  obtain ⟨d, rfl⟩ : ∃ e, d = e + 1 := ⟨d - 1, by omega⟩
  obtain ⟨L', l1, l2⟩ := r_fillOut (J := J) (B := B) d (by omega) hs2 hs K4 he hB hw hcol (K + 1) 0 L (by omega) (fun p q hp => by omega)
  refine ⟨L', fun t => ?_, l2⟩
  rw [e_X10_fills, hK]
  exact l1 10000000 t _ _ (by omega)
theorem mxv_bd (hs : s = 2 ∨ s = 3) (col : Nat → Bool) (r c : Nat) : (mxv s u K col r c).natAbs ≤ 363 := by
  have h1 := nb_363 hs (ov_lt (u c) (u (r - 1)))
  unfold mxv Nm
  split
  · split <;> decide
  · split
    · split <;> decide
    · split
      · omega
      · decide
/-- Cramer's two squares -/
theorem r_solved {d : Nat} (hd : 9 ≤ d) {e : Nat → Nat} {x1 p : Int32} {col : Nat → Bool} (hs2 : s = 2 ∨ s = 3) (hs : J 0 = nI s) (hK : J 26 = nI K) (K4 : K ≤ 4) (he : ∀ i, i < K → e i < 6) (hB : ∀ i, i < K → B 17 i = nI (e i)) (hw : ∀ i, i < K → B 1 (e i) = nI (u i) ∧ u i < 100000) (hcol : ∀ c, c ≤ K → (nI c = x1 ↔ col c = true)) (hX : (mnr (mxv s u K col) (K + 1) (K + 1) 0 0).natAbs < 2 ^ 62) (hY : (mnr (mxv s u K (fun _ => false)) (K + 1) (K + 1) 0 0).natAbs < 2 ^ 62) (hY0 : mnr (mxv s u K (fun _ => false)) (K + 1) (K + 1) 0 0 ≠ 0) : ∃ L', ∀ t, zC d 163 [.ref 1000, .int x1, .int p] (t, hM J B L) = some (some (.long (fL (lI (mnr (mxv s u K col) (K + 1) (K + 1) 0 0)) (lI (mnr (mxv s u K (fun _ => false)) (K + 1) (K + 1) 0 0)) (if p = 0 then lI (mnr (mxv s u K col) (K + 1) (K + 1) 0 0) else lI (mnr (mxv s u K (fun _ => false)) (K + 1) (K + 1) 0 0)))), (t, hM J B L')) := by
  obtain ⟨d, rfl⟩ : ∃ e, d = e + 1 := ⟨d - 1, by omega⟩
  obtain ⟨L1, a1, a2⟩ := r_fills (L := L) (d := d) (by omega) hs2 hs hK K4 he hB hw hcol
  obtain ⟨L2, b1, b2⟩ := r_fills (L := L1) (d := d) (x1 := -1) (col := fun _ => false) (by omega) hs2 hs hK K4 he hB hw (fun c hc => ⟨fun q => by
    have := congrArg Int32.toInt q
    rw [nI_toInt (by omega)] at this
    have e1 : (-1 : Int32).toInt = -1 := rfl
    omega, fun q => by cases q⟩)
  refine ⟨L2, fun t => ?_⟩
  have s1 := r_square (J := J) (B := B) (L := L1) (t := t) (n := K + 1) (by omega) (fun r c hr hc => ⟨a2 r c (by omega) (by omega), by have := mxv_bd (K := K) (u := u) hs2 col r c; omega⟩) (K + 1) 0 0 d (by omega) (by omega) (by omega)
  have s2 := r_square (J := J) (B := B) (L := L2) (t := t) (n := K + 1) (by omega) (fun r c hr hc => ⟨b2 r c (by omega) (by omega), by have := mxv_bd (K := K) (u := u) hs2 (fun _ => false) r c; omega⟩) (K + 1) 0 0 d (by omega) (by omega) (by omega)
  rw [show nI 0 = (0 : Int32) from rfl] at s1 s2
  rw [e_X10_solved, a1, pn_c0, F1, e_X10_solved_at5, hK, nI_1, s1, pn_c2, b1, pn_c0, F2, e_X10_solved_at23, hK, nI_1, s2, pn_c2, r_lowest (by omega) _ _ _ p (by rw [lI_T (by omega)]; exact hX) (by rw [lI_T (by omega)]; exact hY) (by rw [lI_T (by omega)]; exact hY0), pn_c2]
end MN
