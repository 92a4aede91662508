/-! the whole is not 0 -/
theorem k2_ex (a1 a2 b1 b2 : Int) (h : a1 * b2 - a2 * b1 = 0) : ∃ p q : Int, ¬ (p = 0 ∧ q = 0) ∧ p * a1 + q * a2 = 0 ∧ p * b1 + q * b2 = 0 := by
  have h' : a1 * b2 = a2 * b1 := by omega
  by_cases ha : a1 = 0 ∧ a2 = 0
  · obtain ⟨rfl, rfl⟩ := ha
    by_cases hb : b1 = 0 ∧ b2 = 0
    · obtain ⟨rfl, rfl⟩ := hb
      exact ⟨1, 0, by decide, by decide, by decide⟩
    · refine ⟨-b2, b1, fun q => hb ⟨q.2, by omega⟩, by rw [Int.mul_zero, Int.mul_zero]; rfl, ?_⟩
      rw [Int.neg_mul, Int.mul_comm b2 b1]; omega
  · refine ⟨-a2, a1, fun q => ha ⟨q.2, by omega⟩, ?_, ?_⟩
    · rw [Int.neg_mul, Int.mul_comm a2 a1]; omega
    · rw [Int.neg_mul]; omega
theorem x3_a (a1 a2 a3 b1 b2 b3 : Int) : (a2 * b3 - a3 * b2) * a1 + (a3 * b1 - a1 * b3) * a2 + (a1 * b2 - a2 * b1) * a3 = 0 := by
  simp only [Int.sub_mul, Int.mul_sub, Int.mul_assoc, Int.mul_comm, Int.mul_left_comm]
  omega
theorem x3_b (a1 a2 a3 b1 b2 b3 : Int) : (a2 * b3 - a3 * b2) * b1 + (a3 * b1 - a1 * b3) * b2 + (a1 * b2 - a2 * b1) * b3 = 0 := by
  simp only [Int.sub_mul, Int.mul_sub, Int.mul_assoc, Int.mul_comm, Int.mul_left_comm]
  omega
theorem x3_c (a1 a2 a3 b1 b2 b3 c1 c2 c3 : Int) : (a2 * b3 - a3 * b2) * c1 + (a3 * b1 - a1 * b3) * c2 + (a1 * b2 - a2 * b1) * c3 = a1 * (b2 * c3 - b3 * c2) - a2 * (b1 * c3 - b3 * c1) + a3 * (b1 * c2 - b2 * c1) := by
  simp only [Int.sub_mul, Int.mul_sub, Int.mul_assoc, Int.mul_comm, Int.mul_left_comm]
  omega
/-- two rows that are parallel: something stands upright on both -/
theorem p3_ex (a1 a2 a3 b1 b2 b3 : Int) (h1 : a2 * b3 - a3 * b2 = 0) (h2 : a3 * b1 - a1 * b3 = 0) (h3 : a1 * b2 - a2 * b1 = 0) (ha : ¬ (a1 = 0 ∧ a2 = 0 ∧ a3 = 0)) : ∃ p q r : Int, ¬ (p = 0 ∧ q = 0 ∧ r = 0) ∧ p * a1 + q * a2 + r * a3 = 0 ∧ (∀ c1 c2 c3 : Int, a1 * c2 - a2 * c1 = 0 → a3 * c1 - a1 * c3 = 0 → p * c1 + q * c2 + r * c3 = 0) := by
  by_cases h12 : a1 = 0 ∧ a2 = 0
  · obtain ⟨rfl, rfl⟩ := h12
    refine ⟨a3, 0, 0, fun q => ha ⟨rfl, rfl, q.1⟩, by rw [Int.mul_zero, Int.zero_mul, Int.zero_mul]; rfl, fun c1 c2 c3 g1 g2 => ?_⟩
    rw [Int.zero_mul] at g2
    rw [Int.zero_mul, Int.zero_mul]
    omega
  · refine ⟨-a2, a1, 0, fun q => h12 ⟨q.2.1, by omega⟩, ?_, fun c1 c2 c3 g1 g2 => ?_⟩
    · rw [Int.neg_mul, Int.zero_mul, Int.mul_comm a2 a1]; omega
    · rw [Int.neg_mul, Int.zero_mul]; omega
theorem k3_ex (a1 a2 a3 b1 b2 b3 c1 c2 c3 : Int) (h : a1 * (b2 * c3 - b3 * c2) - a2 * (b1 * c3 - b3 * c1) + a3 * (b1 * c2 - b2 * c1) = 0) : ∃ p q r : Int, ¬ (p = 0 ∧ q = 0 ∧ r = 0) ∧ p * a1 + q * a2 + r * a3 = 0 ∧ p * b1 + q * b2 + r * b3 = 0 ∧ p * c1 + q * c2 + r * c3 = 0 := by
  by_cases hab : a2 * b3 - a3 * b2 = 0 ∧ a3 * b1 - a1 * b3 = 0 ∧ a1 * b2 - a2 * b1 = 0
  · by_cases hac : a2 * c3 - a3 * c2 = 0 ∧ a3 * c1 - a1 * c3 = 0 ∧ a1 * c2 - a2 * c1 = 0
    · by_cases hbc : b2 * c3 - b3 * c2 = 0 ∧ b3 * c1 - b1 * c3 = 0 ∧ b1 * c2 - b2 * c1 = 0
      · by_cases ha : a1 = 0 ∧ a2 = 0 ∧ a3 = 0
        · obtain ⟨rfl, rfl, rfl⟩ := ha
          by_cases hb : b1 = 0 ∧ b2 = 0 ∧ b3 = 0
          · obtain ⟨rfl, rfl, rfl⟩ := hb
            by_cases hc : c1 = 0 ∧ c2 = 0 ∧ c3 = 0
            · obtain ⟨rfl, rfl, rfl⟩ := hc
              exact ⟨1, 0, 0, by decide, by decide, by decide, by decide⟩
            · obtain ⟨p, q, r, n, e1, e2⟩ := p3_ex c1 c2 c3 c1 c2 c3 (by rw [Int.mul_comm]; omega) (by rw [Int.mul_comm]; omega) (by rw [Int.mul_comm]; omega) hc
              exact ⟨p, q, r, n, by rw [Int.mul_zero, Int.mul_zero, Int.mul_zero]; rfl, by rw [Int.mul_zero, Int.mul_zero, Int.mul_zero]; rfl, e1⟩
          · obtain ⟨p, q, r, n, e1, e2⟩ := p3_ex b1 b2 b3 c1 c2 c3 hbc.1 hbc.2.1 hbc.2.2 hb
            exact ⟨p, q, r, n, by rw [Int.mul_zero, Int.mul_zero, Int.mul_zero]; rfl, e1, e2 c1 c2 c3 hbc.2.2 hbc.2.1⟩
        · obtain ⟨p, q, r, n, e1, e2⟩ := p3_ex a1 a2 a3 b1 b2 b3 hab.1 hab.2.1 hab.2.2 ha
          exact ⟨p, q, r, n, e1, e2 b1 b2 b3 hab.2.2 hab.2.1, e2 c1 c2 c3 hac.2.2 hac.2.1⟩
      · refine ⟨_, _, _, hbc, ?_, x3_a b1 b2 b3 c1 c2 c3, x3_b b1 b2 b3 c1 c2 c3⟩
        have := x3_c b1 b2 b3 c1 c2 c3 a1 a2 a3
        rw [this, ← h]
        simp only [Int.sub_mul, Int.mul_sub, Int.mul_assoc, Int.mul_comm, Int.mul_left_comm]
        omega
    · refine ⟨_, _, _, hac, x3_a a1 a2 a3 c1 c2 c3, ?_, x3_b a1 a2 a3 c1 c2 c3⟩
      have := x3_c a1 a2 a3 c1 c2 c3 b1 b2 b3
      rw [this]
      have h' : a1 * (c2 * b3 - c3 * b2) - a2 * (c1 * b3 - c3 * b1) + a3 * (c1 * b2 - c2 * b1) = -(a1 * (b2 * c3 - b3 * c2) - a2 * (b1 * c3 - b3 * c1) + a3 * (b1 * c2 - b2 * c1)) := by
        simp only [Int.sub_mul, Int.mul_sub, Int.mul_assoc, Int.mul_comm, Int.mul_left_comm]
        omega
      rw [h', h]
      rfl
  · exact ⟨_, _, _, hab, x3_a a1 a2 a3 b1 b2 b3, x3_b a1 a2 a3 b1 b2 b3, (x3_c a1 a2 a3 b1 b2 b3 c1 c2 c3).trans h⟩
section NZ
variable {s : Nat} {u : Nat → Nat}
theorem Fz_nm {k : Nat} {y : Nat → Int} (hs : s = 2 ∨ s = 3) (hw : ∀ i, i < k → okw s (u i) = true) {i : Nat} (hi : i < k) : Fz s k u y (u i) = sm k (fun j => y j * Nm s u i j) := by
  unfold Fz
  apply sm_eq
  intro j hj
  unfold Nm
  rw [gz_nb hs (okw_lt (hw i hi)).2 (hw j hj)]
theorem nz2 (hs : s = 2 ∨ s = 3) (hw : ∀ i, i < 2 → okw s (u i) = true) (ha : apt 2 u) (b1 c : Int) (h : ∀ i, i < 2 → b1 * apm s u 0 i = c) : b1 = 0 := by
  have := Fz_zero (y := fun j => if j = 0 then -b1 else b1) (c := c) hs hw ha (by decide) (by show (0 + -b1) + b1 = (0 : Int); omega) (fun i hi => by
    rw [Fz_nm hs hw hi, ← h i hi]
    show (0 + -b1 * Nm s u i 0) + b1 * Nm s u i 1 = b1 * (Nm s u i 1 - Nm s u i 0)
    rw [Int.mul_sub, Int.neg_mul]
    omega) 1 (by decide)
  simpa using this
theorem nz3 (hs : s = 2 ∨ s = 3) (hw : ∀ i, i < 3 → okw s (u i) = true) (ha : apt 3 u) (b1 b2 c : Int) (h : ∀ i, i < 3 → b1 * apm s u 0 i + b2 * apm s u 1 i = c) : b1 = 0 ∧ b2 = 0 := by
  have := Fz_zero (y := fun j => if j = 0 then -(b1 + b2) else if j = 1 then b1 else b2) (c := c) hs hw ha (by decide) (by show ((0 + -(b1 + b2)) + b1) + b2 = (0 : Int); omega) (fun i hi => by
    rw [Fz_nm hs hw hi, ← h i hi]
    show ((0 + -(b1 + b2) * Nm s u i 0) + b1 * Nm s u i 1) + b2 * Nm s u i 2 = b1 * (Nm s u i 1 - Nm s u i 0) + b2 * (Nm s u i 2 - Nm s u i 0)
    rw [Int.mul_sub, Int.mul_sub, Int.neg_mul, Int.add_mul]
    omega)
  exact ⟨by simpa using this 1 (by decide), by simpa using this 2 (by decide)⟩
theorem nz4 (hs : s = 2 ∨ s = 3) (hw : ∀ i, i < 4 → okw s (u i) = true) (ha : apt 4 u) (b1 b2 b3 c : Int) (h : ∀ i, i < 4 → b1 * apm s u 0 i + b2 * apm s u 1 i + b3 * apm s u 2 i = c) : b1 = 0 ∧ b2 = 0 ∧ b3 = 0 := by
  have := Fz_zero (y := fun j => if j = 0 then -(b1 + b2 + b3) else if j = 1 then b1 else if j = 2 then b2 else b3) (c := c) hs hw ha (by decide) (by show (((0 + -(b1 + b2 + b3)) + b1) + b2) + b3 = (0 : Int); omega) (fun i hi => by
    rw [Fz_nm hs hw hi, ← h i hi]
    show (((0 + -(b1 + b2 + b3) * Nm s u i 0) + b1 * Nm s u i 1) + b2 * Nm s u i 2) + b3 * Nm s u i 3 = b1 * (Nm s u i 1 - Nm s u i 0) + b2 * (Nm s u i 2 - Nm s u i 0) + b3 * (Nm s u i 3 - Nm s u i 0)
    rw [Int.mul_sub, Int.mul_sub, Int.mul_sub, Int.neg_mul, Int.add_mul, Int.add_mul]
    omega)
  exact ⟨by simpa using this 1 (by decide), by simpa using this 2 (by decide), by simpa using this 3 (by decide)⟩
theorem whole_ne {K : Nat} (hs : s = 2 ∨ s = 3) (K2 : 2 ≤ K) (K4 : K ≤ 4) (hw : ∀ i, i < K → okw s (u i) = true) (ha : apt K u) : sm K (wgt s u K) ≠ 0 := by
  have hK : K = 2 ∨ K = 3 ∨ K = 4 := by omega
  rcases hK with rfl | rfl | rfl
  · intro h
    rw [w2_w] at h
    have := nz2 hs hw ha 1 (apm s u 0 0) (fun i hi => by
      have : i = 0 ∨ i = 1 := by omega
      rcases this with rfl | rfl <;> omega)
    omega
  · intro h
    rw [w3_w] at h
    obtain ⟨p, q, n, e1, e2⟩ := k2_ex (apm s u 0 1 - apm s u 0 0) (apm s u 1 1 - apm s u 1 0) (apm s u 0 2 - apm s u 0 0) (apm s u 1 2 - apm s u 1 0) (by omega)
    rw [Int.mul_sub, Int.mul_sub] at e1 e2
    exact n (nz3 hs hw ha p q (p * apm s u 0 0 + q * apm s u 1 0) (fun i hi => by
      have : i = 0 ∨ i = 1 ∨ i = 2 := by omega
      rcases this with rfl | rfl | rfl <;> omega))
  · intro h
    rw [w4_w] at h
    obtain ⟨p, q, r, n, e1, e2, e3⟩ := k3_ex (apm s u 0 1 - apm s u 0 0) (apm s u 1 1 - apm s u 1 0) (apm s u 2 1 - apm s u 2 0) (apm s u 0 2 - apm s u 0 0) (apm s u 1 2 - apm s u 1 0) (apm s u 2 2 - apm s u 2 0) (apm s u 0 3 - apm s u 0 0) (apm s u 1 3 - apm s u 1 0) (apm s u 2 3 - apm s u 2 0) (by omega)
    rw [Int.mul_sub, Int.mul_sub, Int.mul_sub] at e1 e2 e3
    exact n (nz4 hs hw ha p q r (p * apm s u 0 0 + q * apm s u 1 0 + r * apm s u 2 0) (fun i hi => by
      have : i = 0 ∨ i = 1 ∨ i = 2 ∨ i = 3 := by omega
      rcases this with rfl | rfl | rfl | rfl <;> omega))
theorem det_up {K p : Nat} (K2 : 2 ≤ K) (K4 : K ≤ 4) (hp : p < K) : ∃ g : Int, (g = 1 ∨ g = -1) ∧ mnr (mxv s u K (fun c => decide (c = p))) (K + 1) (K + 1) 0 0 = g * wgt s u K p ∧ mnr (mxv s u K (fun _ => false)) (K + 1) (K + 1) 0 0 = g * sm K (wgt s u K) := by
  have hK : K = 2 ∨ K = 3 ∨ K = 4 := by omega
  rcases hK with rfl | rfl | rfl
  · refine ⟨1, Or.inl rfl, ?_, d2_det s u⟩
    have : p = 0 ∨ p = 1 := by omega
    rcases this with rfl | rfl
    · exact d2_up0 s u
    · exact d2_up1 s u
  · refine ⟨-1, Or.inr rfl, ?_, d3_det s u⟩
    have : p = 0 ∨ p = 1 ∨ p = 2 := by omega
    rcases this with rfl | rfl | rfl
    · exact d3_up0 s u
    · exact d3_up1 s u
    · exact d3_up2 s u
  · refine ⟨1, Or.inl rfl, ?_, d4_det s u⟩
    have : p = 0 ∨ p = 1 ∨ p = 2 ∨ p = 3 := by omega
    rcases this with rfl | rfl | rfl | rfl
    · exact d4_up0 s u
    · exact d4_up1 s u
    · exact d4_up2 s u
    · exact d4_up3 s u
theorem det_sum {K : Nat} (K2 : 2 ≤ K) (K4 : K ≤ 4) : ∃ g : Int, (g = 1 ∨ g = -1) ∧ mnr (mxv s u K (fun c => decide (c = K))) (K + 1) (K + 1) 0 0 = g * sm K (fun i => wgt s u K i * Nm s u i 0) ∧ mnr (mxv s u K (fun _ => false)) (K + 1) (K + 1) 0 0 = g * sm K (wgt s u K) := by
  have hK : K = 2 ∨ K = 3 ∨ K = 4 := by omega
  rcases hK with rfl | rfl | rfl
  · exact ⟨1, Or.inl rfl, d2_sum s u, d2_det s u⟩
  · exact ⟨-1, Or.inr rfl, d3_sum s u, d3_det s u⟩
  · exact ⟨1, Or.inl rfl, d4_sum s u, d4_det s u⟩
theorem wgt_bd {K p : Nat} (hs : s = 2 ∨ s = 3) (K2 : 2 ≤ K) (K4 : K ≤ 4) : (wgt s u K p).natAbs ≤ 1452 ^ 3 := by
  have h := mnr_bd (a := apm s u) (K := K) (X := 363) (K - 1) 0 (2 ^ p) (fun r c _ _ _ => apm_bd hs r c)
  have h1 : (K * 363) ^ (K - 1) ≤ 1452 ^ (K - 1) := Nat.pow_le_pow_left (by omega) _
  have h2 : 1452 ^ (K - 1) ≤ 1452 ^ 3 := Nat.pow_le_pow_right (by decide) (by omega)
  have h3 : (sgn p).natAbs = 1 := by unfold sgn; split <;> rfl
  unfold wgt
  rw [Int.natAbs_mul, h3, Nat.one_mul]
  omega
theorem sm_bd {f : Nat → Int} {X : Nat} : ∀ k, (∀ i, i < k → (f i).natAbs ≤ X) → (sm k f).natAbs ≤ k * X
  | 0, _ => Nat.zero_le _
  | k + 1, h => by
    have h1 := sm_bd k (fun i hi => h i (by omega))
    have h2 := h k (by omega)
    simp only [sm]
    rw [Nat.succ_mul]
    omega
theorem whole_bd {K : Nat} (hs : s = 2 ∨ s = 3) (K2 : 2 ≤ K) (K4 : K ≤ 4) : (sm K (wgt s u K)).natAbs ≤ 4 * 1452 ^ 3 ∧ (sm K (fun i => wgt s u K i * Nm s u i 0)).natAbs ≤ 4 * (1452 ^ 3 * 363) := by
  constructor
  · exact Nat.le_trans (sm_bd K (fun i _ => wgt_bd hs K2 K4)) (Nat.mul_le_mul_right _ K4)
  · refine Nat.le_trans (sm_bd (X := 1452 ^ 3 * 363) K (fun i _ => ?_)) (Nat.mul_le_mul_right _ K4)
    rw [Int.natAbs_mul]
    refine Nat.mul_le_mul (wgt_bd hs K2 K4) ?_
    have := nb_363 hs (ov_lt (u i) (u 0))
    unfold Nm
    omega
theorem fq_neg {X Y Z : Int} (h : Y ≠ 0) : fq (-X) (-Y) (-Z) = fq X Y Z := by
  unfold fq
  rw [Int.natAbs_neg, Int.natAbs_neg]
  by_cases c : Y < 0
  · rw [if_pos c, if_neg (by omega), Int.neg_tdiv, Int.tdiv_neg]
  · rw [if_neg c, if_pos (by omega), Int.neg_tdiv, Int.tdiv_neg, Int.neg_neg]
theorem fL_sgn {X Y Z g : Int} (hg : g = 1 ∨ g = -1) (hX : X.natAbs < 2 ^ 62) (hY : Y.natAbs < 2 ^ 62) (hZ : Z.natAbs < 2 ^ 62) (h0 : Y ≠ 0) : fL (lI (g * X)) (lI (g * Y)) (lI (g * Z)) = fL (lI X) (lI Y) (lI Z) := by
  rcases hg with rfl | rfl
  · rw [Int.one_mul, Int.one_mul, Int.one_mul]
  · rw [Int.neg_one_mul, Int.neg_one_mul, Int.neg_one_mul]
    unfold fL
    rw [lI_T (by rw [Int.natAbs_neg]; omega), lI_T (by rw [Int.natAbs_neg]; omega), lI_T (by rw [Int.natAbs_neg]; omega), lI_T (by omega), lI_T (by omega), lI_T (by omega), fq_neg h0]
end NZ
