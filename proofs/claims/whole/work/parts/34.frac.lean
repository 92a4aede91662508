/-! fractions in lowest terms -/
theorem l_rem (a b : Int64) (hb : b ≠ 0) : (a - a / b * b).toInt = a.toInt.tmod b.toInt := by
  have hb0 : b.toInt ≠ 0 := fun q => hb (Int64.toInt_inj.mp (by rw [q]; rfl))
  rw [Int64.toInt_sub, Int64.toInt_mul, Int64.toInt_div, Int.bmod_mul_bmod, Int.sub_bmod_bmod]
  have e : a.toInt - a.toInt.tdiv b.toInt * b.toInt = a.toInt.tmod b.toInt := by
    rw [Int.tmod_def, Int.mul_comm]
  rw [e]
  have h1 : (a.toInt.tmod b.toInt).natAbs < b.toInt.natAbs := by
    rw [Int.natAbs_tmod]
    exact Nat.mod_lt _ (by omega)
  have h2 := Int64.le_toInt b
  have h3 := Int64.toInt_lt b
  exact Int.bmod_eq_of_le (by omega) (by omega)
theorem l_neg (a : Int64) (h : -2 ^ 63 < a.toInt) : (-a).toInt = -a.toInt := by
  have h3 := Int64.toInt_lt a
  rw [Int64.toInt_neg]
  exact Int.bmod_eq_of_le (by omega) (by omega)
theorem l_div (a b : Int64) (h : -2 ^ 63 < a.toInt) : (a / b).toInt = a.toInt.tdiv b.toInt := by
  apply Int64.toInt_div_of_ne_left
  rintro rfl
  exact absurd h (by decide)
theorem l_cmp0 (a : Int64) : (lg_cmp a 0 = 0) ↔ a.toInt = 0 := by
  unfold lg_cmp
  have e0 : (0 : Int64).toInt = 0 := rfl
  by_cases h1 : a > 0
  · rw [if_pos h1]
    have := Int64.lt_iff_toInt_lt.mp h1
    constructor
    · intro q; cases q
    · intro q; omega
  · rw [if_neg h1]
    by_cases h2 : a = 0
    · rw [if_pos h2, h2]; exact ⟨fun _ => rfl, fun _ => rfl⟩
    · rw [if_neg h2]
      constructor
      · intro q; cases q
      · intro q; exact absurd (Int64.toInt_inj.mp (by rw [q]; rfl)) h2
theorem l_cmpge (a : Int64) : (0 ≤ lg_cmp a 0) ↔ 0 ≤ a.toInt := by
  rw [lg_cmp_ge, Int64.le_iff_toInt_le]
  rfl
/-- Euclid comes to its end soon -/
theorem eu_half {a b : Nat} (h1 : 0 < b) (h2 : 0 < a % b) : b % (a % b) < b / 2 + 1 ∧ (b % (a % b)) * 2 < b + 1 := by
  have h3 : a % b < b := Nat.mod_lt _ h1
  have h4 : b % (a % b) < a % b := Nat.mod_lt _ h2
  have h5 : b % (a % b) + (a % b) ≤ b := by
    have := Nat.mod_add_div b (a % b)
    have h6 : 1 ≤ b / (a % b) := (Nat.le_div_iff_mul_le h2).mpr (by omega)
    have : a % b * 1 ≤ a % b * (b / (a % b)) := Nat.mul_le_mul_left _ h6
    omega
  omega
theorem s_gcdLoop (d : Nat) (h : zm_H) (X Y : Int64) : ∀ (n : Nat) (a b : Int64) (k f : Nat) (o : Option Value), b.toInt.natAbs < 2 ^ n → k + 2 * n ≤ 99 → 2 * n + 1 < f → ∃ D : Int64, zR d f 33 9 [some (.long X), none, some (.long Y), none, some (.long a), none, some (.long b), none, some (.int (nI k)), o, none] [] h = some (some (.long D), h) ∧ D.toInt.natAbs = Nat.gcd a.toInt.natAbs b.toInt.natAbs := by
  intro n
  induction n with
  | zero =>
    intro a b k f o hb hk hf
    obtain ⟨f, rfl⟩ : ∃ e, f = e + 1 := ⟨f - 1, by omega⟩
    have hb0 : b.toInt = 0 := by omega
    refine ⟨a, ?_, by rw [hb0]; simp⟩
    rw [e_X3_commonDivisor_at9, show (100 : Int32) = nI 100 from rfl, pn_le (by decide) (by omega), pn_f (by omega), pn_t ((l_cmp0 b).mpr hb0)]
  | succ n ih =>
    intro a b k f o hb hk hf
    obtain ⟨f, rfl⟩ : ∃ e, f = e + 1 := ⟨f - 1, by omega⟩
    rw [e_X3_commonDivisor_at9, show (100 : Int32) = nI 100 from rfl, pn_le (by decide) (by omega), pn_f (by omega)]
    by_cases hb0 : b.toInt = 0
    · refine ⟨a, ?_, by rw [hb0]; simp⟩
      rw [pn_t ((l_cmp0 b).mpr hb0)]
    · have hbn : b ≠ 0 := fun q => hb0 (by rw [q]; rfl)
      rw [pn_f (fun q => hb0 ((l_cmp0 b).mp q)), pn_f hbn]
      generalize hr : a - a / b * b = r
      have hrt : r.toInt.natAbs = a.toInt.natAbs % b.toInt.natAbs := by rw [← hr, l_rem a b hbn, Int.natAbs_tmod]
      obtain ⟨f, rfl⟩ : ∃ e, f = e + 1 := ⟨f - 1, by omega⟩
      rw [nI_1 k, e_X3_commonDivisor_at9, show (100 : Int32) = nI 100 from rfl, pn_le (by decide) (by omega), pn_f (by omega)]
      by_cases hr0 : r.toInt = 0
      · refine ⟨b, ?_, ?_⟩
        · rw [pn_t ((l_cmp0 r).mpr hr0)]
        · rw [Nat.gcd_comm, Nat.gcd_rec, ← hrt, hr0]
          simp
      · have hrn : r ≠ 0 := fun q => hr0 (by rw [q]; rfl)
        rw [pn_f (fun q => hr0 ((l_cmp0 r).mp q)), pn_f hrn]
        generalize hs : b - b / r * r = s
        have hst : s.toInt.natAbs = b.toInt.natAbs % r.toInt.natAbs := by rw [← hs, l_rem b r hrn, Int.natAbs_tmod]
        have hh := (eu_half (a := a.toInt.natAbs) (b := b.toInt.natAbs) (by omega) (by rw [← hrt]; omega)).2
        rw [← hrt, ← hst] at hh
        obtain ⟨D, h1, h2⟩ := ih r s (k + 1 + 1) f (some (.long s)) (by rw [Nat.pow_succ] at hb; omega) (by omega) (by omega)
        refine ⟨D, by rw [nI_1 (k + 1)]; exact h1, ?_⟩
        rw [h2, hst, hrt]
        rw [Nat.gcd_comm (a.toInt.natAbs % b.toInt.natAbs), ← Nat.gcd_rec, ← Nat.gcd_rec, Nat.gcd_comm]
theorem s_gcd {d : Nat} (hd : 1 ≤ d) (h : zm_H) (X Y : Int64) (hY : Y.toInt.natAbs < 2 ^ 49) : ∃ D : Int64, zC d 33 [.long X, .long Y] h = some (some (.long D), h) ∧ D.toInt.natAbs = Nat.gcd X.toInt.natAbs Y.toInt.natAbs := by
  obtain ⟨d, rfl⟩ : ∃ e, d = e + 1 := ⟨d - 1, by omega⟩
  rw [e_X3_commonDivisor, show (0 : Int32) = nI 0 from rfl]
  exact s_gcdLoop d h X Y 49 X Y 0 10000000 none hY (by omega) (by omega)
/-- what a fraction's part comes to: the part Z of X by Y -/
def fq (X Y Z : Int) : Int := Z.tdiv (if Y < 0 then -(Nat.gcd X.natAbs Y.natAbs : Int) else (Nat.gcd X.natAbs Y.natAbs : Int))
def fL (X Y Z : Int64) : Int64 := Int64.ofInt (fq X.toInt Y.toInt Z.toInt)
theorem fL_eq {X Y Z R : Int64} (h : R.toInt = fq X.toInt Y.toInt Z.toInt) : R = fL X Y Z := by
  unfold fL
  rw [← h, Int64.ofInt_toInt]
theorem s_partOf {d : Nat} (hd : 2 ≤ d) (h : zm_H) (X Y : Int64) (p : Int32) (hX : X.toInt.natAbs < 2 ^ 49) (hY : Y.toInt.natAbs < 2 ^ 49) (hY0 : Y.toInt ≠ 0) : zC d 32 [.long X, .long Y, .int p] h = some (some (.long (fL X Y (if p = 0 then X else Y))), h) := by
  obtain ⟨d, rfl⟩ : ∃ e, d = e + 1 := ⟨d - 1, by omega⟩
  obtain ⟨D, h1, h2⟩ := s_gcd (d := d) (by omega) h X Y hY
  have hg : 0 < Nat.gcd X.toInt.natAbs Y.toInt.natAbs := Nat.gcd_pos_of_pos_right _ (by omega)
  have hgY : Nat.gcd X.toInt.natAbs Y.toInt.natAbs ≤ Y.toInt.natAbs := Nat.gcd_le_right _ (by omega)
  have hD0 : D.toInt ≠ 0 := by omega
  have hDn : D ≠ 0 := fun q => hD0 (by rw [q]; rfl)
  rw [e_X3_partOf, h1, pn_c2, pn_f (fun q => hY0 ((l_cmp0 Y).mp q)), pn_t (fun q => hD0 ((l_cmp0 D).mp q))]
  have qY : (Y / D).toInt = Y.toInt.tdiv D.toInt := l_div Y D (by omega)
  have key : ∀ Z : Int64, Z.toInt.natAbs < 2 ^ 49 → (bif decide (0 ≤ lg_cmp (Y / D) 0) then some (some (Value.long (Z / D)), h) else some (some (Value.long (-(Z / D))), h)) = some (some (.long (fL X Y Z)), h) := by
    intro Z hZ
    have qZ : (Z / D).toInt = Z.toInt.tdiv D.toInt := l_div Z D (by omega)
    have hZD : (Z / D).toInt.natAbs ≤ Z.toInt.natAbs := by rw [qZ, Int.natAbs_tdiv]; exact Nat.div_le_self _ _
    have hdv : D.toInt.natAbs ∣ Y.toInt.natAbs := by rw [h2]; exact Nat.gcd_dvd_right _ _
    have hqa : (Y / D).toInt.natAbs = Y.toInt.natAbs / D.toInt.natAbs := by rw [qY, Int.natAbs_tdiv]; rfl
    have hq1 : 1 ≤ Y.toInt.natAbs / D.toInt.natAbs := (Nat.le_div_iff_mul_le (by omega)).mpr (by omega)
    by_cases c : 0 ≤ (Y / D).toInt
    · rw [pn_t ((l_cmpge _).mpr c)]
      congr 4
      apply fL_eq
      rw [qZ]
      unfold fq
      have hs : D.toInt = if Y.toInt < 0 then -(Nat.gcd X.toInt.natAbs Y.toInt.natAbs : Int) else (Nat.gcd X.toInt.natAbs Y.toInt.natAbs : Int) := by
        rw [qY] at c
        by_cases y0 : Y.toInt < 0
        · rw [if_pos y0]
          have : ¬ 0 < D.toInt := fun q => by
            have h5 : Y.toInt.tdiv D.toInt ≤ 0 := by
              rw [show Y.toInt = -(-Y.toInt) by omega, Int.neg_tdiv]
              have := Int.tdiv_nonneg (a := -Y.toInt) (b := D.toInt) (by omega) (by omega)
              omega
            omega
          omega
        · rw [if_neg y0]
          have : ¬ D.toInt < 0 := fun q => by
            have h5 : Y.toInt.tdiv D.toInt ≤ 0 := by
              rw [show D.toInt = -(-D.toInt) by omega, Int.tdiv_neg]
              have := Int.tdiv_nonneg (a := Y.toInt) (b := -D.toInt) (by omega) (by omega)
              omega
            omega
          omega
      rw [hs]
    · rw [pn_f (fun q => c ((l_cmpge _).mp q))]
      congr 4
      apply fL_eq
      rw [l_neg _ (by omega), qZ]
      unfold fq
      have hs : -D.toInt = if Y.toInt < 0 then -(Nat.gcd X.toInt.natAbs Y.toInt.natAbs : Int) else (Nat.gcd X.toInt.natAbs Y.toInt.natAbs : Int) := by
        rw [qY] at c
        by_cases y0 : Y.toInt < 0
        · rw [if_pos y0]
          have : ¬ D.toInt < 0 := fun q => by
            have h5 : 0 ≤ Y.toInt.tdiv D.toInt := by
              rw [show Y.toInt = -(-Y.toInt) by omega, show D.toInt = -(-D.toInt) by omega, Int.neg_tdiv, Int.tdiv_neg, Int.neg_neg]
              exact Int.tdiv_nonneg (by omega) (by omega)
            omega
          omega
        · rw [if_neg y0]
          have : ¬ 0 < D.toInt := fun q => c (Int.tdiv_nonneg (by omega) (by omega))
          omega
      rw [← hs, Int.tdiv_neg]
  by_cases hp : p = 0
  · rw [pn_f (by simpa using hp), pn_f hDn, pn_f hDn, if_pos hp]
    exact key X hX
  · rw [pn_t hp, pn_f hDn, pn_f hDn, if_neg hp]
    exact key Y hY
/-! the reference's -/
theorem r_gcd0 (d : Nat) (h : zm_H) (X Y : Int64) (p : Int32) (hX : X.toInt.natAbs < 2 ^ 62) (hY : Y.toInt.natAbs < 2 ^ 62) (hY0 : Y.toInt ≠ 0) (A B : Int64) (f : Nat) (o : Option Value) (hA : 0 ≤ A.toInt) (hB : B.toInt = 0) (hA2 : A.toInt < 2 ^ 62) (hG : A.toInt.natAbs = Nat.gcd X.toInt.natAbs Y.toInt.natAbs) : zR d (f + 1) 142 28 [some (.long X), none, some (.long Y), none, some (.int p), some (.long A), none, some (.long B), none, o, none] [] h = some (some (.long (fL X Y (if p = 0 then X else Y))), h) := by
  have hg : 0 < Nat.gcd X.toInt.natAbs Y.toInt.natAbs := Nat.gcd_pos_of_pos_right _ (by omega)
  have e0 : (0 : Int64).toInt = 0 := rfl
  rw [e_X10_lowest_at28, pn_t ((l_cmp0 B).mpr hB)]
  have hA0 : A ≠ 0 := fun q => by rw [q] at hG; omega
  have hAn : (-A).toInt = -A.toInt := l_neg A (by omega)
  have hA0' : -A ≠ 0 := fun q => by rw [q] at hAn; omega
  by_cases y0 : 0 ≤ Y.toInt
  · rw [pn_t ((l_cmpge Y).mpr y0)]
    have ed : A.toInt = if Y.toInt < 0 then -(Nat.gcd X.toInt.natAbs Y.toInt.natAbs : Int) else (Nat.gcd X.toInt.natAbs Y.toInt.natAbs : Int) := by rw [if_neg (by omega)]; omega
    by_cases hp : p = 0
    · rw [pn_f (by simpa using hp), pn_f hA0, if_pos hp]
      congr 4
      apply fL_eq
      rw [l_div X A (by omega)]
      unfold fq
      rw [← ed]
    · rw [pn_t hp, pn_f hA0, if_neg hp]
      congr 4
      apply fL_eq
      rw [l_div Y A (by omega)]
      unfold fq
      rw [← ed]
  · rw [pn_f (fun q => y0 ((l_cmpge Y).mp q))]
    have ed : (-A).toInt = if Y.toInt < 0 then -(Nat.gcd X.toInt.natAbs Y.toInt.natAbs : Int) else (Nat.gcd X.toInt.natAbs Y.toInt.natAbs : Int) := by rw [if_pos (by omega)]; omega
    by_cases hp : p = 0
    · rw [pn_f (by simpa using hp), pn_f hA0', if_pos hp]
      congr 4
      apply fL_eq
      rw [l_div X (-A) (by omega)]
      unfold fq
      rw [← ed]
    · rw [pn_t hp, pn_f hA0', if_neg hp]
      congr 4
      apply fL_eq
      rw [l_div Y (-A) (by omega)]
      unfold fq
      rw [← ed]
theorem r_gcdLoop (d : Nat) (h : zm_H) (X Y : Int64) (p : Int32) (hX : X.toInt.natAbs < 2 ^ 62) (hY : Y.toInt.natAbs < 2 ^ 62) (hY0 : Y.toInt ≠ 0) : ∀ (n : Nat) (A B : Int64) (f : Nat) (o : Option Value), B.toInt.natAbs < 2 ^ n → n ≤ 62 → 2 * n + 1 < f → 0 ≤ A.toInt → 0 ≤ B.toInt → A.toInt < 2 ^ 62 → Nat.gcd A.toInt.natAbs B.toInt.natAbs = Nat.gcd X.toInt.natAbs Y.toInt.natAbs → zR d f 142 28 [some (.long X), none, some (.long Y), none, some (.int p), some (.long A), none, some (.long B), none, o, none] [] h = some (some (.long (fL X Y (if p = 0 then X else Y))), h) := by
  intro n
  induction n with
  | zero =>
    intro A B f o hb hn hf hA hB hA2 hG
    obtain ⟨f, rfl⟩ : ∃ e, f = e + 1 := ⟨f - 1, by omega⟩
    have hB0 : B.toInt = 0 := by omega
    exact r_gcd0 d h X Y p hX hY hY0 A B f o hA hB0 hA2 (by rw [hB0] at hG; simpa using hG)
  | succ n ih =>
    intro A B f o hb hn hf hA hB hA2 hG
    obtain ⟨f, rfl⟩ : ∃ e, f = e + 1 := ⟨f - 1, by omega⟩
    have hp62 : 2 ^ (n + 1) ≤ 2 ^ 62 := Nat.pow_le_pow_right (by omega) hn
    by_cases hB0 : B.toInt = 0
    · exact r_gcd0 d h X Y p hX hY hY0 A B f o hA hB0 hA2 (by rw [hB0] at hG; simpa using hG)
    · have hBn : B ≠ 0 := fun q => hB0 (by rw [q]; rfl)
      rw [e_X10_lowest_at28, pn_f (fun q => hB0 ((l_cmp0 B).mp q)), pn_f hBn]
      have hr := l_rem A B hBn
      generalize hrr : A - A / B * B = r at hr ⊢
      have hrt : r.toInt.natAbs = A.toInt.natAbs % B.toInt.natAbs := by rw [hr, Int.natAbs_tmod]
      have hr0 : 0 ≤ r.toInt := by rw [hr]; exact Int.tmod_nonneg _ hA
      have hrl : r.toInt.natAbs < B.toInt.natAbs := by rw [hrt]; exact Nat.mod_lt _ (by omega)
      obtain ⟨f, rfl⟩ : ∃ e, f = e + 1 := ⟨f - 1, by omega⟩
      have hG2 : Nat.gcd B.toInt.natAbs r.toInt.natAbs = Nat.gcd X.toInt.natAbs Y.toInt.natAbs := by
        rw [hrt, ← hG, Nat.gcd_comm, ← Nat.gcd_rec, Nat.gcd_comm]
      by_cases hr00 : r.toInt = 0
      · exact r_gcd0 d h X Y p hX hY hY0 B r f _ hB hr00 (by omega) (by rw [hr00] at hG2; simpa using hG2)
      · have hrn : r ≠ 0 := fun q => hr00 (by rw [q]; rfl)
        rw [e_X10_lowest_at28, pn_f (fun q => hr00 ((l_cmp0 r).mp q)), pn_f hrn]
        have hs := l_rem B r hrn
        generalize hss : B - B / r * r = s at hs ⊢
        have hst : s.toInt.natAbs = B.toInt.natAbs % r.toInt.natAbs := by rw [hs, Int.natAbs_tmod]
        have hh := (eu_half (a := A.toInt.natAbs) (b := B.toInt.natAbs) (by omega) (by rw [← hrt]; omega)).2
        rw [← hrt, ← hst] at hh
        refine ih r s f _ (by rw [Nat.pow_succ] at hb; omega) (by omega) (by omega) hr0 (by rw [hs]; exact Int.tmod_nonneg _ hB) (by omega) ?_
        rw [hst, ← hG2, Nat.gcd_comm, ← Nat.gcd_rec, Nat.gcd_comm]
theorem r_lowest {d : Nat} (hd : 1 ≤ d) (h : zm_H) (X Y : Int64) (p : Int32) (hX : X.toInt.natAbs < 2 ^ 62) (hY : Y.toInt.natAbs < 2 ^ 62) (hY0 : Y.toInt ≠ 0) : zC d 142 [.long X, .long Y, .int p] h = some (some (.long (fL X Y (if p = 0 then X else Y))), h) := by
  obtain ⟨d, rfl⟩ : ∃ e, d = e + 1 := ⟨d - 1, by omega⟩
  rw [e_X10_lowest]
  have nX : (-X).toInt = -X.toInt := l_neg X (by omega)
  have nY : (-Y).toInt = -Y.toInt := l_neg Y (by omega)
  by_cases x0 : 0 ≤ X.toInt
  · rw [pn_t ((l_cmpge X).mpr x0)]
    by_cases y0 : 0 ≤ Y.toInt
    · rw [pn_t ((l_cmpge Y).mpr y0)]
      exact r_gcdLoop d h X Y p hX hY hY0 62 X Y _ none hY (by omega) (by omega) x0 y0 (by omega) rfl
    · rw [pn_f (fun q => y0 ((l_cmpge Y).mp q))]
      exact r_gcdLoop d h X Y p hX hY hY0 62 X (-Y) _ none (by rw [nY, Int.natAbs_neg]; exact hY) (by omega) (by omega) x0 (by omega) (by omega) (by rw [nY, Int.natAbs_neg])
  · rw [pn_f (fun q => x0 ((l_cmpge X).mp q))]
    by_cases y0 : 0 ≤ Y.toInt
    · rw [pn_t ((l_cmpge Y).mpr y0)]
      exact r_gcdLoop d h X Y p hX hY hY0 62 (-X) Y _ none hY (by omega) (by omega) (by omega) y0 (by omega) (by rw [nX, Int.natAbs_neg])
    · rw [pn_f (fun q => y0 ((l_cmpge Y).mp q))]
      exact r_gcdLoop d h X Y p hX hY hY0 62 (-X) (-Y) _ none (by rw [nY, Int.natAbs_neg]; exact hY) (by omega) (by omega) (by omega) (by omega) (by omega) (by rw [nX, nY, Int.natAbs_neg, Int.natAbs_neg])
