/-! the class counts rows of throws -/
theorem iI_add (a b : Int) : iI a + iI b = iI (a + b) := (Int32.ofInt_add a b).symm
theorem iI_sub (a b : Int) : iI a - iI b = iI (a - b) := (Int32.ofInt_sub a b).symm
def Hrn (s : Nat) (E : Nat → Int) : Nat → Int
  | 0 => 0
  | m + 1 => Hrn s E m * s + E (m + 1)
section CO
variable {I : Nat → Int32} {A : Nat → Nat → Int32} {t : List zm_E} {s K : Nat} {u : Nat → Nat}
theorem c_ea59 (d f : Nat) {i : Nat} (hi : i < 4) (x1 x2 x3 x4 x6 x7 : Int32) : zR d (f + 1) 30 59 [some (.ref 29), some (.int x1), some (.int x2), some (.int x3), some (.int x4), some (.int (nI i)), some (.int x6), some (.int x7)] [] (hC I A, t) = (bif decide (x2 ≤ (x3 + x7)) then (zR d f 30 29 [some (.ref 29), some (.int x1), some (.int x2), some (.int x3), some (.int x4), some (.int (nI (i + 1))), some (.int x6), some (.int x7)] [] (hC I A, t)) else bif decide (¬ ((x6 >>> ((x7 - 1) &&& 31)) &&& 1) = 1) then (zR d f 30 59 [some (.ref 29), some (.int x1), some (.int x2), some (.int x3), some (.int x4), some (.int (nI i)), some (.int x6), some (.int (x7 + 1))] [] (hC I A, t)) else bif zm_in (x3 + x7) 13 then (zR d f 30 59 [some (.ref 29), some (.int x1), some (.int x2), some (.int x3), some (.int (x4 - (A (36 + i) (Int32.toNatClampNeg (x3 + x7))))), some (.int (nI i)), some (.int x6), some (.int (x7 + 1))] [] (hC I A, t)) else none) := by
  have hc : i = 0 ∨ i = 1 ∨ i = 2 ∨ i = 3 := by omega
  rcases hc with rfl | rfl | rfl | rfl
  · exact e_X2_endingsAt_at59_50 d f I A t x1 x2 x3 x4 x6 x7
  · exact e_X2_endingsAt_at59_51 d f I A t x1 x2 x3 x4 x6 x7
  · exact e_X2_endingsAt_at59_52 d f I A t x1 x2 x3 x4 x6 x7
  · exact e_X2_endingsAt_at59_53 d f I A t x1 x2 x3 x4 x6 x7
theorem c_ce41 (d f : Nat) {i : Nat} (hi : i < 4) (x1 x2 : Int32) : zR d (f + 1) 29 41 [some (.ref 29), some (.int x1), some (.int x2), some (.int (nI i))] [] (hC I A, t) = (bif decide ((I 2901) ≤ nI i) then (zR d f 29 9 [some (.ref 29), some (.int x1), some (.int (x2 + 1)), some (.int (nI i))] [] (hC I A, t)) else zm_c1 (zC d 30 [(.ref 29), (.int (nI i)), (.int x2)] (hC I A, t)) fun v2 h1 => zR d f 29 62 [some (.ref 29), some (.int x1), some (.int x2), some (.int (nI i))] [(.int v2), (.int x2), (.ref (36 + i))] h1) := by
  have hc : i = 0 ∨ i = 1 ∨ i = 2 ∨ i = 3 := by omega
  rcases hc with rfl | rfl | rfl | rfl
  · exact e_X2_countEndings_at41_30 d f I A t x1 x2
  · exact e_X2_countEndings_at41_31 d f I A t x1 x2
  · exact e_X2_countEndings_at41_32 d f I A t x1 x2
  · exact e_X2_countEndings_at41_33 d f I A t x1 x2
theorem c_ce41z (d f : Nat) {i : Nat} (hi : i ≤ 4) (x1 x2 : Int32) (h : I 2901 ≤ nI i) : zR d (f + 1) 29 41 [some (.ref 29), some (.int x1), some (.int x2), some (.int (nI i))] [] (hC I A, t) = (zR d f 29 9 [some (.ref 29), some (.int x1), some (.int (x2 + 1)), some (.int (nI i))] [] (hC I A, t)) := by
  rcases Nat.lt_or_ge i 4 with q | q
  · rw [c_ce41 d f q, pn_t h]
  · have e : i = 4 := by omega
    subst e
    exact (e_X2_countEndings_at41_34 d f I A t x1 x2).trans (pn_t h)
theorem c_ce62 (d f : Nat) {i : Nat} (hi : i < 4) (x1 x2 s0 s1 : Int32) : zR d (f + 1) 29 62 [some (.ref 29), some (.int x1), some (.int x2), some (.int (nI i))] [(.int s0), (.int s1), (.ref (36 + i))] (hC I A, t) = (bif zm_in s1 13 then (bif zm_in x2 13 then (bif zm_in x2 13 then (bif zm_in x2 13 then (zR d f 29 41 [some (.ref 29), some (.int x1), some (.int x2), some (.int (nI (i + 1)))] [] (hC I (va_up (va_up A (36 + i) (upd (A (36 + i)) (Int32.toNatClampNeg s1) s0)) 40 (upd ((va_up A (36 + i) (upd (A (36 + i)) (Int32.toNatClampNeg s1) s0)) 40) (Int32.toNatClampNeg x2) (((va_up A (36 + i) (upd (A (36 + i)) (Int32.toNatClampNeg s1) s0)) 40 (Int32.toNatClampNeg x2)) - ((va_up A (36 + i) (upd (A (36 + i)) (Int32.toNatClampNeg s1) s0)) (36 + i) (Int32.toNatClampNeg x2))))), t)) else none) else none) else none) else none) := by
  have hc : i = 0 ∨ i = 1 ∨ i = 2 ∨ i = 3 := by omega
  rcases hc with rfl | rfl | rfl | rfl
  · exact e_X2_countEndings_at62_S2r36_30 d f I A t x1 x2 s0 s1
  · exact e_X2_countEndings_at62_S2r37_31 d f I A t x1 x2 s0 s1
  · exact e_X2_countEndings_at62_S2r38_32 d f I A t x1 x2 s0 s1
  · exact e_X2_countEndings_at62_S2r39_33 d f I A t x1 x2 s0 s1
theorem c_rw24 (d f : Nat) {p : Nat} (hp : p < 4) (x2 x3 x4 : Int32) : zR d (f + 1) 28 24 [some (.ref 29), some (.int (nI p)), some (.int x2), some (.int x3), some (.int x4)] [] (hC I A, t) = (bif decide (x2 < x4) then (some (some (.int x3), (hC I A, t))) else bif decide (12 < x4) then (some (some (.int x3), (hC I A, t))) else bif zm_in x4 13 then (zR d f 28 24 [some (.ref 29), some (.int (nI p)), some (.int x2), some (.int ((x3 * (I 2902)) + (A (36 + p) (Int32.toNatClampNeg x4)))), some (.int (x4 + 1))] [] (hC I A, t)) else none) := by
  have hc : p = 0 ∨ p = 1 ∨ p = 2 ∨ p = 3 := by omega
  rcases hc with rfl | rfl | rfl | rfl
  · exact e_X2_rowsWithin_at24_10 d f I A t x2 x3 x4
  · exact e_X2_rowsWithin_at24_11 d f I A t x2 x3 x4
  · exact e_X2_rowsWithin_at24_12 d f I A t x2 x3 x4
  · exact e_X2_rowsWithin_at24_13 d f I A t x2 x3 x4
theorem c_eaIn (d : Nat) {i j g st : Nat} (hi : i < 4) (hg : wl (u j) = g + 1) (hm : st + g + 1 ≤ 12) (hE : ∀ q, 1 ≤ q → q < st + g + 1 → A (36 + i) q = iI (Emj s K u i q)) (X : Int) (x1 : Int32) : ∀ (jj q f : Nat) (Y : Int), q + jj = g → Y = X + (-1) * sm q (fun m => bti (u i) (u j) (m + 1) * Emj s K u i (st + (m + 1))) → zR d (f + jj + 1) 30 59 [some (.ref 29), some (.int x1), some (.int (nI (st + g + 1))), some (.int (nI st)), some (.int (iI Y)), some (.int (nI i)), some (.int (nI (ov (u i) (u j)))), some (.int (nI (q + 1)))] [] (hC I A, t) = zR d f 30 29 [some (.ref 29), some (.int x1), some (.int (nI (st + g + 1))), some (.int (nI st)), some (.int (iI (X + (-1) * sm g (fun m => bti (u i) (u j) (m + 1) * Emj s K u i (st + (m + 1)))))), some (.int (nI (i + 1))), some (.int (nI (ov (u i) (u j)))), some (.int (nI (g + 1)))] [] (hC I A, t) := by
  intro jj
  induction jj with
  | zero =>
    intro q f Y hq hY
    have e : q = g := by omega
    subst e
    rw [Nat.add_zero, c_ea59 d f hi, nI_add, pn_t (nI_le (by omega) (by omega)), hY]
  | succ jj ih =>
    intro q f Y hq hY
    have hl := ov_lt (u i) (u j)
    have l5 := wl_le (u j)
    have hb := ov_bti (a := u i) (b := u j) (k := q) (by omega)
    rw [show f + (jj + 1) + 1 = (f + jj + 1) + 1 by omega, c_ea59 d _ hi, nI_add, pn_f (nI_ge (by omega) (by omega)), nI_pred, b_bit _ (show ov (u i) (u j) < 64 by omega) q (by omega)]
    by_cases c : ov (u i) (u j) / 2 ^ q % 2 = 1
    · rw [if_pos c] at hb
      rw [c, pn_f (show ¬ ¬ nI 1 = 1 by decide), pn_in (show st + (q + 1) < 13 by omega) (by decide), cond_true, pn_cl (by omega), hE (st + (q + 1)) (by omega) (by omega), iI_sub, nI_1]
      refine ih (q + 1) f _ (by omega) ?_
      simp only [sm]
      rw [← hb, hY]
      omega
    · rw [if_neg c] at hb
      rw [show ov (u i) (u j) / 2 ^ q % 2 = 0 by omega, pn_t (show ¬ nI 0 = 1 by decide), nI_1]
      refine ih (q + 1) f _ (by omega) ?_
      simp only [sm]
      rw [← hb, hY]
      omega
theorem c_eaOut (d : Nat) (hd : 2 ≤ d) (K4 : K ≤ 4) (hu : ∀ i, i < K → u i < 100000) {j g st : Nat} (hj : j < K) (hg : wl (u j) = g + 1) (hm : st + g + 1 ≤ 12) (h : fdC s K u I A) (hE : ∀ i q, i < K → 1 ≤ q → q < st + g + 1 → A (36 + i) q = iI (Emj s K u i q)) (X : Int) : ∀ (jj i f : Nat) (Y : Int) (o6 o7 : Option Value), i + jj = K → 10 * jj < f → Y = X + (-1) * sm i (fun i => sm g (fun m => bti (u i) (u j) (m + 1) * Emj s K u i (st + (m + 1)))) → zR d f 30 29 [some (.ref 29), some (.int (nI j)), some (.int (nI (st + g + 1))), some (.int (nI st)), some (.int (iI Y)), some (.int (nI i)), o6, o7] [] (hC I A, t) = some (some (.int (iI (X + (-1) * sm K (fun i => sm g (fun m => bti (u i) (u j) (m + 1) * Emj s K u i (st + (m + 1))))))), (hC I A, t)) := by
  intro jj
  induction jj with
  | zero =>
    intro i f Y o6 o7 hi hf hY
    obtain ⟨f, rfl⟩ : ∃ e, f = e + 1 := ⟨f - 1, by omega⟩
    have e : i = K := by omega
    subst e
    rw [e_X2_endingsAt_at29, h.1, pn_t (nI_le (Nat.le_refl _) (by omega)), hY]
  | succ jj ih =>
    intro i f Y o6 o7 hi hf hY
    have l5 := wl_le (u j)
    obtain ⟨f, rfl⟩ : ∃ e, f = (e + g + 1) + 1 := ⟨f - g - 2, by omega⟩
    have ui := hu i (by omega)
    have uj := hu j hj
    rw [e_X2_endingsAt_at29, h.1, pn_f (nI_ge (by omega) (by omega)), pn_in (show i < 4 by omega) (by decide), cond_true, pn_in (show j < 4 by omega) (by decide), cond_true, pn_cl (show i < 2 ^ 31 by omega), pn_cl (show j < 2 ^ 31 by omega), h.2.2 i (by omega), h.2.2 j hj, s_overlap hd _ (by omega) (by omega), pn_c1]
    refine (c_eaIn (s := s) (K := K) d (by omega) hg hm (fun q h1 h2 => hE i q (by omega) h1 h2) Y (nI j) g 0 f Y (by omega) (by simp only [sm]; omega)).trans ?_
    refine ih (i + 1) f _ _ _ (by omega) (by omega) ?_
    simp only [sm]
    rw [hY]
    omega
theorem c_endA {d : Nat} (hd : 3 ≤ d) (hs : s = 2 ∨ s = 3) (K4 : K ≤ 4) (hw : ∀ i, i < K → okw s (u i) = true) (ha : apt K u) {j m : Nat} (hj : j < K) (hm : m ≤ 12) (h : fdC s K u I A) (hO : ∀ q, q < m → A 40 q = iI (Omj s K u q)) (hE : ∀ i q, i < K → 1 ≤ q → q < m → A (36 + i) q = iI (Emj s K u i q)) : zC d 30 [.ref 29, .int (nI j), .int (nI m)] (hC I A, t) = some (some (.int (iI (Emj s K u j m))), (hC I A, t)) := by
  obtain ⟨d, rfl⟩ : ∃ e, d = e + 1 := ⟨d - 1, by omega⟩
  have uj := okw_lt (hw j hj)
  have lp := wl_pos uj.1
  have l5 := wl_le (u j)
  rw [e_X2_endingsAt, pn_in (show j < 4 by omega) (by decide), cond_true, pn_cl (by omega), h.2.2 j hj, s_length (by omega) _ (by omega), pn_c1, F1, e_X2_endingsAt_at10]
  rcases Nat.lt_or_ge m (wl (u j)) with q | q
  · have ng : ¬ 0 ≤ nI m - nI (wl (u j)) := Int32.not_le.mpr (pk_sneg (by omega) q)
    rw [pn_f ng, Em_low hs hw hj m q]
    rfl
  · obtain ⟨g, hg⟩ : ∃ g, wl (u j) = g + 1 := ⟨wl (u j) - 1, by omega⟩
    obtain ⟨st, rfl⟩ : ∃ st, m = st + g + 1 := ⟨m - (g + 1), by omega⟩
    have es : nI (st + g + 1) - nI (g + 1) = nI st := by
      rw [pn_sub (show g + 1 ≤ st + g + 1 by omega), show st + g + 1 - (g + 1) = st by omega]
    rw [hg, es, pn_t (nI_pos' (by omega)), pn_in (show st < 13 by omega) (by decide), cond_true, pn_cl (by omega), hO st (by omega), Em_rec hs hw ha hj hg]
    exact c_eaOut (I := I) d (by omega) K4 (fun i hi => (okw_lt (hw i hi)).2) hj hg hm h hE (Omj s K u st) K 0 9999999 _ none none (by omega) (by omega) (by simp only [sm]; omega)
def cnt (s K : Nat) (u : Nat → Nat) (m : Nat) (A : Nat → Nat → Int32) : Prop := (∀ q, q < m → A 40 q = iI (Omj s K u q)) ∧ ∀ i q, i < K → 1 ≤ q → q < m → A (36 + i) q = iI (Emj s K u i q)
theorem c_cIn (d : Nat) (hd : 3 ≤ d) (hs : s = 2 ∨ s = 3) (K4 : K ≤ 4) (hw : ∀ i, i < K → okw s (u i) = true) (ha : apt K u) {m : Nat} (hm : m + 1 ≤ 12) (x1 : Int32) : ∀ (jj i : Nat) (A : Nat → Nat → Int32), i + jj = K → fdC s K u I A → cnt s K u (m + 1) A → A 40 (m + 1) = iI (s * Omj s K u m + (-1) * sm i (fun i => Emj s K u i (m + 1))) → (∀ q, q < i → A (36 + q) (m + 1) = iI (Emj s K u q (m + 1))) → ∃ A', (∀ f t, zR d (f + 2 * jj + 1) 29 41 [some (.ref 29), some (.int x1), some (.int (nI (m + 1))), some (.int (nI i))] [] (hC I A, t) = zR d f 29 9 [some (.ref 29), some (.int x1), some (.int (nI (m + 2))), some (.int (nI K))] [] (hC I A', t)) ∧ (∀ c, c < 36 ∨ 40 < c → A' c = A c) ∧ cnt s K u (m + 2) A' := by
  intro jj
  induction jj with
  | zero =>
    intro i A hi h hc h40 h36
    have e : i = K := by omega
    subst e
    refine ⟨A, fun f t => ?_, fun c _ => rfl, fun q hq => ?_, fun a q ha1 hq1 hq2 => ?_⟩
    · rw [show f + 2 * 0 + 1 = f + 1 from rfl, c_ce41z d f K4 _ _ (by rw [h.1]; exact nI_le (Nat.le_refl _) (by omega)), nI_1]
    · by_cases e : q = m + 1
      · rw [e, h40, Om_succ hs]
      · exact hc.1 q (by omega)
    · by_cases e : q = m + 1
      · rw [e]; exact h36 a ha1
      · exact hc.2 a q ha1 hq1 (by omega)
  | succ jj ih =>
    intro i A hi h hc h40 h36
    have ea := fun t => c_endA (t := t) hd hs K4 hw ha (show i < K by omega) hm h hc.1 hc.2
    obtain ⟨A1, hA1⟩ : ∃ A1, A1 = va_up A (36 + i) (upd (A (36 + i)) (m + 1) (iI (Emj s K u i (m + 1)))) := ⟨_, rfl⟩
    have p40 : A1 40 = A 40 := by rw [hA1, vu_ne (by omega)]
    have pne : ∀ c, c ≠ 36 + i → A1 c = A c := fun c hc => by rw [hA1, vu_ne hc]
    have peq : A1 (36 + i) = upd (A (36 + i)) (m + 1) (iI (Emj s K u i (m + 1))) := by rw [hA1, vu_eq]
    obtain ⟨A2, hA2⟩ : ∃ A2, A2 = va_up A1 40 (upd (A1 40) (m + 1) ((A1 40 (m + 1)) - (A1 (36 + i) (m + 1)))) := ⟨_, rfl⟩
    have r40 : A2 40 = upd (A 40) (m + 1) (iI (s * Omj s K u m + (-1) * sm (i + 1) (fun i => Emj s K u i (m + 1)))) := by
      rw [hA2, vu_eq, p40, peq, upd_eq, h40, iI_sub]
      simp only [sm]
      rw [show (s : Int) * Omj s K u m + (-1) * sm i (fun i => Emj s K u i (m + 1)) - Emj s K u i (m + 1) = s * Omj s K u m + (-1) * (sm i (fun i => Emj s K u i (m + 1)) + Emj s K u i (m + 1)) by omega]
    have rne : ∀ c, c ≠ 40 → A2 c = A1 c := fun c hc => by rw [hA2, vu_ne hc]
    obtain ⟨A', a1, a2, a3⟩ := ih (i + 1) A2 (by omega) ⟨h.1, h.2.1, fun k hk => by rw [rne 30 (by omega), pne 30 (by omega)]; exact h.2.2 k hk⟩ ⟨fun q hq => by rw [r40, upd_ne (by omega)]; exact hc.1 q hq, fun a q ha1 hq1 hq2 => by
      rw [rne (36 + a) (by omega)]
      by_cases e : a = i
      · rw [e, peq, upd_ne (by omega), ← e]; exact hc.2 a q ha1 hq1 hq2
      · rw [pne (36 + a) (by omega)]; exact hc.2 a q ha1 hq1 hq2⟩ (by rw [r40, upd_eq]) (fun q hq => by
      rw [rne (36 + q) (by omega)]
      by_cases e : q = i
      · rw [e, peq, upd_eq]
      · rw [pne (36 + q) (by omega)]; exact h36 q (by omega))
    refine ⟨A', fun f t => ?_, fun c hc => by rw [a2 c hc, rne c (by omega), pne c (by omega)], a3⟩
    rw [show f + 2 * (jj + 1) + 1 = (f + 2 * jj + 1) + 1 + 1 by omega, c_ce41 d _ (show i < 4 by omega), h.1, pn_f (nI_ge (by omega) (by omega)), ea, pn_c1, c_ce62 d _ (show i < 4 by omega), pn_in (show m + 1 < 13 by omega) (by decide), cond_true, cond_true, cond_true, cond_true, pn_cl (by omega), ← hA1, ← hA2]
    exact a1 f t
theorem c_cOut (d : Nat) (hd : 3 ≤ d) (hs : s = 2 ∨ s = 3) (K4 : K ≤ 4) (hw : ∀ i, i < K → okw s (u i) = true) (ha : apt K u) {n : Nat} (hn : n ≤ 12) : ∀ (jj m : Nat) (A : Nat → Nat → Int32), m + jj = n → fdC s K u I A → cnt s K u (m + 1) A → ∃ A', (∀ f t o3, 20 * jj < f → zR d f 29 9 [some (.ref 29), some (.int (nI n)), some (.int (nI (m + 1))), o3] [] (hC I A, t) = some (none, (hC I A', t))) ∧ (∀ c, c < 36 ∨ 40 < c → A' c = A c) ∧ cnt s K u (n + 1) A' := by
  intro jj
  induction jj with
  | zero =>
    intro m A hm h hc
    have e : m = n := by omega
    subst e
    refine ⟨A, fun f t o3 hf => ?_, fun c _ => rfl, hc⟩
    obtain ⟨f, rfl⟩ : ∃ e, f = e + 1 := ⟨f - 1, by omega⟩
    rw [e_X2_countEndings_at9, pn_t (nI_lt (by omega) (by omega))]
  | succ jj ih =>
    intro m A hm h hc
    obtain ⟨A0, hA0⟩ : ∃ A0, A0 = va_up A 40 (upd (A 40) (m + 1) ((A 40 m) * (I 2902))) := ⟨_, rfl⟩
    have z0 : A0 40 = upd (A 40) (m + 1) (iI (s * Omj s K u m + (-1) * sm 0 (fun i => Emj s K u i (m + 1)))) := by
      have e0 : Omj s K u m * s = s * Omj s K u m + (-1) * sm 0 (fun i => Emj s K u i (m + 1)) := by
        simp only [sm]
        rw [Int.mul_comm]
        omega
      rw [hA0, vu_eq, hc.1 m (by omega), h.2.1, iI_nI s, iI_mul, e0]
    have zne : ∀ c, c ≠ 40 → A0 c = A c := fun c hc => by rw [hA0, vu_ne hc]
    obtain ⟨A1, a1, a2, a3⟩ := c_cIn (I := I) (m := m) d hd hs K4 hw ha (by omega) (nI n) K 0 A0 (by omega) ⟨h.1, h.2.1, fun k hk => by rw [zne 30 (by omega)]; exact h.2.2 k hk⟩ ⟨fun q hq => by rw [z0, upd_ne (by omega)]; exact hc.1 q hq, fun a q ha1 hq1 hq2 => by rw [zne (36 + a) (by omega)]; exact hc.2 a q ha1 hq1 hq2⟩ (by rw [z0, upd_eq]) (fun q hq => by omega)
    obtain ⟨A', b1, b2, b3⟩ := ih (m + 1) A1 (by omega) ⟨h.1, h.2.1, fun k hk => by rw [a2 30 (by omega), zne 30 (by omega)]; exact h.2.2 k hk⟩ a3
    refine ⟨A', fun f t o3 hf => ?_, fun c hc => by rw [b2 c hc, a2 c hc, zne c (by omega)], b3⟩
    obtain ⟨f, rfl⟩ : ∃ e, f = (e + 2 * K + 1) + 1 := ⟨f - 2 * K - 2, by omega⟩
    rw [e_X2_countEndings_at9, pn_f (nI_nlt (by omega) (by omega)), pn_f (show ¬ (12 : Int32) < nI (m + 1) from nI_nlt (a := 12) (by omega) (by decide)), nI_pred, pn_in (show m < 13 by omega) (by decide), cond_true, pn_in (show m + 1 < 13 by omega) (by decide), cond_true, pn_cl (show m + 1 < 2 ^ 31 by omega), pn_cl (show m < 2 ^ 31 by omega), ← hA0]
    exact (a1 f t).trans (b1 f t _ (by omega))
theorem c_rows {d p n : Nat} (hd : 5 ≤ d) (hs : s = 2 ∨ s = 3) (K4 : K ≤ 4) (hw : ∀ i, i < K → okw s (u i) = true) (ha : apt K u) (hp : p < K) (hn : n ≤ 12) (h : fdC s K u I A) : ∃ A', (∀ t, zC d 28 [.ref 29, .int (nI p), .int (nI n)] (hC I A, t) = some (some (.int (iI (Hrn s (Emj s K u p) n))), (hC I A', t))) ∧ ∀ c, c < 36 ∨ 40 < c → A' c = A c := by
  obtain ⟨d, rfl⟩ : ∃ e, d = e + 1 + 1 := ⟨d - 2, by omega⟩
  obtain ⟨A', a1, a2, a3⟩ := c_cOut (I := I) d (by omega) hs K4 hw ha hn n 0 (va_up A 40 (upd (A 40) 0 1)) (by omega) ⟨h.1, h.2.1, fun k hk => by rw [vu_ne (by omega)]; exact h.2.2 k hk⟩ ⟨fun q hq => by
    have e : q = 0 := by omega
    subst e
    rw [vu_eq, upd_eq]
    rfl, fun a q ha1 hq1 hq2 => by omega⟩
  refine ⟨A', fun t => ?_, fun c hc => by rw [a2 c hc, vu_ne (by omega)]⟩
  have e29 : zC (d + 1) 29 [.ref 29, .int (nI n)] (hC I A, t) = some (none, (hC I A', t)) := (e_X2_countEndings d I A t (nI n)).trans (a1 10000000 t none (by omega))
  have loop : ∀ (jj m f : Nat), m + jj = n → jj < f → zR (d + 1) f 28 24 [some (.ref 29), some (.int (nI p)), some (.int (nI n)), some (.int (iI (Hrn s (Emj s K u p) m))), some (.int (nI (m + 1)))] [] (hC I A', t) = some (some (.int (iI (Hrn s (Emj s K u p) n))), (hC I A', t)) := by
    intro jj
    induction jj with
    | zero =>
      intro m f hm hf
      obtain ⟨f, rfl⟩ : ∃ e, f = e + 1 := ⟨f - 1, by omega⟩
      have e : m = n := by omega
      subst e
      rw [c_rw24 (d + 1) f (by omega), pn_t (nI_lt (by omega) (by omega))]
    | succ jj ih =>
      intro m f hm hf
      obtain ⟨f, rfl⟩ : ∃ e, f = e + 1 := ⟨f - 1, by omega⟩
      rw [c_rw24 (d + 1) f (by omega), pn_f (nI_nlt (by omega) (by omega)), pn_f (show ¬ (12 : Int32) < nI (m + 1) from nI_nlt (a := 12) (by omega) (by decide)), pn_in (show m + 1 < 13 by omega) (by decide), cond_true, pn_cl (by omega), h.2.1, a3.2 p (m + 1) hp (by omega) (by omega), iI_nI s, iI_mul, iI_add, nI_1]
      exact ih (m + 1) f (by omega) (by omega)
  rw [e_X2_rowsWithin, pn_f (nI_pos (by omega)), h.1, pn_t (nI_lt hp (by omega)), e29, pn_c0]
  exact loop n 0 10000000 (by omega) (by omega)
end CO
