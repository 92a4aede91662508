/-! what may change without a trace; the trail -/
theorem cB_fr {c : Nat} {I I' : Nat → Int32} {A A' : Nat → Nat → Int32} {b : Bd} (h : cB c I A b) (i0 : I' (100 * c) = I (100 * c)) (i1 : I' (100 * c + 2) = I (100 * c + 2)) (i2 : I' (100 * (c + 2) + 1) = I (100 * (c + 2) + 1)) (i3 : I' (100 * c + 6) = I (100 * c + 6)) (i4 : I' (100 * c + 9) = I (100 * c + 9)) (a1 : A' (c + 1) = A (c + 1)) (a3 : A' (c + 3) = A (c + 3)) (a4 : A' (c + 4) = A (c + 4)) (a5 : A' (c + 5) = A (c + 5)) (a6 : A' (c + 6) = A (c + 6)) (a7 : A' (c + 7) = A (c + 7)) : cB c I' A' b := by
  obtain ⟨s, ⟨n, w⟩, ⟨z, l⟩, ⟨p, k, o⟩, ⟨r, a, v⟩⟩ := b
  obtain ⟨c1, ⟨c2, cw⟩, ⟨c3, cl⟩, ⟨c4, cp⟩, ⟨c5, cr⟩⟩ := h
  exact ⟨i0.trans c1, ⟨i1.trans c2, fun i hi => (congrFun a1 i).trans (cw i hi)⟩, ⟨i2.trans c3, fun i hi => (congrFun a3 i).trans (cl i hi)⟩, ⟨i3.trans c4, fun i hi => ⟨(congrFun a4 i).trans (cp i hi).1, (congrFun a5 i).trans (cp i hi).2⟩⟩, ⟨i4.trans c5, fun i hi => ⟨(congrFun a6 i).trans (cr i hi).1, (congrFun a7 i).trans (cr i hi).2⟩⟩⟩
theorem mB_fr {J J' : Nat → Int32} {B B' : Nat → Nat → Int32} {b : Bd} (h : mB J B b) (i0 : J' 0 = J 0) (i1 : J' 2 = J 2) (i2 : J' 4 = J 4) (i3 : J' 7 = J 7) (i4 : J' 10 = J 10) (a1 : B' 1 = B 1) (a3 : B' 2 = B 2) (a4 : B' 3 = B 3) (a5 : B' 4 = B 4) (a6 : B' 5 = B 5) (a7 : B' 6 = B 6) : mB J' B' b := by
  obtain ⟨s, ⟨n, w⟩, ⟨z, l⟩, ⟨p, k, o⟩, ⟨r, a, v⟩⟩ := b
  obtain ⟨c1, ⟨c2, cw⟩, ⟨c3, cl⟩, ⟨c4, cp⟩, ⟨c5, cr⟩⟩ := h
  exact ⟨i0.trans c1, ⟨i1.trans c2, fun i hi => (congrFun a1 i).trans (cw i hi)⟩, ⟨i2.trans c3, fun i hi => (congrFun a3 i).trans (cl i hi)⟩, ⟨i3.trans c4, fun i hi => ⟨(congrFun a4 i).trans (cp i hi).1, (congrFun a5 i).trans (cp i hi).2⟩⟩, ⟨i4.trans c5, fun i hi => ⟨(congrFun a6 i).trans (cr i hi).1, (congrFun a7 i).trans (cr i hi).2⟩⟩⟩
theorem Rel_fr {I I' : Nat → Int32} {A A' : Nat → Nat → Int32} {J J' : Nat → Int32} {B B' : Nat → Nat → Int32} (h : Rel I A J B) (hI : ∀ c, c ≤ 1701 → I' c = I c) (hA : ∀ c, c ≤ 26 → c ≠ 19 → A' c = A c) (hJ : ∀ c, c ≤ 18 → J' c = J c) (hB : ∀ c, c ≤ 11 → B' c = B c) : Rel I' A' J' B' := by
  obtain ⟨⟨b, hv, hc, hm⟩, hI', hT, hP, hL⟩ := h
  refine ⟨⟨b, hv, cB_fr hc (hI _ (by omega)) (hI _ (by omega)) (hI _ (by omega)) (hI _ (by omega)) (hI _ (by omega)) (hA _ (by omega) (by omega)) (hA _ (by omega) (by omega)) (hA _ (by omega) (by omega)) (hA _ (by omega) (by omega)) (hA _ (by omega) (by omega)) (hA _ (by omega) (by omega)), mB_fr hm (hJ _ (by omega)) (hJ _ (by omega)) (hJ _ (by omega)) (hJ _ (by omega)) (hJ _ (by omega)) (hB _ (by omega)) (hB _ (by omega)) (hB _ (by omega)) (hB _ (by omega)) (hB _ (by omega)) (hB _ (by omega))⟩, ?_, ?_, ?_, ?_⟩
  · rcases hI' with ⟨i1, i2⟩ | ⟨i1, i2, bb, jv, jc, jm⟩
    · exact Or.inl ⟨(hI 2 (by omega)).trans i1, (hJ 18 (by omega)).trans i2⟩
    · refine Or.inr ⟨(hI 2 (by omega)).trans i1, (hJ 18 (by omega)).trans i2, bb, jv, cB_fr jc (hI _ (by omega)) (hI _ (by omega)) (hI _ (by omega)) (hI _ (by omega)) (hI _ (by omega)) (hA _ (by omega) (by omega)) (hA _ (by omega) (by omega)) (hA _ (by omega) (by omega)) (hA _ (by omega) (by omega)) (hA _ (by omega) (by omega)) (hA _ (by omega) (by omega)), ?_⟩
      rw [hB 11 (by omega)]; exact jm
  · obtain ⟨z, c, t1, t2, t3, t4⟩ := hT
    exact ⟨z, c, t1, (hI 1701 (by omega)).trans t2, (hJ 12 (by omega)).trans t3, fun i hi => ⟨(t4 i hi).1, (t4 i hi).2.1, (congrFun (hA 18 (by omega) (by omega)) i).trans (t4 i hi).2.2.1, (congrFun (hB 7 (by omega)) i).trans (t4 i hi).2.2.2⟩⟩
  · obtain ⟨z, p1, p2, p3, p4⟩ := hP
    exact ⟨z, p1, (hI 5 (by omega)).trans p2, (hJ 14 (by omega)).trans p3, fun i hi => (congrFun (hA 20 (by omega) (by omega)) i).trans ((p4 i hi).trans (congrFun (hB 8 (by omega)) i).symm)⟩
  · unfold rL rL1
    rw [hA 22 (by omega) (by omega), hA 23 (by omega) (by omega), hA 24 (by omega) (by omega), hA 25 (by omega) (by omega), hA 26 (by omega) (by omega), hB 9 (by omega), hB 10 (by omega)]
    exact hL
theorem pig : ∀ (n : Nat) (f : Nat → Nat), (∀ i, i ≤ n → f i < n) → ∃ i j, i < j ∧ j ≤ n ∧ f i = f j := by
  intro n
  induction n with
  | zero => intro f h; have := h 0 (by omega); omega
  | succ n ih =>
    intro f h
    by_cases c : ∃ i, i ≤ n ∧ f i = f (n + 1)
    · obtain ⟨i, h1, h2⟩ := c
      exact ⟨i, n + 1, by omega, by omega, h2⟩
    · have hm := h (n + 1) (by omega)
      have ne : ∀ i, i ≤ n → f i ≠ f (n + 1) := fun i hi q => c ⟨i, hi, q⟩
      obtain ⟨i, j, h1, h2, h3⟩ := ih (fun i => if f i = n then f (n + 1) else f i) (fun i hi => by
        have g1 := h i (by omega)
        have g2 := ne i hi
        show (if f i = n then f (n + 1) else f i) < n
        split <;> omega)
      have h3 : (if f i = n then f (n + 1) else f i) = (if f j = n then f (n + 1) else f j) := h3
      have g1 := ne i (by omega)
      have g2 := ne j (by omega)
      refine ⟨i, j, h1, by omega, ?_⟩
      by_cases e1 : f i = n
      · rw [if_pos e1] at h3
        by_cases e2 : f j = n
        · omega
        · rw [if_neg e2] at h3; omega
      · rw [if_neg e1] at h3
        by_cases e2 : f j = n
        · rw [if_pos e2] at h3; omega
        · rw [if_neg e2] at h3; omega
theorem rk_inj {s : Nat} : ∀ e x y, dg s e x → dg s e y → rk s e x = rk s e y → x = y
  | 0, x, y, hx, hy, _ => by
    have hx : x = 0 := hx
    have hy : y = 0 := hy
    omega
  | e + 1, x, y, hx, hy, h => by
    have x1 := hx.2
    have y1 := hy.2
    rw [rk_s (by omega), rk_s (by omega)] at h
    rcases Nat.lt_trichotomy (rk s e (x / 10)) (rk s e (y / 10)) with q | q | q
    · have := Nat.mul_le_mul_right s (Nat.succ_le_of_lt q)
      rw [Nat.succ_mul] at this
      omega
    · have := rk_inj e _ _ hx.1 hy.1 q
      rw [q] at h
      omega
    · have := Nat.mul_le_mul_right s (Nat.succ_le_of_lt q)
      rw [Nat.succ_mul] at this
      omega
def tr (s a : Nat) : Nat → Nat
  | 0 => a
  | i + 1 => ba s (tr s a i)
theorem tr_ok {s a : Nat} (hs : s = 2 ∨ s = 3) (h : okw s a = true) : ∀ i, okw s (tr s a i) = true ∧ wl (tr s a i) = wl a
  | 0 => ⟨h, rfl⟩
  | i + 1 => by
    have ih := tr_ok hs h i
    have := ba_ok hs ih.1
    exact ⟨this.1, this.2.1.trans ih.2⟩
theorem trail_ex {s a : Nat} (hs : s = 2 ∨ s = 3) (h : okw s a = true) : ∃ M i, 1 ≤ M ∧ M ≤ 243 ∧ i < M ∧ tr s a i = tr s a M ∧ (∀ m, m < M → ∀ j, j < m → tr s a j ≠ tr s a m) ∧ ∀ j, j < i → tr s a j ≠ tr s a M := by
  have h1 := okw_lt h
  have lp := wl_pos h1.1
  have l5 := wl_le a
  obtain ⟨g, hg⟩ : ∃ g, wl a = g + 1 := ⟨wl a - 1, by omega⟩
  have h243 := pow35 hs (show g < 5 by omega)
  have hd : ∀ i, dg s (g + 1) (tr s a i) := fun i => by
    have := tr_ok hs h i
    have q := okw_dg this.1
    rw [this.2, hg] at q
    exact q
  obtain ⟨i, j, p1, p2, p3⟩ := pig 243 (fun i => rk s (g + 1) (tr s a i)) (fun i _ => by
    have := rk_lt (show 1 ≤ s by omega) _ _ (dg_okd _ _ (hd i))
    show rk s (g + 1) (tr s a i) < 243
    omega)
  have p4 : tr s a i = tr s a j := rk_inj _ _ _ (hd i) (hd j) p3
  obtain ⟨M, ⟨i1, q1, q2⟩, q3⟩ := pk_least (fun M => ∃ i, i < M ∧ tr s a i = tr s a M) ⟨j, i, p1, p4⟩
  obtain ⟨i0, r1, r2⟩ := pk_least (fun i => tr s a i = tr s a M) ⟨i1, q2⟩
  have hM : M ≤ j := by
    rcases Nat.lt_or_ge j M with q | q
    · exact absurd ⟨i, p1, p4⟩ (q3 j q)
    · exact q
  have hi0 : i0 ≤ i1 := by
    rcases Nat.lt_or_ge i1 i0 with q | q
    · exact absurd q2 (r2 i1 q)
    · exact q
  exact ⟨M, i0, by omega, by omega, by omega, r1, fun m hm q hq e => q3 m hm ⟨q, hq, e⟩, r2⟩
section TR
variable {I : Nat → Int32} {A : Nat → Nat → Int32} {J : Nat → Int32} {B : Nat → Nat → Int32} {L : Nat → Nat → Int64} {t : List zm_E}
theorem r_tscan (d : Nat) {x1 x2 : Int32} {m x : Nat} {c : Nat → Nat} (hm : m ≤ 243) (hx : x < 2 ^ 31) (hB : ∀ q, q < m → B 19 q = nI (c q) ∧ c q < 2 ^ 31) : ∀ (j i f : Nat), i + j ≤ m → (∀ q, i ≤ q → q < i + j → c q ≠ x) → zR d (f + j) 156 32 [some (.ref 1000), some (.int x1), some (.int x2), some (.int (nI m)), some (.int (nI x)), some (.int (nI i))] [] (t, hM J B L) = zR d f 156 32 [some (.ref 1000), some (.int x1), some (.int x2), some (.int (nI m)), some (.int (nI x)), some (.int (nI (i + j)))] [] (t, hM J B L) := by
  intro j
  induction j with
  | zero => intro i f hi hq; rw [Nat.add_zero, Nat.add_zero]
  | succ j ih =>
    intro i f hi hq
    have hb := hB i (by omega)
    rw [show f + (j + 1) = (f + j) + 1 from rfl, e_X10_trail_at32, pn_f (nI_ge (by omega) (by omega)), pn_in (show i < 244 by omega) (by decide), cond_true, pn_cl (by omega), hb.1, pn_ne hb.2 hx, pn_t (hq i (by omega) (by omega)), nI_1, ih (i + 1) f (by omega) (fun q h1 h2 => hq q (by omega) (by omega)), show i + 1 + j = i + (j + 1) by omega]
theorem r_trailL (d : Nat) (hd : 6 ≤ d) {x1 x2 : Int32} {s a M i0 : Nat} (hJ : J 0 = nI s) (hs : s = 2 ∨ s = 3) (ha : okw s a = true) (gM : M ≤ 243) (h1 : i0 < M) (h2 : tr s a i0 = tr s a M) (h3 : ∀ m, m < M → ∀ j, j < m → tr s a j ≠ tr s a m) (h4 : ∀ j, j < i0 → tr s a j ≠ tr s a M) : ∀ (g m f : Nat) (B : Nat → Nat → Int32), m + g = M → (∀ q, q < m → B 19 q = nI (tr s a q)) → 300 * g + 300 < f → ∃ B', (∀ t, zR d f 156 32 [some (.ref 1000), some (.int x1), some (.int x2), some (.int (nI m)), some (.int (nI (tr s a m))), some (.int (nI 0))] [] (t, hM J B L) = some (some (.int (bif decide (¬ x2 = 0) then nI M - nI i0 else nI M)), (t, hM J B' L))) ∧ ∀ c, c ≠ 19 → B' c = B c := by
  have lt : ∀ i, tr s a i < 2 ^ 31 := fun i => by have := (okw_lt (tr_ok hs ha i).1).2; omega
  intro g
  induction g with
  | zero =>
    intro m f B hm hB hf
    have e : m = M := by omega
    subst e
    obtain ⟨f, rfl⟩ : ∃ e, f = (e + 1) + i0 := ⟨f - i0 - 1, by omega⟩
    refine ⟨B, fun t => ?_, fun c _ => rfl⟩
    rw [r_tscan d gM (lt m) (fun q hq => ⟨hB q hq, lt q⟩) i0 0 (f + 1) (by omega) (fun q _ hq => h4 q (by omega)), Nat.zero_add, e_X10_trail_at32, pn_f (nI_ge (by omega) (by omega)), pn_in (show i0 < 244 by omega) (by decide), cond_true, pn_cl (by omega), hB i0 h1, h2, pn_f (fun q => q rfl)]
    cases decide (¬ x2 = 0) <;> rfl
  | succ g ih =>
    intro m f B hm hB hf
    obtain ⟨f, rfl⟩ : ∃ e, f = (e + 2) + m := ⟨f - m - 2, by omega⟩
    obtain ⟨B', b1, b2⟩ := ih (m + 1) f (va_up B 19 (upd (B 19) m (nI (tr s a m)))) (by omega) (fun q hq => by
      rw [vu_eq]
      by_cases e : q = m
      · subst e; rw [upd_eq]
      · rw [upd_ne e]; exact hB q (by omega)) (by omega)
    refine ⟨B', fun t => ?_, fun c hc => by rw [b2 c hc, vu_ne hc]⟩
    have hok := (tr_ok hs ha m).1
    rw [r_tscan d (by omega) (lt m) (fun q hq => ⟨hB q hq, lt q⟩) m 0 (f + 2) (by omega) (fun q _ hq => h3 m (by omega) q (by omega)), Nat.zero_add, e_X10_trail_at32, pn_t (nI_le (Nat.le_refl _) (by omega)), pn_in (show m < 244 by omega) (by decide), cond_true, pn_cl (by omega), r_best hd t J _ L hJ hs hok, pn_c1, nI_1, e_X10_trail_at29]
    exact b1 t
theorem c_tscan (d : Nat) {x1 x2 : Int32} {m x : Nat} {c : Nat → Nat} (hm : m ≤ 243) (hx : x < 2 ^ 31) (hB : ∀ q, q < m → A 45 q = nI (c q) ∧ c q < 2 ^ 31) : ∀ (j i f : Nat), i + j ≤ m → (∀ q, i ≤ q → q < i + j → c q ≠ x) → zR d (f + j) 116 39 [some (.ref 0), some (.int x1), some (.int x2), some (.int (nI m)), some (.int (nI x)), some (.int (nI i))] [] (hC I A, t) = zR d f 116 39 [some (.ref 0), some (.int x1), some (.int x2), some (.int (nI m)), some (.int (nI x)), some (.int (nI (i + j)))] [] (hC I A, t) := by
  intro j
  induction j with
  | zero => intro i f hi hq; rw [Nat.add_zero, Nat.add_zero]
  | succ j ih =>
    intro i f hi hq
    have hb := hB i (by omega)
    rw [show f + (j + 1) = (f + j) + 1 from rfl, e_X9_trailLength_at39, pn_f (nI_ge (by omega) (by omega)), pn_in (show i < 243 by omega) (by decide), cond_true, pn_cl (by omega), hb.1, pn_ne hb.2 hx, pn_t (hq i (by omega) (by omega)), nI_1, ih (i + 1) f (by omega) (fun q h1 h2 => hq q (by omega) (by omega)), show i + 1 + j = i + (j + 1) by omega]
theorem c_trailL (d : Nat) (hd : 6 ≤ d) {x1 x2 : Int32} {s a M i0 : Nat} (hI : I 100 = nI s) (hs : s = 2 ∨ s = 3) (ha : okw s a = true) (hM : M ≤ 243) (h1 : i0 < M) (h2 : tr s a i0 = tr s a M) (h3 : ∀ m, m < M → ∀ j, j < m → tr s a j ≠ tr s a m) (h4 : ∀ j, j < i0 → tr s a j ≠ tr s a M) : ∀ (g m f : Nat) (A : Nat → Nat → Int32) (o4 o5 : Option Value), m + 1 + g = M → (∀ q, q < m + 1 → A 45 q = nI (tr s a q)) → 300 * g + 300 < f → ∃ A', (∀ t, zR d f 116 9 [some (.ref 0), some (.int x1), some (.int x2), some (.int (nI (m + 1))), o4, o5] [] (hC I A, t) = some (some (.int (bif decide (x2 = 0) then nI M else nI M - nI i0)), (hC I A', t))) ∧ ∀ c, c ≠ 45 → A' c = A c := by
  have lt : ∀ i, tr s a i < 2 ^ 31 := fun i => by have := (okw_lt (tr_ok hs ha i).1).2; omega
  intro g
  induction g with
  | zero =>
    intro m f A o4 o5 hm hA hf
    have e : m + 1 = M := by omega
    subst e
    obtain ⟨f, rfl⟩ : ∃ e, f = ((e + 1) + i0) + 1 := ⟨f - i0 - 2, by omega⟩
    refine ⟨A, fun t => ?_, fun c _ => rfl⟩
    have hok := (tr_ok hs ha m).1
    rw [e_X9_trailLength_at9, pn_f (show ¬ (243 : Int32) < nI (m + 1) from nI_nlt (a := 243) (by omega) (by decide)), nI_pred, pn_in (show m < 243 by omega) (by decide), cond_true, pn_cl (by omega), hA m (by omega), hI, s_best hd _ hs hok, pn_c1, show (0 : Int32) = nI 0 from rfl]
    rw [show ba s (tr s a m) = tr s a (m + 1) from rfl, c_tscan d hM (lt (m + 1)) (fun q hq => ⟨hA q hq, lt q⟩) i0 0 (f + 1) (by omega) (fun q _ hq => h4 q (by omega)), Nat.zero_add, e_X9_trailLength_at39, pn_f (nI_ge (by omega) (by omega)), pn_in (show i0 < 243 by omega) (by decide), cond_true, pn_cl (by omega), hA i0 h1, h2, pn_f (fun q => q rfl)]
    rw [show (0 : Int32) = nI 0 from rfl]
    cases decide (x2 = nI 0) <;> rfl
  | succ g ih =>
    intro m f A o4 o5 hm hA hf
    obtain ⟨f, rfl⟩ : ∃ e, f = ((e + 1) + (m + 1)) + 1 := ⟨f - m - 3, by omega⟩
    obtain ⟨A', b1, b2⟩ := ih (m + 1) f (va_up A 45 (upd (A 45) (m + 1) (nI (tr s a (m + 1))))) (some (.int (nI (tr s a (m + 1))))) (some (.int (nI (m + 1)))) (by omega) (fun q hq => by
      rw [vu_eq]
      by_cases e : q = m + 1
      · subst e; rw [upd_eq]
      · rw [upd_ne e]; exact hA q (by omega)) (by omega)
    refine ⟨A', fun t => ?_, fun c hc => by rw [b2 c hc, vu_ne hc]⟩
    have hok := (tr_ok hs ha m).1
    rw [e_X9_trailLength_at9, pn_f (show ¬ (243 : Int32) < nI (m + 1) from nI_nlt (a := 243) (by omega) (by decide)), nI_pred, pn_in (show m < 243 by omega) (by decide), cond_true, pn_cl (by omega), hA m (by omega), hI, s_best hd _ hs hok, pn_c1, show (0 : Int32) = nI 0 from rfl]
    rw [show ba s (tr s a m) = tr s a (m + 1) from rfl, c_tscan d (by omega) (lt (m + 1)) (fun q hq => ⟨hA q hq, lt q⟩) (m + 1) 0 (f + 1) (by omega) (fun q _ hq => h3 (m + 1) (by omega) q (by omega)), Nat.zero_add, e_X9_trailLength_at39, pn_t (nI_le (Nat.le_refl _) (by omega)), pn_f (show ¬ (243 : Int32) ≤ nI (m + 1) from nI_ge (b := 243) (by omega) (by decide)), pn_in (show m + 1 < 243 by omega) (by decide), cond_true, pn_cl (by omega), nI_1]
    exact b1 t
theorem P_trail (h : Rel I A J B) (x y : Int32) : Ans 86 156 [.int x, .int y] I A J B L := by
  have hh := h
  obtain ⟨⟨⟨s, ⟨n, w⟩, ⟨z, l⟩, ⟨p, k, o⟩, ⟨r, a, v⟩⟩, hv, hc, hm⟩, -⟩ := h
  have c1 : I 100 = nI s := hc.1
  have m1 : J 0 = nI s := hm.1
  have c2 : I 102 = nI n := hc.2.1.1
  have m2 : J 2 = nI n := hm.2.1.1
  have n6 : n ≤ 6 := hv.2.1.1
  have e1 := fun t => e_X9_trail 59 I A t x y
  have e2 := fun t => e_X10_trail 59 J B L t x y
  have no : ∀ q : x < 0 ∨ nI n ≤ x, Ans 86 156 [.int x, .int y] I A J B L := fun q => by
    simp only [c_hw0 (A := A) (show 1 ≤ 59 by omega) c2 q, pn_c1, F1, e_X9_trail_at8, d_00, cond_true] at e1
    simp only [r_iw0 (B := B) (L := L) (show 2 ≤ 59 by omega) m2 n6 q, pn_c1, d_00, cond_true] at e2
    exact ⟨_, _, _, _, _, _, e1, e2, hh⟩
  rcases pk_ix x (n := n) (by omega) with q | q | ⟨i, hi, rfl⟩
  · exact no (Or.inl q)
  · exact no (Or.inr q)
  have hw := hv.2.1.2 i hi
  have wi := okw_lt hw
  have a1 : A 2 i = nI (w i) := hc.2.1.2 i hi
  have b1 : B 1 i = nI (w i) := hm.2.1.2 i hi
  simp only [c_hw1 (A := A) (show 1 ≤ 59 by omega) c2 n6 hi, pn_c1, F1, e_X9_trail_at8, d_10, cond_false] at e1
  simp only [r_iw1 (B := B) (L := L) (show 2 ≤ 59 by omega) m2 n6 hi, pn_c1, d_10, cond_false, r_in (show 1 ≤ 59 by omega), F1, e_X10_trail_at14] at e2
  by_cases g : ∃ j, j ≤ 1 ∧ y = nI j
  · have g' : decide (0 ≤ y ∧ y ≤ 1) = true := (i_02 (n := 1) (by omega)).mpr g
    simp only [g', b01_t, d_n10, cond_true, pn_in (show i < 6 by omega) (show 6 < 2 ^ 31 by omega), pn_cl (show i < 2 ^ 31 by omega), b1, F2, e_X10_trail_at29] at e2
    obtain ⟨M, i0, M1, M2, M3, M4, M5, M6⟩ := trail_ex hv.1 hw
    obtain ⟨B', r1, r2⟩ := r_trailL (J := J) (L := L) (x1 := nI i) (x2 := y) 59 (by omega) m1 hv.1 hw M2 M3 M4 M5 M6 M 0 9999998 B (by omega) (fun q hq => by omega) (by omega)
    have r1' : ∀ t, zR 59 9999998 156 32 [some (.ref 1000), some (.int (nI i)), some (.int y), some (.int 0), some (.int (nI (w i))), some (.int 0)] [] (t, hM J B L) = some (some (.int (bif decide (¬ y = 0) then nI M - nI i0 else nI M)), (t, hM J B' L)) := r1
    simp only [r1'] at e2
    have cl : ∀ x2 : Int32, ∃ A', (∀ t, zC 59 116 [.ref 0, .int (nI (w i)), .int x2] (hC I A, t) = some (some (.int (bif decide (x2 = 0) then nI M else nI M - nI i0)), (hC I A', t))) ∧ ∀ c, c ≠ 45 → A' c = A c := fun x2 => by
      obtain ⟨A', s1, s2⟩ := c_trailL (I := I) (x1 := nI (w i)) (x2 := x2) 58 (by omega) c1 hv.1 hw M2 M3 M4 M5 M6 (M - 1) 0 10000000 (va_up A 45 (upd (A 45) 0 (nI (w i)))) none none (by omega) (fun q hq => by rw [vu_eq, show q = 0 by omega, upd_eq]; rfl) (by omega)
      exact ⟨A', fun t => (e_X9_trailLength 58 I A t (nI (w i)) x2).trans (s1 t), fun c hc => by rw [s2 c hc, vu_ne hc]⟩
    obtain ⟨j, hj, rfl⟩ := g
    obtain ⟨A', s1, s2⟩ := cl (nI j)
    simp only [pn_f (nI_pos (show j < 2 ^ 31 by omega)), pn_t (show nI j ≤ (1 : Int32) from nI_le (b := 1) hj (by decide)), c_wa (A := A) (show 2 ≤ 59 by omega) c2 n6 hi, a1, pn_c1] at e1
    have hR : Rel I A' J B' := Rel_fr hh (fun c _ => rfl) (fun c hc _ => s2 c (by omega)) (fun c _ => rfl) (fun c hc => r2 c (by omega))
    have hj' : j = 0 ∨ j = 1 := by omega
    rcases hj' with rfl | rfl
    · have s1' : ∀ t, zC 59 116 [.ref 0, .int (nI (w i)), .int 0] (hC I A, t) = some (some (.int (nI M)), (hC I A', t)) := s1
      simp only [pn_t (show ¬ nI 0 = 1 by decide), s1', pn_c1] at e1
      have e2' : ∀ t, zC 60 156 [.ref 1000, .int (nI i), .int (nI 0)] (t, hM J B L) = some (some (.int (nI M)), (t, hM J B' L)) := e2
      exact ⟨_, _, _, _, _, _, e1, e2', hR⟩
    · have s1' : ∀ t, zC 59 116 [.ref 0, .int (nI (w i)), .int 1] (hC I A, t) = some (some (.int (nI M - nI i0)), (hC I A', t)) := s1
      simp only [pn_f (show ¬ ¬ nI 1 = 1 by decide), s1', pn_c1] at e1
      have e2' : ∀ t, zC 60 156 [.ref 1000, .int (nI i), .int (nI 1)] (t, hM J B L) = some (some (.int (nI M - nI i0)), (t, hM J B' L)) := e2
      exact ⟨_, _, _, _, _, _, e1, e2', hR⟩
  · have g' : decide (0 ≤ y ∧ y ≤ 1) = false := Bool.eq_false_iff.mpr (fun q => g ((i_02 (n := 1) (by omega)).mp q))
    simp only [g', b01_f, d_n00, cond_false] at e2
    by_cases u0 : y < 0
    · simp only [pn_t u0] at e1
      exact ⟨_, _, _, _, _, _, e1, e2, hh⟩
    · have u1 : ¬ y ≤ 1 := fun q => by
        have := (decide_eq_true_eq (p := 0 ≤ y ∧ y ≤ 1)).mpr ⟨Int32.not_lt.mp u0, q⟩
        rw [g'] at this
        cases this
      simp only [pn_f u0, pn_f u1] at e1
      exact ⟨_, _, _, _, _, _, e1, e2, hh⟩
end TR
