/-! behind; write; judge -/
theorem mB_fr2 {J : Nat → Int32} {B B' : Nat → Nat → Int32} {b : Bd} (hv : vB b) (h : mB J B b) (hB : ∀ c, c ≠ 2 → B' c = B c) (h2 : ∀ q, q < 40 → B' 2 q = B 2 q) : mB J B' b := by
  obtain ⟨s, ⟨n, w⟩, ⟨z, l⟩, ⟨p, k, o⟩, ⟨r, a, v⟩⟩ := b
  have z40 : z ≤ 40 := hv.2.2.1.1
  obtain ⟨c1, ⟨c2, cw⟩, ⟨c3, cl⟩, ⟨c4, cp⟩, ⟨c5, cr⟩⟩ := h
  exact ⟨c1, ⟨c2, fun i hi => (congrFun (hB 1 (by decide)) i).trans (cw i hi)⟩, ⟨c3, fun i hi => (h2 i (by omega)).trans (cl i hi)⟩, ⟨c4, fun i hi => ⟨(congrFun (hB 3 (by decide)) i).trans (cp i hi).1, (congrFun (hB 4 (by decide)) i).trans (cp i hi).2⟩⟩, ⟨c5, fun i hi => ⟨(congrFun (hB 5 (by decide)) i).trans (cr i hi).1, (congrFun (hB 6 (by decide)) i).trans (cr i hi).2⟩⟩⟩
theorem Rel_b2 {I : Nat → Int32} {A : Nat → Nat → Int32} {J : Nat → Int32} {B B' : Nat → Nat → Int32} (h : Rel I A J B) (hB : ∀ c, c ≠ 2 → B' c = B c) (h2 : ∀ q, q < 40 → B' 2 q = B 2 q) : Rel I A J B' := by
  obtain ⟨⟨b, hv, hc, hm⟩, hI', hT, hP, hL⟩ := h
  refine ⟨⟨b, hv, hc, mB_fr2 hv hm hB h2⟩, ?_, ?_, ?_, ?_⟩
  · rcases hI' with hI' | ⟨i1, i2, bb, jv, jc, jm⟩
    · exact Or.inl hI'
    · exact Or.inr ⟨i1, i2, bb, jv, jc, by rw [hB 11 (by decide)]; exact jm⟩
  · unfold rT; rw [hB 7 (by decide)]; exact hT
  · unfold rP; rw [hB 8 (by decide)]; exact hP
  · unfold rL rL1; rw [hB 9 (by decide), hB 10 (by decide)]; exact hL
theorem i_m10 {x : Int32} {j : Nat} (h : x - 10 = nI j) : x = nI (10 + j) := by
  rw [Nat.add_comm, ← nI_add, ← h, show nI 10 = 10 from rfl, Int32.sub_add_cancel]
theorem i_p10 {j : Nat} : nI (10 + j) - 10 = nI j := by
  rw [show (10 : Int32) = nI 10 from rfl, pn_sub (by omega), Nat.add_sub_cancel_left]
section BE
variable {I : Nat → Int32} {A : Nat → Nat → Int32} {J : Nat → Int32} {B : Nat → Nat → Int32} {L : Nat → Nat → Int64} {t : List zm_E}
theorem r_behT {x1 : Int32} {s r z : Nat} {l a v : Nat → Nat} (hs : s ≤ 3) (hs1 : 1 ≤ s) (r8 : r ≤ 8) (hr : ∀ i, i < r → a i ≤ 2 ∧ 1 ≤ v i ∧ v i ≤ 9) (c1 : J 0 = nI s) (c5 : J 10 = nI r) (cr : ∀ i, i < r → B 5 i = nI (a i) ∧ B 6 i = nI (v i)) (h : pcM s J B (z, l)) : ∃ J2 B2, (∀ G t, zR 59 (G + r + 41) 198 43 [some (.ref 1000), some (.int x1), some (.int 0), none] [] (t, hM (upd J 21 (J 4)) B L) = zR 59 G 198 69 [some (.ref 1000), some (.int x1), some (.int (nI r)), none] [] (t, hM J2 B2 L)) ∧ (∀ c, c ≠ 4 → J2 c = upd J 21 (J 4) c) ∧ (∀ c, c ≠ 2 → c ≠ 13 → B2 c = B c) ∧ (∀ q, q < 40 → B2 13 q = B 2 q) ∧ pcM s J2 B2 (pln s a v r 0 (z, l)) := by
  obtain ⟨B1, a1, a2, a3, a4⟩ := r_hold (J := upd J 21 (J 4)) (L := L) (x1 := x1) 59 40 0 B (by omega)
  obtain ⟨J2, B2, b1, b2, b3, b4⟩ := r_planL (L := L) (x1 := x1) 59 (by omega) hs hs1 r8 hr r 0 (upd J 21 (J 4)) B1 (z, l) (by omega) ((upd_ne (by decide)).trans c1) ((upd_ne (by decide)).trans c5) (fun i hi => by rw [a2 5 (by decide), a2 6 (by decide)]; exact cr i hi) ⟨(upd_ne (by decide)).trans h.1, h.2.1, fun i hi => by rw [a2 2 (by decide)]; exact h.2.2 i hi⟩
  refine ⟨J2, B2, fun G t => ?_, b2, fun c h1 h2 => (b3 c h1).trans (a2 c h2), fun q hq => ?_, b4⟩
  · exact (a1 (G + r) t).trans (b1 G t)
  · rw [b3 13 (by decide), a3 q (by omega) hq]
theorem r_behE {x1 x : Int32} {J2 : Nat → Int32} {B2 : Nat → Nat → Int32} {f : Nat} (hf : 50 < f) (o : Int32) : ∃ B', (∀ t, zR 59 f 198 130 [some (.ref 1000), some (.int x1), some (.int o), none] [(.int x)] (t, hM J2 B2 L) = some (some (.int x), (t, hM (upd J2 4 (J2 21)) B' L))) ∧ (∀ c, c ≠ 2 → B' c = B2 c) ∧ ∀ q, q < 40 → B' 2 q = B2 13 q := by
  obtain ⟨f, rfl⟩ : ∃ e, f = e + 1 := ⟨f - 1, by omega⟩
  obtain ⟨B', a1, a2, a3, a4⟩ := r_back (J := upd J2 4 (J2 21)) (L := L) (x1 := x1) (x2 := x) 59 40 0 f B2 (by omega) (by omega)
  exact ⟨B', fun t => (e_X10_behind_at130 59 f J2 B2 L t x1 o x).trans (a1 t), a2, fun q hq => a3 q (by omega) hq⟩
theorem P_behind (h : Rel I A J B) (x : Int32) : Ans 106 198 [.int x] I A J B L := by
  have hh := h
  obtain ⟨⟨⟨s, ⟨n, w⟩, ⟨z, l⟩, ⟨p, k, o⟩, ⟨r, a, v⟩⟩, hv, hc, hm⟩, -⟩ := h
  have s3 : s ≤ 3 := by have := hv.1; omega
  have s1 : 1 ≤ s := by have := hv.1; omega
  have c1 : I 100 = nI s := hc.1
  have m1 : J 0 = nI s := hm.1
  have c2 : I 102 = nI n := hc.2.1.1
  have m2 : J 2 = nI n := hm.2.1.1
  have c3 : I 301 = nI z := hc.2.2.1.1
  have m3 : J 4 = nI z := hm.2.2.1.1
  have n6 : n ≤ 6 := hv.2.1.1
  have z40 : z ≤ 40 := hv.2.2.1.1
  obtain ⟨r8, hr⟩ : r ≤ 8 ∧ ∀ i, i < r → a i ≤ 2 ∧ 1 ≤ v i ∧ v i ≤ 9 := hv.2.2.2.2
  have c5 : I 109 = nI r := hc.2.2.2.2.1
  have cr : ∀ i, i < r → A 7 i = nI (a i) ∧ A 8 i = nI (v i) := hc.2.2.2.2.2
  have m5 : J 10 = nI r := hm.2.2.2.2.1
  have mr : ∀ i, i < r → B 5 i = nI (a i) ∧ B 6 i = nI (v i) := hm.2.2.2.2.2
  have wc : ∀ i, i < n → A 2 i = nI (w i) ∧ okw s (w i) = true := fun i hi => ⟨hc.2.1.2 i hi, hv.2.1.2 i hi⟩
  have wm : ∀ i, i < n → B 1 i = nI (w i) ∧ okw s (w i) = true := fun i hi => ⟨hm.2.1.2 i hi, hv.2.1.2 i hi⟩
  have e1 := fun t => e_X9_behind 59 I A t x
  have e2 := fun t => e_X10_behind 59 J B L t x
  simp only [r_in (show 1 ≤ 59 by omega), pn_c1, F1, e_X10_behind_at6] at e2
  -- the class's thought
  obtain ⟨I2, A2, p1, p2, p3, p4⟩ := c_planL 58 (by omega) s3 s1 r8 hr r 0 10000000 (upd I 2701 (I 301)) (va_up A 28 (va_cpy (A 4) (A 28) 0 0 40)) (z, l) none none (by omega) (by omega) ((upd_ne (by decide)).trans c1) ((upd_ne (by decide)).trans c5) (fun i hi => by rw [vu_ne (by decide), vu_ne (by decide)]; exact cr i hi) ⟨upd_eq.trans c3, z40, fun i hi => by
    dsimp only at hi ⊢
    rw [vu_eq, cpy_in (by omega)]
    exact ⟨hc.2.2.1.2 i hi, hv.2.2.1.2 i hi⟩⟩
  have fp : ∀ t, zC 59 16 [.ref 1, .ref 27] (hC (upd I 2701 (I 301)) (va_up A 28 (va_cpy (A 4) (A 28) 0 0 40)), t) = some (none, (hC I2 A2, t)) := fun t => (e_X0_followPlan_1_27 58 _ _ t).trans (p1 t)
  obtain ⟨q1, q2, q3⟩ := p4
  have c2' : I2 102 = nI n := (p2 102 (by decide)).trans ((upd_ne (by decide)).trans c2)
  have wc' : ∀ i, i < n → A2 2 i = nI (w i) ∧ okw s (w i) = true := fun i hi => by rw [p3 2 (by decide), vu_ne (by decide)]; exact wc i hi
  have lc' : ∀ i, i < (pln s a v r 0 (z, l)).1 → A2 28 i = nI ((pln s a v r 0 (z, l)).2 i) ∧ (pln s a v r 0 (z, l)).2 i < 10 := fun i hi => ⟨(q3 i hi).1, by have := q3 i hi; omega⟩
  -- the reference's
  obtain ⟨J2, B2, r1, r2, r3, r4, r5⟩ := r_behT (J := J) (B := B) (L := L) (x1 := x) s3 s1 r8 hr m1 m5 mr ⟨m3, z40, fun i hi => ⟨hm.2.2.1.2 i hi, hv.2.2.1.2 i hi⟩⟩
  obtain ⟨u1, u2, u3⟩ := r5
  have m2' : J2 2 = nI n := (r2 2 (by decide)).trans ((upd_ne (by decide)).trans m2)
  have m5' : J2 10 = nI r := (r2 10 (by decide)).trans ((upd_ne (by decide)).trans m5)
  have wm' : ∀ i, i < n → B2 1 i = nI (w i) ∧ okw s (w i) = true := fun i hi => by rw [r3 1 (by decide) (by decide)]; exact wm i hi
  have lm' : ∀ i, i < (pln s a v r 0 (z, l)).1 → B2 2 i = nI ((pln s a v r 0 (z, l)).2 i) ∧ (pln s a v r 0 (z, l)).2 i < 10 := fun i hi => ⟨(u3 i hi).1, by have := u3 i hi; omega⟩
  have fin : ∀ B', (∀ c, c ≠ 2 → B' c = B2 c) → (∀ q, q < 40 → B' 2 q = B2 13 q) → Rel I2 A2 (upd J2 4 (J2 21)) B' := fun B' g1 g2 => by
    have hJ : ∀ c, c ≤ 18 → upd J2 4 (J2 21) c = J c := fun c hc => by
      by_cases e : c = 4
      · rw [e, upd_eq, r2 21 (by decide), upd_eq]
      · rw [upd_ne e, r2 c e, upd_ne (by omega)]
    have hR : Rel I2 A2 (upd J2 4 (J2 21)) B := Rel_fr hh (fun c hc => (p2 c (by omega)).trans (upd_ne (by omega))) (fun c hc _ => (p3 c (by omega)).trans (vu_ne (by omega))) hJ (fun c _ => rfl)
    have hR2 : Rel I2 A2 (upd J2 4 (J2 21)) (va_up B' 13 (B 13)) := Rel_b2 hR (fun c hc => by
      by_cases e : c = 13
      · rw [e, vu_eq]
      · rw [vu_ne e, g1 c hc, r3 c hc e]) (fun q hq => by rw [vu_ne (by decide), g2 q hq, r4 q hq])
    exact Rel_fr hR2 (fun c _ => rfl) (fun c _ _ => rfl) (fun c _ => rfl) (fun c hc => (vu_ne (by omega)).symm)
  have e3 := fun F t => e_X10_behind_at69 59 F J2 B2 L t x (nI r)
  simp only [m5', pn_t (nI_le (Nat.le_refl r) (show r < 2 ^ 31 by omega))] at e3
  have tail : ∀ (N : Nat) (hN : 1000 < N) (y : Int32) (h3 : ∀ F t, zR 59 (F + 1) 198 69 [some (.ref 1000), some (.int x), some (.int (nI r)), none] [] (t, hM J2 B2 L) = zR 59 F 198 130 [some (.ref 1000), some (.int x), some (.int (nI r)), none] [(.int y)] (t, hM J2 B2 L)), ∃ B', (∀ t, zR 59 N 198 43 [some (.ref 1000), some (.int x), some (.int 0), none] [] (t, hM (upd J 21 (J 4)) B L) = some (some (.int y), (t, hM (upd J2 4 (J2 21)) B' L))) ∧ Rel I2 A2 (upd J2 4 (J2 21)) B' := fun N hN y h3 => by
    obtain ⟨F, hF⟩ : ∃ F, N = F + 1 + r + 41 := ⟨N - 42 - r, by omega⟩
    obtain ⟨B', g1, g2, g3⟩ := r_behE (L := L) (x1 := x) (x := y) (J2 := J2) (B2 := B2) (f := F) (by omega) (nI r)
    exact ⟨B', fun t => by rw [hF]; exact (r1 (F + 1) t).trans ((h3 F t).trans (g1 t)), fin B' g2 g3⟩
  rcases pk_ix (x - 10) (n := n) (by omega) with q | q | ⟨j, hj, hxj⟩
  rotate_left 2
  · -- a word
    have hx := i_m10 hxj
    have x0 : ¬ x = 0 := fun q => by rw [hx] at q; exact nI_ne0 (by omega) (by omega) q
    have x1 : ¬ x = 1 := fun q => by rw [hx] at q; have := (nI_eq (b := 1) (by omega) (by decide)).mp q; omega
    have hwj := wc j hj
    have hlt := okw_lt hwj.2
    have g1 : decide (0 ≤ x ∧ x ≤ 1) = false := Bool.eq_false_iff.mpr (fun q => by
      obtain ⟨i, hi, q⟩ := (i_02 (n := 1) (by omega)).mp q
      rw [hx] at q
      have := (nI_eq (by omega) (by omega)).mp q
      omega)
    have g2 : decide (10 ≤ x ∧ x ≤ 15) = true := decide_eq_true (by rw [hx]; exact ⟨nI_le (a := 10) (by omega) (by omega), nI_le (b := 15) (by omega) (by decide)⟩)
    obtain ⟨B', b1, b2⟩ := tail 9999998 (by omega) (oI (fo (pln s a v r 0 (z, l)).2 (w j) (pln s a v r 0 (z, l)).1 0)) (fun F t => by
      rw [e3, pn_t x0, pn_t x1, hxj, r_firstOf (by omega) u1 u2 lm' (by omega) (wm' j hj).1 hwj.2, pn_c1])
    simp only [hxj, c_hw1 (A := A) (show 1 ≤ 59 by omega) c2 n6 hj, pn_c1, F1, e_X9_behind_at11, pn_f x0, pn_f x1, d_n10, cond_true, e_X6_copyFrom_27_3 58, pn_c0, F2, e_X9_behind_at41, fp, F3, e_X9_behind_at52, d_10, cond_false, c_wa (A := A2) (show 2 ≤ 59 by omega) c2' n6 hj, (wc' j hj).1, c_first_27 (show 4 ≤ 59 by omega) q1 q2 lc' hlt.1 hlt.2] at e1
    simp only [g1, b01_f, d_n00, cond_false, g2, b01_t, d_10, hxj, r_iw1 (B := B) (L := L) (show 2 ≤ 59 by omega) m2 n6 hj, pn_c1, F2, e_X10_behind_at28, d_n10, cond_true, b1] at e2
    exact ⟨_, _, _, _, _, _, e1, e2, b2⟩
  all_goals
    have hq : x - 10 < 0 ∨ nI n ≤ x - 10 := by first | exact Or.inl q | exact Or.inr q
    simp only [c_hw0 (A := A) (show 1 ≤ 59 by omega) c2 hq, pn_c1, F1, e_X9_behind_at11] at e1
    by_cases x0 : x = 0
    · have g1 : decide (0 ≤ x ∧ x ≤ 1) = true := by rw [x0]; decide
      obtain ⟨B', b1, b2⟩ := tail 9999999 (by omega) (nI (pln s a v r 0 (z, l)).1) (fun F t => by
        rw [e3, pn_f (fun q => q x0), u1])
      simp only [pn_t x0, e_X6_copyFrom_27_3 58, pn_c0, F2, e_X9_behind_at41, fp, F3, e_X9_behind_at52, d_00, cond_true, pn_f (show ¬ ¬ x = 0 from fun q => q x0), q1] at e1
      simp only [g1, b01_t, d_n10, cond_true, b1] at e2
      exact ⟨_, _, _, _, _, _, e1, e2, b2⟩
    by_cases x1 : x = 1
    · have g1 : decide (0 ≤ x ∧ x ≤ 1) = true := by rw [x1]; decide
      obtain ⟨B', b1, b2⟩ := tail 9999999 (by omega) (oI (whf (pln s a v r 0 (z, l)).2 (pln s a v r 0 (z, l)).1 w n 0 none 40 0)) (fun F t => by
        rw [e3, pn_t x0, pn_f (fun q => q x1), r_who (by omega) m2' n6 wm' u1 u2 lm', pn_c1])
      simp only [pn_f x0, pn_t x1, e_X6_copyFrom_27_3 58, pn_c0, F2, e_X9_behind_at41, fp, F3, e_X9_behind_at52, d_00, cond_true, pn_t x0, c_who_27 (show 5 ≤ 59 by omega) c2' n6 wc' q1 q2 lc', pn_c1] at e1
      simp only [g1, b01_t, d_n10, cond_true, b1] at e2
      exact ⟨_, _, _, _, _, _, e1, e2, b2⟩
    · have g1 : decide (0 ≤ x ∧ x ≤ 1) = false := Bool.eq_false_iff.mpr (fun q => by
        obtain ⟨i, hi, q⟩ := (i_02 (n := 1) (by omega)).mp q
        have : i = 0 ∨ i = 1 := by omega
        rcases this with rfl | rfl
        · exact x0 q
        · exact x1 q)
      simp only [pn_f x0, pn_f x1, d_n00, cond_false] at e1
      simp only [g1, b01_f, d_n00, cond_false] at e2
      by_cases g2 : 10 ≤ x ∧ x ≤ 15
      · simp only [decide_eq_true g2, b01_t, d_10, cond_false, r_iw0 (B := B) (L := L) (show 2 ≤ 59 by omega) m2 n6 hq, pn_c1, F2, e_X10_behind_at28, d_n00] at e2
        exact ⟨_, _, _, _, _, _, e1, e2, hh⟩
      · simp only [decide_eq_false g2, b01_f, d_00, cond_true] at e2
        exact ⟨_, _, _, _, _, _, e1, e2, hh⟩
/-! write -/
theorem s_sign {d l : Nat} (hd : 1 ≤ d) (h : zm_H) : zC d 122 [.int (nI l)] h = some (some (.int (nI (96 + l))), h) := by
  obtain ⟨d, rfl⟩ : ∃ e, d = e + 1 := ⟨d - 1, by omega⟩
  rw [e_X9_signOf, show (97 : Int32) = nI 97 from rfl, nI_add, show 97 + l = 96 + l + 1 by omega, nI_pred]
theorem c_writeS (d : Nat) (hd : 1 ≤ d) {z : Nat} {l : Nat → Nat} (h5 : I 5 = nI z) (z40 : z ≤ 40) : ∀ (j i f : Nat) (A : Nat → Nat → Int32), i + j = z → 2 * j < f → (∀ q, q < z → A 4 q = nI (l q)) → ∃ A', (∀ t, zR d f 120 16 [some (.ref 0), some (.int (nI i))] [] (hC I A, t) = some (some (.int (nI z)), (hC I A', t))) ∧ (∀ c, c ≠ 20 → A' c = A c) ∧ (∀ q, i ≤ q → q < z → A' 20 q = nI (96 + l q)) ∧ ∀ q, q < i → A' 20 q = A 20 q := by
  intro j
  induction j with
  | zero =>
    intro i f A hi hf hA
    obtain ⟨f, rfl⟩ : ∃ e, f = e + 1 := ⟨f - 1, by omega⟩
    refine ⟨A, fun t => ?_, fun c _ => rfl, fun q h1 h2 => by omega, fun q _ => rfl⟩
    rw [e_X9_writeStrip_at16, h5, pn_t (nI_le (by omega) (by omega))]
  | succ j ih =>
    intro i f A hi hf hA
    obtain ⟨f, rfl⟩ : ∃ e, f = e + 1 + 1 := ⟨f - 2, by omega⟩
    obtain ⟨A', a1, a2, a3, a4⟩ := ih (i + 1) f (va_up A 20 (upd (A 20) i (nI (96 + l i)))) (by omega) (by omega) (fun q hq => by rw [vu_ne (by decide)]; exact hA q hq)
    refine ⟨A', fun t => ?_, fun c hc => by rw [a2 c hc, vu_ne hc], fun q h1 h2 => ?_, fun q hq => ?_⟩
    · rw [e_X9_writeStrip_at16, h5, pn_f (nI_ge (by omega) (by omega)), pn_f (show ¬ (40 : Int32) ≤ nI i from nI_ge (b := 40) (by omega) (by decide)), pn_in (show i < 40 by omega) (by decide), cond_true, pn_cl (by omega), hA i (by omega), s_sign hd, pn_c1, e_X9_writeStrip_at50, pn_in (show i < 40 by omega) (by decide), cond_true, pn_cl (by omega), nI_1]
      exact a1 t
    · rcases Nat.lt_or_ge i q with u | u
      · exact a3 q u h2
      · rw [a4 q (by omega), vu_eq, show q = i by omega, upd_eq]
    · rw [a4 q (by omega), vu_eq, upd_ne (by omega)]
theorem c_writeW (d : Nat) (hd : 3 ≤ d) {a : Nat} (ha : a < 100000) (h5 : I 5 = nI (wl a)) : ∀ (j i f : Nat) (A : Nat → Nat → Int32), i + j = wl a → 2 * j < f → ∃ A', (∀ t, zR d f 121 10 [some (.ref 0), some (.int (nI a)), some (.int (nI i))] [] (hC I A, t) = some (some (.int (nI (wl a))), (hC I A', t))) ∧ (∀ c, c ≠ 20 → A' c = A c) ∧ (∀ q, i ≤ q → q < wl a → A' 20 q = nI (96 + ltr a q)) ∧ ∀ q, q < i → A' 20 q = A 20 q := by
  have l5 := wl_le a
  intro j
  induction j with
  | zero =>
    intro i f A hi hf
    obtain ⟨f, rfl⟩ : ∃ e, f = e + 1 := ⟨f - 1, by omega⟩
    refine ⟨A, fun t => ?_, fun c _ => rfl, fun q h1 h2 => by omega, fun q _ => rfl⟩
    rw [e_X9_writeWord_at10, h5, pn_t (nI_le (by omega) (by omega))]
  | succ j ih =>
    intro i f A hi hf
    obtain ⟨f, rfl⟩ : ∃ e, f = e + 1 + 1 := ⟨f - 2, by omega⟩
    obtain ⟨A', a1, a2, a3, a4⟩ := ih (i + 1) f (va_up A 20 (upd (A 20) i (nI (96 + ltr a i)))) (by omega) (by omega)
    refine ⟨A', fun t => ?_, fun c hc => by rw [a2 c hc, vu_ne hc], fun q h1 h2 => ?_, fun q hq => ?_⟩
    · rw [e_X9_writeWord_at10, h5, pn_f (nI_ge (by omega) (by omega)), pn_f (show ¬ (40 : Int32) ≤ nI i from nI_ge (b := 40) (by omega) (by decide)), s_letterAt hd _ (by omega) (by omega), pn_c1, s_sign (by omega), pn_c1, e_X9_writeWord_at37, pn_in (show i < 40 by omega) (by decide), cond_true, pn_cl (by omega), nI_1]
      exact a1 t
    · rcases Nat.lt_or_ge i q with u | u
      · exact a3 q u h2
      · rw [a4 q (by omega), vu_eq, show q = i by omega, upd_eq]
    · rw [a4 q (by omega), vu_eq, upd_ne (by omega)]
theorem r_writeS (d : Nat) {z : Nat} {l : Nat → Nat} (h5 : J 14 = nI z) (z40 : z ≤ 40) : ∀ (j i f : Nat) (B : Nat → Nat → Int32), i + j = z → 2 * j < f → (∀ q, q < z → B 2 q = nI (l q)) → ∃ B', (∀ t, zR d f 199 42 [some (.ref 1000), some (.int (-1)), some (.int (nI i))] [] (t, hM J B L) = some (some (.int (nI z)), (t, hM J B' L))) ∧ (∀ c, c ≠ 8 → B' c = B c) ∧ (∀ q, i ≤ q → q < z → B' 8 q = nI (96 + l q)) ∧ ∀ q, q < i → B' 8 q = B 8 q := by
  intro j
  induction j with
  | zero =>
    intro i f B hi hf hA
    obtain ⟨f, rfl⟩ : ∃ e, f = e + 1 := ⟨f - 1, by omega⟩
    refine ⟨B, fun t => ?_, fun c _ => rfl, fun q h1 h2 => by omega, fun q _ => rfl⟩
    rw [e_X10_write_at42, h5, pn_t (nI_le (by omega) (by omega))]
  | succ j ih =>
    intro i f B hi hf hA
    obtain ⟨f, rfl⟩ : ∃ e, f = e + 1 + 1 := ⟨f - 2, by omega⟩
    obtain ⟨B', a1, a2, a3, a4⟩ := ih (i + 1) f (va_up B 8 (upd (B 8) i (nI (96 + l i)))) (by omega) (by omega) (fun q hq => by rw [vu_ne (by decide)]; exact hA q hq)
    refine ⟨B', fun t => ?_, fun c hc => by rw [a2 c hc, vu_ne hc], fun q h1 h2 => ?_, fun q hq => ?_⟩
    · rw [e_X10_write_at42, h5, pn_f (nI_ge (by omega) (by omega)), pn_f (fun q => q rfl), pn_in (show i < 40 by omega) (by decide), cond_true, pn_cl (by omega), hA i (by omega), e_X10_write_at81, pn_in (show i < 40 by omega) (by decide), cond_true, pn_cl (by omega), nI_1, show (96 : Int32) = nI 96 from rfl, nI_add]
      exact a1 t
    · rcases Nat.lt_or_ge i q with u | u
      · exact a3 q u h2
      · rw [a4 q (by omega), vu_eq, show q = i by omega, upd_eq]
    · rw [a4 q (by omega), vu_eq, upd_ne (by omega)]
theorem r_writeW (d : Nat) (hd : 2 ≤ d) {a k : Nat} (ha : a < 100000) (hk : k < 6) (h5 : J 14 = nI (wl a)) : ∀ (j i f : Nat) (B : Nat → Nat → Int32), i + j = wl a → 2 * j < f → B 1 k = nI a → ∃ B', (∀ t, zR d f 199 42 [some (.ref 1000), some (.int (nI k)), some (.int (nI i))] [] (t, hM J B L) = some (some (.int (nI (wl a))), (t, hM J B' L))) ∧ (∀ c, c ≠ 8 → B' c = B c) ∧ (∀ q, i ≤ q → q < wl a → B' 8 q = nI (96 + ltr a q)) ∧ ∀ q, q < i → B' 8 q = B 8 q := by
  have l5 := wl_le a
  have km : ¬ nI k = -1 := fun e => by
    have := congrArg Int32.toInt e
    rw [nI_toInt (by omega)] at this
    have e1 : (-1 : Int32).toInt = -1 := rfl
    omega
  intro j
  induction j with
  | zero =>
    intro i f B hi hf hb
    obtain ⟨f, rfl⟩ : ∃ e, f = e + 1 := ⟨f - 1, by omega⟩
    refine ⟨B, fun t => ?_, fun c _ => rfl, fun q h1 h2 => by omega, fun q _ => rfl⟩
    rw [e_X10_write_at42, h5, pn_t (nI_le (by omega) (by omega))]
  | succ j ih =>
    intro i f B hi hf hb
    obtain ⟨f, rfl⟩ : ∃ e, f = e + 1 + 1 := ⟨f - 2, by omega⟩
    obtain ⟨B', a1, a2, a3, a4⟩ := ih (i + 1) f (va_up B 8 (upd (B 8) i (nI (96 + ltr a i)))) (by omega) (by omega) (by rw [vu_ne (by decide)]; exact hb)
    refine ⟨B', fun t => ?_, fun c hc => by rw [a2 c hc, vu_ne hc], fun q h1 h2 => ?_, fun q hq => ?_⟩
    · rw [e_X10_write_at42, h5, pn_f (nI_ge (by omega) (by omega)), pn_t km, pn_in hk (by decide), cond_true, pn_cl (by omega), hb, r_letterOf hd _ ha (by omega), pn_c1, e_X10_write_at81, pn_in (show i < 40 by omega) (by decide), cond_true, pn_cl (by omega), nI_1, show (96 : Int32) = nI 96 from rfl, nI_add]
      exact a1 t
    · rcases Nat.lt_or_ge i q with u | u
      · exact a3 q u h2
      · rw [a4 q (by omega), vu_eq, show q = i by omega, upd_eq]
    · rw [a4 q (by omega), vu_eq, upd_ne (by omega)]
/-- the paper is written alike -/
theorem Rel_pap {I' : Nat → Int32} {A' : Nat → Nat → Int32} {J' : Nat → Int32} {B' : Nat → Nat → Int32} (h : Rel I A J B) (hI : ∀ c, c ≠ 5 → I' c = I c) (hA : ∀ c, c ≠ 20 → A' c = A c) (hJ : ∀ c, c ≠ 14 → J' c = J c) (hB : ∀ c, c ≠ 8 → B' c = B c) (hP : rP I' A' J' B') : Rel I' A' J' B' := by
  obtain ⟨⟨b, hv, hc, hm⟩, hI', hT, -, hL⟩ := h
  refine ⟨⟨b, hv, cB_fr hc (hI _ (by omega)) (hI _ (by omega)) (hI _ (by omega)) (hI _ (by omega)) (hI _ (by omega)) (hA _ (by omega)) (hA _ (by omega)) (hA _ (by omega)) (hA _ (by omega)) (hA _ (by omega)) (hA _ (by omega)), mB_fr hm (hJ _ (by omega)) (hJ _ (by omega)) (hJ _ (by omega)) (hJ _ (by omega)) (hJ _ (by omega)) (hB _ (by omega)) (hB _ (by omega)) (hB _ (by omega)) (hB _ (by omega)) (hB _ (by omega)) (hB _ (by omega))⟩, ?_, ?_, hP, ?_⟩
  · rcases hI' with ⟨i1, i2⟩ | ⟨i1, i2, bb, jv, jc, jm⟩
    · exact Or.inl ⟨(hI 2 (by omega)).trans i1, (hJ 18 (by omega)).trans i2⟩
    · refine Or.inr ⟨(hI 2 (by omega)).trans i1, (hJ 18 (by omega)).trans i2, bb, jv, cB_fr jc (hI _ (by omega)) (hI _ (by omega)) (hI _ (by omega)) (hI _ (by omega)) (hI _ (by omega)) (hA _ (by omega)) (hA _ (by omega)) (hA _ (by omega)) (hA _ (by omega)) (hA _ (by omega)) (hA _ (by omega)), ?_⟩
      rw [hB 11 (by omega)]; exact jm
  · obtain ⟨z, c, t1, t2, t3, t4⟩ := hT
    exact ⟨z, c, t1, (hI 1701 (by omega)).trans t2, (hJ 12 (by omega)).trans t3, fun i hi => ⟨(t4 i hi).1, (t4 i hi).2.1, (congrFun (hA 18 (by omega)) i).trans (t4 i hi).2.2.1, (congrFun (hB 7 (by omega)) i).trans (t4 i hi).2.2.2⟩⟩
  · unfold rL rL1
    rw [hA 22 (by omega), hA 23 (by omega), hA 24 (by omega), hA 25 (by omega), hA 26 (by omega), hB 9 (by omega), hB 10 (by omega)]
    exact hL
theorem P_write (h : Rel I A J B) (x : Int32) : Ans 107 199 [.int x] I A J B L := by
  have hh := h
  obtain ⟨⟨⟨s, ⟨n, w⟩, ⟨z, l⟩, ⟨p, k, o⟩, ⟨r, a, v⟩⟩, hv, hc, hm⟩, -⟩ := h
  have c2 : I 102 = nI n := hc.2.1.1
  have m2 : J 2 = nI n := hm.2.1.1
  have c3 : I 301 = nI z := hc.2.2.1.1
  have m3 : J 4 = nI z := hm.2.2.1.1
  have n6 : n ≤ 6 := hv.2.1.1
  have z40 : z ≤ 40 := hv.2.2.1.1
  have e1 := fun t => e_X9_write 59 I A t x
  have e2 := fun t => e_X10_write 59 J B L t x
  by_cases xm : x = -1
  · obtain ⟨A', a1, a2, a3, -⟩ := c_writeS (I := upd I 5 (I 301)) (l := l) 58 (by omega) (upd_eq.trans c3) z40 z 0 10000000 A (by omega) (by omega) (hc.2.2.1.2)
    obtain ⟨B', b1, b2, b3, -⟩ := r_writeS (J := upd J 14 (J 4)) (L := L) (l := l) 59 (upd_eq.trans m3) z40 z 0 9999999 B (by omega) (by omega) (hm.2.2.1.2)
    have a1' : ∀ t, zC 59 120 [.ref 0] (hC I A, t) = some (some (.int (nI z)), (hC (upd I 5 (I 301)) A', t)) := fun t => (e_X9_writeStrip 58 I A t).trans (a1 t)
    have b1' : ∀ t, zR 59 9999999 199 42 [some (.ref 1000), some (.int x), some (.int 0)] [] (t, hM (upd J 14 (J 4)) B L) = some (some (.int (nI z)), (t, hM (upd J 14 (J 4)) B' L)) := by rw [xm]; exact b1
    simp only [pn_f (show ¬ ¬ x = -1 from fun q => q xm), a1', pn_c1] at e1
    simp only [pn_t xm, pn_f (show ¬ ¬ x = -1 from fun q => q xm), F1, e_X10_write_at37, b1'] at e2
    exact ⟨_, _, _, _, _, _, e1, e2, Rel_pap hh (fun c hc => upd_ne hc) a2 (fun c hc => upd_ne hc) b2 ⟨z, z40, upd_eq.trans c3, upd_eq.trans m3, fun i hi => (a3 i (by omega) hi).trans (b3 i (by omega) hi).symm⟩⟩
  · simp only [pn_t xm] at e1
    simp only [pn_f xm] at e2
    have no : ∀ q : x < 0 ∨ nI n ≤ x, Ans 107 199 [.int x] I A J B L := fun q => by
      simp only [c_hw0 (A := A) (show 1 ≤ 59 by omega) c2 q, pn_c1, F1, e_X9_write_at18, d_n00, cond_false] at e1
      simp only [r_iw0 (B := B) (L := L) (show 2 ≤ 59 by omega) m2 n6 q, pn_c1, F1, e_X10_write_at10, d_n00, cond_false] at e2
      exact ⟨_, _, _, _, _, _, e1, e2, hh⟩
    rcases pk_ix x (n := n) (by omega) with q | q | ⟨i, hi, rfl⟩
    · exact no (Or.inl q)
    · exact no (Or.inr q)
    have hw := hv.2.1.2 i hi
    have wi := okw_lt hw
    have l5 := wl_le (w i)
    have ca : A 2 i = nI (w i) := hc.2.1.2 i hi
    have cb : B 1 i = nI (w i) := hm.2.1.2 i hi
    obtain ⟨A', a1, a2, a3, -⟩ := c_writeW (I := upd I 5 (nI (wl (w i)))) 58 (by omega) wi.2 upd_eq (wl (w i)) 0 9999999 A (by omega) (by omega)
    obtain ⟨B', b1, b2, b3, -⟩ := r_writeW (J := upd J 14 (nI (wl (w i)))) (L := L) 59 (by omega) wi.2 (show i < 6 by omega) upd_eq (wl (w i)) 0 9999998 B (by omega) (by omega) cb
    have a1' : ∀ t, zC 59 121 [.ref 0, .int (nI (w i))] (hC I A, t) = some (some (.int (nI (wl (w i)))), (hC (upd I 5 (nI (wl (w i)))) A', t)) := fun t => by
      rw [e_X9_writeWord, s_length (by omega) _ (by omega), pn_c1, F1, e_X9_writeWord_at5]
      exact a1 t
    have b1' : ∀ t, zR 59 9999998 199 42 [some (.ref 1000), some (.int (nI i)), some (.int 0)] [] (t, hM (upd J 14 (nI (wl (w i)))) B L) = some (some (.int (nI (wl (w i)))), (t, hM (upd J 14 (nI (wl (w i)))) B' L)) := b1
    simp only [c_hw1 (A := A) (show 1 ≤ 59 by omega) c2 n6 hi, pn_c1, F1, e_X9_write_at18, d_n10, cond_true, c_wa (A := A) (show 2 ≤ 59 by omega) c2 n6 hi, ca, a1'] at e1
    simp only [r_iw1 (B := B) (L := L) (show 2 ≤ 59 by omega) m2 n6 hi, pn_c1, F1, e_X10_write_at10, d_n10, cond_true, pn_t xm, pn_in (show i < 6 by omega) (show 6 < 2 ^ 31 by omega), pn_cl (show i < 2 ^ 31 by omega), cb, r_sizeW (show 1 ≤ 59 by omega) _ wi.2, F2, e_X10_write_at37, b1'] at e2
    exact ⟨_, _, _, _, _, _, e1, e2, Rel_pap hh (fun c hc => upd_ne hc) a2 (fun c hc => upd_ne hc) b2 ⟨wl (w i), by omega, upd_eq, upd_eq, fun q hq => (a3 q (by omega) hq).trans (b3 q (by omega) hq).symm⟩⟩
end BE
