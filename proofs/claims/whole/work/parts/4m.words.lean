/-! words -/
theorem Rel_new {I I' : Nat → Int32} {A A' : Nat → Nat → Int32} {J J' : Nat → Int32} {B B' : Nat → Nat → Int32} {b' : Bd} (h : Rel I A J B) (hv : vB b') (hc : cB 1 I' A' b') (hm : mB J' B' b') (hT : rT I' A' J' B') (i2 : I' 2 = I 2) (i5 : I' 5 = I 5) (i9 : ∀ c, 900 ≤ c → c ≤ 1101 → I' c = I c) (ha : ∀ c, 9 ≤ c → c ≤ 26 → c ≠ 18 → c ≠ 19 → A' c = A c) (j14 : J' 14 = J 14) (j18 : J' 18 = J 18) (hb : ∀ c, 8 ≤ c → c ≤ 11 → B' c = B c) : Rel I' A' J' B' := by
  obtain ⟨-, hI', -, hP, hL⟩ := h
  refine ⟨⟨b', hv, hc, hm⟩, ?_, hT, ?_, ?_⟩
  · rcases hI' with ⟨q1, q2⟩ | ⟨q1, q2, bb, jv, jc, jm⟩
    · exact Or.inl ⟨i2.trans q1, j18.trans q2⟩
    · refine Or.inr ⟨i2.trans q1, j18.trans q2, bb, jv, cB_fr jc (i9 _ (by omega) (by omega)) (i9 _ (by omega) (by omega)) (i9 _ (by omega) (by omega)) (i9 _ (by omega) (by omega)) (i9 _ (by omega) (by omega)) (ha _ (by omega) (by omega) (by omega) (by omega)) (ha _ (by omega) (by omega) (by omega) (by omega)) (ha _ (by omega) (by omega) (by omega) (by omega)) (ha _ (by omega) (by omega) (by omega) (by omega)) (ha _ (by omega) (by omega) (by omega) (by omega)) (ha _ (by omega) (by omega) (by omega) (by omega)), ?_⟩
      rw [hb 11 (by omega) (by omega)]; exact jm
  · obtain ⟨z, p1, p2, p3, p4⟩ := hP
    exact ⟨z, p1, i5.trans p2, j14.trans p3, fun i hi => (congrFun (ha 20 (by omega) (by omega) (by omega) (by omega)) i).trans ((p4 i hi).trans (congrFun (hb 8 (by omega) (by omega)) i).symm)⟩
  · unfold rL rL1
    rw [ha 22 (by omega) (by omega) (by omega) (by omega), ha 23 (by omega) (by omega) (by omega) (by omega), ha 24 (by omega) (by omega) (by omega) (by omega), ha 25 (by omega) (by omega) (by omega) (by omega), ha 26 (by omega) (by omega) (by omega) (by omega), hb 9 (by omega) (by omega), hb 10 (by omega) (by omega)]
    exact hL
section WS
variable {I : Nat → Int32} {A : Nat → Nat → Int32} {J : Nat → Int32} {B : Nat → Nat → Int32} {L : Nat → Nat → Int64} {t : List zm_E}
theorem c_addW {d n u : Nat} (hd : 1 ≤ d) (hn : I 102 = nI n) (n6 : n < 6) : zC d 4 [.ref 1, .int (nI u)] (hC I A, t) = some (none, (hC (upd I 102 (nI (n + 1))) (va_up A 2 (upd (A 2) n (nI u))), t)) := by
  obtain ⟨d, rfl⟩ : ∃ e, d = e + 1 := ⟨d - 1, by omega⟩
  rw [e_X0_addWord, hn, pn_f (nI_pos (by omega)), pn_t (show nI n < (6 : Int32) from nI_lt (b := 6) n6 (by decide)), pn_in n6 (by decide), cond_true, pn_cl (by omega), nI_1]
theorem c_wordsL (d : Nat) (hd : 1 ≤ d) {n M : Nat} {x1 : Int32} {T : Nat → Nat} (hM : n + M ≤ 6) : ∀ (j i f : Nat) (I : Nat → Int32) (A : Nat → Nat → Int32), i + j = M → j < f → I 102 = nI (n + i) → I 1703 = nI M → (∀ k, k < M → A 19 k = nI (T k)) → ∃ I' A', (∀ t, zR d f 78 58 [some (.ref 0), some (.int x1), some (.int (nI i))] [] (hC I A, t) = some (some (.int (nI (n + M))), (hC I' A', t))) ∧ (∀ c, c ≠ 102 → I' c = I c) ∧ I' 102 = nI (n + M) ∧ (∀ c, c ≠ 2 → A' c = A c) ∧ (∀ k, k < n + i → A' 2 k = A 2 k) ∧ ∀ k, i ≤ k → k < M → A' 2 (n + k) = nI (T k) := by
  intro j
  induction j with
  | zero =>
    intro i f I A hi hf hn h3 hT
    obtain ⟨f, rfl⟩ : ∃ e, f = e + 1 := ⟨f - 1, by omega⟩
    have e : i = M := by omega
    subst e
    refine ⟨I, A, fun t => ?_, fun c _ => rfl, hn, fun c _ => rfl, fun k _ => rfl, fun k h1 h2 => by omega⟩
    rw [e_X9_words_at58, h3, pn_t (nI_le (Nat.le_refl _) (by omega)), hn]
  | succ j ih =>
    intro i f I A hi hf hn h3 hT
    obtain ⟨f, rfl⟩ : ∃ e, f = e + 1 := ⟨f - 1, by omega⟩
    obtain ⟨I', A', r1, r2, r3, r4, r5, r6⟩ := ih (i + 1) f (upd I 102 (nI (n + i + 1))) (va_up A 2 (upd (A 2) (n + i) (nI (T i)))) (by omega) (by omega) upd_eq ((upd_ne (by decide)).trans h3) (fun k hk => by rw [vu_ne (by decide)]; exact hT k hk)
    refine ⟨I', A', fun t => ?_, fun c hc => by rw [r2 c hc, upd_ne hc], r3, fun c hc => by rw [r4 c hc, vu_ne hc], fun k hk => ?_, fun k h1 h2 => ?_⟩
    · rw [e_X9_words_at58, h3, pn_f (nI_ge (by omega) (by omega)), pn_f (show ¬ (6 : Int32) ≤ nI i from nI_ge (b := 6) (by omega) (by decide)), pn_in (show i < 6 by omega) (by decide), cond_true, pn_cl (by omega), hT i (by omega), c_addW hd hn (by omega), pn_c0, nI_1]
      exact r1 t
    · rw [r5 k (by omega), vu_eq, upd_ne (by omega)]
    · rcases Nat.lt_or_ge i k with u | u
      · exact r6 k u h2
      · rw [show k = i by omega, r5 (n + i) (by omega), vu_eq, upd_eq]
theorem r_wordsL (d : Nat) {n M : Nat} {T : Nat → Nat} (gM : n + M ≤ 6) : ∀ (j i f : Nat) (J : Nat → Int32) (B : Nat → Nat → Int32), i + j = M → j < f → J 2 = nI (n + i) → (∀ k, k < M → B 12 k = nI (T k)) → ∃ J' B', (∀ t, zR d f 148 32 [some (.ref 1000), some (.int (nI M)), some (.int (nI i))] [] (t, hM J B L) = some (some (.int (nI (n + M))), (t, hM J' B' L))) ∧ (∀ c, c ≠ 2 → J' c = J c) ∧ J' 2 = nI (n + M) ∧ (∀ c, c ≠ 1 → B' c = B c) ∧ (∀ k, k < n + i → B' 1 k = B 1 k) ∧ ∀ k, i ≤ k → k < M → B' 1 (n + k) = nI (T k) := by
  intro j
  induction j with
  | zero =>
    intro i f J B hi hf hn hT
    obtain ⟨f, rfl⟩ : ∃ e, f = e + 1 := ⟨f - 1, by omega⟩
    have e : i = M := by omega
    subst e
    refine ⟨J, B, fun t => ?_, fun c _ => rfl, hn, fun c _ => rfl, fun k _ => rfl, fun k h1 h2 => by omega⟩
    rw [e_X10_words_at32, pn_t (nI_le (Nat.le_refl _) (by omega)), hn]
  | succ j ih =>
    intro i f J B hi hf hn hT
    obtain ⟨f, rfl⟩ : ∃ e, f = e + 1 := ⟨f - 1, by omega⟩
    obtain ⟨J', B', r1, r2, r3, r4, r5, r6⟩ := ih (i + 1) f (upd J 2 (nI (n + i + 1))) (va_up B 1 (upd (B 1) (n + i) (nI (T i)))) (by omega) (by omega) upd_eq (fun k hk => by rw [vu_ne (by decide)]; exact hT k hk)
    refine ⟨J', B', fun t => ?_, fun c hc => by rw [r2 c hc, upd_ne hc], r3, fun c hc => by rw [r4 c hc, vu_ne hc], fun k hk => ?_, fun k h1 h2 => ?_⟩
    · rw [e_X10_words_at32, pn_f (nI_ge (by omega) (by omega)), pn_in (show i < 6 by omega) (by decide), cond_true, hn, pn_in (show n + i < 6 by omega) (by decide), cond_true, pn_cl (show i < 2 ^ 31 by omega), pn_cl (show n + i < 2 ^ 31 by omega), hT i (by omega), nI_1, nI_1]
      exact r1 t
    · rw [r5 k (by omega), vu_eq, upd_ne (by omega)]
    · rcases Nat.lt_or_ge i k with u | u
      · exact r6 k u h2
      · rw [show k = i by omega, r5 (n + i) (by omega), vu_eq, upd_eq]
theorem P_words (h : Rel I A J B) : Ans 78 148 [] I A J B L := by
  have hh := h
  obtain ⟨⟨⟨s, ⟨n, w⟩, ⟨z, l⟩, ⟨p, k, o⟩, ⟨r, a, v⟩⟩, hv, hc, hm⟩, -, ⟨tz, tc, t1, t2, t3, t4⟩, -, -⟩ := h
  have hv' := hv
  obtain ⟨v1, ⟨n6, vw⟩, ⟨z40, vl⟩, v4, v5⟩ := hv'
  obtain ⟨c1, ⟨c2, cw⟩, ⟨c3, cl⟩, ⟨c4, cp⟩, ⟨c5, cr⟩⟩ := id hc
  obtain ⟨m1, ⟨m2, mw⟩, ⟨m3, ml⟩, ⟨m4, mp⟩, ⟨m5, mr⟩⟩ := id hm
  have s3 : s ≤ 3 := by omega
  have s1 : 1 ≤ s := by omega
  have c1 : I 100 = nI s := c1
  have c2 : I 102 = nI n := c2
  have e1 := fun t => e_X9_words 59 I A t
  have e2 := fun t => e_X10_words 59 J B L t
  have hv0 : vT s 0 (0, (fun _ => 0), 0, 0) := ⟨Nat.le_refl _, ⟨0, by omega, rfl⟩, Nat.zero_le _, fun k hk => absurd hk (by dsimp only; omega)⟩
  obtain ⟨I1, A1, p1, p2, p3, p4⟩ := c_readL (s := s) 58 (by omega) s3 t1 (fun i hi => (t4 i hi).2.1) tz 0 10000000 (upd (upd (upd I 1703 0) 1704 0) 1705 0) A (0, (fun _ => 0), 0, 0) (by omega) (by omega) t2 (fun i hi => (t4 i hi).2.2.1) hv0 ⟨rfl, rfl, rfl, fun k hk => absurd hk (by dsimp only; omega)⟩
  obtain ⟨B1, q1, q2, q3⟩ := r_readL (L := L) (s := s) 58 (by omega) m1 s3 s1 t3 t1 (fun i hi => (t4 i hi).2.1) tz tz 0 9999999 0 0 0 0 (fun _ => 0) B none none none (Nat.le_refl _) (by omega) (by omega) hv0 (by omega) rfl (Or.inl rfl) (fun k hk => by omega) (fun i hi => (t4 i hi).2.2.2)
  have p1' : ∀ t, zC 59 52 [.ref 17, .int (nI s)] (hC I A, t) = some (some (.int (rsC (rnT s tc tz 0 (0, (fun _ => 0), 0, 0)))), (hC I1 A1, t)) := fun t => (e_X7_read 58 I A t (nI s)).trans (p1 t)
  have q1' : ∀ t, zC 59 147 [.ref 1000] (t, hM J B L) = some (some (.int (rsM (rnT s tc tz 0 (0, (fun _ => 0), 0, 0)))), (t, hM J B1 L)) := fun t => by
    rw [e_X10_reads, F1, e_X10_reads_at4]
    exact q1 t
  have hok := rnT_ok (c := tc) s3 tz 0 _ hv0
  have hp2 : ∀ c, c < 1703 → I1 c = I c := fun c hc => by rw [p2 c hc, upd_ne (by omega), upd_ne (by omega), upd_ne (by omega)]
  generalize rnT s tc tz 0 (0, (fun _ => 0), 0, 0) = R at p1' q1' hok p4 q3
  simp only [c1, p1', pn_c1, F1, e_X9_words_at14] at e1
  simp only [q1', pn_c1, F1, e_X10_words_at4] at e2
  -- the tape is empty behind it
  have hR0 : Rel (upd I1 1701 0) A1 (upd J 12 0) B1 := by
    refine Rel_new hh hv (cB_fr hc ((upd_ne (by omega)).trans (hp2 _ (by omega))) ((upd_ne (by omega)).trans (hp2 _ (by omega))) ((upd_ne (by omega)).trans (hp2 _ (by omega))) ((upd_ne (by omega)).trans (hp2 _ (by omega))) ((upd_ne (by omega)).trans (hp2 _ (by omega))) (p3 _ (by omega)) (p3 _ (by omega)) (p3 _ (by omega)) (p3 _ (by omega)) (p3 _ (by omega)) (p3 _ (by omega))) (mB_fr hm (upd_ne (by omega)) (upd_ne (by omega)) (upd_ne (by omega)) (upd_ne (by omega)) (upd_ne (by omega)) (q2 _ (by omega)) (q2 _ (by omega)) (q2 _ (by omega)) (q2 _ (by omega)) (q2 _ (by omega)) (q2 _ (by omega))) ⟨0, tc, by omega, upd_eq, upd_eq, fun i hi => by omega⟩ ((upd_ne (by omega)).trans (hp2 _ (by omega))) ((upd_ne (by omega)).trans (hp2 _ (by omega))) (fun c h1 h2 => (upd_ne (by omega)).trans (hp2 _ (by omega))) (fun c h1 h2 h3 h4 => p3 c h4) (upd_ne (by omega)) (upd_ne (by omega)) (fun c h1 h2 => q2 c (by omega))
  cases R with
  | inl P =>
    have hP := hok.1 P rfl
    have np : ¬ rsC (.inl P) = -1 := fun e => by
      have := congrArg Int32.toInt (show nI P = -1 from e)
      rw [nI_toInt (by omega)] at this
      have e1 : (-1 : Int32).toInt = -1 := rfl
      omega
    have nn : ¬ (0 : Int32) ≤ rsM (.inl P) := by
      show ¬ (0 : Int32) ≤ -100 - nI P
      intro q
      have := Int32.le_iff_toInt_le.mp q
      rw [show (-100 : Int32) - nI P = -(nI (100 + P)) by rw [← nI_add, show nI 100 = 100 from rfl, Int32.neg_add, Int32.sub_eq_add_neg], sb_negT (by omega)] at this
      have e0 : (0 : Int32).toInt = 0 := rfl
      omega
    simp only [pn_f np] at e1
    simp only [pn_f nn] at e2
    exact ⟨_, _, _, _, _, _, e1, e2, hR0⟩
  | inr Q =>
    obtain ⟨M, T⟩ := Q
    obtain ⟨hM1, hMT⟩ := hok.2 M T rfl
    obtain ⟨g1, g2⟩ := p4 M T rfl
    have g3 := q3 M T rfl
    have nn : (0 : Int32) ≤ nI M := nI_pos' (by omega)
    simp only [pn_t (show rsC (.inr (M, T)) = -1 from rfl), upd_ne (show 102 ≠ 1701 by decide), upd_ne (show 1703 ≠ 1701 by decide), hp2 102 (by decide), c2, g1, nI_add] at e1
    simp only [pn_t nn, upd_ne (show 2 ≠ 12 by decide), m2, show rsM (.inr (M, T)) = nI M from rfl, nI_add] at e2
    by_cases c6 : n + M ≤ 6
    · simp only [pn_t (show nI (n + M) ≤ (6 : Int32) from nI_le (b := 6) c6 (by decide))] at e1 e2
      obtain ⟨I', A', u1, u2, u3, u4, u5, u6⟩ := c_wordsL (x1 := -1) 59 (by omega) c6 M 0 9999999 (upd I1 1701 0) A1 (by omega) (by omega) ((upd_ne (by decide)).trans ((hp2 102 (by decide)).trans c2)) ((upd_ne (by decide)).trans g1) (fun k hk => g2 k hk (by omega))
      obtain ⟨J', B', y1, y2, y3, y4, y5, y6⟩ := r_wordsL (L := L) 59 c6 M 0 9999999 (upd J 12 0) B1 (by omega) (by omega) ((upd_ne (by decide)).trans m2) (fun k hk => g3 k hk (by omega))
      have u1' : ∀ t, zR 59 9999999 78 58 [some (.ref 0), some (.int (-1)), some (.int 0)] [] (hC (upd I1 1701 0) A1, t) = _ := u1
      have y1' : ∀ t, zR 59 9999999 148 32 [some (.ref 1000), some (.int (nI M)), some (.int 0)] [] (t, hM (upd J 12 0) B1 L) = _ := y1
      have hI : ∀ c, c < 1701 → c ≠ 102 → I' c = I c := fun c h1 h2 => by rw [u2 c h2, upd_ne (by omega), hp2 c (by omega)]
      have hA : ∀ c, c ≠ 2 → c ≠ 19 → A' c = A c := fun c h1 h2 => by rw [u4 c h1, p3 c h2]
      have hJ : ∀ c, c ≠ 2 → c ≠ 12 → J' c = J c := fun c h1 h2 => by rw [y2 c h1, upd_ne h2]
      have hB : ∀ c, c ≠ 1 → c ≠ 12 → B' c = B c := fun c h1 h2 => by rw [y4 c h1, q2 c h2]
      refine ⟨_, _, _, _, _, _, fun t => (e1 t).trans (u1' t), fun t => (e2 t).trans (y1' t), Rel_new (b' := (s, (n + M, fun k => if k < n then w k else T (k - n)), (z, l), (p, k, o), (r, a, v))) hh ⟨v1, ⟨c6, fun k hk => ?_⟩, ⟨z40, vl⟩, ⟨v4.1, fun i hi => ⟨(v4.2 i hi).1, by have := (v4.2 i hi).2; omega⟩⟩, v5⟩ ⟨(hI 100 (by decide) (by decide)).trans c1, ⟨u3, fun k hk => ?_⟩, ⟨(hI 301 (by decide) (by decide)).trans c3, fun i hi => (congrFun (hA 4 (by decide) (by decide)) i).trans (cl i hi)⟩, ⟨(hI 106 (by decide) (by decide)).trans c4, fun i hi => ⟨(congrFun (hA 5 (by decide) (by decide)) i).trans (cp i hi).1, (congrFun (hA 6 (by decide) (by decide)) i).trans (cp i hi).2⟩⟩, ⟨(hI 109 (by decide) (by decide)).trans c5, fun i hi => ⟨(congrFun (hA 7 (by decide) (by decide)) i).trans (cr i hi).1, (congrFun (hA 8 (by decide) (by decide)) i).trans (cr i hi).2⟩⟩⟩ ⟨(hJ 0 (by decide) (by decide)).trans m1, ⟨y3, fun k hk => ?_⟩, ⟨(hJ 4 (by decide) (by decide)).trans m3, fun i hi => (congrFun (hB 2 (by decide) (by decide)) i).trans (ml i hi)⟩, ⟨(hJ 7 (by decide) (by decide)).trans m4, fun i hi => ⟨(congrFun (hB 3 (by decide) (by decide)) i).trans (mp i hi).1, (congrFun (hB 4 (by decide) (by decide)) i).trans (mp i hi).2⟩⟩, ⟨(hJ 10 (by decide) (by decide)).trans m5, fun i hi => ⟨(congrFun (hB 5 (by decide) (by decide)) i).trans (mr i hi).1, (congrFun (hB 6 (by decide) (by decide)) i).trans (mr i hi).2⟩⟩⟩ ⟨0, tc, by omega, (u2 1701 (by decide)).trans upd_eq, (y2 12 (by decide)).trans upd_eq, fun i hi => by omega⟩ (hI 2 (by decide) (by decide)) (hI 5 (by decide) (by decide)) (fun c h1 h2 => hI c (by omega) (by omega)) (fun c h1 h2 h3 h4 => hA c (by omega) h4) (hJ 14 (by decide) (by decide)) (hJ 18 (by decide) (by decide)) (fun c h1 h2 => hB c (by omega) (by omega))⟩
      · dsimp only
        by_cases e : k < n
        · rw [if_pos e]; exact vw k e
        · rw [if_neg e]; exact hMT _ (by omega)
      · show A' 2 k = nI (if k < n then w k else T (k - n))
        by_cases e : k < n
        · rw [if_pos e, u5 k (by omega), p3 2 (by decide)]; exact cw k e
        · rw [if_neg e]
          have := u6 (k - n) (by omega) (by omega)
          rw [show n + (k - n) = k by omega] at this
          exact this
      · show B' 1 k = nI (if k < n then w k else T (k - n))
        by_cases e : k < n
        · rw [if_pos e, y5 k (by omega), q2 1 (by decide)]; exact mw k e
        · rw [if_neg e]
          have := y6 (k - n) (by omega) (by omega)
          rw [show n + (k - n) = k by omega] at this
          exact this
    · simp only [pn_f (show ¬ nI (n + M) ≤ (6 : Int32) from nI_ge (a := 6) (by omega) (by omega))] at e1 e2
      exact ⟨_, _, _, _, _, _, e1, e2, hR0⟩
end WS
