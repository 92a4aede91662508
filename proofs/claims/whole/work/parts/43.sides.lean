/-! sides -/
def thd : Nat → Nat → Bool
  | 0, _ => false
  | g + 1, v => if v = 0 then false else if v % 10 = 3 then true else thd g (v / 10)
theorem thd_ok {s : Nat} (hs : s ≤ 3) : ∀ g v : Nat, okd s g v = true → okd 2 g v = !thd g v
  | 0, v, _ => rfl
  | g + 1, v, h => by
    simp only [okd, thd] at h ⊢
    by_cases h0 : v = 0
    · rw [if_pos h0, if_pos h0]; rfl
    · rw [if_neg h0] at h ⊢
      rw [if_neg h0]
      by_cases h1 : 1 ≤ v % 10 ∧ v % 10 ≤ s
      · rw [if_pos h1] at h
        by_cases h3 : v % 10 = 3
        · rw [if_pos h3, if_neg (by omega)]; rfl
        · rw [if_neg h3, if_pos (by omega)]
          exact thd_ok hs g (v / 10) h
      · rw [if_neg h1] at h; cases h
theorem okw_lt {s w : Nat} (h : okw s w = true) : 1 ≤ w ∧ w < 100000 := by
  unfold okw at h
  simp only [Bool.and_eq_true, decide_eq_true_eq] at h
  exact ⟨h.1, h.2.1⟩
theorem okw_d {s w : Nat} (h : okw s w = true) : okd s 10 w = true := by
  unfold okw at h
  simp only [Bool.and_eq_true, decide_eq_true_eq] at h
  exact h.2.2
theorem thd_okw {s w : Nat} (hs : s ≤ 3) (h : okw s w = true) : okw 2 w = !thd 10 w := by
  have h1 := okw_lt h
  unfold okw
  rw [decide_eq_true h1.1, decide_eq_true h1.2, thd_ok hs 10 w (okw_d h)]
  rfl
theorem okd_mono2 {s s' : Nat} (hs : s ≤ s') : ∀ g v : Nat, okd s g v = true → okd s' g v = true
  | 0, v, _ => rfl
  | g + 1, v, h => by
    simp only [okd] at h ⊢
    by_cases h0 : v = 0
    · rw [if_pos h0]
    · rw [if_neg h0] at h ⊢
      by_cases h1 : 1 ≤ v % 10 ∧ v % 10 ≤ s
      · rw [if_pos h1] at h
        rw [if_pos (by omega)]
        exact okd_mono2 hs g (v / 10) h
      · rw [if_neg h1] at h; cases h
theorem okw_mono {s s' w : Nat} (hs : s ≤ s') (h : okw s w = true) : okw s' w = true := by
  have h1 := okw_lt h
  unfold okw
  rw [decide_eq_true h1.1, decide_eq_true h1.2, okd_mono2 hs 10 w (okw_d h)]
  rfl
theorem r_thirdLoop (d : Nat) (h : zm_H) (a : Int32) : ∀ (g f v : Nat), g < f → v < 2 ^ 31 → v < 10 ^ g → zR d f 132 2 [some (.int a), some (.int (nI v))] [] h = some (some (.int (b01 (thd g v))), h) := by
  intro g
  induction g with
  | zero =>
    intro f v hf hv h10
    obtain ⟨f, rfl⟩ : ∃ e, f = e + 1 := ⟨f - 1, by omega⟩
    have : v = 0 := by omega
    subst this
    rw [e_X10_hasThird_at2]
    rfl
  | succ g ih =>
    intro f v hf hv h10
    obtain ⟨f, rfl⟩ : ∃ e, f = e + 1 := ⟨f - 1, by omega⟩
    rw [e_X10_hasThird_at2, show (0 : Int32) = nI 0 from rfl, pn_le hv (by decide)]
    simp only [thd]
    by_cases h0 : v = 0
    · rw [pn_t (by omega), if_pos h0]; rfl
    · rw [pn_f (by omega), if_neg h0, show (10 : Int32) = nI 10 from rfl, pk_rem hv (by decide) (by decide), show (3 : Int32) = nI 3 from rfl, pn_ne (by omega) (by decide), pk_div hv (by decide) (by decide)]
      by_cases h3 : v % 10 = 3
      · rw [pn_f (by simpa using h3), if_pos h3]; rfl
      · rw [pn_t h3, if_neg h3, ih f (v / 10) (by omega) (by omega) (by rw [Nat.pow_succ] at h10; omega)]
theorem r_third {d : Nat} (hd : 1 ≤ d) (h : zm_H) {w : Nat} (hw : w < 100000) : zC d 132 [.int (nI w)] h = some (some (.int (b01 (thd 10 w))), h) := by
  obtain ⟨d, rfl⟩ : ∃ e, d = e + 1 := ⟨d - 1, by omega⟩
  rw [e_X10_hasThird, r_thirdLoop d h _ 10 10000000 w (by omega) (by omega) (by omega)]
/-- some of f below n (from i on, j of them) -/
def anyb (f : Nat → Bool) : Nat → Nat → Bool
  | 0, _ => false
  | j + 1, i => if f i then true else anyb f j (i + 1)
theorem anyb_iff (f : Nat → Bool) : ∀ j i : Nat, anyb f j i = true ↔ ∃ m, i ≤ m ∧ m < i + j ∧ f m = true
  | 0, i => by simp only [anyb]; constructor
               · intro h; cases h
               · rintro ⟨m, h1, h2, -⟩; omega
  | j + 1, i => by
    simp only [anyb]
    by_cases h : f i = true
    · rw [if_pos h]; exact ⟨fun _ => ⟨i, Nat.le_refl _, by omega, h⟩, fun _ => rfl⟩
    · rw [if_neg h, anyb_iff f j (i + 1)]
      constructor
      · rintro ⟨m, h1, h2, h3⟩; exact ⟨m, by omega, by omega, h3⟩
      · rintro ⟨m, h1, h2, h3⟩
        refine ⟨m, ?_, by omega, h3⟩
        rcases Nat.lt_or_ge i m with q | q
        · exact q
        · exact absurd (by rw [show i = m by omega]; exact h3) h
section SD
variable {I : Nat → Int32} {A : Nat → Nat → Int32} {J : Nat → Int32} {B : Nat → Nat → Int32} {L : Nat → Nat → Int64} {t : List zm_E}
theorem c_letterAt {d n j : Nat} (hd : 2 ≤ d) (hn : I 301 = nI n) (hn6 : n ≤ 40) (hj : j < n) : zC d 44 [.ref 3, .int (nI j)] (hC I A, t) = some (some (.int (A 4 j)), (hC I A, t)) := by
  obtain ⟨d, rfl⟩ : ∃ e, d = e + 1 := ⟨d - 1, by omega⟩
  rw [e_X6_letterAt_3, c_hp1 (by omega) hn hn6 hj, pn_c1, F1, e_X6_letterAt_3_at5, d_10, cond_false, pn_in (by omega) (by decide), cond_true, pn_cl (by omega)]
theorem c_thirdS (d : Nat) (hd : 2 ≤ d) {z : Nat} {l : Nat → Nat} (hz : I 301 = nI z) (z40 : z ≤ 40) (hl : ∀ i, i < z → A 4 i = nI (l i) ∧ l i < 2 ^ 31) : ∀ (j i f : Nat), i + j = z → j < f → zR d f 5 32 [some (.ref 1), some (.int (nI i))] [] (hC I A, t) = some (some (.int (b01 (anyb (fun i => decide (l i = 3)) j i))), (hC I A, t)) := by
  intro j
  induction j with
  | zero =>
    intro i f hi hf
    obtain ⟨f, rfl⟩ : ∃ e, f = e + 1 := ⟨f - 1, by omega⟩
    rw [e_X0_hasThirdLetter_at32, hz, pn_t (nI_le (by omega) (by omega))]
    rfl
  | succ j ih =>
    intro i f hi hf
    obtain ⟨f, rfl⟩ : ∃ e, f = e + 1 := ⟨f - 1, by omega⟩
    rw [e_X0_hasThirdLetter_at32, hz, pn_f (nI_ge (by omega) (by omega)), c_letterAt hd hz z40 (by omega), pn_c1, (hl i (by omega)).1, show (3 : Int32) = nI 3 from rfl, pn_ne (hl i (by omega)).2 (by decide)]
    simp only [anyb]
    by_cases h3 : l i = 3
    · rw [pn_f (by simpa using h3), if_pos (by simpa using h3)]; rfl
    · rw [pn_t h3, if_neg (by simpa using h3), nI_1, ih (i + 1) f (by omega) (by omega)]
theorem c_thirdW (d : Nat) (hd : 3 ≤ d) {s n z : Nat} {w l : Nat → Nat} (hs : s ≤ 3) (hn : I 102 = nI n) (n6 : n ≤ 6) (hw : ∀ i, i < n → A 2 i = nI (w i) ∧ okw s (w i) = true) (hz : I 301 = nI z) (z40 : z ≤ 40) (hl : ∀ i, i < z → A 4 i = nI (l i) ∧ l i < 2 ^ 31) : ∀ (j i f : Nat), i + j = n → j + z + 1 < f → zR d f 5 2 [some (.ref 1), some (.int (nI i))] [] (hC I A, t) = some (some (.int (b01 (anyb (fun i => thd 10 (w i)) j i || anyb (fun i => decide (l i = 3)) z 0))), (hC I A, t)) := by
  intro j
  induction j with
  | zero =>
    intro i f hi hf
    obtain ⟨f, rfl⟩ : ∃ e, f = e + 1 := ⟨f - 1, by omega⟩
    rw [e_X0_hasThirdLetter_at2, hn, pn_t (nI_le (by omega) (by omega)), show (0 : Int32) = nI 0 from rfl, c_thirdS d (by omega) hz z40 hl z 0 f (by omega) (by omega)]
    rfl
  | succ j ih =>
    intro i f hi hf
    obtain ⟨f, rfl⟩ : ∃ e, f = e + 1 := ⟨f - 1, by omega⟩
    have hwi := hw i (by omega)
    have hlt := okw_lt hwi.2
    rw [e_X0_hasThirdLetter_at2, hn, pn_f (nI_ge (by omega) (by omega)), c_wa (by omega) hn n6 (by omega), pn_c1, hwi.1, show (2 : Int32) = nI 2 from rfl, s_isWord (by omega) _ _ (by decide), pn_c1]
    rw [show decide (0 < nI (w i)) = true from decide_eq_true (nI_lt (a := 0) hlt.1 (by omega)), nI_clamp (by omega), thd_okw hs hwi.2]
    simp only [anyb]
    by_cases h3 : thd 10 (w i) = true
    · rw [if_pos h3, h3]; rfl
    · rw [Bool.not_eq_true] at h3
      rw [if_neg (by rw [h3]; decide), h3, show b01 (true && !false) = 1 from rfl, d_n10, cond_true, nI_1, ih (i + 1) f (by omega) (by omega)]
theorem c_third {d : Nat} (hd : 4 ≤ d) {s n z : Nat} {w l : Nat → Nat} (hs : s ≤ 3) (hn : I 102 = nI n) (n6 : n ≤ 6) (hw : ∀ i, i < n → A 2 i = nI (w i) ∧ okw s (w i) = true) (hz : I 301 = nI z) (z40 : z ≤ 40) (hl : ∀ i, i < z → A 4 i = nI (l i) ∧ l i < 2 ^ 31) : zC d 5 [.ref 1] (hC I A, t) = some (some (.int (b01 (anyb (fun i => thd 10 (w i)) n 0 || anyb (fun i => decide (l i = 3)) z 0))), (hC I A, t)) := by
  obtain ⟨d, rfl⟩ : ∃ e, d = e + 1 := ⟨d - 1, by omega⟩
  rw [e_X0_hasThirdLetter, show (0 : Int32) = nI 0 from rfl, c_thirdW d (by omega) hs hn n6 hw hz z40 hl n 0 10000000 (by omega) (by omega)]
theorem r_sideS (d : Nat) {z : Nat} {l : Nat → Nat} {x : Int32} (hz : J 4 = nI z) (z40 : z ≤ 40) (hl : ∀ i, i < z → B 2 i = nI (l i) ∧ l i < 2 ^ 31) : ∀ (j i f : Nat), i + j = z → j < f → zR d f 144 50 [some (.ref 1000), some (.int x), some (.int (nI i))] [] (t, hM J B L) = bif anyb (fun i => decide (l i = 3)) j i then some (some (.int (-3)), (t, hM J B L)) else some (some (.int (J 0)), (t, hM (upd J 0 x) B L)) := by
  intro j
  induction j with
  | zero =>
    intro i f hi hf
    obtain ⟨f, rfl⟩ : ∃ e, f = e + 1 := ⟨f - 1, by omega⟩
    rw [e_X10_sides_at50, hz, pn_t (nI_le (by omega) (by omega))]
    rfl
  | succ j ih =>
    intro i f hi hf
    obtain ⟨f, rfl⟩ : ∃ e, f = e + 1 := ⟨f - 1, by omega⟩
    rw [e_X10_sides_at50, hz, pn_f (nI_ge (by omega) (by omega)), pn_in (by omega) (by decide), cond_true, pn_cl (by omega), (hl i (by omega)).1, show (3 : Int32) = nI 3 from rfl, pn_ne (hl i (by omega)).2 (by decide)]
    simp only [anyb]
    by_cases h3 : l i = 3
    · rw [pn_f (by simpa using h3), if_pos (show decide (l i = 3) = true by simpa using h3)]; rfl
    · rw [pn_t h3, if_neg (show ¬ decide (l i = 3) = true by simpa using h3), nI_1, ih (i + 1) f (by omega) (by omega)]
      rfl
theorem r_sideW (d : Nat) (hd : 1 ≤ d) {s n z : Nat} {w l : Nat → Nat} {x : Int32} (hn : J 2 = nI n) (n6 : n ≤ 6) (hw : ∀ i, i < n → B 1 i = nI (w i) ∧ okw s (w i) = true) (hz : J 4 = nI z) (z40 : z ≤ 40) (hl : ∀ i, i < z → B 2 i = nI (l i) ∧ l i < 2 ^ 31) : ∀ (j i f : Nat), i + j = n → j + z + 1 < f → zR d f 144 19 [some (.ref 1000), some (.int x), some (.int (nI i))] [] (t, hM J B L) = bif (anyb (fun i => thd 10 (w i)) j i || anyb (fun i => decide (l i = 3)) z 0) then some (some (.int (-3)), (t, hM J B L)) else some (some (.int (J 0)), (t, hM (upd J 0 x) B L)) := by
  intro j
  induction j with
  | zero =>
    intro i f hi hf
    obtain ⟨f, rfl⟩ : ∃ e, f = e + 1 := ⟨f - 1, by omega⟩
    rw [e_X10_sides_at19, hn, pn_t (nI_le (by omega) (by omega)), show (0 : Int32) = nI 0 from rfl, r_sideS d hz z40 hl z 0 f (by omega) (by omega)]
    rfl
  | succ j ih =>
    intro i f hi hf
    obtain ⟨f, rfl⟩ : ∃ e, f = e + 1 := ⟨f - 1, by omega⟩
    have hwi := hw i (by omega)
    have hlt := okw_lt hwi.2
    rw [e_X10_sides_at19, hn, pn_f (nI_ge (by omega) (by omega)), pn_in (by omega) (by decide), cond_true, pn_cl (by omega), hwi.1, r_third hd _ hlt.2, pn_c1]
    simp only [anyb]
    by_cases h3 : thd 10 (w i) = true
    · rw [if_pos h3, h3]; rfl
    · rw [Bool.not_eq_true] at h3
      rw [if_neg (by rw [h3]; decide), h3, b01_f, d_00, cond_true, nI_1, ih (i + 1) f (by omega) (by omega)]
theorem P_sides (h : Rel I A J B) (x : Int32) : Ans 76 144 [.int x] I A J B L := by
  have hh := h
  obtain ⟨⟨⟨s, ⟨n, w⟩, ⟨z, l⟩, ⟨p, k, o⟩, ⟨r, a, v⟩⟩, hv, hc, hm⟩, hR⟩ := h
  have hv' := hv
  obtain ⟨v1, ⟨n6, vw⟩, ⟨z40, vl⟩, v4, v5⟩ := hv'
  obtain ⟨c1, ⟨c2, cw⟩, ⟨c3, cl⟩, c4, c5⟩ := id hc
  obtain ⟨m1, ⟨m2, mw⟩, ⟨m3, ml⟩, m4, m5⟩ := id hm
  have s3 : s ≤ 3 := by omega
  have e1 := fun t => e_X9_sides 59 I A t x
  have e2 := fun t => e_X10_sides 59 J B L t x
  simp only [r_in (show 1 ≤ 59 by omega), pn_c1, F1, e_X10_sides_at6] at e2
  have hWc : ∀ i, i < n → A 2 i = nI (w i) ∧ okw s (w i) = true := fun i hi => ⟨cw i hi, vw i hi⟩
  have hLc : ∀ i, i < z → A 4 i = nI (l i) ∧ l i < 2 ^ 31 := fun i hi => ⟨cl i hi, by have := vl i hi; omega⟩
  have hWm : ∀ i, i < n → B 1 i = nI (w i) ∧ okw s (w i) = true := fun i hi => ⟨mw i hi, vw i hi⟩
  have hLm : ∀ i, i < z → B 2 i = nI (l i) ∧ l i < 2 ^ 31 := fun i hi => ⟨ml i hi, by have := vl i hi; omega⟩
  by_cases x2 : x = 2
  · subst x2
    simp only [show decide ((2 : Int32) = 2) = true from rfl, cond_true, show decide (¬ (2 : Int32) = 2) = false from rfl, cond_false] at e1
    simp only [show decide ((2 : Int32) ≤ 2 ∧ (2 : Int32) ≤ 3) = true from rfl, b01_t, d_n10, cond_true, show decide (¬ (2 : Int32) = 2) = false from rfl, cond_false] at e2
    have g1 := fun t => c_third (d := 59) (t := t) (by omega) s3 c2 n6 hWc c3 z40 hLc
    have g2 := fun t => r_sideW (L := L) (x := 2) (t := t) 59 (by omega) m2 n6 hWm m3 z40 hLm n 0 9999999 (by omega) (by omega)
    simp only [g1, pn_c1, F1, e_X9_sides_at25] at e1
    rw [show (0 : Int32) = nI 0 from rfl] at e2
    simp only [g2] at e2
    cases hb : (anyb (fun i => thd 10 (w i)) n 0 || anyb (fun i => decide (l i = 3)) z 0) with
    | true =>
      simp only [hb, b01_t, d_10, cond_false] at e1
      simp only [hb, cond_true] at e2
      exact ⟨_, _, _, _, _, _, e1, e2, hh⟩
    | false =>
      simp only [hb, b01_f, d_00, cond_true, show I 100 = nI s from c1] at e1
      simp only [hb, m1, cond_false] at e2
      rw [Bool.or_eq_false_iff] at hb
      refine ⟨_, _, _, _, _, _, e1, e2, ⟨(2, (n, w), (z, l), (p, k, o), (r, a, v)), ⟨Or.inl rfl, ⟨n6, fun i hi => ?_⟩, ⟨z40, fun i hi => ?_⟩, v4, v5⟩, ⟨rfl, ⟨c2, cw⟩, ⟨c3, cl⟩, c4, c5⟩, ⟨rfl, ⟨m2, mw⟩, ⟨m3, ml⟩, m4, m5⟩⟩, hR⟩
      · rw [thd_okw s3 (vw i hi)]
        cases h3 : thd 10 (w i) with
        | false => rfl
        | true =>
          have := (anyb_iff (fun i => thd 10 (w i)) n 0).mpr ⟨i, by omega, by omega, h3⟩
          rw [hb.1] at this
          cases this
      · have h1 := vl i hi
        refine ⟨h1.1, ?_⟩
        rcases Nat.lt_or_ge 2 (l i) with q | q
        · have := (anyb_iff (fun i => decide (l i = 3)) z 0).mpr ⟨i, by omega, by omega, decide_eq_true (by omega)⟩
          rw [hb.2] at this
          cases this
        · exact q
  · by_cases x3 : x = 3
    · subst x3
      simp only [show decide ((3 : Int32) = 2) = false from rfl, cond_false, show decide ((3 : Int32) = 3) = true from rfl, cond_true, show decide (¬ (3 : Int32) = 2) = true from rfl, show I 100 = nI s from c1] at e1
      simp only [show decide ((2 : Int32) ≤ 3 ∧ (3 : Int32) ≤ 3) = true from rfl, b01_t, d_n10, cond_true, show decide (¬ (3 : Int32) = 2) = true from rfl, m1] at e2
      exact ⟨_, _, _, _, _, _, e1, e2, ⟨(3, (n, w), (z, l), (p, k, o), (r, a, v)), ⟨Or.inr rfl, ⟨n6, fun i hi => okw_mono s3 (vw i hi)⟩, ⟨z40, fun i hi => by have := vl i hi; omega⟩, v4, v5⟩, ⟨rfl, ⟨c2, cw⟩, ⟨c3, cl⟩, c4, c5⟩, ⟨rfl, ⟨m2, mw⟩, ⟨m3, ml⟩, m4, m5⟩⟩, hR⟩
    · simp only [pn_f x2, pn_f x3] at e1
      have g : decide ((2 : Int32) ≤ x ∧ x ≤ 3) = false := decide_eq_false (fun q => by
        have g1 := Int32.le_iff_toInt_le.mp q.1
        have g2 := Int32.le_iff_toInt_le.mp q.2
        have q2 : (2 : Int32).toInt = 2 := rfl
        have q3 : (3 : Int32).toInt = 3 := rfl
        have : x.toInt = 2 ∨ x.toInt = 3 := by omega
        rcases this with e | e
        · exact x2 (Int32.toInt_inj.mp (by rw [e]; rfl))
        · exact x3 (Int32.toInt_inj.mp (by rw [e]; rfl)))
      simp only [g, b01_f, d_n00, cond_false] at e2
      exact ⟨_, _, _, _, _, _, e1, e2, hh⟩
end SD
