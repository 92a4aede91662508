/-! judge; casts; duel; odds -/
def jdg (E D : Nat → Int32) : Nat → Nat → Int32
  | 0, _ => -5
  | j + 1, i => if E i = D i then jdg E D j (i + 1) else nI i
section JU
variable {I : Nat → Int32} {A : Nat → Nat → Int32} {J : Nat → Int32} {B : Nat → Nat → Int32} {L : Nat → Nat → Int64} {t : List zm_E} {l w : Nat → Nat} {n z : Nat}
theorem c_judge47 (d f : Nat) {q : Nat} (hq : q < 4) (x2 s0 : Int32) (o3 : Option Value) : zR d (f + 1) 109 47 [some (.ref 0), some (.int (nI q)), some (.int x2), o3] [(.int s0)] (hC I A, t) = (bif decide (s0 = 0) then (bif zm_in x2 12 then (bif decide ((A (22 + q) (Int32.toNatClampNeg x2)) = (-5)) then (zR d f 109 23 [some (.ref 0), some (.int (nI q)), some (.int (x2 + 1)), some (.int (-5))] [] (hC I A, t)) else some (some (.int x2), (hC I A, t))) else none) else zm_c1 (zC d 3 [(.ref 1), (.int x2)] (hC I A, t)) fun v2 h1 => zm_c1 (zC d 49 [(.ref 3), (.int v2)] h1) fun v4 h3 => zR d f 109 68 [some (.ref 0), some (.int (nI q)), some (.int x2), o3] [(.int v4)] h3) := by
  have hc : q = 0 ∨ q = 1 ∨ q = 2 ∨ q = 3 := by omega
  rcases hc with rfl | rfl | rfl | rfl
  · exact e_X9_judge_at47_10 d f I A t x2 o3 s0
  · exact e_X9_judge_at47_11 d f I A t x2 o3 s0
  · exact e_X9_judge_at47_12 d f I A t x2 o3 s0
  · exact e_X9_judge_at47_13 d f I A t x2 o3 s0
theorem c_judge68 (d f : Nat) {q : Nat} (hq : q < 4) (x2 s0 : Int32) (o3 : Option Value) : zR d (f + 1) 109 68 [some (.ref 0), some (.int (nI q)), some (.int x2), o3] [(.int s0)] (hC I A, t) = (bif zm_in x2 12 then (bif decide ((A (22 + q) (Int32.toNatClampNeg x2)) = s0) then (zR d f 109 23 [some (.ref 0), some (.int (nI q)), some (.int (x2 + 1)), some (.int s0)] [] (hC I A, t)) else some (some (.int x2), (hC I A, t))) else none) := by
  have hc : q = 0 ∨ q = 1 ∨ q = 2 ∨ q = 3 := by omega
  rcases hc with rfl | rfl | rfl | rfl
  · exact e_X9_judge_at68_10 d f I A t x2 o3 s0
  · exact e_X9_judge_at68_11 d f I A t x2 o3 s0
  · exact e_X9_judge_at68_12 d f I A t x2 o3 s0
  · exact e_X9_judge_at68_13 d f I A t x2 o3 s0
/-- what is due at a place -/
def dueF (l w : Nat → Nat) (n z : Nat) (i : Nat) : Int32 := if i < n then oI (fo l (w i) z 0) else -5
theorem c_judgeL (d : Nat) (hd : 4 ≤ d) {q m s : Nat} (hq : q < 4) (hm : A 26 q = nI m) (m12 : m ≤ 12) (hn : I 102 = nI n) (n6 : n ≤ 6) (hw : ∀ i, i < n → A 2 i = nI (w i) ∧ okw s (w i) = true) (hz : I 301 = nI z) (z40 : z ≤ 40) (hl : ∀ i, i < z → A 4 i = nI (l i) ∧ l i < 10) : ∀ (j i f : Nat) (o3 : Option Value), i + j = m → 4 * j < f → zR d f 109 23 [some (.ref 0), some (.int (nI q)), some (.int (nI i)), o3] [] (hC I A, t) = some (some (.int (jdg (A (22 + q)) (dueF l w n z) j i)), (hC I A, t)) := by
  intro j
  induction j with
  | zero =>
    intro i f o3 hi hf
    obtain ⟨f, rfl⟩ : ∃ e, f = e + 1 := ⟨f - 1, by omega⟩
    rw [e_X9_judge_at23, pn_in hq (by decide), cond_true, pn_cl (by omega), hm, pn_t (nI_le (by omega) (by omega))]
    rfl
  | succ j ih =>
    intro i f o3 hi hf
    obtain ⟨f, rfl⟩ : ∃ e, f = e + 1 + 1 + 1 := ⟨f - 3, by omega⟩
    rw [e_X9_judge_at23, pn_in hq (by decide), cond_true, pn_cl (by omega), hm, pn_f (nI_ge (by omega) (by omega)), pn_f (show ¬ (12 : Int32) ≤ nI i from nI_ge (b := 12) (by omega) (by decide))]
    simp only [jdg]
    by_cases c : i < n
    · have du : dueF l w n z i = oI (fo l (w i) z 0) := if_pos c
      have hwi := hw i c
      have hlt := okw_lt hwi.2
      rw [c_hw1 (by omega) hn n6 c, pn_c1, c_judge47 d (f + 1) hq, d_10, cond_false, c_wa (by omega) hn n6 c, pn_c1, hwi.1, c_first_3 hd hz z40 hl hlt.1 hlt.2, pn_c1, c_judge68 d f hq, pn_in (show i < 12 by omega) (by decide), cond_true, pn_cl (by omega), nI_1, du]
      by_cases e : A (22 + q) i = oI (fo l (w i) z 0)
      · rw [pn_t e, if_pos e, ih (i + 1) f _ (by omega) (by omega)]
      · rw [pn_f e, if_neg e]
    · have du : dueF l w n z i = -5 := if_neg c
      rw [c_hw0 (by omega) hn (Or.inr (nI_le (by omega) (by omega))), pn_c1, c_judge47 d (f + 1) hq, d_00, cond_true, pn_in (show i < 12 by omega) (by decide), cond_true, pn_cl (by omega), nI_1, du]
      by_cases e : A (22 + q) i = -5
      · rw [pn_t e, if_pos e, ih (i + 1) (f + 1) _ (by omega) (by omega)]
      · rw [pn_f e, if_neg e]
theorem r_judgeL (d : Nat) (hd : 4 ≤ d) {q m s : Nat} (hq : q < 4) (hm : B 10 q = nI m) (m12 : m ≤ 12) (hn : J 2 = nI n) (n6 : n ≤ 6) (hw : ∀ i, i < n → B 1 i = nI (w i) ∧ okw s (w i) = true) (hz : J 4 = nI z) (z40 : z ≤ 40) (hl : ∀ i, i < z → B 2 i = nI (l i) ∧ l i < 10) : ∀ (j i f : Nat), i + j = m → j < f → zR d f 201 23 [some (.ref 1000), some (.int (nI q)), some (.int (nI i))] [] (t, hM J B L) = some (some (.int (jdg (fun i => B 9 (12 * q + i)) (dueF l w n z) j i)), (t, hM J B L)) := by
  intro j
  induction j with
  | zero =>
    intro i f hi hf
    obtain ⟨f, rfl⟩ : ∃ e, f = e + 1 := ⟨f - 1, by omega⟩
    rw [e_X10_judge_at23, pn_in hq (by decide), cond_true, pn_cl (by omega), hm, pn_t (nI_le (by omega) (by omega))]
    rfl
  | succ j ih =>
    intro i f hi hf
    obtain ⟨f, rfl⟩ : ∃ e, f = e + 1 := ⟨f - 1, by omega⟩
    rw [e_X10_judge_at23, pn_in hq (by decide), cond_true, pn_cl (show q < 2 ^ 31 by omega), hm, pn_f (nI_ge (by omega) (by omega)), l_ix, pn_in (show 12 * q + i < 48 by omega) (by decide), cond_true]
    simp only [jdg]
    by_cases c : i < n
    · have du : dueF l w n z i = oI (fo l (w i) z 0) := if_pos c
      have hwi := hw i c
      rw [r_iw1 (by omega) hn n6 c, pn_c1, d_10, cond_false, r_firstOf hd hz z40 hl (by omega) hwi.1 hwi.2, pn_c1, pn_cl (show 12 * q + i < 2 ^ 31 by omega), nI_1, du]
      by_cases e : B 9 (12 * q + i) = oI (fo l (w i) z 0)
      · rw [pn_t e, if_pos e, ih (i + 1) f (by omega) (by omega)]
      · rw [pn_f e, if_neg e]
    · have du : dueF l w n z i = -5 := if_neg c
      rw [r_iw0 (by omega) hn n6 (Or.inr (nI_le (by omega) (by omega))), pn_c1, d_00, cond_true, pn_cl (show 12 * q + i < 2 ^ 31 by omega), nI_1, du]
      by_cases e : B 9 (12 * q + i) = -5
      · rw [pn_t e, if_pos e, ih (i + 1) f (by omega) (by omega)]
      · rw [pn_f e, if_neg e]
theorem jdg_eq {E E' D : Nat → Int32} : ∀ j i, (∀ k, i ≤ k → k < i + j → E k = E' k) → jdg E D j i = jdg E' D j i
  | 0, i, _ => rfl
  | j + 1, i, h => by
    simp only [jdg]
    rw [h i (by omega) (by omega), jdg_eq j (i + 1) (fun k h1 h2 => h k (by omega) (by omega))]
theorem P_judge (h : Rel I A J B) (x : Int32) : Ans 109 201 [.int x] I A J B L := by
  have hh := h
  have hL := rL_all.mp h.2.2.2.2
  obtain ⟨⟨⟨s, ⟨n, w⟩, ⟨z, l⟩, ⟨p, k, o⟩, ⟨r, a, v⟩⟩, hv, hc, hm⟩, -⟩ := h
  have s3 : s ≤ 3 := by have := hv.1; omega
  have c2 : I 102 = nI n := hc.2.1.1
  have m2 : J 2 = nI n := hm.2.1.1
  have c3 : I 301 = nI z := hc.2.2.1.1
  have m3 : J 4 = nI z := hm.2.2.1.1
  have n6 : n ≤ 6 := hv.2.1.1
  have z40 : z ≤ 40 := hv.2.2.1.1
  have lc : ∀ i, i < z → A 4 i = nI (l i) ∧ l i < 10 := fun i hi => ⟨hc.2.2.1.2 i hi, by have := hv.2.2.1.2 i hi; omega⟩
  have lm : ∀ i, i < z → B 2 i = nI (l i) ∧ l i < 10 := fun i hi => ⟨hm.2.2.1.2 i hi, by have := hv.2.2.1.2 i hi; omega⟩
  have wc : ∀ i, i < n → A 2 i = nI (w i) ∧ okw s (w i) = true := fun i hi => ⟨hc.2.1.2 i hi, hv.2.1.2 i hi⟩
  have wm : ∀ i, i < n → B 1 i = nI (w i) ∧ okw s (w i) = true := fun i hi => ⟨hm.2.1.2 i hi, hv.2.1.2 i hi⟩
  have e1 := fun t => e_X9_judge 59 I A t x
  have e2 := fun t => e_X10_judge 59 J B L t x
  have no : ∀ q : x < 0 ∨ nI 4 ≤ x, Ans 109 201 [.int x] I A J B L := fun q => by
    simp only [c_hl0 (show 1 ≤ 59 by omega) _ q, pn_c1, F1, e_X9_judge_at4, d_n00, cond_false] at e1
    simp only [r_il0 (show 2 ≤ 59 by omega) _ q, pn_c1, F1, e_X10_judge_at4, d_n00, cond_false] at e2
    exact ⟨_, _, _, _, _, _, e1, e2, hh⟩
  rcases pk_ix x (n := 4) (by omega) with q | q | ⟨q, hq, rfl⟩
  · exact no (Or.inl q)
  · exact no (Or.inr q)
  obtain ⟨hs, hr⟩ := hL q hq
  simp only [c_hl1 (show 1 ≤ 59 by omega) _ hq, pn_c1, F1, e_X9_judge_at4, d_n10, cond_true, pn_in hq (show 4 < 2 ^ 31 by omega), pn_cl (show q < 2 ^ 31 by omega)] at e1
  simp only [r_il1 (show 2 ≤ 59 by omega) _ hq, pn_c1, F1, e_X10_judge_at4, d_n10, cond_true, pn_in hq (show 4 < 2 ^ 31 by omega), pn_cl (show q < 2 ^ 31 by omega)] at e2
  rcases hs with ⟨a1, b1⟩ | ⟨m, m12, a1, b1⟩
  · simp only [a1, pn_f (show ¬ (0 : Int32) ≤ -11 by decide)] at e1
    simp only [b1, pn_f (show ¬ (0 : Int32) ≤ -1 by decide)] at e2
    exact ⟨_, _, _, _, _, _, e1, e2, hh⟩
  · simp only [a1, pn_t (show (0 : Int32) ≤ nI m from nI_pos' (by omega))] at e1
    simp only [b1, pn_t (show (0 : Int32) ≤ nI m from nI_pos' (by omega))] at e2
    have g1 := fun t => c_judgeL (I := I) (t := t) 59 (by omega) hq a1 m12 c2 n6 wc c3 z40 lc m 0 9999999 none (by omega) (by omega)
    have g2 := fun t => r_judgeL (J := J) (L := L) (t := t) 59 (by omega) hq b1 m12 m2 n6 wm m3 z40 lm m 0 9999999 (by omega) (by omega)
    have ee : jdg (fun i => B 9 (12 * q + i)) (dueF l w n z) m 0 = jdg (A (22 + q)) (dueF l w n z) m 0 := jdg_eq m 0 (fun k _ hk => (hr k (by omega)).symm)
    rw [ee] at g2
    have g1' : ∀ t, zR 59 9999999 109 23 [some (.ref 0), some (.int (nI q)), some (.int 0), none] [] (hC I A, t) = _ := g1
    have g2' : ∀ t, zR 59 9999999 201 23 [some (.ref 1000), some (.int (nI q)), some (.int 0)] [] (t, hM J B L) = _ := g2
    exact ⟨_, _, _, _, _, _, fun t => (e1 t).trans (g1' t), fun t => (e2 t).trans (g2' t), hh⟩
/-! drawn letters -/
def nxt (x : Int32) : Int32 := x * 1103515245 + 12345
def drw (s : Nat) (x : Int32) : Nat := 1 + x.toBitVec.toNat / 65536 % s
theorem drw_ok {s : Nat} {x : Int32} (hs : 1 ≤ s) : 1 ≤ drw s x ∧ drw s x ≤ s := by
  have := Nat.mod_lt (x.toBitVec.toNat / 65536) hs
  unfold drw
  omega
theorem i_ofB {y : Int32} {m : Nat} (hm : m < 2 ^ 32) (h : y.toBitVec.toNat = m) : y = nI m := Int32.toBitVec.inj (BitVec.eq_of_toNat_eq (by rw [h, pk_tn hm]))
theorem i_u16 (x : Int32) : (x.toUInt32 >>> (Int32.toUInt32 16 &&& Int32.toUInt32 31)).toInt32 = nI (x.toBitVec.toNat / 65536) := by
  have h := pk_ushr x 16 16 (by decide)
  have hx := x.toBitVec.isLt
  exact i_ofB (by omega) h
theorem s_next {d : Nat} (hd : 1 ≤ d) (h : zm_H) (x : Int32) : zC d 17 [.int x] h = some (some (.int (nxt x)), h) := by
  obtain ⟨d, rfl⟩ : ∃ e, d = e + 1 := ⟨d - 1, by omega⟩
  rw [e_X1_nextSeed]
  rfl
theorem s_drawn {d s : Nat} (hd : 1 ≤ d) (h : zm_H) (hs : s = 2 ∨ s = 3) (x : Int32) : zC d 18 [.int x, .int (nI s)] h = some (some (.int (nI (drw s x))), h) := by
  obtain ⟨d, rfl⟩ : ∃ e, d = e + 1 := ⟨d - 1, by omega⟩
  have hx := x.toBitVec.isLt
  rw [e_X1_drawn, i_u16]
  unfold drw
  rcases hs with rfl | rfl
  · rw [pn_t (show ¬ nI 2 = 3 by decide), show (2 : Int32) = nI 2 from rfl, pk_rem (by omega) (by decide) (by decide), show (1 : Int32) = nI 1 from rfl, nI_add]
  · rw [pn_f (show ¬ ¬ nI 3 = 3 by decide), show (3 : Int32) = nI 3 from rfl, pk_rem (by omega) (by decide) (by decide), show (1 : Int32) = nI 1 from rfl, nI_add]
theorem r_drawn {d s : Nat} (hd : 1 ≤ d) (hJ : J 0 = nI s) (hs : s = 2 ∨ s = 3) (x : Int32) : zC d 170 [.ref 1000, .int x] (t, hM J B L) = some (some (.int (nI (drw s x))), (t, hM J B L)) := by
  obtain ⟨d, rfl⟩ : ∃ e, d = e + 1 := ⟨d - 1, by omega⟩
  have hx := x.toBitVec.isLt
  rw [e_X10_drawn, i_u16, hJ, pn_f (nI_ne0 (by omega) (by omega)), pk_rem (by omega) (by omega) (by omega), nI_1, Nat.add_comm]
  rfl
def csf (s : Nat) : Nat → Int32 → Nat × (Nat → Nat) → Nat × (Nat → Nat)
  | 0, _, q => q
  | j + 1, x, q => csf s j (nxt x) (if q.1 < 40 then (q.1 + 1, fun i => if i = q.1 then drw s (nxt x) else q.2 i) else q)
theorem csf_40 {s : Nat} : ∀ j x q, q.1 = 40 → csf s j x q = q
  | 0, _, _, _ => rfl
  | j + 1, x, q, h => by
    simp only [csf]
    rw [if_neg (by omega), csf_40 j _ q h]
def stC (s : Nat) (I : Nat → Int32) (A : Nat → Nat → Int32) (q : Nat × (Nat → Nat)) : Prop := I 301 = nI q.1 ∧ q.1 ≤ 40 ∧ ∀ i, i < q.1 → A 4 i = nI (q.2 i) ∧ 1 ≤ q.2 i ∧ q.2 i ≤ s
theorem c_castsL (d : Nat) (hd : 1 ≤ d) {s m : Nat} {sd : Int32} (hs : s = 2 ∨ s = 3) (hm : m ≤ 40) : ∀ (j i f : Nat) (x : Int32) (I : Nat → Int32) (A : Nat → Nat → Int32) (q : Nat × (Nat → Nat)), i + j = m → 2 * j < f → I 100 = nI s → stC s I A q → ∃ I' A', (∀ t, zR d f 92 19 [some (.ref 0), some (.int (nI m)), some (.int sd), some (.int x), some (.int (nI i))] [] (hC I A, t) = some (some (.int (nI (csf s j x q).1)), (hC I' A', t))) ∧ (∀ c, c ≠ 301 → I' c = I c) ∧ (∀ c, c ≠ 4 → A' c = A c) ∧ stC s I' A' (csf s j x q) := by
  intro j
  induction j with
  | zero =>
    intro i f x I A q hi hf c1 h
    obtain ⟨f, rfl⟩ : ∃ e, f = e + 1 := ⟨f - 1, by omega⟩
    refine ⟨I, A, fun t => ?_, fun c _ => rfl, fun c _ => rfl, h⟩
    rw [e_X9_casts_at19, pn_t (nI_le (by omega) (by omega)), h.1]
    rfl
  | succ j ih =>
    intro i f x I A q hi hf c1 h
    obtain ⟨f, rfl⟩ : ∃ e, f = e + 1 + 1 := ⟨f - 2, by omega⟩
    obtain ⟨h1, h2, h3⟩ := id h
    have hdr := drw_ok (s := s) (x := nxt x) (by omega)
    simp only [csf]
    by_cases c : q.1 < 40
    · rw [if_pos c]
      have hp : stC s (upd I 301 (nI (q.1 + 1))) (va_up A 4 (upd (A 4) q.1 (nI (drw s (nxt x))))) (q.1 + 1, fun i => if i = q.1 then drw s (nxt x) else q.2 i) := by
        refine ⟨upd_eq, by dsimp only; omega, fun i hi => ?_⟩
        dsimp only at hi ⊢
        rw [vu_eq]
        by_cases e : i = q.1
        · rw [e, upd_eq, if_pos rfl]; exact ⟨rfl, hdr⟩
        · rw [upd_ne e, if_neg e]; exact h3 i (by omega)
      obtain ⟨I', A', b1, b2, b3, b4⟩ := ih (i + 1) f (nxt x) _ _ _ (by omega) (by omega) ((upd_ne (by decide)).trans c1) hp
      refine ⟨I', A', fun t => ?_, fun c hc => by rw [b2 c hc, upd_ne hc], fun c hc => by rw [b3 c hc, vu_ne hc], b4⟩
      rw [e_X9_casts_at19, pn_f (nI_ge (by omega) (by omega)), s_next hd, pn_c1, e_X9_casts_at29, c1, s_drawn hd _ hs, pn_c1, c_app hd h1 c, pn_c1, nI_1]
      exact b1 t
    · rw [if_neg c]
      obtain ⟨I', A', b1, b2, b3, b4⟩ := ih (i + 1) f (nxt x) I A q (by omega) (by omega) c1 h
      refine ⟨I', A', fun t => ?_, b2, b3, b4⟩
      rw [e_X9_casts_at19, pn_f (nI_ge (by omega) (by omega)), s_next hd, pn_c1, e_X9_casts_at29, c1, s_drawn hd _ hs, pn_c1, c_app0 hd (by rw [h1, show q.1 = 40 by omega]), pn_c1, nI_1]
      exact b1 t
theorem r_castsL (d : Nat) (hd : 1 ≤ d) {s m : Nat} {sd : Int32} (hs : s = 2 ∨ s = 3) (hm : m ≤ 40) : ∀ (j i f : Nat) (x : Int32) (J : Nat → Int32) (B : Nat → Nat → Int32) (q : Nat × (Nat → Nat)), i + j = m → 2 * j < f → J 0 = nI s → pcM s J B q → ∃ J' B', (∀ t, zR d f 171 18 [some (.ref 1000), some (.int (nI m)), some (.int sd), some (.int x), some (.int (nI i))] [] (t, hM J B L) = some (some (.int (nI (csf s j x q).1)), (t, hM J' B' L))) ∧ (∀ c, c ≠ 4 → J' c = J c) ∧ (∀ c, c ≠ 2 → B' c = B c) ∧ pcM s J' B' (csf s j x q) := by
  intro j
  induction j with
  | zero =>
    intro i f x J B q hi hf c1 h
    obtain ⟨f, rfl⟩ : ∃ e, f = e + 1 := ⟨f - 1, by omega⟩
    refine ⟨J, B, fun t => ?_, fun c _ => rfl, fun c _ => rfl, h⟩
    rw [e_X10_casts_at18, pn_t (nI_le (by omega) (by omega)), h.1]
    rfl
  | succ j ih =>
    intro i f x J B q hi hf c1 h
    obtain ⟨f, rfl⟩ : ∃ e, f = e + 1 + 1 := ⟨f - 2, by omega⟩
    obtain ⟨h1, h2, h3⟩ := id h
    have hdr := drw_ok (s := s) (x := nxt x) (by omega)
    by_cases c : q.1 < 40
    · simp only [csf]
      rw [if_pos c]
      have hp : pcM s (upd J 4 (nI (q.1 + 1))) (va_up B 2 (upd (B 2) q.1 (nI (drw s (nxt x))))) (q.1 + 1, fun i => if i = q.1 then drw s (nxt x) else q.2 i) := by
        refine ⟨upd_eq, by dsimp only; omega, fun i hi => ?_⟩
        dsimp only at hi ⊢
        rw [vu_eq]
        by_cases e : i = q.1
        · rw [e, upd_eq, if_pos rfl]; exact ⟨rfl, hdr⟩
        · rw [upd_ne e, if_neg e]; exact h3 i (by omega)
      obtain ⟨J', B', b1, b2, b3, b4⟩ := ih (i + 1) f (nxt x) _ _ _ (by omega) (by omega) ((upd_ne (by decide)).trans c1) hp
      refine ⟨J', B', fun t => ?_, fun c hc => by rw [b2 c hc, upd_ne hc], fun c hc => by rw [b3 c hc, vu_ne hc], b4⟩
      rw [e_X10_casts_at18, pn_f (nI_ge (by omega) (by omega)), h1, pn_f (show ¬ (40 : Int32) ≤ nI q.1 from nI_ge (b := 40) c (by decide)), nI_1, show x * 1103515245 + 12345 = nxt x from rfl, r_drawn hd ((upd_ne (by decide)).trans c1) hs, pn_c1, e_X10_casts_at62, pn_in c (by decide), cond_true, pn_cl (by omega), nI_1]
      exact b1 t
    · rw [csf_40 _ _ q (by omega)]
      refine ⟨J, B, fun t => ?_, fun c _ => rfl, fun c _ => rfl, h⟩
      rw [e_X10_casts_at18, pn_f (nI_ge (by omega) (by omega)), h1, pn_t (show (40 : Int32) ≤ nI q.1 from nI_le (a := 40) (by omega) (by omega))]
theorem P_casts (h : Rel I A J B) (x y : Int32) : Ans 92 171 [.int x, .int y] I A J B L := by
  have hh := h
  obtain ⟨⟨⟨s, ⟨n, w⟩, ⟨z, l⟩, ⟨p, k, o⟩, ⟨r, a, v⟩⟩, hv, hc, hm⟩, hR⟩ := h
  have hv' := hv
  obtain ⟨v1, ⟨n6, vw⟩, ⟨z40, vl⟩, v4, v5⟩ := hv'
  obtain ⟨c1, ⟨c2, cw⟩, ⟨c3, cl⟩, ⟨c4, cp⟩, ⟨c5, cr⟩⟩ := id hc
  obtain ⟨m1, ⟨m2, mw⟩, ⟨m3, ml⟩, ⟨m4, mp⟩, ⟨m5, mr⟩⟩ := id hm
  have e1 := fun t => e_X9_casts 59 I A t x y
  have e2 := fun t => e_X10_casts 59 J B L t x y
  simp only [r_in (show 1 ≤ 59 by omega), pn_c1] at e2
  by_cases h1 : x < 1
  · have g : decide (1 ≤ x ∧ x ≤ 40) = false := decide_eq_false (fun q => Int32.not_lt.mpr q.1 h1)
    simp only [pn_t h1] at e1
    simp only [g, b01_f, d_n00, cond_false] at e2
    exact ⟨_, _, _, _, _, _, e1, e2, hh⟩
  by_cases h2 : x ≤ 40
  · have g : decide (1 ≤ x ∧ x ≤ 40) = true := decide_eq_true ⟨Int32.not_lt.mp h1, h2⟩
    obtain ⟨m, hmm, rfl⟩ := i_rng (n := 41) (lo := 1) (by omega) (by decide) h1 (nle_of (n := 40) (by omega) h2)
    obtain ⟨I', A', a1, a2, a3, a4⟩ := c_castsL (sd := y) 59 (by omega) v1 (show m ≤ 40 by omega) m 0 10000000 y I A (z, l) (by omega) (by omega) c1 ⟨c3, z40, fun i hi => ⟨cl i hi, vl i hi⟩⟩
    obtain ⟨J', B', b1, b2, b3, b4⟩ := r_castsL (L := L) (sd := y) 59 (by omega) v1 (show m ≤ 40 by omega) m 0 10000000 y J B (z, l) (by omega) (by omega) m1 ⟨m3, z40, fun i hi => ⟨ml i hi, vl i hi⟩⟩
    generalize hQ : csf s m y (z, l) = Q at a1 a4 b1 b4
    obtain ⟨z', l'⟩ := Q
    simp only [pn_f h1, pn_t h2] at e1
    simp only [g, b01_t, d_n10, cond_true] at e2
    have a1' : ∀ t, zR 59 10000000 92 19 [some (.ref 0), some (.int (nI m)), some (.int y), some (.int y), some (.int 0)] [] (hC I A, t) = _ := a1
    have b1' : ∀ t, zR 59 10000000 171 18 [some (.ref 1000), some (.int (nI m)), some (.int y), some (.int y), some (.int 0)] [] (t, hM J B L) = _ := b1
    refine ⟨_, _, _, _, _, _, fun t => (e1 t).trans (a1' t), fun t => (e2 t).trans (b1' t), ⟨(s, (n, w), (z', l'), (p, k, o), (r, a, v)), ⟨v1, ⟨n6, vw⟩, ⟨a4.2.1, fun i hi => (a4.2.2 i hi).2⟩, v4, v5⟩, ⟨(a2 100 (by decide)).trans c1, ⟨(a2 102 (by decide)).trans c2, fun i hi => (congrFun (a3 2 (by decide)) i).trans (cw i hi)⟩, ⟨a4.1, fun i hi => (a4.2.2 i hi).1⟩, ⟨(a2 106 (by decide)).trans c4, fun i hi => ⟨(congrFun (a3 5 (by decide)) i).trans (cp i hi).1, (congrFun (a3 6 (by decide)) i).trans (cp i hi).2⟩⟩, ⟨(a2 109 (by decide)).trans c5, fun i hi => ⟨(congrFun (a3 7 (by decide)) i).trans (cr i hi).1, (congrFun (a3 8 (by decide)) i).trans (cr i hi).2⟩⟩⟩, ⟨(b2 0 (by decide)).trans m1, ⟨(b2 2 (by decide)).trans m2, fun i hi => (congrFun (b3 1 (by decide)) i).trans (mw i hi)⟩, ⟨b4.1, fun i hi => (b4.2.2 i hi).1⟩, ⟨(b2 7 (by decide)).trans m4, fun i hi => ⟨(congrFun (b3 3 (by decide)) i).trans (mp i hi).1, (congrFun (b3 4 (by decide)) i).trans (mp i hi).2⟩⟩, ⟨(b2 10 (by decide)).trans m5, fun i hi => ⟨(congrFun (b3 5 (by decide)) i).trans (mr i hi).1, (congrFun (b3 6 (by decide)) i).trans (mr i hi).2⟩⟩⟩⟩, ?_⟩
    obtain ⟨hI, hT, hP, hL⟩ := hR
    refine ⟨?_, ?_, ?_, ?_⟩
    · rcases hI with ⟨i1, i2⟩ | ⟨i1, i2, bb, jv, jc, jm⟩
      · exact Or.inl ⟨(a2 2 (by omega)).trans i1, (b2 18 (by omega)).trans i2⟩
      · refine Or.inr ⟨(a2 2 (by omega)).trans i1, (b2 18 (by omega)).trans i2, bb, jv, cB_fr jc (a2 _ (by omega)) (a2 _ (by omega)) (a2 _ (by omega)) (a2 _ (by omega)) (a2 _ (by omega)) (a3 _ (by omega)) (a3 _ (by omega)) (a3 _ (by omega)) (a3 _ (by omega)) (a3 _ (by omega)) (a3 _ (by omega)), ?_⟩
        rw [b3 11 (by omega)]; exact jm
    · obtain ⟨z, c, t1, t2, t3, t4⟩ := hT
      exact ⟨z, c, t1, (a2 1701 (by omega)).trans t2, (b2 12 (by omega)).trans t3, fun i hi => ⟨(t4 i hi).1, (t4 i hi).2.1, (congrFun (a3 18 (by omega)) i).trans (t4 i hi).2.2.1, (congrFun (b3 7 (by omega)) i).trans (t4 i hi).2.2.2⟩⟩
    · obtain ⟨z, p1, p2, p3, p4⟩ := hP
      exact ⟨z, p1, (a2 5 (by omega)).trans p2, (b2 14 (by omega)).trans p3, fun i hi => (congrFun (a3 20 (by omega)) i).trans ((p4 i hi).trans (congrFun (b3 8 (by omega)) i).symm)⟩
    · unfold rL rL1
      rw [a3 22 (by omega), a3 23 (by omega), a3 24 (by omega), a3 25 (by omega), a3 26 (by omega), b3 9 (by omega), b3 10 (by omega)]
      exact hL
  · have g : decide (1 ≤ x ∧ x ≤ 40) = false := decide_eq_false (fun q => h2 q.2)
    simp only [pn_f h1, pn_f h2] at e1
    simp only [g, b01_f, d_n00, cond_false] at e2
    exact ⟨_, _, _, _, _, _, e1, e2, hh⟩
/-! a duel: who (0, 1; 2 neither), after how many -/
def dul (s a b : Nat) : Nat → Nat → Int32 → Nat → Nat × Nat
  | 0, i, _, _ => (2, i)
  | j + 1, i, x, T => if (T % 10000 * 10 + drw s (nxt x)) % 10 ^ wl a = a then (0, i + 1) else if (T % 10000 * 10 + drw s (nxt x)) % 10 ^ wl b = b then (1, i + 1) else dul s a b j (i + 1) (nxt x) (T % 10000 * 10 + drw s (nxt x))
theorem dul_le {s a b : Nat} : ∀ j i x T, (dul s a b j i x T).2 ≤ i + j ∧ (dul s a b j i x T).1 ≤ 2 ∧ ((dul s a b j i x T).1 = 2 → (dul s a b j i x T).2 = i + j) ∧ i ≤ (dul s a b j i x T).2
  | 0, i, x, T => ⟨Nat.le_refl _, Nat.le_refl _, fun _ => rfl, Nat.le_refl _⟩
  | j + 1, i, x, T => by
    simp only [dul]
    split
    · exact ⟨by dsimp only; omega, by dsimp only; omega, fun h => by dsimp only at h; omega, by dsimp only; omega⟩
    · split
      · exact ⟨by dsimp only; omega, by dsimp only; omega, fun h => by dsimp only at h; omega, by dsimp only; omega⟩
      · have := dul_le (s := s) (a := a) (b := b) j (i + 1) (nxt x) (T % 10000 * 10 + drw s (nxt x))
        refine ⟨by omega, this.2.1, fun h => ?_, by omega⟩
        have := this.2.2.1 h
        omega
def wI (c : Nat) : Int32 := if c = 2 then -5 else nI c
theorem c_runL (d : Nat) (hd : 3 ≤ d) {s a b : Nat} {sd : Int32} (hs : s = 2 ∨ s = 3) (ha1 : 1 ≤ a) (ha : a < 100000) (hb1 : 1 ≤ b) (hb : b < 100000) : ∀ (j i f : Nat) (x : Int32) (T : Nat) (I : Nat → Int32), i + j = 60 → 4 * j + 1 < f → T < 100000 → I 4400 = -5 → I 4401 = nI i → ∃ I', (∀ t, zR d f 19 17 [some (.ref 44), some (.int (nI a)), some (.int (nI b)), some (.int sd), some (.int (nI s)), some (.int x), some (.int (nI T))] [] (hC I A, t) = some (none, (hC I' A, t))) ∧ (∀ c, c ≠ 4400 → c ≠ 4401 → I' c = I c) ∧ I' 4400 = wI (dul s a b j i x T).1 ∧ I' 4401 = nI (dul s a b j i x T).2 := by
  intro j
  induction j with
  | zero =>
    intro i f x T I hi hf hT h0 h1
    obtain ⟨f, rfl⟩ : ∃ e, f = e + 1 := ⟨f - 1, by omega⟩
    refine ⟨I, fun t => ?_, fun c _ _ => rfl, h0, h1⟩
    rw [e_X1_run_at17, h1, pn_t (show (60 : Int32) ≤ nI i from nI_le (a := 60) (by omega) (by omega))]
  | succ j ih =>
    intro i f x T I hi hf hT h0 h1
    obtain ⟨f, rfl⟩ : ∃ e, f = e + 1 + 1 + 1 + 1 + 1 := ⟨f - 5, by omega⟩
    have hdr := drw_ok (s := s) (x := nxt x) (by omega)
    have hT2 : T % 10000 * 10 + drw s (nxt x) < 100000 := by omega
    simp only [dul]
    generalize hU : T % 10000 * 10 + drw s (nxt x) = U at hT2 ⊢
    have e17 : ∀ g t, zR d (g + 1) 19 17 [some (.ref 44), some (.int (nI a)), some (.int (nI b)), some (.int sd), some (.int (nI s)), some (.int x), some (.int (nI T))] [] (hC I A, t) = zR d g 19 54 [some (.ref 44), some (.int (nI a)), some (.int (nI b)), some (.int sd), some (.int (nI s)), some (.int (nxt x)), some (.int (nI T))] [(.int (nI U))] (hC I A, t) := fun g t => by
      rw [e_X1_run_at17, h1, pn_f (show ¬ (60 : Int32) ≤ nI i from nI_ge (b := 60) (by omega) (by decide)), h0, pn_f (fun q => q rfl), s_next (by omega), pn_c1, s_drawn (by omega) _ hs, pn_c1, s_grown (by omega) _ hT, pn_c1, hU]
    by_cases ca : U % 10 ^ wl a = a
    · rw [if_pos ca]
      refine ⟨upd (upd I 4401 (nI (i + 1))) 4400 0, fun t => ?_, fun c g1 g2 => by rw [upd_ne g1, upd_ne g2], rfl, rfl⟩
      rw [e17, e_X1_run_at54, h1, nI_1, s_endsWith hd _ hT2 ha1 ha, pn_c1, decide_eq_true ca, b01_t, e_X1_run_at72, d_10, cond_false, e_X1_run_at17]
      by_cases c60 : (60 : Int32) ≤ upd (upd I 4401 (nI (i + 1))) 4400 0 4401
      · rw [pn_t c60]
      · rw [pn_f c60, upd_eq, pn_t (by decide)]
    · rw [if_neg ca]
      by_cases cb : U % 10 ^ wl b = b
      · rw [if_pos cb]
        refine ⟨upd (upd I 4401 (nI (i + 1))) 4400 1, fun t => ?_, fun c g1 g2 => by rw [upd_ne g1, upd_ne g2], rfl, rfl⟩
        rw [e17, e_X1_run_at54, h1, nI_1, s_endsWith hd _ hT2 ha1 ha, pn_c1, decide_eq_false ca, b01_f, e_X1_run_at72, d_00, cond_true, s_endsWith hd _ hT2 hb1 hb, pn_c1, decide_eq_true cb, b01_t, e_X1_run_at89, d_10, cond_false, e_X1_run_at17]
        by_cases c60 : (60 : Int32) ≤ upd (upd I 4401 (nI (i + 1))) 4400 1 4401
        · rw [pn_t c60]
        · rw [pn_f c60, upd_eq, pn_t (by decide)]
      · rw [if_neg cb]
        obtain ⟨I', b1, b2, b3, b4⟩ := ih (i + 1) (f + 1) (nxt x) U (upd I 4401 (nI (i + 1))) (by omega) (by omega) hT2 ((upd_ne (by decide)).trans h0) upd_eq
        refine ⟨I', fun t => ?_, fun c g1 g2 => by rw [b2 c g1 g2, upd_ne g2], b3, b4⟩
        rw [e17, e_X1_run_at54, h1, nI_1, s_endsWith hd _ hT2 ha1 ha, pn_c1, decide_eq_false ca, b01_f, e_X1_run_at72, d_00, cond_true, s_endsWith hd _ hT2 hb1 hb, pn_c1, decide_eq_false cb, b01_f, e_X1_run_at89, d_00, cond_true]
        exact b1 t
theorem c_run {d s a b : Nat} {sd : Int32} (hd : 4 ≤ d) (hs : s = 2 ∨ s = 3) (ha1 : 1 ≤ a) (ha : a < 100000) (hb1 : 1 ≤ b) (hb : b < 100000) : ∃ I', (∀ t, zC d 19 [.ref 44, .int (nI a), .int (nI b), .int sd, .int (nI s)] (hC I A, t) = some (none, (hC I' A, t))) ∧ (∀ c, c ≠ 4400 → c ≠ 4401 → I' c = I c) ∧ I' 4400 = wI (dul s a b 60 0 sd 0).1 ∧ I' 4401 = nI (dul s a b 60 0 sd 0).2 := by
  obtain ⟨d, rfl⟩ : ∃ e, d = e + 1 := ⟨d - 1, by omega⟩
  obtain ⟨I', b1, b2, b3, b4⟩ := c_runL (A := A) (sd := sd) d (by omega) hs ha1 ha hb1 hb 60 0 10000000 sd 0 (upd (upd I 4400 (-5)) 4401 0) (by omega) (by omega) (by omega) rfl rfl
  exact ⟨I', fun t => (e_X1_run d I A t (nI a) (nI b) sd (nI s)).trans (b1 t), fun c g1 g2 => by rw [b2 c g1 g2, upd_ne g2, upd_ne g1], b3, b4⟩
def dlN (q : Nat × Nat) : Nat := if q.1 = 2 then 260 else 100 * q.1 + q.2
theorem dlN_0 (x : Nat) : dlN (0, x) = x := by unfold dlN; simp
theorem dlN_1 (x : Nat) : dlN (1, x) = 100 + x := by unfold dlN; simp
theorem r_duelsL (d : Nat) (hd : 1 ≤ d) {s a b : Nat} {sd : Int32} (hJ : J 0 = nI s) (hs : s = 2 ∨ s = 3) (ha : a < 100000) (hb : b < 100000) : ∀ (j i f : Nat) (x : Int32) (T : Nat), i + j = 60 → j < f → T < 100000 → zR d f 193 9 [some (.ref 1000), some (.int (nI a)), some (.int (nI b)), some (.int sd), some (.int x), some (.int (nI T)), some (.int (nI (i + 1)))] [] (t, hM J B L) = some (some (.int (nI (dlN (dul s a b j i x T)))), (t, hM J B L)) := by
  have la := wl_le a
  have lb := wl_le b
  have ha10 := p10_lt (k := wl a) (by omega)
  have hb10 := p10_lt (k := wl b) (by omega)
  have hpa := p10_pos (wl a)
  have hpb := p10_pos (wl b)
  intro j
  induction j with
  | zero =>
    intro i f x T hi hf hT
    obtain ⟨f, rfl⟩ : ∃ e, f = e + 1 := ⟨f - 1, by omega⟩
    rw [e_X10_duels_at9, pn_t (show (60 : Int32) < nI (i + 1) from nI_lt (a := 60) (by omega) (by omega))]
    rfl
  | succ j ih =>
    intro i f x T hi hf hT
    obtain ⟨f, rfl⟩ : ∃ e, f = e + 1 := ⟨f - 1, by omega⟩
    have hdr := drw_ok (s := s) (x := nxt x) (by omega)
    have hU : (10 * T + drw s (nxt x)) % 100000 = T % 10000 * 10 + drw s (nxt x) := by omega
    have hT2 : T % 10000 * 10 + drw s (nxt x) < 100000 := by omega
    have hva : (T % 10000 * 10 + drw s (nxt x)) % 10 ^ wl a < 2 ^ 31 := Nat.lt_of_le_of_lt (Nat.mod_le _ _) (by omega)
    have hvb : (T % 10000 * 10 + drw s (nxt x)) % 10 ^ wl b < 2 ^ 31 := Nat.lt_of_le_of_lt (Nat.mod_le _ _) (by omega)
    rw [e_X10_duels_at9, pn_f (show ¬ (60 : Int32) < nI (i + 1) from nI_nlt (a := 60) (by omega) (by decide)), show x * 1103515245 + 12345 = nxt x from rfl, r_drawn hd hJ hs, pn_c1, r_sizeW hd _ ha, pn_c1, r_ten hd _ (by omega), pn_c1, show (0 : Int32) = nI 0 from rfl, pn_eq ha10 (by decide), pn_f (by omega)]
    rw [show (10 : Int32) = nI 10 from rfl, show (100000 : Int32) = nI 100000 from rfl, pk_mul, nI_add, pk_rem (show 10 * T + drw s (nxt x) < 2 ^ 31 by omega) (by decide) (by decide), hU, pk_rem (show T % 10000 * 10 + drw s (nxt x) < 2 ^ 31 by omega) hpa ha10, pn_ne hva (by omega)]
    simp only [dul]
    by_cases ca : (T % 10000 * 10 + drw s (nxt x)) % 10 ^ wl a = a
    · rw [pn_f (by simpa using ca), if_pos ca]
      have : dlN (0, i + 1) = i + 1 := dlN_0 _
      rw [this]
    · rw [pn_t ca, if_neg ca, r_sizeW hd _ hb, pn_c1, r_ten hd _ (by omega), pn_c1, pn_eq hb10 (by decide), pn_f (by omega), pk_rem (show T % 10000 * 10 + drw s (nxt x) < 2 ^ 31 by omega) hpb hb10, pn_ne hvb (by omega)]
      by_cases cb : (T % 10000 * 10 + drw s (nxt x)) % 10 ^ wl b = b
      · have : dlN (1, i + 1) = 100 + (i + 1) := dlN_1 _
        rw [pn_f (by simpa using cb), if_pos cb, this, show (100 : Int32) = nI 100 from rfl, nI_add]
      · rw [pn_t cb, if_neg cb, nI_1, ih (i + 1) f (nxt x) _ (by omega) (by omega) hT2]
theorem r_duels {d s a b : Nat} {sd : Int32} (hd : 2 ≤ d) (hJ : J 0 = nI s) (hs : s = 2 ∨ s = 3) (ha : a < 100000) (hb : b < 100000) : zC d 193 [.ref 1000, .int (nI a), .int (nI b), .int sd] (t, hM J B L) = some (some (.int (nI (dlN (dul s a b 60 0 sd 0)))), (t, hM J B L)) := by
  obtain ⟨d, rfl⟩ : ∃ e, d = e + 1 := ⟨d - 1, by omega⟩
  rw [e_X10_duels]
  exact r_duelsL d (by omega) hJ hs ha hb 60 0 10000000 sd 0 (by omega) (by omega) (by omega)
end JU
