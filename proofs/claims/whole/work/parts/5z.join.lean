/-! judge; casts; duel; odds -/
def jdg (E D : Nat → Int32) : Nat → Nat → Int32
  | 0, _ => -5
  | j + 1, i => if E i = D i then jdg E D j (i + 1) else nI i
section JU
variable {I : Nat → Int32} {A : Nat → Nat → Int32} {J : Nat → Int32} {B : Nat → Nat → Int32} {L : Nat → Nat → Int64} {t : List zm_E} {l w : Nat → Nat} {n z : Nat}
theorem c_judge47 (d f : Nat) {q : Nat} (hq : q < 4) (x2 s0 : Int32) (o3 : Option Value) : zR d (f + 1) 109 47 [some (.ref 0), some (.int (nI q)), some (.int x2), o3] [(.int s0)] (hC I A, t) = (bif decide (s0 = 0) then (bif zm_in x2 12 then (bif decide ((A (22 + q) (Int32.toNatClampNeg x2)) = (-5)) then (zR d f 109 23 [some (.ref 0), some (.int (nI q)), some (.int (x2 + 1)), some (.int (-5))] [] (hC I A, t)) else some (some (.int x2), (hC I A, t))) else none) else zm_c1 (zC d 3 [(.ref 1), (.int x2)] (hC I A, t)) fun v2 h1 => zm_c1 (zC d 49 [(.ref 3), (.int v2)] h1) fun v4 h3 => zR d f 109 68 [some (.ref 0), some (.int (nI q)), some (.int x2), o3] [(.int v4)] h3) := by
  have hc : q = 0 ∨ q = 1 ∨ q = 2 ∨ q = 3 := by omega
  rcases hc with rfl | rfl | rfl | rfl
  · exact e_X9_judge_at47_10 d f I A t x2 o3 s0
  · exact e_X9_judge_at47_11 d f I A t x2 o3 s0
  · exact e_X9_judge_at47_12 d f I A t x2 o3 s0
  · exact e_X9_judge_at47_13 d f I A t x2 o3 s0
theorem c_judge68 (d f : Nat) {q : Nat} (hq : q < 4) (x2 s0 : Int32) (o3 : Option Value) : zR d (f + 1) 109 68 [some (.ref 0), some (.int (nI q)), some (.int x2), o3] [(.int s0)] (hC I A, t) = (bif zm_in x2 12 then (bif decide ((A (22 + q) (Int32.toNatClampNeg x2)) = s0) then (zR d f 109 23 [some (.ref 0), some (.int (nI q)), some (.int (x2 + 1)), some (.int s0)] [] (hC I A, t)) else some (some (.int x2), (hC I A, t))) else none) := by
  have hc : q = 0 ∨ q = 1 ∨ q = 2 ∨ q = 3 := by omega
  rcases hc with rfl | rfl | rfl | rfl
  · exact e_X9_judge_at68_10 d f I A t x2 o3 s0
  · exact e_X9_judge_at68_11 d f I A t x2 o3 s0
  · exact e_X9_judge_at68_12 d f I A t x2 o3 s0
  · exact e_X9_judge_at68_13 d f I A t x2 o3 s0
/-- what is due at a place -/
def dueF (l w : Nat → Nat) (n z : Nat) (i : Nat) : Int32 := if i < n then oI (fo l (w i) z 0) else -5
theorem c_judgeL (d : Nat) (hd : 4 ≤ d) {q m s : Nat} (hq : q < 4) (hm : A 26 q = nI m) (m12 : m ≤ 12) (hn : I 102 = nI n) (n6 : n ≤ 6) (hw : ∀ i, i < n → A 2 i = nI (w i) ∧ okw s (w i) = true) (hz : I 301 = nI z) (z40 : z ≤ 40) (hl : ∀ i, i < z → A 4 i = nI (l i) ∧ l i < 10) : ∀ (j i f : Nat) (o3 : Option Value), i + j = m → 4 * j < f → zR d f 109 23 [some (.ref 0), some (.int (nI q)), some (.int (nI i)), o3] [] (hC I A, t) = some (some (.int (jdg (A (22 + q)) (dueF l w n z) j i)), (hC I A, t)) := by
  intro j
  induction j with
  | zero =>
    intro i f o3 hi hf
    obtain ⟨f, rfl⟩ : ∃ e, f = e + 1 := ⟨f - 1, by omega⟩
    rw [e_X9_judge_at23, pn_in hq (by decide), cond_true, pn_cl (by omega), hm, pn_t (nI_le (by omega) (by omega))]
    rfl
  | succ j ih =>
    intro i f o3 hi hf
    obtain ⟨f, rfl⟩ : ∃ e, f = e + 1 + 1 + 1 := ⟨f - 3, by omega⟩
    rw [e_X9_judge_at23, pn_in hq (by decide), cond_true, pn_cl (by omega), hm, pn_f (nI_ge (by omega) (by omega)), pn_f (show ¬ (12 : Int32) ≤ nI i from nI_ge (b := 12) (by omega) (by decide))]
    simp only [jdg]
    by_cases c : i < n
    · have du : dueF l w n z i = oI (fo l (w i) z 0) := if_pos c
      have hwi := hw i c
      have hlt := okw_lt hwi.2
      rw [c_hw1 (by omega) hn n6 c, pn_c1, c_judge47 d (f + 1) hq, d_10, cond_false, c_wa (by omega) hn n6 c, pn_c1, hwi.1, c_first_3 hd hz z40 hl hlt.1 hlt.2, pn_c1, c_judge68 d f hq, pn_in (show i < 12 by omega) (by decide), cond_true, pn_cl (by omega), nI_1, du]
      by_cases e : A (22 + q) i = oI (fo l (w i) z 0)
      · rw [pn_t e, if_pos e, ih (i + 1) f _ (by omega) (by omega)]
      · rw [pn_f e, if_neg e]
    · have du : dueF l w n z i = -5 := if_neg c
      rw [c_hw0 (by omega) hn (Or.inr (nI_le (by omega) (by omega))), pn_c1, c_judge47 d (f + 1) hq, d_00, cond_true, pn_in (show i < 12 by omega) (by decide), cond_true, pn_cl (by omega), nI_1, du]
      by_cases e : A (22 + q) i = -5
      · rw [pn_t e, if_pos e, ih (i + 1) (f + 1) _ (by omega) (by omega)]
      · rw [pn_f e, if_neg e]
theorem r_judgeL (d : Nat) (hd : 4 ≤ d) {q m s : Nat} (hq : q < 4) (hm : B 10 q = nI m) (m12 : m ≤ 12) (hn : J 2 = nI n) (n6 : n ≤ 6) (hw : ∀ i, i < n → B 1 i = nI (w i) ∧ okw s (w i) = true) (hz : J 4 = nI z) (z40 : z ≤ 40) (hl : ∀ i, i < z → B 2 i = nI (l i) ∧ l i < 10) : ∀ (j i f : Nat), i + j = m → j < f → zR d f 201 23 [some (.ref 1000), some (.int (nI q)), some (.int (nI i))] [] (t, hM J B L) = some (some (.int (jdg (fun i => B 9 (12 * q + i)) (dueF l w n z) j i)), (t, hM J B L)) := by
  intro j
  induction j with
  | zero =>
    intro i f hi hf
    obtain ⟨f, rfl⟩ : ∃ e, f = e + 1 := ⟨f - 1, by omega⟩
    rw [e_X10_judge_at23, pn_in hq (by decide), cond_true, pn_cl (by omega), hm, pn_t (nI_le (by omega) (by omega))]
    rfl
  | succ j ih =>
    intro i f hi hf
    obtain ⟨f, rfl⟩ : ∃ e, f = e + 1 := ⟨f - 1, by omega⟩
    rw [e_X10_judge_at23, pn_in hq (by decide), cond_true, pn_cl (show q < 2 ^ 31 by omega), hm, pn_f (nI_ge (by omega) (by omega)), l_ix, pn_in (show 12 * q + i < 48 by omega) (by decide), cond_true]
    simp only [jdg]
    by_cases c : i < n
    · have du : dueF l w n z i = oI (fo l (w i) z 0) := if_pos c
      have hwi := hw i c
      rw [r_iw1 (by omega) hn n6 c, pn_c1, d_10, cond_false, r_firstOf hd hz z40 hl (by omega) hwi.1 hwi.2, pn_c1, pn_cl (show 12 * q + i < 2 ^ 31 by omega), nI_1, du]
      by_cases e : B 9 (12 * q + i) = oI (fo l (w i) z 0)
      · rw [pn_t e, if_pos e, ih (i + 1) f (by omega) (by omega)]
      · rw [pn_f e, if_neg e]
    · have du : dueF l w n z i = -5 := if_neg c
      rw [r_iw0 (by omega) hn n6 (Or.inr (nI_le (by omega) (by omega))), pn_c1, d_00, cond_true, pn_cl (show 12 * q + i < 2 ^ 31 by omega), nI_1, du]
      by_cases e : B 9 (12 * q + i) = -5
      · rw [pn_t e, if_pos e, ih (i + 1) f (by omega) (by omega)]
      · rw [pn_f e, if_neg e]
theorem jdg_eq {E E' D : Nat → Int32} : ∀ j i, (∀ k, i ≤ k → k < i + j → E k = E' k) → jdg E D j i = jdg E' D j i
  | 0, i, _ => rfl
  | j + 1, i, h => by
    simp only [jdg]
    rw [h i (by omega) (by omega), jdg_eq j (i + 1) (fun k h1 h2 => h k (by omega) (by omega))]
theorem P_judge (h : Rel I A J B) (x : Int32) : Ans 109 201 [.int x] I A J B L := by
  have hh := h
  have hL := rL_all.mp h.2.2.2.2
  obtain ⟨⟨⟨s, ⟨n, w⟩, ⟨z, l⟩, ⟨p, k, o⟩, ⟨r, a, v⟩⟩, hv, hc, hm⟩, -⟩ := h
  have s3 : s ≤ 3 := by have := hv.1; omega
  have c2 : I 102 = nI n := hc.2.1.1
  have m2 : J 2 = nI n := hm.2.1.1
  have c3 : I 301 = nI z := hc.2.2.1.1
  have m3 : J 4 = nI z := hm.2.2.1.1
  have n6 : n ≤ 6 := hv.2.1.1
  have z40 : z ≤ 40 := hv.2.2.1.1
  have lc : ∀ i, i < z → A 4 i = nI (l i) ∧ l i < 10 := fun i hi => ⟨hc.2.2.1.2 i hi, by have := hv.2.2.1.2 i hi; omega⟩
  have lm : ∀ i, i < z → B 2 i = nI (l i) ∧ l i < 10 := fun i hi => ⟨hm.2.2.1.2 i hi, by have := hv.2.2.1.2 i hi; omega⟩
  have wc : ∀ i, i < n → A 2 i = nI (w i) ∧ okw s (w i) = true := fun i hi => ⟨hc.2.1.2 i hi, hv.2.1.2 i hi⟩
  have wm : ∀ i, i < n → B 1 i = nI (w i) ∧ okw s (w i) = true := fun i hi => ⟨hm.2.1.2 i hi, hv.2.1.2 i hi⟩
  have e1 := fun t => e_X9_judge 59 I A t x
  have e2 := fun t => e_X10_judge 59 J B L t x
  have no : ∀ q : x < 0 ∨ nI 4 ≤ x, Ans 109 201 [.int x] I A J B L := fun q => by
    simp only [c_hl0 (show 1 ≤ 59 by omega) _ q, pn_c1, F1, e_X9_judge_at4, d_n00, cond_false] at e1
    simp only [r_il0 (show 2 ≤ 59 by omega) _ q, pn_c1, F1, e_X10_judge_at4, d_n00, cond_false] at e2
    exact ⟨_, _, _, _, _, _, e1, e2, hh⟩
  rcases pk_ix x (n := 4) (by omega) with q | q | ⟨q, hq, rfl⟩
  · exact no (Or.inl q)
  · exact no (Or.inr q)
  obtain ⟨hs, hr⟩ := hL q hq
  simp only [c_hl1 (show 1 ≤ 59 by omega) _ hq, pn_c1, F1, e_X9_judge_at4, d_n10, cond_true, pn_in hq (show 4 < 2 ^ 31 by omega), pn_cl (show q < 2 ^ 31 by omega)] at e1
  simp only [r_il1 (show 2 ≤ 59 by omega) _ hq, pn_c1, F1, e_X10_judge_at4, d_n10, cond_true, pn_in hq (show 4 < 2 ^ 31 by omega), pn_cl (show q < 2 ^ 31 by omega)] at e2
  rcases hs with ⟨a1, b1⟩ | ⟨m, m12, a1, b1⟩
  · simp only [a1, pn_f (show ¬ (0 : Int32) ≤ -11 by decide)] at e1
    simp only [b1, pn_f (show ¬ (0 : Int32) ≤ -1 by decide)] at e2
    exact ⟨_, _, _, _, _, _, e1, e2, hh⟩
  · simp only [a1, pn_t (show (0 : Int32) ≤ nI m from nI_pos' (by omega))] at e1
    simp only [b1, pn_t (show (0 : Int32) ≤ nI m from nI_pos' (by omega))] at e2
    have g1 := fun t => c_judgeL (I := I) (t := t) 59 (by omega) hq a1 m12 c2 n6 wc c3 z40 lc m 0 9999999 none (by omega) (by omega)
    have g2 := fun t => r_judgeL (J := J) (L := L) (t := t) 59 (by omega) hq b1 m12 m2 n6 wm m3 z40 lm m 0 9999999 (by omega) (by omega)
    have ee : jdg (fun i => B 9 (12 * q + i)) (dueF l w n z) m 0 = jdg (A (22 + q)) (dueF l w n z) m 0 := jdg_eq m 0 (fun k _ hk => (hr k (by omega)).symm)
    rw [ee] at g2
    have g1' : ∀ t, zR 59 9999999 109 23 [some (.ref 0), some (.int (nI q)), some (.int 0), none] [] (hC I A, t) = _ := g1
    have g2' : ∀ t, zR 59 9999999 201 23 [some (.ref 1000), some (.int (nI q)), some (.int 0)] [] (t, hM J B L) = _ := g2
    exact ⟨_, _, _, _, _, _, fun t => (e1 t).trans (g1' t), fun t => (e2 t).trans (g2' t), hh⟩
/-! drawn letters -/
def nxt (x : Int32) : Int32 := x * 1103515245 + 12345
def drw (s : Nat) (x : Int32) : Nat := 1 + x.toBitVec.toNat / 65536 % s
theorem drw_ok {s : Nat} {x : Int32} (hs : 1 ≤ s) : 1 ≤ drw s x ∧ drw s x ≤ s := by
  have := Nat.mod_lt (x.toBitVec.toNat / 65536) hs
  unfold drw
  omega
theorem i_ofB {y : Int32} {m : Nat} (hm : m < 2 ^ 32) (h : y.toBitVec.toNat = m) : y = nI m := Int32.toBitVec.inj (BitVec.eq_of_toNat_eq (by rw [h, pk_tn hm]))
theorem i_u16 (x : Int32) : (x.toUInt32 >>> (Int32.toUInt32 16 &&& Int32.toUInt32 31)).toInt32 = nI (x.toBitVec.toNat / 65536) := by
  have h := pk_ushr x 16 16 (by decide)
  have hx := x.toBitVec.isLt
  exact i_ofB (by omega) h
theorem s_next {d : Nat} (hd : 1 ≤ d) (h : zm_H) (x : Int32) : zC d 17 [.int x] h = some (some (.int (nxt x)), h) := by
  obtain ⟨d, rfl⟩ : ∃ e, d = e + 1 := ⟨d - 1, by omega⟩
  rw [e_X1_nextSeed]
  rfl
theorem s_drawn {d s : Nat} (hd : 1 ≤ d) (h : zm_H) (hs : s = 2 ∨ s = 3) (x : Int32) : zC d 18 [.int x, .int (nI s)] h = some (some (.int (nI (drw s x))), h) := by
  obtain ⟨d, rfl⟩ : ∃ e, d = e + 1 := ⟨d - 1, by omega⟩
  have hx := x.toBitVec.isLt
  rw [e_X1_drawn, i_u16]
  unfold drw
  rcases hs with rfl | rfl
  · rw [pn_t (show ¬ nI 2 = 3 by decide), show (2 : Int32) = nI 2 from rfl, pk_rem (by omega) (by decide) (by decide), show (1 : Int32) = nI 1 from rfl, nI_add]
  · rw [pn_f (show ¬ ¬ nI 3 = 3 by decide), show (3 : Int32) = nI 3 from rfl, pk_rem (by omega) (by decide) (by decide), show (1 : Int32) = nI 1 from rfl, nI_add]
theorem r_drawn {d s : Nat} (hd : 1 ≤ d) (hJ : J 0 = nI s) (hs : s = 2 ∨ s = 3) (x : Int32) : zC d 170 [.ref 1000, .int x] (t, hM J B L) = some (some (.int (nI (drw s x))), (t, hM J B L)) := by
  obtain ⟨d, rfl⟩ : ∃ e, d = e + 1 := ⟨d - 1, by omega⟩
  have hx := x.toBitVec.isLt
  rw [e_X10_drawn, i_u16, hJ, pn_f (nI_ne0 (by omega) (by omega)), pk_rem (by omega) (by omega) (by omega), nI_1, Nat.add_comm]
  rfl
def csf (s : Nat) : Nat → Int32 → Nat × (Nat → Nat) → Nat × (Nat → Nat)
  | 0, _, q => q
  | j + 1, x, q => csf s j (nxt x) (if q.1 < 40 then (q.1 + 1, fun i => if i = q.1 then drw s (nxt x) else q.2 i) else q)
theorem csf_40 {s : Nat} : ∀ j x q, q.1 = 40 → csf s j x q = q
  | 0, _, _, _ => rfl
  | j + 1, x, q, h => by
    simp only [csf]
    rw [if_neg (by omega), csf_40 j _ q h]
def stC (s : Nat) (I : Nat → Int32) (A : Nat → Nat → Int32) (q : Nat × (Nat → Nat)) : Prop := I 301 = nI q.1 ∧ q.1 ≤ 40 ∧ ∀ i, i < q.1 → A 4 i = nI (q.2 i) ∧ 1 ≤ q.2 i ∧ q.2 i ≤ s
theorem c_castsL (d : Nat) (hd : 1 ≤ d) {s m : Nat} {sd : Int32} (hs : s = 2 ∨ s = 3) (hm : m ≤ 40) : ∀ (j i f : Nat) (x : Int32) (I : Nat → Int32) (A : Nat → Nat → Int32) (q : Nat × (Nat → Nat)), i + j = m → 2 * j < f → I 100 = nI s → stC s I A q → ∃ I' A', (∀ t, zR d f 92 19 [some (.ref 0), some (.int (nI m)), some (.int sd), some (.int x), some (.int (nI i))] [] (hC I A, t) = some (some (.int (nI (csf s j x q).1)), (hC I' A', t))) ∧ (∀ c, c ≠ 301 → I' c = I c) ∧ (∀ c, c ≠ 4 → A' c = A c) ∧ stC s I' A' (csf s j x q) := by
  intro j
  induction j with
  | zero =>
    intro i f x I A q hi hf c1 h
    obtain ⟨f, rfl⟩ : ∃ e, f = e + 1 := ⟨f - 1, by omega⟩
    refine ⟨I, A, fun t => ?_, fun c _ => rfl, fun c _ => rfl, h⟩
    rw [e_X9_casts_at19, pn_t (nI_le (by omega) (by omega)), h.1]
    rfl
  | succ j ih =>
    intro i f x I A q hi hf c1 h
    obtain ⟨f, rfl⟩ : ∃ e, f = e + 1 + 1 := ⟨f - 2, by omega⟩
    obtain ⟨h1, h2, h3⟩ := id h
    have hdr := drw_ok (s := s) (x := nxt x) (by omega)
    simp only [csf]
    by_cases c : q.1 < 40
    · rw [if_pos c]
      have hp : stC s (upd I 301 (nI (q.1 + 1))) (va_up A 4 (upd (A 4) q.1 (nI (drw s (nxt x))))) (q.1 + 1, fun i => if i = q.1 then drw s (nxt x) else q.2 i) := by
        refine ⟨upd_eq, by dsimp only; omega, fun i hi => ?_⟩
        dsimp only at hi ⊢
        rw [vu_eq]
        by_cases e : i = q.1
        · rw [e, upd_eq, if_pos rfl]; exact ⟨rfl, hdr⟩
        · rw [upd_ne e, if_neg e]; exact h3 i (by omega)
      obtain ⟨I', A', b1, b2, b3, b4⟩ := ih (i + 1) f (nxt x) _ _ _ (by omega) (by omega) ((upd_ne (by decide)).trans c1) hp
      refine ⟨I', A', fun t => ?_, fun c hc => by rw [b2 c hc, upd_ne hc], fun c hc => by rw [b3 c hc, vu_ne hc], b4⟩
      rw [e_X9_casts_at19, pn_f (nI_ge (by omega) (by omega)), s_next hd, pn_c1, e_X9_casts_at29, c1, s_drawn hd _ hs, pn_c1, c_app hd h1 c, pn_c1, nI_1]
      exact b1 t
    · rw [if_neg c]
      obtain ⟨I', A', b1, b2, b3, b4⟩ := ih (i + 1) f (nxt x) I A q (by omega) (by omega) c1 h
      refine ⟨I', A', fun t => ?_, b2, b3, b4⟩
      rw [e_X9_casts_at19, pn_f (nI_ge (by omega) (by omega)), s_next hd, pn_c1, e_X9_casts_at29, c1, s_drawn hd _ hs, pn_c1, c_app0 hd (by rw [h1, show q.1 = 40 by omega]), pn_c1, nI_1]
      exact b1 t
theorem r_castsL (d : Nat) (hd : 1 ≤ d) {s m : Nat} {sd : Int32} (hs : s = 2 ∨ s = 3) (hm : m ≤ 40) : ∀ (j i f : Nat) (x : Int32) (J : Nat → Int32) (B : Nat → Nat → Int32) (q : Nat × (Nat → Nat)), i + j = m → 2 * j < f → J 0 = nI s → pcM s J B q → ∃ J' B', (∀ t, zR d f 171 18 [some (.ref 1000), some (.int (nI m)), some (.int sd), some (.int x), some (.int (nI i))] [] (t, hM J B L) = some (some (.int (nI (csf s j x q).1)), (t, hM J' B' L))) ∧ (∀ c, c ≠ 4 → J' c = J c) ∧ (∀ c, c ≠ 2 → B' c = B c) ∧ pcM s J' B' (csf s j x q) := by
  intro j
  induction j with
  | zero =>
    intro i f x J B q hi hf c1 h
    obtain ⟨f, rfl⟩ : ∃ e, f = e + 1 := ⟨f - 1, by omega⟩
    refine ⟨J, B, fun t => ?_, fun c _ => rfl, fun c _ => rfl, h⟩
    rw [e_X10_casts_at18, pn_t (nI_le (by omega) (by omega)), h.1]
    rfl
  | succ j ih =>
    intro i f x J B q hi hf c1 h
    obtain ⟨f, rfl⟩ : ∃ e, f = e + 1 + 1 := ⟨f - 2, by omega⟩
    obtain ⟨h1, h2, h3⟩ := id h
    have hdr := drw_ok (s := s) (x := nxt x) (by omega)
    by_cases c : q.1 < 40
    · simp only [csf]
      rw [if_pos c]
      have hp : pcM s (upd J 4 (nI (q.1 + 1))) (va_up B 2 (upd (B 2) q.1 (nI (drw s (nxt x))))) (q.1 + 1, fun i => if i = q.1 then drw s (nxt x) else q.2 i) := by
        refine ⟨upd_eq, by dsimp only; omega, fun i hi => ?_⟩
        dsimp only at hi ⊢
        rw [vu_eq]
        by_cases e : i = q.1
        · rw [e, upd_eq, if_pos rfl]; exact ⟨rfl, hdr⟩
        · rw [upd_ne e, if_neg e]; exact h3 i (by omega)
      obtain ⟨J', B', b1, b2, b3, b4⟩ := ih (i + 1) f (nxt x) _ _ _ (by omega) (by omega) ((upd_ne (by decide)).trans c1) hp
      refine ⟨J', B', fun t => ?_, fun c hc => by rw [b2 c hc, upd_ne hc], fun c hc => by rw [b3 c hc, vu_ne hc], b4⟩
      rw [e_X10_casts_at18, pn_f (nI_ge (by omega) (by omega)), h1, pn_f (show ¬ (40 : Int32) ≤ nI q.1 from nI_ge (b := 40) c (by decide)), nI_1, show x * 1103515245 + 12345 = nxt x from rfl, r_drawn hd ((upd_ne (by decide)).trans c1) hs, pn_c1, e_X10_casts_at62, pn_in c (by decide), cond_true, pn_cl (by omega), nI_1]
      exact b1 t
    · rw [csf_40 _ _ q (by omega)]
      refine ⟨J, B, fun t => ?_, fun c _ => rfl, fun c _ => rfl, h⟩
      rw [e_X10_casts_at18, pn_f (nI_ge (by omega) (by omega)), h1, pn_t (show (40 : Int32) ≤ nI q.1 from nI_le (a := 40) (by omega) (by omega))]
theorem P_casts (h : Rel I A J B) (x y : Int32) : Ans 92 171 [.int x, .int y] I A J B L := by
  have hh := h
  obtain ⟨⟨⟨s, ⟨n, w⟩, ⟨z, l⟩, ⟨p, k, o⟩, ⟨r, a, v⟩⟩, hv, hc, hm⟩, hR⟩ := h
  have hv' := hv
  obtain ⟨v1, ⟨n6, vw⟩, ⟨z40, vl⟩, v4, v5⟩ := hv'
  obtain ⟨c1, ⟨c2, cw⟩, ⟨c3, cl⟩, ⟨c4, cp⟩, ⟨c5, cr⟩⟩ := id hc
  obtain ⟨m1, ⟨m2, mw⟩, ⟨m3, ml⟩, ⟨m4, mp⟩, ⟨m5, mr⟩⟩ := id hm
  have e1 := fun t => e_X9_casts 59 I A t x y
  have e2 := fun t => e_X10_casts 59 J B L t x y
  simp only [r_in (show 1 ≤ 59 by omega), pn_c1] at e2
  by_cases h1 : x < 1
  · have g : decide (1 ≤ x ∧ x ≤ 40) = false := decide_eq_false (fun q => Int32.not_lt.mpr q.1 h1)
    simp only [pn_t h1] at e1
    simp only [g, b01_f, d_n00, cond_false] at e2
    exact ⟨_, _, _, _, _, _, e1, e2, hh⟩
  by_cases h2 : x ≤ 40
  · have g : decide (1 ≤ x ∧ x ≤ 40) = true := decide_eq_true ⟨Int32.not_lt.mp h1, h2⟩
    obtain ⟨m, hmm, rfl⟩ := i_rng (n := 41) (lo := 1) (by omega) (by decide) h1 (nle_of (n := 40) (by omega) h2)
    obtain ⟨I', A', a1, a2, a3, a4⟩ := c_castsL (sd := y) 59 (by omega) v1 (show m ≤ 40 by omega) m 0 10000000 y I A (z, l) (by omega) (by omega) c1 ⟨c3, z40, fun i hi => ⟨cl i hi, vl i hi⟩⟩
    obtain ⟨J', B', b1, b2, b3, b4⟩ := r_castsL (L := L) (sd := y) 59 (by omega) v1 (show m ≤ 40 by omega) m 0 10000000 y J B (z, l) (by omega) (by omega) m1 ⟨m3, z40, fun i hi => ⟨ml i hi, vl i hi⟩⟩
    generalize hQ : csf s m y (z, l) = Q at a1 a4 b1 b4
    obtain ⟨z', l'⟩ := Q
    simp only [pn_f h1, pn_t h2] at e1
    simp only [g, b01_t, d_n10, cond_true] at e2
    have a1' : ∀ t, zR 59 10000000 92 19 [some (.ref 0), some (.int (nI m)), some (.int y), some (.int y), some (.int 0)] [] (hC I A, t) = _ := a1
    have b1' : ∀ t, zR 59 10000000 171 18 [some (.ref 1000), some (.int (nI m)), some (.int y), some (.int y), some (.int 0)] [] (t, hM J B L) = _ := b1
    refine ⟨_, _, _, _, _, _, fun t => (e1 t).trans (a1' t), fun t => (e2 t).trans (b1' t), ⟨(s, (n, w), (z', l'), (p, k, o), (r, a, v)), ⟨v1, ⟨n6, vw⟩, ⟨a4.2.1, fun i hi => (a4.2.2 i hi).2⟩, v4, v5⟩, ⟨(a2 100 (by decide)).trans c1, ⟨(a2 102 (by decide)).trans c2, fun i hi => (congrFun (a3 2 (by decide)) i).trans (cw i hi)⟩, ⟨a4.1, fun i hi => (a4.2.2 i hi).1⟩, ⟨(a2 106 (by decide)).trans c4, fun i hi => ⟨(congrFun (a3 5 (by decide)) i).trans (cp i hi).1, (congrFun (a3 6 (by decide)) i).trans (cp i hi).2⟩⟩, ⟨(a2 109 (by decide)).trans c5, fun i hi => ⟨(congrFun (a3 7 (by decide)) i).trans (cr i hi).1, (congrFun (a3 8 (by decide)) i).trans (cr i hi).2⟩⟩⟩, ⟨(b2 0 (by decide)).trans m1, ⟨(b2 2 (by decide)).trans m2, fun i hi => (congrFun (b3 1 (by decide)) i).trans (mw i hi)⟩, ⟨b4.1, fun i hi => (b4.2.2 i hi).1⟩, ⟨(b2 7 (by decide)).trans m4, fun i hi => ⟨(congrFun (b3 3 (by decide)) i).trans (mp i hi).1, (congrFun (b3 4 (by decide)) i).trans (mp i hi).2⟩⟩, ⟨(b2 10 (by decide)).trans m5, fun i hi => ⟨(congrFun (b3 5 (by decide)) i).trans (mr i hi).1, (congrFun (b3 6 (by decide)) i).trans (mr i hi).2⟩⟩⟩⟩, ?_⟩
    obtain ⟨hI, hT, hP, hL⟩ := hR
    refine ⟨?_, ?_, ?_, ?_⟩
    · rcases hI with ⟨i1, i2⟩ | ⟨i1, i2, bb, jv, jc, jm⟩
      · exact Or.inl ⟨(a2 2 (by omega)).trans i1, (b2 18 (by omega)).trans i2⟩
      · refine Or.inr ⟨(a2 2 (by omega)).trans i1, (b2 18 (by omega)).trans i2, bb, jv, cB_fr jc (a2 _ (by omega)) (a2 _ (by omega)) (a2 _ (by omega)) (a2 _ (by omega)) (a2 _ (by omega)) (a3 _ (by omega)) (a3 _ (by omega)) (a3 _ (by omega)) (a3 _ (by omega)) (a3 _ (by omega)) (a3 _ (by omega)), ?_⟩
        rw [b3 11 (by omega)]; exact jm
    · obtain ⟨z, c, t1, t2, t3, t4⟩ := hT
      exact ⟨z, c, t1, (a2 1701 (by omega)).trans t2, (b2 12 (by omega)).trans t3, fun i hi => ⟨(t4 i hi).1, (t4 i hi).2.1, (congrFun (a3 18 (by omega)) i).trans (t4 i hi).2.2.1, (congrFun (b3 7 (by omega)) i).trans (t4 i hi).2.2.2⟩⟩
    · obtain ⟨z, p1, p2, p3, p4⟩ := hP
      exact ⟨z, p1, (a2 5 (by omega)).trans p2, (b2 14 (by omega)).trans p3, fun i hi => (congrFun (a3 20 (by omega)) i).trans ((p4 i hi).trans (congrFun (b3 8 (by omega)) i).symm)⟩
    · unfold rL rL1
      rw [a3 22 (by omega), a3 23 (by omega), a3 24 (by omega), a3 25 (by omega), a3 26 (by omega), b3 9 (by omega), b3 10 (by omega)]
      exact hL
  · have g : decide (1 ≤ x ∧ x ≤ 40) = false := decide_eq_false (fun q => h2 q.2)
    simp only [pn_f h1, pn_f h2] at e1
    simp only [g, b01_f, d_n00, cond_false] at e2
    exact ⟨_, _, _, _, _, _, e1, e2, hh⟩
/-! a duel: who (0, 1; 2 neither), after how many -/
def dul (s a b : Nat) : Nat → Nat → Int32 → Nat → Nat × Nat
  | 0, i, _, _ => (2, i)
  | j + 1, i, x, T => if (T % 10000 * 10 + drw s (nxt x)) % 10 ^ wl a = a then (0, i + 1) else if (T % 10000 * 10 + drw s (nxt x)) % 10 ^ wl b = b then (1, i + 1) else dul s a b j (i + 1) (nxt x) (T % 10000 * 10 + drw s (nxt x))
theorem dul_le {s a b : Nat} : ∀ j i x T, (dul s a b j i x T).2 ≤ i + j ∧ (dul s a b j i x T).1 ≤ 2 ∧ ((dul s a b j i x T).1 = 2 → (dul s a b j i x T).2 = i + j) ∧ i ≤ (dul s a b j i x T).2
  | 0, i, x, T => ⟨Nat.le_refl _, Nat.le_refl _, fun _ => rfl, Nat.le_refl _⟩
  | j + 1, i, x, T => by
    simp only [dul]
    split
    · exact ⟨by dsimp only; omega, by dsimp only; omega, fun h => by dsimp only at h; omega, by dsimp only; omega⟩
    · split
      · exact ⟨by dsimp only; omega, by dsimp only; omega, fun h => by dsimp only at h; omega, by dsimp only; omega⟩
      · have := dul_le (s := s) (a := a) (b := b) j (i + 1) (nxt x) (T % 10000 * 10 + drw s (nxt x))
        refine ⟨by omega, this.2.1, fun h => ?_, by omega⟩
        have := this.2.2.1 h
        omega
def wI (c : Nat) : Int32 := if c = 2 then -5 else nI c
theorem c_runL (d : Nat) (hd : 3 ≤ d) {s a b : Nat} {sd : Int32} (hs : s = 2 ∨ s = 3) (ha1 : 1 ≤ a) (ha : a < 100000) (hb1 : 1 ≤ b) (hb : b < 100000) : ∀ (j i f : Nat) (x : Int32) (T : Nat) (I : Nat → Int32), i + j = 60 → 4 * j + 1 < f → T < 100000 → I 4400 = -5 → I 4401 = nI i → ∃ I', (∀ t, zR d f 19 17 [some (.ref 44), some (.int (nI a)), some (.int (nI b)), some (.int sd), some (.int (nI s)), some (.int x), some (.int (nI T))] [] (hC I A, t) = some (none, (hC I' A, t))) ∧ (∀ c, c ≠ 4400 → c ≠ 4401 → I' c = I c) ∧ I' 4400 = wI (dul s a b j i x T).1 ∧ I' 4401 = nI (dul s a b j i x T).2 := by
  intro j
  induction j with
  | zero =>
    intro i f x T I hi hf hT h0 h1
    obtain ⟨f, rfl⟩ : ∃ e, f = e + 1 := ⟨f - 1, by omega⟩
    refine ⟨I, fun t => ?_, fun c _ _ => rfl, h0, h1⟩
    rw [e_X1_run_at17, h1, pn_t (show (60 : Int32) ≤ nI i from nI_le (a := 60) (by omega) (by omega))]
  | succ j ih =>
    intro i f x T I hi hf hT h0 h1
    obtain ⟨f, rfl⟩ : ∃ e, f = e + 1 + 1 + 1 + 1 + 1 := ⟨f - 5, by omega⟩
    have hdr := drw_ok (s := s) (x := nxt x) (by omega)
    have hT2 : T % 10000 * 10 + drw s (nxt x) < 100000 := by omega
    simp only [dul]
    generalize hU : T % 10000 * 10 + drw s (nxt x) = U at hT2 ⊢
    have e17 : ∀ g t, zR d (g + 1) 19 17 [some (.ref 44), some (.int (nI a)), some (.int (nI b)), some (.int sd), some (.int (nI s)), some (.int x), some (.int (nI T))] [] (hC I A, t) = zR d g 19 54 [some (.ref 44), some (.int (nI a)), some (.int (nI b)), some (.int sd), some (.int (nI s)), some (.int (nxt x)), some (.int (nI T))] [(.int (nI U))] (hC I A, t) := fun g t => by
      rw [e_X1_run_at17, h1, pn_f (show ¬ (60 : Int32) ≤ nI i from nI_ge (b := 60) (by omega) (by decide)), h0, pn_f (fun q => q rfl), s_next (by omega), pn_c1, s_drawn (by omega) _ hs, pn_c1, s_grown (by omega) _ hT, pn_c1, hU]
    by_cases ca : U % 10 ^ wl a = a
    · rw [if_pos ca]
      refine ⟨upd (upd I 4401 (nI (i + 1))) 4400 0, fun t => ?_, fun c g1 g2 => by rw [upd_ne g1, upd_ne g2], rfl, rfl⟩
      rw [e17, e_X1_run_at54, h1, nI_1, s_endsWith hd _ hT2 ha1 ha, pn_c1, decide_eq_true ca, b01_t, e_X1_run_at72, d_10, cond_false, e_X1_run_at17]
      by_cases c60 : (60 : Int32) ≤ upd (upd I 4401 (nI (i + 1))) 4400 0 4401
      · rw [pn_t c60]
      · rw [pn_f c60, upd_eq, pn_t (by decide)]
    · rw [if_neg ca]
      by_cases cb : U % 10 ^ wl b = b
      · rw [if_pos cb]
        refine ⟨upd (upd I 4401 (nI (i + 1))) 4400 1, fun t => ?_, fun c g1 g2 => by rw [upd_ne g1, upd_ne g2], rfl, rfl⟩
        rw [e17, e_X1_run_at54, h1, nI_1, s_endsWith hd _ hT2 ha1 ha, pn_c1, decide_eq_false ca, b01_f, e_X1_run_at72, d_00, cond_true, s_endsWith hd _ hT2 hb1 hb, pn_c1, decide_eq_true cb, b01_t, e_X1_run_at89, d_10, cond_false, e_X1_run_at17]
        by_cases c60 : (60 : Int32) ≤ upd (upd I 4401 (nI (i + 1))) 4400 1 4401
        · rw [pn_t c60]
        · rw [pn_f c60, upd_eq, pn_t (by decide)]
      · rw [if_neg cb]
        obtain ⟨I', b1, b2, b3, b4⟩ := ih (i + 1) (f + 1) (nxt x) U (upd I 4401 (nI (i + 1))) (by omega) (by omega) hT2 ((upd_ne (by decide)).trans h0) upd_eq
        refine ⟨I', fun t => ?_, fun c g1 g2 => by rw [b2 c g1 g2, upd_ne g2], b3, b4⟩
        rw [e17, e_X1_run_at54, h1, nI_1, s_endsWith hd _ hT2 ha1 ha, pn_c1, decide_eq_false ca, b01_f, e_X1_run_at72, d_00, cond_true, s_endsWith hd _ hT2 hb1 hb, pn_c1, decide_eq_false cb, b01_f, e_X1_run_at89, d_00, cond_true]
        exact b1 t
theorem c_run {d s a b : Nat} {sd : Int32} (hd : 4 ≤ d) (hs : s = 2 ∨ s = 3) (ha1 : 1 ≤ a) (ha : a < 100000) (hb1 : 1 ≤ b) (hb : b < 100000) : ∃ I', (∀ t, zC d 19 [.ref 44, .int (nI a), .int (nI b), .int sd, .int (nI s)] (hC I A, t) = some (none, (hC I' A, t))) ∧ (∀ c, c ≠ 4400 → c ≠ 4401 → I' c = I c) ∧ I' 4400 = wI (dul s a b 60 0 sd 0).1 ∧ I' 4401 = nI (dul s a b 60 0 sd 0).2 := by
  obtain ⟨d, rfl⟩ : ∃ e, d = e + 1 := ⟨d - 1, by omega⟩
  obtain ⟨I', b1, b2, b3, b4⟩ := c_runL (A := A) (sd := sd) d (by omega) hs ha1 ha hb1 hb 60 0 10000000 sd 0 (upd (upd I 4400 (-5)) 4401 0) (by omega) (by omega) (by omega) rfl rfl
  exact ⟨I', fun t => (e_X1_run d I A t (nI a) (nI b) sd (nI s)).trans (b1 t), fun c g1 g2 => by rw [b2 c g1 g2, upd_ne g2, upd_ne g1], b3, b4⟩
def dlN (q : Nat × Nat) : Nat := if q.1 = 2 then 260 else 100 * q.1 + q.2
theorem dlN_0 (x : Nat) : dlN (0, x) = x := by unfold dlN; simp
theorem dlN_1 (x : Nat) : dlN (1, x) = 100 + x := by unfold dlN; simp
theorem r_duelsL (d : Nat) (hd : 1 ≤ d) {s a b : Nat} {sd : Int32} (hJ : J 0 = nI s) (hs : s = 2 ∨ s = 3) (ha : a < 100000) (hb : b < 100000) : ∀ (j i f : Nat) (x : Int32) (T : Nat), i + j = 60 → j < f → T < 100000 → zR d f 193 9 [some (.ref 1000), some (.int (nI a)), some (.int (nI b)), some (.int sd), some (.int x), some (.int (nI T)), some (.int (nI (i + 1)))] [] (t, hM J B L) = some (some (.int (nI (dlN (dul s a b j i x T)))), (t, hM J B L)) := by
  have la := wl_le a
  have lb := wl_le b
  have ha10 := p10_lt (k := wl a) (by omega)
  have hb10 := p10_lt (k := wl b) (by omega)
  have hpa := p10_pos (wl a)
  have hpb := p10_pos (wl b)
  intro j
  induction j with
  | zero =>
    intro i f x T hi hf hT
    obtain ⟨f, rfl⟩ : ∃ e, f = e + 1 := ⟨f - 1, by omega⟩
    rw [e_X10_duels_at9, pn_t (show (60 : Int32) < nI (i + 1) from nI_lt (a := 60) (by omega) (by omega))]
    rfl
  | succ j ih =>
    intro i f x T hi hf hT
    obtain ⟨f, rfl⟩ : ∃ e, f = e + 1 := ⟨f - 1, by omega⟩
    have hdr := drw_ok (s := s) (x := nxt x) (by omega)
    have hU : (10 * T + drw s (nxt x)) % 100000 = T % 10000 * 10 + drw s (nxt x) := by omega
    have hT2 : T % 10000 * 10 + drw s (nxt x) < 100000 := by omega
    have hva : (T % 10000 * 10 + drw s (nxt x)) % 10 ^ wl a < 2 ^ 31 := Nat.lt_of_le_of_lt (Nat.mod_le _ _) (by omega)
    have hvb : (T % 10000 * 10 + drw s (nxt x)) % 10 ^ wl b < 2 ^ 31 := Nat.lt_of_le_of_lt (Nat.mod_le _ _) (by omega)
    rw [e_X10_duels_at9, pn_f (show ¬ (60 : Int32) < nI (i + 1) from nI_nlt (a := 60) (by omega) (by decide)), show x * 1103515245 + 12345 = nxt x from rfl, r_drawn hd hJ hs, pn_c1, r_sizeW hd _ ha, pn_c1, r_ten hd _ (by omega), pn_c1, show (0 : Int32) = nI 0 from rfl, pn_eq ha10 (by decide), pn_f (by omega)]
    rw [show (10 : Int32) = nI 10 from rfl, show (100000 : Int32) = nI 100000 from rfl, pk_mul, nI_add, pk_rem (show 10 * T + drw s (nxt x) < 2 ^ 31 by omega) (by decide) (by decide), hU, pk_rem (show T % 10000 * 10 + drw s (nxt x) < 2 ^ 31 by omega) hpa ha10, pn_ne hva (by omega)]
    simp only [dul]
    by_cases ca : (T % 10000 * 10 + drw s (nxt x)) % 10 ^ wl a = a
    · rw [pn_f (by simpa using ca), if_pos ca]
      have : dlN (0, i + 1) = i + 1 := dlN_0 _
      rw [this]
    · rw [pn_t ca, if_neg ca, r_sizeW hd _ hb, pn_c1, r_ten hd _ (by omega), pn_c1, pn_eq hb10 (by decide), pn_f (by omega), pk_rem (show T % 10000 * 10 + drw s (nxt x) < 2 ^ 31 by omega) hpb hb10, pn_ne hvb (by omega)]
      by_cases cb : (T % 10000 * 10 + drw s (nxt x)) % 10 ^ wl b = b
      · have : dlN (1, i + 1) = 100 + (i + 1) := dlN_1 _
        rw [pn_f (by simpa using cb), if_pos cb, this, show (100 : Int32) = nI 100 from rfl, nI_add]
      · rw [pn_t cb, if_neg cb, nI_1, ih (i + 1) f (nxt x) _ (by omega) (by omega) hT2]
theorem r_duels {d s a b : Nat} {sd : Int32} (hd : 2 ≤ d) (hJ : J 0 = nI s) (hs : s = 2 ∨ s = 3) (ha : a < 100000) (hb : b < 100000) : zC d 193 [.ref 1000, .int (nI a), .int (nI b), .int sd] (t, hM J B L) = some (some (.int (nI (dlN (dul s a b 60 0 sd 0)))), (t, hM J B L)) := by
  obtain ⟨d, rfl⟩ : ∃ e, d = e + 1 := ⟨d - 1, by omega⟩
  rw [e_X10_duels]
  exact r_duelsL d (by omega) hJ hs ha hb 60 0 10000000 sd 0 (by omega) (by omega) (by omega)
end JU
/-! the run of 60 throws, as one function that nothing unfolds -/
theorem du_ex : ∃ F : Nat → Nat → Nat → Int32 → Nat × Nat, ∀ s a b x, F s a b x = dul s a b 60 0 x 0 := ⟨fun s a b x => dul s a b 60 0 x 0, fun _ _ _ _ => rfl⟩
noncomputable def du60 : Nat → Nat → Nat → Int32 → Nat × Nat := Classical.choose du_ex
theorem du_def (s a b : Nat) (x : Int32) : du60 s a b x = dul s a b 60 0 x 0 := Classical.choose_spec du_ex s a b x
theorem du_le (s a b : Nat) (x : Int32) : (du60 s a b x).2 ≤ 60 ∧ (du60 s a b x).1 ≤ 2 ∧ ((du60 s a b x).1 = 2 → (du60 s a b x).2 = 60) ∧ 0 ≤ (du60 s a b x).2 := by
  have h := dul_le (s := s) (a := a) (b := b) 60 0 x 0
  rw [← du_def] at h
  exact h
theorem c_run2 {I : Nat → Int32} {A : Nat → Nat → Int32} {d s a b : Nat} {sd : Int32} (hd : 4 ≤ d) (hs : s = 2 ∨ s = 3) (ha1 : 1 ≤ a) (ha : a < 100000) (hb1 : 1 ≤ b) (hb : b < 100000) : ∃ I', (∀ t, zC d 19 [.ref 44, .int (nI a), .int (nI b), .int sd, .int (nI s)] (hC I A, t) = some (none, (hC I' A, t))) ∧ (∀ c, c ≠ 4400 → c ≠ 4401 → I' c = I c) ∧ I' 4400 = wI (du60 s a b sd).1 ∧ I' 4401 = nI (du60 s a b sd).2 := by
  rw [du_def]
  exact c_run hd hs ha1 ha hb1 hb
theorem r_duels2 {J : Nat → Int32} {B : Nat → Nat → Int32} {L : Nat → Nat → Int64} {t : List zm_E} {d s a b : Nat} {sd : Int32} (hd : 2 ≤ d) (hJ : J 0 = nI s) (hs : s = 2 ∨ s = 3) (ha : a < 100000) (hb : b < 100000) : zC d 193 [.ref 1000, .int (nI a), .int (nI b), .int sd] (t, hM J B L) = some (some (.int (nI (dlN (du60 s a b sd)))), (t, hM J B L)) := by
  rw [du_def]
  exact r_duels hd hJ hs ha hb
/-! duel, odds -/
section DU
variable {I : Nat → Int32} {A : Nat → Nat → Int32} {J : Nat → Int32} {B : Nat → Nat → Int32} {L : Nat → Nat → Int64} {t : List zm_E} {p n : Nat}
theorem c_tw0 {d : Nat} (hd : 2 ≤ d) (hp : I 102 = nI p) (p4 : p ≤ 6) {x y : Int32} (h : ¬ two p x y) : zC d 2 [.ref 1, .int x, .int y] (hC I A, t) = some (some (.int 0), (hC I A, t)) := by
  obtain ⟨d, rfl⟩ : ∃ e, d = e + 1 := ⟨d - 1, by omega⟩
  have nx : ∀ q : x < 0 ∨ nI p ≤ x, zC (d + 1) 2 [.ref 1, .int x, .int y] (hC I A, t) = some (some (.int 0), (hC I A, t)) := fun q => by
    rw [e_X0_areTwoWords, c_hw0 (by omega) hp q, pn_c1, d_00, cond_true]
  rcases pk_ix x (n := p) (by omega) with q | q | ⟨i, hi, rfl⟩
  · exact nx (Or.inl q)
  · exact nx (Or.inr q)
  have ny : ∀ q : y < 0 ∨ nI p ≤ y, zC (d + 1) 2 [.ref 1, .int (nI i), .int y] (hC I A, t) = some (some (.int 0), (hC I A, t)) := fun q => by
    rw [e_X0_areTwoWords, c_hw1 (by omega) hp p4 hi, pn_c1, d_10, cond_false, c_hw0 (by omega) hp q, pn_c1, d_00, cond_true]
  rcases pk_ix y (n := p) (by omega) with q | q | ⟨j, hj, rfl⟩
  · exact ny (Or.inl q)
  · exact ny (Or.inr q)
  have e : i = j := by
    rcases Nat.decEq i j with q | q
    · exact absurd ⟨i, j, hi, hj, q, rfl, rfl⟩ h
    · exact q
  rw [e_X0_areTwoWords, c_hw1 (by omega) hp p4 hi, pn_c1, d_10, cond_false, c_hw1 (by omega) hp p4 hj, pn_c1, d_10, cond_false, pn_t (by rw [e])]
theorem c_tw1 {d i j : Nat} (hd : 2 ≤ d) (hp : I 102 = nI p) (p4 : p ≤ 6) (hi : i < p) (hj : j < p) (h : i ≠ j) : zC d 2 [.ref 1, .int (nI i), .int (nI j)] (hC I A, t) = some (some (.int 1), (hC I A, t)) := by
  obtain ⟨d, rfl⟩ : ∃ e, d = e + 1 := ⟨d - 1, by omega⟩
  rw [e_X0_areTwoWords, c_hw1 (by omega) hp p4 hi, pn_c1, d_10, cond_false, c_hw1 (by omega) hp p4 hj, pn_c1, d_10, cond_false, pn_eq (by omega) (by omega), pn_f h]
theorem P_duel (h : Rel I A J B) (x y sd u : Int32) : Ans 103 194 [.int x, .int y, .int sd, .int u] I A J B L := by
  have hh := h
  obtain ⟨⟨⟨s, ⟨n, w⟩, ⟨z, l⟩, ⟨p, k, o⟩, ⟨r, a, v⟩⟩, hv, hc, hm⟩, -⟩ := h
  have c1 : I 100 = nI s := hc.1
  have m1 : J 0 = nI s := hm.1
  have c2 : I 102 = nI n := hc.2.1.1
  have m2 : J 2 = nI n := hm.2.1.1
  have n6 : n ≤ 6 := hv.2.1.1
  have e1 := fun t => e_X9_duel 59 I A t x y sd u
  have e2 := fun t => e_X10_duel 59 J B L t x y sd u
  by_cases g : two n x y
  · obtain ⟨i, j, hi, hj, hij, rfl, rfl⟩ := g
    have wi := okw_lt (hv.2.1.2 i hi)
    have wj := okw_lt (hv.2.1.2 j hj)
    have a1 : A 2 i = nI (w i) := hc.2.1.2 i hi
    have a2 : A 2 j = nI (w j) := hc.2.1.2 j hj
    have b1 : B 1 i = nI (w i) := hm.2.1.2 i hi
    have b2 : B 1 j = nI (w j) := hm.2.1.2 j hj
    have nij : ¬ nI i = nI j := fun q => hij ((nI_eq (by omega) (by omega)).mp q)
    simp only [c_tw1 (A := A) (show 2 ≤ 59 by omega) c2 n6 hi hj hij, pn_c1, F1, e_X9_duel_at9, d_10, cond_false] at e1
    simp only [r_iw1 (B := B) (L := L) (show 2 ≤ 59 by omega) m2 n6 hi, r_iw1 (B := B) (L := L) (show 2 ≤ 59 by omega) m2 n6 hj, pn_c1, d_10, cond_false, pn_f nij, r_in (show 1 ≤ 59 by omega), F1, e_X10_duel_at28] at e2
    by_cases g : ∃ j, j ≤ 1 ∧ u = nI j
    · have g' : decide (0 ≤ u ∧ u ≤ 1) = true := (i_02 (n := 1) (by omega)).mpr g
      simp only [g', b01_t, d_n10, cond_true, pn_in (show i < 6 by omega) (show 6 < 2 ^ 31 by omega), pn_in (show j < 6 by omega) (show 6 < 2 ^ 31 by omega), pn_cl (show i < 2 ^ 31 by omega), pn_cl (show j < 2 ^ 31 by omega), b1, b2, r_apart (show 3 ≤ 59 by omega) _ wi.1 wi.2 wj.1 wj.2, pn_c1, F2, e_X10_duel_at48] at e2
      obtain ⟨c, hc', rfl⟩ := g
      simp only [pn_f (nI_pos (show c < 2 ^ 31 by omega)), pn_t (show nI c ≤ (1 : Int32) from nI_le (b := 1) hc' (by decide)), c_wa (A := A) (show 2 ≤ 59 by omega) c2 n6 hi, pn_c1, a1, F2, e_X9_duel_at33, c_wa (A := A) (show 2 ≤ 59 by omega) c2 n6 hj, a2, s_clash (show 3 ≤ 59 by omega) _ (show w i < 2 ^ 31 by omega) (show w j < 2 ^ 31 by omega), F3, e_X9_duel_at52] at e1
      cases hb : (inn (w i) (w j) || inn (w j) (w i)) with
      | true =>
        simp only [hb, b01_t, d_10, cond_false] at e1
        simp only [hb, Bool.not_true, b01_f, d_n00, cond_false] at e2
        exact ⟨_, _, _, _, _, _, e1, e2, hh⟩
      | false =>
        obtain ⟨I', r1, r2, r3, r4⟩ := c_run2 (I := I) (A := A) (sd := sd) (show 4 ≤ 59 by omega) hv.1 wi.1 wi.2 wj.1 wj.2
        have hdl := du_le s (w i) (w j) sd
        simp only [hb, b01_f, d_00, cond_true, c1, r1, pn_c0, F4, e_X9_duel_at77, r3, r4] at e1
        simp only [hb, Bool.not_false, b01_t, d_n10, cond_true, pn_in (show i < 6 by omega) (show 6 < 2 ^ 31 by omega), pn_in (show j < 6 by omega) (show 6 < 2 ^ 31 by omega), pn_cl (show i < 2 ^ 31 by omega), pn_cl (show j < 2 ^ 31 by omega), b1, b2, r_duels2 (show 2 ≤ 59 by omega) m1 hv.1 wi.2 wj.2, pn_c1] at e2
        have hR : Rel I' A J B := Rel_fr hh (fun c hc => r2 c (by omega) (by omega)) (fun c _ _ => rfl) (fun c _ => rfl) (fun c _ => rfl)
        generalize du60 s (w i) (w j) sd = Q at e1 e2 hdl
        obtain ⟨W, N⟩ := Q
        dsimp only at e1 e2 hdl
        have hj' : c = 0 ∨ c = 1 := by omega
        have hW : W = 0 ∨ W = 1 ∨ W = 2 := by omega
        rcases hj' with rfl | rfl
        · simp only [pn_f (show ¬ ¬ nI 0 = 0 by decide)] at e1
          simp only [pn_t (show ¬ nI 0 = 1 by decide)] at e2
          rcases hW with rfl | rfl | rfl
          · have hN : dlN (0, N) = N := dlN_0 N
            simp only [hN, pn_t (show nI N < (200 : Int32) from nI_lt (b := 200) (by omega) (by decide)), show nI N / 100 = nI (N / 100) from pk_div (d := 100) (by omega) (by decide) (by decide), show N / 100 = 0 by omega] at e2
            exact ⟨_, _, _, _, _, _, e1, e2, hR⟩
          · have hN : dlN (1, N) = 100 + N := dlN_1 N
            simp only [hN, pn_t (show nI (100 + N) < (200 : Int32) from nI_lt (b := 200) (by omega) (by decide)), show nI (100 + N) / 100 = nI ((100 + N) / 100) from pk_div (d := 100) (by omega) (by decide) (by decide), show (100 + N) / 100 = 1 by omega] at e2
            exact ⟨_, _, _, _, _, _, e1, e2, hR⟩
          · have hN : dlN (2, N) = 260 := rfl
            simp only [hN, pn_f (show ¬ nI 260 < (200 : Int32) by decide)] at e2
            exact ⟨_, _, _, _, _, _, e1, e2, hR⟩
        · simp only [pn_t (show ¬ nI 1 = 0 by decide)] at e1
          simp only [pn_f (show ¬ ¬ nI 1 = 1 by decide)] at e2
          have hN : dlN (W, N) < 2 ^ 31 ∧ dlN (W, N) % 100 = N := by
            rcases hW with rfl | rfl | rfl
            · rw [dlN_0]; omega
            · rw [dlN_1]; omega
            · have := hdl.2.2.1 rfl
              unfold dlN; rw [if_pos rfl]; omega
          simp only [show nI (dlN (W, N)) - nI (dlN (W, N)) / 100 * 100 = nI (dlN (W, N) % 100) from pk_rem (d := 100) hN.1 (by decide) (by decide), hN.2] at e2
          exact ⟨_, _, _, _, _, _, e1, e2, hR⟩
    · have g' : decide (0 ≤ u ∧ u ≤ 1) = false := Bool.eq_false_iff.mpr (fun q => g ((i_02 (n := 1) (by omega)).mp q))
      simp only [g', b01_f, d_n00, cond_false] at e2
      by_cases u0 : u < 0
      · simp only [pn_t u0] at e1
        exact ⟨_, _, _, _, _, _, e1, e2, hh⟩
      · have u1 : ¬ u ≤ 1 := fun q => by
          have := (decide_eq_true_eq (p := 0 ≤ u ∧ u ≤ 1)).mpr ⟨Int32.not_lt.mp u0, q⟩
          rw [g'] at this
          cases this
        simp only [pn_f u0, pn_f u1] at e1
        exact ⟨_, _, _, _, _, _, e1, e2, hh⟩
  · simp only [c_tw0 (A := A) (show 2 ≤ 59 by omega) c2 n6 g, pn_c1, F1, e_X9_duel_at9, d_00, cond_true] at e1
    rcases pk_ix x (n := n) (by omega) with q | q | ⟨i, hi, rfl⟩
    · simp only [r_iw0 (B := B) (L := L) (show 2 ≤ 59 by omega) m2 n6 (Or.inl q), pn_c1, d_00, cond_true] at e2
      exact ⟨_, _, _, _, _, _, e1, e2, hh⟩
    · simp only [r_iw0 (B := B) (L := L) (show 2 ≤ 59 by omega) m2 n6 (Or.inr q), pn_c1, d_00, cond_true] at e2
      exact ⟨_, _, _, _, _, _, e1, e2, hh⟩
    simp only [r_iw1 (B := B) (L := L) (show 2 ≤ 59 by omega) m2 n6 hi, pn_c1, d_10, cond_false] at e2
    rcases pk_ix y (n := n) (by omega) with q | q | ⟨j, hj, rfl⟩
    · simp only [r_iw0 (B := B) (L := L) (show 2 ≤ 59 by omega) m2 n6 (Or.inl q), pn_c1, d_00, cond_true] at e2
      exact ⟨_, _, _, _, _, _, e1, e2, hh⟩
    · simp only [r_iw0 (B := B) (L := L) (show 2 ≤ 59 by omega) m2 n6 (Or.inr q), pn_c1, d_00, cond_true] at e2
      exact ⟨_, _, _, _, _, _, e1, e2, hh⟩
    have e : i = j := by
      rcases Nat.decEq i j with q | q
      · exact absurd ⟨i, j, hi, hj, q, rfl, rfl⟩ g
      · exact q
    subst e
    simp only [r_iw1 (B := B) (L := L) (show 2 ≤ 59 by omega) m2 n6 hi, pn_c1, d_10, cond_false, pn_t (show nI i = nI i from rfl)] at e2
    exact ⟨_, _, _, _, _, _, e1, e2, hh⟩
/-- how many of m seeds from i on (j left) the first one wins -/
noncomputable def won (s a b : Nat) (sd : Int32) : Nat → Nat → Nat → Nat
  | 0, _, c => c
  | j + 1, i, c => won s a b sd j (i + 1) (if (du60 s a b (sd + nI i)).1 = 0 then c + 1 else c)
theorem won_le {s a b : Nat} {sd : Int32} : ∀ j i c, won s a b sd j i c ≤ c + j
  | 0, _, _ => Nat.le_refl _
  | j + 1, i, c => by
    simp only [won]
    have := won_le (s := s) (a := a) (b := b) (sd := sd) j (i + 1) (if (du60 s a b (sd + nI i)).1 = 0 then c + 1 else c)
    split at this <;> split <;> omega
theorem c_oddsL (d : Nat) (hd : 4 ≤ d) {s a b m : Nat} {x1 x2 sd u : Int32} (hs : s = 2 ∨ s = 3) (ha1 : 1 ≤ a) (ha : a < 100000) (hb1 : 1 ≤ b) (hb : b < 100000) (hm1 : 1 ≤ m) (hm : m ≤ 30) : ∀ (j i f c : Nat) (I : Nat → Int32), i + j = m → c ≤ i → 2 * j < f → I 100 = nI s → ∃ I', (∀ t, zR d f 104 77 [some (.ref 0), some (.int x1), some (.int x2), some (.int sd), some (.int (nI m)), some (.int u), some (.int (nI a)), some (.int (nI b)), some (.int (nI c)), some (.int (nI i))] [] (hC I A, t) = some (some (.long (fL (Int32.toInt64 (nI (won s a b sd j i c))) (Int32.toInt64 (nI m)) (if u = 0 then Int32.toInt64 (nI (won s a b sd j i c)) else Int32.toInt64 (nI m)))), (hC I' A, t))) ∧ ∀ c, c ≤ 1701 → I' c = I c := by
  intro j
  induction j with
  | zero =>
    intro i f c I hi hci hf c1
    obtain ⟨f, rfl⟩ : ∃ e, f = e + 1 := ⟨f - 1, by omega⟩
    refine ⟨I, fun t => ?_, fun c _ => rfl⟩
    rw [e_X9_odds_at77, pn_t (nI_le (by omega) (by omega)), s_partOf (by omega) _ _ _ u (by rw [Int32.toInt_toInt64, nI_toInt (by omega)]; omega) (by rw [Int32.toInt_toInt64, nI_toInt (by omega)]; omega) (by rw [Int32.toInt_toInt64, nI_toInt (by omega)]; omega), pn_c2]
    rfl
  | succ j ih =>
    intro i f c I hi hci hf c1
    obtain ⟨f, rfl⟩ : ∃ e, f = e + 1 + 1 := ⟨f - 2, by omega⟩
    obtain ⟨I1, r1, r2, r3, r4⟩ := c_run2 (I := I) (A := A) (sd := sd + nI i) hd hs ha1 ha hb1 hb
    have hdl := (du_le s (a) (b) (sd + nI i)).2.1
    simp only [won]
    by_cases cw : (du60 s a b (sd + nI i)).1 = 0
    · obtain ⟨I', b1, b2⟩ := ih (i + 1) f (c + 1) I1 (by omega) (by omega) (by omega) ((r2 100 (by decide) (by decide)).trans c1)
      refine ⟨I', fun t => ?_, fun c hc => (b2 c hc).trans (r2 c (by omega) (by omega))⟩
      rw [if_pos cw, e_X9_odds_at77, pn_f (nI_ge (by omega) (by omega)), c1, r1, pn_c0, e_X9_odds_at106, r3, cw, pn_f (by decide), nI_1, nI_1]
      exact b1 t
    · obtain ⟨I', b1, b2⟩ := ih (i + 1) f c I1 (by omega) (by omega) (by omega) ((r2 100 (by decide) (by decide)).trans c1)
      refine ⟨I', fun t => ?_, fun c hc => (b2 c hc).trans (r2 c (by omega) (by omega))⟩
      have hw : ¬ wI (du60 s a b (sd + nI i)).1 = 0 := by
        have : (du60 s a b (sd + nI i)).1 = 1 ∨ (du60 s a b (sd + nI i)).1 = 2 := by omega
        rcases this with e | e <;> rw [e] <;> decide
      rw [if_neg cw, e_X9_odds_at77, pn_f (nI_ge (by omega) (by omega)), c1, r1, pn_c0, e_X9_odds_at106, r3, pn_t hw, nI_1]
      exact b1 t
theorem r_oddsL (d : Nat) (hd : 2 ≤ d) {s a b m k1 k2 : Nat} {sd u : Int32} (hJ : J 0 = nI s) (hs : s = 2 ∨ s = 3) (ha : a < 100000) (hb : b < 100000) (hm1 : 1 ≤ m) (hm : m ≤ 30) (h1 : k1 < 6) (h2 : k2 < 6) (b1 : B 1 k1 = nI a) (b2 : B 1 k2 = nI b) : ∀ (j i f c : Nat), i + j = m → c ≤ i → j < f → zR d f 195 68 [some (.ref 1000), some (.int (nI k1)), some (.int (nI k2)), some (.int sd), some (.int (nI m)), some (.int u), some (.int (nI c)), some (.int (nI i))] [] (t, hM J B L) = some (some (.long (fL (Int32.toInt64 (nI (won s a b sd j i c))) (Int32.toInt64 (nI m)) (if u = 0 then Int32.toInt64 (nI (won s a b sd j i c)) else Int32.toInt64 (nI m)))), (t, hM J B L)) := by
  intro j
  induction j with
  | zero =>
    intro i f c hi hci hf
    obtain ⟨f, rfl⟩ : ∃ e, f = e + 1 := ⟨f - 1, by omega⟩
    rw [e_X10_odds_at68, pn_t (nI_le (by omega) (by omega)), r_lowest (by omega) _ _ _ u (by rw [Int32.toInt_toInt64, nI_toInt (by omega)]; omega) (by rw [Int32.toInt_toInt64, nI_toInt (by omega)]; omega) (by rw [Int32.toInt_toInt64, nI_toInt (by omega)]; omega), pn_c2]
    rfl
  | succ j ih =>
    intro i f c hi hci hf
    obtain ⟨f, rfl⟩ : ∃ e, f = e + 1 := ⟨f - 1, by omega⟩
    have hdl := du_le s (a) (b) (sd + nI i)
    rw [e_X10_odds_at68, pn_f (nI_ge (by omega) (by omega)), pn_in h1 (by decide), cond_true, pn_in h2 (by decide), cond_true, pn_cl (show k1 < 2 ^ 31 by omega), pn_cl (show k2 < 2 ^ 31 by omega), b1, b2, r_duels hd hJ hs ha hb, pn_c1, nI_1, nI_1]
    simp only [won]
    by_cases cw : (du60 s a b (sd + nI i)).1 = 0
    · have hN : dlN (du60 s a b (sd + nI i)) < 100 := by
        unfold dlN
        rw [cw, if_neg (by decide)]
        omega
      rw [if_pos cw, pn_f (show ¬ (100 : Int32) ≤ nI (dlN (du60 s a b (sd + nI i))) from nI_ge (b := 100) hN (by decide)), ih (i + 1) f (c + 1) (by omega) (by omega) (by omega)]
    · have hN : 100 ≤ dlN (du60 s a b (sd + nI i)) ∧ dlN (du60 s a b (sd + nI i)) < 2 ^ 31 := by
        unfold dlN
        split <;> omega
      rw [if_neg cw, pn_t (show (100 : Int32) ≤ nI (dlN (du60 s a b (sd + nI i))) from nI_le (a := 100) hN.1 hN.2), ih (i + 1) f c (by omega) (by omega) (by omega)]
theorem P_odds (h : Rel I A J B) (x y sd m u : Int32) : AnsL 104 195 [.int x, .int y, .int sd, .int m, .int u] I A J B L := by
  have hh := h
  obtain ⟨⟨⟨s, ⟨n, w⟩, ⟨z, l⟩, ⟨p, k, o⟩, ⟨r, a, v⟩⟩, hv, hc, hm⟩, -⟩ := h
  have c1 : I 100 = nI s := hc.1
  have m1 : J 0 = nI s := hm.1
  have c2 : I 102 = nI n := hc.2.1.1
  have m2 : J 2 = nI n := hm.2.1.1
  have n6 : n ≤ 6 := hv.2.1.1
  have e1 := fun t => e_X9_odds 59 I A t x y sd m u
  have e2 := fun t => e_X10_odds 59 J B L t x y sd m u
  by_cases g : two n x y
  · obtain ⟨i, j, hi, hj, hij, rfl, rfl⟩ := g
    have wi := okw_lt (hv.2.1.2 i hi)
    have wj := okw_lt (hv.2.1.2 j hj)
    have a1 : A 2 i = nI (w i) := hc.2.1.2 i hi
    have a2 : A 2 j = nI (w j) := hc.2.1.2 j hj
    have b1 : B 1 i = nI (w i) := hm.2.1.2 i hi
    have b2 : B 1 j = nI (w j) := hm.2.1.2 j hj
    have nij : ¬ nI i = nI j := fun q => hij ((nI_eq (by omega) (by omega)).mp q)
    simp only [c_tw1 (A := A) (show 2 ≤ 59 by omega) c2 n6 hi hj hij, pn_c1, d_10, cond_false] at e1
    simp only [r_iw1 (B := B) (L := L) (show 2 ≤ 59 by omega) m2 n6 hi, r_iw1 (B := B) (L := L) (show 2 ≤ 59 by omega) m2 n6 hj, pn_c1, d_10, cond_false, pn_f nij, r_in (show 1 ≤ 59 by omega)] at e2
    by_cases h1 : m < 1
    · have g : decide (1 ≤ m ∧ m ≤ 30) = false := decide_eq_false (fun q => Int32.not_lt.mpr q.1 h1)
      simp only [pn_t h1] at e1
      simp only [g, b01_f, d_00, cond_true] at e2
      exact ⟨_, _, _, _, _, _, e1, e2, hh⟩
    by_cases h2 : 30 < m
    · have g : decide (1 ≤ m ∧ m ≤ 30) = false := decide_eq_false (fun q => Int32.not_lt.mpr q.2 h2)
      simp only [pn_f h1, pn_t h2] at e1
      simp only [g, b01_f, d_00, cond_true] at e2
      exact ⟨_, _, _, _, _, _, e1, e2, hh⟩
    have g : decide (1 ≤ m ∧ m ≤ 30) = true := decide_eq_true ⟨Int32.not_lt.mp h1, Int32.not_lt.mp h2⟩
    obtain ⟨c, hcm, rfl⟩ := i_rng (n := 31) (lo := 1) (by omega) (by decide) h1 (nle_of (n := 30) (by omega) (Int32.not_lt.mp h2))
    have hc1 : 1 ≤ c := by
      rcases Nat.eq_zero_or_pos c with q | q
      · rw [q] at h1; exact absurd (by decide) h1
      · exact q
    simp only [pn_f h1, pn_f h2, s_isPart (show 1 ≤ 59 by omega), pn_c1, F1, e_X9_odds_at30] at e1
    simp only [g, b01_t, d_10, cond_false, r_isPart (show 1 ≤ 59 by omega), pn_c1, F1, e_X10_odds_at37] at e2
    by_cases hu : u = 0 ∨ u = 1
    · simp only [decide_eq_true hu, b01_t, d_n10, cond_true, c_wa (A := A) (show 2 ≤ 59 by omega) c2 n6 hi, pn_c1, a1, F2, e_X9_odds_at45, c_wa (A := A) (show 2 ≤ 59 by omega) c2 n6 hj, a2, s_clash (show 3 ≤ 59 by omega) _ (show w i < 2 ^ 31 by omega) (show w j < 2 ^ 31 by omega)] at e1
      simp only [decide_eq_true hu, b01_t, d_10, cond_false, pn_in (show i < 6 by omega) (show 6 < 2 ^ 31 by omega), pn_in (show j < 6 by omega) (show 6 < 2 ^ 31 by omega), cond_true, pn_cl (show i < 2 ^ 31 by omega), pn_cl (show j < 2 ^ 31 by omega), b1, b2, r_apart (show 3 ≤ 59 by omega) _ wi.1 wi.2 wj.1 wj.2, pn_c1] at e2
      cases hb : (inn (w i) (w j) || inn (w j) (w i)) with
      | true =>
        simp only [hb, b01_t, d_10, cond_false] at e1
        simp only [hb, Bool.not_true, b01_f, d_n00, cond_false] at e2
        exact ⟨_, _, _, _, _, _, e1, e2, hh⟩
      | false =>
        obtain ⟨I', q1, q2⟩ := c_oddsL (A := A) (x1 := nI i) (x2 := nI j) (sd := sd) (u := u) 59 (by omega) hv.1 wi.1 wi.2 wj.1 wj.2 hc1 (show c ≤ 30 by omega) c 0 9999998 0 I (by omega) (by omega) (by omega) c1
        have r1 := fun t => r_oddsL (J := J) (B := B) (L := L) (t := t) (sd := sd) (u := u) 59 (by omega) m1 hv.1 wi.2 wj.2 hc1 (show c ≤ 30 by omega) (show i < 6 by omega) (show j < 6 by omega) b1 b2 c 0 9999999 0 (by omega) (by omega) (by omega)
        simp only [hb, b01_f, d_00, cond_true] at e1
        simp only [hb, Bool.not_false, b01_t, d_n10, cond_true] at e2
        have q1' : ∀ t, zR 59 9999998 104 77 [some (.ref 0), some (.int (nI i)), some (.int (nI j)), some (.int sd), some (.int (nI c)), some (.int u), some (.int (nI (w i))), some (.int (nI (w j))), some (.int 0), some (.int 0)] [] (hC I A, t) = _ := q1
        have r1' : ∀ t, zR 59 9999999 195 68 [some (.ref 1000), some (.int (nI i)), some (.int (nI j)), some (.int sd), some (.int (nI c)), some (.int u), some (.int 0), some (.int 0)] [] (t, hM J B L) = _ := r1
        exact ⟨_, _, _, _, _, _, fun t => (e1 t).trans (q1' t), fun t => (e2 t).trans (r1' t), Rel_fr hh q2 (fun c _ _ => rfl) (fun c _ => rfl) (fun c _ => rfl)⟩
    · simp only [decide_eq_false hu, b01_f, d_n00, cond_false] at e1
      simp only [decide_eq_false hu, b01_f, d_00, cond_true] at e2
      exact ⟨_, _, _, _, _, _, e1, e2, hh⟩
  · simp only [c_tw0 (A := A) (show 2 ≤ 59 by omega) c2 n6 g, pn_c1, d_00, cond_true] at e1
    rcases pk_ix x (n := n) (by omega) with q | q | ⟨i, hi, rfl⟩
    · simp only [r_iw0 (B := B) (L := L) (show 2 ≤ 59 by omega) m2 n6 (Or.inl q), pn_c1, d_00, cond_true] at e2
      exact ⟨_, _, _, _, _, _, e1, e2, hh⟩
    · simp only [r_iw0 (B := B) (L := L) (show 2 ≤ 59 by omega) m2 n6 (Or.inr q), pn_c1, d_00, cond_true] at e2
      exact ⟨_, _, _, _, _, _, e1, e2, hh⟩
    simp only [r_iw1 (B := B) (L := L) (show 2 ≤ 59 by omega) m2 n6 hi, pn_c1, d_10, cond_false] at e2
    rcases pk_ix y (n := n) (by omega) with q | q | ⟨j, hj, rfl⟩
    · simp only [r_iw0 (B := B) (L := L) (show 2 ≤ 59 by omega) m2 n6 (Or.inl q), pn_c1, d_00, cond_true] at e2
      exact ⟨_, _, _, _, _, _, e1, e2, hh⟩
    · simp only [r_iw0 (B := B) (L := L) (show 2 ≤ 59 by omega) m2 n6 (Or.inr q), pn_c1, d_00, cond_true] at e2
      exact ⟨_, _, _, _, _, _, e1, e2, hh⟩
    have e : i = j := by
      rcases Nat.decEq i j with q | q
      · exact absurd ⟨i, j, hi, hj, q, rfl, rfl⟩ g
      · exact q
    subst e
    simp only [r_iw1 (B := B) (L := L) (show 2 ≤ 59 by omega) m2 n6 hi, pn_c1, d_10, cond_false, pn_t (show nI i = nI i from rfl)] at e2
    exact ⟨_, _, _, _, _, _, e1, e2, hh⟩
end DU
/-! the tape -/
def apl (r : Nat) : Nat → Nat → Nat
  | 0, cl => cl
  | k + 1, cl => apl r k (cl * 10 + r)
abbrev TS : Type := Nat × (Nat → Nat) × Nat × Nat
def stT (s : Nat) (q : TS) (b : Nat) : Option TS := match q with
  | (m, T, cl, rp) => if b = 59 then (if cl = 0 then none else some (m + 1, (fun i => if i = m then cl else T i), 0, 0)) else if 50 ≤ b ∧ b ≤ 53 then (if rp = 0 then none else if wl cl + (b - 49) ≤ 5 then some (m, T, apl rp (b - 49) cl, 0) else none) else if 97 ≤ b ∧ b < 97 + s then (if wl cl + 1 ≤ 5 then some (m, T, cl * 10 + (b - 96), b - 96) else none) else none
def rnT (s : Nat) (c : Nat → Nat) : Nat → Nat → TS → Sum Nat (Nat × (Nat → Nat))
  | 0, i, q => if q.2.2.1 = 0 then .inl i else .inr (q.1 + 1, fun k => if k = q.1 then q.2.2.1 else q.2.1 k)
  | j + 1, i, q => match stT s q (c i) with
    | none => .inl i
    | some q' => rnT s c j (i + 1) q'
theorem rnT_n {s : Nat} {c : Nat → Nat} {j i : Nat} {q : TS} (h : stT s q (c i) = none) : rnT s c (j + 1) i q = .inl i := by
  simp only [rnT, h]
theorem rnT_s {s : Nat} {c : Nat → Nat} {j i : Nat} {q q' : TS} (h : stT s q (c i) = some q') : rnT s c (j + 1) i q = rnT s c j (i + 1) q' := by
  simp only [rnT, h]
theorem apl_dg {s r : Nat} (hs : s ≤ 3) (h1 : 1 ≤ r) (h2 : r ≤ s) : ∀ k n cl, dg s n cl → dg s (n + k) (apl r k cl)
  | 0, n, cl, h => h
  | k + 1, n, cl, h => by
    have := apl_dg hs h1 h2 k (n + 1) _ (dg_push hs h h1 h2)
    rw [show n + 1 + k = n + (k + 1) by omega] at this
    exact this
theorem apl_s (r : Nat) : ∀ k cl, apl r (k + 1) cl = apl r k (cl * 10 + r) := fun _ _ => rfl
theorem dg_wl {s n cl : Nat} (h : dg s n cl) (hn : n ≤ 5) : wl cl = n ∧ cl < 100000 := by
  cases n with
  | zero => have h : cl = 0 := h; subst h; decide
  | succ n =>
    have h1 := dg_okw h (by omega)
    exact ⟨h1.2, (okw_lt h1.1).2⟩
theorem dg_0 {s n cl : Nat} (h : dg s n cl) : cl = 0 ↔ n = 0 := by
  cases n with
  | zero => have h : cl = 0 := h; subst h; exact ⟨fun _ => rfl, fun _ => rfl⟩
  | succ n => have := h.2; constructor <;> intro q <;> omega
/-- what holds of a reader's state at a place -/
def vT (s i : Nat) (q : TS) : Prop := q.1 ≤ i ∧ (∃ n, n ≤ 5 ∧ dg s n q.2.2.1) ∧ q.2.2.2 ≤ s ∧ ∀ k, k < q.1 → okw s (q.2.1 k) = true
theorem told_ok {s m n cl : Nat} {T : Nat → Nat} (hT : ∀ k, k < m → okw s (T k) = true) (h : dg s n cl) (hn : n ≤ 5) (h0 : cl ≠ 0) : ∀ k, k < m + 1 → okw s (if k = m then cl else T k) = true := by
  intro k hk
  by_cases e : k = m
  · rw [if_pos e]
    have : n ≠ 0 := fun q => h0 ((dg_0 h).mpr q)
    obtain ⟨n, rfl⟩ : ∃ e, n = e + 1 := ⟨n - 1, by omega⟩
    exact (dg_okw h (by omega)).1
  · rw [if_neg e]; exact hT k (by omega)
theorem stT_ok {s i b : Nat} {q q' : TS} (hs : s ≤ 3) (h : vT s i q) (e : stT s q b = some q') : vT s (i + 1) q' := by
  obtain ⟨m, T, cl, rp⟩ := q
  obtain ⟨h1, ⟨n, hn, hd⟩, h3, h4⟩ := h
  dsimp only at h1 hd h3 h4
  have hw := dg_wl hd hn
  simp only [stT] at e
  by_cases b1 : b = 59
  · rw [if_pos b1] at e
    by_cases c0 : cl = 0
    · rw [if_pos c0] at e; cases e
    · rw [if_neg c0] at e
      cases e
      exact ⟨by dsimp only; omega, ⟨0, by omega, rfl⟩, Nat.zero_le _, told_ok h4 hd hn c0⟩
  · rw [if_neg b1] at e
    by_cases b2 : 50 ≤ b ∧ b ≤ 53
    · rw [if_pos b2] at e
      by_cases r0 : rp = 0
      · rw [if_pos r0] at e; cases e
      · rw [if_neg r0] at e
        by_cases l5 : wl cl + (b - 49) ≤ 5
        · rw [if_pos l5] at e
          cases e
          exact ⟨by dsimp only; omega, ⟨n + (b - 49), by omega, apl_dg hs (by omega) h3 _ _ _ hd⟩, Nat.zero_le _, h4⟩
        · rw [if_neg l5] at e; cases e
    · rw [if_neg b2] at e
      by_cases b3 : 97 ≤ b ∧ b < 97 + s
      · rw [if_pos b3] at e
        by_cases l5 : wl cl + 1 ≤ 5
        · rw [if_pos l5] at e
          cases e
          exact ⟨by dsimp only; omega, ⟨n + 1, by omega, dg_push hs hd (by omega) (by omega)⟩, by dsimp only; omega, h4⟩
        · rw [if_neg l5] at e; cases e
      · rw [if_neg b3] at e; cases e
theorem rnT_ok {s : Nat} {c : Nat → Nat} (hs : s ≤ 3) : ∀ j i q, vT s i q → (∀ p, rnT s c j i q = .inl p → p ≤ i + j) ∧ ∀ M T, rnT s c j i q = .inr (M, T) → M ≤ i + j + 1 ∧ ∀ k, k < M → okw s (T k) = true := by
  intro j
  induction j with
  | zero =>
    intro i q h
    obtain ⟨h1, ⟨n, hn, hd⟩, h3, h4⟩ := h
    simp only [rnT]
    by_cases c0 : q.2.2.1 = 0
    · rw [if_pos c0]
      exact ⟨fun p e => by cases e; omega, fun M T e => by cases e⟩
    · rw [if_neg c0]
      refine ⟨fun p e => by (cases e), fun M T e => ?_⟩
      cases e
      exact ⟨by omega, told_ok h4 hd hn c0⟩
  | succ j ih =>
    intro i q h
    cases e : stT s q (c i) with
    | none =>
      rw [rnT_n e]
      exact ⟨fun p e => by cases e; omega, fun M T e => by cases e⟩
    | some q' =>
      rw [rnT_s e]
      have := ih (i + 1) q' (stT_ok hs h e)
      exact ⟨fun p e => by have := this.1 p e; omega, fun M T e => by have := this.2 M T e; exact ⟨by omega, this.2⟩⟩
def rsC : Sum Nat (Nat × (Nat → Nat)) → Int32
  | .inl p => nI p
  | .inr _ => -1
def rsM : Sum Nat (Nat × (Nat → Nat)) → Int32
  | .inl p => -100 - nI p
  | .inr q => nI q.1
section TP
variable {I : Nat → Int32} {A : Nat → Nat → Int32} {J : Nat → Int32} {B : Nat → Nat → Int32} {L : Nat → Nat → Int64} {t : List zm_E} {s : Nat}
/-- the class's reader -/
def tpC (I : Nat → Int32) (A : Nat → Nat → Int32) (q : TS) : Prop := I 1703 = nI q.1 ∧ I 1704 = nI q.2.2.1 ∧ I 1705 = nI q.2.2.2 ∧ ∀ k, k < q.1 → k < 6 → A 19 k = nI (q.2.1 k)
theorem c_addLL (d : Nat) {r k : Nat} (hk : k ≤ 5) : ∀ (j i f cl : Nat) (I : Nat → Int32), i + j = k → j < f → I 1704 = nI cl → ∃ I', (∀ t, zR d f 54 17 [some (.ref 17), some (.int (nI r)), some (.int (nI k)), some (.int (nI i))] [] (hC I A, t) = some (some (.int 1), (hC I' A, t))) ∧ (∀ c, c ≠ 1704 → I' c = I c) ∧ I' 1704 = nI (apl r j cl) := by
  intro j
  induction j with
  | zero =>
    intro i f cl I hi hf h
    obtain ⟨f, rfl⟩ : ∃ e, f = e + 1 := ⟨f - 1, by omega⟩
    refine ⟨I, fun t => ?_, fun c _ => rfl, h⟩
    rw [e_X7_addLetters_at17, pn_t (nI_le (by omega) (by omega))]
  | succ j ih =>
    intro i f cl I hi hf h
    obtain ⟨f, rfl⟩ : ∃ e, f = e + 1 := ⟨f - 1, by omega⟩
    obtain ⟨I', b1, b2, b3⟩ := ih (i + 1) f (cl * 10 + r) (upd I 1704 (nI (cl * 10 + r))) (by omega) (by omega) upd_eq
    refine ⟨I', fun t => ?_, fun c hc => by rw [b2 c hc, upd_ne hc], b3⟩
    rw [e_X7_addLetters_at17, pn_f (nI_ge (by omega) (by omega)), h, show (10 : Int32) = nI 10 from rfl, pk_mul, nI_add, nI_1]
    exact b1 t
theorem c_add {d r k cl : Nat} (hd : 2 ≤ d) (hk : k ≤ 5) (h : I 1704 = nI cl) (hcl : cl < 100000) : ∃ I', (∀ t, zC d 54 [.ref 17, .int (nI r), .int (nI k)] (hC I A, t) = some (some (.int (b01 (decide (wl cl + k ≤ 5)))), (hC I' A, t))) ∧ (∀ c, c ≠ 1704 → I' c = I c) ∧ (wl cl + k ≤ 5 → I' 1704 = nI (apl r k cl)) := by
  obtain ⟨d, rfl⟩ : ∃ e, d = e + 1 := ⟨d - 1, by omega⟩
  have l5 := wl_le cl
  have e := fun t => e_X7_addLetters d I A t (nI r) (nI k)
  simp only [h, s_length (show 1 ≤ d by omega) _ (show cl < 2 ^ 31 by omega), pn_c1, nI_add] at e
  by_cases c : wl cl + k ≤ 5
  · obtain ⟨I', b1, b2, b3⟩ := c_addLL (A := A) (r := r) d hk k 0 10000000 cl I (by omega) (by omega) h
    refine ⟨I', fun t => ?_, b2, fun _ => b3⟩
    rw [e, pn_t (show nI (wl cl + k) ≤ (5 : Int32) from nI_le (b := 5) c (by decide)), decide_eq_true c]
    exact b1 t
  · refine ⟨I, fun t => ?_, fun c _ => rfl, fun q => absurd q c⟩
    rw [e, pn_f (show ¬ nI (wl cl + k) ≤ (5 : Int32) from nI_ge (a := 5) (by omega) (by omega)), decide_eq_false c]
    rfl
theorem c_endCl {d m cl rp : Nat} {T : Nat → Nat} (hd : 1 ≤ d) (hm : m ≤ 60) (hcl : cl < 100000) (h : tpC I A (m, T, cl, rp)) : ∃ I' A', (∀ t, zC d 55 [.ref 17] (hC I A, t) = some (some (.int (b01 (decide (cl ≠ 0)))), (hC I' A', t))) ∧ (∀ c, c < 1703 → I' c = I c) ∧ (∀ c, c ≠ 19 → A' c = A c) ∧ (cl ≠ 0 → tpC I' A' (m + 1, (fun i => if i = m then cl else T i), 0, 0)) := by
  obtain ⟨d, rfl⟩ : ∃ e, d = e + 1 := ⟨d - 1, by omega⟩
  obtain ⟨h1, h2, h3, h4⟩ := h
  dsimp only at h1 h2 h3 h4
  have e := fun t => e_X7_endClause d I A t
  simp only [h1, h2] at e
  by_cases c0 : cl = 0
  · refine ⟨I, A, fun t => ?_, fun c _ => rfl, fun c _ => rfl, fun q => absurd c0 q⟩
    rw [e, pn_f (show ¬ ¬ nI cl = 0 by rw [c0]; decide), decide_eq_false (fun q => q c0)]
    rfl
  · simp only [pn_t (nI_ne0 (show 0 < cl by omega) (show cl < 2 ^ 31 by omega)), pn_f (nI_pos (show m < 2 ^ 31 by omega)), nI_1] at e
    by_cases c6 : m < 6
    · simp only [pn_f (show ¬ (6 : Int32) ≤ nI m from nI_ge (b := 6) c6 (by decide)), pn_in c6 (show 6 < 2 ^ 31 by decide), cond_true, pn_cl (show m < 2 ^ 31 by omega)] at e
      refine ⟨_, _, fun t => ?_, ?_, ?_, fun _ => ⟨?_, ?_, ?_, fun k hk k6 => ?_⟩⟩
      · rw [e, decide_eq_true c0]; rfl
      · intro c hc; rw [upd_ne (by omega), upd_ne (by omega), upd_ne (by omega)]
      · intro c hc; exact vu_ne hc
      · rfl
      · rfl
      · rfl
      · dsimp only at hk ⊢
        rw [vu_eq]
        by_cases ek : k = m
        · subst ek; rw [upd_eq, if_pos rfl]
        · rw [upd_ne ek, if_neg ek]; exact h4 k (by omega) k6
    · simp only [pn_t (show (6 : Int32) ≤ nI m from nI_le (a := 6) (by omega) (by omega))] at e
      refine ⟨_, A, fun t => ?_, ?_, fun c _ => rfl, fun _ => ⟨?_, ?_, ?_, fun k hk k6 => ?_⟩⟩
      · rw [e, decide_eq_true c0]; rfl
      · intro c hc; rw [upd_ne (by omega), upd_ne (by omega), upd_ne (by omega)]
      · rfl
      · rfl
      · rfl
      · dsimp only at hk ⊢
        rw [if_neg (by omega)]; exact h4 k (by omega) k6
theorem zm01_b (b : Bool) : zm_01 (b01 b) = true := by cases b <;> decide
theorem c_step {d b m cl rp i : Nat} {T : Nat → Nat} (hd : 3 ≤ d) (hs : s ≤ 3) (hb : b ≤ 127) (hi : i ≤ 60) (hv : vT s i (m, T, cl, rp)) (h : tpC I A (m, T, cl, rp)) : ∃ I' A', (∀ t, zC d 53 [.ref 17, .int (nI b), .int (nI s)] (hC I A, t) = some (some (.int (b01 (stT s (m, T, cl, rp) b).isSome)), (hC I' A', t))) ∧ (∀ c, c < 1703 → I' c = I c) ∧ (∀ c, c ≠ 19 → A' c = A c) ∧ ∀ q', stT s (m, T, cl, rp) b = some q' → tpC I' A' q' := by
  obtain ⟨d, rfl⟩ : ∃ e, d = e + 1 := ⟨d - 1, by omega⟩
  obtain ⟨v1, ⟨n, hn, hdg⟩, v3, v4⟩ := id hv
  dsimp only at v1 hdg v3 v4
  obtain ⟨h1, h2, h3, h4⟩ := id h
  dsimp only at h1 h2 h3 h4
  have hw := dg_wl hdg hn
  have e := fun t => e_X7_goesOn d I A t (nI b) (nI s)
  simp only [stT]
  by_cases b1 : b = 59
  · subst b1
    obtain ⟨I', A', r1, r2, r3, r4⟩ := c_endCl (d := d) (by omega) (show m ≤ 60 by omega) hw.2 h
    simp only [pn_f (show ¬ ¬ nI 59 = 59 by decide), r1, pn_c1, zm01_b, cond_true] at e
    rw [if_pos rfl]
    refine ⟨I', A', fun t => ?_, r2, r3, fun q' e => ?_⟩
    · rw [e]
      by_cases c0 : cl = 0
      · rw [if_pos c0, decide_eq_false (fun q => q c0)]; rfl
      · rw [if_neg c0, decide_eq_true c0]; rfl
    · by_cases c0 : cl = 0
      · rw [if_pos c0] at e; cases e
      · rw [if_neg c0] at e; cases e; exact r4 c0
  · rw [if_neg b1]
    have n59 : ¬ nI b = 59 := fun q => b1 ((nI_eq (b := 59) (by omega) (by decide)).mp q)
    simp only [pn_t n59] at e
    by_cases b2 : 50 ≤ b ∧ b ≤ 53
    · rw [if_pos b2]
      simp only [pn_f (show ¬ nI b < (50 : Int32) from nI_nlt (b := 50) b2.1 (by omega)), pn_f (show ¬ (53 : Int32) < nI b from nI_nlt (a := 53) b2.2 (by decide)), h3] at e
      by_cases r0 : rp = 0
      · refine ⟨_, A, fun t => ?_, ?_, fun c _ => rfl, ?_⟩
        rotate_left
        · intro t; rw [e, pn_t (show nI rp = 0 by rw [r0]; rfl), if_pos r0]; rfl
        · intro c hc; exact upd_ne (by omega)
        · intro q' e; rw [if_pos r0] at e; cases e
      · obtain ⟨I', r1, r2, r3⟩ := c_add (I := upd I 1705 0) (A := A) (d := d) (r := rp) (k := b - 49) (by omega) (by omega) ((upd_ne (by decide)).trans h2) hw.2
        have eb : nI b - 49 = nI (b - 49) := pn_sub (b := 49) (by omega)
        simp only [pn_f (nI_ne0 (show 0 < rp by omega) (show rp < 2 ^ 31 by omega)), eb, r1, pn_c1] at e
        rw [if_neg r0]
        refine ⟨I', A, fun t => ?_, fun c hc => by rw [r2 c (by omega), upd_ne (by omega)], fun c _ => rfl, fun q' e => ?_⟩
        · rw [e]
          by_cases l5 : wl cl + (b - 49) ≤ 5
          · rw [if_pos l5, decide_eq_true l5]; rfl
          · rw [if_neg l5, decide_eq_false l5]; rfl
        · by_cases l5 : wl cl + (b - 49) ≤ 5
          · rw [if_pos l5] at e
            cases e
            exact ⟨(r2 1703 (by decide)).trans ((upd_ne (by decide)).trans h1), r3 l5, (r2 1705 (by decide)).trans upd_eq, h4⟩
          · rw [if_neg l5] at e; cases e
    · rw [if_neg b2]
      by_cases b3 : 97 ≤ b ∧ b < 97 + s
      · rw [if_pos b3]
        obtain ⟨I', r1, r2, r3⟩ := c_add (I := upd I 1705 (nI (b - 96))) (A := A) (d := d) (r := b - 96) (k := 1) (by omega) (by omega) ((upd_ne (by decide)).trans h2) hw.2
        have eb : nI b - 97 + 1 = nI (b - 96) := by
          rw [show nI b - 97 = nI (b - 97) from pn_sub (b := 97) (by omega), nI_1, show b - 97 + 1 = b - 96 by omega]
        have ea : (97 : Int32) + nI s = nI (97 + s) := nI_add 97 s
        have r1' : ∀ t, zC d 54 [.ref 17, .int (nI (b - 96)), .int 1] (hC (upd I 1705 (nI (b - 96))) A, t) = _ := r1
        simp only [pn_f (show ¬ nI b < (50 : Int32) from nI_nlt (b := 50) (by omega) (by omega)), pn_t (show (53 : Int32) < nI b from nI_lt (a := 53) (by omega) (by omega)), pn_f (show ¬ nI b < (97 : Int32) from nI_nlt (b := 97) b3.1 (by omega)), ea, pn_t (nI_lt b3.2 (show 97 + s < 2 ^ 31 by omega)), eb, upd_eq, r1', pn_c1, zm01_b, cond_true] at e
        refine ⟨I', A, fun t => ?_, fun c hc => by rw [r2 c (by omega), upd_ne (by omega)], fun c _ => rfl, fun q' e => ?_⟩
        · rw [e]
          by_cases l5 : wl cl + 1 ≤ 5
          · rw [if_pos l5, decide_eq_true l5]; rfl
          · rw [if_neg l5, decide_eq_false l5]; rfl
        · by_cases l5 : wl cl + 1 ≤ 5
          · rw [if_pos l5] at e
            cases e
            exact ⟨(r2 1703 (by decide)).trans ((upd_ne (by decide)).trans h1), r3 l5, (r2 1705 (by decide)).trans upd_eq, h4⟩
          · rw [if_neg l5] at e; cases e
      · rw [if_neg b3]
        have ea : (97 : Int32) + nI s = nI (97 + s) := nI_add 97 s
        refine ⟨I, A, fun t => ?_, fun c _ => rfl, fun c _ => rfl, fun q' e => by cases e⟩
        rw [e t]
        by_cases c1 : b < 50
        · rw [pn_t (show nI b < (50 : Int32) from nI_lt (b := 50) c1 (by decide)), pn_t (show nI b < (97 : Int32) from nI_lt (b := 97) (by omega) (by decide))]
          rfl
        · rw [pn_f (show ¬ nI b < (50 : Int32) from nI_nlt (b := 50) (by omega) (by omega)), pn_t (show (53 : Int32) < nI b from nI_lt (a := 53) (by omega) (by omega))]
          by_cases c2 : b < 97
          · rw [pn_t (show nI b < (97 : Int32) from nI_lt (b := 97) c2 (by decide))]
            rfl
          · rw [pn_f (show ¬ nI b < (97 : Int32) from nI_nlt (b := 97) (by omega) (by omega)), ea, pn_f (nI_nlt (show 97 + s ≤ b by omega) (show b < 2 ^ 31 by omega))]
            rfl
theorem c_readL (d : Nat) (hd : 3 ≤ d) (hs : s ≤ 3) {z : Nat} {c : Nat → Nat} (z60 : z ≤ 60) (hc : ∀ i, i < z → c i ≤ 127) : ∀ (j i f : Nat) (I : Nat → Int32) (A : Nat → Nat → Int32) (q : TS), i + j = z → j + 3 < f → I 1701 = nI z → (∀ i, i < z → A 18 i = nI (c i)) → vT s i q → tpC I A q → ∃ I' A', (∀ t, zR d f 52 17 [some (.ref 17), some (.int (nI s)), some (.int (nI i))] [] (hC I A, t) = some (some (.int (rsC (rnT s c j i q))), (hC I' A', t))) ∧ (∀ c, c < 1703 → I' c = I c) ∧ (∀ c, c ≠ 19 → A' c = A c) ∧ ∀ M T, rnT s c j i q = .inr (M, T) → I' 1703 = nI M ∧ ∀ k, k < M → k < 6 → A' 19 k = nI (T k) := by
  intro j
  induction j with
  | zero =>
    intro i f I A q hi hf hz hA hv h
    obtain ⟨m, T, cl, rp⟩ := q
    obtain ⟨f, rfl⟩ : ∃ e, f = e + 1 + 1 := ⟨f - 2, by omega⟩
    obtain ⟨v1, ⟨n, hn, hdg⟩, v3, v4⟩ := id hv
    dsimp only at v1 hdg v3 v4
    obtain ⟨I', A', r1, r2, r3, r4⟩ := c_endCl (d := d) (by omega) (show m ≤ 60 by omega) (dg_wl hdg hn).2 h
    refine ⟨I', A', fun t => ?_, r2, r3, fun M T' e => ?_⟩
    · rw [e_X7_read_at17, hz, pn_t (nI_le (by omega) (by omega)), r1, pn_c1, e_X7_read_at57]
      simp only [rnT]
      by_cases c0 : cl = 0
      · rw [decide_eq_false (show ¬ cl ≠ 0 from fun q => q c0), b01_f, d_00, cond_true, r2 1701 (by decide), hz, if_pos c0, show z = i by omega]
        rfl
      · rw [decide_eq_true c0, b01_t, d_10, cond_false, if_neg c0]
        rfl
    · simp only [rnT] at e
      by_cases c0 : cl = 0
      · rw [if_pos c0] at e; cases e
      · rw [if_neg c0] at e
        cases e
        have := r4 c0
        exact ⟨this.1, this.2.2.2⟩
  | succ j ih =>
    intro i f I A q hi hf hz hA hv h
    obtain ⟨m, T, cl, rp⟩ := q
    obtain ⟨f, rfl⟩ : ∃ e, f = e + 1 := ⟨f - 1, by omega⟩
    obtain ⟨I1, A1, r1, r2, r3, r4⟩ := c_step (d := d) hd hs (hc i (by omega)) (show i ≤ 60 by omega) hv h
    have e17 : ∀ t, zR d (f + 1) 52 17 [some (.ref 17), some (.int (nI s)), some (.int (nI i))] [] (hC I A, t) = bif decide (¬ b01 (stT s (m, T, cl, rp) (c i)).isSome = 0) then zR d f 52 17 [some (.ref 17), some (.int (nI s)), some (.int (nI (i + 1)))] [] (hC I1 A1, t) else some (some (.int (nI i)), (hC I1 A1, t)) := fun t => by
      rw [e_X7_read_at17, hz, pn_f (nI_ge (by omega) (by omega)), pn_f (show ¬ (60 : Int32) ≤ nI i from nI_ge (b := 60) (by omega) (by decide)), pn_in (show i < 60 by omega) (by decide), cond_true, pn_cl (by omega), hA i (by omega), r1, pn_c1, nI_1]
    cases e : stT s (m, T, cl, rp) (c i) with
    | none =>
      rw [rnT_n e]
      refine ⟨I1, A1, fun t => ?_, r2, r3, fun M T' e => by cases e⟩
      rw [e17, e]
      rfl
    | some q' =>
      rw [rnT_s e]
      obtain ⟨I', A', b1, b2, b3, b4⟩ := ih (i + 1) f I1 A1 q' (by omega) (by omega) ((r2 1701 (by decide)).trans hz) (fun i hi => by rw [r3 18 (by decide)]; exact hA i hi) (stT_ok hs hv e) (r4 q' e)
      refine ⟨I', A', fun t => ?_, fun c hc => (b2 c hc).trans (r2 c hc), fun c hc => (b3 c hc).trans (r3 c hc), b4⟩
      rw [e17, e]
      exact b1 t
/-! the reference's -/
def sg (c : Nat → Nat) (z i : Nat) : Nat := if i < z then c i else 0
theorem r_sign {d z i : Nat} {c : Nat → Nat} (hd : 1 ≤ d) (hz : J 12 = nI z) (z60 : z ≤ 60) (hB : ∀ i, i < z → B 7 i = nI (c i)) (hi : i ≤ 100) : zC d 146 [.ref 1000, .int (nI i)] (t, hM J B L) = some (some (.int (nI (sg c z i))), (t, hM J B L)) := by
  obtain ⟨d, rfl⟩ : ∃ e, d = e + 1 := ⟨d - 1, by omega⟩
  rw [e_X10_sign, hz]
  unfold sg
  by_cases c : i < z
  · rw [pn_f (nI_ge c (by omega)), pn_in (show i < 60 by omega) (by decide), cond_true, pn_cl (by omega), hB i c, if_pos c]
  · rw [pn_t (nI_le (by omega) (by omega)), if_neg c]
    rfl
theorem r_rep (d : Nat) {x1 x2 : Int32} {r k n : Nat} (hk : k ≤ 5) (hn : n ≤ 5) : ∀ (j i f cl : Nat), i + j = k → zR d (f + (j + 1)) 147 105 [some (.ref 1000), some (.int x1), some (.int x2), some (.int (nI cl)), some (.int (nI n)), some (.int (nI r)), some (.int (nI k)), some (.int (nI i))] [] (t, hM J B L) = zR d f 147 9 [some (.ref 1000), some (.int x1), some (.int x2), some (.int (nI (apl r j cl))), some (.int (nI (n + k))), some (.int (nI r)), some (.int (nI k)), some (.int (nI k))] [] (t, hM J B L) := by
  intro j
  induction j with
  | zero =>
    intro i f cl hi
    rw [e_X10_reads_at105, pn_t (nI_le (by omega) (by omega)), nI_add, show i = k by omega]
    rfl
  | succ j ih =>
    intro i f cl hi
    rw [show f + (j + 1 + 1) = (f + (j + 1)) + 1 from rfl, e_X10_reads_at105, pn_f (nI_ge (by omega) (by omega)), show (10 : Int32) = nI 10 from rfl, pk_mul, nI_add, nI_1, ih (i + 1) f _ (by omega), Nat.mul_comm 10 cl]
    rfl
theorem r_readL (d : Nat) (hd : 2 ≤ d) (hJ : J 0 = nI s) (hs : s ≤ 3) (hs1 : 1 ≤ s) {z : Nat} {c : Nat → Nat} (hz : J 12 = nI z) (z60 : z ≤ 60) (hc : ∀ i, i < z → c i ≤ 127) : ∀ (g j i f m cl rp n : Nat) (T : Nat → Nat) (B : Nat → Nat → Int32) (o5 o6 o7 : Option Value), j ≤ g → i + j = z → 20 * j + 20 < f → vT s i (m, T, cl, rp) → n ≤ 5 → dg s n cl → (rp = 0 ∨ ¬ (50 ≤ sg c z i ∧ sg c z i ≤ 53)) → (∀ k, k < m → k < 6 → B 12 k = nI (T k)) → (∀ i, i < z → B 7 i = nI (c i)) → ∃ B', (∀ t, zR d f 147 9 [some (.ref 1000), some (.int (nI m)), some (.int (nI i)), some (.int (nI cl)), some (.int (nI n)), o5, o6, o7] [] (t, hM J B L) = some (some (.int (rsM (rnT s c j i (m, T, cl, rp)))), (t, hM J B' L))) ∧ (∀ c, c ≠ 12 → B' c = B c) ∧ ∀ M T', rnT s c j i (m, T, cl, rp) = .inr (M, T') → ∀ k, k < M → k < 6 → B' 12 k = nI (T' k) := by
  intro g
  induction g with
  | zero =>
    intro j i f m cl rp n T B o5 o6 o7 hg hi hf hv hn hdg hrp hB hB7
    have hj : j = 0 := by omega
    subst hj
    obtain ⟨f, rfl⟩ : ∃ e, f = e + 1 + 1 + 1 := ⟨f - 3, by omega⟩
    obtain ⟨v1, -, v3, v4⟩ := id hv
    dsimp only at v1 v3 v4
    have hsg : sg c z i = 0 := by unfold sg; rw [if_neg (by omega)]
    have ea : (97 : Int32) + nI s - 1 = nI (96 + s) := by
      rw [show (97 : Int32) + nI s = nI (97 + s) from nI_add 97 s, show 97 + s = 96 + s + 1 by omega, nI_pred]
    have hin : decide ((97 : Int32) ≤ nI 0 ∧ nI 0 ≤ nI (96 + s)) = false := decide_eq_false (fun q => absurd q.1 (by decide))
    have e0 : ∀ t, zR d (f + 1 + 1 + 1) 147 9 [some (.ref 1000), some (.int (nI m)), some (.int (nI i)), some (.int (nI cl)), some (.int (nI n)), o5, o6, o7] [] (t, hM J B L) = zR d (f + 1) 147 28 [some (.ref 1000), some (.int (nI m)), some (.int (nI i)), some (.int (nI cl)), some (.int (nI n)), o5, o6, o7] [(.int 0)] (t, hM J B L) := fun t => by
      rw [e_X10_reads_at9, r_sign (by omega) hz z60 hB7 (by omega), pn_c1, e_X10_reads_at14, hJ, ea, r_in (by omega), pn_c1, hsg, hin]
      rfl
    simp only [rnT]
    by_cases c0 : cl = 0
    · have n0 := (dg_0 hdg).mp c0
      rw [if_pos c0]
      refine ⟨B, fun t => ?_, fun c _ => rfl, fun M T' e => by cases e⟩
      rw [e0, e_X10_reads_at28, d_00, cond_true, pn_f (show ¬ ¬ nI n = 0 by rw [n0]; decide)]
      rfl
    · have n0 : n ≠ 0 := fun q => c0 ((dg_0 hdg).mpr q)
      rw [if_neg c0]
      by_cases c6 : m < 6
      · refine ⟨va_up B 12 (upd (B 12) m (nI cl)), fun t => ?_, fun c hc => vu_ne hc, fun M T' e k hk k6 => ?_⟩
        · rw [e0, e_X10_reads_at28, d_00, cond_true, pn_t (nI_ne0 (by omega) (by omega)), pn_f (show ¬ (6 : Int32) ≤ nI m from nI_ge (b := 6) c6 (by decide)), pn_in c6 (by decide), cond_true, pn_f (show ¬ ¬ nI i = J 12 by rw [hz, show i = z by omega]; exact fun q => q rfl), pn_cl (by omega), nI_1]
          rfl
        · cases e
          dsimp only at hk ⊢
          rw [vu_eq]
          by_cases ek : k = m
          · subst ek; rw [upd_eq, if_pos rfl]
          · rw [upd_ne ek, if_neg ek]; exact hB k (by omega) k6
      · refine ⟨B, fun t => ?_, fun c hc => rfl, fun M T' e k hk k6 => ?_⟩
        · rw [e0, e_X10_reads_at28, d_00, cond_true, pn_t (nI_ne0 (by omega) (by omega)), pn_t (show (6 : Int32) ≤ nI m from nI_le (a := 6) (by omega) (by omega)), pn_f (show ¬ ¬ nI i = J 12 by rw [hz, show i = z by omega]; exact fun q => q rfl), nI_1]
          rfl
        · cases e
          dsimp only at hk ⊢
          rw [if_neg (by omega)]; exact hB k (by omega) k6
  | succ g ih =>
    intro j i f m cl rp n T B o5 o6 o7 hg hi hf hv hn hdg hrp hB hB7
    rcases Nat.eq_zero_or_pos j with hj | hj
    · exact ih j i f m cl rp n T B o5 o6 o7 (by omega) hi hf hv hn hdg hrp hB hB7
    obtain ⟨j, rfl⟩ : ∃ e, j = e + 1 := ⟨j - 1, by omega⟩
    obtain ⟨f, rfl⟩ : ∃ e, f = e + 15 + 1 + 1 + 1 := ⟨f - 18, by omega⟩
    obtain ⟨v1, -, v3, v4⟩ := id hv
    dsimp only at v1 v3 v4
    have hw := dg_wl hdg hn
    have hsg : sg c z i = c i := by unfold sg; rw [if_pos (by omega)]
    have hb := hc i (by omega)
    rw [hsg] at hrp
    have ea : (97 : Int32) + nI s - 1 = nI (96 + s) := by
      rw [show (97 : Int32) + nI s = nI (97 + s) from nI_add 97 s, show 97 + s = 96 + s + 1 by omega, nI_pred]
    have hin : decide ((97 : Int32) ≤ nI (c i) ∧ nI (c i) ≤ nI (96 + s)) = decide (97 ≤ c i ∧ c i < 97 + s) := by
      rw [decide_eq_decide, show (97 : Int32) = nI 97 from rfl, nI_leI (by decide) (by omega), nI_leI (by omega) (by omega)]
      omega
    have e0 : ∀ t, zR d (f + 15 + 1 + 1 + 1) 147 9 [some (.ref 1000), some (.int (nI m)), some (.int (nI i)), some (.int (nI cl)), some (.int (nI n)), o5, o6, o7] [] (t, hM J B L) = zR d (f + 15 + 1) 147 28 [some (.ref 1000), some (.int (nI m)), some (.int (nI i)), some (.int (nI cl)), some (.int (nI n)), o5, o6, o7] [(.int (b01 (decide (97 ≤ c i ∧ c i < 97 + s))))] (t, hM J B L) := fun t => by
      rw [e_X10_reads_at9, r_sign (by omega) hz z60 hB7 (by omega), pn_c1, e_X10_reads_at14, hJ, ea, r_in (by omega), pn_c1, hsg, hin]
    by_cases b3 : 97 ≤ c i ∧ c i < 97 + s
    · -- a letter
      rw [decide_eq_true b3] at e0
      have nb2 : ¬ (50 ≤ c i ∧ c i ≤ 53) := by omega
      by_cases n5 : n = 5
      · have st : stT s (m, T, cl, rp) (c i) = none := by
          simp only [stT]
          rw [if_neg (by omega), if_neg nb2, if_pos b3, if_neg (by omega)]
        rw [rnT_n st]
        refine ⟨B, fun t => ?_, fun c _ => rfl, fun M T' e => by cases e⟩
        rw [e0, e_X10_reads_at28, b01_t, d_10, cond_false, pn_f (show ¬ ¬ nI n = 5 by rw [n5]; decide)]
        rfl
      · have st : stT s (m, T, cl, rp) (c i) = some (m, T, cl * 10 + (c i - 96), c i - 96) := by
          simp only [stT]
          rw [if_neg (by omega), if_neg nb2, if_pos b3, if_pos (by omega)]
        have hv1 := stT_ok hs hv st
        have hd1 : dg s (n + 1) (cl * 10 + (c i - 96)) := dg_push hs hdg (by omega) (by omega)
        have hw1 := dg_wl hd1 (by omega)
        rw [rnT_s st]
        have n5' : ¬ nI n = 5 := fun q => n5 ((nI_eq (b := 5) (by omega) (by decide)).mp q)
        have er : nI (c i) - 97 + 1 = nI (c i - 96) := by
          rw [show nI (c i) - 97 = nI (c i - 97) from pn_sub (b := 97) (by omega), nI_1, show c i - 97 + 1 = c i - 96 by omega]
        have sg1 : sg c z (i + 1) ≤ 127 := by
          unfold sg
          split
          · exact hc _ (by assumption)
          · omega
        have hin2 : decide ((50 : Int32) ≤ nI (sg c z (i + 1)) ∧ nI (sg c z (i + 1)) ≤ 53) = decide (50 ≤ sg c z (i + 1) ∧ sg c z (i + 1) ≤ 53) := by
          rw [decide_eq_decide, show (50 : Int32) = nI 50 from rfl, show (53 : Int32) = nI 53 from rfl, nI_leI (by decide) (by omega), nI_leI (by omega) (by decide)]
        have e1 := fun t => e0 t
        simp only [e_X10_reads_at28, b01_t, d_10, cond_false, pn_t n5', r_sign (show 1 ≤ d by omega) hz z60 hB7 (show i ≤ 100 by omega), pn_c1, nI_1, r_sign (show 1 ≤ d by omega) hz z60 hB7 (show i + 1 ≤ 100 by omega), r_in (show 1 ≤ d by omega), hin2, hsg, er] at e1
        by_cases b2 : 50 ≤ sg c z (i + 1) ∧ sg c z (i + 1) ≤ 53
        · -- with a figure behind it
          have hiz : i + 1 < z := by
            rcases Nat.lt_or_ge (i + 1) z with q | q
            · exact q
            · unfold sg at b2; rw [if_neg (by omega)] at b2; omega
          have hsg1 : sg c z (i + 1) = c (i + 1) := by unfold sg; rw [if_pos hiz]
          rw [hsg1] at b2
          obtain ⟨j, rfl⟩ : ∃ e, j = e + 1 := ⟨j - 1, by omega⟩
          have eo : nI (c (i + 1)) - 48 = nI (c (i + 1) - 48) := pn_sub (b := 48) (by omega)
          simp only [hsg1, decide_eq_true b2, b01_t, d_10, cond_false, eo, nI_add, nI_1] at e1
          by_cases l5 : n + (c (i + 1) - 48) ≤ 5
          · have st2 : stT s (m, T, cl * 10 + (c i - 96), c i - 96) (c (i + 1)) = some (m, T, apl (c i - 96) (c (i + 1) - 49) (cl * 10 + (c i - 96)), 0) := by
              simp only [stT]
              rw [if_neg (by omega), if_pos b2, if_neg (by omega), if_pos (by omega)]
            have hap : apl (c i - 96) (c (i + 1) - 49) (cl * 10 + (c i - 96)) = apl (c i - 96) (c (i + 1) - 48) cl := by
              rw [show c (i + 1) - 48 = c (i + 1) - 49 + 1 by omega, apl_s]
            have hv2 := stT_ok hs hv1 st2
            rw [rnT_s st2]
            rw [hap] at hv2 ⊢
            have hd2 := apl_dg hs (show 1 ≤ c i - 96 by omega) (show c i - 96 ≤ s by omega) (c (i + 1) - 48) n cl hdg
            obtain ⟨B', r1, r2, r3⟩ := ih j (i + 1 + 1) (f + 15 - (c (i + 1) - 48 + 1)) m (apl (c i - 96) (c (i + 1) - 48) cl) 0 (n + (c (i + 1) - 48)) T B (some (.int (nI (c i - 96)))) (some (.int (nI (c (i + 1) - 48)))) (some (.int (nI (c (i + 1) - 48)))) (by omega) (by omega) (by omega) hv2 l5 hd2 (Or.inl rfl) hB hB7
            refine ⟨B', fun t => ?_, r2, r3⟩
            have hr := r_rep (J := J) (B := B) (L := L) (t := t) (x1 := nI m) (x2 := nI (i + 1 + 1)) (r := c i - 96) (n := n) d (show c (i + 1) - 48 ≤ 5 by omega) hn (c (i + 1) - 48) 0 (f + 15 - (c (i + 1) - 48 + 1)) cl (by omega)
            rw [show f + 15 - (c (i + 1) - 48 + 1) + (c (i + 1) - 48 + 1) = f + 15 by omega] at hr
            have hr' : zR d (f + 15) 147 105 [some (.ref 1000), some (.int (nI m)), some (.int (nI (i + 1 + 1))), some (.int (nI cl)), some (.int (nI n)), some (.int (nI (c i - 96))), some (.int (nI (c (i + 1) - 48))), some (.int 0)] [] (t, hM J B L) = _ := hr
            rw [e1, pn_t (show nI (n + (c (i + 1) - 48)) ≤ (5 : Int32) from nI_le (b := 5) l5 (by decide)), hr']
            exact r1 t
          · have st2 : stT s (m, T, cl * 10 + (c i - 96), c i - 96) (c (i + 1)) = none := by
              simp only [stT]
              rw [if_neg (by omega), if_pos b2, if_neg (by omega), if_neg (by omega)]
            rw [rnT_n st2]
            refine ⟨B, fun t => ?_, fun c _ => rfl, fun M T' e => by cases e⟩
            rw [e1, pn_f (show ¬ nI (n + (c (i + 1) - 48)) ≤ (5 : Int32) from nI_ge (a := 5) (by omega) (by omega))]
            rfl
        · simp only [decide_eq_false b2, b01_f, d_00, cond_true] at e1
          obtain ⟨B', r1, r2, r3⟩ := ih j (i + 1) (f + 13) m (cl * 10 + (c i - 96)) (c i - 96) (n + 1) T B (some (.int (nI (c i - 96)))) (some (.int (nI 1))) (some (.int (nI 1))) (by omega) (by omega) (by omega) hv1 (by omega) hd1 (Or.inr b2) hB hB7
          refine ⟨B', fun t => ?_, r2, r3⟩
          have hr := r_rep (J := J) (B := B) (L := L) (t := t) (x1 := nI m) (x2 := nI (i + 1)) (r := c i - 96) (n := n) d (show 1 ≤ 5 by omega) hn 1 0 (f + 13) cl (by omega)
          have hr' : zR d (f + 15) 147 105 [some (.ref 1000), some (.int (nI m)), some (.int (nI (i + 1))), some (.int (nI cl)), some (.int (nI n)), some (.int (nI (c i - 96))), some (.int 1), some (.int 0)] [] (t, hM J B L) = _ := hr
          rw [e1, hr']
          exact r1 t
    · rw [decide_eq_false b3] at e0
      by_cases c0 : cl = 0
      · have n0 := (dg_0 hdg).mp c0
        have st : stT s (m, T, cl, rp) (c i) = none := by
          simp only [stT]
          by_cases b1 : c i = 59
          · rw [if_pos b1, if_pos c0]
          · rw [if_neg b1]
            by_cases b2 : 50 ≤ c i ∧ c i ≤ 53
            · rw [if_pos b2, if_pos (hrp.resolve_right (fun q => q b2))]
            · rw [if_neg b2, if_neg b3]
        rw [rnT_n st]
        refine ⟨B, fun t => ?_, fun c _ => rfl, fun M T' e => by cases e⟩
        rw [e0, e_X10_reads_at28, b01_f, d_00, cond_true, pn_f (show ¬ ¬ nI n = 0 by rw [n0]; decide)]
        rfl
      · have n0 : n ≠ 0 := fun q => c0 ((dg_0 hdg).mpr q)
        have iz : ¬ nI i = J 12 := fun q => by
          rw [hz] at q
          have := (nI_eq (by omega) (by omega)).mp q
          omega
        -- with the clause laid by in B1
        have key : ∀ B1 : Nat → Nat → Int32, (∀ c, c ≠ 12 → B1 c = B c) → (∀ k, k < m + 1 → k < 6 → B1 12 k = nI (if k = m then cl else T k)) → ∃ B', (∀ t, (zm_c1 (zC d 146 [(.ref 1000), (.int (nI i))] (t, hM J B1 L)) fun v2 h1 => bif decide (v2 = 59) then (zR d (f + 15) 147 4 [some (.ref 1000), some (.int (nI (m + 1))), some (.int (nI (i + 1))), some (.int (nI cl)), some (.int (nI n)), o5, o6, o7] [] h1) else some (some (.int ((-100) - nI i)), h1)) = some (some (.int (rsM (rnT s c (j + 1) i (m, T, cl, rp)))), (t, hM J B' L))) ∧ (∀ c, c ≠ 12 → B' c = B c) ∧ ∀ M T', rnT s c (j + 1) i (m, T, cl, rp) = .inr (M, T') → ∀ k, k < M → k < 6 → B' 12 k = nI (T' k) := by
          intro B1 g1 g2
          have hB71 : ∀ i, i < z → B1 7 i = nI (c i) := fun i hi => by rw [g1 7 (by decide)]; exact hB7 i hi
          by_cases b1 : c i = 59
          · have st : stT s (m, T, cl, rp) (c i) = some (m + 1, (fun i => if i = m then cl else T i), 0, 0) := by
              simp only [stT]
              rw [if_pos b1, if_neg c0]
            have hv1 := stT_ok hs hv st
            rw [rnT_s st]
            obtain ⟨B', r1, r2, r3⟩ := ih j (i + 1) (f + 14) (m + 1) 0 0 0 (fun i => if i = m then cl else T i) B1 o5 o6 o7 (by omega) (by omega) (by omega) hv1 (by omega) rfl (Or.inl rfl) g2 hB71
            refine ⟨B', fun t => ?_, fun c hc => (r2 c hc).trans (g1 c hc), r3⟩
            rw [r_sign (by omega) hz z60 hB71 (by omega), pn_c1, hsg, pn_t (show nI (c i) = 59 by rw [b1]; rfl), show f + 15 = f + 14 + 1 from rfl, e_X10_reads_at4]
            exact r1 t
          · have st : stT s (m, T, cl, rp) (c i) = none := by
              simp only [stT]
              rw [if_neg b1]
              by_cases b2 : 50 ≤ c i ∧ c i ≤ 53
              · rw [if_pos b2, if_pos (hrp.resolve_right (fun q => q b2))]
              · rw [if_neg b2, if_neg b3]
            rw [rnT_n st]
            refine ⟨B1, fun t => ?_, g1, fun M T' e => by cases e⟩
            have n59 : ¬ nI (c i) = 59 := fun q => b1 ((nI_eq (b := 59) (by omega) (by decide)).mp q)
            rw [r_sign (by omega) hz z60 hB71 (by omega), pn_c1, hsg, pn_f n59]
            rfl
        by_cases c6 : m < 6
        · obtain ⟨B', r1, r2, r3⟩ := key (va_up B 12 (upd (B 12) m (nI cl))) (fun c hc => vu_ne hc) (fun k hk k6 => by
            rw [vu_eq]
            by_cases ek : k = m
            · subst ek; rw [upd_eq, if_pos rfl]
            · rw [upd_ne ek, if_neg ek]; exact hB k (by omega) k6)
          refine ⟨B', fun t => ?_, r2, r3⟩
          rw [e0, e_X10_reads_at28, b01_f, d_00, cond_true, pn_t (nI_ne0 (by omega) (by omega)), pn_f (show ¬ (6 : Int32) ≤ nI m from nI_ge (b := 6) c6 (by decide)), pn_in c6 (by decide), cond_true, pn_t iz, pn_cl (by omega), nI_1, nI_1]
          exact r1 t
        · obtain ⟨B', r1, r2, r3⟩ := key B (fun c hc => rfl) (fun k hk k6 => by
            rw [if_neg (by omega)]; exact hB k (by omega) k6)
          refine ⟨B', fun t => ?_, r2, r3⟩
          rw [e0, e_X10_reads_at28, b01_f, d_00, cond_true, pn_t (nI_ne0 (by omega) (by omega)), pn_t (show (6 : Int32) ≤ nI m from nI_le (a := 6) (by omega) (by omega)), pn_t iz, nI_1, nI_1]
          exact r1 t
end TP
/-! words -/
theorem Rel_new {I I' : Nat → Int32} {A A' : Nat → Nat → Int32} {J J' : Nat → Int32} {B B' : Nat → Nat → Int32} {b' : Bd} (h : Rel I A J B) (hv : vB b') (hc : cB 1 I' A' b') (hm : mB J' B' b') (hT : rT I' A' J' B') (i2 : I' 2 = I 2) (i5 : I' 5 = I 5) (i9 : ∀ c, 900 ≤ c → c ≤ 1101 → I' c = I c) (ha : ∀ c, 9 ≤ c → c ≤ 26 → c ≠ 18 → c ≠ 19 → A' c = A c) (j14 : J' 14 = J 14) (j18 : J' 18 = J 18) (hb : ∀ c, 8 ≤ c → c ≤ 11 → B' c = B c) : Rel I' A' J' B' := by
  obtain ⟨-, hI', -, hP, hL⟩ := h
  refine ⟨⟨b', hv, hc, hm⟩, ?_, hT, ?_, ?_⟩
  · rcases hI' with ⟨q1, q2⟩ | ⟨q1, q2, bb, jv, jc, jm⟩
    · exact Or.inl ⟨i2.trans q1, j18.trans q2⟩
    · refine Or.inr ⟨i2.trans q1, j18.trans q2, bb, jv, cB_fr jc (i9 _ (by omega) (by omega)) (i9 _ (by omega) (by omega)) (i9 _ (by omega) (by omega)) (i9 _ (by omega) (by omega)) (i9 _ (by omega) (by omega)) (ha _ (by omega) (by omega) (by omega) (by omega)) (ha _ (by omega) (by omega) (by omega) (by omega)) (ha _ (by omega) (by omega) (by omega) (by omega)) (ha _ (by omega) (by omega) (by omega) (by omega)) (ha _ (by omega) (by omega) (by omega) (by omega)) (ha _ (by omega) (by omega) (by omega) (by omega)), ?_⟩
      rw [hb 11 (by omega) (by omega)]; exact jm
  · obtain ⟨z, p1, p2, p3, p4⟩ := hP
    exact ⟨z, p1, i5.trans p2, j14.trans p3, fun i hi => (congrFun (ha 20 (by omega) (by omega) (by omega) (by omega)) i).trans ((p4 i hi).trans (congrFun (hb 8 (by omega) (by omega)) i).symm)⟩
  · unfold rL rL1
    rw [ha 22 (by omega) (by omega) (by omega) (by omega), ha 23 (by omega) (by omega) (by omega) (by omega), ha 24 (by omega) (by omega) (by omega) (by omega), ha 25 (by omega) (by omega) (by omega) (by omega), ha 26 (by omega) (by omega) (by omega) (by omega), hb 9 (by omega) (by omega), hb 10 (by omega) (by omega)]
    exact hL
section WS
variable {I : Nat → Int32} {A : Nat → Nat → Int32} {J : Nat → Int32} {B : Nat → Nat → Int32} {L : Nat → Nat → Int64} {t : List zm_E}
theorem c_addW {d n u : Nat} (hd : 1 ≤ d) (hn : I 102 = nI n) (n6 : n < 6) : zC d 4 [.ref 1, .int (nI u)] (hC I A, t) = some (none, (hC (upd I 102 (nI (n + 1))) (va_up A 2 (upd (A 2) n (nI u))), t)) := by
  obtain ⟨d, rfl⟩ : ∃ e, d = e + 1 := ⟨d - 1, by omega⟩
  rw [e_X0_addWord, hn, pn_f (nI_pos (by omega)), pn_t (show nI n < (6 : Int32) from nI_lt (b := 6) n6 (by decide)), pn_in n6 (by decide), cond_true, pn_cl (by omega), nI_1]
theorem c_wordsL (d : Nat) (hd : 1 ≤ d) {n M : Nat} {x1 : Int32} {T : Nat → Nat} (hM : n + M ≤ 6) : ∀ (j i f : Nat) (I : Nat → Int32) (A : Nat → Nat → Int32), i + j = M → j < f → I 102 = nI (n + i) → I 1703 = nI M → (∀ k, k < M → A 19 k = nI (T k)) → ∃ I' A', (∀ t, zR d f 78 58 [some (.ref 0), some (.int x1), some (.int (nI i))] [] (hC I A, t) = some (some (.int (nI (n + M))), (hC I' A', t))) ∧ (∀ c, c ≠ 102 → I' c = I c) ∧ I' 102 = nI (n + M) ∧ (∀ c, c ≠ 2 → A' c = A c) ∧ (∀ k, k < n + i → A' 2 k = A 2 k) ∧ ∀ k, i ≤ k → k < M → A' 2 (n + k) = nI (T k) := by
  intro j
  induction j with
  | zero =>
    intro i f I A hi hf hn h3 hT
    obtain ⟨f, rfl⟩ : ∃ e, f = e + 1 := ⟨f - 1, by omega⟩
    have e : i = M := by omega
    subst e
    refine ⟨I, A, fun t => ?_, fun c _ => rfl, hn, fun c _ => rfl, fun k _ => rfl, fun k h1 h2 => by omega⟩
    rw [e_X9_words_at58, h3, pn_t (nI_le (Nat.le_refl _) (by omega)), hn]
  | succ j ih =>
    intro i f I A hi hf hn h3 hT
    obtain ⟨f, rfl⟩ : ∃ e, f = e + 1 := ⟨f - 1, by omega⟩
    obtain ⟨I', A', r1, r2, r3, r4, r5, r6⟩ := ih (i + 1) f (upd I 102 (nI (n + i + 1))) (va_up A 2 (upd (A 2) (n + i) (nI (T i)))) (by omega) (by omega) upd_eq ((upd_ne (by decide)).trans h3) (fun k hk => by rw [vu_ne (by decide)]; exact hT k hk)
    refine ⟨I', A', fun t => ?_, fun c hc => by rw [r2 c hc, upd_ne hc], r3, fun c hc => by rw [r4 c hc, vu_ne hc], fun k hk => ?_, fun k h1 h2 => ?_⟩
    · rw [e_X9_words_at58, h3, pn_f (nI_ge (by omega) (by omega)), pn_f (show ¬ (6 : Int32) ≤ nI i from nI_ge (b := 6) (by omega) (by decide)), pn_in (show i < 6 by omega) (by decide), cond_true, pn_cl (by omega), hT i (by omega), c_addW hd hn (by omega), pn_c0, nI_1]
      exact r1 t
    · rw [r5 k (by omega), vu_eq, upd_ne (by omega)]
    · rcases Nat.lt_or_ge i k with u | u
      · exact r6 k u h2
      · rw [show k = i by omega, r5 (n + i) (by omega), vu_eq, upd_eq]
theorem r_wordsL (d : Nat) {n M : Nat} {T : Nat → Nat} (gM : n + M ≤ 6) : ∀ (j i f : Nat) (J : Nat → Int32) (B : Nat → Nat → Int32), i + j = M → j < f → J 2 = nI (n + i) → (∀ k, k < M → B 12 k = nI (T k)) → ∃ J' B', (∀ t, zR d f 148 32 [some (.ref 1000), some (.int (nI M)), some (.int (nI i))] [] (t, hM J B L) = some (some (.int (nI (n + M))), (t, hM J' B' L))) ∧ (∀ c, c ≠ 2 → J' c = J c) ∧ J' 2 = nI (n + M) ∧ (∀ c, c ≠ 1 → B' c = B c) ∧ (∀ k, k < n + i → B' 1 k = B 1 k) ∧ ∀ k, i ≤ k → k < M → B' 1 (n + k) = nI (T k) := by
  intro j
  induction j with
  | zero =>
    intro i f J B hi hf hn hT
    obtain ⟨f, rfl⟩ : ∃ e, f = e + 1 := ⟨f - 1, by omega⟩
    have e : i = M := by omega
    subst e
    refine ⟨J, B, fun t => ?_, fun c _ => rfl, hn, fun c _ => rfl, fun k _ => rfl, fun k h1 h2 => by omega⟩
    rw [e_X10_words_at32, pn_t (nI_le (Nat.le_refl _) (by omega)), hn]
  | succ j ih =>
    intro i f J B hi hf hn hT
    obtain ⟨f, rfl⟩ : ∃ e, f = e + 1 := ⟨f - 1, by omega⟩
    obtain ⟨J', B', r1, r2, r3, r4, r5, r6⟩ := ih (i + 1) f (upd J 2 (nI (n + i + 1))) (va_up B 1 (upd (B 1) (n + i) (nI (T i)))) (by omega) (by omega) upd_eq (fun k hk => by rw [vu_ne (by decide)]; exact hT k hk)
    refine ⟨J', B', fun t => ?_, fun c hc => by rw [r2 c hc, upd_ne hc], r3, fun c hc => by rw [r4 c hc, vu_ne hc], fun k hk => ?_, fun k h1 h2 => ?_⟩
    · rw [e_X10_words_at32, pn_f (nI_ge (by omega) (by omega)), pn_in (show i < 6 by omega) (by decide), cond_true, hn, pn_in (show n + i < 6 by omega) (by decide), cond_true, pn_cl (show i < 2 ^ 31 by omega), pn_cl (show n + i < 2 ^ 31 by omega), hT i (by omega), nI_1, nI_1]
      exact r1 t
    · rw [r5 k (by omega), vu_eq, upd_ne (by omega)]
    · rcases Nat.lt_or_ge i k with u | u
      · exact r6 k u h2
      · rw [show k = i by omega, r5 (n + i) (by omega), vu_eq, upd_eq]
theorem P_words (h : Rel I A J B) : Ans 78 148 [] I A J B L := by
  have hh := h
  obtain ⟨⟨⟨s, ⟨n, w⟩, ⟨z, l⟩, ⟨p, k, o⟩, ⟨r, a, v⟩⟩, hv, hc, hm⟩, -, ⟨tz, tc, t1, t2, t3, t4⟩, -, -⟩ := h
  have hv' := hv
  obtain ⟨v1, ⟨n6, vw⟩, ⟨z40, vl⟩, v4, v5⟩ := hv'
  obtain ⟨c1, ⟨c2, cw⟩, ⟨c3, cl⟩, ⟨c4, cp⟩, ⟨c5, cr⟩⟩ := id hc
  obtain ⟨m1, ⟨m2, mw⟩, ⟨m3, ml⟩, ⟨m4, mp⟩, ⟨m5, mr⟩⟩ := id hm
  have s3 : s ≤ 3 := by omega
  have s1 : 1 ≤ s := by omega
  have c1 : I 100 = nI s := c1
  have c2 : I 102 = nI n := c2
  have e1 := fun t => e_X9_words 59 I A t
  have e2 := fun t => e_X10_words 59 J B L t
  have hv0 : vT s 0 (0, (fun _ => 0), 0, 0) := ⟨Nat.le_refl _, ⟨0, by omega, rfl⟩, Nat.zero_le _, fun k hk => absurd hk (by dsimp only; omega)⟩
  obtain ⟨I1, A1, p1, p2, p3, p4⟩ := c_readL (s := s) 58 (by omega) s3 t1 (fun i hi => (t4 i hi).2.1) tz 0 10000000 (upd (upd (upd I 1703 0) 1704 0) 1705 0) A (0, (fun _ => 0), 0, 0) (by omega) (by omega) t2 (fun i hi => (t4 i hi).2.2.1) hv0 ⟨rfl, rfl, rfl, fun k hk => absurd hk (by dsimp only; omega)⟩
  obtain ⟨B1, q1, q2, q3⟩ := r_readL (L := L) (s := s) 58 (by omega) m1 s3 s1 t3 t1 (fun i hi => (t4 i hi).2.1) tz tz 0 9999999 0 0 0 0 (fun _ => 0) B none none none (Nat.le_refl _) (by omega) (by omega) hv0 (by omega) rfl (Or.inl rfl) (fun k hk => by omega) (fun i hi => (t4 i hi).2.2.2)
  have p1' : ∀ t, zC 59 52 [.ref 17, .int (nI s)] (hC I A, t) = some (some (.int (rsC (rnT s tc tz 0 (0, (fun _ => 0), 0, 0)))), (hC I1 A1, t)) := fun t => (e_X7_read 58 I A t (nI s)).trans (p1 t)
  have q1' : ∀ t, zC 59 147 [.ref 1000] (t, hM J B L) = some (some (.int (rsM (rnT s tc tz 0 (0, (fun _ => 0), 0, 0)))), (t, hM J B1 L)) := fun t => by
    rw [e_X10_reads, F1, e_X10_reads_at4]
    exact q1 t
  have hok := rnT_ok (c := tc) s3 tz 0 _ hv0
  have hp2 : ∀ c, c < 1703 → I1 c = I c := fun c hc => by rw [p2 c hc, upd_ne (by omega), upd_ne (by omega), upd_ne (by omega)]
  generalize rnT s tc tz 0 (0, (fun _ => 0), 0, 0) = R at p1' q1' hok p4 q3
  simp only [c1, p1', pn_c1, F1, e_X9_words_at14] at e1
  simp only [q1', pn_c1, F1, e_X10_words_at4] at e2
  -- the tape is empty behind it
  have hR0 : Rel (upd I1 1701 0) A1 (upd J 12 0) B1 := by
    refine Rel_new hh hv (cB_fr hc ((upd_ne (by omega)).trans (hp2 _ (by omega))) ((upd_ne (by omega)).trans (hp2 _ (by omega))) ((upd_ne (by omega)).trans (hp2 _ (by omega))) ((upd_ne (by omega)).trans (hp2 _ (by omega))) ((upd_ne (by omega)).trans (hp2 _ (by omega))) (p3 _ (by omega)) (p3 _ (by omega)) (p3 _ (by omega)) (p3 _ (by omega)) (p3 _ (by omega)) (p3 _ (by omega))) (mB_fr hm (upd_ne (by omega)) (upd_ne (by omega)) (upd_ne (by omega)) (upd_ne (by omega)) (upd_ne (by omega)) (q2 _ (by omega)) (q2 _ (by omega)) (q2 _ (by omega)) (q2 _ (by omega)) (q2 _ (by omega)) (q2 _ (by omega))) ⟨0, tc, by omega, upd_eq, upd_eq, fun i hi => by omega⟩ ((upd_ne (by omega)).trans (hp2 _ (by omega))) ((upd_ne (by omega)).trans (hp2 _ (by omega))) (fun c h1 h2 => (upd_ne (by omega)).trans (hp2 _ (by omega))) (fun c h1 h2 h3 h4 => p3 c h4) (upd_ne (by omega)) (upd_ne (by omega)) (fun c h1 h2 => q2 c (by omega))
  cases R with
  | inl P =>
    have hP := hok.1 P rfl
    have np : ¬ rsC (.inl P) = -1 := fun e => by
      have := congrArg Int32.toInt (show nI P = -1 from e)
      rw [nI_toInt (by omega)] at this
      have e1 : (-1 : Int32).toInt = -1 := rfl
      omega
    have nn : ¬ (0 : Int32) ≤ rsM (.inl P) := by
      show ¬ (0 : Int32) ≤ -100 - nI P
      intro q
      have := Int32.le_iff_toInt_le.mp q
      rw [show (-100 : Int32) - nI P = -(nI (100 + P)) by rw [← nI_add, show nI 100 = 100 from rfl, Int32.neg_add, Int32.sub_eq_add_neg], sb_negT (by omega)] at this
      have e0 : (0 : Int32).toInt = 0 := rfl
      omega
    simp only [pn_f np] at e1
    simp only [pn_f nn] at e2
    exact ⟨_, _, _, _, _, _, e1, e2, hR0⟩
  | inr Q =>
    obtain ⟨M, T⟩ := Q
    obtain ⟨hM1, hMT⟩ := hok.2 M T rfl
    obtain ⟨g1, g2⟩ := p4 M T rfl
    have g3 := q3 M T rfl
    have nn : (0 : Int32) ≤ nI M := nI_pos' (by omega)
    simp only [pn_t (show rsC (.inr (M, T)) = -1 from rfl), upd_ne (show 102 ≠ 1701 by decide), upd_ne (show 1703 ≠ 1701 by decide), hp2 102 (by decide), c2, g1, nI_add] at e1
    simp only [pn_t nn, upd_ne (show 2 ≠ 12 by decide), m2, show rsM (.inr (M, T)) = nI M from rfl, nI_add] at e2
    by_cases c6 : n + M ≤ 6
    · simp only [pn_t (show nI (n + M) ≤ (6 : Int32) from nI_le (b := 6) c6 (by decide))] at e1 e2
      obtain ⟨I', A', u1, u2, u3, u4, u5, u6⟩ := c_wordsL (x1 := -1) 59 (by omega) c6 M 0 9999999 (upd I1 1701 0) A1 (by omega) (by omega) ((upd_ne (by decide)).trans ((hp2 102 (by decide)).trans c2)) ((upd_ne (by decide)).trans g1) (fun k hk => g2 k hk (by omega))
      obtain ⟨J', B', y1, y2, y3, y4, y5, y6⟩ := r_wordsL (L := L) 59 c6 M 0 9999999 (upd J 12 0) B1 (by omega) (by omega) ((upd_ne (by decide)).trans m2) (fun k hk => g3 k hk (by omega))
      have u1' : ∀ t, zR 59 9999999 78 58 [some (.ref 0), some (.int (-1)), some (.int 0)] [] (hC (upd I1 1701 0) A1, t) = _ := u1
      have y1' : ∀ t, zR 59 9999999 148 32 [some (.ref 1000), some (.int (nI M)), some (.int 0)] [] (t, hM (upd J 12 0) B1 L) = _ := y1
      have hI : ∀ c, c < 1701 → c ≠ 102 → I' c = I c := fun c h1 h2 => by rw [u2 c h2, upd_ne (by omega), hp2 c (by omega)]
      have hA : ∀ c, c ≠ 2 → c ≠ 19 → A' c = A c := fun c h1 h2 => by rw [u4 c h1, p3 c h2]
      have hJ : ∀ c, c ≠ 2 → c ≠ 12 → J' c = J c := fun c h1 h2 => by rw [y2 c h1, upd_ne h2]
      have hB : ∀ c, c ≠ 1 → c ≠ 12 → B' c = B c := fun c h1 h2 => by rw [y4 c h1, q2 c h2]
      refine ⟨_, _, _, _, _, _, fun t => (e1 t).trans (u1' t), fun t => (e2 t).trans (y1' t), Rel_new (b' := (s, (n + M, fun k => if k < n then w k else T (k - n)), (z, l), (p, k, o), (r, a, v))) hh ⟨v1, ⟨c6, fun k hk => ?_⟩, ⟨z40, vl⟩, ⟨v4.1, fun i hi => ⟨(v4.2 i hi).1, by have := (v4.2 i hi).2; omega⟩⟩, v5⟩ ⟨(hI 100 (by decide) (by decide)).trans c1, ⟨u3, fun k hk => ?_⟩, ⟨(hI 301 (by decide) (by decide)).trans c3, fun i hi => (congrFun (hA 4 (by decide) (by decide)) i).trans (cl i hi)⟩, ⟨(hI 106 (by decide) (by decide)).trans c4, fun i hi => ⟨(congrFun (hA 5 (by decide) (by decide)) i).trans (cp i hi).1, (congrFun (hA 6 (by decide) (by decide)) i).trans (cp i hi).2⟩⟩, ⟨(hI 109 (by decide) (by decide)).trans c5, fun i hi => ⟨(congrFun (hA 7 (by decide) (by decide)) i).trans (cr i hi).1, (congrFun (hA 8 (by decide) (by decide)) i).trans (cr i hi).2⟩⟩⟩ ⟨(hJ 0 (by decide) (by decide)).trans m1, ⟨y3, fun k hk => ?_⟩, ⟨(hJ 4 (by decide) (by decide)).trans m3, fun i hi => (congrFun (hB 2 (by decide) (by decide)) i).trans (ml i hi)⟩, ⟨(hJ 7 (by decide) (by decide)).trans m4, fun i hi => ⟨(congrFun (hB 3 (by decide) (by decide)) i).trans (mp i hi).1, (congrFun (hB 4 (by decide) (by decide)) i).trans (mp i hi).2⟩⟩, ⟨(hJ 10 (by decide) (by decide)).trans m5, fun i hi => ⟨(congrFun (hB 5 (by decide) (by decide)) i).trans (mr i hi).1, (congrFun (hB 6 (by decide) (by decide)) i).trans (mr i hi).2⟩⟩⟩ ⟨0, tc, by omega, (u2 1701 (by decide)).trans upd_eq, (y2 12 (by decide)).trans upd_eq, fun i hi => by omega⟩ (hI 2 (by decide) (by decide)) (hI 5 (by decide) (by decide)) (fun c h1 h2 => hI c (by omega) (by omega)) (fun c h1 h2 h3 h4 => hA c (by omega) h4) (hJ 14 (by decide) (by decide)) (hJ 18 (by decide) (by decide)) (fun c h1 h2 => hB c (by omega) (by omega))⟩
      · dsimp only
        by_cases e : k < n
        · rw [if_pos e]; exact vw k e
        · rw [if_neg e]; exact hMT _ (by omega)
      · show A' 2 k = nI (if k < n then w k else T (k - n))
        by_cases e : k < n
        · rw [if_pos e, u5 k (by omega), p3 2 (by decide)]; exact cw k e
        · rw [if_neg e]
          have := u6 (k - n) (by omega) (by omega)
          rw [show n + (k - n) = k by omega] at this
          exact this
      · show B' 1 k = nI (if k < n then w k else T (k - n))
        by_cases e : k < n
        · rw [if_pos e, y5 k (by omega), q2 1 (by decide)]; exact mw k e
        · rw [if_neg e]
          have := y6 (k - n) (by omega) (by omega)
          rw [show n + (k - n) = k by omega] at this
          exact this
    · simp only [pn_f (show ¬ nI (n + M) ≤ (6 : Int32) from nI_ge (a := 6) (by omega) (by omega))] at e1 e2
      exact ⟨_, _, _, _, _, _, e1, e2, hR0⟩
end WS
/-! rings -/
def fnd1 {α : Type} (F : Nat → Option α) : Nat → Nat → Option α
  | 0, _ => none
  | j + 1, w => match F w with
    | some r => some r
    | none => fnd1 F j (w + 1)
theorem fnd1_s {α : Type} {F : Nat → Option α} {j w : Nat} {r : α} (h : F w = some r) : fnd1 F (j + 1) w = some r := by simp only [fnd1, h]
theorem fnd1_n {α : Type} {F : Nat → Option α} {j w : Nat} (h : F w = none) : fnd1 F (j + 1) w = fnd1 F j (w + 1) := by simp only [fnd1, h]
theorem fnd1_0 {α : Type} {F : Nat → Option α} : ∀ j w, (∀ v, w ≤ v → F v = none) → fnd1 F j w = none
  | 0, _, _ => rfl
  | j + 1, w, h => by
    rw [fnd1_n (h w (Nat.le_refl _))]
    exact fnd1_0 j (w + 1) (fun v hv => h v (by omega))
def okk (n : Nat) (be : Nat → Nat → Bool) (row : Nat → Nat) (i w : Nat) : Bool := decide (w < n) && ((decide (i = 0) || be (row (i - 1)) w) && !anyb (fun k => decide (row k = w)) i 0)
/-- the first ring that goes on from a row of i (g are wanting) -/
def rg (n : Nat) (be : Nat → Nat → Bool) : Nat → Nat → (Nat → Nat) → Option (Nat → Nat)
  | 0, i, row => if be (row (i - 1)) (row 0) = true then some row else none
  | g + 1, i, row => fnd1 (fun w => if okk n be row i w = true then rg n be g (i + 1) (fun k => if k = i then w else row k) else none) 6 0
theorem okk_n {n i w : Nat} {be : Nat → Nat → Bool} {row : Nat → Nat} (h : n ≤ w) : okk n be row i w = false := by
  unfold okk
  rw [decide_eq_false (by omega), Bool.false_and]
/-- bits of a row of the beaten -/
def bmk (f : Nat → Bool) : Nat → Nat
  | 0 => 0
  | j + 1 => bmk f j + (if f j = true then 2 ^ j else 0)
theorem bmk_lt (f : Nat → Bool) : ∀ j, bmk f j < 2 ^ j
  | 0 => by simp only [bmk]; decide
  | j + 1 => by
    have := bmk_lt f j
    simp only [bmk]
    rw [Nat.pow_succ]
    split <;> omega
theorem bit_add : ∀ j, j < 6 → ∀ m, m < 2 ^ j → ∀ v, v < 6 → ((m + 2 ^ j) / 2 ^ v % 2 = 1 ↔ v = j ∨ m / 2 ^ v % 2 = 1) := by decide
theorem bit_hi : ∀ j, j < 6 → ∀ m, m < 2 ^ j → ¬ m / 2 ^ j % 2 = 1 := by decide
theorem bmk_bit (f : Nat → Bool) : ∀ j, j ≤ 6 → ∀ v, v < 6 → (bmk f j / 2 ^ v % 2 = 1 ↔ v < j ∧ f v = true)
  | 0, _, v, hv => by
    simp only [bmk, Nat.zero_div]
    constructor
    · intro h; cases h
    · rintro ⟨h, -⟩; omega
  | j + 1, hj, v, hv => by
    have ih := bmk_bit f j (by omega) v hv
    have hl := bmk_lt f j
    simp only [bmk]
    by_cases c : f j = true
    · rw [if_pos c, bit_add j (by omega) _ hl v hv, ih]
      constructor
      · rintro (rfl | ⟨h1, h2⟩)
        · exact ⟨by omega, c⟩
        · exact ⟨by omega, h2⟩
      · rintro ⟨h1, h2⟩
        rcases Nat.lt_or_ge v j with q | q
        · exact Or.inr ⟨q, h2⟩
        · exact Or.inl (by omega)
    · rw [if_neg c, Nat.add_zero, ih]
      constructor
      · rintro ⟨h1, h2⟩; exact ⟨by omega, h2⟩
      · rintro ⟨h1, h2⟩
        refine ⟨?_, h2⟩
        rcases Nat.lt_or_ge v j with q | q
        · exact q
        · exact absurd h2 (by rw [show v = j by omega]; exact c)
set_option maxRecDepth 10000 in
theorem b_get : ∀ m, m < 64 → ∀ w, w < 6 → (((nI m >>> (nI w &&& 31)) &&& 1) = 1 ↔ m / 2 ^ w % 2 = 1) := by decide
set_option maxRecDepth 10000 in
theorem b_or : ∀ j, j < 6 → ∀ m, m < 2 ^ j → nI m ||| ((1 : Int32) <<< (nI j &&& 31)) = nI (m + 2 ^ j) := by decide
set_option maxRecDepth 10000 in
theorem b_clr : ∀ m, m < 64 → ∀ w, w < 6 → m / 2 ^ w % 2 = 1 → nI m &&& (((1 : Int32) <<< (nI w &&& 31)) ^^^ (-1)) = nI (m - 2 ^ w) := by decide
set_option maxRecDepth 10000 in
theorem b_clr3 : ∀ m, m < 64 → ∀ w, w < 6 → ∀ v, v < 6 → m / 2 ^ w % 2 = 1 → ((m - 2 ^ w) / 2 ^ v % 2 = 1 ↔ m / 2 ^ v % 2 = 1 ∧ v ≠ w) := by decide
theorem b_clr2 (m : Nat) (hm : m < 64) (w : Nat) (hw : w < 6) (h : m / 2 ^ w % 2 = 1) (v : Nat) (hv : v < 6) : (m - 2 ^ w) / 2 ^ v % 2 = 1 ↔ m / 2 ^ v % 2 = 1 ∧ v ≠ w := b_clr3 m hm w hw v hv h
theorem b_all : ∀ n, n ≤ 6 → ((1 : Int32) <<< (nI n &&& 31)) - 1 = nI (2 ^ n - 1) ∧ 2 ^ n - 1 < 64 ∧ ∀ v, v < 6 → ((2 ^ n - 1) / 2 ^ v % 2 = 1 ↔ v < n) := by decide
section RI
variable {I : Nat → Int32} {A : Nat → Nat → Int32} {J : Nat → Int32} {B : Nat → Nat → Int32} {L : Nat → Nat → Int64} {t : List zm_E} {s n : Nat} {w : Nat → Nat}
/-- the class's rows of the beaten -/
def btn (n : Nat) (be : Nat → Nat → Bool) (A : Nat → Nat → Int32) : Prop := ∀ i, i < n → A 43 i = nI (bmk (be i) n)
theorem c_isB {d p u v : Nat} {be : Nat → Nat → Bool} (hd : 1 ≤ d) (n6 : n ≤ 6) (hb : btn n be A) (hp : p < 6) (hr : A 42 p = nI u) (hu : u < n) (hv : v < n) : zC d 41 [.ref 41, .int (nI p), .int (nI v)] (hC I A, t) = some (some (.int (b01 (be u v))), (hC I A, t)) := by
  obtain ⟨d, rfl⟩ : ∃ e, d = e + 1 := ⟨d - 1, by omega⟩
  have hl := bmk_lt (be u) n
  have h64 : 2 ^ n ≤ 2 ^ 6 := Nat.pow_le_pow_right (by omega) n6
  have hg := b_get (bmk (be u) n) (by omega) v (by omega)
  rw [bmk_bit (be u) n n6 v (by omega)] at hg
  rw [e_X5_isBeaten, pn_f (nI_pos (by omega)), pn_f (show ¬ (6 : Int32) ≤ nI p from nI_ge (b := 6) hp (by decide)), pn_in hp (by decide), cond_true, pn_cl (by omega), hr, pn_in (show u < 6 by omega) (by decide), cond_true, pn_cl (by omega), hb u hu]
  by_cases c : be u v = true
  · rw [pn_f (fun q => q (hg.mpr ⟨hv, c⟩)), c]; rfl
  · rw [pn_t (fun q => c (hg.mp q).2), Bool.eq_false_iff.mpr c]; rfl
theorem c_closes {be : Nat → Nat → Bool} {N : Nat} (n6 : n ≤ 6) (N3 : 3 ≤ N) (N6 : N ≤ 6) : ∀ (g i d m : Nat) (A : Nat → Nat → Int32) (row : Nat → Nat), i + g = N → g + 10 ≤ d → btn n be A → (∀ k, k < i → A 42 k = nI (row k) ∧ row k < n) → m < 64 → (∀ v, v < 6 → (m / 2 ^ v % 2 = 1 ↔ v < n ∧ ¬ anyb (fun k => decide (row k = v)) i 0 = true)) → ∃ A', (∀ t, zC d 40 [.ref 41, .int (nI m), .int (nI i), .int (nI N)] (hC I A, t) = some (some (.int (b01 (rg n be g i row).isSome)), (hC I A', t))) ∧ (∀ c, c ≠ 42 → A' c = A c) ∧ (∀ k, k < i → A' 42 k = A 42 k) ∧ ∀ r, rg n be g i row = some r → ∀ k, k < N → A' 42 k = nI (r k) ∧ r k < n := by
  intro g
  induction g with
  | zero =>
    intro i d m A row hi hd hb hr hm hmb
    obtain ⟨d, rfl⟩ : ∃ e, d = e + 1 := ⟨d - 1, by omega⟩
    have e : i = N := by omega
    subst e
    have hr0 := hr 0 (by omega)
    have hr1 := hr (i - 1) (by omega)
    refine ⟨A, fun t => ?_, fun c _ => rfl, fun k _ => rfl, fun r h k hk => ?_⟩
    · rw [e_X5_closes, pn_t (nI_pos' (by omega)), pn_t (nI_le (Nat.le_refl _) (by omega)), show A 42 (Int32.toNatClampNeg 0) = nI (row 0) from hr0.1, show nI i - 1 = nI (i - 1) from pn_sub (b := 1) (by omega), c_isB (by omega) n6 hb (by omega) hr1.1 hr1.2 hr0.2, pn_c1, zm01_b, cond_true]
      simp only [rg]
      by_cases c : be (row (i - 1)) (row 0) = true
      · rw [if_pos c, c]; rfl
      · rw [if_neg c, Bool.eq_false_iff.mpr c]; rfl
    · simp only [rg] at h
      by_cases c : be (row (i - 1)) (row 0) = true
      · rw [if_pos c] at h; cases h; exact hr k hk
      · rw [if_neg c] at h; cases h
  | succ g ih =>
    intro i d m A row hi hd hb hr hm hmb
    obtain ⟨d, rfl⟩ : ∃ e, d = e + 1 := ⟨d - 1, by omega⟩
    have hN0 : ¬ nI N ≤ nI i := nI_ge (by omega) (by omega)
    have loop : ∀ (j v : Nat) (A : Nat → Nat → Int32), v + j = 6 → btn n be A → (∀ k, k < i → A 42 k = nI (row k) ∧ row k < n) → ∃ A', (∀ f t, 2 * j < f → zR d f 40 34 [some (.ref 41), some (.int (nI m)), some (.int (nI i)), some (.int (nI N)), some (.int (nI v))] [] (hC I A, t) = some (some (.int (b01 (fnd1 (fun w => if okk n be row i w = true then rg n be g (i + 1) (fun k => if k = i then w else row k) else none) j v).isSome)), (hC I A', t))) ∧ (∀ c, c ≠ 42 → A' c = A c) ∧ (∀ k, k < i → A' 42 k = A 42 k) ∧ ∀ r, fnd1 (fun w => if okk n be row i w = true then rg n be g (i + 1) (fun k => if k = i then w else row k) else none) j v = some r → ∀ k, k < N → A' 42 k = nI (r k) ∧ r k < n := by
      intro j
      induction j with
      | zero =>
        intro v A hv hb hr
        refine ⟨A, fun f t hf => ?_, fun c _ => rfl, fun k _ => rfl, fun r h => by (simp only [fnd1] at h; cases h)⟩
        obtain ⟨f, rfl⟩ : ∃ e, f = e + 1 := ⟨f - 1, by omega⟩
        rw [e_X5_closes_at34, pn_t (show (6 : Int32) ≤ nI v from nI_le (a := 6) (by omega) (by omega))]
        rfl
      | succ j ihj =>
        intro v A hv hb hr
        have hg := b_get m hm v (by omega)
        rw [hmb v (by omega)] at hg
        cases c : okk n be row i v with
        | false =>
          have hF : (fun w => if okk n be row i w = true then rg n be g (i + 1) (fun k => if k = i then w else row k) else none) v = none := by
            dsimp only
            rw [if_neg (by rw [c]; decide)]
          rw [fnd1_n hF]
          obtain ⟨A', a1, a2, a3, a4⟩ := ihj (v + 1) A (by omega) hb hr
          refine ⟨A', fun f t hf => ?_, a2, a3, a4⟩
          obtain ⟨f, rfl⟩ : ∃ e, f = e + 1 + 1 := ⟨f - 2, by omega⟩
          rw [e_X5_closes_at34, pn_f (show ¬ (6 : Int32) ≤ nI v from nI_ge (b := 6) (by omega) (by decide)), nI_1]
          by_cases cl : v < n ∧ ¬ anyb (fun k => decide (row k = v)) i 0 = true
          · unfold okk at c
            rw [decide_eq_true cl.1, Bool.true_and, Bool.eq_false_iff.mpr cl.2, Bool.not_false, Bool.and_true, Bool.or_eq_false_iff] at c
            have i0 : i ≠ 0 := fun q => by rw [decide_eq_true q] at c; cases c.1
            have hr1 := hr (i - 1) (by omega)
            rw [pn_f (fun q => q (hg.mpr cl)), pn_f (nI_ne0 (by omega) (by omega)), show nI i - 1 = nI (i - 1) from pn_sub (b := 1) (by omega), c_isB (by omega) n6 hb (by omega) hr1.1 hr1.2 cl.1, pn_c1, c.2, b01_f, e_X5_closes_at64, d_00, cond_true, nI_1]
            exact a1 f t (by omega)
          · rw [pn_t (fun q => cl (hg.mp q))]
            exact a1 (f + 1) t (by omega)
        | true =>
          have c' := c
          unfold okk at c'
          rw [Bool.and_eq_true, Bool.and_eq_true, decide_eq_true_eq, Bool.or_eq_true, decide_eq_true_eq, Bool.not_eq_true'] at c'
          obtain ⟨c1, c2, c3⟩ := c'
          have c3' : ¬ anyb (fun k => decide (row k = v)) i 0 = true := by rw [c3]; decide
          have hbit := (hmb v (by omega)).mpr ⟨c1, c3'⟩
          obtain ⟨A2, a1, a2, a3, a4⟩ := ih (i + 1) d (m - 2 ^ v) (va_up A 42 (upd (A 42) i (nI v))) (fun k => if k = i then v else row k) (by omega) (by omega) (fun q hq => by rw [vu_ne (by decide)]; exact hb q hq) (fun k hk => by
            rw [vu_eq]
            by_cases e : k = i
            · subst e; rw [upd_eq, if_pos rfl]; exact ⟨rfl, c1⟩
            · rw [upd_ne e, if_neg e]; exact hr k (by omega)) (Nat.lt_of_le_of_lt (Nat.sub_le _ _) hm) (fun u hu => by
            rw [b_clr2 m hm v (by omega) hbit u hu, hmb u hu]
            constructor
            · rintro ⟨⟨q1, q2⟩, q3⟩
              refine ⟨q1, fun q => ?_⟩
              obtain ⟨x, x1, x2, x3⟩ := (anyb_iff _ _ _).mp q
              have x3 := of_decide_eq_true x3
              by_cases e : x = i
              · rw [if_pos e] at x3; exact q3 x3.symm
              · rw [if_neg e] at x3; exact q2 ((anyb_iff _ _ _).mpr ⟨x, by omega, by omega, decide_eq_true x3⟩)
            · rintro ⟨q1, q2⟩
              refine ⟨⟨q1, fun q => ?_⟩, fun q => ?_⟩
              · obtain ⟨x, x1, x2, x3⟩ := (anyb_iff _ _ _).mp q
                have x3 := of_decide_eq_true x3
                exact q2 ((anyb_iff _ _ _).mpr ⟨x, by omega, by omega, decide_eq_true (by rw [if_neg (show x ≠ i by omega)]; exact x3)⟩)
              · exact q2 ((anyb_iff _ _ _).mpr ⟨i, by omega, by omega, decide_eq_true (by rw [if_pos rfl]; exact q.symm)⟩))
          have ec : ∀ t, zC d 40 [(.ref 41), (.int (nI m &&& (((1 : Int32) <<< (nI v &&& 31)) ^^^ (-1)))), (.int (nI i + 1)), (.int (nI N))] (hC I (va_up A 42 (upd (A 42) (Int32.toNatClampNeg (nI i)) (nI v))), t) = some (some (.int (b01 (rg n be g (i + 1) (fun k => if k = i then v else row k)).isSome)), (hC I A2, t)) := fun t => by
            rw [b_clr m hm v (by omega) hbit, nI_1, pn_cl (by omega)]
            exact a1 t
          have k3 : ∀ k, k < i → A2 42 k = A 42 k := fun k hk => by rw [a3 k (by omega), vu_eq, upd_ne (by omega)]
          have k2 : ∀ c, c ≠ 42 → A2 c = A c := fun c hc => by rw [a2 c hc, vu_ne hc]
          -- the step, whatever comes of it
          have st : ∀ f t, zR d (f + 1 + 1) 40 34 [some (.ref 41), some (.int (nI m)), some (.int (nI i)), some (.int (nI N)), some (.int (nI v))] [] (hC I A, t) = (if i = 0 then (bif decide (b01 (rg n be g (i + 1) (fun k => if k = i then v else row k)).isSome = 0) then (zR d (f + 1) 40 34 [some (.ref 41), some (.int (nI m)), some (.int (nI i)), some (.int (nI N)), some (.int (nI (v + 1)))] [] (hC I A2, t)) else some (some (.int 1), (hC I A2, t))) else (bif decide (b01 (rg n be g (i + 1) (fun k => if k = i then v else row k)).isSome = 0) then (zR d f 40 34 [some (.ref 41), some (.int (nI m)), some (.int (nI i)), some (.int (nI N)), some (.int (nI (v + 1)))] [] (hC I A2, t)) else some (some (.int 1), (hC I A2, t)))) := fun f t => by
            rw [e_X5_closes_at34, pn_f (show ¬ (6 : Int32) ≤ nI v from nI_ge (b := 6) (by omega) (by decide)), pn_f (fun q => q (hg.mpr ⟨c1, c3'⟩))]
            by_cases i0 : i = 0
            · rw [if_pos i0, pn_t (show nI i = 0 by rw [i0]; rfl), pn_in (show i < 6 by omega) (by decide), cond_true, ec, pn_c1, nI_1]
            · have hr1 := hr (i - 1) (by omega)
              rw [if_neg i0, pn_f (nI_ne0 (by omega) (by omega)), show nI i - 1 = nI (i - 1) from pn_sub (b := 1) (by omega), c_isB (by omega) n6 hb (by omega) hr1.1 hr1.2 c1, pn_c1, c2.resolve_left i0, b01_t, e_X5_closes_at64, d_10, cond_false, pn_in (show i < 6 by omega) (by decide), cond_true, ec, pn_c1, nI_1]
          cases hrg : rg n be g (i + 1) (fun k => if k = i then v else row k) with
          | none =>
            have hF : (fun w => if okk n be row i w = true then rg n be g (i + 1) (fun k => if k = i then w else row k) else none) v = none := by
              dsimp only
              rw [if_pos c, hrg]
            rw [fnd1_n hF]
            obtain ⟨A', b1, b2, b3, b4⟩ := ihj (v + 1) A2 (by omega) (fun q hq => by rw [k2 43 (by decide)]; exact hb q hq) (fun k hk => by rw [k3 k hk]; exact hr k hk)
            refine ⟨A', fun f t hf => ?_, fun c hc => (b2 c hc).trans (k2 c hc), fun k hk => (b3 k hk).trans (k3 k hk), b4⟩
            obtain ⟨f, rfl⟩ : ∃ e, f = e + 1 + 1 := ⟨f - 2, by omega⟩
            rw [st, hrg]
            by_cases i0 : i = 0
            · rw [if_pos i0]; exact b1 (f + 1) t (by omega)
            · rw [if_neg i0]; exact b1 f t (by omega)
          | some r =>
            have hF : (fun w => if okk n be row i w = true then rg n be g (i + 1) (fun k => if k = i then w else row k) else none) v = some r := by
              dsimp only
              rw [if_pos c, hrg]
            rw [fnd1_s hF]
            refine ⟨A2, fun f t hf => ?_, k2, k3, fun r' h => ?_⟩
            · obtain ⟨f, rfl⟩ : ∃ e, f = e + 1 + 1 := ⟨f - 2, by omega⟩
              rw [st, hrg]
              by_cases i0 : i = 0
              · rw [if_pos i0]; rfl
              · rw [if_neg i0]; rfl
            · cases h; exact a4 r hrg
    obtain ⟨A', a1, a2, a3, a4⟩ := loop 6 0 A (by omega) hb hr
    refine ⟨A', fun t => ?_, a2, a3, a4⟩
    rw [e_X5_closes, pn_t (nI_pos' (by omega)), pn_f hN0, pn_t (show nI i < (6 : Int32) from nI_lt (b := 6) (by omega) (by decide))]
    exact a1 10000000 t (by omega)
/-! the reference's -/
theorem r_rscan (d : Nat) {i N v : Nat} {row : Nat → Nat} (hi6 : i ≤ 6) (hv6 : v ≤ 6) (hr : ∀ k, k < i → B 14 k = nI (row k) ∧ row k < 2 ^ 31) : ∀ (j k f : Nat) (b : Bool), k + j = i → zR d (f + j) 157 84 [some (.ref 1000), some (.int (nI i)), some (.int (nI N)), some (.int (nI v)), some (.int (b01 b)), some (.int (nI k))] [] (t, hM J B L) = zR d f 157 84 [some (.ref 1000), some (.int (nI i)), some (.int (nI N)), some (.int (nI v)), some (.int (b01 (b && !anyb (fun k => decide (row k = v)) j k))), some (.int (nI i))] [] (t, hM J B L) := by
  intro j
  induction j with
  | zero =>
    intro k f b hk
    have : k = i := by omega
    subst this
    rw [Nat.add_zero]
    simp only [anyb, Bool.not_false, Bool.and_true]
  | succ j ih =>
    intro k f b hk
    have h1 := hr k (by omega)
    rw [show f + (j + 1) = (f + j) + 1 from rfl, e_X10_rings_at84, pn_f (nI_ge (by omega) (by omega)), pn_in (show k < 6 by omega) (by decide), cond_true, pn_cl (by omega), h1.1, pn_eq h1.2 (by omega), nI_1]
    simp only [anyb]
    by_cases c : row k = v
    · rw [pn_t c, if_pos (by simpa using c), show b01 b &&& 0 = b01 false by cases b <;> rfl, ih (k + 1) f false (by omega)]
      rw [Bool.false_and, Bool.not_true, Bool.and_false]
    · rw [pn_f c, if_neg (by simpa using c), show b01 b &&& 1 = b01 b by cases b <;> rfl, ih (k + 1) f b (by omega)]
theorem r_rings {be : Nat → Nat → Bool} {N : Nat} (n6 : n ≤ 6) (N3 : 3 ≤ N) (N6 : N ≤ 6) (hJ : J 0 = nI s) (hn : J 2 = nI n) (hbe : ∀ i j, be i j = bt s (w i) (w j)) : ∀ (g i d : Nat) (B : Nat → Nat → Int32) (row : Nat → Nat), i + g = N → g + 10 ≤ d → (∀ i, i < n → B 1 i = nI (w i) ∧ okw s (w i) = true) → (∀ k, k < i → B 14 k = nI (row k) ∧ row k < n) → ∃ B', (∀ t, zC d 157 [.ref 1000, .int (nI i), .int (nI N)] (t, hM J B L) = some (some (.int (b01 (rg n be g i row).isSome)), (t, hM J B' L))) ∧ (∀ c, c ≠ 14 → B' c = B c) ∧ (∀ k, k < i → B' 14 k = B 14 k) ∧ ∀ r, rg n be g i row = some r → ∀ k, k < N → B' 14 k = nI (r k) ∧ r k < n := by
  intro g
  induction g with
  | zero =>
    intro i d B row hi hd hw hr
    obtain ⟨d, rfl⟩ : ∃ e, d = e + 1 := ⟨d - 1, by omega⟩
    have e : i = N := by omega
    subst e
    have hr0 := hr 0 (by omega)
    have hr1 := hr (i - 1) (by omega)
    have w0 := hw _ hr0.2
    have w1 := hw _ hr1.2
    have l0 := okw_lt w0.2
    have l1 := okw_lt w1.2
    refine ⟨B, fun t => ?_, fun c _ => rfl, fun k _ => rfl, fun r h k hk => ?_⟩
    · rw [e_X10_rings, pn_f (fun q => q rfl), show nI i - 1 = nI (i - 1) from pn_sub (b := 1) (by omega), pn_in (show i - 1 < 6 by omega) (by decide), cond_true, pn_cl (by omega), hr1.1, pn_in (show row (i - 1) < 6 by omega) (by decide), cond_true, show B 14 (Int32.toNatClampNeg 0) = nI (row 0) from hr0.1, pn_in (show row 0 < 6 by omega) (by decide), cond_true, pn_cl (show row (i - 1) < 2 ^ 31 by omega), pn_cl (show row 0 < 2 ^ 31 by omega), w1.1, w0.1, r_beats (by omega) t J B L hJ l1.1 l1.2 l0.1 l0.2, pn_c1, zm01_b, cond_true]
      simp only [rg]
      rw [hbe]
      by_cases c : bt s (w (row (i - 1))) (w (row 0)) = true
      · rw [if_pos c, c]; rfl
      · rw [if_neg c, Bool.eq_false_iff.mpr c]; rfl
    · simp only [rg] at h
      by_cases c : be (row (i - 1)) (row 0) = true
      · rw [if_pos c] at h; cases h; exact hr k hk
      · rw [if_neg c] at h; cases h
  | succ g ih =>
    intro i d B row hi hd hw hr
    obtain ⟨d, rfl⟩ : ∃ e, d = e + 1 := ⟨d - 1, by omega⟩
    have nN : ¬ nI i = nI N := fun q => by
      have := (nI_eq (by omega) (by omega)).mp q
      omega
    have loop : ∀ (j v : Nat) (B : Nat → Nat → Int32), v + j = 6 → (∀ i, i < n → B 1 i = nI (w i) ∧ okw s (w i) = true) → (∀ k, k < i → B 14 k = nI (row k) ∧ row k < n) → ∃ B', (∀ f t o4 o5, 12 * j + 12 < f → zR d f 157 36 [some (.ref 1000), some (.int (nI i)), some (.int (nI N)), some (.int (nI v)), o4, o5] [] (t, hM J B L) = some (some (.int (b01 (fnd1 (fun w => if okk n be row i w = true then rg n be g (i + 1) (fun k => if k = i then w else row k) else none) j v).isSome)), (t, hM J B' L))) ∧ (∀ c, c ≠ 14 → B' c = B c) ∧ (∀ k, k < i → B' 14 k = B 14 k) ∧ ∀ r, fnd1 (fun w => if okk n be row i w = true then rg n be g (i + 1) (fun k => if k = i then w else row k) else none) j v = some r → ∀ k, k < N → B' 14 k = nI (r k) ∧ r k < n := by
      intro j
      induction j with
      | zero =>
        intro v B hv hw hr
        refine ⟨B, fun f t o4 o5 hf => ?_, fun c _ => rfl, fun k _ => rfl, fun r h => by (simp only [fnd1] at h; cases h)⟩
        obtain ⟨f, rfl⟩ : ∃ e, f = e + 1 := ⟨f - 1, by omega⟩
        rw [e_X10_rings_at36, hn, pn_t (nI_le (by omega) (by omega))]
        rfl
      | succ j ihj =>
        intro v B hv hw hr
        by_cases vn : v < n
        · -- the test of this word
          have hr' : ∀ k, k < i → B 14 k = nI (row k) ∧ row k < 2 ^ 31 := fun k hk => ⟨(hr k hk).1, by have := (hr k hk).2; omega⟩
          have hwv := hw v vn
          have lv := okw_lt hwv.2
          have tst : ∀ f t o4 o5, zR d (f + 1 + i + 1) 157 36 [some (.ref 1000), some (.int (nI i)), some (.int (nI N)), some (.int (nI v)), o4, o5] [] (t, hM J B L) = zR d (f + 1) 157 84 [some (.ref 1000), some (.int (nI i)), some (.int (nI N)), some (.int (nI v)), some (.int (b01 (okk n be row i v))), some (.int (nI i))] [] (t, hM J B L) := fun f t o4 o5 => by
            rw [e_X10_rings_at36, hn, pn_f (nI_ge vn (by omega))]
            unfold okk
            rw [decide_eq_true vn, Bool.true_and]
            by_cases i0 : i = 0
            · rw [pn_t (show nI i = 0 by rw [i0]; rfl), decide_eq_true i0, Bool.true_or]
              exact r_rscan (J := J) (L := L) (N := N) (t := t) d (show i ≤ 6 by omega) (show v ≤ 6 by omega) hr' i 0 (f + 1) true (by omega)
            · have hr1 := hr (i - 1) (by omega)
              have w1 := hw _ hr1.2
              have l1 := okw_lt w1.2
              rw [pn_f (nI_ne0 (by omega) (by omega)), show nI i - 1 = nI (i - 1) from pn_sub (b := 1) (by omega), pn_in (show i - 1 < 6 by omega) (by decide), cond_true, pn_cl (show i - 1 < 2 ^ 31 by omega), hr1.1, pn_in (show row (i - 1) < 6 by omega) (by decide), cond_true, pn_in (show v < 6 by omega) (by decide), cond_true, pn_cl (show row (i - 1) < 2 ^ 31 by omega), pn_cl (show v < 2 ^ 31 by omega), w1.1, hwv.1, r_beats (by omega) t J B L hJ l1.1 l1.2 lv.1 lv.2, pn_c1, decide_eq_false i0, Bool.false_or, hbe]
              cases hb : bt s (w (row (i - 1))) (w v) with
              | true =>
                rw [b01_t, d_10, cond_false]
                exact r_rscan (J := J) (L := L) (N := N) (t := t) d (show i ≤ 6 by omega) (show v ≤ 6 by omega) hr' i 0 (f + 1) true (by omega)
              | false =>
                rw [b01_f, d_00, cond_true]
                exact r_rscan (J := J) (L := L) (N := N) (t := t) d (show i ≤ 6 by omega) (show v ≤ 6 by omega) hr' i 0 (f + 1) false (by omega)
          cases c : okk n be row i v with
          | false =>
            have hF : (fun w => if okk n be row i w = true then rg n be g (i + 1) (fun k => if k = i then w else row k) else none) v = none := by
              dsimp only
              rw [if_neg (by rw [c]; decide)]
            rw [fnd1_n hF]
            obtain ⟨B', a1, a2, a3, a4⟩ := ihj (v + 1) B (by omega) hw hr
            refine ⟨B', fun f t o4 o5 hf => ?_, a2, a3, a4⟩
            obtain ⟨f, rfl⟩ : ∃ e, f = e + 1 + i + 1 := ⟨f - 2 - i, by omega⟩
            rw [tst, c, e_X10_rings_at84, pn_t (nI_le (Nat.le_refl _) (by omega)), b01_f, d_n00, cond_false, nI_1]
            exact a1 f t _ _ (by omega)
          | true =>
            obtain ⟨B2, a1, a2, a3, a4⟩ := ih (i + 1) d (va_up B 14 (upd (B 14) i (nI v))) (fun k => if k = i then v else row k) (by omega) (by omega) (fun q hq => by rw [vu_ne (by decide)]; exact hw q hq) (fun k hk => by
              rw [vu_eq]
              by_cases e : k = i
              · subst e; rw [upd_eq, if_pos rfl]; exact ⟨rfl, vn⟩
              · rw [upd_ne e, if_neg e]; exact hr k (by omega))
            have k3 : ∀ k, k < i → B2 14 k = B 14 k := fun k hk => by rw [a3 k (by omega), vu_eq, upd_ne (by omega)]
            have k2 : ∀ c, c ≠ 14 → B2 c = B c := fun c hc => by rw [a2 c hc, vu_ne hc]
            have st : ∀ f t, zR d (f + 1) 157 84 [some (.ref 1000), some (.int (nI i)), some (.int (nI N)), some (.int (nI v)), some (.int (b01 true)), some (.int (nI i))] [] (t, hM J B L) = bif decide (b01 (rg n be g (i + 1) (fun k => if k = i then v else row k)).isSome = 0) then (zR d f 157 36 [some (.ref 1000), some (.int (nI i)), some (.int (nI N)), some (.int (nI (v + 1))), some (.int (b01 true)), some (.int (nI i))] [] (t, hM J B2 L)) else some (some (.int 1), (t, hM J B2 L)) := fun f t => by
              rw [e_X10_rings_at84, pn_t (nI_le (Nat.le_refl _) (by omega)), pn_t (show ¬ b01 true = 0 by decide), pn_in (show i < 6 by omega) (by decide), cond_true, pn_cl (show i < 2 ^ 31 by omega), nI_1, a1 t, pn_c1, nI_1]
            cases hrg : rg n be g (i + 1) (fun k => if k = i then v else row k) with
            | none =>
              have hF : (fun w => if okk n be row i w = true then rg n be g (i + 1) (fun k => if k = i then w else row k) else none) v = none := by
                dsimp only
                rw [if_pos c, hrg]
              rw [fnd1_n hF]
              obtain ⟨B', b1, b2, b3, b4⟩ := ihj (v + 1) B2 (by omega) (fun q hq => by rw [k2 1 (by decide)]; exact hw q hq) (fun k hk => by rw [k3 k hk]; exact hr k hk)
              refine ⟨B', fun f t o4 o5 hf => ?_, fun c hc => (b2 c hc).trans (k2 c hc), fun k hk => (b3 k hk).trans (k3 k hk), b4⟩
              obtain ⟨f, rfl⟩ : ∃ e, f = e + 1 + i + 1 := ⟨f - 2 - i, by omega⟩
              rw [tst, c, st, hrg]
              exact b1 f t _ _ (by omega)
            | some r =>
              have hF : (fun w => if okk n be row i w = true then rg n be g (i + 1) (fun k => if k = i then w else row k) else none) v = some r := by
                dsimp only
                rw [if_pos c, hrg]
              rw [fnd1_s hF]
              refine ⟨B2, fun f t o4 o5 hf => ?_, k2, k3, fun r' h => ?_⟩
              · obtain ⟨f, rfl⟩ : ∃ e, f = e + 1 + i + 1 := ⟨f - 2 - i, by omega⟩
                rw [tst, c, st, hrg]
                rfl
              · cases h; exact a4 r hrg
        · have hz : fnd1 (fun w => if okk n be row i w = true then rg n be g (i + 1) (fun k => if k = i then w else row k) else none) (j + 1) v = none := fnd1_0 (j + 1) v (fun u hu => by
            rw [okk_n (by omega), if_neg (by decide)])
          rw [hz]
          refine ⟨B, fun f t o4 o5 hf => ?_, fun c _ => rfl, fun k _ => rfl, fun r h => by cases h⟩
          obtain ⟨f, rfl⟩ : ∃ e, f = e + 1 := ⟨f - 1, by omega⟩
          rw [e_X10_rings_at36, hn, pn_t (nI_le (by omega) (by omega))]
          rfl
    obtain ⟨B', a1, a2, a3, a4⟩ := loop 6 0 B (by omega) hw hr
    refine ⟨B', fun t => ?_, a2, a3, a4⟩
    rw [e_X10_rings, pn_t nN]
    exact a1 10000000 t _ _ (by omega)
/-- the shortest ring -/
def rgs (n : Nat) (be : Nat → Nat → Bool) : Nat → Nat → Option (Nat × (Nat → Nat))
  | 0, _ => none
  | j + 1, N => match rg n be N 0 (fun _ => 0) with
    | some r => some (N, r)
    | none => rgs n be j (N + 1)
theorem rgs_s {be : Nat → Nat → Bool} {j N : Nat} {r : Nat → Nat} (h : rg n be N 0 (fun _ => 0) = some r) : rgs n be (j + 1) N = some (N, r) := by simp only [rgs, h]
theorem rgs_n {be : Nat → Nat → Bool} {j N : Nat} (h : rg n be N 0 (fun _ => 0) = none) : rgs n be (j + 1) N = rgs n be j (N + 1) := by simp only [rgs, h]
theorem c_beatI (d : Nat) (hd : 5 ≤ d) {x2 : Int32} {be : Nat → Nat → Bool} {i : Nat} (n6 : n ≤ 6) (hs : I 100 = nI s) (hn : I 102 = nI n) (hi : i < n) (hbe : ∀ i j, be i j = bt s (w i) (w j)) : ∀ (j v f : Nat) (A : Nat → Nat → Int32), v + j = n → (∀ i, i < n → A 2 i = nI (w i) ∧ okw s (w i) = true) → A 43 i = nI (bmk (be i) v) → ∃ A', (∀ t, zR d (f + (3 * j + 1)) 39 27 [some (.ref 41), some (.ref 1), some (.int (nI n)), some (.int (nI i)), some (.int (nI v))] [] (hC I A, t) = zR d f 39 12 [some (.ref 41), some (.ref 1), some (.int (nI n)), some (.int (nI (i + 1))), some (.int (nI n))] [] (hC I A', t)) ∧ (∀ c, c ≠ 43 → A' c = A c) ∧ (∀ k, k ≠ i → A' 43 k = A 43 k) ∧ A' 43 i = nI (bmk (be i) n) := by
  intro j
  induction j with
  | zero =>
    intro v f A hv hw hA
    have e : v = n := by omega
    subst e
    refine ⟨A, fun t => ?_, fun c _ => rfl, fun k _ => rfl, hA⟩
    rw [show f + (3 * 0 + 1) = f + 1 from rfl, e_X5_find_41_1_at27, pn_t (nI_le (Nat.le_refl _) (by omega)), nI_1]
  | succ j ih =>
    intro v f A hv hw hA
    have wi := hw i hi
    have wv := hw v (by omega)
    have li := okw_lt wi.2
    have lv := okw_lt wv.2
    have hl := bmk_lt (be i) v
    have e0 : ∀ t, zR d (f + (3 * (j + 1) + 1)) 39 27 [some (.ref 41), some (.ref 1), some (.int (nI n)), some (.int (nI i)), some (.int (nI v))] [] (hC I A, t) = zR d (f + (3 * j + 1) + 1) 39 51 [some (.ref 41), some (.ref 1), some (.int (nI n)), some (.int (nI i)), some (.int (nI v))] [(.int (b01 (be i v)))] (hC I A, t) := fun t => by
      rw [show f + (3 * (j + 1) + 1) = f + (3 * j + 1) + 1 + 1 + 1 by omega, e_X5_find_41_1_at27, pn_f (nI_ge (by omega) (by omega)), c_wa (by omega) hn n6 hi, pn_c1, wi.1, c_wa (by omega) hn n6 (by omega), pn_c1, wv.1, e_X5_find_41_1_at44, hs, s_beats hd _ li.2 lv.2, pn_c1, hbe]
    cases hb : be i v with
    | true =>
      obtain ⟨A', a1, a2, a3, a4⟩ := ih (v + 1) f (va_up A 43 (upd (A 43) i (nI (bmk (be i) v + 2 ^ v)))) (by omega) (fun q hq => by rw [vu_ne (by decide)]; exact hw q hq) (by
        rw [vu_eq, upd_eq]
        simp only [bmk]
        rw [if_pos hb])
      refine ⟨A', fun t => ?_, fun c hc => by rw [a2 c hc, vu_ne hc], fun k hk => by rw [a3 k hk, vu_eq, upd_ne hk], a4⟩
      rw [e0, hb, b01_t, e_X5_find_41_1_at51, d_10, cond_false, pn_in (show i < 6 by omega) (by decide), cond_true, cond_true, pn_cl (show i < 2 ^ 31 by omega), hA, b_or v (by omega) _ hl, nI_1]
      exact a1 t
    | false =>
      obtain ⟨A', a1, a2, a3, a4⟩ := ih (v + 1) f A (by omega) hw (by
        rw [hA]
        simp only [bmk]
        rw [if_neg (by rw [hb]; decide), Nat.add_zero])
      refine ⟨A', fun t => ?_, a2, a3, a4⟩
      rw [e0, hb, b01_f, e_X5_find_41_1_at51, d_00, cond_true, nI_1]
      exact a1 t
theorem c_beatO (d : Nat) (hd : 5 ≤ d) {be : Nat → Nat → Bool} (n6 : n ≤ 6) (hs : I 100 = nI s) (hn : I 102 = nI n) (hbe : ∀ i j, be i j = bt s (w i) (w j)) : ∀ (j i : Nat) (A : Nat → Nat → Int32), i + j = n → (∀ i, i < n → A 2 i = nI (w i) ∧ okw s (w i) = true) → (∀ k, k < i → A 43 k = nI (bmk (be k) n)) → ∃ A', (∀ (R : Option zm_R) (t : List zm_E) (F0 : Nat), (∀ f o4, F0 < f → zR d f 39 81 [some (.ref 41), some (.ref 1), some (.int (nI n)), some (.int (nI 3)), o4] [] (hC I A', t) = R) → ∀ f o4, F0 + 30 * j + 1 < f → zR d f 39 12 [some (.ref 41), some (.ref 1), some (.int (nI n)), some (.int (nI i)), o4] [] (hC I A, t) = R) ∧ (∀ c, c ≠ 43 → A' c = A c) ∧ btn n be A' := by
  intro j
  induction j with
  | zero =>
    intro i A hi hw hA
    have e : i = n := by omega
    subst e
    refine ⟨A, fun R t F0 hR f o4 hf => ?_, fun c _ => rfl, hA⟩
    obtain ⟨f, rfl⟩ : ∃ e, f = e + 1 := ⟨f - 1, by omega⟩
    rw [e_X5_find_41_1_at12, pn_t (nI_le (Nat.le_refl _) (by omega))]
    exact hR f o4 (by omega)
  | succ j ih =>
    intro i A hi hw hA
    have hb := fun f => c_beatI (w := w) (x2 := 0) d hd n6 hs hn (show i < n by omega) hbe n 0 f (va_up A 43 (upd (A 43) i 0)) (by omega) (fun q hq => by rw [vu_ne (by decide)]; exact hw q hq) (by rw [vu_eq, upd_eq]; rfl)
    obtain ⟨A1, -, a2, a3, a4⟩ := hb 0
    -- the same row for every fuel
    have hAA : ∀ f, ∃ A', (∀ t, zR d (f + (3 * n + 1)) 39 27 [some (.ref 41), some (.ref 1), some (.int (nI n)), some (.int (nI i)), some (.int (nI 0))] [] (hC I (va_up A 43 (upd (A 43) i 0)), t) = zR d f 39 12 [some (.ref 41), some (.ref 1), some (.int (nI n)), some (.int (nI (i + 1))), some (.int (nI n))] [] (hC I A', t)) ∧ (∀ c, c ≠ 43 → A' c = va_up A 43 (upd (A 43) i 0) c) ∧ (∀ k, k ≠ i → A' 43 k = va_up A 43 (upd (A 43) i 0) 43 k) ∧ A' 43 i = nI (bmk (be i) n) := hb
    have same : ∀ (f : Nat) (A' : Nat → Nat → Int32), (∀ c, c ≠ 43 → A' c = va_up A 43 (upd (A 43) i 0) c) → (∀ k, k ≠ i → A' 43 k = va_up A 43 (upd (A 43) i 0) 43 k) → A' 43 i = nI (bmk (be i) n) → A' = A1 := fun f A' g2 g3 g4 => by
      funext c k
      by_cases e : c = 43
      · subst e
        by_cases e2 : k = i
        · rw [e2, g4, a4]
        · rw [g3 k e2, a3 k e2]
      · rw [g2 c e, a2 c e]
    obtain ⟨A', b1, b2, b3⟩ := ih (i + 1) A1 (by omega) (fun q hq => by rw [a2 2 (by decide), vu_ne (by decide)]; exact hw q hq) (fun k hk => by
      by_cases e : k = i
      · rw [e]; exact a4
      · rw [a3 k e, vu_eq, upd_ne e]; exact hA k (by omega))
    refine ⟨A', fun R t F0 hR f o4 hf => ?_, fun c hc => by rw [b2 c hc, a2 c hc, vu_ne hc], b3⟩
    obtain ⟨f, rfl⟩ : ∃ e, f = e + (3 * n + 1) + 1 := ⟨f - 3 * n - 2, by omega⟩
    obtain ⟨A2, g1, g2, g3, g4⟩ := hAA f
    have e2 := same f A2 g2 g3 g4
    subst e2
    rw [e_X5_find_41_1_at12, pn_f (nI_ge (by omega) (by omega)), pn_in (show i < 6 by omega) (by decide), cond_true, pn_cl (show i < 2 ^ 31 by omega)]
    have g1' := g1 t
    rw [show nI 0 = (0 : Int32) from rfl] at g1'
    rw [g1']
    exact b1 R t F0 hR f _ (by omega)
def ksz : Option (Nat × (Nat → Nat)) → Int32
  | none => 0
  | some q => nI q.1
theorem rgs_le {be : Nat → Nat → Bool} : ∀ j N K r, rgs n be j N = some (K, r) → N ≤ K ∧ K < N + j
  | 0, N, K, r, h => by simp only [rgs] at h; cases h
  | j + 1, N, K, r, h => by
    cases e : rg n be N 0 (fun _ => 0) with
    | some r' => rw [rgs_s e] at h; cases h; omega
    | none => rw [rgs_n e] at h; have := rgs_le j (N + 1) K r h; omega
theorem c_findL (d : Nat) (hd : 16 ≤ d) {be : Nat → Nat → Bool} (n6 : n ≤ 6) : ∀ (j N : Nat) (A : Nat → Nat → Int32), j = n + 1 - N → 3 ≤ N → N ≤ 100 → btn n be A → ∃ A', (∀ f t o4, j < f → zR d f 39 81 [some (.ref 41), some (.ref 1), some (.int (nI n)), some (.int (nI N)), o4] [] (hC I A, t) = some (some (.int (ksz (rgs n be j N))), (hC I A', t))) ∧ (∀ c, c ≠ 42 → A' c = A c) ∧ ∀ K r, rgs n be j N = some (K, r) → ∀ k, k < K → A' 42 k = nI (r k) ∧ r k < n := by
  intro j
  induction j with
  | zero =>
    intro N A hj hN h100 hb
    refine ⟨A, fun f t o4 hf => ?_, fun c _ => rfl, fun K r h => by (simp only [rgs] at h; cases h)⟩
    obtain ⟨f, rfl⟩ : ∃ e, f = e + 1 := ⟨f - 1, by omega⟩
    rw [e_X5_find_41_1_at81, pn_t (nI_lt (by omega) (by omega))]
    rfl
  | succ j ih =>
    intro N A hj hN h100 hb
    obtain ⟨h1, h2, h3⟩ := b_all n n6
    obtain ⟨A1, a1, a2, a3, a4⟩ := c_closes (I := I) (be := be) n6 hN (show N ≤ 6 by omega) N 0 d (2 ^ n - 1) A (fun _ => 0) (by omega) (by omega) hb (fun k hk => by omega) h2 (fun v hv => by
      rw [h3 v hv]
      exact ⟨fun q => ⟨q, fun q => by simp only [anyb] at q; cases q⟩, fun q => q.1⟩)
    have a1' : ∀ t, zC d 40 [.ref 41, .int (nI (2 ^ n - 1)), .int 0, .int (nI N)] (hC I A, t) = _ := a1
    cases e : rg n be N 0 (fun _ => 0) with
    | some r =>
      rw [rgs_s e]
      refine ⟨A1, fun f t o4 hf => ?_, a2, fun K r' h => by (cases h; exact a4 r e)⟩
      obtain ⟨f, rfl⟩ : ∃ e, f = e + 1 := ⟨f - 1, by omega⟩
      rw [e_X5_find_41_1_at81, pn_f (nI_nlt (by omega) (by omega)), h1, a1', pn_c1, e]
      rfl
    | none =>
      rw [rgs_n e]
      obtain ⟨A', b1, b2, b3⟩ := ih (N + 1) A1 (by omega) (by omega) (by omega) (fun q hq => by rw [a2 43 (by decide)]; exact hb q hq)
      refine ⟨A', fun f t o4 hf => ?_, fun c hc => (b2 c hc).trans (a2 c hc), b3⟩
      obtain ⟨f, rfl⟩ : ∃ e, f = e + 1 := ⟨f - 1, by omega⟩
      rw [e_X5_find_41_1_at81, pn_f (nI_nlt (by omega) (by omega)), h1, a1', pn_c1, e, nI_1]
      exact b1 f t o4 (by omega)
def rgA (x : Int32) : Option (Nat × (Nat → Nat)) → Int32
  | none => -5
  | some q => if x = -1 then nI q.1 else if x < 0 ∨ nI q.1 ≤ x then -5 else nI (q.2 x.toNatClampNeg)
theorem r_ringL (d : Nat) (hd : 17 ≤ d) {x : Int32} {be : Nat → Nat → Bool} (n6 : n ≤ 6) (hJ : J 0 = nI s) (hn : J 2 = nI n) (hbe : ∀ i j, be i j = bt s (w i) (w j)) : ∀ (j N : Nat) (B : Nat → Nat → Int32), j = n + 1 - N → 3 ≤ N → N ≤ 100 → (∀ i, i < n → B 1 i = nI (w i) ∧ okw s (w i) = true) → ∃ B', (∀ f t, 2 * j < f → zR d f 158 2 [some (.ref 1000), some (.int x), some (.int (nI N))] [] (t, hM J B L) = some (some (.int (rgA x (rgs n be j N))), (t, hM J B' L))) ∧ ∀ c, c ≠ 14 → B' c = B c := by
  intro j
  induction j with
  | zero =>
    intro N B hj hN h100 hw
    refine ⟨B, fun f t hf => ?_, fun c _ => rfl⟩
    obtain ⟨f, rfl⟩ : ∃ e, f = e + 1 := ⟨f - 1, by omega⟩
    rw [e_X10_ring_at2, hn, pn_t (nI_lt (by omega) (by omega))]
    rfl
  | succ j ih =>
    intro N B hj hN h100 hw
    obtain ⟨B1, a1, a2, a3, a4⟩ := r_rings (L := L) (be := be) n6 hN (show N ≤ 6 by omega) hJ hn hbe N 0 d B (fun _ => 0) (by omega) (by omega) hw (fun k hk => by omega)
    have a1' : ∀ t, zC d 157 [.ref 1000, .int 0, .int (nI N)] (t, hM J B L) = _ := a1
    cases e : rg n be N 0 (fun _ => 0) with
    | some r =>
      rw [rgs_s e]
      refine ⟨B1, fun f t hf => ?_, a2⟩
      obtain ⟨f, rfl⟩ : ∃ e, f = e + 1 + 1 := ⟨f - 2, by omega⟩
      rw [e_X10_ring_at2, hn, pn_f (nI_nlt (by omega) (by omega)), a1', pn_c1, e, show b01 (some r).isSome = 1 from rfl, d_n10, cond_true]
      unfold rgA
      dsimp only
      by_cases x1 : x = -1
      · rw [pn_f (fun q => q x1), if_pos x1]
      · rw [pn_t x1, if_neg x1, r_in (by omega), pn_c1, e_X10_ring_at39]
        by_cases xr : x < 0 ∨ nI N ≤ x
        · rw [i_in0 (by omega) xr, b01_f, d_00, cond_true, if_pos xr]
        · obtain ⟨k, hk, rfl⟩ := i_nneg (n := N) (by omega) (fun q => xr (Or.inl q)) (fun q => xr (Or.inr q))
          rw [i_in1 (by omega) hk, b01_t, d_10, cond_false, pn_in (show k < 6 by omega) (by decide), cond_true, if_neg xr, pn_cl (by omega), (a4 r e k hk).1]
    | none =>
      rw [rgs_n e]
      obtain ⟨B', b1, b2⟩ := ih (N + 1) B1 (by omega) (by omega) (by omega) (fun q hq => by rw [a2 1 (by decide)]; exact hw q hq)
      refine ⟨B', fun f t hf => ?_, fun c hc => (b2 c hc).trans (a2 c hc)⟩
      obtain ⟨f, rfl⟩ : ∃ e, f = e + 1 := ⟨f - 1, by omega⟩
      rw [e_X10_ring_at2, hn, pn_f (nI_nlt (by omega) (by omega)), a1', pn_c1, e, show b01 (none : Option (Nat → Nat)).isSome = 0 from rfl, d_n00, cond_false, nI_1]
      exact b1 f t (by omega)
theorem P_ring (h : Rel I A J B) (x : Int32) : Ans 87 158 [.int x] I A J B L := by
  have hh := h
  obtain ⟨⟨⟨s, ⟨n, w⟩, ⟨z, l⟩, ⟨p, k, o⟩, ⟨r, a, v⟩⟩, hv, hc, hm⟩, -⟩ := h
  have c1 : I 100 = nI s := hc.1
  have m1 : J 0 = nI s := hm.1
  have c2 : I 102 = nI n := hc.2.1.1
  have m2 : J 2 = nI n := hm.2.1.1
  have n6 : n ≤ 6 := hv.2.1.1
  have wc : ∀ i, i < n → A 2 i = nI (w i) ∧ okw s (w i) = true := fun i hi => ⟨hc.2.1.2 i hi, hv.2.1.2 i hi⟩
  have wm : ∀ i, i < n → B 1 i = nI (w i) ∧ okw s (w i) = true := fun i hi => ⟨hm.2.1.2 i hi, hv.2.1.2 i hi⟩
  have e1 := fun t => e_X9_ring 59 I A t x
  have e2 := fun t => e_X10_ring 59 J B L t x
  obtain ⟨A1, a1, a2, a3⟩ := c_beatO (I := I) (be := fun i j => bt s (w i) (w j)) 58 (by omega) n6 c1 c2 (fun _ _ => rfl) n 0 A (by omega) wc (fun k hk => by omega)
  obtain ⟨A2, b1, b2, b3⟩ := c_findL (I := I) (be := fun i j => bt s (w i) (w j)) 58 (by omega) n6 (n + 1 - 3) 3 A1 rfl (by omega) (by omega) a3
  obtain ⟨B', q1, q2⟩ := r_ringL (L := L) (be := fun i j => bt s (w i) (w j)) (x := x) 59 (by omega) n6 m1 m2 (fun _ _ => rfl) (n + 1 - 3) 3 B rfl (by omega) (by omega) wm
  have hmin : (if 6 < nI n then (6 : Int32) else nI n) = nI n := if_neg (show ¬ (6 : Int32) < nI n from nI_nlt (a := 6) n6 (by decide))
  have f1 : ∀ t, zC 59 39 [.ref 41, .ref 1] (hC I A, t) = some (some (.int (ksz (rgs n (fun i j => bt s (w i) (w j)) (n + 1 - 3) 3))), (hC I A2, t)) := fun t => by
    rw [e_X5_find_41_1, c2, hmin]
    exact a1 _ t 100 (fun f o4 hf => b1 f t o4 (by omega)) 10000000 none (by omega)
  have hle := rgs_le (n := n) (be := fun i j => bt s (w i) (w j)) (n + 1 - 3) 3
  have hR : Rel I A2 J B' := Rel_fr hh (fun c _ => rfl) (fun c hc _ => (b2 c (by omega)).trans (a2 c (by omega))) (fun c _ => rfl) (fun c hc => q2 c (by omega))
  have q1' : ∀ t, zR 59 10000000 158 2 [some (.ref 1000), some (.int x), some (.int 3)] [] (t, hM J B L) = _ := fun t => q1 10000000 t (by omega)
  simp only [f1, pn_c1, F1, e_X9_ring_at11] at e1
  generalize rgs n (fun i j => bt s (w i) (w j)) (n + 1 - 3) 3 = G at e1 q1' b3 hle
  refine ⟨rgA x G, I, A2, J, B', L, fun t => ?_, fun t => (e2 t).trans (q1' t), hR⟩
  rw [e1 t]
  cases G with
  | none => rfl
  | some q =>
    obtain ⟨K, r'⟩ := q
    have hK := hle K r' rfl
    have h3 := b3 K r' rfl
    unfold rgA ksz
    dsimp only
    rw [pn_f (nI_ne0 (by omega) (by omega))]
    by_cases x1 : x = -1
    · rw [if_pos x1, pn_f (show ¬ x < -1 by rw [x1]; decide), pn_t (show x < nI K by
        rw [x1]
        apply Int32.lt_iff_toInt_lt.mpr
        rw [nI_toInt (by omega)]
        have e1 : (-1 : Int32).toInt = -1 := rfl
        omega), pn_f (fun q => q x1)]
    · rw [if_neg x1]
      by_cases x0 : x < 0
      · have xm : x < -1 := by
          have g1 := Int32.lt_iff_toInt_lt.mp x0
          have e0 : (0 : Int32).toInt = 0 := rfl
          have e1 : (-1 : Int32).toInt = -1 := rfl
          apply Int32.lt_iff_toInt_lt.mpr
          have : x.toInt ≠ -1 := fun q => x1 (Int32.toInt_inj.mp (by rw [q]; rfl))
          omega
        rw [if_pos (Or.inl x0), pn_t xm]
      · have xm : ¬ x < -1 := fun q => x0 (by
          have g1 := Int32.lt_iff_toInt_lt.mp q
          have e0 : (0 : Int32).toInt = 0 := rfl
          have e1 : (-1 : Int32).toInt = -1 := rfl
          apply Int32.lt_iff_toInt_lt.mpr
          omega)
        rw [pn_f xm]
        by_cases xK : nI K ≤ x
        · rw [if_pos (Or.inr xK), pn_f (Int32.not_lt.mpr xK)]
        · obtain ⟨k, hk, rfl⟩ := i_nneg (n := K) (by omega) x0 xK
          rw [if_neg (fun q => q.elim x0 xK), pn_t (nI_lt hk (by omega)), pn_t x1, e_X5_wordAt 58, pn_f (nI_pos (by omega)), pn_f (show ¬ (6 : Int32) ≤ nI k from nI_ge (b := 6) (by omega) (by decide)), pn_in (show k < 6 by omega) (by decide), cond_true, pn_c1, pn_cl (by omega), (h3 k hk).1]
end RI
/-! sets of words; fields -/
def bcE (x0 : Int32) : Int32 := ((((((((x0 - (((x0.toUInt32 >>> (Int32.toUInt32 1 &&& Int32.toUInt32 31)).toInt32) &&& 1431655765)) &&& 858993459) + ((((x0 - (((x0.toUInt32 >>> (Int32.toUInt32 1 &&& Int32.toUInt32 31)).toInt32) &&& 1431655765)).toUInt32 >>> (Int32.toUInt32 2 &&& Int32.toUInt32 31)).toInt32) &&& 858993459)) + (((((x0 - (((x0.toUInt32 >>> (Int32.toUInt32 1 &&& Int32.toUInt32 31)).toInt32) &&& 1431655765)) &&& 858993459) + ((((x0 - (((x0.toUInt32 >>> (Int32.toUInt32 1 &&& Int32.toUInt32 31)).toInt32) &&& 1431655765)).toUInt32 >>> (Int32.toUInt32 2 &&& Int32.toUInt32 31)).toInt32) &&& 858993459)).toUInt32 >>> (Int32.toUInt32 4 &&& Int32.toUInt32 31)).toInt32)) &&& 252645135) + (((((((x0 - (((x0.toUInt32 >>> (Int32.toUInt32 1 &&& Int32.toUInt32 31)).toInt32) &&& 1431655765)) &&& 858993459) + ((((x0 - (((x0.toUInt32 >>> (Int32.toUInt32 1 &&& Int32.toUInt32 31)).toInt32) &&& 1431655765)).toUInt32 >>> (Int32.toUInt32 2 &&& Int32.toUInt32 31)).toInt32) &&& 858993459)) + (((((x0 - (((x0.toUInt32 >>> (Int32.toUInt32 1 &&& Int32.toUInt32 31)).toInt32) &&& 1431655765)) &&& 858993459) + ((((x0 - (((x0.toUInt32 >>> (Int32.toUInt32 1 &&& Int32.toUInt32 31)).toInt32) &&& 1431655765)).toUInt32 >>> (Int32.toUInt32 2 &&& Int32.toUInt32 31)).toInt32) &&& 858993459)).toUInt32 >>> (Int32.toUInt32 4 &&& Int32.toUInt32 31)).toInt32)) &&& 252645135).toUInt32 >>> (Int32.toUInt32 8 &&& Int32.toUInt32 31)).toInt32)) + ((((((((x0 - (((x0.toUInt32 >>> (Int32.toUInt32 1 &&& Int32.toUInt32 31)).toInt32) &&& 1431655765)) &&& 858993459) + ((((x0 - (((x0.toUInt32 >>> (Int32.toUInt32 1 &&& Int32.toUInt32 31)).toInt32) &&& 1431655765)).toUInt32 >>> (Int32.toUInt32 2 &&& Int32.toUInt32 31)).toInt32) &&& 858993459)) + (((((x0 - (((x0.toUInt32 >>> (Int32.toUInt32 1 &&& Int32.toUInt32 31)).toInt32) &&& 1431655765)) &&& 858993459) + ((((x0 - (((x0.toUInt32 >>> (Int32.toUInt32 1 &&& Int32.toUInt32 31)).toInt32) &&& 1431655765)).toUInt32 >>> (Int32.toUInt32 2 &&& Int32.toUInt32 31)).toInt32) &&& 858993459)).toUInt32 >>> (Int32.toUInt32 4 &&& Int32.toUInt32 31)).toInt32)) &&& 252645135) + (((((((x0 - (((x0.toUInt32 >>> (Int32.toUInt32 1 &&& Int32.toUInt32 31)).toInt32) &&& 1431655765)) &&& 858993459) + ((((x0 - (((x0.toUInt32 >>> (Int32.toUInt32 1 &&& Int32.toUInt32 31)).toInt32) &&& 1431655765)).toUInt32 >>> (Int32.toUInt32 2 &&& Int32.toUInt32 31)).toInt32) &&& 858993459)) + (((((x0 - (((x0.toUInt32 >>> (Int32.toUInt32 1 &&& Int32.toUInt32 31)).toInt32) &&& 1431655765)) &&& 858993459) + ((((x0 - (((x0.toUInt32 >>> (Int32.toUInt32 1 &&& Int32.toUInt32 31)).toInt32) &&& 1431655765)).toUInt32 >>> (Int32.toUInt32 2 &&& Int32.toUInt32 31)).toInt32) &&& 858993459)).toUInt32 >>> (Int32.toUInt32 4 &&& Int32.toUInt32 31)).toInt32)) &&& 252645135).toUInt32 >>> (Int32.toUInt32 8 &&& Int32.toUInt32 31)).toInt32)).toUInt32 >>> (Int32.toUInt32 16 &&& Int32.toUInt32 31)).toInt32)) &&& 63)
/-- of a set the words below a place: how many, which -/
def sl (m : Nat) : Nat → Nat × (Nat → Nat)
  | 0 => (0, fun _ => 0)
  | i + 1 => if m / 2 ^ i % 2 = 1 then ((sl m i).1 + 1, fun j => if j = (sl m i).1 then i else (sl m i).2 j) else sl m i
set_option maxRecDepth 100000 in
set_option maxHeartbeats 4000000 in
theorem bc_k : ∀ m, m < 64 → bcE (nI m) = nI (sl m 6).1 := by decide
theorem sl_n : ∀ n, n ≤ 6 → ∀ m, m < 2 ^ n → (sl m n).1 = (sl m 6).1 := by decide
set_option maxRecDepth 100000 in
theorem sl_p : ∀ m, m < 64 → ∀ w, w < 6 → (sl m w).1 = (sl (m % 2 ^ w) 6).1 := by decide
set_option maxRecDepth 100000 in
theorem b_low : ∀ m, m < 64 → ∀ w, w < 6 → nI m &&& (((1 : Int32) <<< (nI w &&& 31)) - 1) = nI (m % 2 ^ w) := by decide
theorem b_2n : ∀ n, n ≤ 6 → (1 : Int32) <<< (nI n &&& 31) = nI (2 ^ n) := by decide
theorem sl_bit (m : Nat) : ∀ i j, j < (sl m i).1 → (sl m i).2 j < i ∧ m / 2 ^ (sl m i).2 j % 2 = 1
  | 0, j, h => by simp only [sl] at h; omega
  | i + 1, j, h => by
    simp only [sl] at h ⊢
    by_cases c : m / 2 ^ i % 2 = 1
    · rw [if_pos c] at h ⊢
      dsimp only at h ⊢
      by_cases e : j = (sl m i).1
      · rw [if_pos e]; exact ⟨by omega, c⟩
      · rw [if_neg e]
        have := sl_bit m i j (by omega)
        exact ⟨by omega, this.2⟩
    · rw [if_neg c] at h ⊢
      have := sl_bit m i j h
      exact ⟨by omega, this.2⟩
theorem sl_inj (m : Nat) : ∀ i a b, a < (sl m i).1 → b < (sl m i).1 → (sl m i).2 a = (sl m i).2 b → a = b
  | 0, a, b, h, _, _ => by simp only [sl] at h; omega
  | i + 1, a, b, h1, h2, h3 => by
    simp only [sl] at h1 h2 h3
    by_cases c : m / 2 ^ i % 2 = 1
    · rw [if_pos c] at h1 h2 h3
      dsimp only at h1 h2 h3
      by_cases ea : a = (sl m i).1
      · by_cases eb : b = (sl m i).1
        · omega
        · rw [if_pos ea, if_neg eb] at h3
          have := (sl_bit m i b (by omega)).1
          omega
      · by_cases eb : b = (sl m i).1
        · rw [if_neg ea, if_pos eb] at h3
          have := (sl_bit m i a (by omega)).1
          omega
        · rw [if_neg ea, if_neg eb] at h3
          exact sl_inj m i a b (by omega) (by omega) h3
    · rw [if_neg c] at h1 h2 h3
      exact sl_inj m i a b h1 h2 h3
/-- a word of the set has its place there -/
theorem sl_at (m : Nat) : ∀ i v, v < i → m / 2 ^ v % 2 = 1 → (sl m v).1 < (sl m i).1 ∧ (sl m i).2 (sl m v).1 = v
  | 0, v, h, _ => by omega
  | i + 1, v, h, hb => by
    simp only [sl]
    by_cases e : v = i
    · subst e
      rw [if_pos hb]
      exact ⟨by dsimp only; omega, if_pos rfl⟩
    · have ih := sl_at m i v (by omega) hb
      by_cases c : m / 2 ^ i % 2 = 1
      · rw [if_pos c]
        dsimp only
        rw [if_neg (by omega)]
        exact ⟨by omega, ih.2⟩
      · rw [if_neg c]; exact ih
/-- some word stands in another one -/
def cls (K : Nat) (u : Nat → Nat) : Bool := anyb (fun i => anyb (fun j => inn (u i) (u j) || inn (u j) (u i)) i 0) K 0
theorem cls_apt {K : Nat} {u : Nat → Nat} (h : cls K u = false) : ∀ i j, i < K → j < K → i ≠ j → inn (u i) (u j) = false := by
  have key : ∀ i j, i < K → j < i → inn (u i) (u j) = false ∧ inn (u j) (u i) = false := fun i j hi hj => by
    rw [← Bool.or_eq_false_iff]
    cases c : (inn (u i) (u j) || inn (u j) (u i)) with
    | false => rfl
    | true =>
      have h1 : anyb (fun j => inn (u i) (u j) || inn (u j) (u i)) i 0 = true := (anyb_iff _ _ _).mpr ⟨j, by omega, by omega, c⟩
      have h2 : cls K u = true := (anyb_iff (fun i => anyb (fun j => inn (u i) (u j) || inn (u j) (u i)) i 0) K 0).mpr ⟨i, by omega, by omega, h1⟩
      rw [h] at h2
      cases h2
  intro i j hi hj hn
  rcases Nat.lt_or_ge j i with q | q
  · exact (key i j hi q).1
  · exact (key j i hj (by omega)).2
section FD
variable {I : Nat → Int32} {A : Nat → Nat → Int32} {J : Nat → Int32} {B : Nat → Nat → Int32} {L : Nat → Nat → Int64} {t : List zm_E} {s n m K : Nat} {w u : Nat → Nat}
theorem z_bc {d : Nat} (hd : 1 ≤ d) (h : zm_H) (hm : m < 64) : zC d 208 [.int (nI m)] h = some (some (.int (nI (sl m 6).1)), h) := by
  obtain ⟨d, rfl⟩ : ∃ e, d = e + 1 := ⟨d - 1, by omega⟩
  have e : zC (d + 1) 208 [.int (nI m)] h = some (some (.int (bcE (nI m))), h) := e_J6_bitCount_0f7a4 d h (nI m)
  rw [e, bc_k m hm]
theorem p2_64 (hn : n ≤ 6) : 2 ^ n ≤ 64 := by
  have : 2 ^ n ≤ 2 ^ 6 := Nat.pow_le_pow_right (by omega) hn
  omega
theorem c_is0 {d : Nat} (hd : 1 ≤ d) (hn : I 102 = nI n) (n6 : n ≤ 6) {x : Int32} (h : x < 0 ∨ nI (2 ^ n) ≤ x) : zC d 6 [.ref 1, .int x] (hC I A, t) = some (some (.int 0), (hC I A, t)) := by
  obtain ⟨d, rfl⟩ : ∃ e, d = e + 1 := ⟨d - 1, by omega⟩
  rw [e_X0_isSet, hn, b_2n n n6]
  by_cases h1 : x < 0
  · rw [pn_t h1]
  · rw [pn_f h1, pn_t (h.resolve_left h1)]
theorem c_is1 {d : Nat} (hd : 1 ≤ d) (hn : I 102 = nI n) (n6 : n ≤ 6) (h : m < 2 ^ n) : zC d 6 [.ref 1, .int (nI m)] (hC I A, t) = some (some (.int 1), (hC I A, t)) := by
  obtain ⟨d, rfl⟩ : ∃ e, d = e + 1 := ⟨d - 1, by omega⟩
  have := p2_64 n6
  rw [e_X0_isSet, hn, b_2n n n6, pn_f (nI_pos (by omega)), pn_f (nI_ge h (by omega))]
theorem c_iis0 {d : Nat} (hd : 2 ≤ d) (hn : I 102 = nI n) {x y : Int32} (h : y < 0 ∨ nI n ≤ y) : zC d 7 [.ref 1, .int x, .int y] (hC I A, t) = some (some (.int 0), (hC I A, t)) := by
  obtain ⟨d, rfl⟩ : ∃ e, d = e + 1 := ⟨d - 1, by omega⟩
  rw [e_X0_isInSet, c_hw0 (by omega) hn h, pn_c1, d_00, cond_true]
theorem c_iis1 {d v : Nat} (hd : 2 ≤ d) (hn : I 102 = nI n) (n6 : n ≤ 6) (hm : m < 64) (hv : v < n) : zC d 7 [.ref 1, .int (nI m), .int (nI v)] (hC I A, t) = some (some (.int (b01 (decide (m / 2 ^ v % 2 = 1)))), (hC I A, t)) := by
  obtain ⟨d, rfl⟩ : ∃ e, d = e + 1 := ⟨d - 1, by omega⟩
  have hg := b_get m hm v (by omega)
  rw [e_X0_isInSet, c_hw1 (by omega) hn n6 hv, pn_c1, d_10, cond_false]
  by_cases c : m / 2 ^ v % 2 = 1
  · rw [pn_f (fun q => q (hg.mpr c)), decide_eq_true c]; rfl
  · rw [pn_t (fun q => c (hg.mp q)), decide_eq_false c]; rfl
theorem s_place {d v : Nat} (hd : 2 ≤ d) (h : zm_H) (hm : m < 64) (hv : v < 6) : zC d 118 [.int (nI m), .int (nI v)] h = some (some (.int (nI (sl m v).1)), h) := by
  obtain ⟨d, rfl⟩ : ∃ e, d = e + 1 := ⟨d - 1, by omega⟩
  rw [e_X9_placeInSet, b_low m hm v hv, z_bc (by omega) h (Nat.lt_of_le_of_lt (Nat.mod_le _ _) hm), pn_c1, sl_p m hm v hv]
/-- the class's field -/
def fdC (s K : Nat) (u : Nat → Nat) (I : Nat → Int32) (A : Nat → Nat → Int32) : Prop := I 2901 = nI K ∧ I 2902 = nI s ∧ ∀ i, i < K → A 30 i = nI (u i)
theorem c_fldL (d : Nat) (hd : 3 ≤ d) (n6 : n ≤ 6) (hm : m < 64) (h4 : (sl m n).1 ≤ 4) : ∀ (j i f : Nat) (I : Nat → Int32) (A : Nat → Nat → Int32), i + j = n → 3 * j < f → I 102 = nI n → (∀ i, i < n → A 2 i = nI (w i)) → (sl m i).1 ≤ (sl m n).1 → fdC s (sl m i).1 (fun k => w ((sl m i).2 k)) I A → ∃ I' A', (∀ t, zR d f 20 15 [some (.ref 29), some (.ref 1), some (.int (nI m)), some (.int (nI i))] [] (hC I A, t) = some (none, (hC I' A', t))) ∧ (∀ c, c ≠ 2901 → I' c = I c) ∧ (∀ c, c ≠ 30 → A' c = A c) ∧ fdC s (sl m n).1 (fun k => w ((sl m n).2 k)) I' A' := by
  intro j
  induction j with
  | zero =>
    intro i f I A hi hf hn hw hle h
    obtain ⟨f, rfl⟩ : ∃ e, f = e + 1 := ⟨f - 1, by omega⟩
    have e : i = n := by omega
    subst e
    refine ⟨I, A, fun t => ?_, fun c _ => rfl, fun c _ => rfl, h⟩
    rw [e_X2_fill_29_1_at15, hn, pn_t (nI_le (Nat.le_refl _) (by omega))]
  | succ j ih =>
    intro i f I A hi hf hn hw hle h
    obtain ⟨f, rfl⟩ : ∃ e, f = e + 1 + 1 + 1 := ⟨f - 3, by omega⟩
    obtain ⟨h1, h2, h3⟩ := id h
    have mono : ∀ a b, a ≤ b → (sl m a).1 ≤ (sl m b).1 := fun a b => by
      induction b with
      | zero => intro q; rw [show a = 0 by omega]; exact Nat.le_refl _
      | succ b ihb =>
        intro q
        rcases Nat.lt_or_ge b a with u | u
        · rw [show a = b + 1 by omega]; exact Nat.le_refl _
        · have := ihb u
          simp only [sl]
          split
          · dsimp only; omega
          · exact this
    by_cases c4 : (sl m i).1 = 4
    · -- all are there
      have st : ∀ k, i ≤ k → k ≤ n → sl m k = sl m i := fun k => by
        induction k with
        | zero => intro q _; rw [show i = 0 by omega]
        | succ k ihk =>
          intro q1 q2
          rcases Nat.lt_or_ge k i with u | u
          · rw [show k + 1 = i by omega]
          · have e := ihk u (by omega)
            have := mono (k + 1) n q2
            simp only [sl] at this ⊢
            by_cases c : m / 2 ^ k % 2 = 1
            · rw [if_pos c] at this
              dsimp only at this
              rw [e] at this
              omega
            · rw [if_neg c]; exact e
      refine ⟨I, A, fun t => ?_, fun c _ => rfl, fun c _ => rfl, by rw [st n (by omega) (Nat.le_refl _)]; exact h⟩
      rw [e_X2_fill_29_1_at15, hn, pn_f (nI_ge (by omega) (by omega)), h1, pn_t (show (4 : Int32) ≤ nI (sl m i).1 from nI_le (a := 4) (by omega) (by omega))]
    · have hlt : (sl m i).1 < 4 := by omega
      have e15 : ∀ t, zR d (f + 1 + 1 + 1) 20 15 [some (.ref 29), some (.ref 1), some (.int (nI m)), some (.int (nI i))] [] (hC I A, t) = zR d (f + 1 + 1) 20 37 [some (.ref 29), some (.ref 1), some (.int (nI m)), some (.int (nI i))] [(.int (b01 (decide (m / 2 ^ i % 2 = 1))))] (hC I A, t) := fun t => by
        rw [e_X2_fill_29_1_at15, hn, pn_f (nI_ge (by omega) (by omega)), h1, pn_f (show ¬ (4 : Int32) ≤ nI (sl m i).1 from nI_ge (b := 4) hlt (by decide)), c_iis1 (by omega) hn n6 hm (by omega), pn_c1]
      by_cases c : m / 2 ^ i % 2 = 1
      · have e : sl m (i + 1) = ((sl m i).1 + 1, fun j => if j = (sl m i).1 then i else (sl m i).2 j) := by
          simp only [sl]
          rw [if_pos c]
        obtain ⟨I', A', a1, a2, a3, a4⟩ := ih (i + 1) f (upd I 2901 (nI ((sl m i).1 + 1))) (va_up A 30 (upd (A 30) (sl m i).1 (nI (w i)))) (by omega) (by omega) ((upd_ne (by decide)).trans hn) (fun i hi => by rw [vu_ne (by decide)]; exact hw i hi) (mono _ _ (by omega)) (by
          rw [e]
          refine ⟨upd_eq, (upd_ne (by decide)).trans h2, fun k hk => ?_⟩
          dsimp only at hk ⊢
          rw [vu_eq]
          by_cases ek : k = (sl m i).1
          · rw [ek, upd_eq, if_pos rfl]
          · rw [upd_ne ek, if_neg ek]; exact h3 k (by omega))
        refine ⟨I', A', fun t => ?_, fun c hc => by rw [a2 c hc, upd_ne hc], fun c hc => by rw [a3 c hc, vu_ne hc], a4⟩
        rw [e15, decide_eq_true c, b01_t, e_X2_fill_29_1_at37, d_10, cond_false, c_wa (by omega) hn n6 (by omega), pn_c1, hw i (by omega), h1, e_X2_fill_29_1_at53, pn_in hlt (by decide), cond_true, pn_cl (by omega), h1, nI_1, nI_1]
        exact a1 t
      · have e : sl m (i + 1) = sl m i := by
          simp only [sl]
          rw [if_neg c]
        obtain ⟨I', A', a1, a2, a3, a4⟩ := ih (i + 1) (f + 1) I A (by omega) (by omega) hn hw (mono _ _ (by omega)) (by rw [e]; exact h)
        refine ⟨I', A', fun t => ?_, a2, a3, a4⟩
        rw [e15, decide_eq_false c, b01_f, e_X2_fill_29_1_at37, d_00, cond_true, nI_1]
        exact a1 t
theorem c_fill {d : Nat} (hd : 4 ≤ d) (n6 : n ≤ 6) (hm : m < 64) (h4 : (sl m n).1 ≤ 4) (hs : I 100 = nI s) (hn : I 102 = nI n) (hw : ∀ i, i < n → A 2 i = nI (w i)) : ∃ I' A', (∀ t, zC d 20 [.ref 29, .ref 1, .int (nI m)] (hC I A, t) = some (none, (hC I' A', t))) ∧ (∀ c, c ≠ 2901 → c ≠ 2902 → I' c = I c) ∧ (∀ c, c ≠ 30 → A' c = A c) ∧ fdC s (sl m n).1 (fun k => w ((sl m n).2 k)) I' A' := by
  obtain ⟨d, rfl⟩ : ∃ e, d = e + 1 := ⟨d - 1, by omega⟩
  obtain ⟨I', A', a1, a2, a3, a4⟩ := c_fldL (s := s) (w := w) d (by omega) n6 hm h4 n 0 10000000 (upd (upd I 2902 (I 100)) 2901 0) A (by omega) (by omega) (((upd_ne (by decide)).trans (upd_ne (by decide))).trans hn) hw (Nat.zero_le _) ⟨rfl, hs, fun k hk => by simp only [sl] at hk; omega⟩
  exact ⟨I', A', fun t => (e_X2_fill_29_1 d I A t (nI m)).trans (a1 t), fun c h1 h2 => by rw [a2 c h1, upd_ne h1, upd_ne h2], a3, a4⟩
theorem c_hoIn (d : Nat) (hd : 3 ≤ d) (hK : K ≤ 4) (h : fdC s K u I A) (hu : ∀ i, i < K → u i < 100000) {i : Nat} (hi : i < K) : ∀ (j k f : Nat), k + j = i → zR d (f + (j + 1)) 21 12 [some (.ref 29), some (.int (nI i)), some (.int (nI k))] [] (hC I A, t) = bif anyb (fun j => inn (u i) (u j) || inn (u j) (u i)) j k then some (some (.int 1), (hC I A, t)) else zR d f 21 2 [some (.ref 29), some (.int (nI (i + 1))), some (.int (nI i))] [] (hC I A, t) := by
  obtain ⟨h1, h2, h3⟩ := h
  intro j
  induction j with
  | zero =>
    intro k f hk
    rw [show f + (0 + 1) = f + 1 from rfl, e_X2_hasOneInAnother_at12, pn_t (nI_le (by omega) (by omega)), nI_1, show k = i by omega]
    rfl
  | succ j ih =>
    intro k f hk
    have ui := hu i hi
    have uk := hu k (by omega)
    rw [show f + (j + 1 + 1) = (f + (j + 1)) + 1 from rfl, e_X2_hasOneInAnother_at12, pn_f (nI_ge (by omega) (by omega)), pn_in (show i < 4 by omega) (by decide), cond_true, pn_in (show k < 4 by omega) (by decide), cond_true, pn_cl (show i < 2 ^ 31 by omega), pn_cl (show k < 2 ^ 31 by omega), h3 i hi, h3 k (by omega), s_clash hd _ (by omega) (by omega), pn_c1, nI_1]
    simp only [anyb]
    by_cases hb : (inn (u i) (u k) || inn (u k) (u i)) = true
    · rw [if_pos hb, hb, b01_t, d_10, cond_false, cond_true]
    · rw [if_neg hb, Bool.eq_false_iff.mpr hb, b01_f, d_00, cond_true, ih (k + 1) f (by omega)]
theorem c_hoOut (d : Nat) (hd : 3 ≤ d) (hK : K ≤ 4) (h : fdC s K u I A) (hu : ∀ i, i < K → u i < 100000) : ∀ (j i f : Nat) (o2 : Option Value), i + j = K → 8 * j < f → zR d f 21 2 [some (.ref 29), some (.int (nI i)), o2] [] (hC I A, t) = some (some (.int (b01 (anyb (fun i => anyb (fun j => inn (u i) (u j) || inn (u j) (u i)) i 0) j i))), (hC I A, t)) := by
  intro j
  induction j with
  | zero =>
    intro i f o2 hi hf
    obtain ⟨f, rfl⟩ : ∃ e, f = e + 1 := ⟨f - 1, by omega⟩
    rw [e_X2_hasOneInAnother_at2, h.1, pn_t (nI_le (by omega) (by omega))]
    rfl
  | succ j ih =>
    intro i f o2 hi hf
    obtain ⟨f, rfl⟩ : ∃ e, f = e + (i + 1) + 1 := ⟨f - i - 2, by omega⟩
    rw [e_X2_hasOneInAnother_at2, h.1, pn_f (nI_ge (by omega) (by omega)), show (0 : Int32) = nI 0 from rfl, c_hoIn d hd hK h hu (show i < K by omega) i 0 f (by omega)]
    simp only [anyb]
    by_cases hb : anyb (fun j => inn (u i) (u j) || inn (u j) (u i)) i 0 = true
    · rw [if_pos hb, hb, cond_true]; rfl
    · rw [if_neg hb, Bool.eq_false_iff.mpr hb, cond_false, ih (i + 1) f _ (by omega) (by omega)]
theorem c_ho {d : Nat} (hd : 4 ≤ d) (hK : K ≤ 4) (h : fdC s K u I A) (hu : ∀ i, i < K → u i < 100000) : zC d 21 [.ref 29] (hC I A, t) = some (some (.int (b01 (cls K u))), (hC I A, t)) := by
  obtain ⟨d, rfl⟩ : ∃ e, d = e + 1 := ⟨d - 1, by omega⟩
  rw [e_X2_hasOneInAnother]
  exact c_hoOut d (by omega) hK h hu K 0 10000000 none (by omega) (by omega)
/-! the reference's -/
def fdM (K : Nat) (e : Nat → Nat) (J : Nat → Int32) (B : Nat → Nat → Int32) : Prop := J 26 = nI K ∧ ∀ i, i < K → B 17 i = nI (e i)
theorem r_setsL (d : Nat) (n6 : n ≤ 6) (hm : m < 64) (hn : J 2 = nI n) (hK : J 26 = nI K) (h4 : K ≤ 4) (hKm : (sl m n).1 = K) : ∀ (j i f : Nat) (B : Nat → Nat → Int32), i + j = n → j < f → (sl m i).1 ≤ (sl m n).1 → (∀ k, k < (sl m i).1 → B 17 k = nI ((sl m i).2 k)) → ∃ B', (∀ t, zR d f 159 30 [some (.ref 1000), some (.int (nI m)), some (.int (nI (sl m i).1)), some (.int (nI i))] [] (t, hM J B L) = some (some (.int 1), (t, hM J B' L))) ∧ (∀ c, c ≠ 17 → B' c = B c) ∧ ∀ k, k < (sl m n).1 → B' 17 k = nI ((sl m n).2 k) := by
  intro j
  induction j with
  | zero =>
    intro i f B hi hf hle h
    obtain ⟨f, rfl⟩ : ∃ e, f = e + 1 := ⟨f - 1, by omega⟩
    have e : i = n := by omega
    subst e
    refine ⟨B, fun t => ?_, fun c _ => rfl, h⟩
    rw [e_X10_sets_at30, hn, pn_t (nI_le (Nat.le_refl _) (by omega))]
  | succ j ih =>
    intro i f B hi hf hle h
    obtain ⟨f, rfl⟩ : ∃ e, f = e + 1 := ⟨f - 1, by omega⟩
    have mono : ∀ a b, a ≤ b → (sl m a).1 ≤ (sl m b).1 := fun a b => by
      induction b with
      | zero => intro q; rw [show a = 0 by omega]; exact Nat.le_refl _
      | succ b ihb =>
        intro q
        rcases Nat.lt_or_ge b a with u | u
        · rw [show a = b + 1 by omega]; exact Nat.le_refl _
        · have := ihb u
          simp only [sl]
          split
          · dsimp only; omega
          · exact this
    have hg := b_get m hm i (by omega)
    have hm1 := mono (i + 1) n (by omega)
    have e30 : ∀ t, zR d (f + 1) 159 30 [some (.ref 1000), some (.int (nI m)), some (.int (nI (sl m i).1)), some (.int (nI i))] [] (t, hM J B L) = _ := fun t => by
      rw [e_X10_sets_at30, hn, pn_f (nI_ge (by omega) (by omega)), hK, pn_f (show ¬ (4 : Int32) < nI K from nI_nlt (a := 4) h4 (by decide)), nI_1]
    by_cases c : m / 2 ^ i % 2 = 1
    · have e : sl m (i + 1) = ((sl m i).1 + 1, fun j => if j = (sl m i).1 then i else (sl m i).2 j) := by
        simp only [sl]
        rw [if_pos c]
      have hlt : (sl m i).1 < 4 := by rw [e] at hm1; dsimp only at hm1; omega
      obtain ⟨B', a1, a2, a3⟩ := ih (i + 1) f (va_up B 17 (upd (B 17) (sl m i).1 (nI i))) (by omega) (by omega) hm1 (by
        rw [e]
        intro k hk
        dsimp only at hk ⊢
        rw [vu_eq]
        by_cases ek : k = (sl m i).1
        · rw [ek, upd_eq, if_pos rfl]
        · rw [upd_ne ek, if_neg ek]; exact h k (by omega))
      rw [e] at a1
      refine ⟨B', fun t => ?_, fun c hc => by rw [a2 c hc, vu_ne hc], a3⟩
      rw [e30, pn_f (fun q => q (hg.mpr c)), pn_in hlt (by decide), cond_true, pn_cl (by omega), nI_1]
      exact a1 t
    · have e : sl m (i + 1) = sl m i := by
        simp only [sl]
        rw [if_neg c]
      obtain ⟨B', a1, a2, a3⟩ := ih (i + 1) f B (by omega) (by omega) hm1 (by rw [e]; exact h)
      rw [e] at a1
      refine ⟨B', fun t => ?_, a2, a3⟩
      rw [e30, pn_t (fun q => c (hg.mp q))]
      exact a1 t
theorem r_setsN {d : Nat} (hd : 2 ≤ d) (n6 : n ≤ 6) (hn : J 2 = nI n) {x : Int32} (h : x < 0 ∨ nI (2 ^ n) ≤ x) : zC d 159 [.ref 1000, .int x] (t, hM J B L) = some (some (.int 0), (t, hM J B L)) := by
  obtain ⟨d, rfl⟩ : ∃ e, d = e + 1 := ⟨d - 1, by omega⟩
  have := p2_64 n6
  rw [e_X10_sets, hn, b_2n n n6, r_in (by omega), pn_c1, i_in0 (by omega) h]
  rfl
theorem r_sets {d : Nat} (hd : 2 ≤ d) (n6 : n ≤ 6) (hm : m < 2 ^ n) (hn : J 2 = nI n) : ∃ J' B', (∀ t, zC d 159 [.ref 1000, .int (nI m)] (t, hM J B L) = some (some (.int 1), (t, hM J' B' L))) ∧ (∀ c, c ≠ 26 → J' c = J c) ∧ (∀ c, c ≠ 17 → B' c = B c) ∧ J' 26 = nI (sl m n).1 ∧ ((sl m n).1 ≤ 4 → fdM (sl m n).1 (sl m n).2 J' B') := by
  obtain ⟨d, rfl⟩ : ∃ e, d = e + 1 := ⟨d - 1, by omega⟩
  have h64 := p2_64 n6
  have e := fun t => e_X10_sets d J B L t (nI m)
  simp only [hn, b_2n n n6, r_in (show 1 ≤ d by omega), pn_c1, i_in1 (show 2 ^ n < 2 ^ 30 by omega) hm, b01_t, d_n10, cond_true, z_bc (show 1 ≤ d by omega) _ (show m < 64 by omega), ← sl_n n n6 m hm, F1, e_X10_sets_at23] at e
  by_cases h4 : (sl m n).1 ≤ 4
  · obtain ⟨B', a1, a2, a3⟩ := r_setsL (J := upd J 26 (nI (sl m n).1)) (L := L) d n6 (show m < 64 by omega) ((upd_ne (by decide)).trans hn) upd_eq h4 rfl n 0 9999999 B (by omega) (by omega) (Nat.zero_le _) (fun k hk => by simp only [sl] at hk; omega)
    exact ⟨_, B', fun t => (e t).trans (a1 t), fun c hc => upd_ne hc, a2, upd_eq, fun _ => ⟨upd_eq, a3⟩⟩
  · refine ⟨upd J 26 (nI (sl m n).1), B, fun t => ?_, fun c hc => upd_ne hc, fun c _ => rfl, upd_eq, fun q => absurd q h4⟩
    have hle : (sl m n).1 < 2 ^ 30 := by
      have : ∀ i, (sl m i).1 ≤ i := fun i => by
        induction i with
        | zero => exact Nat.le_refl _
        | succ i ih =>
          simp only [sl]
          split
          · dsimp only; omega
          · omega
      have := this n
      omega
    have n0 : 0 < n := by
      rcases Nat.eq_zero_or_pos n with q | q
      · rw [q] at h4; exact absurd (Nat.zero_le _) h4
      · exact q
    rw [e t, show (9999999 : Nat) = 9999998 + 1 from F2, e_X10_sets_at30, upd_ne (by decide), hn, pn_f (show ¬ nI n ≤ 0 from nI_nle n0 (by omega)), upd_eq, pn_t (show (4 : Int32) < nI (sl m n).1 from nI_lt (a := 4) (by omega) (by omega))]
theorem r_isFIn (d : Nat) (hd : 3 ≤ d) {e : Nat → Nat} (hK : K ≤ 4) (h : fdM K e J B) (he : ∀ i, i < K → e i < 6) (hw : ∀ i, i < K → B 1 (e i) = nI (u i) ∧ 1 ≤ u i ∧ u i < 100000) {i : Nat} (hi : i < K) : ∀ (j k f : Nat), k + j = i → zR d (f + (j + 1)) 160 12 [some (.ref 1000), some (.int (nI i)), some (.int (nI k))] [] (t, hM J B L) = bif anyb (fun j => inn (u i) (u j) || inn (u j) (u i)) j k then some (some (.int 0), (t, hM J B L)) else zR d f 160 2 [some (.ref 1000), some (.int (nI (i + 1))), some (.int (nI i))] [] (t, hM J B L) := by
  intro j
  induction j with
  | zero =>
    intro k f hk
    rw [show f + (0 + 1) = f + 1 from rfl, e_X10_isField_at12, pn_t (nI_le (by omega) (by omega)), nI_1, show k = i by omega]
    rfl
  | succ j ih =>
    intro k f hk
    have ui := hw i hi
    have uk := hw k (by omega)
    have ei := he i hi
    have ek := he k (by omega)
    rw [show f + (j + 1 + 1) = (f + (j + 1)) + 1 from rfl, e_X10_isField_at12, pn_f (nI_ge (by omega) (by omega)), pn_in (show i < 4 by omega) (by decide), cond_true, pn_cl (show i < 2 ^ 31 by omega), h.2 i hi, pn_in ei (by decide), cond_true, pn_in (show k < 4 by omega) (by decide), cond_true, pn_cl (show k < 2 ^ 31 by omega), h.2 k (by omega), pn_in ek (by decide), cond_true, pn_cl (show e i < 2 ^ 31 by omega), pn_cl (show e k < 2 ^ 31 by omega), ui.1, uk.1, r_apart hd _ ui.2.1 ui.2.2 uk.2.1 uk.2.2, pn_c1, nI_1]
    simp only [anyb]
    by_cases hb : (inn (u i) (u k) || inn (u k) (u i)) = true
    · rw [if_pos hb, hb, Bool.not_true, b01_f, d_n00, cond_false, cond_true]
    · rw [if_neg hb, Bool.eq_false_iff.mpr hb, Bool.not_false, b01_t, d_n10, cond_true, ih (k + 1) f (by omega)]
theorem r_isFOut (d : Nat) (hd : 3 ≤ d) {e : Nat → Nat} (hK : K ≤ 4) (h : fdM K e J B) (he : ∀ i, i < K → e i < 6) (hw : ∀ i, i < K → B 1 (e i) = nI (u i) ∧ 1 ≤ u i ∧ u i < 100000) : ∀ (j i f : Nat) (o2 : Option Value), i + j = K → 8 * j < f → zR d f 160 2 [some (.ref 1000), some (.int (nI i)), o2] [] (t, hM J B L) = some (some (.int (b01 (!anyb (fun i => anyb (fun j => inn (u i) (u j) || inn (u j) (u i)) i 0) j i))), (t, hM J B L)) := by
  intro j
  induction j with
  | zero =>
    intro i f o2 hi hf
    obtain ⟨f, rfl⟩ : ∃ e, f = e + 1 := ⟨f - 1, by omega⟩
    rw [e_X10_isField_at2, h.1, pn_t (nI_le (by omega) (by omega))]
    rfl
  | succ j ih =>
    intro i f o2 hi hf
    obtain ⟨f, rfl⟩ : ∃ e, f = e + (i + 1) + 1 := ⟨f - i - 2, by omega⟩
    rw [e_X10_isField_at2, h.1, pn_f (nI_ge (by omega) (by omega)), show (0 : Int32) = nI 0 from rfl, r_isFIn d hd hK h he hw (show i < K by omega) i 0 f (by omega)]
    simp only [anyb]
    by_cases hb : anyb (fun j => inn (u i) (u j) || inn (u j) (u i)) i 0 = true
    · rw [if_pos hb, hb, cond_true]; rfl
    · rw [if_neg hb, Bool.eq_false_iff.mpr hb, cond_false, ih (i + 1) f _ (by omega) (by omega)]
theorem r_isField {d : Nat} (hd : 4 ≤ d) {e : Nat → Nat} (hK : K ≤ 4) (h : fdM K e J B) (he : ∀ i, i < K → e i < 6) (hw : ∀ i, i < K → B 1 (e i) = nI (u i) ∧ 1 ≤ u i ∧ u i < 100000) : zC d 160 [.ref 1000] (t, hM J B L) = some (some (.int (b01 (!cls K u))), (t, hM J B L)) := by
  obtain ⟨d, rfl⟩ : ∃ e, d = e + 1 := ⟨d - 1, by omega⟩
  rw [e_X10_isField]
  exact r_isFOut d (by omega) hK h he hw K 0 10000000 none (by omega) (by omega)
end FD
/-! sums; words that end in rows of letters; a harmonic function: no weights of the words of a field make it constant -/
def sm : Nat → (Nat → Int) → Int
  | 0, _ => 0
  | k + 1, f => sm k f + f k
theorem sm_add (f g : Nat → Int) : ∀ k, sm k (fun i => f i + g i) = sm k f + sm k g
  | 0 => rfl
  | k + 1 => by simp only [sm]; rw [sm_add f g k]; omega
theorem sm_mul (c : Int) (f : Nat → Int) : ∀ k, sm k (fun i => c * f i) = c * sm k f
  | 0 => by simp only [sm]; omega
  | k + 1 => by simp only [sm]; rw [sm_mul c f k, Int.mul_add]
theorem sm_eq {f g : Nat → Int} : ∀ k, (∀ i, i < k → f i = g i) → sm k f = sm k g
  | 0, _ => rfl
  | k + 1, h => by simp only [sm]; rw [sm_eq k (fun i hi => h i (by omega)), h k (by omega)]
theorem sm_neg (f : Nat → Int) : ∀ k, sm k (fun i => -f i) = -sm k f
  | 0 => rfl
  | k + 1 => by simp only [sm]; rw [sm_neg f k]; omega
theorem sm_one {f : Nat → Int} {j : Nat} : ∀ k, j < k → (∀ i, i < k → i ≠ j → f i = 0) → sm k f = f j
  | 0, h, _ => by omega
  | k + 1, h, h0 => by
    simp only [sm]
    by_cases e : j = k
    · subst e
      have : sm j f = sm j (fun _ => 0) := sm_eq j (fun i hi => h0 i (by omega) (by omega))
      have z : ∀ n, sm n (fun _ => 0) = 0 := fun n => by
        induction n with
        | zero => rfl
        | succ n ih => simp only [sm]; rw [ih]; rfl
      rw [this, z]
      omega
    · rw [sm_one k (by omega) (fun i hi hn => h0 i (by omega) hn), h0 k (by omega) (fun q => e q.symm)]
      omega
/-- over all letters -/
def sa (s : Nat) (f : Nat → Int) : Int := if s = 2 then f 1 + f 2 else f 1 + f 2 + f 3
theorem sa_add (s : Nat) (f g : Nat → Int) : sa s (fun a => f a + g a) = sa s f + sa s g := by
  simp only [sa]
  split <;> omega
theorem sa_mul (s : Nat) (c : Int) (f : Nat → Int) : sa s (fun a => c * f a) = c * sa s f := by
  unfold sa
  split
  · rw [Int.mul_add]
  · rw [Int.mul_add, Int.mul_add]
theorem sa_eq {s : Nat} {f g : Nat → Int} (hs : s = 2 ∨ s = 3) (h : ∀ a, 1 ≤ a → a ≤ s → f a = g a) : sa s f = sa s g := by
  unfold sa
  rcases hs with rfl | rfl
  · rw [if_pos rfl, if_pos rfl, h 1 (by omega) (by omega), h 2 (by omega) (by omega)]
  · rw [if_neg (by decide), if_neg (by decide), h 1 (by omega) (by omega), h 2 (by omega) (by omega), h 3 (by omega) (by omega)]
theorem sa_sm (s k : Nat) (f : Nat → Nat → Int) : sa s (fun a => sm k (f a)) = sm k (fun j => sa s (fun a => f a j)) := by
  unfold sa
  split
  · rw [sm_add]
  · rw [sm_add, sm_add]
theorem sa_pick {s d : Nat} {P : Prop} [Decidable P] {c : Int} (hs : s = 2 ∨ s = 3) (h1 : 1 ≤ d) (h2 : d ≤ s) : sa s (fun a => if P ∧ a = d then c else 0) = if P then c else 0 := by
  unfold sa
  by_cases p : P
  · rcases hs with rfl | rfl
    · have : d = 1 ∨ d = 2 := by omega
      rcases this with rfl | rfl <;> simp [p]
    · have : d = 1 ∨ d = 2 ∨ d = 3 := by omega
      rcases this with rfl | rfl | rfl <;> simp [p]
  · rcases hs with rfl | rfl <;> simp [p]
/-- how a row of letters goes on to a word -/
def gz (s T b : Nat) : Nat → Int
  | 0 => 0
  | m + 1 => gz s T b m + (if T % 10 ^ (m + 1) = b / 10 ^ (wl b - (m + 1)) then ((s ^ (m + 1) : Nat) : Int) else 0)
theorem nb_up2 : ∀ m, m < 5 → ∀ B, B < 2 ^ m → nb 2 (B + 2 ^ m) = nb 2 B + 2 ^ (m + 1) := by decide
theorem nb_up3 : ∀ m, m < 5 → ∀ B, B < 2 ^ m → nb 3 (B + 2 ^ m) = nb 3 B + 3 ^ (m + 1) := by decide
theorem nb_up1 {s : Nat} (hs : s = 2 ∨ s = 3) {m B : Nat} (hm : m < 5) (hB : B < 2 ^ m) : nb s (B + 2 ^ m) = nb s B + s ^ (m + 1) := by
  rcases hs with rfl | rfl
  · exact nb_up2 m hm B hB
  · exact nb_up3 m hm B hB
theorem gz_ov {s a b : Nat} (hs : s = 2 ∨ s = 3) : ∀ n, n ≤ 5 → ((nb s (ovr a b (wl b) n 1) : Nat) : Int) = gz s a b n
  | 0, _ => by
    simp only [ovr, gz]
    rcases hs with rfl | rfl <;> decide
  | n + 1, hn => by
    have ih := gz_ov (a := a) (b := b) hs n (by omega)
    have hl := ovr_lt a b (wl b) n 1 (by omega)
    rw [show 1 - 1 + n = n by omega] at hl
    have hl' : ovr a b (wl b) n 1 < 2 ^ n := by
      have := Nat.pow_pos (n := 1 - 1) (show 0 < 2 by omega)
      omega
    rw [ovr_last, show 1 + n = n + 1 by omega, show n + 1 - 1 = n by omega]
    simp only [gz]
    by_cases c : a % 10 ^ (n + 1) = b / 10 ^ (wl b - (n + 1))
    · rw [if_pos c, if_pos c, nb_up1 hs (by omega) hl', Int.natCast_add, ih]
    · rw [if_neg c, if_neg c, Nat.add_zero, ih, Int.add_zero]
theorem pre_ge {s b m : Nat} (hb : okw s b = true) (hm : m + 1 ≤ wl b) : 10 ^ m ≤ b / 10 ^ (wl b - (m + 1)) := by
  have := dg_div (wl b - (m + 1)) (m + 1) b (by rw [show m + 1 + (wl b - (m + 1)) = wl b by omega]; exact okw_dg hb)
  exact dg_ge m _ this
theorem gz_hi {s b T l : Nat} (hb : okw s b = true) (hT : T < 10 ^ l) : ∀ j, l + j ≤ wl b → gz s T b (l + j) = gz s T b l
  | 0, _ => rfl
  | j + 1, h => by
    have hp := pre_ge hb (m := l + j) (by omega)
    have h1 : 10 ^ l ≤ 10 ^ (l + j) := Nat.pow_le_pow_right (by omega) (by omega)
    have h2 : T % 10 ^ (l + j + 1) ≤ T := Nat.mod_le _ _
    rw [show l + (j + 1) = l + j + 1 from rfl, gz, gz_hi hb hT j (by omega), if_neg (by omega), Int.add_zero]
theorem gz_nb {s a b : Nat} (hs : s = 2 ∨ s = 3) (ha : a < 100000) (hb : okw s b = true) : ((nb s (ov a b) : Nat) : Int) = gz s a b (wl b) := by
  have la := wl_le a
  have lb := wl_le b
  unfold ov
  by_cases q : wl a ≤ wl b
  · rw [Nat.min_eq_left q, gz_ov hs _ (by omega)]
    have := gz_hi (s := s) (l := wl a) hb (wl_lt ha) (wl b - wl a) (by omega)
    rw [show wl a + (wl b - wl a) = wl b by omega] at this
    exact this.symm
  · rw [Nat.min_eq_right (by omega), gz_ov hs _ (by omega)]
theorem mod10 (T a m : Nat) (ha : a < 10) : (T * 10 + a) % 10 ^ (m + 1) = T % 10 ^ m * 10 + a := by
  rw [Nat.pow_succ, Nat.mul_comm (10 ^ m) 10, Nat.mod_mul, show (T * 10 + a) % 10 = a by omega, show (T * 10 + a) / 10 = T by omega]
  omega
theorem cnd_s {s T a b m : Nat} (hb : okw s b = true) (hm : m + 1 ≤ wl b) (ha : a < 10) : (T * 10 + a) % 10 ^ (m + 1) = b / 10 ^ (wl b - (m + 1)) ↔ T % 10 ^ m = b / 10 ^ (wl b - m) ∧ a = b / 10 ^ (wl b - (m + 1)) % 10 := by
  have e : b / 10 ^ (wl b - m) = b / 10 ^ (wl b - (m + 1)) / 10 := by
    rw [Nat.div_div_eq_div_mul, ← Nat.pow_succ, show (wl b - (m + 1)).succ = wl b - m by omega]
  rw [mod10 T a m ha, e]
  omega
theorem pre_dig {s b m : Nat} (hb : okw s b = true) (hm : m + 1 ≤ wl b) : 1 ≤ b / 10 ^ (wl b - (m + 1)) % 10 ∧ b / 10 ^ (wl b - (m + 1)) % 10 ≤ s := by
  have := dg_div (wl b - (m + 1)) (m + 1) b (by rw [show m + 1 + (wl b - (m + 1)) = wl b by omega]; exact okw_dg hb)
  exact this.2
/-- over all letters that may come next -/
theorem gz_step {s T b : Nat} (hs : s = 2 ∨ s = 3) (hb : okw s b = true) : ∀ m, m + 1 ≤ wl b → sa s (fun a => gz s (T * 10 + a) b (m + 1)) = (s : Int) * (1 + gz s T b m) := by
  have h0 : (T % 10 ^ 0 = b / 10 ^ (wl b - 0)) := by
    rw [Nat.pow_zero, Nat.mod_one, Nat.sub_zero, Nat.div_eq_of_lt (wl_lt (okw_lt hb).2)]
  have pk : ∀ m, m + 1 ≤ wl b → sa s (fun a => if (T * 10 + a) % 10 ^ (m + 1) = b / 10 ^ (wl b - (m + 1)) then ((s ^ (m + 1) : Nat) : Int) else 0) = if T % 10 ^ m = b / 10 ^ (wl b - m) then ((s ^ (m + 1) : Nat) : Int) else 0 := fun m hm => by
    have hd := pre_dig hb hm
    rw [← sa_pick (P := T % 10 ^ m = b / 10 ^ (wl b - m)) (c := ((s ^ (m + 1) : Nat) : Int)) hs hd.1 hd.2]
    apply sa_eq hs
    intro a a1 a2
    have := cnd_s (T := T) (a := a) hb hm (by omega)
    by_cases c : (T * 10 + a) % 10 ^ (m + 1) = b / 10 ^ (wl b - (m + 1))
    · rw [if_pos c, if_pos (this.mp c)]
    · rw [if_neg c, if_neg (fun q => c (this.mpr q))]
  intro m
  induction m with
  | zero =>
    intro hm
    have := pk 0 hm
    simp only [gz]
    rw [sa_add, this, if_pos h0, Nat.zero_add, Nat.pow_one]
    have z : sa s (fun _ => (0 : Int)) = 0 := by unfold sa; split <;> rfl
    rw [z]
    omega
  | succ m ih =>
    intro hm
    have h1 := ih (by omega)
    have h2 := pk (m + 1) hm
    have e : sa s (fun a => gz s (T * 10 + a) b (m + 1 + 1)) = sa s (fun a => gz s (T * 10 + a) b (m + 1)) + sa s (fun a => if (T * 10 + a) % 10 ^ (m + 1 + 1) = b / 10 ^ (wl b - (m + 1 + 1)) then ((s ^ (m + 1 + 1) : Nat) : Int) else 0) := sa_add s _ _
    rw [e, h1, h2, show gz s T b (m + 1) = gz s T b m + (if T % 10 ^ (m + 1) = b / 10 ^ (wl b - (m + 1)) then ((s ^ (m + 1) : Nat) : Int) else 0) from rfl]
    by_cases c : T % 10 ^ (m + 1) = b / 10 ^ (wl b - (m + 1))
    · rw [if_pos c, if_pos c, Nat.pow_succ s (m + 1), Int.natCast_mul, ← Int.add_assoc, Int.mul_add (s : Int), Int.mul_comm ((s ^ (m + 1) : Nat) : Int)]
      simp only [Int.mul_add]
    · rw [if_neg c, if_neg c, Int.add_zero, Int.add_zero]
def Fz (s k : Nat) (w : Nat → Nat) (y : Nat → Int) (T : Nat) : Int := sm k (fun j => y j * gz s T (w j) (wl (w j)))
/-- no word ends here -/
def opn (k : Nat) (w : Nat → Nat) (T : Nat) : Prop := ∀ j, j < k → T % 10 ^ wl (w j) ≠ w j
def apt (k : Nat) (w : Nat → Nat) : Prop := ∀ i j, i < k → j < k → i ≠ j → inn (w i) (w j) = false
section HZ
variable {s k : Nat} {w : Nat → Nat} {y : Nat → Int}
theorem gz_open {T b : Nat} (hb : okw s b = true) (h : T % 10 ^ wl b ≠ b) : gz s T b (wl b) = gz s T b (wl b - 1) := by
  have lp := wl_pos (okw_lt hb).1
  obtain ⟨g, hg⟩ : ∃ g, wl b = g + 1 := ⟨wl b - 1, by omega⟩
  rw [hg, Nat.add_sub_cancel, gz, if_neg (by rw [hg, Nat.sub_self, Nat.pow_zero, Nat.div_one, ← hg]; exact h), Int.add_zero]
theorem Fz_harm (hs : s = 2 ∨ s = 3) (hw : ∀ i, i < k → okw s (w i) = true) {T : Nat} (h : opn k w T) : sa s (fun a => Fz s k w y (T * 10 + a)) = (s : Int) * (sm k y + Fz s k w y T) := by
  unfold Fz
  rw [sa_sm s k (fun a j => y j * gz s (T * 10 + a) (w j) (wl (w j))), ← sm_add, ← sm_mul]
  apply sm_eq
  intro j hj
  have lp := wl_pos (okw_lt (hw j hj)).1
  have e := gz_step (T := T) hs (hw j hj) (wl (w j) - 1) (by omega)
  rw [show wl (w j) - 1 + 1 = wl (w j) by omega] at e
  rw [sa_mul s (y j) (fun a => gz s (T * 10 + a) (w j) (wl (w j))), e, gz_open (hw j hj) (h j hj)]
  rw [Int.mul_comm (y j), Int.mul_assoc, Int.add_mul, Int.one_mul, Int.mul_comm (y j)]
theorem gz_congr {T U b : Nat} : ∀ m, (∀ i, i < m → (T % 10 ^ (i + 1) = b / 10 ^ (wl b - (i + 1)) ↔ U % 10 ^ (i + 1) = b / 10 ^ (wl b - (i + 1)))) → gz s T b m = gz s U b m
  | 0, _ => rfl
  | m + 1, h => by
    simp only [gz]
    rw [gz_congr m (fun i hi => h i (by omega))]
    have := h m (by omega)
    by_cases c : T % 10 ^ (m + 1) = b / 10 ^ (wl b - (m + 1))
    · rw [if_pos c, if_pos (this.mp c)]
    · rw [if_neg c, if_neg (fun q => c (this.mpr q))]
theorem mod_mod10 (T : Nat) {i l : Nat} (h : i ≤ l) : T % 10 ^ l % 10 ^ i = T % 10 ^ i := Nat.mod_mod_of_dvd T (Nat.pow_dvd_pow 10 h)
theorem inn_of {a b i : Nat} (h : b / 10 ^ i % 10 ^ wl a = a) (hi : i + wl a ≤ wl b) : inn a b = true := by
  unfold inn
  rw [inr_iff]
  exact ⟨i, by omega, by omega, h⟩
/-- where a word ends, the row counts like the word -/
theorem gz_end (hw : ∀ i, i < k → okw s (w i) = true) (ha : apt k w) {T i j : Nat} (hi : i < k) (hj : j < k) (h : T % 10 ^ wl (w i) = w i) : gz s T (w j) (wl (w j)) = gz s (w i) (w j) (wl (w j)) := by
  have li := wl_lt (okw_lt (hw i hi)).2
  apply gz_congr
  intro m hm
  by_cases c : m + 1 ≤ wl (w i)
  · rw [← mod_mod10 T c, h]
  · have hp := pre_ge (hw j hj) (m := m) (by omega)
    have h1 : 10 ^ wl (w i) ≤ 10 ^ m := Nat.pow_le_pow_right (by omega) (by omega)
    have h2 : w i % 10 ^ (m + 1) ≤ w i := Nat.mod_le _ _
    constructor
    · intro q
      exfalso
      have e : i ≠ j := fun e => by rw [e] at c; omega
      have : inn (w i) (w j) = true := inn_of (i := wl (w j) - (m + 1)) (by rw [← q, mod_mod10 T (by omega)]; exact h) (by omega)
      rw [ha i j hi hj e] at this
      cases this
    · intro q; omega
theorem Fz_end (hw : ∀ i, i < k → okw s (w i) = true) (ha : apt k w) {T i : Nat} (hi : i < k) (h : T % 10 ^ wl (w i) = w i) : Fz s k w y T = Fz s k w y (w i) := by
  unfold Fz
  apply sm_eq
  intro j hj
  rw [gz_end hw ha hi hj h]
theorem Fz_max (hs : s = 2 ∨ s = 3) (hw : ∀ i, i < k → okw s (w i) = true) (ha : apt k w) (hk : 0 < k) {c : Int} (h0 : sm k y = 0) (hc : ∀ i, i < k → Fz s k w y (w i) = c) : ∀ K : Nat, (∀ T, opn k w T → Fz s k w y T ≤ c + K) → ∀ T, opn k w T → Fz s k w y T ≤ c := by
  intro K
  induction K with
  | zero => intro h T hT; have := h T hT; omega
  | succ K ih =>
    intro h
    apply ih
    intro T hT
    rcases Int.lt_or_le (c + K) (Fz s k w y T) with q | q
    · exfalso
      have hw0 := hw 0 hk
      have hl := okw_lt hw0
      have up : ∀ U, Fz s k w y U ≤ c + (K + 1 : Nat) ∧ (Fz s k w y U = c + (K + 1 : Nat) → opn k w U) := fun U => by
        by_cases o : opn k w U
        · exact ⟨h U o, fun _ => o⟩
        · have : ∃ i, i < k ∧ U % 10 ^ wl (w i) = w i := by
            apply Classical.byContradiction
            intro n
            exact o (fun j hj e => n ⟨j, hj, e⟩)
          obtain ⟨i, hi, e⟩ := this
          rw [Fz_end hw ha hi e, hc i hi]
          exact ⟨by omega, fun e => by omega⟩
      have walk : ∀ n, n ≤ wl (w 0) → Fz s k w y (T * 10 ^ n + w 0 / 10 ^ (wl (w 0) - n)) = c + (K + 1 : Nat) := by
        intro n
        induction n with
        | zero =>
          intro _
          rw [Nat.pow_zero, Nat.mul_one, Nat.sub_zero, Nat.div_eq_of_lt (wl_lt hl.2), Nat.add_zero]
          have := h T hT
          omega
        | succ n ihn =>
          intro hn
          have e1 := ihn (by omega)
          have o1 := (up _).2 e1
          have hd := pre_dig hw0 hn
          generalize hU : T * 10 ^ n + w 0 / 10 ^ (wl (w 0) - n) = U at e1 o1
          have e2 : T * 10 ^ (n + 1) + w 0 / 10 ^ (wl (w 0) - (n + 1)) = U * 10 + w 0 / 10 ^ (wl (w 0) - (n + 1)) % 10 := by
            have e : w 0 / 10 ^ (wl (w 0) - n) = w 0 / 10 ^ (wl (w 0) - (n + 1)) / 10 := by
              rw [Nat.div_div_eq_div_mul, ← Nat.pow_succ, show (wl (w 0) - (n + 1)).succ = wl (w 0) - n by omega]
            rw [e] at hU
            rw [← hU, Nat.pow_succ, ← Nat.mul_assoc]
            omega
          rw [e2]
          have hh := Fz_harm (y := y) hs hw o1
          rw [h0, e1, Int.zero_add] at hh
          generalize w 0 / 10 ^ (wl (w 0) - (n + 1)) % 10 = a at hd
          have u1 := (up (U * 10 + 1)).1
          have u2 := (up (U * 10 + 2)).1
          have u3 := (up (U * 10 + 3)).1
          simp only [sa] at hh
          rcases hs with rfl | rfl
          · rw [if_pos rfl] at hh
            have : a = 1 ∨ a = 2 := by omega
            rcases this with rfl | rfl <;> omega
          · rw [if_neg (by decide)] at hh
            have : a = 1 ∨ a = 2 ∨ a = 3 := by omega
            rcases this with rfl | rfl | rfl <;> omega
      have e := walk (wl (w 0)) (Nat.le_refl _)
      have o := (up _).2 e 0 hk
      rw [Nat.sub_self, Nat.pow_zero, Nat.div_one] at o
      exact o (by rw [Nat.mul_comm, Nat.mul_add_mod, Nat.mod_eq_of_lt (wl_lt hl.2)])
    · exact q
theorem gz_bd (hs : s = 2 ∨ s = 3) (T b : Nat) : ∀ m, m ≤ 5 → 0 ≤ gz s T b m ∧ gz s T b m ≤ 243 * m
  | 0, _ => ⟨Int.le_refl _, Int.le_refl _⟩
  | m + 1, h => by
    have ih := gz_bd hs T b m (by omega)
    have := pow35 hs (show m < 5 by omega)
    simp only [gz]
    split <;> omega
theorem Fz_bd (hs : s = 2 ∨ s = 3) (c : Int) : ∀ k, ∃ K : Nat, ∀ T, Fz s k w y T ≤ c + K
  | 0 => ⟨(-c).toNat, fun T => by show (0 : Int) ≤ _; omega⟩
  | k + 1 => by
    obtain ⟨K, h⟩ := Fz_bd hs c k
    refine ⟨K + (y k).natAbs * 1215, fun T => ?_⟩
    have h1 := h T
    have hb := gz_bd hs T (w k) (wl (w k)) (wl_le _)
    have l5 := wl_le (w k)
    have h2 : y k * gz s T (w k) (wl (w k)) ≤ ((y k).natAbs : Int) * 1215 := by
      have a1 : y k * gz s T (w k) (wl (w k)) ≤ ((y k).natAbs : Int) * gz s T (w k) (wl (w k)) := Int.mul_le_mul_of_nonneg_right (by omega) hb.1
      have a2 : ((y k).natAbs : Int) * gz s T (w k) (wl (w k)) ≤ ((y k).natAbs : Int) * 1215 := Int.mul_le_mul_of_nonneg_left (by omega) (by omega)
      omega
    show Fz s k w y T + y k * gz s T (w k) (wl (w k)) ≤ _
    rw [Int.natCast_add, Int.natCast_mul]
    have : ((1215 : Nat) : Int) = 1215 := rfl
    rw [this]
    omega
theorem Fz_neg (T : Nat) : Fz s k w (fun j => -y j) T = -Fz s k w y T := by
  unfold Fz
  rw [← sm_neg]
  apply sm_eq
  intro j _
  rw [Int.neg_mul]
theorem Fz_const (hs : s = 2 ∨ s = 3) (hw : ∀ i, i < k → okw s (w i) = true) (ha : apt k w) (hk : 0 < k) {c : Int} (h0 : sm k y = 0) (hc : ∀ i, i < k → Fz s k w y (w i) = c) {T : Nat} (hT : opn k w T) : Fz s k w y T = c := by
  obtain ⟨K1, b1⟩ := Fz_bd (w := w) (y := y) hs c k
  obtain ⟨K2, b2⟩ := Fz_bd (w := w) (y := fun j => -y j) hs (-c) k
  have h1 := Fz_max hs hw ha hk h0 hc K1 (fun T _ => b1 T) T hT
  have h2 := Fz_max (y := fun j => -y j) (c := -c) hs hw ha hk (by rw [sm_neg, h0]; rfl) (fun i hi => by rw [Fz_neg, hc i hi]) K2 (fun T _ => b2 T) T hT
  rw [Fz_neg] at h2
  omega
theorem opn_0 (hw : ∀ i, i < k → okw s (w i) = true) : opn k w 0 := fun j hj => by
  rw [Nat.zero_mod]
  have := okw_lt (hw j hj)
  omega
theorem Fz_0 (hw : ∀ i, i < k → okw s (w i) = true) : Fz s k w y 0 = 0 := by
  have : Fz s k w y 0 = sm k (fun j => 0 * y j) := by
    unfold Fz
    apply sm_eq
    intro j hj
    have := gz_hi (s := s) (T := 0) (l := 0) (hw j hj) (by decide) (wl (w j)) (by omega)
    rw [Nat.zero_add] at this
    rw [this, show gz s 0 (w j) 0 = 0 from rfl, Int.mul_zero, Int.zero_mul]
  rw [this, sm_mul, Int.zero_mul]
/-- weights that make it constant are 0 -/
theorem Fz_zero (hs : s = 2 ∨ s = 3) (hw : ∀ i, i < k → okw s (w i) = true) (ha : apt k w) (hk : 0 < k) {c : Int} (h0 : sm k y = 0) (hc : ∀ i, i < k → Fz s k w y (w i) = c) : ∀ j, j < k → y j = 0 := by
  have c0 : c = 0 := by
    have := Fz_const hs hw ha hk h0 hc (opn_0 hw)
    rw [Fz_0 hw] at this
    exact this.symm
  subst c0
  intro j hj
  have hwj := hw j hj
  have hl := okw_lt hwj
  have lp := wl_pos hl.1
  have llt := wl_lt hl.2
  have lge := wl_ge hl.1
  -- the word without its first letter is open
  have hS : w j % 10 ^ (wl (w j) - 1) < 10 ^ (wl (w j) - 1) := Nat.mod_lt _ (p10_pos _)
  have hop : opn k w (w j % 10 ^ (wl (w j) - 1)) := fun i hi e => by
    by_cases c : wl (w i) ≤ wl (w j) - 1
    · rw [mod_mod10 _ c] at e
      have ne : i ≠ j := fun q => by rw [q] at c; omega
      have : inn (w i) (w j) = true := inn_of (i := 0) (by rw [Nat.pow_zero, Nat.div_one]; exact e) (by omega)
      rw [ha i j hi hj ne] at this
      cases this
    · have h1 : 10 ^ (wl (w j) - 1) ≤ 10 ^ (wl (w i) - 1) := Nat.pow_le_pow_right (by omega) (by omega)
      have h2 := wl_ge (okw_lt (hw i hi)).1
      have h3 := Nat.mod_le (w j % 10 ^ (wl (w j) - 1)) (10 ^ wl (w i))
      omega
  have e1 := Fz_const hs hw ha hk h0 hc hop
  have e2 := hc j hj
  have dif : Fz s k w y (w j) = Fz s k w y (w j % 10 ^ (wl (w j) - 1)) + y j * ((s ^ wl (w j) : Nat) : Int) := by
    have : Fz s k w y (w j) = sm k (fun i => y i * gz s (w j % 10 ^ (wl (w j) - 1)) (w i) (wl (w i)) + (if i = j then y j * ((s ^ wl (w j) : Nat) : Int) else 0)) := by
      unfold Fz
      apply sm_eq
      intro i hi
      by_cases e : i = j
      · subst e
        rw [if_pos rfl, ← Int.mul_add]
        congr 1
        obtain ⟨g, hg⟩ : ∃ g, wl (w i) = g + 1 := ⟨wl (w i) - 1, by omega⟩
        have hq : gz s (w i) (w i) g = gz s (w i % 10 ^ g) (w i) g := gz_congr g (fun m hm => by rw [mod_mod10 _ (show m + 1 ≤ g by omega)])
        rw [hg, Nat.add_sub_cancel]
        rw [hg, Nat.add_sub_cancel] at hS
        simp only [gz]
        rw [hg, Nat.sub_self, Nat.pow_zero, Nat.div_one, if_pos (by rw [← hg]; exact Nat.mod_eq_of_lt llt), if_neg (by
          have := Nat.mod_le (w i % 10 ^ g) (10 ^ (g + 1))
          rw [hg, Nat.add_sub_cancel] at lge
          omega), hq, Int.add_zero]
      · rw [if_neg e, Int.add_zero]
        congr 1
        apply gz_congr
        intro m hm
        by_cases c : m + 1 ≤ wl (w j) - 1
        · rw [mod_mod10 _ c]
        · have hp := pre_ge (hw i hi) (m := m) (by omega)
          have h1 : 10 ^ (wl (w j) - 1) ≤ 10 ^ m := Nat.pow_le_pow_right (by omega) (by omega)
          have h3 := Nat.mod_le (w j % 10 ^ (wl (w j) - 1)) (10 ^ (m + 1))
          constructor
          · intro q
            exfalso
            by_cases c2 : m + 1 = wl (w j)
            · rw [c2, Nat.mod_eq_of_lt llt] at q
              have : inn (w j) (w i) = true := inn_of (i := wl (w i) - wl (w j)) (by rw [← q, Nat.mod_eq_of_lt llt]) (by omega)
              rw [ha j i hj hi (fun q => e q.symm)] at this
              cases this
            · have h4 : 10 ^ wl (w j) ≤ 10 ^ m := Nat.pow_le_pow_right (by omega) (by omega)
              have h5 := Nat.mod_le (w j) (10 ^ (m + 1))
              omega
          · intro q; omega
    rw [this, sm_add]
    congr 1
    rw [sm_one k hj (fun i _ hn => if_neg hn), if_pos rfl]
  rw [e2, e1, Int.zero_add] at dif
  have hp : (0 : Int) < ((s ^ wl (w j) : Nat) : Int) := by
    have := Nat.pow_pos (n := wl (w j)) (show 0 < s by omega)
    omega
  rcases Int.mul_eq_zero.mp dif.symm with q | q
  · exact q
  · omega
end HZ
/-! minors: the class's and the reference's are one function -/
def lI (z : Int) : Int64 := Int64.ofInt z
def iI (z : Int) : Int32 := Int32.ofInt z
theorem iI_nI (n : Nat) : nI n = iI n := Int32.ofInt_eq_ofNat.symm
theorem lI_add (a b : Int) : lI a + lI b = lI (a + b) := (Int64.ofInt_add a b).symm
theorem lI_mul (a b : Int) : lI a * lI b = lI (a * b) := (Int64.ofInt_mul a b).symm
theorem lI_neg (a : Int) : -lI a = lI (-a) := (Int64.ofInt_neg a).symm
theorem iI_mul (a b : Int) : iI a * iI b = iI (a * b) := (Int32.ofInt_mul a b).symm
theorem iI_neg (a : Int) : -iI a = iI (-a) := (Int32.ofInt_neg a).symm
theorem iI_l {a : Int} (h : a.natAbs < 2 ^ 31) : Int32.toInt64 (iI a) = lI a := Int32.toInt64_ofInt (by
  have : Int32.minValue.toInt = -2147483648 := rfl
  omega) (by
  have : Int32.maxValue.toInt = 2147483647 := rfl
  omega)
theorem lI_T {a : Int} (h : a.natAbs < 2 ^ 63) : (lI a).toInt = a := Int64.toInt_ofInt_of_le (by omega) (by omega)
def mnl (G : Nat → Int) (gone : Nat) : Nat → Nat → Int → Int → Int
  | 0, _, _, acc => acc
  | j + 1, i, sg, acc => if gone / 2 ^ i % 2 = 1 then mnl G gone j (i + 1) sg acc else mnl G gone j (i + 1) (-sg) (acc + sg * G i)
/-- what the columns that are left come to, from a row on (g rows) -/
def mnr (a : Nat → Nat → Int) (K : Nat) : Nat → Nat → Nat → Int
  | 0, _, _ => 1
  | g + 1, row, gone => mnl (fun i => a row i * mnr a K g (row + 1) (gone + 2 ^ i)) gone K 0 1 0
theorem mnl_eq {G G' : Nat → Int} {gone : Nat} : ∀ j i sg acc, (∀ k, i ≤ k → k < i + j → G k = G' k) → mnl G gone j i sg acc = mnl G' gone j i sg acc
  | 0, _, _, _, _ => rfl
  | j + 1, i, sg, acc, h => by
    simp only [mnl]
    rw [h i (Nat.le_refl _) (by omega), mnl_eq j (i + 1) sg acc (fun k h1 h2 => h k (by omega) (by omega)), mnl_eq j (i + 1) (-sg) _ (fun k h1 h2 => h k (by omega) (by omega))]
theorem mnr_eq {a b : Nat → Nat → Int} {K : Nat} : ∀ g row gone, (∀ r c, row ≤ r → r < row + g → c < K → a r c = b r c) → mnr a K g row gone = mnr b K g row gone
  | 0, _, _, _ => rfl
  | g + 1, row, gone, h => by
    simp only [mnr]
    apply mnl_eq
    intro k _ hk
    rw [h row k (Nat.le_refl _) (by omega) (by omega), mnr_eq g (row + 1) _ (fun r c h1 h2 h3 => h r c (by omega) (by omega) h3)]
theorem mnl_bd {G : Nat → Int} {gone X : Nat} : ∀ j i sg acc, (sg = 1 ∨ sg = -1) → (∀ k, i ≤ k → k < i + j → (G k).natAbs ≤ X) → (mnl G gone j i sg acc).natAbs ≤ acc.natAbs + j * X
  | 0, _, _, _, _, _ => by simp only [mnl]; omega
  | j + 1, i, sg, acc, hs, h => by
    simp only [mnl]
    have e : (j + 1) * X = j * X + X := Nat.succ_mul ..
    by_cases c : gone / 2 ^ i % 2 = 1
    · rw [if_pos c]
      have := mnl_bd (gone := gone) j (i + 1) sg acc hs (fun k h1 h2 => h k (by omega) (by omega))
      omega
    · rw [if_neg c]
      have h1 := mnl_bd (gone := gone) j (i + 1) (-sg) (acc + sg * G i) (by omega) (fun k h1 h2 => h k (by omega) (by omega))
      have h2 := h i (Nat.le_refl _) (by omega)
      have h3 : (acc + sg * G i).natAbs ≤ acc.natAbs + X := by
        rcases hs with rfl | rfl
        · rw [Int.one_mul]; omega
        · rw [Int.neg_one_mul]; omega
      omega
theorem mnr_bd {a : Nat → Nat → Int} {K X : Nat} : ∀ g row gone, (∀ r c, row ≤ r → r < row + g → c < K → (a r c).natAbs ≤ X) → (mnr a K g row gone).natAbs ≤ (K * X) ^ g
  | 0, _, _, _ => by simp only [mnr, Nat.pow_zero]; decide
  | g + 1, row, gone, h => by
    simp only [mnr]
    have := mnl_bd (G := fun i => a row i * mnr a K g (row + 1) (gone + 2 ^ i)) (gone := gone) (X := X * (K * X) ^ g) K 0 1 0 (Or.inl rfl) (fun k _ hk => by
      rw [Int.natAbs_mul]
      exact Nat.mul_le_mul (h row k (Nat.le_refl _) (by omega) (by omega)) (mnr_bd g (row + 1) _ (fun r c h1 h2 h3 => h r c (by omega) (by omega) h3)))
    rw [Nat.pow_succ, Nat.mul_comm ((K * X) ^ g), Nat.mul_assoc]
    have z : (0 : Int).natAbs = 0 := rfl
    omega
set_option maxRecDepth 100000 in
theorem b_bit : ∀ m, m < 64 → ∀ i, i < 6 → (nI m >>> (nI i &&& 31)) &&& 1 = nI (m / 2 ^ i % 2) := by decide
set_option maxRecDepth 100000 in
theorem b_set : ∀ m, m < 64 → ∀ i, i < 6 → m / 2 ^ i % 2 = 0 → nI m ||| ((1 : Int32) <<< (nI i &&& 31)) = nI (m + 2 ^ i) := by decide
theorem b_s4 : ∀ m, m < 16 → ∀ i, i < 4 → m / 2 ^ i % 2 = 0 → m + 2 ^ i < 16 := by decide
theorem b_s5 : ∀ m, m < 32 → ∀ i, i < 5 → m / 2 ^ i % 2 = 0 → m + 2 ^ i < 32 := by decide
theorem l_cmpI {z : Int} (h : z.natAbs < 2 ^ 63) : lg_cmp (lI z) 0 = 0 ↔ z = 0 := by rw [l_cmp0, lI_T h]
section MN
variable {I : Nat → Int32} {A : Nat → Nat → Int32} {J : Nat → Int32} {B : Nat → Nat → Int32} {L : Nat → Nat → Int64} {t : List zm_E} {s K : Nat} {u : Nat → Nat}
theorem c_min27 (d f : Nat) {r : Nat} (hr : r < 3) (x1 x3 x6 x7 : Int32) (x4 : Int64) : zR d (f + 1) 27 27 [some (.ref 31), some (.int x1), some (.int (nI r)), some (.int x3), some (.long x4), none, some (.int x6), some (.int x7)] [] (hC I A, t) = (bif decide (x1 ≤ x7) then (some (some (.long x4), (hC I A, t))) else bif decide (4 ≤ x7) then (some (some (.long x4), (hC I A, t))) else bif decide (¬ ((x3 >>> (x7 &&& 31)) &&& 1) = 0) then (zR d f 27 27 [some (.ref 31), some (.int x1), some (.int (nI r)), some (.int x3), some (.long x4), none, some (.int x6), some (.int (x7 + 1))] [] (hC I A, t)) else bif zm_in x7 4 then (zm_c2 (zC d 27 [(.ref 31), (.int x1), (.int (nI (r + 1))), (.int (x3 ||| ((1 : Int32) <<< (x7 &&& 31))))] (hC I A, t)) fun v2 h1 => zR d f 27 27 [some (.ref 31), some (.int x1), some (.int (nI r)), some (.int x3), some (.long (x4 + ((Int32.toInt64 (x6 * (A (32 + r) (Int32.toNatClampNeg x7)))) * v2))), none, some (.int (-x6)), some (.int (x7 + 1))] [] h1) else none) := by
  have hc : r = 0 ∨ r = 1 ∨ r = 2 := by omega
  rcases hc with rfl | rfl | rfl
  · exact e_X2_minor_31_at27_20 d f I A t x1 x3 x4 x6 x7
  · exact e_X2_minor_31_at27_21 d f I A t x1 x3 x4 x6 x7
  · exact e_X2_minor_31_at27_22 d f I A t x1 x3 x4 x6 x7
theorem c_minor {a : Nat → Nat → Int} (K2 : 2 ≤ K) (K4 : K ≤ 4) (hA : ∀ r c, r < K - 1 → c < K → A (32 + r) c = iI (a r c) ∧ (a r c).natAbs ≤ 363) : ∀ (g row gone d : Nat), row + g = K - 1 → gone < 16 → g + 1 ≤ d → zC d 27 [.ref 31, .int (nI K), .int (nI row), .int (nI gone)] (hC I A, t) = some (some (.long (lI (mnr a K g row gone))), (hC I A, t)) := by
  intro g
  induction g with
  | zero =>
    intro row gone d hr hg hd
    obtain ⟨d, rfl⟩ : ∃ e, d = e + 1 := ⟨d - 1, by omega⟩
    rw [e_X2_minor_31, pn_f (nI_pos (by omega)), show nI K - 1 = nI (K - 1) from pn_sub (b := 1) (by omega), pn_t (nI_le (by omega) (by omega))]
    rfl
  | succ g ih =>
    intro row gone d hr hg hd
    obtain ⟨d, rfl⟩ : ∃ e, d = e + 1 := ⟨d - 1, by omega⟩
    rw [e_X2_minor_31, pn_f (nI_pos (by omega)), show nI K - 1 = nI (K - 1) from pn_sub (b := 1) (by omega), pn_f (nI_ge (by omega) (by omega)), pn_t (show nI row < (3 : Int32) from nI_lt (b := 3) (by omega) (by decide))]
    have loop : ∀ (j i f : Nat) (sg acc : Int), i + j = K → j < f → (sg = 1 ∨ sg = -1) → zR d f 27 27 [some (.ref 31), some (.int (nI K)), some (.int (nI row)), some (.int (nI gone)), some (.long (lI acc)), none, some (.int (iI sg)), some (.int (nI i))] [] (hC I A, t) = some (some (.long (lI (mnl (fun i => a row i * mnr a K g (row + 1) (gone + 2 ^ i)) gone j i sg acc))), (hC I A, t)) := by
      intro j
      induction j with
      | zero =>
        intro i f sg acc hi hf hs
        obtain ⟨f, rfl⟩ : ∃ e, f = e + 1 := ⟨f - 1, by omega⟩
        rw [c_min27 d f (by omega), pn_t (nI_le (by omega) (by omega))]
        rfl
      | succ j ihj =>
        intro i f sg acc hi hf hs
        obtain ⟨f, rfl⟩ : ∃ e, f = e + 1 := ⟨f - 1, by omega⟩
        rw [c_min27 d f (by omega), pn_f (nI_ge (by omega) (by omega)), pn_f (show ¬ (4 : Int32) ≤ nI i from nI_ge (b := 4) (by omega) (by decide)), b_bit gone (by omega) i (by omega), nI_1]
        simp only [mnl]
        by_cases c : gone / 2 ^ i % 2 = 1
        · rw [if_pos c, c, pn_t (show ¬ nI 1 = 0 by decide), ihj (i + 1) f sg acc (by omega) (by omega) hs]
        · have c0 : gone / 2 ^ i % 2 = 0 := by omega
          obtain ⟨e1, e2⟩ := hA row i (by omega) (by omega)
          rw [if_neg c, c0, pn_f (show ¬ ¬ nI 0 = 0 by decide), pn_in (show i < 4 by omega) (by decide), cond_true, b_set gone (by omega) i (by omega) c0, ih (row + 1) (gone + 2 ^ i) d (by omega) (b_s4 gone hg i (by omega) c0) (by omega), pn_c2, pn_cl (by omega), e1, iI_mul, iI_l (by rw [Int.natAbs_mul]; rcases hs with rfl | rfl <;> (simp only [Int.natAbs_neg, Int.natAbs_one]; omega)), lI_mul, lI_add, iI_neg, Int.mul_assoc]
          exact ihj (i + 1) f (-sg) _ (by omega) (by omega) (by omega)
    exact loop K 0 10000000 1 0 (by omega) (by omega) (Or.inl rfl)
theorem r_square {a : Nat → Nat → Int} {n : Nat} (n5 : n ≤ 5) (hL : ∀ r c, r < n → c < n → L 18 (6 * r + c) = lI (a r c) ∧ (a r c).natAbs < 2 ^ 63) : ∀ (g row gone d : Nat), row + g = n → gone < 32 → g + 1 ≤ d → zC d 161 [.ref 1000, .int (nI row), .int (nI gone), .int (nI n)] (t, hM J B L) = some (some (.long (lI (mnr a n g row gone))), (t, hM J B L)) := by
  intro g
  induction g with
  | zero =>
    intro row gone d hr hg hd
    obtain ⟨d, rfl⟩ : ∃ e, d = e + 1 := ⟨d - 1, by omega⟩
    rw [e_X10_square, show row = n by omega, pn_f (fun q => q rfl)]
    rfl
  | succ g ih =>
    intro row gone d hr hg hd
    obtain ⟨d, rfl⟩ : ∃ e, d = e + 1 := ⟨d - 1, by omega⟩
    have ne : ¬ nI row = nI n := fun q => by
      have := (nI_eq (by omega) (by omega)).mp q
      omega
    rw [e_X10_square, pn_t ne]
    have loop : ∀ (j i f : Nat) (sg acc : Int), i + j = n → j < f → zR d f 161 16 [some (.ref 1000), some (.int (nI row)), some (.int (nI gone)), some (.int (nI n)), some (.long (lI acc)), none, some (.long (lI sg)), none, some (.int (nI i))] [] (t, hM J B L) = some (some (.long (lI (mnl (fun i => a row i * mnr a n g (row + 1) (gone + 2 ^ i)) gone j i sg acc))), (t, hM J B L)) := by
      intro j
      induction j with
      | zero =>
        intro i f sg acc hi hf
        obtain ⟨f, rfl⟩ : ∃ e, f = e + 1 := ⟨f - 1, by omega⟩
        rw [e_X10_square_at16, pn_t (nI_le (by omega) (by omega))]
        rfl
      | succ j ihj =>
        intro i f sg acc hi hf
        obtain ⟨f, rfl⟩ : ∃ e, f = e + 1 := ⟨f - 1, by omega⟩
        rw [e_X10_square_at16, pn_f (nI_ge (by omega) (by omega)), b_bit gone (by omega) i (by omega), nI_1]
        simp only [mnl]
        by_cases c : gone / 2 ^ i % 2 = 1
        · rw [if_pos c, c, pn_f (show ¬ ¬ nI 1 = 1 by decide), ihj (i + 1) f sg acc (by omega) (by omega)]
        · have c0 : gone / 2 ^ i % 2 = 0 := by omega
          obtain ⟨e1, e2⟩ := hL row i (by omega) (by omega)
          have e6 : (6 : Int32) * nI row + nI i = nI (6 * row + i) := by rw [show (6 : Int32) = nI 6 from rfl, pk_mul, nI_add]
          rw [if_neg c, c0, pn_t (show ¬ nI 0 = 1 by decide), e6, pn_in (show 6 * row + i < 36 by omega) (by decide), cond_true, pn_cl (by omega), e1]
          by_cases z : a row i = 0
          · rw [pn_t ((l_cmpI e2).mpr z), z, Int.zero_mul, Int.mul_zero, Int.add_zero, lI_neg]
            exact ihj (i + 1) f (-sg) _ (by omega) (by omega)
          · rw [pn_f (fun q => z ((l_cmpI e2).mp q)), cond_true, b_set gone (by omega) i (by omega) c0, nI_1, ih (row + 1) (gone + 2 ^ i) d (by omega) (b_s5 gone hg i (by omega) c0) (by omega), pn_c2, lI_mul, lI_mul, lI_add, lI_neg, Int.mul_assoc]
            exact ihj (i + 1) f (-sg) _ (by omega) (by omega)
    exact loop n 0 10000000 1 0 (by omega) (by omega)
/-! the class's rows apart -/
def Nm (s : Nat) (u : Nat → Nat) (i j : Nat) : Int := ((nb s (ov (u i) (u j)) : Nat) : Int)
def apm (s : Nat) (u : Nat → Nat) (r c : Nat) : Int := Nm s u c (r + 1) - Nm s u c 0
theorem c_sa14 (d f : Nat) {r : Nat} (hr : r < 3) (x2 : Int32) : zR d (f + 1 + 1 + 1) 24 14 [some (.ref 29), some (.int (nI r)), some (.int x2)] [] (hC I A, t) = (bif decide ((I 2901) ≤ x2) then (zR d (f + 1 + 1) 24 2 [some (.ref 29), some (.int (nI (r + 1))), some (.int x2)] [] (hC I A, t)) else bif zm_in x2 4 then (zm_c1 (zC d 65 [(.int (A 30 (Int32.toNatClampNeg x2))), (.int (A 30 (r + 1))), (.int (I 2902))] (hC I A, t)) fun v2 h1 => zR d (f + 1 + 1) 24 50 [some (.ref 29), some (.int (nI r)), some (.int x2)] [(.int v2), (.int x2), (.ref (32 + r))] h1) else none) := by
  have hc : r = 0 ∨ r = 1 ∨ r = 2 := by omega
  rcases hc with rfl | rfl | rfl
  · exact e_X2_setApart_at14_10 d (f + 1 + 1) I A t x2
  · exact e_X2_setApart_at14_11 d (f + 1 + 1) I A t x2
  · exact e_X2_setApart_at14_12 d (f + 1 + 1) I A t x2
theorem c_sa50 (d f : Nat) {r : Nat} (hr : r < 3) (x1 x2 s0 s1 : Int32) : zR d (f + 1) 24 50 [some (.ref 29), some (.int x1), some (.int x2)] [(.int s0), (.int s1), (.ref (32 + r))] (hC I A, t) = (bif zm_in x2 4 then (zm_c1 (zC d 65 [(.int (A 30 (Int32.toNatClampNeg x2))), (.int (A 30 (Int32.toNatClampNeg 0))), (.int (I 2902))] (hC I A, t)) fun v2 h1 => zR d f 24 69 [some (.ref 29), some (.int x1), some (.int x2)] [(.int v2), (.int s0), (.int s1), (.ref (32 + r))] h1) else none) := by
  have hc : r = 0 ∨ r = 1 ∨ r = 2 := by omega
  rcases hc with rfl | rfl | rfl
  · exact e_X2_setApart_at50_S2r32 d f I A t x1 x2 s0 s1
  · exact e_X2_setApart_at50_S2r33 d f I A t x1 x2 s0 s1
  · exact e_X2_setApart_at50_S2r34 d f I A t x1 x2 s0 s1
theorem c_sa69 (d f : Nat) {r : Nat} (hr : r < 3) (x1 x2 s0 s1 s2 : Int32) : zR d (f + 1) 24 69 [some (.ref 29), some (.int x1), some (.int x2)] [(.int s0), (.int s1), (.int s2), (.ref (32 + r))] (hC I A, t) = (bif zm_in s2 4 then (zR d f 24 14 [some (.ref 29), some (.int x1), some (.int (x2 + 1))] [] (hC I (va_up A (32 + r) (upd (A (32 + r)) (Int32.toNatClampNeg s2) (s1 - s0))), t)) else none) := by
  have hc : r = 0 ∨ r = 1 ∨ r = 2 := by omega
  rcases hc with rfl | rfl | rfl
  · exact e_X2_setApart_at69_S3r32 d f I A t x1 x2 s0 s1 s2
  · exact e_X2_setApart_at69_S3r33 d f I A t x1 x2 s0 s1 s2
  · exact e_X2_setApart_at69_S3r34 d f I A t x1 x2 s0 s1 s2
theorem nI_subI (a b : Nat) : nI a - nI b = iI ((a : Int) - b) := by
  rw [iI_nI, iI_nI]
  exact (Int32.ofInt_sub _ _).symm
theorem c_saIn (d : Nat) (hd : 3 ≤ d) (K4 : K ≤ 4) (hu : ∀ i, i < K → u i < 100000) {r : Nat} (hr : r + 1 < K) : ∀ (j i : Nat) (A : Nat → Nat → Int32), i + j = K → fdC s K u I A → (∀ c, c < i → A (32 + r) c = iI (apm s u r c)) → ∃ A', (∀ f t, zR d (f + 3 * j + 3) 24 14 [some (.ref 29), some (.int (nI r)), some (.int (nI i))] [] (hC I A, t) = zR d (f + 2) 24 2 [some (.ref 29), some (.int (nI (r + 1))), some (.int (nI K))] [] (hC I A', t)) ∧ (∀ c, c ≠ 32 + r → A' c = A c) ∧ ∀ c, c < K → A' (32 + r) c = iI (apm s u r c) := by
  intro j
  induction j with
  | zero =>
    intro i A hi h hA
    have e : i = K := by omega
    subst e
    refine ⟨A, fun f t => ?_, fun c _ => rfl, hA⟩
    rw [show f + 3 * 0 + 3 = f + 1 + 1 + 1 from rfl, c_sa14 d f (by omega), h.1, pn_t (nI_le (Nat.le_refl _) (by omega))]
  | succ j ih =>
    intro i A hi h hA
    obtain ⟨h1, h2, h3⟩ := id h
    obtain ⟨A', a1, a2, a3⟩ := ih (i + 1) (va_up A (32 + r) (upd (A (32 + r)) i (iI (apm s u r i)))) (by omega) ⟨h1, h2, fun k hk => by rw [vu_ne (by omega)]; exact h3 k hk⟩ (fun c hc => by
      rw [vu_eq]
      by_cases e : c = i
      · rw [e, upd_eq]
      · rw [upd_ne e]; exact hA c (by omega))
    refine ⟨A', fun f t => ?_, fun c hc => by rw [a2 c hc, vu_ne hc], a3⟩
    have ui := hu i (by omega)
    have ur := hu (r + 1) hr
    have u0 := hu 0 (by omega)
    have e0 : A 30 (Int32.toNatClampNeg 0) = nI (u 0) := h3 0 (by omega)
    rw [show f + 3 * (j + 1) + 3 = (f + 3 * j + 3) + 1 + 1 + 1 by omega, c_sa14 d _ (by omega), h1, pn_f (nI_ge (by omega) (by omega)), pn_in (show i < 4 by omega) (by decide), cond_true, pn_cl (show i < 2 ^ 31 by omega), h3 i (by omega), h3 (r + 1) hr, h2, s_number hd _ (by omega) (by omega), pn_c1, c_sa50 d _ (by omega), pn_in (show i < 4 by omega) (by decide), cond_true, pn_cl (show i < 2 ^ 31 by omega), h3 i (by omega), e0, h2, s_number hd _ (by omega) (by omega), pn_c1, c_sa69 d _ (by omega), pn_in (show i < 4 by omega) (by decide), cond_true, pn_cl (show i < 2 ^ 31 by omega), nI_subI, nI_1]
    exact a1 f t
theorem c_saOut (d : Nat) (hd : 3 ≤ d) (K4 : K ≤ 4) (hu : ∀ i, i < K → u i < 100000) : ∀ (j r : Nat) (A : Nat → Nat → Int32), r + j + 1 = K → fdC s K u I A → (∀ q c, q < r → c < K → A (32 + q) c = iI (apm s u q c)) → ∃ A', (∀ f t o2, 20 * j < f → zR d f 24 2 [some (.ref 29), some (.int (nI r)), o2] [] (hC I A, t) = some (none, (hC I A', t))) ∧ (∀ c, c < 32 ∨ 34 < c → A' c = A c) ∧ ∀ q c, q < K - 1 → c < K → A' (32 + q) c = iI (apm s u q c) := by
  intro j
  induction j with
  | zero =>
    intro r A hr h hA
    refine ⟨A, fun f t o2 hf => ?_, fun c _ => rfl, fun q c hq hc => hA q c (by omega) hc⟩
    obtain ⟨f, rfl⟩ : ∃ e, f = e + 1 := ⟨f - 1, by omega⟩
    rw [e_X2_setApart_at2, h.1, show nI K - 1 = nI (K - 1) from pn_sub (b := 1) (by omega), pn_t (nI_le (by omega) (by omega))]
  | succ j ih =>
    intro r A hr h hA
    obtain ⟨A1, a1, a2, a3⟩ := c_saIn (s := s) (I := I) d hd K4 hu (show r + 1 < K by omega) K 0 A (by omega) h (fun c hc => by omega)
    obtain ⟨A', b1, b2, b3⟩ := ih (r + 1) A1 (by omega) ⟨h.1, h.2.1, fun k hk => by rw [a2 30 (by omega)]; exact h.2.2 k hk⟩ (fun q c hq hc => by
      by_cases e : q = r
      · rw [e]; exact a3 c hc
      · rw [a2 (32 + q) (by omega)]; exact hA q c (by omega) hc)
    refine ⟨A', fun f t o2 hf => ?_, fun c hc => by rw [b2 c hc, a2 c (by omega)], b3⟩
    obtain ⟨f, rfl⟩ : ∃ e, f = (e + 3 * K + 3) + 1 := ⟨f - 3 * K - 4, by omega⟩
    have a1' := a1 f t
    rw [show nI 0 = (0 : Int32) from rfl] at a1'
    rw [e_X2_setApart_at2, h.1, show nI K - 1 = nI (K - 1) from pn_sub (b := 1) (by omega), pn_f (nI_ge (by omega) (by omega)), a1']
    exact b1 (f + 2) t _ (by omega)
theorem c_setA {d : Nat} (hd : 4 ≤ d) (K1 : 1 ≤ K) (K4 : K ≤ 4) (hu : ∀ i, i < K → u i < 100000) (h : fdC s K u I A) : ∃ A', (∀ t, zC d 24 [.ref 29] (hC I A, t) = some (none, (hC I A', t))) ∧ (∀ c, c < 32 ∨ 34 < c → A' c = A c) ∧ ∀ q c, q < K - 1 → c < K → A' (32 + q) c = iI (apm s u q c) := by
  obtain ⟨d, rfl⟩ : ∃ e, d = e + 1 := ⟨d - 1, by omega⟩
  obtain ⟨A', a1, a2, a3⟩ := c_saOut (s := s) (I := I) d (by omega) K4 hu (K - 1) 0 A (by omega) h (fun q c hq => by omega)
  exact ⟨A', fun t => (e_X2_setApart d I A t).trans (a1 10000000 t none (by omega)), a2, a3⟩
def sgn (p : Nat) : Int := if p % 2 = 0 then 1 else -1
def wgt (s : Nat) (u : Nat → Nat) (K p : Nat) : Int := sgn p * mnr (apm s u) K (K - 1) 0 (2 ^ p)
theorem apm_bd (hs : s = 2 ∨ s = 3) (r c : Nat) : (apm s u r c).natAbs ≤ 363 := by
  have h1 := nb_363 hs (ov_lt (u c) (u (r + 1)))
  have h2 := nb_363 hs (ov_lt (u c) (u 0))
  unfold apm Nm
  omega
theorem b_one : ∀ p, p < 4 → (1 : Int32) <<< (nI p &&& 31) = nI (2 ^ p) ∧ 2 ^ p < 16 ∧ nI p &&& 1 = nI (p % 2) := by decide
theorem c_weight {d p : Nat} (hd : 6 ≤ d) (hs : s = 2 ∨ s = 3) (K2 : 2 ≤ K) (K4 : K ≤ 4) (hK : I 2901 = nI K) (hA : ∀ r c, r < K - 1 → c < K → A (32 + r) c = iI (apm s u r c)) (hp : p < K) : zC d 25 [.ref 29, .int (nI p)] (hC I A, t) = some (some (.long (lI (wgt s u K p))), (hC I A, t)) := by
  obtain ⟨d, rfl⟩ : ∃ e, d = e + 1 := ⟨d - 1, by omega⟩
  obtain ⟨h1, h2, h3⟩ := b_one p (by omega)
  have hm := c_minor (I := I) (t := t) K2 K4 (fun r c hr hc => ⟨hA r c hr hc, apm_bd hs r c⟩) (K - 1) 0 (2 ^ p) d (by omega) h2 (by omega)
  rw [show nI 0 = (0 : Int32) from rfl] at hm
  rw [e_X2_weight, hK, h1, hm, pn_c2, h3]
  unfold wgt sgn
  by_cases c : p % 2 = 0
  · rw [c, pn_f (show ¬ ¬ nI 0 = 0 by decide), if_pos rfl, Int.one_mul]
  · rw [show p % 2 = 1 by omega, pn_t (show ¬ nI 1 = 0 by decide), if_neg (by decide), Int.neg_one_mul, lI_neg]
theorem c_wholeL (d : Nat) (hd : 6 ≤ d) (hs : s = 2 ∨ s = 3) (K2 : 2 ≤ K) (K4 : K ≤ 4) (hK : I 2901 = nI K) (hA : ∀ r c, r < K - 1 → c < K → A (32 + r) c = iI (apm s u r c)) : ∀ (j i f : Nat), i + j = K → j < f → zR d f 26 4 [some (.ref 29), some (.long (lI (sm i (wgt s u K)))), none, some (.int (nI i))] [] (hC I A, t) = some (some (.long (lI (sm K (wgt s u K)))), (hC I A, t)) := by
  intro j
  induction j with
  | zero =>
    intro i f hi hf
    obtain ⟨f, rfl⟩ : ∃ e, f = e + 1 := ⟨f - 1, by omega⟩
    rw [e_X2_wholeWeight_at4, hK, pn_t (nI_le (by omega) (by omega)), show i = K by omega]
  | succ j ih =>
    intro i f hi hf
    obtain ⟨f, rfl⟩ : ∃ e, f = e + 1 := ⟨f - 1, by omega⟩
    rw [e_X2_wholeWeight_at4, hK, pn_f (nI_ge (by omega) (by omega)), c_weight hd hs K2 K4 hK hA (by omega), pn_c2, lI_add, nI_1]
    exact ih (i + 1) f (by omega) (by omega)
theorem c_whole {d : Nat} (hd : 7 ≤ d) (hs : s = 2 ∨ s = 3) (K2 : 2 ≤ K) (K4 : K ≤ 4) (hK : I 2901 = nI K) (hA : ∀ r c, r < K - 1 → c < K → A (32 + r) c = iI (apm s u r c)) : zC d 26 [.ref 29] (hC I A, t) = some (some (.long (lI (sm K (wgt s u K)))), (hC I A, t)) := by
  obtain ⟨d, rfl⟩ : ∃ e, d = e + 1 := ⟨d - 1, by omega⟩
  rw [e_X2_wholeWeight]
  exact c_wholeL d (by omega) hs K2 K4 hK hA K 0 10000000 (by omega) (by omega)
theorem c_meanL (d : Nat) (hd : 7 ≤ d) (hs : s = 2 ∨ s = 3) (K2 : 2 ≤ K) (K4 : K ≤ 4) (hu : ∀ i, i < K → u i < 100000) (h : fdC s K u I A) (hA : ∀ r c, r < K - 1 → c < K → A (32 + r) c = iI (apm s u r c)) (p : Int32) : ∀ (j i f : Nat), i + j = K → 2 * j < f → zR d f 23 9 [some (.ref 29), some (.int p), some (.long (lI (sm i (fun i => wgt s u K i * Nm s u i 0)))), none, some (.int (nI i))] [] (hC I A, t) = (zm_c2 (zC d 32 [(.long (lI (sm K (fun i => wgt s u K i * Nm s u i 0)))), (.long (lI (sm K (wgt s u K)))), (.int p)] (hC I A, t)) fun v4 h3 => some (some (.long v4), h3)) := by
  obtain ⟨h1, h2, h3⟩ := id h
  intro j
  induction j with
  | zero =>
    intro i f hi hf
    obtain ⟨f, rfl⟩ : ∃ e, f = e + 1 := ⟨f - 1, by omega⟩
    rw [e_X2_meanPart_at9, h1, pn_t (nI_le (by omega) (by omega)), c_whole hd hs K2 K4 h1 hA, pn_c2, show i = K by omega]
  | succ j ih =>
    intro i f hi hf
    obtain ⟨f, rfl⟩ : ∃ e, f = e + 1 + 1 := ⟨f - 2, by omega⟩
    have ui := hu i (by omega)
    have u0 := hu 0 (by omega)
    have e0 : A 30 (Int32.toNatClampNeg 0) = nI (u 0) := h3 0 (by omega)
    have hb := nb_363 hs (ov_lt (u i) (u 0))
    rw [e_X2_meanPart_at9, h1, pn_f (nI_ge (by omega) (by omega)), c_weight (by omega) hs K2 K4 h1 hA (by omega), pn_c2, e_X2_meanPart_at25, pn_in (show i < 4 by omega) (by decide), cond_true, pn_cl (show i < 2 ^ 31 by omega), h3 i (by omega), e0, h2, s_number (by omega) _ (by omega) (by omega), pn_c1, iI_nI (nb s (ov (u i) (u 0))), iI_l (by omega), lI_mul, lI_add, nI_1]
    exact ih (i + 1) f (by omega) (by omega)
/-! the reference's equations -/
theorem nb_lt30 {s : Nat} (a b : Nat) (hs : s = 2 ∨ s = 3) : nb s (ov a b) < 2 ^ 30 := by
  have := nb_363 hs (ov_lt a b)
  omega
def mxv (s : Nat) (u : Nat → Nat) (K : Nat) (col : Nat → Bool) (r c : Nat) : Int := if col c = true then (if r = 0 then 1 else 0) else if r = 0 then (if c < K then 1 else 0) else if c < K then Nm s u c (r - 1) else -1
theorem r_fillIn (d : Nat) (hd : 3 ≤ d) {e : Nat → Nat} {x1 : Int32} {col : Nat → Bool} (hs2 : s = 2 ∨ s = 3) (hs : J 0 = nI s) (K4 : K ≤ 4) (he : ∀ i, i < K → e i < 6) (hB : ∀ i, i < K → B 17 i = nI (e i)) (hw : ∀ i, i < K → B 1 (e i) = nI (u i) ∧ u i < 100000) (hcol : ∀ c, c ≤ K → (nI c = x1 ↔ col c = true)) {r : Nat} (hr : r ≤ K) : ∀ (j c : Nat) (L : Nat → Nat → Int64), c + j = K + 1 → (∀ q, q < c → L 18 (6 * r + q) = lI (mxv s u K col r q)) → ∃ L', (∀ (R : Option zm_R) (t : List zm_E) (F0 : Nat), (∀ f o4 o5, F0 < f → zR d f 162 7 [some (.ref 1000), some (.int x1), some (.int (nI K)), some (.int (nI (r + 1))), o4, o5, none] [] (t, hM J B L') = R) → ∀ f o5, F0 + 3 * j + 3 < f → zR d f 162 15 [some (.ref 1000), some (.int x1), some (.int (nI K)), some (.int (nI r)), some (.int (nI c)), o5, none] [] (t, hM J B L) = R) ∧ (∀ q, q ≠ 18 → L' q = L q) ∧ (∀ q, q ≤ K → L' 18 (6 * r + q) = lI (mxv s u K col r q)) ∧ ∀ x, x < 6 * r ∨ 6 * r + 6 ≤ x → L' 18 x = L 18 x := by
  intro j
  induction j with
  | zero =>
    intro c L hc hL
    have e1 : c = K + 1 := by omega
    subst e1
    refine ⟨L, fun R t F0 hR f o5 hf => ?_, fun q _ => rfl, fun q hq => hL q (by omega), fun x _ => rfl⟩
    obtain ⟨f, rfl⟩ : ∃ e, f = e + 1 := ⟨f - 1, by omega⟩
    rw [e_X10_fills_at15, pn_t (nI_lt (by omega) (by omega)), nI_1]
    exact hR f _ _ (by omega)
  | succ j ih =>
    intro c L hc hL
    have e6 : (6 : Int32) * nI r + nI c = nI (6 * r + c) := by rw [show (6 : Int32) = nI 6 from rfl, pk_mul, nI_add]
    have step : ∃ o' : Option Value, ∀ f t o5, ∃ g, f ≤ g ∧ zR d (f + 2) 162 15 [some (.ref 1000), some (.int x1), some (.int (nI K)), some (.int (nI r)), some (.int (nI c)), o5, none] [] (t, hM J B L) = zR d g 162 15 [some (.ref 1000), some (.int x1), some (.int (nI K)), some (.int (nI r)), some (.int (nI (c + 1))), o', none] [] (t, hM J B (va_up L 18 (vp_updL (L 18) (6 * r + c) (lI (mxv s u K col r c))))) := by
      have hcc := hcol c (by omega)
      have hin : zm_in (nI (6 * r + c)) 36 = true := pn_in (by omega) (by decide)
      by_cases r0 : r = 0
      · have rz : ¬ ¬ nI r = 0 := by rw [r0]; exact fun q => q rfl
        by_cases cK : K ≤ c
        · refine ⟨some (.long 0), fun f t o5 => ⟨f + 1, by omega, ?_⟩⟩
          rw [e_X10_fills_at15, pn_f (nI_nlt (by omega) (by omega)), pn_f rz, pn_t (nI_le cK (by omega)), e6, hin, cond_true, cond_true, pn_cl (show 6 * r + c < 2 ^ 31 by omega), nI_1]
          unfold mxv
          by_cases cc : col c = true
          · rw [pn_f (fun q => q (hcc.mpr cc)), pn_f rz, if_pos cc, if_pos r0]; rfl
          · rw [pn_t (fun q => cc (hcc.mp q)), if_neg cc, if_pos r0, if_neg (by omega)]; rfl
        · refine ⟨some (.long 1), fun f t o5 => ⟨f + 1, by omega, ?_⟩⟩
          rw [e_X10_fills_at15, pn_f (nI_nlt (by omega) (by omega)), pn_f rz, pn_f (nI_ge (by omega) (by omega)), e6, hin, cond_true, cond_true, pn_cl (show 6 * r + c < 2 ^ 31 by omega), nI_1]
          unfold mxv
          by_cases cc : col c = true
          · rw [pn_f (fun q => q (hcc.mpr cc)), pn_f rz, if_pos cc, if_pos r0]; rfl
          · rw [pn_t (fun q => cc (hcc.mp q)), if_neg cc, if_pos r0, if_pos (by omega)]; rfl
      · have rz : ¬ nI r = 0 := nI_ne0 (by omega) (by omega)
        by_cases cK : K ≤ c
        · refine ⟨some (.long (-1)), fun f t o5 => ⟨f + 1, by omega, ?_⟩⟩
          rw [e_X10_fills_at15, pn_f (nI_nlt (by omega) (by omega)), pn_t rz, pn_t (nI_le cK (by omega)), e6, hin, cond_true, cond_true, pn_cl (show 6 * r + c < 2 ^ 31 by omega), nI_1]
          unfold mxv
          by_cases cc : col c = true
          · rw [pn_f (fun q => q (hcc.mpr cc)), pn_t rz, if_pos cc, if_neg r0]; rfl
          · rw [pn_t (fun q => cc (hcc.mp q)), if_neg cc, if_neg r0, if_neg (by omega)]; rfl
        · have ec := he c (by omega)
          have er := he (r - 1) (by omega)
          have wc := hw c (by omega)
          have wr := hw (r - 1) (by omega)
          have hb := nb_lt30 (u c) (u (r - 1)) hs2
          refine ⟨some (.long (Int32.toInt64 (nI (nb s (ov (u c) (u (r - 1))))))), fun f t o5 => ⟨f, Nat.le_refl _, ?_⟩⟩
          rw [show f + 2 = f + 1 + 1 from rfl, e_X10_fills_at15, pn_f (nI_nlt (by omega) (by omega)), pn_t rz, pn_f (nI_ge (by omega) (by omega)), pn_in (show c < 4 by omega) (by decide), cond_true, pn_cl (show c < 2 ^ 31 by omega), hB c (by omega), pn_in ec (by decide), cond_true, show nI r - 1 = nI (r - 1) from pn_sub (b := 1) (by omega), pn_in (show r - 1 < 4 by omega) (by decide), cond_true, pn_cl (show r - 1 < 2 ^ 31 by omega), hB (r - 1) (by omega), pn_in er (by decide), cond_true, pn_cl (show e c < 2 ^ 31 by omega), pn_cl (show e (r - 1) < 2 ^ 31 by omega), wc.1, wr.1, r_number hd t J B L hs wc.2 wr.2, pn_c1, e_X10_fills_at74, e6, hin, cond_true, cond_true, cond_true, pn_cl (show 6 * r + c < 2 ^ 31 by omega), nI_1]
          unfold mxv
          by_cases cc : col c = true
          · rw [pn_f (fun q => q (hcc.mpr cc)), pn_t rz, if_pos cc, if_neg r0]; rfl
          · rw [pn_t (fun q => cc (hcc.mp q)), if_neg cc, if_neg r0, if_pos (by omega)]
            unfold Nm
            rw [← iI_l (by omega), ← iI_nI]
    obtain ⟨o', hst⟩ := step
    obtain ⟨L', l1, l2, l3, l4⟩ := ih (c + 1) (va_up L 18 (vp_updL (L 18) (6 * r + c) (lI (mxv s u K col r c)))) (by omega) (fun q hq => by
      rw [vu_eq]
      by_cases eq : q = c
      · rw [eq, pk_uLs]
      · rw [pk_uLn (by omega)]; exact hL q (by omega))
    refine ⟨L', fun R t F0 hR f o5 hf => ?_, fun q hq => by rw [l2 q hq, vu_ne hq], l3, fun x hx => by rw [l4 x hx, vu_eq, pk_uLn (by omega)]⟩
    obtain ⟨f, rfl⟩ : ∃ e, f = e + 2 := ⟨f - 2, by omega⟩
    obtain ⟨g, g1, g2⟩ := hst f t o5
    rw [g2]
    exact l1 R t F0 hR g o' (by omega)
theorem r_fillOut (d : Nat) (hd : 3 ≤ d) {e : Nat → Nat} {x1 : Int32} {col : Nat → Bool} (hs2 : s = 2 ∨ s = 3) (hs : J 0 = nI s) (K4 : K ≤ 4) (he : ∀ i, i < K → e i < 6) (hB : ∀ i, i < K → B 17 i = nI (e i)) (hw : ∀ i, i < K → B 1 (e i) = nI (u i) ∧ u i < 100000) (hcol : ∀ c, c ≤ K → (nI c = x1 ↔ col c = true)) : ∀ (j r : Nat) (L : Nat → Nat → Int64), r + j = K + 1 → (∀ p q, p < r → q ≤ K → L 18 (6 * p + q) = lI (mxv s u K col p q)) → ∃ L', (∀ f t o4 o5, 40 * j < f → zR d f 162 7 [some (.ref 1000), some (.int x1), some (.int (nI K)), some (.int (nI r)), o4, o5, none] [] (t, hM J B L) = some (none, (t, hM J B L'))) ∧ ∀ p q, p ≤ K → q ≤ K → L' 18 (6 * p + q) = lI (mxv s u K col p q) := by
  intro j
  induction j with
  | zero =>
    intro r L hr hL
    refine ⟨L, fun f t o4 o5 hf => ?_, fun p q hp hq => hL p q (by omega) hq⟩
    obtain ⟨f, rfl⟩ : ∃ e, f = e + 1 := ⟨f - 1, by omega⟩
    rw [e_X10_fills_at7, pn_t (nI_lt (by omega) (by omega))]
  | succ j ih =>
    intro r L hr hL
    obtain ⟨L1, l1, l2, l3, l4⟩ := r_fillIn (J := J) (B := B) d hd hs2 hs K4 he hB hw hcol (show r ≤ K by omega) (K + 1) 0 L (by omega) (fun q hq => by omega)
    obtain ⟨L', m1, m2⟩ := ih (r + 1) L1 (by omega) (fun p q hp hq => by
      by_cases e : p = r
      · rw [e]; exact l3 q hq
      · rw [l4 _ (by omega)]; exact hL p q (by omega) hq)
    refine ⟨L', fun f t o4 o5 hf => ?_, m2⟩
    obtain ⟨f, rfl⟩ : ∃ e, f = e + 1 := ⟨f - 1, by omega⟩
    rw [e_X10_fills_at7, pn_f (nI_nlt (by omega) (by omega))]
    exact l1 _ t (40 * j) (fun f o4 o5 hf => m1 f t o4 o5 hf) f _ (by omega)
theorem r_fills {d : Nat} (hd : 4 ≤ d) {e : Nat → Nat} {x1 : Int32} {col : Nat → Bool} (hs2 : s = 2 ∨ s = 3) (hs : J 0 = nI s) (hK : J 26 = nI K) (K4 : K ≤ 4) (he : ∀ i, i < K → e i < 6) (hB : ∀ i, i < K → B 17 i = nI (e i)) (hw : ∀ i, i < K → B 1 (e i) = nI (u i) ∧ u i < 100000) (hcol : ∀ c, c ≤ K → (nI c = x1 ↔ col c = true)) : ∃ L', (∀ t, zC d 162 [.ref 1000, .int x1] (t, hM J B L) = some (none, (t, hM J B L'))) ∧ ∀ p q, p ≤ K → q ≤ K → L' 18 (6 * p + q) = lI (mxv s u K col p q) := by
  obtain ⟨d, rfl⟩ : ∃ e, d = e + 1 := ⟨d - 1, by omega⟩
  obtain ⟨L', l1, l2⟩ := r_fillOut (J := J) (B := B) d (by omega) hs2 hs K4 he hB hw hcol (K + 1) 0 L (by omega) (fun p q hp => by omega)
  refine ⟨L', fun t => ?_, l2⟩
  rw [e_X10_fills, hK]
  exact l1 10000000 t _ _ (by omega)
theorem mxv_bd (hs : s = 2 ∨ s = 3) (col : Nat → Bool) (r c : Nat) : (mxv s u K col r c).natAbs ≤ 363 := by
  have h1 := nb_363 hs (ov_lt (u c) (u (r - 1)))
  unfold mxv Nm
  split
  · split <;> decide
  · split
    · split <;> decide
    · split
      · omega
      · decide
/-- Cramer's two squares -/
theorem r_solved {d : Nat} (hd : 9 ≤ d) {e : Nat → Nat} {x1 p : Int32} {col : Nat → Bool} (hs2 : s = 2 ∨ s = 3) (hs : J 0 = nI s) (hK : J 26 = nI K) (K4 : K ≤ 4) (he : ∀ i, i < K → e i < 6) (hB : ∀ i, i < K → B 17 i = nI (e i)) (hw : ∀ i, i < K → B 1 (e i) = nI (u i) ∧ u i < 100000) (hcol : ∀ c, c ≤ K → (nI c = x1 ↔ col c = true)) (hX : (mnr (mxv s u K col) (K + 1) (K + 1) 0 0).natAbs < 2 ^ 62) (hY : (mnr (mxv s u K (fun _ => false)) (K + 1) (K + 1) 0 0).natAbs < 2 ^ 62) (hY0 : mnr (mxv s u K (fun _ => false)) (K + 1) (K + 1) 0 0 ≠ 0) : ∃ L', ∀ t, zC d 163 [.ref 1000, .int x1, .int p] (t, hM J B L) = some (some (.long (fL (lI (mnr (mxv s u K col) (K + 1) (K + 1) 0 0)) (lI (mnr (mxv s u K (fun _ => false)) (K + 1) (K + 1) 0 0)) (if p = 0 then lI (mnr (mxv s u K col) (K + 1) (K + 1) 0 0) else lI (mnr (mxv s u K (fun _ => false)) (K + 1) (K + 1) 0 0)))), (t, hM J B L')) := by
  obtain ⟨d, rfl⟩ : ∃ e, d = e + 1 := ⟨d - 1, by omega⟩
  obtain ⟨L1, a1, a2⟩ := r_fills (L := L) (d := d) (by omega) hs2 hs hK K4 he hB hw hcol
  obtain ⟨L2, b1, b2⟩ := r_fills (L := L1) (d := d) (x1 := -1) (col := fun _ => false) (by omega) hs2 hs hK K4 he hB hw (fun c hc => ⟨fun q => by
    have := congrArg Int32.toInt q
    rw [nI_toInt (by omega)] at this
    have e1 : (-1 : Int32).toInt = -1 := rfl
    omega, fun q => by cases q⟩)
  refine ⟨L2, fun t => ?_⟩
  have s1 := r_square (J := J) (B := B) (L := L1) (t := t) (n := K + 1) (by omega) (fun r c hr hc => ⟨a2 r c (by omega) (by omega), by have := mxv_bd (K := K) (u := u) hs2 col r c; omega⟩) (K + 1) 0 0 d (by omega) (by omega) (by omega)
  have s2 := r_square (J := J) (B := B) (L := L2) (t := t) (n := K + 1) (by omega) (fun r c hr hc => ⟨b2 r c (by omega) (by omega), by have := mxv_bd (K := K) (u := u) hs2 (fun _ => false) r c; omega⟩) (K + 1) 0 0 d (by omega) (by omega) (by omega)
  rw [show nI 0 = (0 : Int32) from rfl] at s1 s2
  rw [e_X10_solved, a1, pn_c0, F1, e_X10_solved_at5, hK, nI_1, s1, pn_c2, b1, pn_c0, F2, e_X10_solved_at23, hK, nI_1, s2, pn_c2, r_lowest (by omega) _ _ _ p (by rw [lI_T (by omega)]; exact hX) (by rw [lI_T (by omega)]; exact hY) (by rw [lI_T (by omega)]; exact hY0), pn_c2]
end MN
/-! printed by wip/whole/detgen.py: the squares of a field's equations, the minors of its rows apart -/
set_option maxRecDepth 20000 in
set_option maxHeartbeats 4000000 in
theorem i2_det (n00 n01 n10 n11 : Int) : ((((0 : Int) + (1 : Int) * ((1 : Int) * (((0 : Int) + (1 : Int) * (n10 * ((0 : Int) + (1 : Int) * ((-1 : Int) * (1 : Int))))) + (-(1 : Int)) * ((-1 : Int) * ((0 : Int) + (1 : Int) * (n11 * (1 : Int))))))) + (-(1 : Int)) * ((1 : Int) * (((0 : Int) + (1 : Int) * (n00 * ((0 : Int) + (1 : Int) * ((-1 : Int) * (1 : Int))))) + (-(1 : Int)) * ((-1 : Int) * ((0 : Int) + (1 : Int) * (n01 * (1 : Int))))))) + (-(-(1 : Int))) * ((0 : Int) * (((0 : Int) + (1 : Int) * (n00 * ((0 : Int) + (1 : Int) * (n11 * (1 : Int))))) + (-(1 : Int)) * (n10 * ((0 : Int) + (1 : Int) * (n01 * (1 : Int))))))) = (1 : Int) * (((0 : Int) + ((1 : Int) * ((0 : Int) + (1 : Int) * ((n11 - n10) * (1 : Int))))) + ((-1 : Int) * ((0 : Int) + (1 : Int) * ((n01 - n00) * (1 : Int))))) := by
  simp only [Int.mul_add, Int.add_mul, Int.sub_mul, Int.mul_sub, Int.neg_mul, Int.mul_neg, Int.one_mul, Int.mul_one, Int.zero_mul, Int.mul_zero, Int.zero_add, Int.add_zero, Int.neg_neg, Int.neg_zero, Int.sub_zero, Int.zero_sub, Int.mul_assoc, Int.mul_comm, Int.mul_left_comm]
  try omega
set_option maxRecDepth 20000 in
set_option maxHeartbeats 4000000 in
theorem q2_det (s : Nat) (u : Nat → Nat) : mnr (mxv s u 2 (fun _ => false)) 3 3 0 0 = ((((0 : Int) + (1 : Int) * ((1 : Int) * (((0 : Int) + (1 : Int) * ((Nm s u 1 0) * ((0 : Int) + (1 : Int) * ((-1 : Int) * (1 : Int))))) + (-(1 : Int)) * ((-1 : Int) * ((0 : Int) + (1 : Int) * ((Nm s u 1 1) * (1 : Int))))))) + (-(1 : Int)) * ((1 : Int) * (((0 : Int) + (1 : Int) * ((Nm s u 0 0) * ((0 : Int) + (1 : Int) * ((-1 : Int) * (1 : Int))))) + (-(1 : Int)) * ((-1 : Int) * ((0 : Int) + (1 : Int) * ((Nm s u 0 1) * (1 : Int))))))) + (-(-(1 : Int))) * ((0 : Int) * (((0 : Int) + (1 : Int) * ((Nm s u 0 0) * ((0 : Int) + (1 : Int) * ((Nm s u 1 1) * (1 : Int))))) + (-(1 : Int)) * ((Nm s u 1 0) * ((0 : Int) + (1 : Int) * ((Nm s u 0 1) * (1 : Int))))))) := rfl
set_option maxRecDepth 20000 in
set_option maxHeartbeats 4000000 in
theorem d2_det (s : Nat) (u : Nat → Nat) : mnr (mxv s u 2 (fun _ => false)) 3 3 0 0 = (1 : Int) * sm 2 (wgt s u 2) := (q2_det s u).trans (i2_det (Nm s u 0 0) (Nm s u 0 1) (Nm s u 1 0) (Nm s u 1 1))
set_option maxRecDepth 20000 in
set_option maxHeartbeats 4000000 in
theorem i2_up0 (n00 n01 n10 n11 : Int) : ((((0 : Int) + (1 : Int) * ((1 : Int) * (((0 : Int) + (1 : Int) * (n10 * ((0 : Int) + (1 : Int) * ((-1 : Int) * (1 : Int))))) + (-(1 : Int)) * ((-1 : Int) * ((0 : Int) + (1 : Int) * (n11 * (1 : Int))))))) + (-(1 : Int)) * ((1 : Int) * (((0 : Int) + (1 : Int) * ((0 : Int) * ((0 : Int) + (1 : Int) * ((-1 : Int) * (1 : Int))))) + (-(1 : Int)) * ((-1 : Int) * ((0 : Int) + (1 : Int) * ((0 : Int) * (1 : Int))))))) + (-(-(1 : Int))) * ((0 : Int) * (((0 : Int) + (1 : Int) * ((0 : Int) * ((0 : Int) + (1 : Int) * (n11 * (1 : Int))))) + (-(1 : Int)) * (n10 * ((0 : Int) + (1 : Int) * ((0 : Int) * (1 : Int))))))) = (1 : Int) * ((1 : Int) * ((0 : Int) + (1 : Int) * ((n11 - n10) * (1 : Int)))) := by
  simp only [Int.mul_add, Int.add_mul, Int.sub_mul, Int.mul_sub, Int.neg_mul, Int.mul_neg, Int.one_mul, Int.mul_one, Int.zero_mul, Int.mul_zero, Int.zero_add, Int.add_zero, Int.neg_neg, Int.neg_zero, Int.sub_zero, Int.zero_sub, Int.mul_assoc, Int.mul_comm, Int.mul_left_comm]
  try omega
set_option maxRecDepth 20000 in
set_option maxHeartbeats 4000000 in
theorem q2_up0 (s : Nat) (u : Nat → Nat) : mnr (mxv s u 2 (fun c => decide (c = 0))) 3 3 0 0 = ((((0 : Int) + (1 : Int) * ((1 : Int) * (((0 : Int) + (1 : Int) * ((Nm s u 1 0) * ((0 : Int) + (1 : Int) * ((-1 : Int) * (1 : Int))))) + (-(1 : Int)) * ((-1 : Int) * ((0 : Int) + (1 : Int) * ((Nm s u 1 1) * (1 : Int))))))) + (-(1 : Int)) * ((1 : Int) * (((0 : Int) + (1 : Int) * ((0 : Int) * ((0 : Int) + (1 : Int) * ((-1 : Int) * (1 : Int))))) + (-(1 : Int)) * ((-1 : Int) * ((0 : Int) + (1 : Int) * ((0 : Int) * (1 : Int))))))) + (-(-(1 : Int))) * ((0 : Int) * (((0 : Int) + (1 : Int) * ((0 : Int) * ((0 : Int) + (1 : Int) * ((Nm s u 1 1) * (1 : Int))))) + (-(1 : Int)) * ((Nm s u 1 0) * ((0 : Int) + (1 : Int) * ((0 : Int) * (1 : Int))))))) := rfl
set_option maxRecDepth 20000 in
set_option maxHeartbeats 4000000 in
theorem d2_up0 (s : Nat) (u : Nat → Nat) : mnr (mxv s u 2 (fun c => decide (c = 0))) 3 3 0 0 = (1 : Int) * wgt s u 2 0 := (q2_up0 s u).trans (i2_up0 (Nm s u 0 0) (Nm s u 0 1) (Nm s u 1 0) (Nm s u 1 1))
set_option maxRecDepth 20000 in
set_option maxHeartbeats 4000000 in
theorem i2_up1 (n00 n01 n10 n11 : Int) : ((((0 : Int) + (1 : Int) * ((1 : Int) * (((0 : Int) + (1 : Int) * ((0 : Int) * ((0 : Int) + (1 : Int) * ((-1 : Int) * (1 : Int))))) + (-(1 : Int)) * ((-1 : Int) * ((0 : Int) + (1 : Int) * ((0 : Int) * (1 : Int))))))) + (-(1 : Int)) * ((1 : Int) * (((0 : Int) + (1 : Int) * (n00 * ((0 : Int) + (1 : Int) * ((-1 : Int) * (1 : Int))))) + (-(1 : Int)) * ((-1 : Int) * ((0 : Int) + (1 : Int) * (n01 * (1 : Int))))))) + (-(-(1 : Int))) * ((0 : Int) * (((0 : Int) + (1 : Int) * (n00 * ((0 : Int) + (1 : Int) * ((0 : Int) * (1 : Int))))) + (-(1 : Int)) * ((0 : Int) * ((0 : Int) + (1 : Int) * (n01 * (1 : Int))))))) = (1 : Int) * ((-1 : Int) * ((0 : Int) + (1 : Int) * ((n01 - n00) * (1 : Int)))) := by
  simp only [Int.mul_add, Int.add_mul, Int.sub_mul, Int.mul_sub, Int.neg_mul, Int.mul_neg, Int.one_mul, Int.mul_one, Int.zero_mul, Int.mul_zero, Int.zero_add, Int.add_zero, Int.neg_neg, Int.neg_zero, Int.sub_zero, Int.zero_sub, Int.mul_assoc, Int.mul_comm, Int.mul_left_comm]
  try omega
set_option maxRecDepth 20000 in
set_option maxHeartbeats 4000000 in
theorem q2_up1 (s : Nat) (u : Nat → Nat) : mnr (mxv s u 2 (fun c => decide (c = 1))) 3 3 0 0 = ((((0 : Int) + (1 : Int) * ((1 : Int) * (((0 : Int) + (1 : Int) * ((0 : Int) * ((0 : Int) + (1 : Int) * ((-1 : Int) * (1 : Int))))) + (-(1 : Int)) * ((-1 : Int) * ((0 : Int) + (1 : Int) * ((0 : Int) * (1 : Int))))))) + (-(1 : Int)) * ((1 : Int) * (((0 : Int) + (1 : Int) * ((Nm s u 0 0) * ((0 : Int) + (1 : Int) * ((-1 : Int) * (1 : Int))))) + (-(1 : Int)) * ((-1 : Int) * ((0 : Int) + (1 : Int) * ((Nm s u 0 1) * (1 : Int))))))) + (-(-(1 : Int))) * ((0 : Int) * (((0 : Int) + (1 : Int) * ((Nm s u 0 0) * ((0 : Int) + (1 : Int) * ((0 : Int) * (1 : Int))))) + (-(1 : Int)) * ((0 : Int) * ((0 : Int) + (1 : Int) * ((Nm s u 0 1) * (1 : Int))))))) := rfl
set_option maxRecDepth 20000 in
set_option maxHeartbeats 4000000 in
theorem d2_up1 (s : Nat) (u : Nat → Nat) : mnr (mxv s u 2 (fun c => decide (c = 1))) 3 3 0 0 = (1 : Int) * wgt s u 2 1 := (q2_up1 s u).trans (i2_up1 (Nm s u 0 0) (Nm s u 0 1) (Nm s u 1 0) (Nm s u 1 1))
set_option maxRecDepth 20000 in
set_option maxHeartbeats 4000000 in
theorem i2_sum (n00 n01 n10 n11 : Int) : ((((0 : Int) + (1 : Int) * ((1 : Int) * (((0 : Int) + (1 : Int) * (n10 * ((0 : Int) + (1 : Int) * ((0 : Int) * (1 : Int))))) + (-(1 : Int)) * ((0 : Int) * ((0 : Int) + (1 : Int) * (n11 * (1 : Int))))))) + (-(1 : Int)) * ((1 : Int) * (((0 : Int) + (1 : Int) * (n00 * ((0 : Int) + (1 : Int) * ((0 : Int) * (1 : Int))))) + (-(1 : Int)) * ((0 : Int) * ((0 : Int) + (1 : Int) * (n01 * (1 : Int))))))) + (-(-(1 : Int))) * ((1 : Int) * (((0 : Int) + (1 : Int) * (n00 * ((0 : Int) + (1 : Int) * (n11 * (1 : Int))))) + (-(1 : Int)) * (n10 * ((0 : Int) + (1 : Int) * (n01 * (1 : Int))))))) = (1 : Int) * (((0 : Int) + (((1 : Int) * ((0 : Int) + (1 : Int) * ((n11 - n10) * (1 : Int)))) * n00)) + (((-1 : Int) * ((0 : Int) + (1 : Int) * ((n01 - n00) * (1 : Int)))) * n10)) := by
  simp only [Int.mul_add, Int.add_mul, Int.sub_mul, Int.mul_sub, Int.neg_mul, Int.mul_neg, Int.one_mul, Int.mul_one, Int.zero_mul, Int.mul_zero, Int.zero_add, Int.add_zero, Int.neg_neg, Int.neg_zero, Int.sub_zero, Int.zero_sub, Int.mul_assoc, Int.mul_comm, Int.mul_left_comm]
  try omega
set_option maxRecDepth 20000 in
set_option maxHeartbeats 4000000 in
theorem q2_sum (s : Nat) (u : Nat → Nat) : mnr (mxv s u 2 (fun c => decide (c = 2))) 3 3 0 0 = ((((0 : Int) + (1 : Int) * ((1 : Int) * (((0 : Int) + (1 : Int) * ((Nm s u 1 0) * ((0 : Int) + (1 : Int) * ((0 : Int) * (1 : Int))))) + (-(1 : Int)) * ((0 : Int) * ((0 : Int) + (1 : Int) * ((Nm s u 1 1) * (1 : Int))))))) + (-(1 : Int)) * ((1 : Int) * (((0 : Int) + (1 : Int) * ((Nm s u 0 0) * ((0 : Int) + (1 : Int) * ((0 : Int) * (1 : Int))))) + (-(1 : Int)) * ((0 : Int) * ((0 : Int) + (1 : Int) * ((Nm s u 0 1) * (1 : Int))))))) + (-(-(1 : Int))) * ((1 : Int) * (((0 : Int) + (1 : Int) * ((Nm s u 0 0) * ((0 : Int) + (1 : Int) * ((Nm s u 1 1) * (1 : Int))))) + (-(1 : Int)) * ((Nm s u 1 0) * ((0 : Int) + (1 : Int) * ((Nm s u 0 1) * (1 : Int))))))) := rfl
set_option maxRecDepth 20000 in
set_option maxHeartbeats 4000000 in
theorem d2_sum (s : Nat) (u : Nat → Nat) : mnr (mxv s u 2 (fun c => decide (c = 2))) 3 3 0 0 = (1 : Int) * sm 2 (fun i => wgt s u 2 i * Nm s u i 0) := (q2_sum s u).trans (i2_sum (Nm s u 0 0) (Nm s u 0 1) (Nm s u 1 0) (Nm s u 1 1))
set_option maxRecDepth 20000 in
set_option maxHeartbeats 4000000 in
theorem i3_det (n00 n01 n02 n10 n11 n12 n20 n21 n22 : Int) : (((((0 : Int) + (1 : Int) * ((1 : Int) * ((((0 : Int) + (1 : Int) * (n10 * (((0 : Int) + (1 : Int) * (n21 * ((0 : Int) + (1 : Int) * ((-1 : Int) * (1 : Int))))) + (-(1 : Int)) * ((-1 : Int) * ((0 : Int) + (1 : Int) * (n22 * (1 : Int))))))) + (-(1 : Int)) * (n20 * (((0 : Int) + (1 : Int) * (n11 * ((0 : Int) + (1 : Int) * ((-1 : Int) * (1 : Int))))) + (-(1 : Int)) * ((-1 : Int) * ((0 : Int) + (1 : Int) * (n12 * (1 : Int))))))) + (-(-(1 : Int))) * ((-1 : Int) * (((0 : Int) + (1 : Int) * (n11 * ((0 : Int) + (1 : Int) * (n22 * (1 : Int))))) + (-(1 : Int)) * (n21 * ((0 : Int) + (1 : Int) * (n12 * (1 : Int))))))))) + (-(1 : Int)) * ((1 : Int) * ((((0 : Int) + (1 : Int) * (n00 * (((0 : Int) + (1 : Int) * (n21 * ((0 : Int) + (1 : Int) * ((-1 : Int) * (1 : Int))))) + (-(1 : Int)) * ((-1 : Int) * ((0 : Int) + (1 : Int) * (n22 * (1 : Int))))))) + (-(1 : Int)) * (n20 * (((0 : Int) + (1 : Int) * (n01 * ((0 : Int) + (1 : Int) * ((-1 : Int) * (1 : Int))))) + (-(1 : Int)) * ((-1 : Int) * ((0 : Int) + (1 : Int) * (n02 * (1 : Int))))))) + (-(-(1 : Int))) * ((-1 : Int) * (((0 : Int) + (1 : Int) * (n01 * ((0 : Int) + (1 : Int) * (n22 * (1 : Int))))) + (-(1 : Int)) * (n21 * ((0 : Int) + (1 : Int) * (n02 * (1 : Int))))))))) + (-(-(1 : Int))) * ((1 : Int) * ((((0 : Int) + (1 : Int) * (n00 * (((0 : Int) + (1 : Int) * (n11 * ((0 : Int) + (1 : Int) * ((-1 : Int) * (1 : Int))))) + (-(1 : Int)) * ((-1 : Int) * ((0 : Int) + (1 : Int) * (n12 * (1 : Int))))))) + (-(1 : Int)) * (n10 * (((0 : Int) + (1 : Int) * (n01 * ((0 : Int) + (1 : Int) * ((-1 : Int) * (1 : Int))))) + (-(1 : Int)) * ((-1 : Int) * ((0 : Int) + (1 : Int) * (n02 * (1 : Int))))))) + (-(-(1 : Int))) * ((-1 : Int) * (((0 : Int) + (1 : Int) * (n01 * ((0 : Int) + (1 : Int) * (n12 * (1 : Int))))) + (-(1 : Int)) * (n11 * ((0 : Int) + (1 : Int) * (n02 * (1 : Int))))))))) + (-(-(-(1 : Int)))) * ((0 : Int) * ((((0 : Int) + (1 : Int) * (n00 * (((0 : Int) + (1 : Int) * (n11 * ((0 : Int) + (1 : Int) * (n22 * (1 : Int))))) + (-(1 : Int)) * (n21 * ((0 : Int) + (1 : Int) * (n12 * (1 : Int))))))) + (-(1 : Int)) * (n10 * (((0 : Int) + (1 : Int) * (n01 * ((0 : Int) + (1 : Int) * (n22 * (1 : Int))))) + (-(1 : Int)) * (n21 * ((0 : Int) + (1 : Int) * (n02 * (1 : Int))))))) + (-(-(1 : Int))) * (n20 * (((0 : Int) + (1 : Int) * (n01 * ((0 : Int) + (1 : Int) * (n12 * (1 : Int))))) + (-(1 : Int)) * (n11 * ((0 : Int) + (1 : Int) * (n02 * (1 : Int))))))))) = (-1 : Int) * ((((0 : Int) + ((1 : Int) * (((0 : Int) + (1 : Int) * ((n11 - n10) * ((0 : Int) + (1 : Int) * ((n22 - n20) * (1 : Int))))) + (-(1 : Int)) * ((n21 - n20) * ((0 : Int) + (1 : Int) * ((n12 - n10) * (1 : Int))))))) + ((-1 : Int) * (((0 : Int) + (1 : Int) * ((n01 - n00) * ((0 : Int) + (1 : Int) * ((n22 - n20) * (1 : Int))))) + (-(1 : Int)) * ((n21 - n20) * ((0 : Int) + (1 : Int) * ((n02 - n00) * (1 : Int))))))) + ((1 : Int) * (((0 : Int) + (1 : Int) * ((n01 - n00) * ((0 : Int) + (1 : Int) * ((n12 - n10) * (1 : Int))))) + (-(1 : Int)) * ((n11 - n10) * ((0 : Int) + (1 : Int) * ((n02 - n00) * (1 : Int))))))) := by
  simp only [Int.mul_add, Int.add_mul, Int.sub_mul, Int.mul_sub, Int.neg_mul, Int.mul_neg, Int.one_mul, Int.mul_one, Int.zero_mul, Int.mul_zero, Int.zero_add, Int.add_zero, Int.neg_neg, Int.neg_zero, Int.sub_zero, Int.zero_sub, Int.mul_assoc, Int.mul_comm, Int.mul_left_comm]
  try omega
set_option maxRecDepth 20000 in
set_option maxHeartbeats 4000000 in
theorem q3_det (s : Nat) (u : Nat → Nat) : mnr (mxv s u 3 (fun _ => false)) 4 4 0 0 = (((((0 : Int) + (1 : Int) * ((1 : Int) * ((((0 : Int) + (1 : Int) * ((Nm s u 1 0) * (((0 : Int) + (1 : Int) * ((Nm s u 2 1) * ((0 : Int) + (1 : Int) * ((-1 : Int) * (1 : Int))))) + (-(1 : Int)) * ((-1 : Int) * ((0 : Int) + (1 : Int) * ((Nm s u 2 2) * (1 : Int))))))) + (-(1 : Int)) * ((Nm s u 2 0) * (((0 : Int) + (1 : Int) * ((Nm s u 1 1) * ((0 : Int) + (1 : Int) * ((-1 : Int) * (1 : Int))))) + (-(1 : Int)) * ((-1 : Int) * ((0 : Int) + (1 : Int) * ((Nm s u 1 2) * (1 : Int))))))) + (-(-(1 : Int))) * ((-1 : Int) * (((0 : Int) + (1 : Int) * ((Nm s u 1 1) * ((0 : Int) + (1 : Int) * ((Nm s u 2 2) * (1 : Int))))) + (-(1 : Int)) * ((Nm s u 2 1) * ((0 : Int) + (1 : Int) * ((Nm s u 1 2) * (1 : Int))))))))) + (-(1 : Int)) * ((1 : Int) * ((((0 : Int) + (1 : Int) * ((Nm s u 0 0) * (((0 : Int) + (1 : Int) * ((Nm s u 2 1) * ((0 : Int) + (1 : Int) * ((-1 : Int) * (1 : Int))))) + (-(1 : Int)) * ((-1 : Int) * ((0 : Int) + (1 : Int) * ((Nm s u 2 2) * (1 : Int))))))) + (-(1 : Int)) * ((Nm s u 2 0) * (((0 : Int) + (1 : Int) * ((Nm s u 0 1) * ((0 : Int) + (1 : Int) * ((-1 : Int) * (1 : Int))))) + (-(1 : Int)) * ((-1 : Int) * ((0 : Int) + (1 : Int) * ((Nm s u 0 2) * (1 : Int))))))) + (-(-(1 : Int))) * ((-1 : Int) * (((0 : Int) + (1 : Int) * ((Nm s u 0 1) * ((0 : Int) + (1 : Int) * ((Nm s u 2 2) * (1 : Int))))) + (-(1 : Int)) * ((Nm s u 2 1) * ((0 : Int) + (1 : Int) * ((Nm s u 0 2) * (1 : Int))))))))) + (-(-(1 : Int))) * ((1 : Int) * ((((0 : Int) + (1 : Int) * ((Nm s u 0 0) * (((0 : Int) + (1 : Int) * ((Nm s u 1 1) * ((0 : Int) + (1 : Int) * ((-1 : Int) * (1 : Int))))) + (-(1 : Int)) * ((-1 : Int) * ((0 : Int) + (1 : Int) * ((Nm s u 1 2) * (1 : Int))))))) + (-(1 : Int)) * ((Nm s u 1 0) * (((0 : Int) + (1 : Int) * ((Nm s u 0 1) * ((0 : Int) + (1 : Int) * ((-1 : Int) * (1 : Int))))) + (-(1 : Int)) * ((-1 : Int) * ((0 : Int) + (1 : Int) * ((Nm s u 0 2) * (1 : Int))))))) + (-(-(1 : Int))) * ((-1 : Int) * (((0 : Int) + (1 : Int) * ((Nm s u 0 1) * ((0 : Int) + (1 : Int) * ((Nm s u 1 2) * (1 : Int))))) + (-(1 : Int)) * ((Nm s u 1 1) * ((0 : Int) + (1 : Int) * ((Nm s u 0 2) * (1 : Int))))))))) + (-(-(-(1 : Int)))) * ((0 : Int) * ((((0 : Int) + (1 : Int) * ((Nm s u 0 0) * (((0 : Int) + (1 : Int) * ((Nm s u 1 1) * ((0 : Int) + (1 : Int) * ((Nm s u 2 2) * (1 : Int))))) + (-(1 : Int)) * ((Nm s u 2 1) * ((0 : Int) + (1 : Int) * ((Nm s u 1 2) * (1 : Int))))))) + (-(1 : Int)) * ((Nm s u 1 0) * (((0 : Int) + (1 : Int) * ((Nm s u 0 1) * ((0 : Int) + (1 : Int) * ((Nm s u 2 2) * (1 : Int))))) + (-(1 : Int)) * ((Nm s u 2 1) * ((0 : Int) + (1 : Int) * ((Nm s u 0 2) * (1 : Int))))))) + (-(-(1 : Int))) * ((Nm s u 2 0) * (((0 : Int) + (1 : Int) * ((Nm s u 0 1) * ((0 : Int) + (1 : Int) * ((Nm s u 1 2) * (1 : Int))))) + (-(1 : Int)) * ((Nm s u 1 1) * ((0 : Int) + (1 : Int) * ((Nm s u 0 2) * (1 : Int))))))))) := rfl
set_option maxRecDepth 20000 in
set_option maxHeartbeats 4000000 in
theorem d3_det (s : Nat) (u : Nat → Nat) : mnr (mxv s u 3 (fun _ => false)) 4 4 0 0 = (-1 : Int) * sm 3 (wgt s u 3) := (q3_det s u).trans (i3_det (Nm s u 0 0) (Nm s u 0 1) (Nm s u 0 2) (Nm s u 1 0) (Nm s u 1 1) (Nm s u 1 2) (Nm s u 2 0) (Nm s u 2 1) (Nm s u 2 2))
set_option maxRecDepth 20000 in
set_option maxHeartbeats 4000000 in
theorem i3_up0 (n00 n01 n02 n10 n11 n12 n20 n21 n22 : Int) : (((((0 : Int) + (1 : Int) * ((1 : Int) * ((((0 : Int) + (1 : Int) * (n10 * (((0 : Int) + (1 : Int) * (n21 * ((0 : Int) + (1 : Int) * ((-1 : Int) * (1 : Int))))) + (-(1 : Int)) * ((-1 : Int) * ((0 : Int) + (1 : Int) * (n22 * (1 : Int))))))) + (-(1 : Int)) * (n20 * (((0 : Int) + (1 : Int) * (n11 * ((0 : Int) + (1 : Int) * ((-1 : Int) * (1 : Int))))) + (-(1 : Int)) * ((-1 : Int) * ((0 : Int) + (1 : Int) * (n12 * (1 : Int))))))) + (-(-(1 : Int))) * ((-1 : Int) * (((0 : Int) + (1 : Int) * (n11 * ((0 : Int) + (1 : Int) * (n22 * (1 : Int))))) + (-(1 : Int)) * (n21 * ((0 : Int) + (1 : Int) * (n12 * (1 : Int))))))))) + (-(1 : Int)) * ((1 : Int) * ((((0 : Int) + (1 : Int) * ((0 : Int) * (((0 : Int) + (1 : Int) * (n21 * ((0 : Int) + (1 : Int) * ((-1 : Int) * (1 : Int))))) + (-(1 : Int)) * ((-1 : Int) * ((0 : Int) + (1 : Int) * (n22 * (1 : Int))))))) + (-(1 : Int)) * (n20 * (((0 : Int) + (1 : Int) * ((0 : Int) * ((0 : Int) + (1 : Int) * ((-1 : Int) * (1 : Int))))) + (-(1 : Int)) * ((-1 : Int) * ((0 : Int) + (1 : Int) * ((0 : Int) * (1 : Int))))))) + (-(-(1 : Int))) * ((-1 : Int) * (((0 : Int) + (1 : Int) * ((0 : Int) * ((0 : Int) + (1 : Int) * (n22 * (1 : Int))))) + (-(1 : Int)) * (n21 * ((0 : Int) + (1 : Int) * ((0 : Int) * (1 : Int))))))))) + (-(-(1 : Int))) * ((1 : Int) * ((((0 : Int) + (1 : Int) * ((0 : Int) * (((0 : Int) + (1 : Int) * (n11 * ((0 : Int) + (1 : Int) * ((-1 : Int) * (1 : Int))))) + (-(1 : Int)) * ((-1 : Int) * ((0 : Int) + (1 : Int) * (n12 * (1 : Int))))))) + (-(1 : Int)) * (n10 * (((0 : Int) + (1 : Int) * ((0 : Int) * ((0 : Int) + (1 : Int) * ((-1 : Int) * (1 : Int))))) + (-(1 : Int)) * ((-1 : Int) * ((0 : Int) + (1 : Int) * ((0 : Int) * (1 : Int))))))) + (-(-(1 : Int))) * ((-1 : Int) * (((0 : Int) + (1 : Int) * ((0 : Int) * ((0 : Int) + (1 : Int) * (n12 * (1 : Int))))) + (-(1 : Int)) * (n11 * ((0 : Int) + (1 : Int) * ((0 : Int) * (1 : Int))))))))) + (-(-(-(1 : Int)))) * ((0 : Int) * ((((0 : Int) + (1 : Int) * ((0 : Int) * (((0 : Int) + (1 : Int) * (n11 * ((0 : Int) + (1 : Int) * (n22 * (1 : Int))))) + (-(1 : Int)) * (n21 * ((0 : Int) + (1 : Int) * (n12 * (1 : Int))))))) + (-(1 : Int)) * (n10 * (((0 : Int) + (1 : Int) * ((0 : Int) * ((0 : Int) + (1 : Int) * (n22 * (1 : Int))))) + (-(1 : Int)) * (n21 * ((0 : Int) + (1 : Int) * ((0 : Int) * (1 : Int))))))) + (-(-(1 : Int))) * (n20 * (((0 : Int) + (1 : Int) * ((0 : Int) * ((0 : Int) + (1 : Int) * (n12 * (1 : Int))))) + (-(1 : Int)) * (n11 * ((0 : Int) + (1 : Int) * ((0 : Int) * (1 : Int))))))))) = (-1 : Int) * ((1 : Int) * (((0 : Int) + (1 : Int) * ((n11 - n10) * ((0 : Int) + (1 : Int) * ((n22 - n20) * (1 : Int))))) + (-(1 : Int)) * ((n21 - n20) * ((0 : Int) + (1 : Int) * ((n12 - n10) * (1 : Int)))))) := by
  simp only [Int.mul_add, Int.add_mul, Int.sub_mul, Int.mul_sub, Int.neg_mul, Int.mul_neg, Int.one_mul, Int.mul_one, Int.zero_mul, Int.mul_zero, Int.zero_add, Int.add_zero, Int.neg_neg, Int.neg_zero, Int.sub_zero, Int.zero_sub, Int.mul_assoc, Int.mul_comm, Int.mul_left_comm]
  try omega
set_option maxRecDepth 20000 in
set_option maxHeartbeats 4000000 in
theorem q3_up0 (s : Nat) (u : Nat → Nat) : mnr (mxv s u 3 (fun c => decide (c = 0))) 4 4 0 0 = (((((0 : Int) + (1 : Int) * ((1 : Int) * ((((0 : Int) + (1 : Int) * ((Nm s u 1 0) * (((0 : Int) + (1 : Int) * ((Nm s u 2 1) * ((0 : Int) + (1 : Int) * ((-1 : Int) * (1 : Int))))) + (-(1 : Int)) * ((-1 : Int) * ((0 : Int) + (1 : Int) * ((Nm s u 2 2) * (1 : Int))))))) + (-(1 : Int)) * ((Nm s u 2 0) * (((0 : Int) + (1 : Int) * ((Nm s u 1 1) * ((0 : Int) + (1 : Int) * ((-1 : Int) * (1 : Int))))) + (-(1 : Int)) * ((-1 : Int) * ((0 : Int) + (1 : Int) * ((Nm s u 1 2) * (1 : Int))))))) + (-(-(1 : Int))) * ((-1 : Int) * (((0 : Int) + (1 : Int) * ((Nm s u 1 1) * ((0 : Int) + (1 : Int) * ((Nm s u 2 2) * (1 : Int))))) + (-(1 : Int)) * ((Nm s u 2 1) * ((0 : Int) + (1 : Int) * ((Nm s u 1 2) * (1 : Int))))))))) + (-(1 : Int)) * ((1 : Int) * ((((0 : Int) + (1 : Int) * ((0 : Int) * (((0 : Int) + (1 : Int) * ((Nm s u 2 1) * ((0 : Int) + (1 : Int) * ((-1 : Int) * (1 : Int))))) + (-(1 : Int)) * ((-1 : Int) * ((0 : Int) + (1 : Int) * ((Nm s u 2 2) * (1 : Int))))))) + (-(1 : Int)) * ((Nm s u 2 0) * (((0 : Int) + (1 : Int) * ((0 : Int) * ((0 : Int) + (1 : Int) * ((-1 : Int) * (1 : Int))))) + (-(1 : Int)) * ((-1 : Int) * ((0 : Int) + (1 : Int) * ((0 : Int) * (1 : Int))))))) + (-(-(1 : Int))) * ((-1 : Int) * (((0 : Int) + (1 : Int) * ((0 : Int) * ((0 : Int) + (1 : Int) * ((Nm s u 2 2) * (1 : Int))))) + (-(1 : Int)) * ((Nm s u 2 1) * ((0 : Int) + (1 : Int) * ((0 : Int) * (1 : Int))))))))) + (-(-(1 : Int))) * ((1 : Int) * ((((0 : Int) + (1 : Int) * ((0 : Int) * (((0 : Int) + (1 : Int) * ((Nm s u 1 1) * ((0 : Int) + (1 : Int) * ((-1 : Int) * (1 : Int))))) + (-(1 : Int)) * ((-1 : Int) * ((0 : Int) + (1 : Int) * ((Nm s u 1 2) * (1 : Int))))))) + (-(1 : Int)) * ((Nm s u 1 0) * (((0 : Int) + (1 : Int) * ((0 : Int) * ((0 : Int) + (1 : Int) * ((-1 : Int) * (1 : Int))))) + (-(1 : Int)) * ((-1 : Int) * ((0 : Int) + (1 : Int) * ((0 : Int) * (1 : Int))))))) + (-(-(1 : Int))) * ((-1 : Int) * (((0 : Int) + (1 : Int) * ((0 : Int) * ((0 : Int) + (1 : Int) * ((Nm s u 1 2) * (1 : Int))))) + (-(1 : Int)) * ((Nm s u 1 1) * ((0 : Int) + (1 : Int) * ((0 : Int) * (1 : Int))))))))) + (-(-(-(1 : Int)))) * ((0 : Int) * ((((0 : Int) + (1 : Int) * ((0 : Int) * (((0 : Int) + (1 : Int) * ((Nm s u 1 1) * ((0 : Int) + (1 : Int) * ((Nm s u 2 2) * (1 : Int))))) + (-(1 : Int)) * ((Nm s u 2 1) * ((0 : Int) + (1 : Int) * ((Nm s u 1 2) * (1 : Int))))))) + (-(1 : Int)) * ((Nm s u 1 0) * (((0 : Int) + (1 : Int) * ((0 : Int) * ((0 : Int) + (1 : Int) * ((Nm s u 2 2) * (1 : Int))))) + (-(1 : Int)) * ((Nm s u 2 1) * ((0 : Int) + (1 : Int) * ((0 : Int) * (1 : Int))))))) + (-(-(1 : Int))) * ((Nm s u 2 0) * (((0 : Int) + (1 : Int) * ((0 : Int) * ((0 : Int) + (1 : Int) * ((Nm s u 1 2) * (1 : Int))))) + (-(1 : Int)) * ((Nm s u 1 1) * ((0 : Int) + (1 : Int) * ((0 : Int) * (1 : Int))))))))) := rfl
set_option maxRecDepth 20000 in
set_option maxHeartbeats 4000000 in
theorem d3_up0 (s : Nat) (u : Nat → Nat) : mnr (mxv s u 3 (fun c => decide (c = 0))) 4 4 0 0 = (-1 : Int) * wgt s u 3 0 := (q3_up0 s u).trans (i3_up0 (Nm s u 0 0) (Nm s u 0 1) (Nm s u 0 2) (Nm s u 1 0) (Nm s u 1 1) (Nm s u 1 2) (Nm s u 2 0) (Nm s u 2 1) (Nm s u 2 2))
set_option maxRecDepth 20000 in
set_option maxHeartbeats 4000000 in
theorem i3_up1 (n00 n01 n02 n10 n11 n12 n20 n21 n22 : Int) : (((((0 : Int) + (1 : Int) * ((1 : Int) * ((((0 : Int) + (1 : Int) * ((0 : Int) * (((0 : Int) + (1 : Int) * (n21 * ((0 : Int) + (1 : Int) * ((-1 : Int) * (1 : Int))))) + (-(1 : Int)) * ((-1 : Int) * ((0 : Int) + (1 : Int) * (n22 * (1 : Int))))))) + (-(1 : Int)) * (n20 * (((0 : Int) + (1 : Int) * ((0 : Int) * ((0 : Int) + (1 : Int) * ((-1 : Int) * (1 : Int))))) + (-(1 : Int)) * ((-1 : Int) * ((0 : Int) + (1 : Int) * ((0 : Int) * (1 : Int))))))) + (-(-(1 : Int))) * ((-1 : Int) * (((0 : Int) + (1 : Int) * ((0 : Int) * ((0 : Int) + (1 : Int) * (n22 * (1 : Int))))) + (-(1 : Int)) * (n21 * ((0 : Int) + (1 : Int) * ((0 : Int) * (1 : Int))))))))) + (-(1 : Int)) * ((1 : Int) * ((((0 : Int) + (1 : Int) * (n00 * (((0 : Int) + (1 : Int) * (n21 * ((0 : Int) + (1 : Int) * ((-1 : Int) * (1 : Int))))) + (-(1 : Int)) * ((-1 : Int) * ((0 : Int) + (1 : Int) * (n22 * (1 : Int))))))) + (-(1 : Int)) * (n20 * (((0 : Int) + (1 : Int) * (n01 * ((0 : Int) + (1 : Int) * ((-1 : Int) * (1 : Int))))) + (-(1 : Int)) * ((-1 : Int) * ((0 : Int) + (1 : Int) * (n02 * (1 : Int))))))) + (-(-(1 : Int))) * ((-1 : Int) * (((0 : Int) + (1 : Int) * (n01 * ((0 : Int) + (1 : Int) * (n22 * (1 : Int))))) + (-(1 : Int)) * (n21 * ((0 : Int) + (1 : Int) * (n02 * (1 : Int))))))))) + (-(-(1 : Int))) * ((1 : Int) * ((((0 : Int) + (1 : Int) * (n00 * (((0 : Int) + (1 : Int) * ((0 : Int) * ((0 : Int) + (1 : Int) * ((-1 : Int) * (1 : Int))))) + (-(1 : Int)) * ((-1 : Int) * ((0 : Int) + (1 : Int) * ((0 : Int) * (1 : Int))))))) + (-(1 : Int)) * ((0 : Int) * (((0 : Int) + (1 : Int) * (n01 * ((0 : Int) + (1 : Int) * ((-1 : Int) * (1 : Int))))) + (-(1 : Int)) * ((-1 : Int) * ((0 : Int) + (1 : Int) * (n02 * (1 : Int))))))) + (-(-(1 : Int))) * ((-1 : Int) * (((0 : Int) + (1 : Int) * (n01 * ((0 : Int) + (1 : Int) * ((0 : Int) * (1 : Int))))) + (-(1 : Int)) * ((0 : Int) * ((0 : Int) + (1 : Int) * (n02 * (1 : Int))))))))) + (-(-(-(1 : Int)))) * ((0 : Int) * ((((0 : Int) + (1 : Int) * (n00 * (((0 : Int) + (1 : Int) * ((0 : Int) * ((0 : Int) + (1 : Int) * (n22 * (1 : Int))))) + (-(1 : Int)) * (n21 * ((0 : Int) + (1 : Int) * ((0 : Int) * (1 : Int))))))) + (-(1 : Int)) * ((0 : Int) * (((0 : Int) + (1 : Int) * (n01 * ((0 : Int) + (1 : Int) * (n22 * (1 : Int))))) + (-(1 : Int)) * (n21 * ((0 : Int) + (1 : Int) * (n02 * (1 : Int))))))) + (-(-(1 : Int))) * (n20 * (((0 : Int) + (1 : Int) * (n01 * ((0 : Int) + (1 : Int) * ((0 : Int) * (1 : Int))))) + (-(1 : Int)) * ((0 : Int) * ((0 : Int) + (1 : Int) * (n02 * (1 : Int))))))))) = (-1 : Int) * ((-1 : Int) * (((0 : Int) + (1 : Int) * ((n01 - n00) * ((0 : Int) + (1 : Int) * ((n22 - n20) * (1 : Int))))) + (-(1 : Int)) * ((n21 - n20) * ((0 : Int) + (1 : Int) * ((n02 - n00) * (1 : Int)))))) := by
  simp only [Int.mul_add, Int.add_mul, Int.sub_mul, Int.mul_sub, Int.neg_mul, Int.mul_neg, Int.one_mul, Int.mul_one, Int.zero_mul, Int.mul_zero, Int.zero_add, Int.add_zero, Int.neg_neg, Int.neg_zero, Int.sub_zero, Int.zero_sub, Int.mul_assoc, Int.mul_comm, Int.mul_left_comm]
  try omega
set_option maxRecDepth 20000 in
set_option maxHeartbeats 4000000 in
theorem q3_up1 (s : Nat) (u : Nat → Nat) : mnr (mxv s u 3 (fun c => decide (c = 1))) 4 4 0 0 = (((((0 : Int) + (1 : Int) * ((1 : Int) * ((((0 : Int) + (1 : Int) * ((0 : Int) * (((0 : Int) + (1 : Int) * ((Nm s u 2 1) * ((0 : Int) + (1 : Int) * ((-1 : Int) * (1 : Int))))) + (-(1 : Int)) * ((-1 : Int) * ((0 : Int) + (1 : Int) * ((Nm s u 2 2) * (1 : Int))))))) + (-(1 : Int)) * ((Nm s u 2 0) * (((0 : Int) + (1 : Int) * ((0 : Int) * ((0 : Int) + (1 : Int) * ((-1 : Int) * (1 : Int))))) + (-(1 : Int)) * ((-1 : Int) * ((0 : Int) + (1 : Int) * ((0 : Int) * (1 : Int))))))) + (-(-(1 : Int))) * ((-1 : Int) * (((0 : Int) + (1 : Int) * ((0 : Int) * ((0 : Int) + (1 : Int) * ((Nm s u 2 2) * (1 : Int))))) + (-(1 : Int)) * ((Nm s u 2 1) * ((0 : Int) + (1 : Int) * ((0 : Int) * (1 : Int))))))))) + (-(1 : Int)) * ((1 : Int) * ((((0 : Int) + (1 : Int) * ((Nm s u 0 0) * (((0 : Int) + (1 : Int) * ((Nm s u 2 1) * ((0 : Int) + (1 : Int) * ((-1 : Int) * (1 : Int))))) + (-(1 : Int)) * ((-1 : Int) * ((0 : Int) + (1 : Int) * ((Nm s u 2 2) * (1 : Int))))))) + (-(1 : Int)) * ((Nm s u 2 0) * (((0 : Int) + (1 : Int) * ((Nm s u 0 1) * ((0 : Int) + (1 : Int) * ((-1 : Int) * (1 : Int))))) + (-(1 : Int)) * ((-1 : Int) * ((0 : Int) + (1 : Int) * ((Nm s u 0 2) * (1 : Int))))))) + (-(-(1 : Int))) * ((-1 : Int) * (((0 : Int) + (1 : Int) * ((Nm s u 0 1) * ((0 : Int) + (1 : Int) * ((Nm s u 2 2) * (1 : Int))))) + (-(1 : Int)) * ((Nm s u 2 1) * ((0 : Int) + (1 : Int) * ((Nm s u 0 2) * (1 : Int))))))))) + (-(-(1 : Int))) * ((1 : Int) * ((((0 : Int) + (1 : Int) * ((Nm s u 0 0) * (((0 : Int) + (1 : Int) * ((0 : Int) * ((0 : Int) + (1 : Int) * ((-1 : Int) * (1 : Int))))) + (-(1 : Int)) * ((-1 : Int) * ((0 : Int) + (1 : Int) * ((0 : Int) * (1 : Int))))))) + (-(1 : Int)) * ((0 : Int) * (((0 : Int) + (1 : Int) * ((Nm s u 0 1) * ((0 : Int) + (1 : Int) * ((-1 : Int) * (1 : Int))))) + (-(1 : Int)) * ((-1 : Int) * ((0 : Int) + (1 : Int) * ((Nm s u 0 2) * (1 : Int))))))) + (-(-(1 : Int))) * ((-1 : Int) * (((0 : Int) + (1 : Int) * ((Nm s u 0 1) * ((0 : Int) + (1 : Int) * ((0 : Int) * (1 : Int))))) + (-(1 : Int)) * ((0 : Int) * ((0 : Int) + (1 : Int) * ((Nm s u 0 2) * (1 : Int))))))))) + (-(-(-(1 : Int)))) * ((0 : Int) * ((((0 : Int) + (1 : Int) * ((Nm s u 0 0) * (((0 : Int) + (1 : Int) * ((0 : Int) * ((0 : Int) + (1 : Int) * ((Nm s u 2 2) * (1 : Int))))) + (-(1 : Int)) * ((Nm s u 2 1) * ((0 : Int) + (1 : Int) * ((0 : Int) * (1 : Int))))))) + (-(1 : Int)) * ((0 : Int) * (((0 : Int) + (1 : Int) * ((Nm s u 0 1) * ((0 : Int) + (1 : Int) * ((Nm s u 2 2) * (1 : Int))))) + (-(1 : Int)) * ((Nm s u 2 1) * ((0 : Int) + (1 : Int) * ((Nm s u 0 2) * (1 : Int))))))) + (-(-(1 : Int))) * ((Nm s u 2 0) * (((0 : Int) + (1 : Int) * ((Nm s u 0 1) * ((0 : Int) + (1 : Int) * ((0 : Int) * (1 : Int))))) + (-(1 : Int)) * ((0 : Int) * ((0 : Int) + (1 : Int) * ((Nm s u 0 2) * (1 : Int))))))))) := rfl
set_option maxRecDepth 20000 in
set_option maxHeartbeats 4000000 in
theorem d3_up1 (s : Nat) (u : Nat → Nat) : mnr (mxv s u 3 (fun c => decide (c = 1))) 4 4 0 0 = (-1 : Int) * wgt s u 3 1 := (q3_up1 s u).trans (i3_up1 (Nm s u 0 0) (Nm s u 0 1) (Nm s u 0 2) (Nm s u 1 0) (Nm s u 1 1) (Nm s u 1 2) (Nm s u 2 0) (Nm s u 2 1) (Nm s u 2 2))
set_option maxRecDepth 20000 in
set_option maxHeartbeats 4000000 in
theorem i3_up2 (n00 n01 n02 n10 n11 n12 n20 n21 n22 : Int) : (((((0 : Int) + (1 : Int) * ((1 : Int) * ((((0 : Int) + (1 : Int) * (n10 * (((0 : Int) + (1 : Int) * ((0 : Int) * ((0 : Int) + (1 : Int) * ((-1 : Int) * (1 : Int))))) + (-(1 : Int)) * ((-1 : Int) * ((0 : Int) + (1 : Int) * ((0 : Int) * (1 : Int))))))) + (-(1 : Int)) * ((0 : Int) * (((0 : Int) + (1 : Int) * (n11 * ((0 : Int) + (1 : Int) * ((-1 : Int) * (1 : Int))))) + (-(1 : Int)) * ((-1 : Int) * ((0 : Int) + (1 : Int) * (n12 * (1 : Int))))))) + (-(-(1 : Int))) * ((-1 : Int) * (((0 : Int) + (1 : Int) * (n11 * ((0 : Int) + (1 : Int) * ((0 : Int) * (1 : Int))))) + (-(1 : Int)) * ((0 : Int) * ((0 : Int) + (1 : Int) * (n12 * (1 : Int))))))))) + (-(1 : Int)) * ((1 : Int) * ((((0 : Int) + (1 : Int) * (n00 * (((0 : Int) + (1 : Int) * ((0 : Int) * ((0 : Int) + (1 : Int) * ((-1 : Int) * (1 : Int))))) + (-(1 : Int)) * ((-1 : Int) * ((0 : Int) + (1 : Int) * ((0 : Int) * (1 : Int))))))) + (-(1 : Int)) * ((0 : Int) * (((0 : Int) + (1 : Int) * (n01 * ((0 : Int) + (1 : Int) * ((-1 : Int) * (1 : Int))))) + (-(1 : Int)) * ((-1 : Int) * ((0 : Int) + (1 : Int) * (n02 * (1 : Int))))))) + (-(-(1 : Int))) * ((-1 : Int) * (((0 : Int) + (1 : Int) * (n01 * ((0 : Int) + (1 : Int) * ((0 : Int) * (1 : Int))))) + (-(1 : Int)) * ((0 : Int) * ((0 : Int) + (1 : Int) * (n02 * (1 : Int))))))))) + (-(-(1 : Int))) * ((1 : Int) * ((((0 : Int) + (1 : Int) * (n00 * (((0 : Int) + (1 : Int) * (n11 * ((0 : Int) + (1 : Int) * ((-1 : Int) * (1 : Int))))) + (-(1 : Int)) * ((-1 : Int) * ((0 : Int) + (1 : Int) * (n12 * (1 : Int))))))) + (-(1 : Int)) * (n10 * (((0 : Int) + (1 : Int) * (n01 * ((0 : Int) + (1 : Int) * ((-1 : Int) * (1 : Int))))) + (-(1 : Int)) * ((-1 : Int) * ((0 : Int) + (1 : Int) * (n02 * (1 : Int))))))) + (-(-(1 : Int))) * ((-1 : Int) * (((0 : Int) + (1 : Int) * (n01 * ((0 : Int) + (1 : Int) * (n12 * (1 : Int))))) + (-(1 : Int)) * (n11 * ((0 : Int) + (1 : Int) * (n02 * (1 : Int))))))))) + (-(-(-(1 : Int)))) * ((0 : Int) * ((((0 : Int) + (1 : Int) * (n00 * (((0 : Int) + (1 : Int) * (n11 * ((0 : Int) + (1 : Int) * ((0 : Int) * (1 : Int))))) + (-(1 : Int)) * ((0 : Int) * ((0 : Int) + (1 : Int) * (n12 * (1 : Int))))))) + (-(1 : Int)) * (n10 * (((0 : Int) + (1 : Int) * (n01 * ((0 : Int) + (1 : Int) * ((0 : Int) * (1 : Int))))) + (-(1 : Int)) * ((0 : Int) * ((0 : Int) + (1 : Int) * (n02 * (1 : Int))))))) + (-(-(1 : Int))) * ((0 : Int) * (((0 : Int) + (1 : Int) * (n01 * ((0 : Int) + (1 : Int) * (n12 * (1 : Int))))) + (-(1 : Int)) * (n11 * ((0 : Int) + (1 : Int) * (n02 * (1 : Int))))))))) = (-1 : Int) * ((1 : Int) * (((0 : Int) + (1 : Int) * ((n01 - n00) * ((0 : Int) + (1 : Int) * ((n12 - n10) * (1 : Int))))) + (-(1 : Int)) * ((n11 - n10) * ((0 : Int) + (1 : Int) * ((n02 - n00) * (1 : Int)))))) := by
  simp only [Int.mul_add, Int.add_mul, Int.sub_mul, Int.mul_sub, Int.neg_mul, Int.mul_neg, Int.one_mul, Int.mul_one, Int.zero_mul, Int.mul_zero, Int.zero_add, Int.add_zero, Int.neg_neg, Int.neg_zero, Int.sub_zero, Int.zero_sub, Int.mul_assoc, Int.mul_comm, Int.mul_left_comm]
  try omega
set_option maxRecDepth 20000 in
set_option maxHeartbeats 4000000 in
theorem q3_up2 (s : Nat) (u : Nat → Nat) : mnr (mxv s u 3 (fun c => decide (c = 2))) 4 4 0 0 = (((((0 : Int) + (1 : Int) * ((1 : Int) * ((((0 : Int) + (1 : Int) * ((Nm s u 1 0) * (((0 : Int) + (1 : Int) * ((0 : Int) * ((0 : Int) + (1 : Int) * ((-1 : Int) * (1 : Int))))) + (-(1 : Int)) * ((-1 : Int) * ((0 : Int) + (1 : Int) * ((0 : Int) * (1 : Int))))))) + (-(1 : Int)) * ((0 : Int) * (((0 : Int) + (1 : Int) * ((Nm s u 1 1) * ((0 : Int) + (1 : Int) * ((-1 : Int) * (1 : Int))))) + (-(1 : Int)) * ((-1 : Int) * ((0 : Int) + (1 : Int) * ((Nm s u 1 2) * (1 : Int))))))) + (-(-(1 : Int))) * ((-1 : Int) * (((0 : Int) + (1 : Int) * ((Nm s u 1 1) * ((0 : Int) + (1 : Int) * ((0 : Int) * (1 : Int))))) + (-(1 : Int)) * ((0 : Int) * ((0 : Int) + (1 : Int) * ((Nm s u 1 2) * (1 : Int))))))))) + (-(1 : Int)) * ((1 : Int) * ((((0 : Int) + (1 : Int) * ((Nm s u 0 0) * (((0 : Int) + (1 : Int) * ((0 : Int) * ((0 : Int) + (1 : Int) * ((-1 : Int) * (1 : Int))))) + (-(1 : Int)) * ((-1 : Int) * ((0 : Int) + (1 : Int) * ((0 : Int) * (1 : Int))))))) + (-(1 : Int)) * ((0 : Int) * (((0 : Int) + (1 : Int) * ((Nm s u 0 1) * ((0 : Int) + (1 : Int) * ((-1 : Int) * (1 : Int))))) + (-(1 : Int)) * ((-1 : Int) * ((0 : Int) + (1 : Int) * ((Nm s u 0 2) * (1 : Int))))))) + (-(-(1 : Int))) * ((-1 : Int) * (((0 : Int) + (1 : Int) * ((Nm s u 0 1) * ((0 : Int) + (1 : Int) * ((0 : Int) * (1 : Int))))) + (-(1 : Int)) * ((0 : Int) * ((0 : Int) + (1 : Int) * ((Nm s u 0 2) * (1 : Int))))))))) + (-(-(1 : Int))) * ((1 : Int) * ((((0 : Int) + (1 : Int) * ((Nm s u 0 0) * (((0 : Int) + (1 : Int) * ((Nm s u 1 1) * ((0 : Int) + (1 : Int) * ((-1 : Int) * (1 : Int))))) + (-(1 : Int)) * ((-1 : Int) * ((0 : Int) + (1 : Int) * ((Nm s u 1 2) * (1 : Int))))))) + (-(1 : Int)) * ((Nm s u 1 0) * (((0 : Int) + (1 : Int) * ((Nm s u 0 1) * ((0 : Int) + (1 : Int) * ((-1 : Int) * (1 : Int))))) + (-(1 : Int)) * ((-1 : Int) * ((0 : Int) + (1 : Int) * ((Nm s u 0 2) * (1 : Int))))))) + (-(-(1 : Int))) * ((-1 : Int) * (((0 : Int) + (1 : Int) * ((Nm s u 0 1) * ((0 : Int) + (1 : Int) * ((Nm s u 1 2) * (1 : Int))))) + (-(1 : Int)) * ((Nm s u 1 1) * ((0 : Int) + (1 : Int) * ((Nm s u 0 2) * (1 : Int))))))))) + (-(-(-(1 : Int)))) * ((0 : Int) * ((((0 : Int) + (1 : Int) * ((Nm s u 0 0) * (((0 : Int) + (1 : Int) * ((Nm s u 1 1) * ((0 : Int) + (1 : Int) * ((0 : Int) * (1 : Int))))) + (-(1 : Int)) * ((0 : Int) * ((0 : Int) + (1 : Int) * ((Nm s u 1 2) * (1 : Int))))))) + (-(1 : Int)) * ((Nm s u 1 0) * (((0 : Int) + (1 : Int) * ((Nm s u 0 1) * ((0 : Int) + (1 : Int) * ((0 : Int) * (1 : Int))))) + (-(1 : Int)) * ((0 : Int) * ((0 : Int) + (1 : Int) * ((Nm s u 0 2) * (1 : Int))))))) + (-(-(1 : Int))) * ((0 : Int) * (((0 : Int) + (1 : Int) * ((Nm s u 0 1) * ((0 : Int) + (1 : Int) * ((Nm s u 1 2) * (1 : Int))))) + (-(1 : Int)) * ((Nm s u 1 1) * ((0 : Int) + (1 : Int) * ((Nm s u 0 2) * (1 : Int))))))))) := rfl
set_option maxRecDepth 20000 in
set_option maxHeartbeats 4000000 in
theorem d3_up2 (s : Nat) (u : Nat → Nat) : mnr (mxv s u 3 (fun c => decide (c = 2))) 4 4 0 0 = (-1 : Int) * wgt s u 3 2 := (q3_up2 s u).trans (i3_up2 (Nm s u 0 0) (Nm s u 0 1) (Nm s u 0 2) (Nm s u 1 0) (Nm s u 1 1) (Nm s u 1 2) (Nm s u 2 0) (Nm s u 2 1) (Nm s u 2 2))
set_option maxRecDepth 20000 in
set_option maxHeartbeats 4000000 in
theorem i3_sum (n00 n01 n02 n10 n11 n12 n20 n21 n22 : Int) : (((((0 : Int) + (1 : Int) * ((1 : Int) * ((((0 : Int) + (1 : Int) * (n10 * (((0 : Int) + (1 : Int) * (n21 * ((0 : Int) + (1 : Int) * ((0 : Int) * (1 : Int))))) + (-(1 : Int)) * ((0 : Int) * ((0 : Int) + (1 : Int) * (n22 * (1 : Int))))))) + (-(1 : Int)) * (n20 * (((0 : Int) + (1 : Int) * (n11 * ((0 : Int) + (1 : Int) * ((0 : Int) * (1 : Int))))) + (-(1 : Int)) * ((0 : Int) * ((0 : Int) + (1 : Int) * (n12 * (1 : Int))))))) + (-(-(1 : Int))) * ((0 : Int) * (((0 : Int) + (1 : Int) * (n11 * ((0 : Int) + (1 : Int) * (n22 * (1 : Int))))) + (-(1 : Int)) * (n21 * ((0 : Int) + (1 : Int) * (n12 * (1 : Int))))))))) + (-(1 : Int)) * ((1 : Int) * ((((0 : Int) + (1 : Int) * (n00 * (((0 : Int) + (1 : Int) * (n21 * ((0 : Int) + (1 : Int) * ((0 : Int) * (1 : Int))))) + (-(1 : Int)) * ((0 : Int) * ((0 : Int) + (1 : Int) * (n22 * (1 : Int))))))) + (-(1 : Int)) * (n20 * (((0 : Int) + (1 : Int) * (n01 * ((0 : Int) + (1 : Int) * ((0 : Int) * (1 : Int))))) + (-(1 : Int)) * ((0 : Int) * ((0 : Int) + (1 : Int) * (n02 * (1 : Int))))))) + (-(-(1 : Int))) * ((0 : Int) * (((0 : Int) + (1 : Int) * (n01 * ((0 : Int) + (1 : Int) * (n22 * (1 : Int))))) + (-(1 : Int)) * (n21 * ((0 : Int) + (1 : Int) * (n02 * (1 : Int))))))))) + (-(-(1 : Int))) * ((1 : Int) * ((((0 : Int) + (1 : Int) * (n00 * (((0 : Int) + (1 : Int) * (n11 * ((0 : Int) + (1 : Int) * ((0 : Int) * (1 : Int))))) + (-(1 : Int)) * ((0 : Int) * ((0 : Int) + (1 : Int) * (n12 * (1 : Int))))))) + (-(1 : Int)) * (n10 * (((0 : Int) + (1 : Int) * (n01 * ((0 : Int) + (1 : Int) * ((0 : Int) * (1 : Int))))) + (-(1 : Int)) * ((0 : Int) * ((0 : Int) + (1 : Int) * (n02 * (1 : Int))))))) + (-(-(1 : Int))) * ((0 : Int) * (((0 : Int) + (1 : Int) * (n01 * ((0 : Int) + (1 : Int) * (n12 * (1 : Int))))) + (-(1 : Int)) * (n11 * ((0 : Int) + (1 : Int) * (n02 * (1 : Int))))))))) + (-(-(-(1 : Int)))) * ((1 : Int) * ((((0 : Int) + (1 : Int) * (n00 * (((0 : Int) + (1 : Int) * (n11 * ((0 : Int) + (1 : Int) * (n22 * (1 : Int))))) + (-(1 : Int)) * (n21 * ((0 : Int) + (1 : Int) * (n12 * (1 : Int))))))) + (-(1 : Int)) * (n10 * (((0 : Int) + (1 : Int) * (n01 * ((0 : Int) + (1 : Int) * (n22 * (1 : Int))))) + (-(1 : Int)) * (n21 * ((0 : Int) + (1 : Int) * (n02 * (1 : Int))))))) + (-(-(1 : Int))) * (n20 * (((0 : Int) + (1 : Int) * (n01 * ((0 : Int) + (1 : Int) * (n12 * (1 : Int))))) + (-(1 : Int)) * (n11 * ((0 : Int) + (1 : Int) * (n02 * (1 : Int))))))))) = (-1 : Int) * ((((0 : Int) + (((1 : Int) * (((0 : Int) + (1 : Int) * ((n11 - n10) * ((0 : Int) + (1 : Int) * ((n22 - n20) * (1 : Int))))) + (-(1 : Int)) * ((n21 - n20) * ((0 : Int) + (1 : Int) * ((n12 - n10) * (1 : Int)))))) * n00)) + (((-1 : Int) * (((0 : Int) + (1 : Int) * ((n01 - n00) * ((0 : Int) + (1 : Int) * ((n22 - n20) * (1 : Int))))) + (-(1 : Int)) * ((n21 - n20) * ((0 : Int) + (1 : Int) * ((n02 - n00) * (1 : Int)))))) * n10)) + (((1 : Int) * (((0 : Int) + (1 : Int) * ((n01 - n00) * ((0 : Int) + (1 : Int) * ((n12 - n10) * (1 : Int))))) + (-(1 : Int)) * ((n11 - n10) * ((0 : Int) + (1 : Int) * ((n02 - n00) * (1 : Int)))))) * n20)) := by
  simp only [Int.mul_add, Int.add_mul, Int.sub_mul, Int.mul_sub, Int.neg_mul, Int.mul_neg, Int.one_mul, Int.mul_one, Int.zero_mul, Int.mul_zero, Int.zero_add, Int.add_zero, Int.neg_neg, Int.neg_zero, Int.sub_zero, Int.zero_sub, Int.mul_assoc, Int.mul_comm, Int.mul_left_comm]
  try omega
set_option maxRecDepth 20000 in
set_option maxHeartbeats 4000000 in
theorem q3_sum (s : Nat) (u : Nat → Nat) : mnr (mxv s u 3 (fun c => decide (c = 3))) 4 4 0 0 = (((((0 : Int) + (1 : Int) * ((1 : Int) * ((((0 : Int) + (1 : Int) * ((Nm s u 1 0) * (((0 : Int) + (1 : Int) * ((Nm s u 2 1) * ((0 : Int) + (1 : Int) * ((0 : Int) * (1 : Int))))) + (-(1 : Int)) * ((0 : Int) * ((0 : Int) + (1 : Int) * ((Nm s u 2 2) * (1 : Int))))))) + (-(1 : Int)) * ((Nm s u 2 0) * (((0 : Int) + (1 : Int) * ((Nm s u 1 1) * ((0 : Int) + (1 : Int) * ((0 : Int) * (1 : Int))))) + (-(1 : Int)) * ((0 : Int) * ((0 : Int) + (1 : Int) * ((Nm s u 1 2) * (1 : Int))))))) + (-(-(1 : Int))) * ((0 : Int) * (((0 : Int) + (1 : Int) * ((Nm s u 1 1) * ((0 : Int) + (1 : Int) * ((Nm s u 2 2) * (1 : Int))))) + (-(1 : Int)) * ((Nm s u 2 1) * ((0 : Int) + (1 : Int) * ((Nm s u 1 2) * (1 : Int))))))))) + (-(1 : Int)) * ((1 : Int) * ((((0 : Int) + (1 : Int) * ((Nm s u 0 0) * (((0 : Int) + (1 : Int) * ((Nm s u 2 1) * ((0 : Int) + (1 : Int) * ((0 : Int) * (1 : Int))))) + (-(1 : Int)) * ((0 : Int) * ((0 : Int) + (1 : Int) * ((Nm s u 2 2) * (1 : Int))))))) + (-(1 : Int)) * ((Nm s u 2 0) * (((0 : Int) + (1 : Int) * ((Nm s u 0 1) * ((0 : Int) + (1 : Int) * ((0 : Int) * (1 : Int))))) + (-(1 : Int)) * ((0 : Int) * ((0 : Int) + (1 : Int) * ((Nm s u 0 2) * (1 : Int))))))) + (-(-(1 : Int))) * ((0 : Int) * (((0 : Int) + (1 : Int) * ((Nm s u 0 1) * ((0 : Int) + (1 : Int) * ((Nm s u 2 2) * (1 : Int))))) + (-(1 : Int)) * ((Nm s u 2 1) * ((0 : Int) + (1 : Int) * ((Nm s u 0 2) * (1 : Int))))))))) + (-(-(1 : Int))) * ((1 : Int) * ((((0 : Int) + (1 : Int) * ((Nm s u 0 0) * (((0 : Int) + (1 : Int) * ((Nm s u 1 1) * ((0 : Int) + (1 : Int) * ((0 : Int) * (1 : Int))))) + (-(1 : Int)) * ((0 : Int) * ((0 : Int) + (1 : Int) * ((Nm s u 1 2) * (1 : Int))))))) + (-(1 : Int)) * ((Nm s u 1 0) * (((0 : Int) + (1 : Int) * ((Nm s u 0 1) * ((0 : Int) + (1 : Int) * ((0 : Int) * (1 : Int))))) + (-(1 : Int)) * ((0 : Int) * ((0 : Int) + (1 : Int) * ((Nm s u 0 2) * (1 : Int))))))) + (-(-(1 : Int))) * ((0 : Int) * (((0 : Int) + (1 : Int) * ((Nm s u 0 1) * ((0 : Int) + (1 : Int) * ((Nm s u 1 2) * (1 : Int))))) + (-(1 : Int)) * ((Nm s u 1 1) * ((0 : Int) + (1 : Int) * ((Nm s u 0 2) * (1 : Int))))))))) + (-(-(-(1 : Int)))) * ((1 : Int) * ((((0 : Int) + (1 : Int) * ((Nm s u 0 0) * (((0 : Int) + (1 : Int) * ((Nm s u 1 1) * ((0 : Int) + (1 : Int) * ((Nm s u 2 2) * (1 : Int))))) + (-(1 : Int)) * ((Nm s u 2 1) * ((0 : Int) + (1 : Int) * ((Nm s u 1 2) * (1 : Int))))))) + (-(1 : Int)) * ((Nm s u 1 0) * (((0 : Int) + (1 : Int) * ((Nm s u 0 1) * ((0 : Int) + (1 : Int) * ((Nm s u 2 2) * (1 : Int))))) + (-(1 : Int)) * ((Nm s u 2 1) * ((0 : Int) + (1 : Int) * ((Nm s u 0 2) * (1 : Int))))))) + (-(-(1 : Int))) * ((Nm s u 2 0) * (((0 : Int) + (1 : Int) * ((Nm s u 0 1) * ((0 : Int) + (1 : Int) * ((Nm s u 1 2) * (1 : Int))))) + (-(1 : Int)) * ((Nm s u 1 1) * ((0 : Int) + (1 : Int) * ((Nm s u 0 2) * (1 : Int))))))))) := rfl
set_option maxRecDepth 20000 in
set_option maxHeartbeats 4000000 in
theorem d3_sum (s : Nat) (u : Nat → Nat) : mnr (mxv s u 3 (fun c => decide (c = 3))) 4 4 0 0 = (-1 : Int) * sm 3 (fun i => wgt s u 3 i * Nm s u i 0) := (q3_sum s u).trans (i3_sum (Nm s u 0 0) (Nm s u 0 1) (Nm s u 0 2) (Nm s u 1 0) (Nm s u 1 1) (Nm s u 1 2) (Nm s u 2 0) (Nm s u 2 1) (Nm s u 2 2))
set_option maxRecDepth 20000 in
set_option maxHeartbeats 4000000 in
theorem i4_det (n00 n01 n02 n03 n10 n11 n12 n13 n20 n21 n22 n23 n30 n31 n32 n33 : Int) : ((((((0 : Int) + (1 : Int) * ((1 : Int) * (((((0 : Int) + (1 : Int) * (n10 * ((((0 : Int) + (1 : Int) * (n21 * (((0 : Int) + (1 : Int) * (n32 * ((0 : Int) + (1 : Int) * ((-1 : Int) * (1 : Int))))) + (-(1 : Int)) * ((-1 : Int) * ((0 : Int) + (1 : Int) * (n33 * (1 : Int))))))) + (-(1 : Int)) * (n31 * (((0 : Int) + (1 : Int) * (n22 * ((0 : Int) + (1 : Int) * ((-1 : Int) * (1 : Int))))) + (-(1 : Int)) * ((-1 : Int) * ((0 : Int) + (1 : Int) * (n23 * (1 : Int))))))) + (-(-(1 : Int))) * ((-1 : Int) * (((0 : Int) + (1 : Int) * (n22 * ((0 : Int) + (1 : Int) * (n33 * (1 : Int))))) + (-(1 : Int)) * (n32 * ((0 : Int) + (1 : Int) * (n23 * (1 : Int))))))))) + (-(1 : Int)) * (n20 * ((((0 : Int) + (1 : Int) * (n11 * (((0 : Int) + (1 : Int) * (n32 * ((0 : Int) + (1 : Int) * ((-1 : Int) * (1 : Int))))) + (-(1 : Int)) * ((-1 : Int) * ((0 : Int) + (1 : Int) * (n33 * (1 : Int))))))) + (-(1 : Int)) * (n31 * (((0 : Int) + (1 : Int) * (n12 * ((0 : Int) + (1 : Int) * ((-1 : Int) * (1 : Int))))) + (-(1 : Int)) * ((-1 : Int) * ((0 : Int) + (1 : Int) * (n13 * (1 : Int))))))) + (-(-(1 : Int))) * ((-1 : Int) * (((0 : Int) + (1 : Int) * (n12 * ((0 : Int) + (1 : Int) * (n33 * (1 : Int))))) + (-(1 : Int)) * (n32 * ((0 : Int) + (1 : Int) * (n13 * (1 : Int))))))))) + (-(-(1 : Int))) * (n30 * ((((0 : Int) + (1 : Int) * (n11 * (((0 : Int) + (1 : Int) * (n22 * ((0 : Int) + (1 : Int) * ((-1 : Int) * (1 : Int))))) + (-(1 : Int)) * ((-1 : Int) * ((0 : Int) + (1 : Int) * (n23 * (1 : Int))))))) + (-(1 : Int)) * (n21 * (((0 : Int) + (1 : Int) * (n12 * ((0 : Int) + (1 : Int) * ((-1 : Int) * (1 : Int))))) + (-(1 : Int)) * ((-1 : Int) * ((0 : Int) + (1 : Int) * (n13 * (1 : Int))))))) + (-(-(1 : Int))) * ((-1 : Int) * (((0 : Int) + (1 : Int) * (n12 * ((0 : Int) + (1 : Int) * (n23 * (1 : Int))))) + (-(1 : Int)) * (n22 * ((0 : Int) + (1 : Int) * (n13 * (1 : Int))))))))) + (-(-(-(1 : Int)))) * ((-1 : Int) * ((((0 : Int) + (1 : Int) * (n11 * (((0 : Int) + (1 : Int) * (n22 * ((0 : Int) + (1 : Int) * (n33 * (1 : Int))))) + (-(1 : Int)) * (n32 * ((0 : Int) + (1 : Int) * (n23 * (1 : Int))))))) + (-(1 : Int)) * (n21 * (((0 : Int) + (1 : Int) * (n12 * ((0 : Int) + (1 : Int) * (n33 * (1 : Int))))) + (-(1 : Int)) * (n32 * ((0 : Int) + (1 : Int) * (n13 * (1 : Int))))))) + (-(-(1 : Int))) * (n31 * (((0 : Int) + (1 : Int) * (n12 * ((0 : Int) + (1 : Int) * (n23 * (1 : Int))))) + (-(1 : Int)) * (n22 * ((0 : Int) + (1 : Int) * (n13 * (1 : Int))))))))))) + (-(1 : Int)) * ((1 : Int) * (((((0 : Int) + (1 : Int) * (n00 * ((((0 : Int) + (1 : Int) * (n21 * (((0 : Int) + (1 : Int) * (n32 * ((0 : Int) + (1 : Int) * ((-1 : Int) * (1 : Int))))) + (-(1 : Int)) * ((-1 : Int) * ((0 : Int) + (1 : Int) * (n33 * (1 : Int))))))) + (-(1 : Int)) * (n31 * (((0 : Int) + (1 : Int) * (n22 * ((0 : Int) + (1 : Int) * ((-1 : Int) * (1 : Int))))) + (-(1 : Int)) * ((-1 : Int) * ((0 : Int) + (1 : Int) * (n23 * (1 : Int))))))) + (-(-(1 : Int))) * ((-1 : Int) * (((0 : Int) + (1 : Int) * (n22 * ((0 : Int) + (1 : Int) * (n33 * (1 : Int))))) + (-(1 : Int)) * (n32 * ((0 : Int) + (1 : Int) * (n23 * (1 : Int))))))))) + (-(1 : Int)) * (n20 * ((((0 : Int) + (1 : Int) * (n01 * (((0 : Int) + (1 : Int) * (n32 * ((0 : Int) + (1 : Int) * ((-1 : Int) * (1 : Int))))) + (-(1 : Int)) * ((-1 : Int) * ((0 : Int) + (1 : Int) * (n33 * (1 : Int))))))) + (-(1 : Int)) * (n31 * (((0 : Int) + (1 : Int) * (n02 * ((0 : Int) + (1 : Int) * ((-1 : Int) * (1 : Int))))) + (-(1 : Int)) * ((-1 : Int) * ((0 : Int) + (1 : Int) * (n03 * (1 : Int))))))) + (-(-(1 : Int))) * ((-1 : Int) * (((0 : Int) + (1 : Int) * (n02 * ((0 : Int) + (1 : Int) * (n33 * (1 : Int))))) + (-(1 : Int)) * (n32 * ((0 : Int) + (1 : Int) * (n03 * (1 : Int))))))))) + (-(-(1 : Int))) * (n30 * ((((0 : Int) + (1 : Int) * (n01 * (((0 : Int) + (1 : Int) * (n22 * ((0 : Int) + (1 : Int) * ((-1 : Int) * (1 : Int))))) + (-(1 : Int)) * ((-1 : Int) * ((0 : Int) + (1 : Int) * (n23 * (1 : Int))))))) + (-(1 : Int)) * (n21 * (((0 : Int) + (1 : Int) * (n02 * ((0 : Int) + (1 : Int) * ((-1 : Int) * (1 : Int))))) + (-(1 : Int)) * ((-1 : Int) * ((0 : Int) + (1 : Int) * (n03 * (1 : Int))))))) + (-(-(1 : Int))) * ((-1 : Int) * (((0 : Int) + (1 : Int) * (n02 * ((0 : Int) + (1 : Int) * (n23 * (1 : Int))))) + (-(1 : Int)) * (n22 * ((0 : Int) + (1 : Int) * (n03 * (1 : Int))))))))) + (-(-(-(1 : Int)))) * ((-1 : Int) * ((((0 : Int) + (1 : Int) * (n01 * (((0 : Int) + (1 : Int) * (n22 * ((0 : Int) + (1 : Int) * (n33 * (1 : Int))))) + (-(1 : Int)) * (n32 * ((0 : Int) + (1 : Int) * (n23 * (1 : Int))))))) + (-(1 : Int)) * (n21 * (((0 : Int) + (1 : Int) * (n02 * ((0 : Int) + (1 : Int) * (n33 * (1 : Int))))) + (-(1 : Int)) * (n32 * ((0 : Int) + (1 : Int) * (n03 * (1 : Int))))))) + (-(-(1 : Int))) * (n31 * (((0 : Int) + (1 : Int) * (n02 * ((0 : Int) + (1 : Int) * (n23 * (1 : Int))))) + (-(1 : Int)) * (n22 * ((0 : Int) + (1 : Int) * (n03 * (1 : Int))))))))))) + (-(-(1 : Int))) * ((1 : Int) * (((((0 : Int) + (1 : Int) * (n00 * ((((0 : Int) + (1 : Int) * (n11 * (((0 : Int) + (1 : Int) * (n32 * ((0 : Int) + (1 : Int) * ((-1 : Int) * (1 : Int))))) + (-(1 : Int)) * ((-1 : Int) * ((0 : Int) + (1 : Int) * (n33 * (1 : Int))))))) + (-(1 : Int)) * (n31 * (((0 : Int) + (1 : Int) * (n12 * ((0 : Int) + (1 : Int) * ((-1 : Int) * (1 : Int))))) + (-(1 : Int)) * ((-1 : Int) * ((0 : Int) + (1 : Int) * (n13 * (1 : Int))))))) + (-(-(1 : Int))) * ((-1 : Int) * (((0 : Int) + (1 : Int) * (n12 * ((0 : Int) + (1 : Int) * (n33 * (1 : Int))))) + (-(1 : Int)) * (n32 * ((0 : Int) + (1 : Int) * (n13 * (1 : Int))))))))) + (-(1 : Int)) * (n10 * ((((0 : Int) + (1 : Int) * (n01 * (((0 : Int) + (1 : Int) * (n32 * ((0 : Int) + (1 : Int) * ((-1 : Int) * (1 : Int))))) + (-(1 : Int)) * ((-1 : Int) * ((0 : Int) + (1 : Int) * (n33 * (1 : Int))))))) + (-(1 : Int)) * (n31 * (((0 : Int) + (1 : Int) * (n02 * ((0 : Int) + (1 : Int) * ((-1 : Int) * (1 : Int))))) + (-(1 : Int)) * ((-1 : Int) * ((0 : Int) + (1 : Int) * (n03 * (1 : Int))))))) + (-(-(1 : Int))) * ((-1 : Int) * (((0 : Int) + (1 : Int) * (n02 * ((0 : Int) + (1 : Int) * (n33 * (1 : Int))))) + (-(1 : Int)) * (n32 * ((0 : Int) + (1 : Int) * (n03 * (1 : Int))))))))) + (-(-(1 : Int))) * (n30 * ((((0 : Int) + (1 : Int) * (n01 * (((0 : Int) + (1 : Int) * (n12 * ((0 : Int) + (1 : Int) * ((-1 : Int) * (1 : Int))))) + (-(1 : Int)) * ((-1 : Int) * ((0 : Int) + (1 : Int) * (n13 * (1 : Int))))))) + (-(1 : Int)) * (n11 * (((0 : Int) + (1 : Int) * (n02 * ((0 : Int) + (1 : Int) * ((-1 : Int) * (1 : Int))))) + (-(1 : Int)) * ((-1 : Int) * ((0 : Int) + (1 : Int) * (n03 * (1 : Int))))))) + (-(-(1 : Int))) * ((-1 : Int) * (((0 : Int) + (1 : Int) * (n02 * ((0 : Int) + (1 : Int) * (n13 * (1 : Int))))) + (-(1 : Int)) * (n12 * ((0 : Int) + (1 : Int) * (n03 * (1 : Int))))))))) + (-(-(-(1 : Int)))) * ((-1 : Int) * ((((0 : Int) + (1 : Int) * (n01 * (((0 : Int) + (1 : Int) * (n12 * ((0 : Int) + (1 : Int) * (n33 * (1 : Int))))) + (-(1 : Int)) * (n32 * ((0 : Int) + (1 : Int) * (n13 * (1 : Int))))))) + (-(1 : Int)) * (n11 * (((0 : Int) + (1 : Int) * (n02 * ((0 : Int) + (1 : Int) * (n33 * (1 : Int))))) + (-(1 : Int)) * (n32 * ((0 : Int) + (1 : Int) * (n03 * (1 : Int))))))) + (-(-(1 : Int))) * (n31 * (((0 : Int) + (1 : Int) * (n02 * ((0 : Int) + (1 : Int) * (n13 * (1 : Int))))) + (-(1 : Int)) * (n12 * ((0 : Int) + (1 : Int) * (n03 * (1 : Int))))))))))) + (-(-(-(1 : Int)))) * ((1 : Int) * (((((0 : Int) + (1 : Int) * (n00 * ((((0 : Int) + (1 : Int) * (n11 * (((0 : Int) + (1 : Int) * (n22 * ((0 : Int) + (1 : Int) * ((-1 : Int) * (1 : Int))))) + (-(1 : Int)) * ((-1 : Int) * ((0 : Int) + (1 : Int) * (n23 * (1 : Int))))))) + (-(1 : Int)) * (n21 * (((0 : Int) + (1 : Int) * (n12 * ((0 : Int) + (1 : Int) * ((-1 : Int) * (1 : Int))))) + (-(1 : Int)) * ((-1 : Int) * ((0 : Int) + (1 : Int) * (n13 * (1 : Int))))))) + (-(-(1 : Int))) * ((-1 : Int) * (((0 : Int) + (1 : Int) * (n12 * ((0 : Int) + (1 : Int) * (n23 * (1 : Int))))) + (-(1 : Int)) * (n22 * ((0 : Int) + (1 : Int) * (n13 * (1 : Int))))))))) + (-(1 : Int)) * (n10 * ((((0 : Int) + (1 : Int) * (n01 * (((0 : Int) + (1 : Int) * (n22 * ((0 : Int) + (1 : Int) * ((-1 : Int) * (1 : Int))))) + (-(1 : Int)) * ((-1 : Int) * ((0 : Int) + (1 : Int) * (n23 * (1 : Int))))))) + (-(1 : Int)) * (n21 * (((0 : Int) + (1 : Int) * (n02 * ((0 : Int) + (1 : Int) * ((-1 : Int) * (1 : Int))))) + (-(1 : Int)) * ((-1 : Int) * ((0 : Int) + (1 : Int) * (n03 * (1 : Int))))))) + (-(-(1 : Int))) * ((-1 : Int) * (((0 : Int) + (1 : Int) * (n02 * ((0 : Int) + (1 : Int) * (n23 * (1 : Int))))) + (-(1 : Int)) * (n22 * ((0 : Int) + (1 : Int) * (n03 * (1 : Int))))))))) + (-(-(1 : Int))) * (n20 * ((((0 : Int) + (1 : Int) * (n01 * (((0 : Int) + (1 : Int) * (n12 * ((0 : Int) + (1 : Int) * ((-1 : Int) * (1 : Int))))) + (-(1 : Int)) * ((-1 : Int) * ((0 : Int) + (1 : Int) * (n13 * (1 : Int))))))) + (-(1 : Int)) * (n11 * (((0 : Int) + (1 : Int) * (n02 * ((0 : Int) + (1 : Int) * ((-1 : Int) * (1 : Int))))) + (-(1 : Int)) * ((-1 : Int) * ((0 : Int) + (1 : Int) * (n03 * (1 : Int))))))) + (-(-(1 : Int))) * ((-1 : Int) * (((0 : Int) + (1 : Int) * (n02 * ((0 : Int) + (1 : Int) * (n13 * (1 : Int))))) + (-(1 : Int)) * (n12 * ((0 : Int) + (1 : Int) * (n03 * (1 : Int))))))))) + (-(-(-(1 : Int)))) * ((-1 : Int) * ((((0 : Int) + (1 : Int) * (n01 * (((0 : Int) + (1 : Int) * (n12 * ((0 : Int) + (1 : Int) * (n23 * (1 : Int))))) + (-(1 : Int)) * (n22 * ((0 : Int) + (1 : Int) * (n13 * (1 : Int))))))) + (-(1 : Int)) * (n11 * (((0 : Int) + (1 : Int) * (n02 * ((0 : Int) + (1 : Int) * (n23 * (1 : Int))))) + (-(1 : Int)) * (n22 * ((0 : Int) + (1 : Int) * (n03 * (1 : Int))))))) + (-(-(1 : Int))) * (n21 * (((0 : Int) + (1 : Int) * (n02 * ((0 : Int) + (1 : Int) * (n13 * (1 : Int))))) + (-(1 : Int)) * (n12 * ((0 : Int) + (1 : Int) * (n03 * (1 : Int))))))))))) + (-(-(-(-(1 : Int))))) * ((0 : Int) * (((((0 : Int) + (1 : Int) * (n00 * ((((0 : Int) + (1 : Int) * (n11 * (((0 : Int) + (1 : Int) * (n22 * ((0 : Int) + (1 : Int) * (n33 * (1 : Int))))) + (-(1 : Int)) * (n32 * ((0 : Int) + (1 : Int) * (n23 * (1 : Int))))))) + (-(1 : Int)) * (n21 * (((0 : Int) + (1 : Int) * (n12 * ((0 : Int) + (1 : Int) * (n33 * (1 : Int))))) + (-(1 : Int)) * (n32 * ((0 : Int) + (1 : Int) * (n13 * (1 : Int))))))) + (-(-(1 : Int))) * (n31 * (((0 : Int) + (1 : Int) * (n12 * ((0 : Int) + (1 : Int) * (n23 * (1 : Int))))) + (-(1 : Int)) * (n22 * ((0 : Int) + (1 : Int) * (n13 * (1 : Int))))))))) + (-(1 : Int)) * (n10 * ((((0 : Int) + (1 : Int) * (n01 * (((0 : Int) + (1 : Int) * (n22 * ((0 : Int) + (1 : Int) * (n33 * (1 : Int))))) + (-(1 : Int)) * (n32 * ((0 : Int) + (1 : Int) * (n23 * (1 : Int))))))) + (-(1 : Int)) * (n21 * (((0 : Int) + (1 : Int) * (n02 * ((0 : Int) + (1 : Int) * (n33 * (1 : Int))))) + (-(1 : Int)) * (n32 * ((0 : Int) + (1 : Int) * (n03 * (1 : Int))))))) + (-(-(1 : Int))) * (n31 * (((0 : Int) + (1 : Int) * (n02 * ((0 : Int) + (1 : Int) * (n23 * (1 : Int))))) + (-(1 : Int)) * (n22 * ((0 : Int) + (1 : Int) * (n03 * (1 : Int))))))))) + (-(-(1 : Int))) * (n20 * ((((0 : Int) + (1 : Int) * (n01 * (((0 : Int) + (1 : Int) * (n12 * ((0 : Int) + (1 : Int) * (n33 * (1 : Int))))) + (-(1 : Int)) * (n32 * ((0 : Int) + (1 : Int) * (n13 * (1 : Int))))))) + (-(1 : Int)) * (n11 * (((0 : Int) + (1 : Int) * (n02 * ((0 : Int) + (1 : Int) * (n33 * (1 : Int))))) + (-(1 : Int)) * (n32 * ((0 : Int) + (1 : Int) * (n03 * (1 : Int))))))) + (-(-(1 : Int))) * (n31 * (((0 : Int) + (1 : Int) * (n02 * ((0 : Int) + (1 : Int) * (n13 * (1 : Int))))) + (-(1 : Int)) * (n12 * ((0 : Int) + (1 : Int) * (n03 * (1 : Int))))))))) + (-(-(-(1 : Int)))) * (n30 * ((((0 : Int) + (1 : Int) * (n01 * (((0 : Int) + (1 : Int) * (n12 * ((0 : Int) + (1 : Int) * (n23 * (1 : Int))))) + (-(1 : Int)) * (n22 * ((0 : Int) + (1 : Int) * (n13 * (1 : Int))))))) + (-(1 : Int)) * (n11 * (((0 : Int) + (1 : Int) * (n02 * ((0 : Int) + (1 : Int) * (n23 * (1 : Int))))) + (-(1 : Int)) * (n22 * ((0 : Int) + (1 : Int) * (n03 * (1 : Int))))))) + (-(-(1 : Int))) * (n21 * (((0 : Int) + (1 : Int) * (n02 * ((0 : Int) + (1 : Int) * (n13 * (1 : Int))))) + (-(1 : Int)) * (n12 * ((0 : Int) + (1 : Int) * (n03 * (1 : Int))))))))))) = (1 : Int) * (((((0 : Int) + ((1 : Int) * ((((0 : Int) + (1 : Int) * ((n11 - n10) * (((0 : Int) + (1 : Int) * ((n22 - n20) * ((0 : Int) + (1 : Int) * ((n33 - n30) * (1 : Int))))) + (-(1 : Int)) * ((n32 - n30) * ((0 : Int) + (1 : Int) * ((n23 - n20) * (1 : Int))))))) + (-(1 : Int)) * ((n21 - n20) * (((0 : Int) + (1 : Int) * ((n12 - n10) * ((0 : Int) + (1 : Int) * ((n33 - n30) * (1 : Int))))) + (-(1 : Int)) * ((n32 - n30) * ((0 : Int) + (1 : Int) * ((n13 - n10) * (1 : Int))))))) + (-(-(1 : Int))) * ((n31 - n30) * (((0 : Int) + (1 : Int) * ((n12 - n10) * ((0 : Int) + (1 : Int) * ((n23 - n20) * (1 : Int))))) + (-(1 : Int)) * ((n22 - n20) * ((0 : Int) + (1 : Int) * ((n13 - n10) * (1 : Int))))))))) + ((-1 : Int) * ((((0 : Int) + (1 : Int) * ((n01 - n00) * (((0 : Int) + (1 : Int) * ((n22 - n20) * ((0 : Int) + (1 : Int) * ((n33 - n30) * (1 : Int))))) + (-(1 : Int)) * ((n32 - n30) * ((0 : Int) + (1 : Int) * ((n23 - n20) * (1 : Int))))))) + (-(1 : Int)) * ((n21 - n20) * (((0 : Int) + (1 : Int) * ((n02 - n00) * ((0 : Int) + (1 : Int) * ((n33 - n30) * (1 : Int))))) + (-(1 : Int)) * ((n32 - n30) * ((0 : Int) + (1 : Int) * ((n03 - n00) * (1 : Int))))))) + (-(-(1 : Int))) * ((n31 - n30) * (((0 : Int) + (1 : Int) * ((n02 - n00) * ((0 : Int) + (1 : Int) * ((n23 - n20) * (1 : Int))))) + (-(1 : Int)) * ((n22 - n20) * ((0 : Int) + (1 : Int) * ((n03 - n00) * (1 : Int))))))))) + ((1 : Int) * ((((0 : Int) + (1 : Int) * ((n01 - n00) * (((0 : Int) + (1 : Int) * ((n12 - n10) * ((0 : Int) + (1 : Int) * ((n33 - n30) * (1 : Int))))) + (-(1 : Int)) * ((n32 - n30) * ((0 : Int) + (1 : Int) * ((n13 - n10) * (1 : Int))))))) + (-(1 : Int)) * ((n11 - n10) * (((0 : Int) + (1 : Int) * ((n02 - n00) * ((0 : Int) + (1 : Int) * ((n33 - n30) * (1 : Int))))) + (-(1 : Int)) * ((n32 - n30) * ((0 : Int) + (1 : Int) * ((n03 - n00) * (1 : Int))))))) + (-(-(1 : Int))) * ((n31 - n30) * (((0 : Int) + (1 : Int) * ((n02 - n00) * ((0 : Int) + (1 : Int) * ((n13 - n10) * (1 : Int))))) + (-(1 : Int)) * ((n12 - n10) * ((0 : Int) + (1 : Int) * ((n03 - n00) * (1 : Int))))))))) + ((-1 : Int) * ((((0 : Int) + (1 : Int) * ((n01 - n00) * (((0 : Int) + (1 : Int) * ((n12 - n10) * ((0 : Int) + (1 : Int) * ((n23 - n20) * (1 : Int))))) + (-(1 : Int)) * ((n22 - n20) * ((0 : Int) + (1 : Int) * ((n13 - n10) * (1 : Int))))))) + (-(1 : Int)) * ((n11 - n10) * (((0 : Int) + (1 : Int) * ((n02 - n00) * ((0 : Int) + (1 : Int) * ((n23 - n20) * (1 : Int))))) + (-(1 : Int)) * ((n22 - n20) * ((0 : Int) + (1 : Int) * ((n03 - n00) * (1 : Int))))))) + (-(-(1 : Int))) * ((n21 - n20) * (((0 : Int) + (1 : Int) * ((n02 - n00) * ((0 : Int) + (1 : Int) * ((n13 - n10) * (1 : Int))))) + (-(1 : Int)) * ((n12 - n10) * ((0 : Int) + (1 : Int) * ((n03 - n00) * (1 : Int))))))))) := by
  simp only [Int.mul_add, Int.add_mul, Int.sub_mul, Int.mul_sub, Int.neg_mul, Int.mul_neg, Int.one_mul, Int.mul_one, Int.zero_mul, Int.mul_zero, Int.zero_add, Int.add_zero, Int.neg_neg, Int.neg_zero, Int.sub_zero, Int.zero_sub, Int.mul_assoc, Int.mul_comm, Int.mul_left_comm]
  try omega
set_option maxRecDepth 20000 in
set_option maxHeartbeats 4000000 in
theorem q4_det (s : Nat) (u : Nat → Nat) : mnr (mxv s u 4 (fun _ => false)) 5 5 0 0 = ((((((0 : Int) + (1 : Int) * ((1 : Int) * (((((0 : Int) + (1 : Int) * ((Nm s u 1 0) * ((((0 : Int) + (1 : Int) * ((Nm s u 2 1) * (((0 : Int) + (1 : Int) * ((Nm s u 3 2) * ((0 : Int) + (1 : Int) * ((-1 : Int) * (1 : Int))))) + (-(1 : Int)) * ((-1 : Int) * ((0 : Int) + (1 : Int) * ((Nm s u 3 3) * (1 : Int))))))) + (-(1 : Int)) * ((Nm s u 3 1) * (((0 : Int) + (1 : Int) * ((Nm s u 2 2) * ((0 : Int) + (1 : Int) * ((-1 : Int) * (1 : Int))))) + (-(1 : Int)) * ((-1 : Int) * ((0 : Int) + (1 : Int) * ((Nm s u 2 3) * (1 : Int))))))) + (-(-(1 : Int))) * ((-1 : Int) * (((0 : Int) + (1 : Int) * ((Nm s u 2 2) * ((0 : Int) + (1 : Int) * ((Nm s u 3 3) * (1 : Int))))) + (-(1 : Int)) * ((Nm s u 3 2) * ((0 : Int) + (1 : Int) * ((Nm s u 2 3) * (1 : Int))))))))) + (-(1 : Int)) * ((Nm s u 2 0) * ((((0 : Int) + (1 : Int) * ((Nm s u 1 1) * (((0 : Int) + (1 : Int) * ((Nm s u 3 2) * ((0 : Int) + (1 : Int) * ((-1 : Int) * (1 : Int))))) + (-(1 : Int)) * ((-1 : Int) * ((0 : Int) + (1 : Int) * ((Nm s u 3 3) * (1 : Int))))))) + (-(1 : Int)) * ((Nm s u 3 1) * (((0 : Int) + (1 : Int) * ((Nm s u 1 2) * ((0 : Int) + (1 : Int) * ((-1 : Int) * (1 : Int))))) + (-(1 : Int)) * ((-1 : Int) * ((0 : Int) + (1 : Int) * ((Nm s u 1 3) * (1 : Int))))))) + (-(-(1 : Int))) * ((-1 : Int) * (((0 : Int) + (1 : Int) * ((Nm s u 1 2) * ((0 : Int) + (1 : Int) * ((Nm s u 3 3) * (1 : Int))))) + (-(1 : Int)) * ((Nm s u 3 2) * ((0 : Int) + (1 : Int) * ((Nm s u 1 3) * (1 : Int))))))))) + (-(-(1 : Int))) * ((Nm s u 3 0) * ((((0 : Int) + (1 : Int) * ((Nm s u 1 1) * (((0 : Int) + (1 : Int) * ((Nm s u 2 2) * ((0 : Int) + (1 : Int) * ((-1 : Int) * (1 : Int))))) + (-(1 : Int)) * ((-1 : Int) * ((0 : Int) + (1 : Int) * ((Nm s u 2 3) * (1 : Int))))))) + (-(1 : Int)) * ((Nm s u 2 1) * (((0 : Int) + (1 : Int) * ((Nm s u 1 2) * ((0 : Int) + (1 : Int) * ((-1 : Int) * (1 : Int))))) + (-(1 : Int)) * ((-1 : Int) * ((0 : Int) + (1 : Int) * ((Nm s u 1 3) * (1 : Int))))))) + (-(-(1 : Int))) * ((-1 : Int) * (((0 : Int) + (1 : Int) * ((Nm s u 1 2) * ((0 : Int) + (1 : Int) * ((Nm s u 2 3) * (1 : Int))))) + (-(1 : Int)) * ((Nm s u 2 2) * ((0 : Int) + (1 : Int) * ((Nm s u 1 3) * (1 : Int))))))))) + (-(-(-(1 : Int)))) * ((-1 : Int) * ((((0 : Int) + (1 : Int) * ((Nm s u 1 1) * (((0 : Int) + (1 : Int) * ((Nm s u 2 2) * ((0 : Int) + (1 : Int) * ((Nm s u 3 3) * (1 : Int))))) + (-(1 : Int)) * ((Nm s u 3 2) * ((0 : Int) + (1 : Int) * ((Nm s u 2 3) * (1 : Int))))))) + (-(1 : Int)) * ((Nm s u 2 1) * (((0 : Int) + (1 : Int) * ((Nm s u 1 2) * ((0 : Int) + (1 : Int) * ((Nm s u 3 3) * (1 : Int))))) + (-(1 : Int)) * ((Nm s u 3 2) * ((0 : Int) + (1 : Int) * ((Nm s u 1 3) * (1 : Int))))))) + (-(-(1 : Int))) * ((Nm s u 3 1) * (((0 : Int) + (1 : Int) * ((Nm s u 1 2) * ((0 : Int) + (1 : Int) * ((Nm s u 2 3) * (1 : Int))))) + (-(1 : Int)) * ((Nm s u 2 2) * ((0 : Int) + (1 : Int) * ((Nm s u 1 3) * (1 : Int))))))))))) + (-(1 : Int)) * ((1 : Int) * (((((0 : Int) + (1 : Int) * ((Nm s u 0 0) * ((((0 : Int) + (1 : Int) * ((Nm s u 2 1) * (((0 : Int) + (1 : Int) * ((Nm s u 3 2) * ((0 : Int) + (1 : Int) * ((-1 : Int) * (1 : Int))))) + (-(1 : Int)) * ((-1 : Int) * ((0 : Int) + (1 : Int) * ((Nm s u 3 3) * (1 : Int))))))) + (-(1 : Int)) * ((Nm s u 3 1) * (((0 : Int) + (1 : Int) * ((Nm s u 2 2) * ((0 : Int) + (1 : Int) * ((-1 : Int) * (1 : Int))))) + (-(1 : Int)) * ((-1 : Int) * ((0 : Int) + (1 : Int) * ((Nm s u 2 3) * (1 : Int))))))) + (-(-(1 : Int))) * ((-1 : Int) * (((0 : Int) + (1 : Int) * ((Nm s u 2 2) * ((0 : Int) + (1 : Int) * ((Nm s u 3 3) * (1 : Int))))) + (-(1 : Int)) * ((Nm s u 3 2) * ((0 : Int) + (1 : Int) * ((Nm s u 2 3) * (1 : Int))))))))) + (-(1 : Int)) * ((Nm s u 2 0) * ((((0 : Int) + (1 : Int) * ((Nm s u 0 1) * (((0 : Int) + (1 : Int) * ((Nm s u 3 2) * ((0 : Int) + (1 : Int) * ((-1 : Int) * (1 : Int))))) + (-(1 : Int)) * ((-1 : Int) * ((0 : Int) + (1 : Int) * ((Nm s u 3 3) * (1 : Int))))))) + (-(1 : Int)) * ((Nm s u 3 1) * (((0 : Int) + (1 : Int) * ((Nm s u 0 2) * ((0 : Int) + (1 : Int) * ((-1 : Int) * (1 : Int))))) + (-(1 : Int)) * ((-1 : Int) * ((0 : Int) + (1 : Int) * ((Nm s u 0 3) * (1 : Int))))))) + (-(-(1 : Int))) * ((-1 : Int) * (((0 : Int) + (1 : Int) * ((Nm s u 0 2) * ((0 : Int) + (1 : Int) * ((Nm s u 3 3) * (1 : Int))))) + (-(1 : Int)) * ((Nm s u 3 2) * ((0 : Int) + (1 : Int) * ((Nm s u 0 3) * (1 : Int))))))))) + (-(-(1 : Int))) * ((Nm s u 3 0) * ((((0 : Int) + (1 : Int) * ((Nm s u 0 1) * (((0 : Int) + (1 : Int) * ((Nm s u 2 2) * ((0 : Int) + (1 : Int) * ((-1 : Int) * (1 : Int))))) + (-(1 : Int)) * ((-1 : Int) * ((0 : Int) + (1 : Int) * ((Nm s u 2 3) * (1 : Int))))))) + (-(1 : Int)) * ((Nm s u 2 1) * (((0 : Int) + (1 : Int) * ((Nm s u 0 2) * ((0 : Int) + (1 : Int) * ((-1 : Int) * (1 : Int))))) + (-(1 : Int)) * ((-1 : Int) * ((0 : Int) + (1 : Int) * ((Nm s u 0 3) * (1 : Int))))))) + (-(-(1 : Int))) * ((-1 : Int) * (((0 : Int) + (1 : Int) * ((Nm s u 0 2) * ((0 : Int) + (1 : Int) * ((Nm s u 2 3) * (1 : Int))))) + (-(1 : Int)) * ((Nm s u 2 2) * ((0 : Int) + (1 : Int) * ((Nm s u 0 3) * (1 : Int))))))))) + (-(-(-(1 : Int)))) * ((-1 : Int) * ((((0 : Int) + (1 : Int) * ((Nm s u 0 1) * (((0 : Int) + (1 : Int) * ((Nm s u 2 2) * ((0 : Int) + (1 : Int) * ((Nm s u 3 3) * (1 : Int))))) + (-(1 : Int)) * ((Nm s u 3 2) * ((0 : Int) + (1 : Int) * ((Nm s u 2 3) * (1 : Int))))))) + (-(1 : Int)) * ((Nm s u 2 1) * (((0 : Int) + (1 : Int) * ((Nm s u 0 2) * ((0 : Int) + (1 : Int) * ((Nm s u 3 3) * (1 : Int))))) + (-(1 : Int)) * ((Nm s u 3 2) * ((0 : Int) + (1 : Int) * ((Nm s u 0 3) * (1 : Int))))))) + (-(-(1 : Int))) * ((Nm s u 3 1) * (((0 : Int) + (1 : Int) * ((Nm s u 0 2) * ((0 : Int) + (1 : Int) * ((Nm s u 2 3) * (1 : Int))))) + (-(1 : Int)) * ((Nm s u 2 2) * ((0 : Int) + (1 : Int) * ((Nm s u 0 3) * (1 : Int))))))))))) + (-(-(1 : Int))) * ((1 : Int) * (((((0 : Int) + (1 : Int) * ((Nm s u 0 0) * ((((0 : Int) + (1 : Int) * ((Nm s u 1 1) * (((0 : Int) + (1 : Int) * ((Nm s u 3 2) * ((0 : Int) + (1 : Int) * ((-1 : Int) * (1 : Int))))) + (-(1 : Int)) * ((-1 : Int) * ((0 : Int) + (1 : Int) * ((Nm s u 3 3) * (1 : Int))))))) + (-(1 : Int)) * ((Nm s u 3 1) * (((0 : Int) + (1 : Int) * ((Nm s u 1 2) * ((0 : Int) + (1 : Int) * ((-1 : Int) * (1 : Int))))) + (-(1 : Int)) * ((-1 : Int) * ((0 : Int) + (1 : Int) * ((Nm s u 1 3) * (1 : Int))))))) + (-(-(1 : Int))) * ((-1 : Int) * (((0 : Int) + (1 : Int) * ((Nm s u 1 2) * ((0 : Int) + (1 : Int) * ((Nm s u 3 3) * (1 : Int))))) + (-(1 : Int)) * ((Nm s u 3 2) * ((0 : Int) + (1 : Int) * ((Nm s u 1 3) * (1 : Int))))))))) + (-(1 : Int)) * ((Nm s u 1 0) * ((((0 : Int) + (1 : Int) * ((Nm s u 0 1) * (((0 : Int) + (1 : Int) * ((Nm s u 3 2) * ((0 : Int) + (1 : Int) * ((-1 : Int) * (1 : Int))))) + (-(1 : Int)) * ((-1 : Int) * ((0 : Int) + (1 : Int) * ((Nm s u 3 3) * (1 : Int))))))) + (-(1 : Int)) * ((Nm s u 3 1) * (((0 : Int) + (1 : Int) * ((Nm s u 0 2) * ((0 : Int) + (1 : Int) * ((-1 : Int) * (1 : Int))))) + (-(1 : Int)) * ((-1 : Int) * ((0 : Int) + (1 : Int) * ((Nm s u 0 3) * (1 : Int))))))) + (-(-(1 : Int))) * ((-1 : Int) * (((0 : Int) + (1 : Int) * ((Nm s u 0 2) * ((0 : Int) + (1 : Int) * ((Nm s u 3 3) * (1 : Int))))) + (-(1 : Int)) * ((Nm s u 3 2) * ((0 : Int) + (1 : Int) * ((Nm s u 0 3) * (1 : Int))))))))) + (-(-(1 : Int))) * ((Nm s u 3 0) * ((((0 : Int) + (1 : Int) * ((Nm s u 0 1) * (((0 : Int) + (1 : Int) * ((Nm s u 1 2) * ((0 : Int) + (1 : Int) * ((-1 : Int) * (1 : Int))))) + (-(1 : Int)) * ((-1 : Int) * ((0 : Int) + (1 : Int) * ((Nm s u 1 3) * (1 : Int))))))) + (-(1 : Int)) * ((Nm s u 1 1) * (((0 : Int) + (1 : Int) * ((Nm s u 0 2) * ((0 : Int) + (1 : Int) * ((-1 : Int) * (1 : Int))))) + (-(1 : Int)) * ((-1 : Int) * ((0 : Int) + (1 : Int) * ((Nm s u 0 3) * (1 : Int))))))) + (-(-(1 : Int))) * ((-1 : Int) * (((0 : Int) + (1 : Int) * ((Nm s u 0 2) * ((0 : Int) + (1 : Int) * ((Nm s u 1 3) * (1 : Int))))) + (-(1 : Int)) * ((Nm s u 1 2) * ((0 : Int) + (1 : Int) * ((Nm s u 0 3) * (1 : Int))))))))) + (-(-(-(1 : Int)))) * ((-1 : Int) * ((((0 : Int) + (1 : Int) * ((Nm s u 0 1) * (((0 : Int) + (1 : Int) * ((Nm s u 1 2) * ((0 : Int) + (1 : Int) * ((Nm s u 3 3) * (1 : Int))))) + (-(1 : Int)) * ((Nm s u 3 2) * ((0 : Int) + (1 : Int) * ((Nm s u 1 3) * (1 : Int))))))) + (-(1 : Int)) * ((Nm s u 1 1) * (((0 : Int) + (1 : Int) * ((Nm s u 0 2) * ((0 : Int) + (1 : Int) * ((Nm s u 3 3) * (1 : Int))))) + (-(1 : Int)) * ((Nm s u 3 2) * ((0 : Int) + (1 : Int) * ((Nm s u 0 3) * (1 : Int))))))) + (-(-(1 : Int))) * ((Nm s u 3 1) * (((0 : Int) + (1 : Int) * ((Nm s u 0 2) * ((0 : Int) + (1 : Int) * ((Nm s u 1 3) * (1 : Int))))) + (-(1 : Int)) * ((Nm s u 1 2) * ((0 : Int) + (1 : Int) * ((Nm s u 0 3) * (1 : Int))))))))))) + (-(-(-(1 : Int)))) * ((1 : Int) * (((((0 : Int) + (1 : Int) * ((Nm s u 0 0) * ((((0 : Int) + (1 : Int) * ((Nm s u 1 1) * (((0 : Int) + (1 : Int) * ((Nm s u 2 2) * ((0 : Int) + (1 : Int) * ((-1 : Int) * (1 : Int))))) + (-(1 : Int)) * ((-1 : Int) * ((0 : Int) + (1 : Int) * ((Nm s u 2 3) * (1 : Int))))))) + (-(1 : Int)) * ((Nm s u 2 1) * (((0 : Int) + (1 : Int) * ((Nm s u 1 2) * ((0 : Int) + (1 : Int) * ((-1 : Int) * (1 : Int))))) + (-(1 : Int)) * ((-1 : Int) * ((0 : Int) + (1 : Int) * ((Nm s u 1 3) * (1 : Int))))))) + (-(-(1 : Int))) * ((-1 : Int) * (((0 : Int) + (1 : Int) * ((Nm s u 1 2) * ((0 : Int) + (1 : Int) * ((Nm s u 2 3) * (1 : Int))))) + (-(1 : Int)) * ((Nm s u 2 2) * ((0 : Int) + (1 : Int) * ((Nm s u 1 3) * (1 : Int))))))))) + (-(1 : Int)) * ((Nm s u 1 0) * ((((0 : Int) + (1 : Int) * ((Nm s u 0 1) * (((0 : Int) + (1 : Int) * ((Nm s u 2 2) * ((0 : Int) + (1 : Int) * ((-1 : Int) * (1 : Int))))) + (-(1 : Int)) * ((-1 : Int) * ((0 : Int) + (1 : Int) * ((Nm s u 2 3) * (1 : Int))))))) + (-(1 : Int)) * ((Nm s u 2 1) * (((0 : Int) + (1 : Int) * ((Nm s u 0 2) * ((0 : Int) + (1 : Int) * ((-1 : Int) * (1 : Int))))) + (-(1 : Int)) * ((-1 : Int) * ((0 : Int) + (1 : Int) * ((Nm s u 0 3) * (1 : Int))))))) + (-(-(1 : Int))) * ((-1 : Int) * (((0 : Int) + (1 : Int) * ((Nm s u 0 2) * ((0 : Int) + (1 : Int) * ((Nm s u 2 3) * (1 : Int))))) + (-(1 : Int)) * ((Nm s u 2 2) * ((0 : Int) + (1 : Int) * ((Nm s u 0 3) * (1 : Int))))))))) + (-(-(1 : Int))) * ((Nm s u 2 0) * ((((0 : Int) + (1 : Int) * ((Nm s u 0 1) * (((0 : Int) + (1 : Int) * ((Nm s u 1 2) * ((0 : Int) + (1 : Int) * ((-1 : Int) * (1 : Int))))) + (-(1 : Int)) * ((-1 : Int) * ((0 : Int) + (1 : Int) * ((Nm s u 1 3) * (1 : Int))))))) + (-(1 : Int)) * ((Nm s u 1 1) * (((0 : Int) + (1 : Int) * ((Nm s u 0 2) * ((0 : Int) + (1 : Int) * ((-1 : Int) * (1 : Int))))) + (-(1 : Int)) * ((-1 : Int) * ((0 : Int) + (1 : Int) * ((Nm s u 0 3) * (1 : Int))))))) + (-(-(1 : Int))) * ((-1 : Int) * (((0 : Int) + (1 : Int) * ((Nm s u 0 2) * ((0 : Int) + (1 : Int) * ((Nm s u 1 3) * (1 : Int))))) + (-(1 : Int)) * ((Nm s u 1 2) * ((0 : Int) + (1 : Int) * ((Nm s u 0 3) * (1 : Int))))))))) + (-(-(-(1 : Int)))) * ((-1 : Int) * ((((0 : Int) + (1 : Int) * ((Nm s u 0 1) * (((0 : Int) + (1 : Int) * ((Nm s u 1 2) * ((0 : Int) + (1 : Int) * ((Nm s u 2 3) * (1 : Int))))) + (-(1 : Int)) * ((Nm s u 2 2) * ((0 : Int) + (1 : Int) * ((Nm s u 1 3) * (1 : Int))))))) + (-(1 : Int)) * ((Nm s u 1 1) * (((0 : Int) + (1 : Int) * ((Nm s u 0 2) * ((0 : Int) + (1 : Int) * ((Nm s u 2 3) * (1 : Int))))) + (-(1 : Int)) * ((Nm s u 2 2) * ((0 : Int) + (1 : Int) * ((Nm s u 0 3) * (1 : Int))))))) + (-(-(1 : Int))) * ((Nm s u 2 1) * (((0 : Int) + (1 : Int) * ((Nm s u 0 2) * ((0 : Int) + (1 : Int) * ((Nm s u 1 3) * (1 : Int))))) + (-(1 : Int)) * ((Nm s u 1 2) * ((0 : Int) + (1 : Int) * ((Nm s u 0 3) * (1 : Int))))))))))) + (-(-(-(-(1 : Int))))) * ((0 : Int) * (((((0 : Int) + (1 : Int) * ((Nm s u 0 0) * ((((0 : Int) + (1 : Int) * ((Nm s u 1 1) * (((0 : Int) + (1 : Int) * ((Nm s u 2 2) * ((0 : Int) + (1 : Int) * ((Nm s u 3 3) * (1 : Int))))) + (-(1 : Int)) * ((Nm s u 3 2) * ((0 : Int) + (1 : Int) * ((Nm s u 2 3) * (1 : Int))))))) + (-(1 : Int)) * ((Nm s u 2 1) * (((0 : Int) + (1 : Int) * ((Nm s u 1 2) * ((0 : Int) + (1 : Int) * ((Nm s u 3 3) * (1 : Int))))) + (-(1 : Int)) * ((Nm s u 3 2) * ((0 : Int) + (1 : Int) * ((Nm s u 1 3) * (1 : Int))))))) + (-(-(1 : Int))) * ((Nm s u 3 1) * (((0 : Int) + (1 : Int) * ((Nm s u 1 2) * ((0 : Int) + (1 : Int) * ((Nm s u 2 3) * (1 : Int))))) + (-(1 : Int)) * ((Nm s u 2 2) * ((0 : Int) + (1 : Int) * ((Nm s u 1 3) * (1 : Int))))))))) + (-(1 : Int)) * ((Nm s u 1 0) * ((((0 : Int) + (1 : Int) * ((Nm s u 0 1) * (((0 : Int) + (1 : Int) * ((Nm s u 2 2) * ((0 : Int) + (1 : Int) * ((Nm s u 3 3) * (1 : Int))))) + (-(1 : Int)) * ((Nm s u 3 2) * ((0 : Int) + (1 : Int) * ((Nm s u 2 3) * (1 : Int))))))) + (-(1 : Int)) * ((Nm s u 2 1) * (((0 : Int) + (1 : Int) * ((Nm s u 0 2) * ((0 : Int) + (1 : Int) * ((Nm s u 3 3) * (1 : Int))))) + (-(1 : Int)) * ((Nm s u 3 2) * ((0 : Int) + (1 : Int) * ((Nm s u 0 3) * (1 : Int))))))) + (-(-(1 : Int))) * ((Nm s u 3 1) * (((0 : Int) + (1 : Int) * ((Nm s u 0 2) * ((0 : Int) + (1 : Int) * ((Nm s u 2 3) * (1 : Int))))) + (-(1 : Int)) * ((Nm s u 2 2) * ((0 : Int) + (1 : Int) * ((Nm s u 0 3) * (1 : Int))))))))) + (-(-(1 : Int))) * ((Nm s u 2 0) * ((((0 : Int) + (1 : Int) * ((Nm s u 0 1) * (((0 : Int) + (1 : Int) * ((Nm s u 1 2) * ((0 : Int) + (1 : Int) * ((Nm s u 3 3) * (1 : Int))))) + (-(1 : Int)) * ((Nm s u 3 2) * ((0 : Int) + (1 : Int) * ((Nm s u 1 3) * (1 : Int))))))) + (-(1 : Int)) * ((Nm s u 1 1) * (((0 : Int) + (1 : Int) * ((Nm s u 0 2) * ((0 : Int) + (1 : Int) * ((Nm s u 3 3) * (1 : Int))))) + (-(1 : Int)) * ((Nm s u 3 2) * ((0 : Int) + (1 : Int) * ((Nm s u 0 3) * (1 : Int))))))) + (-(-(1 : Int))) * ((Nm s u 3 1) * (((0 : Int) + (1 : Int) * ((Nm s u 0 2) * ((0 : Int) + (1 : Int) * ((Nm s u 1 3) * (1 : Int))))) + (-(1 : Int)) * ((Nm s u 1 2) * ((0 : Int) + (1 : Int) * ((Nm s u 0 3) * (1 : Int))))))))) + (-(-(-(1 : Int)))) * ((Nm s u 3 0) * ((((0 : Int) + (1 : Int) * ((Nm s u 0 1) * (((0 : Int) + (1 : Int) * ((Nm s u 1 2) * ((0 : Int) + (1 : Int) * ((Nm s u 2 3) * (1 : Int))))) + (-(1 : Int)) * ((Nm s u 2 2) * ((0 : Int) + (1 : Int) * ((Nm s u 1 3) * (1 : Int))))))) + (-(1 : Int)) * ((Nm s u 1 1) * (((0 : Int) + (1 : Int) * ((Nm s u 0 2) * ((0 : Int) + (1 : Int) * ((Nm s u 2 3) * (1 : Int))))) + (-(1 : Int)) * ((Nm s u 2 2) * ((0 : Int) + (1 : Int) * ((Nm s u 0 3) * (1 : Int))))))) + (-(-(1 : Int))) * ((Nm s u 2 1) * (((0 : Int) + (1 : Int) * ((Nm s u 0 2) * ((0 : Int) + (1 : Int) * ((Nm s u 1 3) * (1 : Int))))) + (-(1 : Int)) * ((Nm s u 1 2) * ((0 : Int) + (1 : Int) * ((Nm s u 0 3) * (1 : Int))))))))))) := rfl
set_option maxRecDepth 20000 in
set_option maxHeartbeats 4000000 in
theorem d4_det (s : Nat) (u : Nat → Nat) : mnr (mxv s u 4 (fun _ => false)) 5 5 0 0 = (1 : Int) * sm 4 (wgt s u 4) := (q4_det s u).trans (i4_det (Nm s u 0 0) (Nm s u 0 1) (Nm s u 0 2) (Nm s u 0 3) (Nm s u 1 0) (Nm s u 1 1) (Nm s u 1 2) (Nm s u 1 3) (Nm s u 2 0) (Nm s u 2 1) (Nm s u 2 2) (Nm s u 2 3) (Nm s u 3 0) (Nm s u 3 1) (Nm s u 3 2) (Nm s u 3 3))
set_option maxRecDepth 20000 in
set_option maxHeartbeats 4000000 in
theorem i4_up0 (n00 n01 n02 n03 n10 n11 n12 n13 n20 n21 n22 n23 n30 n31 n32 n33 : Int) : ((((((0 : Int) + (1 : Int) * ((1 : Int) * (((((0 : Int) + (1 : Int) * (n10 * ((((0 : Int) + (1 : Int) * (n21 * (((0 : Int) + (1 : Int) * (n32 * ((0 : Int) + (1 : Int) * ((-1 : Int) * (1 : Int))))) + (-(1 : Int)) * ((-1 : Int) * ((0 : Int) + (1 : Int) * (n33 * (1 : Int))))))) + (-(1 : Int)) * (n31 * (((0 : Int) + (1 : Int) * (n22 * ((0 : Int) + (1 : Int) * ((-1 : Int) * (1 : Int))))) + (-(1 : Int)) * ((-1 : Int) * ((0 : Int) + (1 : Int) * (n23 * (1 : Int))))))) + (-(-(1 : Int))) * ((-1 : Int) * (((0 : Int) + (1 : Int) * (n22 * ((0 : Int) + (1 : Int) * (n33 * (1 : Int))))) + (-(1 : Int)) * (n32 * ((0 : Int) + (1 : Int) * (n23 * (1 : Int))))))))) + (-(1 : Int)) * (n20 * ((((0 : Int) + (1 : Int) * (n11 * (((0 : Int) + (1 : Int) * (n32 * ((0 : Int) + (1 : Int) * ((-1 : Int) * (1 : Int))))) + (-(1 : Int)) * ((-1 : Int) * ((0 : Int) + (1 : Int) * (n33 * (1 : Int))))))) + (-(1 : Int)) * (n31 * (((0 : Int) + (1 : Int) * (n12 * ((0 : Int) + (1 : Int) * ((-1 : Int) * (1 : Int))))) + (-(1 : Int)) * ((-1 : Int) * ((0 : Int) + (1 : Int) * (n13 * (1 : Int))))))) + (-(-(1 : Int))) * ((-1 : Int) * (((0 : Int) + (1 : Int) * (n12 * ((0 : Int) + (1 : Int) * (n33 * (1 : Int))))) + (-(1 : Int)) * (n32 * ((0 : Int) + (1 : Int) * (n13 * (1 : Int))))))))) + (-(-(1 : Int))) * (n30 * ((((0 : Int) + (1 : Int) * (n11 * (((0 : Int) + (1 : Int) * (n22 * ((0 : Int) + (1 : Int) * ((-1 : Int) * (1 : Int))))) + (-(1 : Int)) * ((-1 : Int) * ((0 : Int) + (1 : Int) * (n23 * (1 : Int))))))) + (-(1 : Int)) * (n21 * (((0 : Int) + (1 : Int) * (n12 * ((0 : Int) + (1 : Int) * ((-1 : Int) * (1 : Int))))) + (-(1 : Int)) * ((-1 : Int) * ((0 : Int) + (1 : Int) * (n13 * (1 : Int))))))) + (-(-(1 : Int))) * ((-1 : Int) * (((0 : Int) + (1 : Int) * (n12 * ((0 : Int) + (1 : Int) * (n23 * (1 : Int))))) + (-(1 : Int)) * (n22 * ((0 : Int) + (1 : Int) * (n13 * (1 : Int))))))))) + (-(-(-(1 : Int)))) * ((-1 : Int) * ((((0 : Int) + (1 : Int) * (n11 * (((0 : Int) + (1 : Int) * (n22 * ((0 : Int) + (1 : Int) * (n33 * (1 : Int))))) + (-(1 : Int)) * (n32 * ((0 : Int) + (1 : Int) * (n23 * (1 : Int))))))) + (-(1 : Int)) * (n21 * (((0 : Int) + (1 : Int) * (n12 * ((0 : Int) + (1 : Int) * (n33 * (1 : Int))))) + (-(1 : Int)) * (n32 * ((0 : Int) + (1 : Int) * (n13 * (1 : Int))))))) + (-(-(1 : Int))) * (n31 * (((0 : Int) + (1 : Int) * (n12 * ((0 : Int) + (1 : Int) * (n23 * (1 : Int))))) + (-(1 : Int)) * (n22 * ((0 : Int) + (1 : Int) * (n13 * (1 : Int))))))))))) + (-(1 : Int)) * ((1 : Int) * (((((0 : Int) + (1 : Int) * ((0 : Int) * ((((0 : Int) + (1 : Int) * (n21 * (((0 : Int) + (1 : Int) * (n32 * ((0 : Int) + (1 : Int) * ((-1 : Int) * (1 : Int))))) + (-(1 : Int)) * ((-1 : Int) * ((0 : Int) + (1 : Int) * (n33 * (1 : Int))))))) + (-(1 : Int)) * (n31 * (((0 : Int) + (1 : Int) * (n22 * ((0 : Int) + (1 : Int) * ((-1 : Int) * (1 : Int))))) + (-(1 : Int)) * ((-1 : Int) * ((0 : Int) + (1 : Int) * (n23 * (1 : Int))))))) + (-(-(1 : Int))) * ((-1 : Int) * (((0 : Int) + (1 : Int) * (n22 * ((0 : Int) + (1 : Int) * (n33 * (1 : Int))))) + (-(1 : Int)) * (n32 * ((0 : Int) + (1 : Int) * (n23 * (1 : Int))))))))) + (-(1 : Int)) * (n20 * ((((0 : Int) + (1 : Int) * ((0 : Int) * (((0 : Int) + (1 : Int) * (n32 * ((0 : Int) + (1 : Int) * ((-1 : Int) * (1 : Int))))) + (-(1 : Int)) * ((-1 : Int) * ((0 : Int) + (1 : Int) * (n33 * (1 : Int))))))) + (-(1 : Int)) * (n31 * (((0 : Int) + (1 : Int) * ((0 : Int) * ((0 : Int) + (1 : Int) * ((-1 : Int) * (1 : Int))))) + (-(1 : Int)) * ((-1 : Int) * ((0 : Int) + (1 : Int) * ((0 : Int) * (1 : Int))))))) + (-(-(1 : Int))) * ((-1 : Int) * (((0 : Int) + (1 : Int) * ((0 : Int) * ((0 : Int) + (1 : Int) * (n33 * (1 : Int))))) + (-(1 : Int)) * (n32 * ((0 : Int) + (1 : Int) * ((0 : Int) * (1 : Int))))))))) + (-(-(1 : Int))) * (n30 * ((((0 : Int) + (1 : Int) * ((0 : Int) * (((0 : Int) + (1 : Int) * (n22 * ((0 : Int) + (1 : Int) * ((-1 : Int) * (1 : Int))))) + (-(1 : Int)) * ((-1 : Int) * ((0 : Int) + (1 : Int) * (n23 * (1 : Int))))))) + (-(1 : Int)) * (n21 * (((0 : Int) + (1 : Int) * ((0 : Int) * ((0 : Int) + (1 : Int) * ((-1 : Int) * (1 : Int))))) + (-(1 : Int)) * ((-1 : Int) * ((0 : Int) + (1 : Int) * ((0 : Int) * (1 : Int))))))) + (-(-(1 : Int))) * ((-1 : Int) * (((0 : Int) + (1 : Int) * ((0 : Int) * ((0 : Int) + (1 : Int) * (n23 * (1 : Int))))) + (-(1 : Int)) * (n22 * ((0 : Int) + (1 : Int) * ((0 : Int) * (1 : Int))))))))) + (-(-(-(1 : Int)))) * ((-1 : Int) * ((((0 : Int) + (1 : Int) * ((0 : Int) * (((0 : Int) + (1 : Int) * (n22 * ((0 : Int) + (1 : Int) * (n33 * (1 : Int))))) + (-(1 : Int)) * (n32 * ((0 : Int) + (1 : Int) * (n23 * (1 : Int))))))) + (-(1 : Int)) * (n21 * (((0 : Int) + (1 : Int) * ((0 : Int) * ((0 : Int) + (1 : Int) * (n33 * (1 : Int))))) + (-(1 : Int)) * (n32 * ((0 : Int) + (1 : Int) * ((0 : Int) * (1 : Int))))))) + (-(-(1 : Int))) * (n31 * (((0 : Int) + (1 : Int) * ((0 : Int) * ((0 : Int) + (1 : Int) * (n23 * (1 : Int))))) + (-(1 : Int)) * (n22 * ((0 : Int) + (1 : Int) * ((0 : Int) * (1 : Int))))))))))) + (-(-(1 : Int))) * ((1 : Int) * (((((0 : Int) + (1 : Int) * ((0 : Int) * ((((0 : Int) + (1 : Int) * (n11 * (((0 : Int) + (1 : Int) * (n32 * ((0 : Int) + (1 : Int) * ((-1 : Int) * (1 : Int))))) + (-(1 : Int)) * ((-1 : Int) * ((0 : Int) + (1 : Int) * (n33 * (1 : Int))))))) + (-(1 : Int)) * (n31 * (((0 : Int) + (1 : Int) * (n12 * ((0 : Int) + (1 : Int) * ((-1 : Int) * (1 : Int))))) + (-(1 : Int)) * ((-1 : Int) * ((0 : Int) + (1 : Int) * (n13 * (1 : Int))))))) + (-(-(1 : Int))) * ((-1 : Int) * (((0 : Int) + (1 : Int) * (n12 * ((0 : Int) + (1 : Int) * (n33 * (1 : Int))))) + (-(1 : Int)) * (n32 * ((0 : Int) + (1 : Int) * (n13 * (1 : Int))))))))) + (-(1 : Int)) * (n10 * ((((0 : Int) + (1 : Int) * ((0 : Int) * (((0 : Int) + (1 : Int) * (n32 * ((0 : Int) + (1 : Int) * ((-1 : Int) * (1 : Int))))) + (-(1 : Int)) * ((-1 : Int) * ((0 : Int) + (1 : Int) * (n33 * (1 : Int))))))) + (-(1 : Int)) * (n31 * (((0 : Int) + (1 : Int) * ((0 : Int) * ((0 : Int) + (1 : Int) * ((-1 : Int) * (1 : Int))))) + (-(1 : Int)) * ((-1 : Int) * ((0 : Int) + (1 : Int) * ((0 : Int) * (1 : Int))))))) + (-(-(1 : Int))) * ((-1 : Int) * (((0 : Int) + (1 : Int) * ((0 : Int) * ((0 : Int) + (1 : Int) * (n33 * (1 : Int))))) + (-(1 : Int)) * (n32 * ((0 : Int) + (1 : Int) * ((0 : Int) * (1 : Int))))))))) + (-(-(1 : Int))) * (n30 * ((((0 : Int) + (1 : Int) * ((0 : Int) * (((0 : Int) + (1 : Int) * (n12 * ((0 : Int) + (1 : Int) * ((-1 : Int) * (1 : Int))))) + (-(1 : Int)) * ((-1 : Int) * ((0 : Int) + (1 : Int) * (n13 * (1 : Int))))))) + (-(1 : Int)) * (n11 * (((0 : Int) + (1 : Int) * ((0 : Int) * ((0 : Int) + (1 : Int) * ((-1 : Int) * (1 : Int))))) + (-(1 : Int)) * ((-1 : Int) * ((0 : Int) + (1 : Int) * ((0 : Int) * (1 : Int))))))) + (-(-(1 : Int))) * ((-1 : Int) * (((0 : Int) + (1 : Int) * ((0 : Int) * ((0 : Int) + (1 : Int) * (n13 * (1 : Int))))) + (-(1 : Int)) * (n12 * ((0 : Int) + (1 : Int) * ((0 : Int) * (1 : Int))))))))) + (-(-(-(1 : Int)))) * ((-1 : Int) * ((((0 : Int) + (1 : Int) * ((0 : Int) * (((0 : Int) + (1 : Int) * (n12 * ((0 : Int) + (1 : Int) * (n33 * (1 : Int))))) + (-(1 : Int)) * (n32 * ((0 : Int) + (1 : Int) * (n13 * (1 : Int))))))) + (-(1 : Int)) * (n11 * (((0 : Int) + (1 : Int) * ((0 : Int) * ((0 : Int) + (1 : Int) * (n33 * (1 : Int))))) + (-(1 : Int)) * (n32 * ((0 : Int) + (1 : Int) * ((0 : Int) * (1 : Int))))))) + (-(-(1 : Int))) * (n31 * (((0 : Int) + (1 : Int) * ((0 : Int) * ((0 : Int) + (1 : Int) * (n13 * (1 : Int))))) + (-(1 : Int)) * (n12 * ((0 : Int) + (1 : Int) * ((0 : Int) * (1 : Int))))))))))) + (-(-(-(1 : Int)))) * ((1 : Int) * (((((0 : Int) + (1 : Int) * ((0 : Int) * ((((0 : Int) + (1 : Int) * (n11 * (((0 : Int) + (1 : Int) * (n22 * ((0 : Int) + (1 : Int) * ((-1 : Int) * (1 : Int))))) + (-(1 : Int)) * ((-1 : Int) * ((0 : Int) + (1 : Int) * (n23 * (1 : Int))))))) + (-(1 : Int)) * (n21 * (((0 : Int) + (1 : Int) * (n12 * ((0 : Int) + (1 : Int) * ((-1 : Int) * (1 : Int))))) + (-(1 : Int)) * ((-1 : Int) * ((0 : Int) + (1 : Int) * (n13 * (1 : Int))))))) + (-(-(1 : Int))) * ((-1 : Int) * (((0 : Int) + (1 : Int) * (n12 * ((0 : Int) + (1 : Int) * (n23 * (1 : Int))))) + (-(1 : Int)) * (n22 * ((0 : Int) + (1 : Int) * (n13 * (1 : Int))))))))) + (-(1 : Int)) * (n10 * ((((0 : Int) + (1 : Int) * ((0 : Int) * (((0 : Int) + (1 : Int) * (n22 * ((0 : Int) + (1 : Int) * ((-1 : Int) * (1 : Int))))) + (-(1 : Int)) * ((-1 : Int) * ((0 : Int) + (1 : Int) * (n23 * (1 : Int))))))) + (-(1 : Int)) * (n21 * (((0 : Int) + (1 : Int) * ((0 : Int) * ((0 : Int) + (1 : Int) * ((-1 : Int) * (1 : Int))))) + (-(1 : Int)) * ((-1 : Int) * ((0 : Int) + (1 : Int) * ((0 : Int) * (1 : Int))))))) + (-(-(1 : Int))) * ((-1 : Int) * (((0 : Int) + (1 : Int) * ((0 : Int) * ((0 : Int) + (1 : Int) * (n23 * (1 : Int))))) + (-(1 : Int)) * (n22 * ((0 : Int) + (1 : Int) * ((0 : Int) * (1 : Int))))))))) + (-(-(1 : Int))) * (n20 * ((((0 : Int) + (1 : Int) * ((0 : Int) * (((0 : Int) + (1 : Int) * (n12 * ((0 : Int) + (1 : Int) * ((-1 : Int) * (1 : Int))))) + (-(1 : Int)) * ((-1 : Int) * ((0 : Int) + (1 : Int) * (n13 * (1 : Int))))))) + (-(1 : Int)) * (n11 * (((0 : Int) + (1 : Int) * ((0 : Int) * ((0 : Int) + (1 : Int) * ((-1 : Int) * (1 : Int))))) + (-(1 : Int)) * ((-1 : Int) * ((0 : Int) + (1 : Int) * ((0 : Int) * (1 : Int))))))) + (-(-(1 : Int))) * ((-1 : Int) * (((0 : Int) + (1 : Int) * ((0 : Int) * ((0 : Int) + (1 : Int) * (n13 * (1 : Int))))) + (-(1 : Int)) * (n12 * ((0 : Int) + (1 : Int) * ((0 : Int) * (1 : Int))))))))) + (-(-(-(1 : Int)))) * ((-1 : Int) * ((((0 : Int) + (1 : Int) * ((0 : Int) * (((0 : Int) + (1 : Int) * (n12 * ((0 : Int) + (1 : Int) * (n23 * (1 : Int))))) + (-(1 : Int)) * (n22 * ((0 : Int) + (1 : Int) * (n13 * (1 : Int))))))) + (-(1 : Int)) * (n11 * (((0 : Int) + (1 : Int) * ((0 : Int) * ((0 : Int) + (1 : Int) * (n23 * (1 : Int))))) + (-(1 : Int)) * (n22 * ((0 : Int) + (1 : Int) * ((0 : Int) * (1 : Int))))))) + (-(-(1 : Int))) * (n21 * (((0 : Int) + (1 : Int) * ((0 : Int) * ((0 : Int) + (1 : Int) * (n13 * (1 : Int))))) + (-(1 : Int)) * (n12 * ((0 : Int) + (1 : Int) * ((0 : Int) * (1 : Int))))))))))) + (-(-(-(-(1 : Int))))) * ((0 : Int) * (((((0 : Int) + (1 : Int) * ((0 : Int) * ((((0 : Int) + (1 : Int) * (n11 * (((0 : Int) + (1 : Int) * (n22 * ((0 : Int) + (1 : Int) * (n33 * (1 : Int))))) + (-(1 : Int)) * (n32 * ((0 : Int) + (1 : Int) * (n23 * (1 : Int))))))) + (-(1 : Int)) * (n21 * (((0 : Int) + (1 : Int) * (n12 * ((0 : Int) + (1 : Int) * (n33 * (1 : Int))))) + (-(1 : Int)) * (n32 * ((0 : Int) + (1 : Int) * (n13 * (1 : Int))))))) + (-(-(1 : Int))) * (n31 * (((0 : Int) + (1 : Int) * (n12 * ((0 : Int) + (1 : Int) * (n23 * (1 : Int))))) + (-(1 : Int)) * (n22 * ((0 : Int) + (1 : Int) * (n13 * (1 : Int))))))))) + (-(1 : Int)) * (n10 * ((((0 : Int) + (1 : Int) * ((0 : Int) * (((0 : Int) + (1 : Int) * (n22 * ((0 : Int) + (1 : Int) * (n33 * (1 : Int))))) + (-(1 : Int)) * (n32 * ((0 : Int) + (1 : Int) * (n23 * (1 : Int))))))) + (-(1 : Int)) * (n21 * (((0 : Int) + (1 : Int) * ((0 : Int) * ((0 : Int) + (1 : Int) * (n33 * (1 : Int))))) + (-(1 : Int)) * (n32 * ((0 : Int) + (1 : Int) * ((0 : Int) * (1 : Int))))))) + (-(-(1 : Int))) * (n31 * (((0 : Int) + (1 : Int) * ((0 : Int) * ((0 : Int) + (1 : Int) * (n23 * (1 : Int))))) + (-(1 : Int)) * (n22 * ((0 : Int) + (1 : Int) * ((0 : Int) * (1 : Int))))))))) + (-(-(1 : Int))) * (n20 * ((((0 : Int) + (1 : Int) * ((0 : Int) * (((0 : Int) + (1 : Int) * (n12 * ((0 : Int) + (1 : Int) * (n33 * (1 : Int))))) + (-(1 : Int)) * (n32 * ((0 : Int) + (1 : Int) * (n13 * (1 : Int))))))) + (-(1 : Int)) * (n11 * (((0 : Int) + (1 : Int) * ((0 : Int) * ((0 : Int) + (1 : Int) * (n33 * (1 : Int))))) + (-(1 : Int)) * (n32 * ((0 : Int) + (1 : Int) * ((0 : Int) * (1 : Int))))))) + (-(-(1 : Int))) * (n31 * (((0 : Int) + (1 : Int) * ((0 : Int) * ((0 : Int) + (1 : Int) * (n13 * (1 : Int))))) + (-(1 : Int)) * (n12 * ((0 : Int) + (1 : Int) * ((0 : Int) * (1 : Int))))))))) + (-(-(-(1 : Int)))) * (n30 * ((((0 : Int) + (1 : Int) * ((0 : Int) * (((0 : Int) + (1 : Int) * (n12 * ((0 : Int) + (1 : Int) * (n23 * (1 : Int))))) + (-(1 : Int)) * (n22 * ((0 : Int) + (1 : Int) * (n13 * (1 : Int))))))) + (-(1 : Int)) * (n11 * (((0 : Int) + (1 : Int) * ((0 : Int) * ((0 : Int) + (1 : Int) * (n23 * (1 : Int))))) + (-(1 : Int)) * (n22 * ((0 : Int) + (1 : Int) * ((0 : Int) * (1 : Int))))))) + (-(-(1 : Int))) * (n21 * (((0 : Int) + (1 : Int) * ((0 : Int) * ((0 : Int) + (1 : Int) * (n13 * (1 : Int))))) + (-(1 : Int)) * (n12 * ((0 : Int) + (1 : Int) * ((0 : Int) * (1 : Int))))))))))) = (1 : Int) * ((1 : Int) * ((((0 : Int) + (1 : Int) * ((n11 - n10) * (((0 : Int) + (1 : Int) * ((n22 - n20) * ((0 : Int) + (1 : Int) * ((n33 - n30) * (1 : Int))))) + (-(1 : Int)) * ((n32 - n30) * ((0 : Int) + (1 : Int) * ((n23 - n20) * (1 : Int))))))) + (-(1 : Int)) * ((n21 - n20) * (((0 : Int) + (1 : Int) * ((n12 - n10) * ((0 : Int) + (1 : Int) * ((n33 - n30) * (1 : Int))))) + (-(1 : Int)) * ((n32 - n30) * ((0 : Int) + (1 : Int) * ((n13 - n10) * (1 : Int))))))) + (-(-(1 : Int))) * ((n31 - n30) * (((0 : Int) + (1 : Int) * ((n12 - n10) * ((0 : Int) + (1 : Int) * ((n23 - n20) * (1 : Int))))) + (-(1 : Int)) * ((n22 - n20) * ((0 : Int) + (1 : Int) * ((n13 - n10) * (1 : Int)))))))) := by
  simp only [Int.mul_add, Int.add_mul, Int.sub_mul, Int.mul_sub, Int.neg_mul, Int.mul_neg, Int.one_mul, Int.mul_one, Int.zero_mul, Int.mul_zero, Int.zero_add, Int.add_zero, Int.neg_neg, Int.neg_zero, Int.sub_zero, Int.zero_sub, Int.mul_assoc, Int.mul_comm, Int.mul_left_comm]
  try omega
set_option maxRecDepth 20000 in
set_option maxHeartbeats 4000000 in
theorem q4_up0 (s : Nat) (u : Nat → Nat) : mnr (mxv s u 4 (fun c => decide (c = 0))) 5 5 0 0 = ((((((0 : Int) + (1 : Int) * ((1 : Int) * (((((0 : Int) + (1 : Int) * ((Nm s u 1 0) * ((((0 : Int) + (1 : Int) * ((Nm s u 2 1) * (((0 : Int) + (1 : Int) * ((Nm s u 3 2) * ((0 : Int) + (1 : Int) * ((-1 : Int) * (1 : Int))))) + (-(1 : Int)) * ((-1 : Int) * ((0 : Int) + (1 : Int) * ((Nm s u 3 3) * (1 : Int))))))) + (-(1 : Int)) * ((Nm s u 3 1) * (((0 : Int) + (1 : Int) * ((Nm s u 2 2) * ((0 : Int) + (1 : Int) * ((-1 : Int) * (1 : Int))))) + (-(1 : Int)) * ((-1 : Int) * ((0 : Int) + (1 : Int) * ((Nm s u 2 3) * (1 : Int))))))) + (-(-(1 : Int))) * ((-1 : Int) * (((0 : Int) + (1 : Int) * ((Nm s u 2 2) * ((0 : Int) + (1 : Int) * ((Nm s u 3 3) * (1 : Int))))) + (-(1 : Int)) * ((Nm s u 3 2) * ((0 : Int) + (1 : Int) * ((Nm s u 2 3) * (1 : Int))))))))) + (-(1 : Int)) * ((Nm s u 2 0) * ((((0 : Int) + (1 : Int) * ((Nm s u 1 1) * (((0 : Int) + (1 : Int) * ((Nm s u 3 2) * ((0 : Int) + (1 : Int) * ((-1 : Int) * (1 : Int))))) + (-(1 : Int)) * ((-1 : Int) * ((0 : Int) + (1 : Int) * ((Nm s u 3 3) * (1 : Int))))))) + (-(1 : Int)) * ((Nm s u 3 1) * (((0 : Int) + (1 : Int) * ((Nm s u 1 2) * ((0 : Int) + (1 : Int) * ((-1 : Int) * (1 : Int))))) + (-(1 : Int)) * ((-1 : Int) * ((0 : Int) + (1 : Int) * ((Nm s u 1 3) * (1 : Int))))))) + (-(-(1 : Int))) * ((-1 : Int) * (((0 : Int) + (1 : Int) * ((Nm s u 1 2) * ((0 : Int) + (1 : Int) * ((Nm s u 3 3) * (1 : Int))))) + (-(1 : Int)) * ((Nm s u 3 2) * ((0 : Int) + (1 : Int) * ((Nm s u 1 3) * (1 : Int))))))))) + (-(-(1 : Int))) * ((Nm s u 3 0) * ((((0 : Int) + (1 : Int) * ((Nm s u 1 1) * (((0 : Int) + (1 : Int) * ((Nm s u 2 2) * ((0 : Int) + (1 : Int) * ((-1 : Int) * (1 : Int))))) + (-(1 : Int)) * ((-1 : Int) * ((0 : Int) + (1 : Int) * ((Nm s u 2 3) * (1 : Int))))))) + (-(1 : Int)) * ((Nm s u 2 1) * (((0 : Int) + (1 : Int) * ((Nm s u 1 2) * ((0 : Int) + (1 : Int) * ((-1 : Int) * (1 : Int))))) + (-(1 : Int)) * ((-1 : Int) * ((0 : Int) + (1 : Int) * ((Nm s u 1 3) * (1 : Int))))))) + (-(-(1 : Int))) * ((-1 : Int) * (((0 : Int) + (1 : Int) * ((Nm s u 1 2) * ((0 : Int) + (1 : Int) * ((Nm s u 2 3) * (1 : Int))))) + (-(1 : Int)) * ((Nm s u 2 2) * ((0 : Int) + (1 : Int) * ((Nm s u 1 3) * (1 : Int))))))))) + (-(-(-(1 : Int)))) * ((-1 : Int) * ((((0 : Int) + (1 : Int) * ((Nm s u 1 1) * (((0 : Int) + (1 : Int) * ((Nm s u 2 2) * ((0 : Int) + (1 : Int) * ((Nm s u 3 3) * (1 : Int))))) + (-(1 : Int)) * ((Nm s u 3 2) * ((0 : Int) + (1 : Int) * ((Nm s u 2 3) * (1 : Int))))))) + (-(1 : Int)) * ((Nm s u 2 1) * (((0 : Int) + (1 : Int) * ((Nm s u 1 2) * ((0 : Int) + (1 : Int) * ((Nm s u 3 3) * (1 : Int))))) + (-(1 : Int)) * ((Nm s u 3 2) * ((0 : Int) + (1 : Int) * ((Nm s u 1 3) * (1 : Int))))))) + (-(-(1 : Int))) * ((Nm s u 3 1) * (((0 : Int) + (1 : Int) * ((Nm s u 1 2) * ((0 : Int) + (1 : Int) * ((Nm s u 2 3) * (1 : Int))))) + (-(1 : Int)) * ((Nm s u 2 2) * ((0 : Int) + (1 : Int) * ((Nm s u 1 3) * (1 : Int))))))))))) + (-(1 : Int)) * ((1 : Int) * (((((0 : Int) + (1 : Int) * ((0 : Int) * ((((0 : Int) + (1 : Int) * ((Nm s u 2 1) * (((0 : Int) + (1 : Int) * ((Nm s u 3 2) * ((0 : Int) + (1 : Int) * ((-1 : Int) * (1 : Int))))) + (-(1 : Int)) * ((-1 : Int) * ((0 : Int) + (1 : Int) * ((Nm s u 3 3) * (1 : Int))))))) + (-(1 : Int)) * ((Nm s u 3 1) * (((0 : Int) + (1 : Int) * ((Nm s u 2 2) * ((0 : Int) + (1 : Int) * ((-1 : Int) * (1 : Int))))) + (-(1 : Int)) * ((-1 : Int) * ((0 : Int) + (1 : Int) * ((Nm s u 2 3) * (1 : Int))))))) + (-(-(1 : Int))) * ((-1 : Int) * (((0 : Int) + (1 : Int) * ((Nm s u 2 2) * ((0 : Int) + (1 : Int) * ((Nm s u 3 3) * (1 : Int))))) + (-(1 : Int)) * ((Nm s u 3 2) * ((0 : Int) + (1 : Int) * ((Nm s u 2 3) * (1 : Int))))))))) + (-(1 : Int)) * ((Nm s u 2 0) * ((((0 : Int) + (1 : Int) * ((0 : Int) * (((0 : Int) + (1 : Int) * ((Nm s u 3 2) * ((0 : Int) + (1 : Int) * ((-1 : Int) * (1 : Int))))) + (-(1 : Int)) * ((-1 : Int) * ((0 : Int) + (1 : Int) * ((Nm s u 3 3) * (1 : Int))))))) + (-(1 : Int)) * ((Nm s u 3 1) * (((0 : Int) + (1 : Int) * ((0 : Int) * ((0 : Int) + (1 : Int) * ((-1 : Int) * (1 : Int))))) + (-(1 : Int)) * ((-1 : Int) * ((0 : Int) + (1 : Int) * ((0 : Int) * (1 : Int))))))) + (-(-(1 : Int))) * ((-1 : Int) * (((0 : Int) + (1 : Int) * ((0 : Int) * ((0 : Int) + (1 : Int) * ((Nm s u 3 3) * (1 : Int))))) + (-(1 : Int)) * ((Nm s u 3 2) * ((0 : Int) + (1 : Int) * ((0 : Int) * (1 : Int))))))))) + (-(-(1 : Int))) * ((Nm s u 3 0) * ((((0 : Int) + (1 : Int) * ((0 : Int) * (((0 : Int) + (1 : Int) * ((Nm s u 2 2) * ((0 : Int) + (1 : Int) * ((-1 : Int) * (1 : Int))))) + (-(1 : Int)) * ((-1 : Int) * ((0 : Int) + (1 : Int) * ((Nm s u 2 3) * (1 : Int))))))) + (-(1 : Int)) * ((Nm s u 2 1) * (((0 : Int) + (1 : Int) * ((0 : Int) * ((0 : Int) + (1 : Int) * ((-1 : Int) * (1 : Int))))) + (-(1 : Int)) * ((-1 : Int) * ((0 : Int) + (1 : Int) * ((0 : Int) * (1 : Int))))))) + (-(-(1 : Int))) * ((-1 : Int) * (((0 : Int) + (1 : Int) * ((0 : Int) * ((0 : Int) + (1 : Int) * ((Nm s u 2 3) * (1 : Int))))) + (-(1 : Int)) * ((Nm s u 2 2) * ((0 : Int) + (1 : Int) * ((0 : Int) * (1 : Int))))))))) + (-(-(-(1 : Int)))) * ((-1 : Int) * ((((0 : Int) + (1 : Int) * ((0 : Int) * (((0 : Int) + (1 : Int) * ((Nm s u 2 2) * ((0 : Int) + (1 : Int) * ((Nm s u 3 3) * (1 : Int))))) + (-(1 : Int)) * ((Nm s u 3 2) * ((0 : Int) + (1 : Int) * ((Nm s u 2 3) * (1 : Int))))))) + (-(1 : Int)) * ((Nm s u 2 1) * (((0 : Int) + (1 : Int) * ((0 : Int) * ((0 : Int) + (1 : Int) * ((Nm s u 3 3) * (1 : Int))))) + (-(1 : Int)) * ((Nm s u 3 2) * ((0 : Int) + (1 : Int) * ((0 : Int) * (1 : Int))))))) + (-(-(1 : Int))) * ((Nm s u 3 1) * (((0 : Int) + (1 : Int) * ((0 : Int) * ((0 : Int) + (1 : Int) * ((Nm s u 2 3) * (1 : Int))))) + (-(1 : Int)) * ((Nm s u 2 2) * ((0 : Int) + (1 : Int) * ((0 : Int) * (1 : Int))))))))))) + (-(-(1 : Int))) * ((1 : Int) * (((((0 : Int) + (1 : Int) * ((0 : Int) * ((((0 : Int) + (1 : Int) * ((Nm s u 1 1) * (((0 : Int) + (1 : Int) * ((Nm s u 3 2) * ((0 : Int) + (1 : Int) * ((-1 : Int) * (1 : Int))))) + (-(1 : Int)) * ((-1 : Int) * ((0 : Int) + (1 : Int) * ((Nm s u 3 3) * (1 : Int))))))) + (-(1 : Int)) * ((Nm s u 3 1) * (((0 : Int) + (1 : Int) * ((Nm s u 1 2) * ((0 : Int) + (1 : Int) * ((-1 : Int) * (1 : Int))))) + (-(1 : Int)) * ((-1 : Int) * ((0 : Int) + (1 : Int) * ((Nm s u 1 3) * (1 : Int))))))) + (-(-(1 : Int))) * ((-1 : Int) * (((0 : Int) + (1 : Int) * ((Nm s u 1 2) * ((0 : Int) + (1 : Int) * ((Nm s u 3 3) * (1 : Int))))) + (-(1 : Int)) * ((Nm s u 3 2) * ((0 : Int) + (1 : Int) * ((Nm s u 1 3) * (1 : Int))))))))) + (-(1 : Int)) * ((Nm s u 1 0) * ((((0 : Int) + (1 : Int) * ((0 : Int) * (((0 : Int) + (1 : Int) * ((Nm s u 3 2) * ((0 : Int) + (1 : Int) * ((-1 : Int) * (1 : Int))))) + (-(1 : Int)) * ((-1 : Int) * ((0 : Int) + (1 : Int) * ((Nm s u 3 3) * (1 : Int))))))) + (-(1 : Int)) * ((Nm s u 3 1) * (((0 : Int) + (1 : Int) * ((0 : Int) * ((0 : Int) + (1 : Int) * ((-1 : Int) * (1 : Int))))) + (-(1 : Int)) * ((-1 : Int) * ((0 : Int) + (1 : Int) * ((0 : Int) * (1 : Int))))))) + (-(-(1 : Int))) * ((-1 : Int) * (((0 : Int) + (1 : Int) * ((0 : Int) * ((0 : Int) + (1 : Int) * ((Nm s u 3 3) * (1 : Int))))) + (-(1 : Int)) * ((Nm s u 3 2) * ((0 : Int) + (1 : Int) * ((0 : Int) * (1 : Int))))))))) + (-(-(1 : Int))) * ((Nm s u 3 0) * ((((0 : Int) + (1 : Int) * ((0 : Int) * (((0 : Int) + (1 : Int) * ((Nm s u 1 2) * ((0 : Int) + (1 : Int) * ((-1 : Int) * (1 : Int))))) + (-(1 : Int)) * ((-1 : Int) * ((0 : Int) + (1 : Int) * ((Nm s u 1 3) * (1 : Int))))))) + (-(1 : Int)) * ((Nm s u 1 1) * (((0 : Int) + (1 : Int) * ((0 : Int) * ((0 : Int) + (1 : Int) * ((-1 : Int) * (1 : Int))))) + (-(1 : Int)) * ((-1 : Int) * ((0 : Int) + (1 : Int) * ((0 : Int) * (1 : Int))))))) + (-(-(1 : Int))) * ((-1 : Int) * (((0 : Int) + (1 : Int) * ((0 : Int) * ((0 : Int) + (1 : Int) * ((Nm s u 1 3) * (1 : Int))))) + (-(1 : Int)) * ((Nm s u 1 2) * ((0 : Int) + (1 : Int) * ((0 : Int) * (1 : Int))))))))) + (-(-(-(1 : Int)))) * ((-1 : Int) * ((((0 : Int) + (1 : Int) * ((0 : Int) * (((0 : Int) + (1 : Int) * ((Nm s u 1 2) * ((0 : Int) + (1 : Int) * ((Nm s u 3 3) * (1 : Int))))) + (-(1 : Int)) * ((Nm s u 3 2) * ((0 : Int) + (1 : Int) * ((Nm s u 1 3) * (1 : Int))))))) + (-(1 : Int)) * ((Nm s u 1 1) * (((0 : Int) + (1 : Int) * ((0 : Int) * ((0 : Int) + (1 : Int) * ((Nm s u 3 3) * (1 : Int))))) + (-(1 : Int)) * ((Nm s u 3 2) * ((0 : Int) + (1 : Int) * ((0 : Int) * (1 : Int))))))) + (-(-(1 : Int))) * ((Nm s u 3 1) * (((0 : Int) + (1 : Int) * ((0 : Int) * ((0 : Int) + (1 : Int) * ((Nm s u 1 3) * (1 : Int))))) + (-(1 : Int)) * ((Nm s u 1 2) * ((0 : Int) + (1 : Int) * ((0 : Int) * (1 : Int))))))))))) + (-(-(-(1 : Int)))) * ((1 : Int) * (((((0 : Int) + (1 : Int) * ((0 : Int) * ((((0 : Int) + (1 : Int) * ((Nm s u 1 1) * (((0 : Int) + (1 : Int) * ((Nm s u 2 2) * ((0 : Int) + (1 : Int) * ((-1 : Int) * (1 : Int))))) + (-(1 : Int)) * ((-1 : Int) * ((0 : Int) + (1 : Int) * ((Nm s u 2 3) * (1 : Int))))))) + (-(1 : Int)) * ((Nm s u 2 1) * (((0 : Int) + (1 : Int) * ((Nm s u 1 2) * ((0 : Int) + (1 : Int) * ((-1 : Int) * (1 : Int))))) + (-(1 : Int)) * ((-1 : Int) * ((0 : Int) + (1 : Int) * ((Nm s u 1 3) * (1 : Int))))))) + (-(-(1 : Int))) * ((-1 : Int) * (((0 : Int) + (1 : Int) * ((Nm s u 1 2) * ((0 : Int) + (1 : Int) * ((Nm s u 2 3) * (1 : Int))))) + (-(1 : Int)) * ((Nm s u 2 2) * ((0 : Int) + (1 : Int) * ((Nm s u 1 3) * (1 : Int))))))))) + (-(1 : Int)) * ((Nm s u 1 0) * ((((0 : Int) + (1 : Int) * ((0 : Int) * (((0 : Int) + (1 : Int) * ((Nm s u 2 2) * ((0 : Int) + (1 : Int) * ((-1 : Int) * (1 : Int))))) + (-(1 : Int)) * ((-1 : Int) * ((0 : Int) + (1 : Int) * ((Nm s u 2 3) * (1 : Int))))))) + (-(1 : Int)) * ((Nm s u 2 1) * (((0 : Int) + (1 : Int) * ((0 : Int) * ((0 : Int) + (1 : Int) * ((-1 : Int) * (1 : Int))))) + (-(1 : Int)) * ((-1 : Int) * ((0 : Int) + (1 : Int) * ((0 : Int) * (1 : Int))))))) + (-(-(1 : Int))) * ((-1 : Int) * (((0 : Int) + (1 : Int) * ((0 : Int) * ((0 : Int) + (1 : Int) * ((Nm s u 2 3) * (1 : Int))))) + (-(1 : Int)) * ((Nm s u 2 2) * ((0 : Int) + (1 : Int) * ((0 : Int) * (1 : Int))))))))) + (-(-(1 : Int))) * ((Nm s u 2 0) * ((((0 : Int) + (1 : Int) * ((0 : Int) * (((0 : Int) + (1 : Int) * ((Nm s u 1 2) * ((0 : Int) + (1 : Int) * ((-1 : Int) * (1 : Int))))) + (-(1 : Int)) * ((-1 : Int) * ((0 : Int) + (1 : Int) * ((Nm s u 1 3) * (1 : Int))))))) + (-(1 : Int)) * ((Nm s u 1 1) * (((0 : Int) + (1 : Int) * ((0 : Int) * ((0 : Int) + (1 : Int) * ((-1 : Int) * (1 : Int))))) + (-(1 : Int)) * ((-1 : Int) * ((0 : Int) + (1 : Int) * ((0 : Int) * (1 : Int))))))) + (-(-(1 : Int))) * ((-1 : Int) * (((0 : Int) + (1 : Int) * ((0 : Int) * ((0 : Int) + (1 : Int) * ((Nm s u 1 3) * (1 : Int))))) + (-(1 : Int)) * ((Nm s u 1 2) * ((0 : Int) + (1 : Int) * ((0 : Int) * (1 : Int))))))))) + (-(-(-(1 : Int)))) * ((-1 : Int) * ((((0 : Int) + (1 : Int) * ((0 : Int) * (((0 : Int) + (1 : Int) * ((Nm s u 1 2) * ((0 : Int) + (1 : Int) * ((Nm s u 2 3) * (1 : Int))))) + (-(1 : Int)) * ((Nm s u 2 2) * ((0 : Int) + (1 : Int) * ((Nm s u 1 3) * (1 : Int))))))) + (-(1 : Int)) * ((Nm s u 1 1) * (((0 : Int) + (1 : Int) * ((0 : Int) * ((0 : Int) + (1 : Int) * ((Nm s u 2 3) * (1 : Int))))) + (-(1 : Int)) * ((Nm s u 2 2) * ((0 : Int) + (1 : Int) * ((0 : Int) * (1 : Int))))))) + (-(-(1 : Int))) * ((Nm s u 2 1) * (((0 : Int) + (1 : Int) * ((0 : Int) * ((0 : Int) + (1 : Int) * ((Nm s u 1 3) * (1 : Int))))) + (-(1 : Int)) * ((Nm s u 1 2) * ((0 : Int) + (1 : Int) * ((0 : Int) * (1 : Int))))))))))) + (-(-(-(-(1 : Int))))) * ((0 : Int) * (((((0 : Int) + (1 : Int) * ((0 : Int) * ((((0 : Int) + (1 : Int) * ((Nm s u 1 1) * (((0 : Int) + (1 : Int) * ((Nm s u 2 2) * ((0 : Int) + (1 : Int) * ((Nm s u 3 3) * (1 : Int))))) + (-(1 : Int)) * ((Nm s u 3 2) * ((0 : Int) + (1 : Int) * ((Nm s u 2 3) * (1 : Int))))))) + (-(1 : Int)) * ((Nm s u 2 1) * (((0 : Int) + (1 : Int) * ((Nm s u 1 2) * ((0 : Int) + (1 : Int) * ((Nm s u 3 3) * (1 : Int))))) + (-(1 : Int)) * ((Nm s u 3 2) * ((0 : Int) + (1 : Int) * ((Nm s u 1 3) * (1 : Int))))))) + (-(-(1 : Int))) * ((Nm s u 3 1) * (((0 : Int) + (1 : Int) * ((Nm s u 1 2) * ((0 : Int) + (1 : Int) * ((Nm s u 2 3) * (1 : Int))))) + (-(1 : Int)) * ((Nm s u 2 2) * ((0 : Int) + (1 : Int) * ((Nm s u 1 3) * (1 : Int))))))))) + (-(1 : Int)) * ((Nm s u 1 0) * ((((0 : Int) + (1 : Int) * ((0 : Int) * (((0 : Int) + (1 : Int) * ((Nm s u 2 2) * ((0 : Int) + (1 : Int) * ((Nm s u 3 3) * (1 : Int))))) + (-(1 : Int)) * ((Nm s u 3 2) * ((0 : Int) + (1 : Int) * ((Nm s u 2 3) * (1 : Int))))))) + (-(1 : Int)) * ((Nm s u 2 1) * (((0 : Int) + (1 : Int) * ((0 : Int) * ((0 : Int) + (1 : Int) * ((Nm s u 3 3) * (1 : Int))))) + (-(1 : Int)) * ((Nm s u 3 2) * ((0 : Int) + (1 : Int) * ((0 : Int) * (1 : Int))))))) + (-(-(1 : Int))) * ((Nm s u 3 1) * (((0 : Int) + (1 : Int) * ((0 : Int) * ((0 : Int) + (1 : Int) * ((Nm s u 2 3) * (1 : Int))))) + (-(1 : Int)) * ((Nm s u 2 2) * ((0 : Int) + (1 : Int) * ((0 : Int) * (1 : Int))))))))) + (-(-(1 : Int))) * ((Nm s u 2 0) * ((((0 : Int) + (1 : Int) * ((0 : Int) * (((0 : Int) + (1 : Int) * ((Nm s u 1 2) * ((0 : Int) + (1 : Int) * ((Nm s u 3 3) * (1 : Int))))) + (-(1 : Int)) * ((Nm s u 3 2) * ((0 : Int) + (1 : Int) * ((Nm s u 1 3) * (1 : Int))))))) + (-(1 : Int)) * ((Nm s u 1 1) * (((0 : Int) + (1 : Int) * ((0 : Int) * ((0 : Int) + (1 : Int) * ((Nm s u 3 3) * (1 : Int))))) + (-(1 : Int)) * ((Nm s u 3 2) * ((0 : Int) + (1 : Int) * ((0 : Int) * (1 : Int))))))) + (-(-(1 : Int))) * ((Nm s u 3 1) * (((0 : Int) + (1 : Int) * ((0 : Int) * ((0 : Int) + (1 : Int) * ((Nm s u 1 3) * (1 : Int))))) + (-(1 : Int)) * ((Nm s u 1 2) * ((0 : Int) + (1 : Int) * ((0 : Int) * (1 : Int))))))))) + (-(-(-(1 : Int)))) * ((Nm s u 3 0) * ((((0 : Int) + (1 : Int) * ((0 : Int) * (((0 : Int) + (1 : Int) * ((Nm s u 1 2) * ((0 : Int) + (1 : Int) * ((Nm s u 2 3) * (1 : Int))))) + (-(1 : Int)) * ((Nm s u 2 2) * ((0 : Int) + (1 : Int) * ((Nm s u 1 3) * (1 : Int))))))) + (-(1 : Int)) * ((Nm s u 1 1) * (((0 : Int) + (1 : Int) * ((0 : Int) * ((0 : Int) + (1 : Int) * ((Nm s u 2 3) * (1 : Int))))) + (-(1 : Int)) * ((Nm s u 2 2) * ((0 : Int) + (1 : Int) * ((0 : Int) * (1 : Int))))))) + (-(-(1 : Int))) * ((Nm s u 2 1) * (((0 : Int) + (1 : Int) * ((0 : Int) * ((0 : Int) + (1 : Int) * ((Nm s u 1 3) * (1 : Int))))) + (-(1 : Int)) * ((Nm s u 1 2) * ((0 : Int) + (1 : Int) * ((0 : Int) * (1 : Int))))))))))) := rfl
set_option maxRecDepth 20000 in
set_option maxHeartbeats 4000000 in
theorem d4_up0 (s : Nat) (u : Nat → Nat) : mnr (mxv s u 4 (fun c => decide (c = 0))) 5 5 0 0 = (1 : Int) * wgt s u 4 0 := (q4_up0 s u).trans (i4_up0 (Nm s u 0 0) (Nm s u 0 1) (Nm s u 0 2) (Nm s u 0 3) (Nm s u 1 0) (Nm s u 1 1) (Nm s u 1 2) (Nm s u 1 3) (Nm s u 2 0) (Nm s u 2 1) (Nm s u 2 2) (Nm s u 2 3) (Nm s u 3 0) (Nm s u 3 1) (Nm s u 3 2) (Nm s u 3 3))
set_option maxRecDepth 20000 in
set_option maxHeartbeats 4000000 in
theorem i4_up1 (n00 n01 n02 n03 n10 n11 n12 n13 n20 n21 n22 n23 n30 n31 n32 n33 : Int) : ((((((0 : Int) + (1 : Int) * ((1 : Int) * (((((0 : Int) + (1 : Int) * ((0 : Int) * ((((0 : Int) + (1 : Int) * (n21 * (((0 : Int) + (1 : Int) * (n32 * ((0 : Int) + (1 : Int) * ((-1 : Int) * (1 : Int))))) + (-(1 : Int)) * ((-1 : Int) * ((0 : Int) + (1 : Int) * (n33 * (1 : Int))))))) + (-(1 : Int)) * (n31 * (((0 : Int) + (1 : Int) * (n22 * ((0 : Int) + (1 : Int) * ((-1 : Int) * (1 : Int))))) + (-(1 : Int)) * ((-1 : Int) * ((0 : Int) + (1 : Int) * (n23 * (1 : Int))))))) + (-(-(1 : Int))) * ((-1 : Int) * (((0 : Int) + (1 : Int) * (n22 * ((0 : Int) + (1 : Int) * (n33 * (1 : Int))))) + (-(1 : Int)) * (n32 * ((0 : Int) + (1 : Int) * (n23 * (1 : Int))))))))) + (-(1 : Int)) * (n20 * ((((0 : Int) + (1 : Int) * ((0 : Int) * (((0 : Int) + (1 : Int) * (n32 * ((0 : Int) + (1 : Int) * ((-1 : Int) * (1 : Int))))) + (-(1 : Int)) * ((-1 : Int) * ((0 : Int) + (1 : Int) * (n33 * (1 : Int))))))) + (-(1 : Int)) * (n31 * (((0 : Int) + (1 : Int) * ((0 : Int) * ((0 : Int) + (1 : Int) * ((-1 : Int) * (1 : Int))))) + (-(1 : Int)) * ((-1 : Int) * ((0 : Int) + (1 : Int) * ((0 : Int) * (1 : Int))))))) + (-(-(1 : Int))) * ((-1 : Int) * (((0 : Int) + (1 : Int) * ((0 : Int) * ((0 : Int) + (1 : Int) * (n33 * (1 : Int))))) + (-(1 : Int)) * (n32 * ((0 : Int) + (1 : Int) * ((0 : Int) * (1 : Int))))))))) + (-(-(1 : Int))) * (n30 * ((((0 : Int) + (1 : Int) * ((0 : Int) * (((0 : Int) + (1 : Int) * (n22 * ((0 : Int) + (1 : Int) * ((-1 : Int) * (1 : Int))))) + (-(1 : Int)) * ((-1 : Int) * ((0 : Int) + (1 : Int) * (n23 * (1 : Int))))))) + (-(1 : Int)) * (n21 * (((0 : Int) + (1 : Int) * ((0 : Int) * ((0 : Int) + (1 : Int) * ((-1 : Int) * (1 : Int))))) + (-(1 : Int)) * ((-1 : Int) * ((0 : Int) + (1 : Int) * ((0 : Int) * (1 : Int))))))) + (-(-(1 : Int))) * ((-1 : Int) * (((0 : Int) + (1 : Int) * ((0 : Int) * ((0 : Int) + (1 : Int) * (n23 * (1 : Int))))) + (-(1 : Int)) * (n22 * ((0 : Int) + (1 : Int) * ((0 : Int) * (1 : Int))))))))) + (-(-(-(1 : Int)))) * ((-1 : Int) * ((((0 : Int) + (1 : Int) * ((0 : Int) * (((0 : Int) + (1 : Int) * (n22 * ((0 : Int) + (1 : Int) * (n33 * (1 : Int))))) + (-(1 : Int)) * (n32 * ((0 : Int) + (1 : Int) * (n23 * (1 : Int))))))) + (-(1 : Int)) * (n21 * (((0 : Int) + (1 : Int) * ((0 : Int) * ((0 : Int) + (1 : Int) * (n33 * (1 : Int))))) + (-(1 : Int)) * (n32 * ((0 : Int) + (1 : Int) * ((0 : Int) * (1 : Int))))))) + (-(-(1 : Int))) * (n31 * (((0 : Int) + (1 : Int) * ((0 : Int) * ((0 : Int) + (1 : Int) * (n23 * (1 : Int))))) + (-(1 : Int)) * (n22 * ((0 : Int) + (1 : Int) * ((0 : Int) * (1 : Int))))))))))) + (-(1 : Int)) * ((1 : Int) * (((((0 : Int) + (1 : Int) * (n00 * ((((0 : Int) + (1 : Int) * (n21 * (((0 : Int) + (1 : Int) * (n32 * ((0 : Int) + (1 : Int) * ((-1 : Int) * (1 : Int))))) + (-(1 : Int)) * ((-1 : Int) * ((0 : Int) + (1 : Int) * (n33 * (1 : Int))))))) + (-(1 : Int)) * (n31 * (((0 : Int) + (1 : Int) * (n22 * ((0 : Int) + (1 : Int) * ((-1 : Int) * (1 : Int))))) + (-(1 : Int)) * ((-1 : Int) * ((0 : Int) + (1 : Int) * (n23 * (1 : Int))))))) + (-(-(1 : Int))) * ((-1 : Int) * (((0 : Int) + (1 : Int) * (n22 * ((0 : Int) + (1 : Int) * (n33 * (1 : Int))))) + (-(1 : Int)) * (n32 * ((0 : Int) + (1 : Int) * (n23 * (1 : Int))))))))) + (-(1 : Int)) * (n20 * ((((0 : Int) + (1 : Int) * (n01 * (((0 : Int) + (1 : Int) * (n32 * ((0 : Int) + (1 : Int) * ((-1 : Int) * (1 : Int))))) + (-(1 : Int)) * ((-1 : Int) * ((0 : Int) + (1 : Int) * (n33 * (1 : Int))))))) + (-(1 : Int)) * (n31 * (((0 : Int) + (1 : Int) * (n02 * ((0 : Int) + (1 : Int) * ((-1 : Int) * (1 : Int))))) + (-(1 : Int)) * ((-1 : Int) * ((0 : Int) + (1 : Int) * (n03 * (1 : Int))))))) + (-(-(1 : Int))) * ((-1 : Int) * (((0 : Int) + (1 : Int) * (n02 * ((0 : Int) + (1 : Int) * (n33 * (1 : Int))))) + (-(1 : Int)) * (n32 * ((0 : Int) + (1 : Int) * (n03 * (1 : Int))))))))) + (-(-(1 : Int))) * (n30 * ((((0 : Int) + (1 : Int) * (n01 * (((0 : Int) + (1 : Int) * (n22 * ((0 : Int) + (1 : Int) * ((-1 : Int) * (1 : Int))))) + (-(1 : Int)) * ((-1 : Int) * ((0 : Int) + (1 : Int) * (n23 * (1 : Int))))))) + (-(1 : Int)) * (n21 * (((0 : Int) + (1 : Int) * (n02 * ((0 : Int) + (1 : Int) * ((-1 : Int) * (1 : Int))))) + (-(1 : Int)) * ((-1 : Int) * ((0 : Int) + (1 : Int) * (n03 * (1 : Int))))))) + (-(-(1 : Int))) * ((-1 : Int) * (((0 : Int) + (1 : Int) * (n02 * ((0 : Int) + (1 : Int) * (n23 * (1 : Int))))) + (-(1 : Int)) * (n22 * ((0 : Int) + (1 : Int) * (n03 * (1 : Int))))))))) + (-(-(-(1 : Int)))) * ((-1 : Int) * ((((0 : Int) + (1 : Int) * (n01 * (((0 : Int) + (1 : Int) * (n22 * ((0 : Int) + (1 : Int) * (n33 * (1 : Int))))) + (-(1 : Int)) * (n32 * ((0 : Int) + (1 : Int) * (n23 * (1 : Int))))))) + (-(1 : Int)) * (n21 * (((0 : Int) + (1 : Int) * (n02 * ((0 : Int) + (1 : Int) * (n33 * (1 : Int))))) + (-(1 : Int)) * (n32 * ((0 : Int) + (1 : Int) * (n03 * (1 : Int))))))) + (-(-(1 : Int))) * (n31 * (((0 : Int) + (1 : Int) * (n02 * ((0 : Int) + (1 : Int) * (n23 * (1 : Int))))) + (-(1 : Int)) * (n22 * ((0 : Int) + (1 : Int) * (n03 * (1 : Int))))))))))) + (-(-(1 : Int))) * ((1 : Int) * (((((0 : Int) + (1 : Int) * (n00 * ((((0 : Int) + (1 : Int) * ((0 : Int) * (((0 : Int) + (1 : Int) * (n32 * ((0 : Int) + (1 : Int) * ((-1 : Int) * (1 : Int))))) + (-(1 : Int)) * ((-1 : Int) * ((0 : Int) + (1 : Int) * (n33 * (1 : Int))))))) + (-(1 : Int)) * (n31 * (((0 : Int) + (1 : Int) * ((0 : Int) * ((0 : Int) + (1 : Int) * ((-1 : Int) * (1 : Int))))) + (-(1 : Int)) * ((-1 : Int) * ((0 : Int) + (1 : Int) * ((0 : Int) * (1 : Int))))))) + (-(-(1 : Int))) * ((-1 : Int) * (((0 : Int) + (1 : Int) * ((0 : Int) * ((0 : Int) + (1 : Int) * (n33 * (1 : Int))))) + (-(1 : Int)) * (n32 * ((0 : Int) + (1 : Int) * ((0 : Int) * (1 : Int))))))))) + (-(1 : Int)) * ((0 : Int) * ((((0 : Int) + (1 : Int) * (n01 * (((0 : Int) + (1 : Int) * (n32 * ((0 : Int) + (1 : Int) * ((-1 : Int) * (1 : Int))))) + (-(1 : Int)) * ((-1 : Int) * ((0 : Int) + (1 : Int) * (n33 * (1 : Int))))))) + (-(1 : Int)) * (n31 * (((0 : Int) + (1 : Int) * (n02 * ((0 : Int) + (1 : Int) * ((-1 : Int) * (1 : Int))))) + (-(1 : Int)) * ((-1 : Int) * ((0 : Int) + (1 : Int) * (n03 * (1 : Int))))))) + (-(-(1 : Int))) * ((-1 : Int) * (((0 : Int) + (1 : Int) * (n02 * ((0 : Int) + (1 : Int) * (n33 * (1 : Int))))) + (-(1 : Int)) * (n32 * ((0 : Int) + (1 : Int) * (n03 * (1 : Int))))))))) + (-(-(1 : Int))) * (n30 * ((((0 : Int) + (1 : Int) * (n01 * (((0 : Int) + (1 : Int) * ((0 : Int) * ((0 : Int) + (1 : Int) * ((-1 : Int) * (1 : Int))))) + (-(1 : Int)) * ((-1 : Int) * ((0 : Int) + (1 : Int) * ((0 : Int) * (1 : Int))))))) + (-(1 : Int)) * ((0 : Int) * (((0 : Int) + (1 : Int) * (n02 * ((0 : Int) + (1 : Int) * ((-1 : Int) * (1 : Int))))) + (-(1 : Int)) * ((-1 : Int) * ((0 : Int) + (1 : Int) * (n03 * (1 : Int))))))) + (-(-(1 : Int))) * ((-1 : Int) * (((0 : Int) + (1 : Int) * (n02 * ((0 : Int) + (1 : Int) * ((0 : Int) * (1 : Int))))) + (-(1 : Int)) * ((0 : Int) * ((0 : Int) + (1 : Int) * (n03 * (1 : Int))))))))) + (-(-(-(1 : Int)))) * ((-1 : Int) * ((((0 : Int) + (1 : Int) * (n01 * (((0 : Int) + (1 : Int) * ((0 : Int) * ((0 : Int) + (1 : Int) * (n33 * (1 : Int))))) + (-(1 : Int)) * (n32 * ((0 : Int) + (1 : Int) * ((0 : Int) * (1 : Int))))))) + (-(1 : Int)) * ((0 : Int) * (((0 : Int) + (1 : Int) * (n02 * ((0 : Int) + (1 : Int) * (n33 * (1 : Int))))) + (-(1 : Int)) * (n32 * ((0 : Int) + (1 : Int) * (n03 * (1 : Int))))))) + (-(-(1 : Int))) * (n31 * (((0 : Int) + (1 : Int) * (n02 * ((0 : Int) + (1 : Int) * ((0 : Int) * (1 : Int))))) + (-(1 : Int)) * ((0 : Int) * ((0 : Int) + (1 : Int) * (n03 * (1 : Int))))))))))) + (-(-(-(1 : Int)))) * ((1 : Int) * (((((0 : Int) + (1 : Int) * (n00 * ((((0 : Int) + (1 : Int) * ((0 : Int) * (((0 : Int) + (1 : Int) * (n22 * ((0 : Int) + (1 : Int) * ((-1 : Int) * (1 : Int))))) + (-(1 : Int)) * ((-1 : Int) * ((0 : Int) + (1 : Int) * (n23 * (1 : Int))))))) + (-(1 : Int)) * (n21 * (((0 : Int) + (1 : Int) * ((0 : Int) * ((0 : Int) + (1 : Int) * ((-1 : Int) * (1 : Int))))) + (-(1 : Int)) * ((-1 : Int) * ((0 : Int) + (1 : Int) * ((0 : Int) * (1 : Int))))))) + (-(-(1 : Int))) * ((-1 : Int) * (((0 : Int) + (1 : Int) * ((0 : Int) * ((0 : Int) + (1 : Int) * (n23 * (1 : Int))))) + (-(1 : Int)) * (n22 * ((0 : Int) + (1 : Int) * ((0 : Int) * (1 : Int))))))))) + (-(1 : Int)) * ((0 : Int) * ((((0 : Int) + (1 : Int) * (n01 * (((0 : Int) + (1 : Int) * (n22 * ((0 : Int) + (1 : Int) * ((-1 : Int) * (1 : Int))))) + (-(1 : Int)) * ((-1 : Int) * ((0 : Int) + (1 : Int) * (n23 * (1 : Int))))))) + (-(1 : Int)) * (n21 * (((0 : Int) + (1 : Int) * (n02 * ((0 : Int) + (1 : Int) * ((-1 : Int) * (1 : Int))))) + (-(1 : Int)) * ((-1 : Int) * ((0 : Int) + (1 : Int) * (n03 * (1 : Int))))))) + (-(-(1 : Int))) * ((-1 : Int) * (((0 : Int) + (1 : Int) * (n02 * ((0 : Int) + (1 : Int) * (n23 * (1 : Int))))) + (-(1 : Int)) * (n22 * ((0 : Int) + (1 : Int) * (n03 * (1 : Int))))))))) + (-(-(1 : Int))) * (n20 * ((((0 : Int) + (1 : Int) * (n01 * (((0 : Int) + (1 : Int) * ((0 : Int) * ((0 : Int) + (1 : Int) * ((-1 : Int) * (1 : Int))))) + (-(1 : Int)) * ((-1 : Int) * ((0 : Int) + (1 : Int) * ((0 : Int) * (1 : Int))))))) + (-(1 : Int)) * ((0 : Int) * (((0 : Int) + (1 : Int) * (n02 * ((0 : Int) + (1 : Int) * ((-1 : Int) * (1 : Int))))) + (-(1 : Int)) * ((-1 : Int) * ((0 : Int) + (1 : Int) * (n03 * (1 : Int))))))) + (-(-(1 : Int))) * ((-1 : Int) * (((0 : Int) + (1 : Int) * (n02 * ((0 : Int) + (1 : Int) * ((0 : Int) * (1 : Int))))) + (-(1 : Int)) * ((0 : Int) * ((0 : Int) + (1 : Int) * (n03 * (1 : Int))))))))) + (-(-(-(1 : Int)))) * ((-1 : Int) * ((((0 : Int) + (1 : Int) * (n01 * (((0 : Int) + (1 : Int) * ((0 : Int) * ((0 : Int) + (1 : Int) * (n23 * (1 : Int))))) + (-(1 : Int)) * (n22 * ((0 : Int) + (1 : Int) * ((0 : Int) * (1 : Int))))))) + (-(1 : Int)) * ((0 : Int) * (((0 : Int) + (1 : Int) * (n02 * ((0 : Int) + (1 : Int) * (n23 * (1 : Int))))) + (-(1 : Int)) * (n22 * ((0 : Int) + (1 : Int) * (n03 * (1 : Int))))))) + (-(-(1 : Int))) * (n21 * (((0 : Int) + (1 : Int) * (n02 * ((0 : Int) + (1 : Int) * ((0 : Int) * (1 : Int))))) + (-(1 : Int)) * ((0 : Int) * ((0 : Int) + (1 : Int) * (n03 * (1 : Int))))))))))) + (-(-(-(-(1 : Int))))) * ((0 : Int) * (((((0 : Int) + (1 : Int) * (n00 * ((((0 : Int) + (1 : Int) * ((0 : Int) * (((0 : Int) + (1 : Int) * (n22 * ((0 : Int) + (1 : Int) * (n33 * (1 : Int))))) + (-(1 : Int)) * (n32 * ((0 : Int) + (1 : Int) * (n23 * (1 : Int))))))) + (-(1 : Int)) * (n21 * (((0 : Int) + (1 : Int) * ((0 : Int) * ((0 : Int) + (1 : Int) * (n33 * (1 : Int))))) + (-(1 : Int)) * (n32 * ((0 : Int) + (1 : Int) * ((0 : Int) * (1 : Int))))))) + (-(-(1 : Int))) * (n31 * (((0 : Int) + (1 : Int) * ((0 : Int) * ((0 : Int) + (1 : Int) * (n23 * (1 : Int))))) + (-(1 : Int)) * (n22 * ((0 : Int) + (1 : Int) * ((0 : Int) * (1 : Int))))))))) + (-(1 : Int)) * ((0 : Int) * ((((0 : Int) + (1 : Int) * (n01 * (((0 : Int) + (1 : Int) * (n22 * ((0 : Int) + (1 : Int) * (n33 * (1 : Int))))) + (-(1 : Int)) * (n32 * ((0 : Int) + (1 : Int) * (n23 * (1 : Int))))))) + (-(1 : Int)) * (n21 * (((0 : Int) + (1 : Int) * (n02 * ((0 : Int) + (1 : Int) * (n33 * (1 : Int))))) + (-(1 : Int)) * (n32 * ((0 : Int) + (1 : Int) * (n03 * (1 : Int))))))) + (-(-(1 : Int))) * (n31 * (((0 : Int) + (1 : Int) * (n02 * ((0 : Int) + (1 : Int) * (n23 * (1 : Int))))) + (-(1 : Int)) * (n22 * ((0 : Int) + (1 : Int) * (n03 * (1 : Int))))))))) + (-(-(1 : Int))) * (n20 * ((((0 : Int) + (1 : Int) * (n01 * (((0 : Int) + (1 : Int) * ((0 : Int) * ((0 : Int) + (1 : Int) * (n33 * (1 : Int))))) + (-(1 : Int)) * (n32 * ((0 : Int) + (1 : Int) * ((0 : Int) * (1 : Int))))))) + (-(1 : Int)) * ((0 : Int) * (((0 : Int) + (1 : Int) * (n02 * ((0 : Int) + (1 : Int) * (n33 * (1 : Int))))) + (-(1 : Int)) * (n32 * ((0 : Int) + (1 : Int) * (n03 * (1 : Int))))))) + (-(-(1 : Int))) * (n31 * (((0 : Int) + (1 : Int) * (n02 * ((0 : Int) + (1 : Int) * ((0 : Int) * (1 : Int))))) + (-(1 : Int)) * ((0 : Int) * ((0 : Int) + (1 : Int) * (n03 * (1 : Int))))))))) + (-(-(-(1 : Int)))) * (n30 * ((((0 : Int) + (1 : Int) * (n01 * (((0 : Int) + (1 : Int) * ((0 : Int) * ((0 : Int) + (1 : Int) * (n23 * (1 : Int))))) + (-(1 : Int)) * (n22 * ((0 : Int) + (1 : Int) * ((0 : Int) * (1 : Int))))))) + (-(1 : Int)) * ((0 : Int) * (((0 : Int) + (1 : Int) * (n02 * ((0 : Int) + (1 : Int) * (n23 * (1 : Int))))) + (-(1 : Int)) * (n22 * ((0 : Int) + (1 : Int) * (n03 * (1 : Int))))))) + (-(-(1 : Int))) * (n21 * (((0 : Int) + (1 : Int) * (n02 * ((0 : Int) + (1 : Int) * ((0 : Int) * (1 : Int))))) + (-(1 : Int)) * ((0 : Int) * ((0 : Int) + (1 : Int) * (n03 * (1 : Int))))))))))) = (1 : Int) * ((-1 : Int) * ((((0 : Int) + (1 : Int) * ((n01 - n00) * (((0 : Int) + (1 : Int) * ((n22 - n20) * ((0 : Int) + (1 : Int) * ((n33 - n30) * (1 : Int))))) + (-(1 : Int)) * ((n32 - n30) * ((0 : Int) + (1 : Int) * ((n23 - n20) * (1 : Int))))))) + (-(1 : Int)) * ((n21 - n20) * (((0 : Int) + (1 : Int) * ((n02 - n00) * ((0 : Int) + (1 : Int) * ((n33 - n30) * (1 : Int))))) + (-(1 : Int)) * ((n32 - n30) * ((0 : Int) + (1 : Int) * ((n03 - n00) * (1 : Int))))))) + (-(-(1 : Int))) * ((n31 - n30) * (((0 : Int) + (1 : Int) * ((n02 - n00) * ((0 : Int) + (1 : Int) * ((n23 - n20) * (1 : Int))))) + (-(1 : Int)) * ((n22 - n20) * ((0 : Int) + (1 : Int) * ((n03 - n00) * (1 : Int)))))))) := by
  simp only [Int.mul_add, Int.add_mul, Int.sub_mul, Int.mul_sub, Int.neg_mul, Int.mul_neg, Int.one_mul, Int.mul_one, Int.zero_mul, Int.mul_zero, Int.zero_add, Int.add_zero, Int.neg_neg, Int.neg_zero, Int.sub_zero, Int.zero_sub, Int.mul_assoc, Int.mul_comm, Int.mul_left_comm]
  try omega
set_option maxRecDepth 20000 in
set_option maxHeartbeats 4000000 in
theorem q4_up1 (s : Nat) (u : Nat → Nat) : mnr (mxv s u 4 (fun c => decide (c = 1))) 5 5 0 0 = ((((((0 : Int) + (1 : Int) * ((1 : Int) * (((((0 : Int) + (1 : Int) * ((0 : Int) * ((((0 : Int) + (1 : Int) * ((Nm s u 2 1) * (((0 : Int) + (1 : Int) * ((Nm s u 3 2) * ((0 : Int) + (1 : Int) * ((-1 : Int) * (1 : Int))))) + (-(1 : Int)) * ((-1 : Int) * ((0 : Int) + (1 : Int) * ((Nm s u 3 3) * (1 : Int))))))) + (-(1 : Int)) * ((Nm s u 3 1) * (((0 : Int) + (1 : Int) * ((Nm s u 2 2) * ((0 : Int) + (1 : Int) * ((-1 : Int) * (1 : Int))))) + (-(1 : Int)) * ((-1 : Int) * ((0 : Int) + (1 : Int) * ((Nm s u 2 3) * (1 : Int))))))) + (-(-(1 : Int))) * ((-1 : Int) * (((0 : Int) + (1 : Int) * ((Nm s u 2 2) * ((0 : Int) + (1 : Int) * ((Nm s u 3 3) * (1 : Int))))) + (-(1 : Int)) * ((Nm s u 3 2) * ((0 : Int) + (1 : Int) * ((Nm s u 2 3) * (1 : Int))))))))) + (-(1 : Int)) * ((Nm s u 2 0) * ((((0 : Int) + (1 : Int) * ((0 : Int) * (((0 : Int) + (1 : Int) * ((Nm s u 3 2) * ((0 : Int) + (1 : Int) * ((-1 : Int) * (1 : Int))))) + (-(1 : Int)) * ((-1 : Int) * ((0 : Int) + (1 : Int) * ((Nm s u 3 3) * (1 : Int))))))) + (-(1 : Int)) * ((Nm s u 3 1) * (((0 : Int) + (1 : Int) * ((0 : Int) * ((0 : Int) + (1 : Int) * ((-1 : Int) * (1 : Int))))) + (-(1 : Int)) * ((-1 : Int) * ((0 : Int) + (1 : Int) * ((0 : Int) * (1 : Int))))))) + (-(-(1 : Int))) * ((-1 : Int) * (((0 : Int) + (1 : Int) * ((0 : Int) * ((0 : Int) + (1 : Int) * ((Nm s u 3 3) * (1 : Int))))) + (-(1 : Int)) * ((Nm s u 3 2) * ((0 : Int) + (1 : Int) * ((0 : Int) * (1 : Int))))))))) + (-(-(1 : Int))) * ((Nm s u 3 0) * ((((0 : Int) + (1 : Int) * ((0 : Int) * (((0 : Int) + (1 : Int) * ((Nm s u 2 2) * ((0 : Int) + (1 : Int) * ((-1 : Int) * (1 : Int))))) + (-(1 : Int)) * ((-1 : Int) * ((0 : Int) + (1 : Int) * ((Nm s u 2 3) * (1 : Int))))))) + (-(1 : Int)) * ((Nm s u 2 1) * (((0 : Int) + (1 : Int) * ((0 : Int) * ((0 : Int) + (1 : Int) * ((-1 : Int) * (1 : Int))))) + (-(1 : Int)) * ((-1 : Int) * ((0 : Int) + (1 : Int) * ((0 : Int) * (1 : Int))))))) + (-(-(1 : Int))) * ((-1 : Int) * (((0 : Int) + (1 : Int) * ((0 : Int) * ((0 : Int) + (1 : Int) * ((Nm s u 2 3) * (1 : Int))))) + (-(1 : Int)) * ((Nm s u 2 2) * ((0 : Int) + (1 : Int) * ((0 : Int) * (1 : Int))))))))) + (-(-(-(1 : Int)))) * ((-1 : Int) * ((((0 : Int) + (1 : Int) * ((0 : Int) * (((0 : Int) + (1 : Int) * ((Nm s u 2 2) * ((0 : Int) + (1 : Int) * ((Nm s u 3 3) * (1 : Int))))) + (-(1 : Int)) * ((Nm s u 3 2) * ((0 : Int) + (1 : Int) * ((Nm s u 2 3) * (1 : Int))))))) + (-(1 : Int)) * ((Nm s u 2 1) * (((0 : Int) + (1 : Int) * ((0 : Int) * ((0 : Int) + (1 : Int) * ((Nm s u 3 3) * (1 : Int))))) + (-(1 : Int)) * ((Nm s u 3 2) * ((0 : Int) + (1 : Int) * ((0 : Int) * (1 : Int))))))) + (-(-(1 : Int))) * ((Nm s u 3 1) * (((0 : Int) + (1 : Int) * ((0 : Int) * ((0 : Int) + (1 : Int) * ((Nm s u 2 3) * (1 : Int))))) + (-(1 : Int)) * ((Nm s u 2 2) * ((0 : Int) + (1 : Int) * ((0 : Int) * (1 : Int))))))))))) + (-(1 : Int)) * ((1 : Int) * (((((0 : Int) + (1 : Int) * ((Nm s u 0 0) * ((((0 : Int) + (1 : Int) * ((Nm s u 2 1) * (((0 : Int) + (1 : Int) * ((Nm s u 3 2) * ((0 : Int) + (1 : Int) * ((-1 : Int) * (1 : Int))))) + (-(1 : Int)) * ((-1 : Int) * ((0 : Int) + (1 : Int) * ((Nm s u 3 3) * (1 : Int))))))) + (-(1 : Int)) * ((Nm s u 3 1) * (((0 : Int) + (1 : Int) * ((Nm s u 2 2) * ((0 : Int) + (1 : Int) * ((-1 : Int) * (1 : Int))))) + (-(1 : Int)) * ((-1 : Int) * ((0 : Int) + (1 : Int) * ((Nm s u 2 3) * (1 : Int))))))) + (-(-(1 : Int))) * ((-1 : Int) * (((0 : Int) + (1 : Int) * ((Nm s u 2 2) * ((0 : Int) + (1 : Int) * ((Nm s u 3 3) * (1 : Int))))) + (-(1 : Int)) * ((Nm s u 3 2) * ((0 : Int) + (1 : Int) * ((Nm s u 2 3) * (1 : Int))))))))) + (-(1 : Int)) * ((Nm s u 2 0) * ((((0 : Int) + (1 : Int) * ((Nm s u 0 1) * (((0 : Int) + (1 : Int) * ((Nm s u 3 2) * ((0 : Int) + (1 : Int) * ((-1 : Int) * (1 : Int))))) + (-(1 : Int)) * ((-1 : Int) * ((0 : Int) + (1 : Int) * ((Nm s u 3 3) * (1 : Int))))))) + (-(1 : Int)) * ((Nm s u 3 1) * (((0 : Int) + (1 : Int) * ((Nm s u 0 2) * ((0 : Int) + (1 : Int) * ((-1 : Int) * (1 : Int))))) + (-(1 : Int)) * ((-1 : Int) * ((0 : Int) + (1 : Int) * ((Nm s u 0 3) * (1 : Int))))))) + (-(-(1 : Int))) * ((-1 : Int) * (((0 : Int) + (1 : Int) * ((Nm s u 0 2) * ((0 : Int) + (1 : Int) * ((Nm s u 3 3) * (1 : Int))))) + (-(1 : Int)) * ((Nm s u 3 2) * ((0 : Int) + (1 : Int) * ((Nm s u 0 3) * (1 : Int))))))))) + (-(-(1 : Int))) * ((Nm s u 3 0) * ((((0 : Int) + (1 : Int) * ((Nm s u 0 1) * (((0 : Int) + (1 : Int) * ((Nm s u 2 2) * ((0 : Int) + (1 : Int) * ((-1 : Int) * (1 : Int))))) + (-(1 : Int)) * ((-1 : Int) * ((0 : Int) + (1 : Int) * ((Nm s u 2 3) * (1 : Int))))))) + (-(1 : Int)) * ((Nm s u 2 1) * (((0 : Int) + (1 : Int) * ((Nm s u 0 2) * ((0 : Int) + (1 : Int) * ((-1 : Int) * (1 : Int))))) + (-(1 : Int)) * ((-1 : Int) * ((0 : Int) + (1 : Int) * ((Nm s u 0 3) * (1 : Int))))))) + (-(-(1 : Int))) * ((-1 : Int) * (((0 : Int) + (1 : Int) * ((Nm s u 0 2) * ((0 : Int) + (1 : Int) * ((Nm s u 2 3) * (1 : Int))))) + (-(1 : Int)) * ((Nm s u 2 2) * ((0 : Int) + (1 : Int) * ((Nm s u 0 3) * (1 : Int))))))))) + (-(-(-(1 : Int)))) * ((-1 : Int) * ((((0 : Int) + (1 : Int) * ((Nm s u 0 1) * (((0 : Int) + (1 : Int) * ((Nm s u 2 2) * ((0 : Int) + (1 : Int) * ((Nm s u 3 3) * (1 : Int))))) + (-(1 : Int)) * ((Nm s u 3 2) * ((0 : Int) + (1 : Int) * ((Nm s u 2 3) * (1 : Int))))))) + (-(1 : Int)) * ((Nm s u 2 1) * (((0 : Int) + (1 : Int) * ((Nm s u 0 2) * ((0 : Int) + (1 : Int) * ((Nm s u 3 3) * (1 : Int))))) + (-(1 : Int)) * ((Nm s u 3 2) * ((0 : Int) + (1 : Int) * ((Nm s u 0 3) * (1 : Int))))))) + (-(-(1 : Int))) * ((Nm s u 3 1) * (((0 : Int) + (1 : Int) * ((Nm s u 0 2) * ((0 : Int) + (1 : Int) * ((Nm s u 2 3) * (1 : Int))))) + (-(1 : Int)) * ((Nm s u 2 2) * ((0 : Int) + (1 : Int) * ((Nm s u 0 3) * (1 : Int))))))))))) + (-(-(1 : Int))) * ((1 : Int) * (((((0 : Int) + (1 : Int) * ((Nm s u 0 0) * ((((0 : Int) + (1 : Int) * ((0 : Int) * (((0 : Int) + (1 : Int) * ((Nm s u 3 2) * ((0 : Int) + (1 : Int) * ((-1 : Int) * (1 : Int))))) + (-(1 : Int)) * ((-1 : Int) * ((0 : Int) + (1 : Int) * ((Nm s u 3 3) * (1 : Int))))))) + (-(1 : Int)) * ((Nm s u 3 1) * (((0 : Int) + (1 : Int) * ((0 : Int) * ((0 : Int) + (1 : Int) * ((-1 : Int) * (1 : Int))))) + (-(1 : Int)) * ((-1 : Int) * ((0 : Int) + (1 : Int) * ((0 : Int) * (1 : Int))))))) + (-(-(1 : Int))) * ((-1 : Int) * (((0 : Int) + (1 : Int) * ((0 : Int) * ((0 : Int) + (1 : Int) * ((Nm s u 3 3) * (1 : Int))))) + (-(1 : Int)) * ((Nm s u 3 2) * ((0 : Int) + (1 : Int) * ((0 : Int) * (1 : Int))))))))) + (-(1 : Int)) * ((0 : Int) * ((((0 : Int) + (1 : Int) * ((Nm s u 0 1) * (((0 : Int) + (1 : Int) * ((Nm s u 3 2) * ((0 : Int) + (1 : Int) * ((-1 : Int) * (1 : Int))))) + (-(1 : Int)) * ((-1 : Int) * ((0 : Int) + (1 : Int) * ((Nm s u 3 3) * (1 : Int))))))) + (-(1 : Int)) * ((Nm s u 3 1) * (((0 : Int) + (1 : Int) * ((Nm s u 0 2) * ((0 : Int) + (1 : Int) * ((-1 : Int) * (1 : Int))))) + (-(1 : Int)) * ((-1 : Int) * ((0 : Int) + (1 : Int) * ((Nm s u 0 3) * (1 : Int))))))) + (-(-(1 : Int))) * ((-1 : Int) * (((0 : Int) + (1 : Int) * ((Nm s u 0 2) * ((0 : Int) + (1 : Int) * ((Nm s u 3 3) * (1 : Int))))) + (-(1 : Int)) * ((Nm s u 3 2) * ((0 : Int) + (1 : Int) * ((Nm s u 0 3) * (1 : Int))))))))) + (-(-(1 : Int))) * ((Nm s u 3 0) * ((((0 : Int) + (1 : Int) * ((Nm s u 0 1) * (((0 : Int) + (1 : Int) * ((0 : Int) * ((0 : Int) + (1 : Int) * ((-1 : Int) * (1 : Int))))) + (-(1 : Int)) * ((-1 : Int) * ((0 : Int) + (1 : Int) * ((0 : Int) * (1 : Int))))))) + (-(1 : Int)) * ((0 : Int) * (((0 : Int) + (1 : Int) * ((Nm s u 0 2) * ((0 : Int) + (1 : Int) * ((-1 : Int) * (1 : Int))))) + (-(1 : Int)) * ((-1 : Int) * ((0 : Int) + (1 : Int) * ((Nm s u 0 3) * (1 : Int))))))) + (-(-(1 : Int))) * ((-1 : Int) * (((0 : Int) + (1 : Int) * ((Nm s u 0 2) * ((0 : Int) + (1 : Int) * ((0 : Int) * (1 : Int))))) + (-(1 : Int)) * ((0 : Int) * ((0 : Int) + (1 : Int) * ((Nm s u 0 3) * (1 : Int))))))))) + (-(-(-(1 : Int)))) * ((-1 : Int) * ((((0 : Int) + (1 : Int) * ((Nm s u 0 1) * (((0 : Int) + (1 : Int) * ((0 : Int) * ((0 : Int) + (1 : Int) * ((Nm s u 3 3) * (1 : Int))))) + (-(1 : Int)) * ((Nm s u 3 2) * ((0 : Int) + (1 : Int) * ((0 : Int) * (1 : Int))))))) + (-(1 : Int)) * ((0 : Int) * (((0 : Int) + (1 : Int) * ((Nm s u 0 2) * ((0 : Int) + (1 : Int) * ((Nm s u 3 3) * (1 : Int))))) + (-(1 : Int)) * ((Nm s u 3 2) * ((0 : Int) + (1 : Int) * ((Nm s u 0 3) * (1 : Int))))))) + (-(-(1 : Int))) * ((Nm s u 3 1) * (((0 : Int) + (1 : Int) * ((Nm s u 0 2) * ((0 : Int) + (1 : Int) * ((0 : Int) * (1 : Int))))) + (-(1 : Int)) * ((0 : Int) * ((0 : Int) + (1 : Int) * ((Nm s u 0 3) * (1 : Int))))))))))) + (-(-(-(1 : Int)))) * ((1 : Int) * (((((0 : Int) + (1 : Int) * ((Nm s u 0 0) * ((((0 : Int) + (1 : Int) * ((0 : Int) * (((0 : Int) + (1 : Int) * ((Nm s u 2 2) * ((0 : Int) + (1 : Int) * ((-1 : Int) * (1 : Int))))) + (-(1 : Int)) * ((-1 : Int) * ((0 : Int) + (1 : Int) * ((Nm s u 2 3) * (1 : Int))))))) + (-(1 : Int)) * ((Nm s u 2 1) * (((0 : Int) + (1 : Int) * ((0 : Int) * ((0 : Int) + (1 : Int) * ((-1 : Int) * (1 : Int))))) + (-(1 : Int)) * ((-1 : Int) * ((0 : Int) + (1 : Int) * ((0 : Int) * (1 : Int))))))) + (-(-(1 : Int))) * ((-1 : Int) * (((0 : Int) + (1 : Int) * ((0 : Int) * ((0 : Int) + (1 : Int) * ((Nm s u 2 3) * (1 : Int))))) + (-(1 : Int)) * ((Nm s u 2 2) * ((0 : Int) + (1 : Int) * ((0 : Int) * (1 : Int))))))))) + (-(1 : Int)) * ((0 : Int) * ((((0 : Int) + (1 : Int) * ((Nm s u 0 1) * (((0 : Int) + (1 : Int) * ((Nm s u 2 2) * ((0 : Int) + (1 : Int) * ((-1 : Int) * (1 : Int))))) + (-(1 : Int)) * ((-1 : Int) * ((0 : Int) + (1 : Int) * ((Nm s u 2 3) * (1 : Int))))))) + (-(1 : Int)) * ((Nm s u 2 1) * (((0 : Int) + (1 : Int) * ((Nm s u 0 2) * ((0 : Int) + (1 : Int) * ((-1 : Int) * (1 : Int))))) + (-(1 : Int)) * ((-1 : Int) * ((0 : Int) + (1 : Int) * ((Nm s u 0 3) * (1 : Int))))))) + (-(-(1 : Int))) * ((-1 : Int) * (((0 : Int) + (1 : Int) * ((Nm s u 0 2) * ((0 : Int) + (1 : Int) * ((Nm s u 2 3) * (1 : Int))))) + (-(1 : Int)) * ((Nm s u 2 2) * ((0 : Int) + (1 : Int) * ((Nm s u 0 3) * (1 : Int))))))))) + (-(-(1 : Int))) * ((Nm s u 2 0) * ((((0 : Int) + (1 : Int) * ((Nm s u 0 1) * (((0 : Int) + (1 : Int) * ((0 : Int) * ((0 : Int) + (1 : Int) * ((-1 : Int) * (1 : Int))))) + (-(1 : Int)) * ((-1 : Int) * ((0 : Int) + (1 : Int) * ((0 : Int) * (1 : Int))))))) + (-(1 : Int)) * ((0 : Int) * (((0 : Int) + (1 : Int) * ((Nm s u 0 2) * ((0 : Int) + (1 : Int) * ((-1 : Int) * (1 : Int))))) + (-(1 : Int)) * ((-1 : Int) * ((0 : Int) + (1 : Int) * ((Nm s u 0 3) * (1 : Int))))))) + (-(-(1 : Int))) * ((-1 : Int) * (((0 : Int) + (1 : Int) * ((Nm s u 0 2) * ((0 : Int) + (1 : Int) * ((0 : Int) * (1 : Int))))) + (-(1 : Int)) * ((0 : Int) * ((0 : Int) + (1 : Int) * ((Nm s u 0 3) * (1 : Int))))))))) + (-(-(-(1 : Int)))) * ((-1 : Int) * ((((0 : Int) + (1 : Int) * ((Nm s u 0 1) * (((0 : Int) + (1 : Int) * ((0 : Int) * ((0 : Int) + (1 : Int) * ((Nm s u 2 3) * (1 : Int))))) + (-(1 : Int)) * ((Nm s u 2 2) * ((0 : Int) + (1 : Int) * ((0 : Int) * (1 : Int))))))) + (-(1 : Int)) * ((0 : Int) * (((0 : Int) + (1 : Int) * ((Nm s u 0 2) * ((0 : Int) + (1 : Int) * ((Nm s u 2 3) * (1 : Int))))) + (-(1 : Int)) * ((Nm s u 2 2) * ((0 : Int) + (1 : Int) * ((Nm s u 0 3) * (1 : Int))))))) + (-(-(1 : Int))) * ((Nm s u 2 1) * (((0 : Int) + (1 : Int) * ((Nm s u 0 2) * ((0 : Int) + (1 : Int) * ((0 : Int) * (1 : Int))))) + (-(1 : Int)) * ((0 : Int) * ((0 : Int) + (1 : Int) * ((Nm s u 0 3) * (1 : Int))))))))))) + (-(-(-(-(1 : Int))))) * ((0 : Int) * (((((0 : Int) + (1 : Int) * ((Nm s u 0 0) * ((((0 : Int) + (1 : Int) * ((0 : Int) * (((0 : Int) + (1 : Int) * ((Nm s u 2 2) * ((0 : Int) + (1 : Int) * ((Nm s u 3 3) * (1 : Int))))) + (-(1 : Int)) * ((Nm s u 3 2) * ((0 : Int) + (1 : Int) * ((Nm s u 2 3) * (1 : Int))))))) + (-(1 : Int)) * ((Nm s u 2 1) * (((0 : Int) + (1 : Int) * ((0 : Int) * ((0 : Int) + (1 : Int) * ((Nm s u 3 3) * (1 : Int))))) + (-(1 : Int)) * ((Nm s u 3 2) * ((0 : Int) + (1 : Int) * ((0 : Int) * (1 : Int))))))) + (-(-(1 : Int))) * ((Nm s u 3 1) * (((0 : Int) + (1 : Int) * ((0 : Int) * ((0 : Int) + (1 : Int) * ((Nm s u 2 3) * (1 : Int))))) + (-(1 : Int)) * ((Nm s u 2 2) * ((0 : Int) + (1 : Int) * ((0 : Int) * (1 : Int))))))))) + (-(1 : Int)) * ((0 : Int) * ((((0 : Int) + (1 : Int) * ((Nm s u 0 1) * (((0 : Int) + (1 : Int) * ((Nm s u 2 2) * ((0 : Int) + (1 : Int) * ((Nm s u 3 3) * (1 : Int))))) + (-(1 : Int)) * ((Nm s u 3 2) * ((0 : Int) + (1 : Int) * ((Nm s u 2 3) * (1 : Int))))))) + (-(1 : Int)) * ((Nm s u 2 1) * (((0 : Int) + (1 : Int) * ((Nm s u 0 2) * ((0 : Int) + (1 : Int) * ((Nm s u 3 3) * (1 : Int))))) + (-(1 : Int)) * ((Nm s u 3 2) * ((0 : Int) + (1 : Int) * ((Nm s u 0 3) * (1 : Int))))))) + (-(-(1 : Int))) * ((Nm s u 3 1) * (((0 : Int) + (1 : Int) * ((Nm s u 0 2) * ((0 : Int) + (1 : Int) * ((Nm s u 2 3) * (1 : Int))))) + (-(1 : Int)) * ((Nm s u 2 2) * ((0 : Int) + (1 : Int) * ((Nm s u 0 3) * (1 : Int))))))))) + (-(-(1 : Int))) * ((Nm s u 2 0) * ((((0 : Int) + (1 : Int) * ((Nm s u 0 1) * (((0 : Int) + (1 : Int) * ((0 : Int) * ((0 : Int) + (1 : Int) * ((Nm s u 3 3) * (1 : Int))))) + (-(1 : Int)) * ((Nm s u 3 2) * ((0 : Int) + (1 : Int) * ((0 : Int) * (1 : Int))))))) + (-(1 : Int)) * ((0 : Int) * (((0 : Int) + (1 : Int) * ((Nm s u 0 2) * ((0 : Int) + (1 : Int) * ((Nm s u 3 3) * (1 : Int))))) + (-(1 : Int)) * ((Nm s u 3 2) * ((0 : Int) + (1 : Int) * ((Nm s u 0 3) * (1 : Int))))))) + (-(-(1 : Int))) * ((Nm s u 3 1) * (((0 : Int) + (1 : Int) * ((Nm s u 0 2) * ((0 : Int) + (1 : Int) * ((0 : Int) * (1 : Int))))) + (-(1 : Int)) * ((0 : Int) * ((0 : Int) + (1 : Int) * ((Nm s u 0 3) * (1 : Int))))))))) + (-(-(-(1 : Int)))) * ((Nm s u 3 0) * ((((0 : Int) + (1 : Int) * ((Nm s u 0 1) * (((0 : Int) + (1 : Int) * ((0 : Int) * ((0 : Int) + (1 : Int) * ((Nm s u 2 3) * (1 : Int))))) + (-(1 : Int)) * ((Nm s u 2 2) * ((0 : Int) + (1 : Int) * ((0 : Int) * (1 : Int))))))) + (-(1 : Int)) * ((0 : Int) * (((0 : Int) + (1 : Int) * ((Nm s u 0 2) * ((0 : Int) + (1 : Int) * ((Nm s u 2 3) * (1 : Int))))) + (-(1 : Int)) * ((Nm s u 2 2) * ((0 : Int) + (1 : Int) * ((Nm s u 0 3) * (1 : Int))))))) + (-(-(1 : Int))) * ((Nm s u 2 1) * (((0 : Int) + (1 : Int) * ((Nm s u 0 2) * ((0 : Int) + (1 : Int) * ((0 : Int) * (1 : Int))))) + (-(1 : Int)) * ((0 : Int) * ((0 : Int) + (1 : Int) * ((Nm s u 0 3) * (1 : Int))))))))))) := rfl
set_option maxRecDepth 20000 in
set_option maxHeartbeats 4000000 in
theorem d4_up1 (s : Nat) (u : Nat → Nat) : mnr (mxv s u 4 (fun c => decide (c = 1))) 5 5 0 0 = (1 : Int) * wgt s u 4 1 := (q4_up1 s u).trans (i4_up1 (Nm s u 0 0) (Nm s u 0 1) (Nm s u 0 2) (Nm s u 0 3) (Nm s u 1 0) (Nm s u 1 1) (Nm s u 1 2) (Nm s u 1 3) (Nm s u 2 0) (Nm s u 2 1) (Nm s u 2 2) (Nm s u 2 3) (Nm s u 3 0) (Nm s u 3 1) (Nm s u 3 2) (Nm s u 3 3))
set_option maxRecDepth 20000 in
set_option maxHeartbeats 4000000 in
theorem i4_up2 (n00 n01 n02 n03 n10 n11 n12 n13 n20 n21 n22 n23 n30 n31 n32 n33 : Int) : ((((((0 : Int) + (1 : Int) * ((1 : Int) * (((((0 : Int) + (1 : Int) * (n10 * ((((0 : Int) + (1 : Int) * ((0 : Int) * (((0 : Int) + (1 : Int) * (n32 * ((0 : Int) + (1 : Int) * ((-1 : Int) * (1 : Int))))) + (-(1 : Int)) * ((-1 : Int) * ((0 : Int) + (1 : Int) * (n33 * (1 : Int))))))) + (-(1 : Int)) * (n31 * (((0 : Int) + (1 : Int) * ((0 : Int) * ((0 : Int) + (1 : Int) * ((-1 : Int) * (1 : Int))))) + (-(1 : Int)) * ((-1 : Int) * ((0 : Int) + (1 : Int) * ((0 : Int) * (1 : Int))))))) + (-(-(1 : Int))) * ((-1 : Int) * (((0 : Int) + (1 : Int) * ((0 : Int) * ((0 : Int) + (1 : Int) * (n33 * (1 : Int))))) + (-(1 : Int)) * (n32 * ((0 : Int) + (1 : Int) * ((0 : Int) * (1 : Int))))))))) + (-(1 : Int)) * ((0 : Int) * ((((0 : Int) + (1 : Int) * (n11 * (((0 : Int) + (1 : Int) * (n32 * ((0 : Int) + (1 : Int) * ((-1 : Int) * (1 : Int))))) + (-(1 : Int)) * ((-1 : Int) * ((0 : Int) + (1 : Int) * (n33 * (1 : Int))))))) + (-(1 : Int)) * (n31 * (((0 : Int) + (1 : Int) * (n12 * ((0 : Int) + (1 : Int) * ((-1 : Int) * (1 : Int))))) + (-(1 : Int)) * ((-1 : Int) * ((0 : Int) + (1 : Int) * (n13 * (1 : Int))))))) + (-(-(1 : Int))) * ((-1 : Int) * (((0 : Int) + (1 : Int) * (n12 * ((0 : Int) + (1 : Int) * (n33 * (1 : Int))))) + (-(1 : Int)) * (n32 * ((0 : Int) + (1 : Int) * (n13 * (1 : Int))))))))) + (-(-(1 : Int))) * (n30 * ((((0 : Int) + (1 : Int) * (n11 * (((0 : Int) + (1 : Int) * ((0 : Int) * ((0 : Int) + (1 : Int) * ((-1 : Int) * (1 : Int))))) + (-(1 : Int)) * ((-1 : Int) * ((0 : Int) + (1 : Int) * ((0 : Int) * (1 : Int))))))) + (-(1 : Int)) * ((0 : Int) * (((0 : Int) + (1 : Int) * (n12 * ((0 : Int) + (1 : Int) * ((-1 : Int) * (1 : Int))))) + (-(1 : Int)) * ((-1 : Int) * ((0 : Int) + (1 : Int) * (n13 * (1 : Int))))))) + (-(-(1 : Int))) * ((-1 : Int) * (((0 : Int) + (1 : Int) * (n12 * ((0 : Int) + (1 : Int) * ((0 : Int) * (1 : Int))))) + (-(1 : Int)) * ((0 : Int) * ((0 : Int) + (1 : Int) * (n13 * (1 : Int))))))))) + (-(-(-(1 : Int)))) * ((-1 : Int) * ((((0 : Int) + (1 : Int) * (n11 * (((0 : Int) + (1 : Int) * ((0 : Int) * ((0 : Int) + (1 : Int) * (n33 * (1 : Int))))) + (-(1 : Int)) * (n32 * ((0 : Int) + (1 : Int) * ((0 : Int) * (1 : Int))))))) + (-(1 : Int)) * ((0 : Int) * (((0 : Int) + (1 : Int) * (n12 * ((0 : Int) + (1 : Int) * (n33 * (1 : Int))))) + (-(1 : Int)) * (n32 * ((0 : Int) + (1 : Int) * (n13 * (1 : Int))))))) + (-(-(1 : Int))) * (n31 * (((0 : Int) + (1 : Int) * (n12 * ((0 : Int) + (1 : Int) * ((0 : Int) * (1 : Int))))) + (-(1 : Int)) * ((0 : Int) * ((0 : Int) + (1 : Int) * (n13 * (1 : Int))))))))))) + (-(1 : Int)) * ((1 : Int) * (((((0 : Int) + (1 : Int) * (n00 * ((((0 : Int) + (1 : Int) * ((0 : Int) * (((0 : Int) + (1 : Int) * (n32 * ((0 : Int) + (1 : Int) * ((-1 : Int) * (1 : Int))))) + (-(1 : Int)) * ((-1 : Int) * ((0 : Int) + (1 : Int) * (n33 * (1 : Int))))))) + (-(1 : Int)) * (n31 * (((0 : Int) + (1 : Int) * ((0 : Int) * ((0 : Int) + (1 : Int) * ((-1 : Int) * (1 : Int))))) + (-(1 : Int)) * ((-1 : Int) * ((0 : Int) + (1 : Int) * ((0 : Int) * (1 : Int))))))) + (-(-(1 : Int))) * ((-1 : Int) * (((0 : Int) + (1 : Int) * ((0 : Int) * ((0 : Int) + (1 : Int) * (n33 * (1 : Int))))) + (-(1 : Int)) * (n32 * ((0 : Int) + (1 : Int) * ((0 : Int) * (1 : Int))))))))) + (-(1 : Int)) * ((0 : Int) * ((((0 : Int) + (1 : Int) * (n01 * (((0 : Int) + (1 : Int) * (n32 * ((0 : Int) + (1 : Int) * ((-1 : Int) * (1 : Int))))) + (-(1 : Int)) * ((-1 : Int) * ((0 : Int) + (1 : Int) * (n33 * (1 : Int))))))) + (-(1 : Int)) * (n31 * (((0 : Int) + (1 : Int) * (n02 * ((0 : Int) + (1 : Int) * ((-1 : Int) * (1 : Int))))) + (-(1 : Int)) * ((-1 : Int) * ((0 : Int) + (1 : Int) * (n03 * (1 : Int))))))) + (-(-(1 : Int))) * ((-1 : Int) * (((0 : Int) + (1 : Int) * (n02 * ((0 : Int) + (1 : Int) * (n33 * (1 : Int))))) + (-(1 : Int)) * (n32 * ((0 : Int) + (1 : Int) * (n03 * (1 : Int))))))))) + (-(-(1 : Int))) * (n30 * ((((0 : Int) + (1 : Int) * (n01 * (((0 : Int) + (1 : Int) * ((0 : Int) * ((0 : Int) + (1 : Int) * ((-1 : Int) * (1 : Int))))) + (-(1 : Int)) * ((-1 : Int) * ((0 : Int) + (1 : Int) * ((0 : Int) * (1 : Int))))))) + (-(1 : Int)) * ((0 : Int) * (((0 : Int) + (1 : Int) * (n02 * ((0 : Int) + (1 : Int) * ((-1 : Int) * (1 : Int))))) + (-(1 : Int)) * ((-1 : Int) * ((0 : Int) + (1 : Int) * (n03 * (1 : Int))))))) + (-(-(1 : Int))) * ((-1 : Int) * (((0 : Int) + (1 : Int) * (n02 * ((0 : Int) + (1 : Int) * ((0 : Int) * (1 : Int))))) + (-(1 : Int)) * ((0 : Int) * ((0 : Int) + (1 : Int) * (n03 * (1 : Int))))))))) + (-(-(-(1 : Int)))) * ((-1 : Int) * ((((0 : Int) + (1 : Int) * (n01 * (((0 : Int) + (1 : Int) * ((0 : Int) * ((0 : Int) + (1 : Int) * (n33 * (1 : Int))))) + (-(1 : Int)) * (n32 * ((0 : Int) + (1 : Int) * ((0 : Int) * (1 : Int))))))) + (-(1 : Int)) * ((0 : Int) * (((0 : Int) + (1 : Int) * (n02 * ((0 : Int) + (1 : Int) * (n33 * (1 : Int))))) + (-(1 : Int)) * (n32 * ((0 : Int) + (1 : Int) * (n03 * (1 : Int))))))) + (-(-(1 : Int))) * (n31 * (((0 : Int) + (1 : Int) * (n02 * ((0 : Int) + (1 : Int) * ((0 : Int) * (1 : Int))))) + (-(1 : Int)) * ((0 : Int) * ((0 : Int) + (1 : Int) * (n03 * (1 : Int))))))))))) + (-(-(1 : Int))) * ((1 : Int) * (((((0 : Int) + (1 : Int) * (n00 * ((((0 : Int) + (1 : Int) * (n11 * (((0 : Int) + (1 : Int) * (n32 * ((0 : Int) + (1 : Int) * ((-1 : Int) * (1 : Int))))) + (-(1 : Int)) * ((-1 : Int) * ((0 : Int) + (1 : Int) * (n33 * (1 : Int))))))) + (-(1 : Int)) * (n31 * (((0 : Int) + (1 : Int) * (n12 * ((0 : Int) + (1 : Int) * ((-1 : Int) * (1 : Int))))) + (-(1 : Int)) * ((-1 : Int) * ((0 : Int) + (1 : Int) * (n13 * (1 : Int))))))) + (-(-(1 : Int))) * ((-1 : Int) * (((0 : Int) + (1 : Int) * (n12 * ((0 : Int) + (1 : Int) * (n33 * (1 : Int))))) + (-(1 : Int)) * (n32 * ((0 : Int) + (1 : Int) * (n13 * (1 : Int))))))))) + (-(1 : Int)) * (n10 * ((((0 : Int) + (1 : Int) * (n01 * (((0 : Int) + (1 : Int) * (n32 * ((0 : Int) + (1 : Int) * ((-1 : Int) * (1 : Int))))) + (-(1 : Int)) * ((-1 : Int) * ((0 : Int) + (1 : Int) * (n33 * (1 : Int))))))) + (-(1 : Int)) * (n31 * (((0 : Int) + (1 : Int) * (n02 * ((0 : Int) + (1 : Int) * ((-1 : Int) * (1 : Int))))) + (-(1 : Int)) * ((-1 : Int) * ((0 : Int) + (1 : Int) * (n03 * (1 : Int))))))) + (-(-(1 : Int))) * ((-1 : Int) * (((0 : Int) + (1 : Int) * (n02 * ((0 : Int) + (1 : Int) * (n33 * (1 : Int))))) + (-(1 : Int)) * (n32 * ((0 : Int) + (1 : Int) * (n03 * (1 : Int))))))))) + (-(-(1 : Int))) * (n30 * ((((0 : Int) + (1 : Int) * (n01 * (((0 : Int) + (1 : Int) * (n12 * ((0 : Int) + (1 : Int) * ((-1 : Int) * (1 : Int))))) + (-(1 : Int)) * ((-1 : Int) * ((0 : Int) + (1 : Int) * (n13 * (1 : Int))))))) + (-(1 : Int)) * (n11 * (((0 : Int) + (1 : Int) * (n02 * ((0 : Int) + (1 : Int) * ((-1 : Int) * (1 : Int))))) + (-(1 : Int)) * ((-1 : Int) * ((0 : Int) + (1 : Int) * (n03 * (1 : Int))))))) + (-(-(1 : Int))) * ((-1 : Int) * (((0 : Int) + (1 : Int) * (n02 * ((0 : Int) + (1 : Int) * (n13 * (1 : Int))))) + (-(1 : Int)) * (n12 * ((0 : Int) + (1 : Int) * (n03 * (1 : Int))))))))) + (-(-(-(1 : Int)))) * ((-1 : Int) * ((((0 : Int) + (1 : Int) * (n01 * (((0 : Int) + (1 : Int) * (n12 * ((0 : Int) + (1 : Int) * (n33 * (1 : Int))))) + (-(1 : Int)) * (n32 * ((0 : Int) + (1 : Int) * (n13 * (1 : Int))))))) + (-(1 : Int)) * (n11 * (((0 : Int) + (1 : Int) * (n02 * ((0 : Int) + (1 : Int) * (n33 * (1 : Int))))) + (-(1 : Int)) * (n32 * ((0 : Int) + (1 : Int) * (n03 * (1 : Int))))))) + (-(-(1 : Int))) * (n31 * (((0 : Int) + (1 : Int) * (n02 * ((0 : Int) + (1 : Int) * (n13 * (1 : Int))))) + (-(1 : Int)) * (n12 * ((0 : Int) + (1 : Int) * (n03 * (1 : Int))))))))))) + (-(-(-(1 : Int)))) * ((1 : Int) * (((((0 : Int) + (1 : Int) * (n00 * ((((0 : Int) + (1 : Int) * (n11 * (((0 : Int) + (1 : Int) * ((0 : Int) * ((0 : Int) + (1 : Int) * ((-1 : Int) * (1 : Int))))) + (-(1 : Int)) * ((-1 : Int) * ((0 : Int) + (1 : Int) * ((0 : Int) * (1 : Int))))))) + (-(1 : Int)) * ((0 : Int) * (((0 : Int) + (1 : Int) * (n12 * ((0 : Int) + (1 : Int) * ((-1 : Int) * (1 : Int))))) + (-(1 : Int)) * ((-1 : Int) * ((0 : Int) + (1 : Int) * (n13 * (1 : Int))))))) + (-(-(1 : Int))) * ((-1 : Int) * (((0 : Int) + (1 : Int) * (n12 * ((0 : Int) + (1 : Int) * ((0 : Int) * (1 : Int))))) + (-(1 : Int)) * ((0 : Int) * ((0 : Int) + (1 : Int) * (n13 * (1 : Int))))))))) + (-(1 : Int)) * (n10 * ((((0 : Int) + (1 : Int) * (n01 * (((0 : Int) + (1 : Int) * ((0 : Int) * ((0 : Int) + (1 : Int) * ((-1 : Int) * (1 : Int))))) + (-(1 : Int)) * ((-1 : Int) * ((0 : Int) + (1 : Int) * ((0 : Int) * (1 : Int))))))) + (-(1 : Int)) * ((0 : Int) * (((0 : Int) + (1 : Int) * (n02 * ((0 : Int) + (1 : Int) * ((-1 : Int) * (1 : Int))))) + (-(1 : Int)) * ((-1 : Int) * ((0 : Int) + (1 : Int) * (n03 * (1 : Int))))))) + (-(-(1 : Int))) * ((-1 : Int) * (((0 : Int) + (1 : Int) * (n02 * ((0 : Int) + (1 : Int) * ((0 : Int) * (1 : Int))))) + (-(1 : Int)) * ((0 : Int) * ((0 : Int) + (1 : Int) * (n03 * (1 : Int))))))))) + (-(-(1 : Int))) * ((0 : Int) * ((((0 : Int) + (1 : Int) * (n01 * (((0 : Int) + (1 : Int) * (n12 * ((0 : Int) + (1 : Int) * ((-1 : Int) * (1 : Int))))) + (-(1 : Int)) * ((-1 : Int) * ((0 : Int) + (1 : Int) * (n13 * (1 : Int))))))) + (-(1 : Int)) * (n11 * (((0 : Int) + (1 : Int) * (n02 * ((0 : Int) + (1 : Int) * ((-1 : Int) * (1 : Int))))) + (-(1 : Int)) * ((-1 : Int) * ((0 : Int) + (1 : Int) * (n03 * (1 : Int))))))) + (-(-(1 : Int))) * ((-1 : Int) * (((0 : Int) + (1 : Int) * (n02 * ((0 : Int) + (1 : Int) * (n13 * (1 : Int))))) + (-(1 : Int)) * (n12 * ((0 : Int) + (1 : Int) * (n03 * (1 : Int))))))))) + (-(-(-(1 : Int)))) * ((-1 : Int) * ((((0 : Int) + (1 : Int) * (n01 * (((0 : Int) + (1 : Int) * (n12 * ((0 : Int) + (1 : Int) * ((0 : Int) * (1 : Int))))) + (-(1 : Int)) * ((0 : Int) * ((0 : Int) + (1 : Int) * (n13 * (1 : Int))))))) + (-(1 : Int)) * (n11 * (((0 : Int) + (1 : Int) * (n02 * ((0 : Int) + (1 : Int) * ((0 : Int) * (1 : Int))))) + (-(1 : Int)) * ((0 : Int) * ((0 : Int) + (1 : Int) * (n03 * (1 : Int))))))) + (-(-(1 : Int))) * ((0 : Int) * (((0 : Int) + (1 : Int) * (n02 * ((0 : Int) + (1 : Int) * (n13 * (1 : Int))))) + (-(1 : Int)) * (n12 * ((0 : Int) + (1 : Int) * (n03 * (1 : Int))))))))))) + (-(-(-(-(1 : Int))))) * ((0 : Int) * (((((0 : Int) + (1 : Int) * (n00 * ((((0 : Int) + (1 : Int) * (n11 * (((0 : Int) + (1 : Int) * ((0 : Int) * ((0 : Int) + (1 : Int) * (n33 * (1 : Int))))) + (-(1 : Int)) * (n32 * ((0 : Int) + (1 : Int) * ((0 : Int) * (1 : Int))))))) + (-(1 : Int)) * ((0 : Int) * (((0 : Int) + (1 : Int) * (n12 * ((0 : Int) + (1 : Int) * (n33 * (1 : Int))))) + (-(1 : Int)) * (n32 * ((0 : Int) + (1 : Int) * (n13 * (1 : Int))))))) + (-(-(1 : Int))) * (n31 * (((0 : Int) + (1 : Int) * (n12 * ((0 : Int) + (1 : Int) * ((0 : Int) * (1 : Int))))) + (-(1 : Int)) * ((0 : Int) * ((0 : Int) + (1 : Int) * (n13 * (1 : Int))))))))) + (-(1 : Int)) * (n10 * ((((0 : Int) + (1 : Int) * (n01 * (((0 : Int) + (1 : Int) * ((0 : Int) * ((0 : Int) + (1 : Int) * (n33 * (1 : Int))))) + (-(1 : Int)) * (n32 * ((0 : Int) + (1 : Int) * ((0 : Int) * (1 : Int))))))) + (-(1 : Int)) * ((0 : Int) * (((0 : Int) + (1 : Int) * (n02 * ((0 : Int) + (1 : Int) * (n33 * (1 : Int))))) + (-(1 : Int)) * (n32 * ((0 : Int) + (1 : Int) * (n03 * (1 : Int))))))) + (-(-(1 : Int))) * (n31 * (((0 : Int) + (1 : Int) * (n02 * ((0 : Int) + (1 : Int) * ((0 : Int) * (1 : Int))))) + (-(1 : Int)) * ((0 : Int) * ((0 : Int) + (1 : Int) * (n03 * (1 : Int))))))))) + (-(-(1 : Int))) * ((0 : Int) * ((((0 : Int) + (1 : Int) * (n01 * (((0 : Int) + (1 : Int) * (n12 * ((0 : Int) + (1 : Int) * (n33 * (1 : Int))))) + (-(1 : Int)) * (n32 * ((0 : Int) + (1 : Int) * (n13 * (1 : Int))))))) + (-(1 : Int)) * (n11 * (((0 : Int) + (1 : Int) * (n02 * ((0 : Int) + (1 : Int) * (n33 * (1 : Int))))) + (-(1 : Int)) * (n32 * ((0 : Int) + (1 : Int) * (n03 * (1 : Int))))))) + (-(-(1 : Int))) * (n31 * (((0 : Int) + (1 : Int) * (n02 * ((0 : Int) + (1 : Int) * (n13 * (1 : Int))))) + (-(1 : Int)) * (n12 * ((0 : Int) + (1 : Int) * (n03 * (1 : Int))))))))) + (-(-(-(1 : Int)))) * (n30 * ((((0 : Int) + (1 : Int) * (n01 * (((0 : Int) + (1 : Int) * (n12 * ((0 : Int) + (1 : Int) * ((0 : Int) * (1 : Int))))) + (-(1 : Int)) * ((0 : Int) * ((0 : Int) + (1 : Int) * (n13 * (1 : Int))))))) + (-(1 : Int)) * (n11 * (((0 : Int) + (1 : Int) * (n02 * ((0 : Int) + (1 : Int) * ((0 : Int) * (1 : Int))))) + (-(1 : Int)) * ((0 : Int) * ((0 : Int) + (1 : Int) * (n03 * (1 : Int))))))) + (-(-(1 : Int))) * ((0 : Int) * (((0 : Int) + (1 : Int) * (n02 * ((0 : Int) + (1 : Int) * (n13 * (1 : Int))))) + (-(1 : Int)) * (n12 * ((0 : Int) + (1 : Int) * (n03 * (1 : Int))))))))))) = (1 : Int) * ((1 : Int) * ((((0 : Int) + (1 : Int) * ((n01 - n00) * (((0 : Int) + (1 : Int) * ((n12 - n10) * ((0 : Int) + (1 : Int) * ((n33 - n30) * (1 : Int))))) + (-(1 : Int)) * ((n32 - n30) * ((0 : Int) + (1 : Int) * ((n13 - n10) * (1 : Int))))))) + (-(1 : Int)) * ((n11 - n10) * (((0 : Int) + (1 : Int) * ((n02 - n00) * ((0 : Int) + (1 : Int) * ((n33 - n30) * (1 : Int))))) + (-(1 : Int)) * ((n32 - n30) * ((0 : Int) + (1 : Int) * ((n03 - n00) * (1 : Int))))))) + (-(-(1 : Int))) * ((n31 - n30) * (((0 : Int) + (1 : Int) * ((n02 - n00) * ((0 : Int) + (1 : Int) * ((n13 - n10) * (1 : Int))))) + (-(1 : Int)) * ((n12 - n10) * ((0 : Int) + (1 : Int) * ((n03 - n00) * (1 : Int)))))))) := by
  simp only [Int.mul_add, Int.add_mul, Int.sub_mul, Int.mul_sub, Int.neg_mul, Int.mul_neg, Int.one_mul, Int.mul_one, Int.zero_mul, Int.mul_zero, Int.zero_add, Int.add_zero, Int.neg_neg, Int.neg_zero, Int.sub_zero, Int.zero_sub, Int.mul_assoc, Int.mul_comm, Int.mul_left_comm]
  try omega
set_option maxRecDepth 20000 in
set_option maxHeartbeats 4000000 in
theorem q4_up2 (s : Nat) (u : Nat → Nat) : mnr (mxv s u 4 (fun c => decide (c = 2))) 5 5 0 0 = ((((((0 : Int) + (1 : Int) * ((1 : Int) * (((((0 : Int) + (1 : Int) * ((Nm s u 1 0) * ((((0 : Int) + (1 : Int) * ((0 : Int) * (((0 : Int) + (1 : Int) * ((Nm s u 3 2) * ((0 : Int) + (1 : Int) * ((-1 : Int) * (1 : Int))))) + (-(1 : Int)) * ((-1 : Int) * ((0 : Int) + (1 : Int) * ((Nm s u 3 3) * (1 : Int))))))) + (-(1 : Int)) * ((Nm s u 3 1) * (((0 : Int) + (1 : Int) * ((0 : Int) * ((0 : Int) + (1 : Int) * ((-1 : Int) * (1 : Int))))) + (-(1 : Int)) * ((-1 : Int) * ((0 : Int) + (1 : Int) * ((0 : Int) * (1 : Int))))))) + (-(-(1 : Int))) * ((-1 : Int) * (((0 : Int) + (1 : Int) * ((0 : Int) * ((0 : Int) + (1 : Int) * ((Nm s u 3 3) * (1 : Int))))) + (-(1 : Int)) * ((Nm s u 3 2) * ((0 : Int) + (1 : Int) * ((0 : Int) * (1 : Int))))))))) + (-(1 : Int)) * ((0 : Int) * ((((0 : Int) + (1 : Int) * ((Nm s u 1 1) * (((0 : Int) + (1 : Int) * ((Nm s u 3 2) * ((0 : Int) + (1 : Int) * ((-1 : Int) * (1 : Int))))) + (-(1 : Int)) * ((-1 : Int) * ((0 : Int) + (1 : Int) * ((Nm s u 3 3) * (1 : Int))))))) + (-(1 : Int)) * ((Nm s u 3 1) * (((0 : Int) + (1 : Int) * ((Nm s u 1 2) * ((0 : Int) + (1 : Int) * ((-1 : Int) * (1 : Int))))) + (-(1 : Int)) * ((-1 : Int) * ((0 : Int) + (1 : Int) * ((Nm s u 1 3) * (1 : Int))))))) + (-(-(1 : Int))) * ((-1 : Int) * (((0 : Int) + (1 : Int) * ((Nm s u 1 2) * ((0 : Int) + (1 : Int) * ((Nm s u 3 3) * (1 : Int))))) + (-(1 : Int)) * ((Nm s u 3 2) * ((0 : Int) + (1 : Int) * ((Nm s u 1 3) * (1 : Int))))))))) + (-(-(1 : Int))) * ((Nm s u 3 0) * ((((0 : Int) + (1 : Int) * ((Nm s u 1 1) * (((0 : Int) + (1 : Int) * ((0 : Int) * ((0 : Int) + (1 : Int) * ((-1 : Int) * (1 : Int))))) + (-(1 : Int)) * ((-1 : Int) * ((0 : Int) + (1 : Int) * ((0 : Int) * (1 : Int))))))) + (-(1 : Int)) * ((0 : Int) * (((0 : Int) + (1 : Int) * ((Nm s u 1 2) * ((0 : Int) + (1 : Int) * ((-1 : Int) * (1 : Int))))) + (-(1 : Int)) * ((-1 : Int) * ((0 : Int) + (1 : Int) * ((Nm s u 1 3) * (1 : Int))))))) + (-(-(1 : Int))) * ((-1 : Int) * (((0 : Int) + (1 : Int) * ((Nm s u 1 2) * ((0 : Int) + (1 : Int) * ((0 : Int) * (1 : Int))))) + (-(1 : Int)) * ((0 : Int) * ((0 : Int) + (1 : Int) * ((Nm s u 1 3) * (1 : Int))))))))) + (-(-(-(1 : Int)))) * ((-1 : Int) * ((((0 : Int) + (1 : Int) * ((Nm s u 1 1) * (((0 : Int) + (1 : Int) * ((0 : Int) * ((0 : Int) + (1 : Int) * ((Nm s u 3 3) * (1 : Int))))) + (-(1 : Int)) * ((Nm s u 3 2) * ((0 : Int) + (1 : Int) * ((0 : Int) * (1 : Int))))))) + (-(1 : Int)) * ((0 : Int) * (((0 : Int) + (1 : Int) * ((Nm s u 1 2) * ((0 : Int) + (1 : Int) * ((Nm s u 3 3) * (1 : Int))))) + (-(1 : Int)) * ((Nm s u 3 2) * ((0 : Int) + (1 : Int) * ((Nm s u 1 3) * (1 : Int))))))) + (-(-(1 : Int))) * ((Nm s u 3 1) * (((0 : Int) + (1 : Int) * ((Nm s u 1 2) * ((0 : Int) + (1 : Int) * ((0 : Int) * (1 : Int))))) + (-(1 : Int)) * ((0 : Int) * ((0 : Int) + (1 : Int) * ((Nm s u 1 3) * (1 : Int))))))))))) + (-(1 : Int)) * ((1 : Int) * (((((0 : Int) + (1 : Int) * ((Nm s u 0 0) * ((((0 : Int) + (1 : Int) * ((0 : Int) * (((0 : Int) + (1 : Int) * ((Nm s u 3 2) * ((0 : Int) + (1 : Int) * ((-1 : Int) * (1 : Int))))) + (-(1 : Int)) * ((-1 : Int) * ((0 : Int) + (1 : Int) * ((Nm s u 3 3) * (1 : Int))))))) + (-(1 : Int)) * ((Nm s u 3 1) * (((0 : Int) + (1 : Int) * ((0 : Int) * ((0 : Int) + (1 : Int) * ((-1 : Int) * (1 : Int))))) + (-(1 : Int)) * ((-1 : Int) * ((0 : Int) + (1 : Int) * ((0 : Int) * (1 : Int))))))) + (-(-(1 : Int))) * ((-1 : Int) * (((0 : Int) + (1 : Int) * ((0 : Int) * ((0 : Int) + (1 : Int) * ((Nm s u 3 3) * (1 : Int))))) + (-(1 : Int)) * ((Nm s u 3 2) * ((0 : Int) + (1 : Int) * ((0 : Int) * (1 : Int))))))))) + (-(1 : Int)) * ((0 : Int) * ((((0 : Int) + (1 : Int) * ((Nm s u 0 1) * (((0 : Int) + (1 : Int) * ((Nm s u 3 2) * ((0 : Int) + (1 : Int) * ((-1 : Int) * (1 : Int))))) + (-(1 : Int)) * ((-1 : Int) * ((0 : Int) + (1 : Int) * ((Nm s u 3 3) * (1 : Int))))))) + (-(1 : Int)) * ((Nm s u 3 1) * (((0 : Int) + (1 : Int) * ((Nm s u 0 2) * ((0 : Int) + (1 : Int) * ((-1 : Int) * (1 : Int))))) + (-(1 : Int)) * ((-1 : Int) * ((0 : Int) + (1 : Int) * ((Nm s u 0 3) * (1 : Int))))))) + (-(-(1 : Int))) * ((-1 : Int) * (((0 : Int) + (1 : Int) * ((Nm s u 0 2) * ((0 : Int) + (1 : Int) * ((Nm s u 3 3) * (1 : Int))))) + (-(1 : Int)) * ((Nm s u 3 2) * ((0 : Int) + (1 : Int) * ((Nm s u 0 3) * (1 : Int))))))))) + (-(-(1 : Int))) * ((Nm s u 3 0) * ((((0 : Int) + (1 : Int) * ((Nm s u 0 1) * (((0 : Int) + (1 : Int) * ((0 : Int) * ((0 : Int) + (1 : Int) * ((-1 : Int) * (1 : Int))))) + (-(1 : Int)) * ((-1 : Int) * ((0 : Int) + (1 : Int) * ((0 : Int) * (1 : Int))))))) + (-(1 : Int)) * ((0 : Int) * (((0 : Int) + (1 : Int) * ((Nm s u 0 2) * ((0 : Int) + (1 : Int) * ((-1 : Int) * (1 : Int))))) + (-(1 : Int)) * ((-1 : Int) * ((0 : Int) + (1 : Int) * ((Nm s u 0 3) * (1 : Int))))))) + (-(-(1 : Int))) * ((-1 : Int) * (((0 : Int) + (1 : Int) * ((Nm s u 0 2) * ((0 : Int) + (1 : Int) * ((0 : Int) * (1 : Int))))) + (-(1 : Int)) * ((0 : Int) * ((0 : Int) + (1 : Int) * ((Nm s u 0 3) * (1 : Int))))))))) + (-(-(-(1 : Int)))) * ((-1 : Int) * ((((0 : Int) + (1 : Int) * ((Nm s u 0 1) * (((0 : Int) + (1 : Int) * ((0 : Int) * ((0 : Int) + (1 : Int) * ((Nm s u 3 3) * (1 : Int))))) + (-(1 : Int)) * ((Nm s u 3 2) * ((0 : Int) + (1 : Int) * ((0 : Int) * (1 : Int))))))) + (-(1 : Int)) * ((0 : Int) * (((0 : Int) + (1 : Int) * ((Nm s u 0 2) * ((0 : Int) + (1 : Int) * ((Nm s u 3 3) * (1 : Int))))) + (-(1 : Int)) * ((Nm s u 3 2) * ((0 : Int) + (1 : Int) * ((Nm s u 0 3) * (1 : Int))))))) + (-(-(1 : Int))) * ((Nm s u 3 1) * (((0 : Int) + (1 : Int) * ((Nm s u 0 2) * ((0 : Int) + (1 : Int) * ((0 : Int) * (1 : Int))))) + (-(1 : Int)) * ((0 : Int) * ((0 : Int) + (1 : Int) * ((Nm s u 0 3) * (1 : Int))))))))))) + (-(-(1 : Int))) * ((1 : Int) * (((((0 : Int) + (1 : Int) * ((Nm s u 0 0) * ((((0 : Int) + (1 : Int) * ((Nm s u 1 1) * (((0 : Int) + (1 : Int) * ((Nm s u 3 2) * ((0 : Int) + (1 : Int) * ((-1 : Int) * (1 : Int))))) + (-(1 : Int)) * ((-1 : Int) * ((0 : Int) + (1 : Int) * ((Nm s u 3 3) * (1 : Int))))))) + (-(1 : Int)) * ((Nm s u 3 1) * (((0 : Int) + (1 : Int) * ((Nm s u 1 2) * ((0 : Int) + (1 : Int) * ((-1 : Int) * (1 : Int))))) + (-(1 : Int)) * ((-1 : Int) * ((0 : Int) + (1 : Int) * ((Nm s u 1 3) * (1 : Int))))))) + (-(-(1 : Int))) * ((-1 : Int) * (((0 : Int) + (1 : Int) * ((Nm s u 1 2) * ((0 : Int) + (1 : Int) * ((Nm s u 3 3) * (1 : Int))))) + (-(1 : Int)) * ((Nm s u 3 2) * ((0 : Int) + (1 : Int) * ((Nm s u 1 3) * (1 : Int))))))))) + (-(1 : Int)) * ((Nm s u 1 0) * ((((0 : Int) + (1 : Int) * ((Nm s u 0 1) * (((0 : Int) + (1 : Int) * ((Nm s u 3 2) * ((0 : Int) + (1 : Int) * ((-1 : Int) * (1 : Int))))) + (-(1 : Int)) * ((-1 : Int) * ((0 : Int) + (1 : Int) * ((Nm s u 3 3) * (1 : Int))))))) + (-(1 : Int)) * ((Nm s u 3 1) * (((0 : Int) + (1 : Int) * ((Nm s u 0 2) * ((0 : Int) + (1 : Int) * ((-1 : Int) * (1 : Int))))) + (-(1 : Int)) * ((-1 : Int) * ((0 : Int) + (1 : Int) * ((Nm s u 0 3) * (1 : Int))))))) + (-(-(1 : Int))) * ((-1 : Int) * (((0 : Int) + (1 : Int) * ((Nm s u 0 2) * ((0 : Int) + (1 : Int) * ((Nm s u 3 3) * (1 : Int))))) + (-(1 : Int)) * ((Nm s u 3 2) * ((0 : Int) + (1 : Int) * ((Nm s u 0 3) * (1 : Int))))))))) + (-(-(1 : Int))) * ((Nm s u 3 0) * ((((0 : Int) + (1 : Int) * ((Nm s u 0 1) * (((0 : Int) + (1 : Int) * ((Nm s u 1 2) * ((0 : Int) + (1 : Int) * ((-1 : Int) * (1 : Int))))) + (-(1 : Int)) * ((-1 : Int) * ((0 : Int) + (1 : Int) * ((Nm s u 1 3) * (1 : Int))))))) + (-(1 : Int)) * ((Nm s u 1 1) * (((0 : Int) + (1 : Int) * ((Nm s u 0 2) * ((0 : Int) + (1 : Int) * ((-1 : Int) * (1 : Int))))) + (-(1 : Int)) * ((-1 : Int) * ((0 : Int) + (1 : Int) * ((Nm s u 0 3) * (1 : Int))))))) + (-(-(1 : Int))) * ((-1 : Int) * (((0 : Int) + (1 : Int) * ((Nm s u 0 2) * ((0 : Int) + (1 : Int) * ((Nm s u 1 3) * (1 : Int))))) + (-(1 : Int)) * ((Nm s u 1 2) * ((0 : Int) + (1 : Int) * ((Nm s u 0 3) * (1 : Int))))))))) + (-(-(-(1 : Int)))) * ((-1 : Int) * ((((0 : Int) + (1 : Int) * ((Nm s u 0 1) * (((0 : Int) + (1 : Int) * ((Nm s u 1 2) * ((0 : Int) + (1 : Int) * ((Nm s u 3 3) * (1 : Int))))) + (-(1 : Int)) * ((Nm s u 3 2) * ((0 : Int) + (1 : Int) * ((Nm s u 1 3) * (1 : Int))))))) + (-(1 : Int)) * ((Nm s u 1 1) * (((0 : Int) + (1 : Int) * ((Nm s u 0 2) * ((0 : Int) + (1 : Int) * ((Nm s u 3 3) * (1 : Int))))) + (-(1 : Int)) * ((Nm s u 3 2) * ((0 : Int) + (1 : Int) * ((Nm s u 0 3) * (1 : Int))))))) + (-(-(1 : Int))) * ((Nm s u 3 1) * (((0 : Int) + (1 : Int) * ((Nm s u 0 2) * ((0 : Int) + (1 : Int) * ((Nm s u 1 3) * (1 : Int))))) + (-(1 : Int)) * ((Nm s u 1 2) * ((0 : Int) + (1 : Int) * ((Nm s u 0 3) * (1 : Int))))))))))) + (-(-(-(1 : Int)))) * ((1 : Int) * (((((0 : Int) + (1 : Int) * ((Nm s u 0 0) * ((((0 : Int) + (1 : Int) * ((Nm s u 1 1) * (((0 : Int) + (1 : Int) * ((0 : Int) * ((0 : Int) + (1 : Int) * ((-1 : Int) * (1 : Int))))) + (-(1 : Int)) * ((-1 : Int) * ((0 : Int) + (1 : Int) * ((0 : Int) * (1 : Int))))))) + (-(1 : Int)) * ((0 : Int) * (((0 : Int) + (1 : Int) * ((Nm s u 1 2) * ((0 : Int) + (1 : Int) * ((-1 : Int) * (1 : Int))))) + (-(1 : Int)) * ((-1 : Int) * ((0 : Int) + (1 : Int) * ((Nm s u 1 3) * (1 : Int))))))) + (-(-(1 : Int))) * ((-1 : Int) * (((0 : Int) + (1 : Int) * ((Nm s u 1 2) * ((0 : Int) + (1 : Int) * ((0 : Int) * (1 : Int))))) + (-(1 : Int)) * ((0 : Int) * ((0 : Int) + (1 : Int) * ((Nm s u 1 3) * (1 : Int))))))))) + (-(1 : Int)) * ((Nm s u 1 0) * ((((0 : Int) + (1 : Int) * ((Nm s u 0 1) * (((0 : Int) + (1 : Int) * ((0 : Int) * ((0 : Int) + (1 : Int) * ((-1 : Int) * (1 : Int))))) + (-(1 : Int)) * ((-1 : Int) * ((0 : Int) + (1 : Int) * ((0 : Int) * (1 : Int))))))) + (-(1 : Int)) * ((0 : Int) * (((0 : Int) + (1 : Int) * ((Nm s u 0 2) * ((0 : Int) + (1 : Int) * ((-1 : Int) * (1 : Int))))) + (-(1 : Int)) * ((-1 : Int) * ((0 : Int) + (1 : Int) * ((Nm s u 0 3) * (1 : Int))))))) + (-(-(1 : Int))) * ((-1 : Int) * (((0 : Int) + (1 : Int) * ((Nm s u 0 2) * ((0 : Int) + (1 : Int) * ((0 : Int) * (1 : Int))))) + (-(1 : Int)) * ((0 : Int) * ((0 : Int) + (1 : Int) * ((Nm s u 0 3) * (1 : Int))))))))) + (-(-(1 : Int))) * ((0 : Int) * ((((0 : Int) + (1 : Int) * ((Nm s u 0 1) * (((0 : Int) + (1 : Int) * ((Nm s u 1 2) * ((0 : Int) + (1 : Int) * ((-1 : Int) * (1 : Int))))) + (-(1 : Int)) * ((-1 : Int) * ((0 : Int) + (1 : Int) * ((Nm s u 1 3) * (1 : Int))))))) + (-(1 : Int)) * ((Nm s u 1 1) * (((0 : Int) + (1 : Int) * ((Nm s u 0 2) * ((0 : Int) + (1 : Int) * ((-1 : Int) * (1 : Int))))) + (-(1 : Int)) * ((-1 : Int) * ((0 : Int) + (1 : Int) * ((Nm s u 0 3) * (1 : Int))))))) + (-(-(1 : Int))) * ((-1 : Int) * (((0 : Int) + (1 : Int) * ((Nm s u 0 2) * ((0 : Int) + (1 : Int) * ((Nm s u 1 3) * (1 : Int))))) + (-(1 : Int)) * ((Nm s u 1 2) * ((0 : Int) + (1 : Int) * ((Nm s u 0 3) * (1 : Int))))))))) + (-(-(-(1 : Int)))) * ((-1 : Int) * ((((0 : Int) + (1 : Int) * ((Nm s u 0 1) * (((0 : Int) + (1 : Int) * ((Nm s u 1 2) * ((0 : Int) + (1 : Int) * ((0 : Int) * (1 : Int))))) + (-(1 : Int)) * ((0 : Int) * ((0 : Int) + (1 : Int) * ((Nm s u 1 3) * (1 : Int))))))) + (-(1 : Int)) * ((Nm s u 1 1) * (((0 : Int) + (1 : Int) * ((Nm s u 0 2) * ((0 : Int) + (1 : Int) * ((0 : Int) * (1 : Int))))) + (-(1 : Int)) * ((0 : Int) * ((0 : Int) + (1 : Int) * ((Nm s u 0 3) * (1 : Int))))))) + (-(-(1 : Int))) * ((0 : Int) * (((0 : Int) + (1 : Int) * ((Nm s u 0 2) * ((0 : Int) + (1 : Int) * ((Nm s u 1 3) * (1 : Int))))) + (-(1 : Int)) * ((Nm s u 1 2) * ((0 : Int) + (1 : Int) * ((Nm s u 0 3) * (1 : Int))))))))))) + (-(-(-(-(1 : Int))))) * ((0 : Int) * (((((0 : Int) + (1 : Int) * ((Nm s u 0 0) * ((((0 : Int) + (1 : Int) * ((Nm s u 1 1) * (((0 : Int) + (1 : Int) * ((0 : Int) * ((0 : Int) + (1 : Int) * ((Nm s u 3 3) * (1 : Int))))) + (-(1 : Int)) * ((Nm s u 3 2) * ((0 : Int) + (1 : Int) * ((0 : Int) * (1 : Int))))))) + (-(1 : Int)) * ((0 : Int) * (((0 : Int) + (1 : Int) * ((Nm s u 1 2) * ((0 : Int) + (1 : Int) * ((Nm s u 3 3) * (1 : Int))))) + (-(1 : Int)) * ((Nm s u 3 2) * ((0 : Int) + (1 : Int) * ((Nm s u 1 3) * (1 : Int))))))) + (-(-(1 : Int))) * ((Nm s u 3 1) * (((0 : Int) + (1 : Int) * ((Nm s u 1 2) * ((0 : Int) + (1 : Int) * ((0 : Int) * (1 : Int))))) + (-(1 : Int)) * ((0 : Int) * ((0 : Int) + (1 : Int) * ((Nm s u 1 3) * (1 : Int))))))))) + (-(1 : Int)) * ((Nm s u 1 0) * ((((0 : Int) + (1 : Int) * ((Nm s u 0 1) * (((0 : Int) + (1 : Int) * ((0 : Int) * ((0 : Int) + (1 : Int) * ((Nm s u 3 3) * (1 : Int))))) + (-(1 : Int)) * ((Nm s u 3 2) * ((0 : Int) + (1 : Int) * ((0 : Int) * (1 : Int))))))) + (-(1 : Int)) * ((0 : Int) * (((0 : Int) + (1 : Int) * ((Nm s u 0 2) * ((0 : Int) + (1 : Int) * ((Nm s u 3 3) * (1 : Int))))) + (-(1 : Int)) * ((Nm s u 3 2) * ((0 : Int) + (1 : Int) * ((Nm s u 0 3) * (1 : Int))))))) + (-(-(1 : Int))) * ((Nm s u 3 1) * (((0 : Int) + (1 : Int) * ((Nm s u 0 2) * ((0 : Int) + (1 : Int) * ((0 : Int) * (1 : Int))))) + (-(1 : Int)) * ((0 : Int) * ((0 : Int) + (1 : Int) * ((Nm s u 0 3) * (1 : Int))))))))) + (-(-(1 : Int))) * ((0 : Int) * ((((0 : Int) + (1 : Int) * ((Nm s u 0 1) * (((0 : Int) + (1 : Int) * ((Nm s u 1 2) * ((0 : Int) + (1 : Int) * ((Nm s u 3 3) * (1 : Int))))) + (-(1 : Int)) * ((Nm s u 3 2) * ((0 : Int) + (1 : Int) * ((Nm s u 1 3) * (1 : Int))))))) + (-(1 : Int)) * ((Nm s u 1 1) * (((0 : Int) + (1 : Int) * ((Nm s u 0 2) * ((0 : Int) + (1 : Int) * ((Nm s u 3 3) * (1 : Int))))) + (-(1 : Int)) * ((Nm s u 3 2) * ((0 : Int) + (1 : Int) * ((Nm s u 0 3) * (1 : Int))))))) + (-(-(1 : Int))) * ((Nm s u 3 1) * (((0 : Int) + (1 : Int) * ((Nm s u 0 2) * ((0 : Int) + (1 : Int) * ((Nm s u 1 3) * (1 : Int))))) + (-(1 : Int)) * ((Nm s u 1 2) * ((0 : Int) + (1 : Int) * ((Nm s u 0 3) * (1 : Int))))))))) + (-(-(-(1 : Int)))) * ((Nm s u 3 0) * ((((0 : Int) + (1 : Int) * ((Nm s u 0 1) * (((0 : Int) + (1 : Int) * ((Nm s u 1 2) * ((0 : Int) + (1 : Int) * ((0 : Int) * (1 : Int))))) + (-(1 : Int)) * ((0 : Int) * ((0 : Int) + (1 : Int) * ((Nm s u 1 3) * (1 : Int))))))) + (-(1 : Int)) * ((Nm s u 1 1) * (((0 : Int) + (1 : Int) * ((Nm s u 0 2) * ((0 : Int) + (1 : Int) * ((0 : Int) * (1 : Int))))) + (-(1 : Int)) * ((0 : Int) * ((0 : Int) + (1 : Int) * ((Nm s u 0 3) * (1 : Int))))))) + (-(-(1 : Int))) * ((0 : Int) * (((0 : Int) + (1 : Int) * ((Nm s u 0 2) * ((0 : Int) + (1 : Int) * ((Nm s u 1 3) * (1 : Int))))) + (-(1 : Int)) * ((Nm s u 1 2) * ((0 : Int) + (1 : Int) * ((Nm s u 0 3) * (1 : Int))))))))))) := rfl
set_option maxRecDepth 20000 in
set_option maxHeartbeats 4000000 in
theorem d4_up2 (s : Nat) (u : Nat → Nat) : mnr (mxv s u 4 (fun c => decide (c = 2))) 5 5 0 0 = (1 : Int) * wgt s u 4 2 := (q4_up2 s u).trans (i4_up2 (Nm s u 0 0) (Nm s u 0 1) (Nm s u 0 2) (Nm s u 0 3) (Nm s u 1 0) (Nm s u 1 1) (Nm s u 1 2) (Nm s u 1 3) (Nm s u 2 0) (Nm s u 2 1) (Nm s u 2 2) (Nm s u 2 3) (Nm s u 3 0) (Nm s u 3 1) (Nm s u 3 2) (Nm s u 3 3))
set_option maxRecDepth 20000 in
set_option maxHeartbeats 4000000 in
theorem i4_up3 (n00 n01 n02 n03 n10 n11 n12 n13 n20 n21 n22 n23 n30 n31 n32 n33 : Int) : ((((((0 : Int) + (1 : Int) * ((1 : Int) * (((((0 : Int) + (1 : Int) * (n10 * ((((0 : Int) + (1 : Int) * (n21 * (((0 : Int) + (1 : Int) * ((0 : Int) * ((0 : Int) + (1 : Int) * ((-1 : Int) * (1 : Int))))) + (-(1 : Int)) * ((-1 : Int) * ((0 : Int) + (1 : Int) * ((0 : Int) * (1 : Int))))))) + (-(1 : Int)) * ((0 : Int) * (((0 : Int) + (1 : Int) * (n22 * ((0 : Int) + (1 : Int) * ((-1 : Int) * (1 : Int))))) + (-(1 : Int)) * ((-1 : Int) * ((0 : Int) + (1 : Int) * (n23 * (1 : Int))))))) + (-(-(1 : Int))) * ((-1 : Int) * (((0 : Int) + (1 : Int) * (n22 * ((0 : Int) + (1 : Int) * ((0 : Int) * (1 : Int))))) + (-(1 : Int)) * ((0 : Int) * ((0 : Int) + (1 : Int) * (n23 * (1 : Int))))))))) + (-(1 : Int)) * (n20 * ((((0 : Int) + (1 : Int) * (n11 * (((0 : Int) + (1 : Int) * ((0 : Int) * ((0 : Int) + (1 : Int) * ((-1 : Int) * (1 : Int))))) + (-(1 : Int)) * ((-1 : Int) * ((0 : Int) + (1 : Int) * ((0 : Int) * (1 : Int))))))) + (-(1 : Int)) * ((0 : Int) * (((0 : Int) + (1 : Int) * (n12 * ((0 : Int) + (1 : Int) * ((-1 : Int) * (1 : Int))))) + (-(1 : Int)) * ((-1 : Int) * ((0 : Int) + (1 : Int) * (n13 * (1 : Int))))))) + (-(-(1 : Int))) * ((-1 : Int) * (((0 : Int) + (1 : Int) * (n12 * ((0 : Int) + (1 : Int) * ((0 : Int) * (1 : Int))))) + (-(1 : Int)) * ((0 : Int) * ((0 : Int) + (1 : Int) * (n13 * (1 : Int))))))))) + (-(-(1 : Int))) * ((0 : Int) * ((((0 : Int) + (1 : Int) * (n11 * (((0 : Int) + (1 : Int) * (n22 * ((0 : Int) + (1 : Int) * ((-1 : Int) * (1 : Int))))) + (-(1 : Int)) * ((-1 : Int) * ((0 : Int) + (1 : Int) * (n23 * (1 : Int))))))) + (-(1 : Int)) * (n21 * (((0 : Int) + (1 : Int) * (n12 * ((0 : Int) + (1 : Int) * ((-1 : Int) * (1 : Int))))) + (-(1 : Int)) * ((-1 : Int) * ((0 : Int) + (1 : Int) * (n13 * (1 : Int))))))) + (-(-(1 : Int))) * ((-1 : Int) * (((0 : Int) + (1 : Int) * (n12 * ((0 : Int) + (1 : Int) * (n23 * (1 : Int))))) + (-(1 : Int)) * (n22 * ((0 : Int) + (1 : Int) * (n13 * (1 : Int))))))))) + (-(-(-(1 : Int)))) * ((-1 : Int) * ((((0 : Int) + (1 : Int) * (n11 * (((0 : Int) + (1 : Int) * (n22 * ((0 : Int) + (1 : Int) * ((0 : Int) * (1 : Int))))) + (-(1 : Int)) * ((0 : Int) * ((0 : Int) + (1 : Int) * (n23 * (1 : Int))))))) + (-(1 : Int)) * (n21 * (((0 : Int) + (1 : Int) * (n12 * ((0 : Int) + (1 : Int) * ((0 : Int) * (1 : Int))))) + (-(1 : Int)) * ((0 : Int) * ((0 : Int) + (1 : Int) * (n13 * (1 : Int))))))) + (-(-(1 : Int))) * ((0 : Int) * (((0 : Int) + (1 : Int) * (n12 * ((0 : Int) + (1 : Int) * (n23 * (1 : Int))))) + (-(1 : Int)) * (n22 * ((0 : Int) + (1 : Int) * (n13 * (1 : Int))))))))))) + (-(1 : Int)) * ((1 : Int) * (((((0 : Int) + (1 : Int) * (n00 * ((((0 : Int) + (1 : Int) * (n21 * (((0 : Int) + (1 : Int) * ((0 : Int) * ((0 : Int) + (1 : Int) * ((-1 : Int) * (1 : Int))))) + (-(1 : Int)) * ((-1 : Int) * ((0 : Int) + (1 : Int) * ((0 : Int) * (1 : Int))))))) + (-(1 : Int)) * ((0 : Int) * (((0 : Int) + (1 : Int) * (n22 * ((0 : Int) + (1 : Int) * ((-1 : Int) * (1 : Int))))) + (-(1 : Int)) * ((-1 : Int) * ((0 : Int) + (1 : Int) * (n23 * (1 : Int))))))) + (-(-(1 : Int))) * ((-1 : Int) * (((0 : Int) + (1 : Int) * (n22 * ((0 : Int) + (1 : Int) * ((0 : Int) * (1 : Int))))) + (-(1 : Int)) * ((0 : Int) * ((0 : Int) + (1 : Int) * (n23 * (1 : Int))))))))) + (-(1 : Int)) * (n20 * ((((0 : Int) + (1 : Int) * (n01 * (((0 : Int) + (1 : Int) * ((0 : Int) * ((0 : Int) + (1 : Int) * ((-1 : Int) * (1 : Int))))) + (-(1 : Int)) * ((-1 : Int) * ((0 : Int) + (1 : Int) * ((0 : Int) * (1 : Int))))))) + (-(1 : Int)) * ((0 : Int) * (((0 : Int) + (1 : Int) * (n02 * ((0 : Int) + (1 : Int) * ((-1 : Int) * (1 : Int))))) + (-(1 : Int)) * ((-1 : Int) * ((0 : Int) + (1 : Int) * (n03 * (1 : Int))))))) + (-(-(1 : Int))) * ((-1 : Int) * (((0 : Int) + (1 : Int) * (n02 * ((0 : Int) + (1 : Int) * ((0 : Int) * (1 : Int))))) + (-(1 : Int)) * ((0 : Int) * ((0 : Int) + (1 : Int) * (n03 * (1 : Int))))))))) + (-(-(1 : Int))) * ((0 : Int) * ((((0 : Int) + (1 : Int) * (n01 * (((0 : Int) + (1 : Int) * (n22 * ((0 : Int) + (1 : Int) * ((-1 : Int) * (1 : Int))))) + (-(1 : Int)) * ((-1 : Int) * ((0 : Int) + (1 : Int) * (n23 * (1 : Int))))))) + (-(1 : Int)) * (n21 * (((0 : Int) + (1 : Int) * (n02 * ((0 : Int) + (1 : Int) * ((-1 : Int) * (1 : Int))))) + (-(1 : Int)) * ((-1 : Int) * ((0 : Int) + (1 : Int) * (n03 * (1 : Int))))))) + (-(-(1 : Int))) * ((-1 : Int) * (((0 : Int) + (1 : Int) * (n02 * ((0 : Int) + (1 : Int) * (n23 * (1 : Int))))) + (-(1 : Int)) * (n22 * ((0 : Int) + (1 : Int) * (n03 * (1 : Int))))))))) + (-(-(-(1 : Int)))) * ((-1 : Int) * ((((0 : Int) + (1 : Int) * (n01 * (((0 : Int) + (1 : Int) * (n22 * ((0 : Int) + (1 : Int) * ((0 : Int) * (1 : Int))))) + (-(1 : Int)) * ((0 : Int) * ((0 : Int) + (1 : Int) * (n23 * (1 : Int))))))) + (-(1 : Int)) * (n21 * (((0 : Int) + (1 : Int) * (n02 * ((0 : Int) + (1 : Int) * ((0 : Int) * (1 : Int))))) + (-(1 : Int)) * ((0 : Int) * ((0 : Int) + (1 : Int) * (n03 * (1 : Int))))))) + (-(-(1 : Int))) * ((0 : Int) * (((0 : Int) + (1 : Int) * (n02 * ((0 : Int) + (1 : Int) * (n23 * (1 : Int))))) + (-(1 : Int)) * (n22 * ((0 : Int) + (1 : Int) * (n03 * (1 : Int))))))))))) + (-(-(1 : Int))) * ((1 : Int) * (((((0 : Int) + (1 : Int) * (n00 * ((((0 : Int) + (1 : Int) * (n11 * (((0 : Int) + (1 : Int) * ((0 : Int) * ((0 : Int) + (1 : Int) * ((-1 : Int) * (1 : Int))))) + (-(1 : Int)) * ((-1 : Int) * ((0 : Int) + (1 : Int) * ((0 : Int) * (1 : Int))))))) + (-(1 : Int)) * ((0 : Int) * (((0 : Int) + (1 : Int) * (n12 * ((0 : Int) + (1 : Int) * ((-1 : Int) * (1 : Int))))) + (-(1 : Int)) * ((-1 : Int) * ((0 : Int) + (1 : Int) * (n13 * (1 : Int))))))) + (-(-(1 : Int))) * ((-1 : Int) * (((0 : Int) + (1 : Int) * (n12 * ((0 : Int) + (1 : Int) * ((0 : Int) * (1 : Int))))) + (-(1 : Int)) * ((0 : Int) * ((0 : Int) + (1 : Int) * (n13 * (1 : Int))))))))) + (-(1 : Int)) * (n10 * ((((0 : Int) + (1 : Int) * (n01 * (((0 : Int) + (1 : Int) * ((0 : Int) * ((0 : Int) + (1 : Int) * ((-1 : Int) * (1 : Int))))) + (-(1 : Int)) * ((-1 : Int) * ((0 : Int) + (1 : Int) * ((0 : Int) * (1 : Int))))))) + (-(1 : Int)) * ((0 : Int) * (((0 : Int) + (1 : Int) * (n02 * ((0 : Int) + (1 : Int) * ((-1 : Int) * (1 : Int))))) + (-(1 : Int)) * ((-1 : Int) * ((0 : Int) + (1 : Int) * (n03 * (1 : Int))))))) + (-(-(1 : Int))) * ((-1 : Int) * (((0 : Int) + (1 : Int) * (n02 * ((0 : Int) + (1 : Int) * ((0 : Int) * (1 : Int))))) + (-(1 : Int)) * ((0 : Int) * ((0 : Int) + (1 : Int) * (n03 * (1 : Int))))))))) + (-(-(1 : Int))) * ((0 : Int) * ((((0 : Int) + (1 : Int) * (n01 * (((0 : Int) + (1 : Int) * (n12 * ((0 : Int) + (1 : Int) * ((-1 : Int) * (1 : Int))))) + (-(1 : Int)) * ((-1 : Int) * ((0 : Int) + (1 : Int) * (n13 * (1 : Int))))))) + (-(1 : Int)) * (n11 * (((0 : Int) + (1 : Int) * (n02 * ((0 : Int) + (1 : Int) * ((-1 : Int) * (1 : Int))))) + (-(1 : Int)) * ((-1 : Int) * ((0 : Int) + (1 : Int) * (n03 * (1 : Int))))))) + (-(-(1 : Int))) * ((-1 : Int) * (((0 : Int) + (1 : Int) * (n02 * ((0 : Int) + (1 : Int) * (n13 * (1 : Int))))) + (-(1 : Int)) * (n12 * ((0 : Int) + (1 : Int) * (n03 * (1 : Int))))))))) + (-(-(-(1 : Int)))) * ((-1 : Int) * ((((0 : Int) + (1 : Int) * (n01 * (((0 : Int) + (1 : Int) * (n12 * ((0 : Int) + (1 : Int) * ((0 : Int) * (1 : Int))))) + (-(1 : Int)) * ((0 : Int) * ((0 : Int) + (1 : Int) * (n13 * (1 : Int))))))) + (-(1 : Int)) * (n11 * (((0 : Int) + (1 : Int) * (n02 * ((0 : Int) + (1 : Int) * ((0 : Int) * (1 : Int))))) + (-(1 : Int)) * ((0 : Int) * ((0 : Int) + (1 : Int) * (n03 * (1 : Int))))))) + (-(-(1 : Int))) * ((0 : Int) * (((0 : Int) + (1 : Int) * (n02 * ((0 : Int) + (1 : Int) * (n13 * (1 : Int))))) + (-(1 : Int)) * (n12 * ((0 : Int) + (1 : Int) * (n03 * (1 : Int))))))))))) + (-(-(-(1 : Int)))) * ((1 : Int) * (((((0 : Int) + (1 : Int) * (n00 * ((((0 : Int) + (1 : Int) * (n11 * (((0 : Int) + (1 : Int) * (n22 * ((0 : Int) + (1 : Int) * ((-1 : Int) * (1 : Int))))) + (-(1 : Int)) * ((-1 : Int) * ((0 : Int) + (1 : Int) * (n23 * (1 : Int))))))) + (-(1 : Int)) * (n21 * (((0 : Int) + (1 : Int) * (n12 * ((0 : Int) + (1 : Int) * ((-1 : Int) * (1 : Int))))) + (-(1 : Int)) * ((-1 : Int) * ((0 : Int) + (1 : Int) * (n13 * (1 : Int))))))) + (-(-(1 : Int))) * ((-1 : Int) * (((0 : Int) + (1 : Int) * (n12 * ((0 : Int) + (1 : Int) * (n23 * (1 : Int))))) + (-(1 : Int)) * (n22 * ((0 : Int) + (1 : Int) * (n13 * (1 : Int))))))))) + (-(1 : Int)) * (n10 * ((((0 : Int) + (1 : Int) * (n01 * (((0 : Int) + (1 : Int) * (n22 * ((0 : Int) + (1 : Int) * ((-1 : Int) * (1 : Int))))) + (-(1 : Int)) * ((-1 : Int) * ((0 : Int) + (1 : Int) * (n23 * (1 : Int))))))) + (-(1 : Int)) * (n21 * (((0 : Int) + (1 : Int) * (n02 * ((0 : Int) + (1 : Int) * ((-1 : Int) * (1 : Int))))) + (-(1 : Int)) * ((-1 : Int) * ((0 : Int) + (1 : Int) * (n03 * (1 : Int))))))) + (-(-(1 : Int))) * ((-1 : Int) * (((0 : Int) + (1 : Int) * (n02 * ((0 : Int) + (1 : Int) * (n23 * (1 : Int))))) + (-(1 : Int)) * (n22 * ((0 : Int) + (1 : Int) * (n03 * (1 : Int))))))))) + (-(-(1 : Int))) * (n20 * ((((0 : Int) + (1 : Int) * (n01 * (((0 : Int) + (1 : Int) * (n12 * ((0 : Int) + (1 : Int) * ((-1 : Int) * (1 : Int))))) + (-(1 : Int)) * ((-1 : Int) * ((0 : Int) + (1 : Int) * (n13 * (1 : Int))))))) + (-(1 : Int)) * (n11 * (((0 : Int) + (1 : Int) * (n02 * ((0 : Int) + (1 : Int) * ((-1 : Int) * (1 : Int))))) + (-(1 : Int)) * ((-1 : Int) * ((0 : Int) + (1 : Int) * (n03 * (1 : Int))))))) + (-(-(1 : Int))) * ((-1 : Int) * (((0 : Int) + (1 : Int) * (n02 * ((0 : Int) + (1 : Int) * (n13 * (1 : Int))))) + (-(1 : Int)) * (n12 * ((0 : Int) + (1 : Int) * (n03 * (1 : Int))))))))) + (-(-(-(1 : Int)))) * ((-1 : Int) * ((((0 : Int) + (1 : Int) * (n01 * (((0 : Int) + (1 : Int) * (n12 * ((0 : Int) + (1 : Int) * (n23 * (1 : Int))))) + (-(1 : Int)) * (n22 * ((0 : Int) + (1 : Int) * (n13 * (1 : Int))))))) + (-(1 : Int)) * (n11 * (((0 : Int) + (1 : Int) * (n02 * ((0 : Int) + (1 : Int) * (n23 * (1 : Int))))) + (-(1 : Int)) * (n22 * ((0 : Int) + (1 : Int) * (n03 * (1 : Int))))))) + (-(-(1 : Int))) * (n21 * (((0 : Int) + (1 : Int) * (n02 * ((0 : Int) + (1 : Int) * (n13 * (1 : Int))))) + (-(1 : Int)) * (n12 * ((0 : Int) + (1 : Int) * (n03 * (1 : Int))))))))))) + (-(-(-(-(1 : Int))))) * ((0 : Int) * (((((0 : Int) + (1 : Int) * (n00 * ((((0 : Int) + (1 : Int) * (n11 * (((0 : Int) + (1 : Int) * (n22 * ((0 : Int) + (1 : Int) * ((0 : Int) * (1 : Int))))) + (-(1 : Int)) * ((0 : Int) * ((0 : Int) + (1 : Int) * (n23 * (1 : Int))))))) + (-(1 : Int)) * (n21 * (((0 : Int) + (1 : Int) * (n12 * ((0 : Int) + (1 : Int) * ((0 : Int) * (1 : Int))))) + (-(1 : Int)) * ((0 : Int) * ((0 : Int) + (1 : Int) * (n13 * (1 : Int))))))) + (-(-(1 : Int))) * ((0 : Int) * (((0 : Int) + (1 : Int) * (n12 * ((0 : Int) + (1 : Int) * (n23 * (1 : Int))))) + (-(1 : Int)) * (n22 * ((0 : Int) + (1 : Int) * (n13 * (1 : Int))))))))) + (-(1 : Int)) * (n10 * ((((0 : Int) + (1 : Int) * (n01 * (((0 : Int) + (1 : Int) * (n22 * ((0 : Int) + (1 : Int) * ((0 : Int) * (1 : Int))))) + (-(1 : Int)) * ((0 : Int) * ((0 : Int) + (1 : Int) * (n23 * (1 : Int))))))) + (-(1 : Int)) * (n21 * (((0 : Int) + (1 : Int) * (n02 * ((0 : Int) + (1 : Int) * ((0 : Int) * (1 : Int))))) + (-(1 : Int)) * ((0 : Int) * ((0 : Int) + (1 : Int) * (n03 * (1 : Int))))))) + (-(-(1 : Int))) * ((0 : Int) * (((0 : Int) + (1 : Int) * (n02 * ((0 : Int) + (1 : Int) * (n23 * (1 : Int))))) + (-(1 : Int)) * (n22 * ((0 : Int) + (1 : Int) * (n03 * (1 : Int))))))))) + (-(-(1 : Int))) * (n20 * ((((0 : Int) + (1 : Int) * (n01 * (((0 : Int) + (1 : Int) * (n12 * ((0 : Int) + (1 : Int) * ((0 : Int) * (1 : Int))))) + (-(1 : Int)) * ((0 : Int) * ((0 : Int) + (1 : Int) * (n13 * (1 : Int))))))) + (-(1 : Int)) * (n11 * (((0 : Int) + (1 : Int) * (n02 * ((0 : Int) + (1 : Int) * ((0 : Int) * (1 : Int))))) + (-(1 : Int)) * ((0 : Int) * ((0 : Int) + (1 : Int) * (n03 * (1 : Int))))))) + (-(-(1 : Int))) * ((0 : Int) * (((0 : Int) + (1 : Int) * (n02 * ((0 : Int) + (1 : Int) * (n13 * (1 : Int))))) + (-(1 : Int)) * (n12 * ((0 : Int) + (1 : Int) * (n03 * (1 : Int))))))))) + (-(-(-(1 : Int)))) * ((0 : Int) * ((((0 : Int) + (1 : Int) * (n01 * (((0 : Int) + (1 : Int) * (n12 * ((0 : Int) + (1 : Int) * (n23 * (1 : Int))))) + (-(1 : Int)) * (n22 * ((0 : Int) + (1 : Int) * (n13 * (1 : Int))))))) + (-(1 : Int)) * (n11 * (((0 : Int) + (1 : Int) * (n02 * ((0 : Int) + (1 : Int) * (n23 * (1 : Int))))) + (-(1 : Int)) * (n22 * ((0 : Int) + (1 : Int) * (n03 * (1 : Int))))))) + (-(-(1 : Int))) * (n21 * (((0 : Int) + (1 : Int) * (n02 * ((0 : Int) + (1 : Int) * (n13 * (1 : Int))))) + (-(1 : Int)) * (n12 * ((0 : Int) + (1 : Int) * (n03 * (1 : Int))))))))))) = (1 : Int) * ((-1 : Int) * ((((0 : Int) + (1 : Int) * ((n01 - n00) * (((0 : Int) + (1 : Int) * ((n12 - n10) * ((0 : Int) + (1 : Int) * ((n23 - n20) * (1 : Int))))) + (-(1 : Int)) * ((n22 - n20) * ((0 : Int) + (1 : Int) * ((n13 - n10) * (1 : Int))))))) + (-(1 : Int)) * ((n11 - n10) * (((0 : Int) + (1 : Int) * ((n02 - n00) * ((0 : Int) + (1 : Int) * ((n23 - n20) * (1 : Int))))) + (-(1 : Int)) * ((n22 - n20) * ((0 : Int) + (1 : Int) * ((n03 - n00) * (1 : Int))))))) + (-(-(1 : Int))) * ((n21 - n20) * (((0 : Int) + (1 : Int) * ((n02 - n00) * ((0 : Int) + (1 : Int) * ((n13 - n10) * (1 : Int))))) + (-(1 : Int)) * ((n12 - n10) * ((0 : Int) + (1 : Int) * ((n03 - n00) * (1 : Int)))))))) := by
  simp only [Int.mul_add, Int.add_mul, Int.sub_mul, Int.mul_sub, Int.neg_mul, Int.mul_neg, Int.one_mul, Int.mul_one, Int.zero_mul, Int.mul_zero, Int.zero_add, Int.add_zero, Int.neg_neg, Int.neg_zero, Int.sub_zero, Int.zero_sub, Int.mul_assoc, Int.mul_comm, Int.mul_left_comm]
  try omega
set_option maxRecDepth 20000 in
set_option maxHeartbeats 4000000 in
theorem q4_up3 (s : Nat) (u : Nat → Nat) : mnr (mxv s u 4 (fun c => decide (c = 3))) 5 5 0 0 = ((((((0 : Int) + (1 : Int) * ((1 : Int) * (((((0 : Int) + (1 : Int) * ((Nm s u 1 0) * ((((0 : Int) + (1 : Int) * ((Nm s u 2 1) * (((0 : Int) + (1 : Int) * ((0 : Int) * ((0 : Int) + (1 : Int) * ((-1 : Int) * (1 : Int))))) + (-(1 : Int)) * ((-1 : Int) * ((0 : Int) + (1 : Int) * ((0 : Int) * (1 : Int))))))) + (-(1 : Int)) * ((0 : Int) * (((0 : Int) + (1 : Int) * ((Nm s u 2 2) * ((0 : Int) + (1 : Int) * ((-1 : Int) * (1 : Int))))) + (-(1 : Int)) * ((-1 : Int) * ((0 : Int) + (1 : Int) * ((Nm s u 2 3) * (1 : Int))))))) + (-(-(1 : Int))) * ((-1 : Int) * (((0 : Int) + (1 : Int) * ((Nm s u 2 2) * ((0 : Int) + (1 : Int) * ((0 : Int) * (1 : Int))))) + (-(1 : Int)) * ((0 : Int) * ((0 : Int) + (1 : Int) * ((Nm s u 2 3) * (1 : Int))))))))) + (-(1 : Int)) * ((Nm s u 2 0) * ((((0 : Int) + (1 : Int) * ((Nm s u 1 1) * (((0 : Int) + (1 : Int) * ((0 : Int) * ((0 : Int) + (1 : Int) * ((-1 : Int) * (1 : Int))))) + (-(1 : Int)) * ((-1 : Int) * ((0 : Int) + (1 : Int) * ((0 : Int) * (1 : Int))))))) + (-(1 : Int)) * ((0 : Int) * (((0 : Int) + (1 : Int) * ((Nm s u 1 2) * ((0 : Int) + (1 : Int) * ((-1 : Int) * (1 : Int))))) + (-(1 : Int)) * ((-1 : Int) * ((0 : Int) + (1 : Int) * ((Nm s u 1 3) * (1 : Int))))))) + (-(-(1 : Int))) * ((-1 : Int) * (((0 : Int) + (1 : Int) * ((Nm s u 1 2) * ((0 : Int) + (1 : Int) * ((0 : Int) * (1 : Int))))) + (-(1 : Int)) * ((0 : Int) * ((0 : Int) + (1 : Int) * ((Nm s u 1 3) * (1 : Int))))))))) + (-(-(1 : Int))) * ((0 : Int) * ((((0 : Int) + (1 : Int) * ((Nm s u 1 1) * (((0 : Int) + (1 : Int) * ((Nm s u 2 2) * ((0 : Int) + (1 : Int) * ((-1 : Int) * (1 : Int))))) + (-(1 : Int)) * ((-1 : Int) * ((0 : Int) + (1 : Int) * ((Nm s u 2 3) * (1 : Int))))))) + (-(1 : Int)) * ((Nm s u 2 1) * (((0 : Int) + (1 : Int) * ((Nm s u 1 2) * ((0 : Int) + (1 : Int) * ((-1 : Int) * (1 : Int))))) + (-(1 : Int)) * ((-1 : Int) * ((0 : Int) + (1 : Int) * ((Nm s u 1 3) * (1 : Int))))))) + (-(-(1 : Int))) * ((-1 : Int) * (((0 : Int) + (1 : Int) * ((Nm s u 1 2) * ((0 : Int) + (1 : Int) * ((Nm s u 2 3) * (1 : Int))))) + (-(1 : Int)) * ((Nm s u 2 2) * ((0 : Int) + (1 : Int) * ((Nm s u 1 3) * (1 : Int))))))))) + (-(-(-(1 : Int)))) * ((-1 : Int) * ((((0 : Int) + (1 : Int) * ((Nm s u 1 1) * (((0 : Int) + (1 : Int) * ((Nm s u 2 2) * ((0 : Int) + (1 : Int) * ((0 : Int) * (1 : Int))))) + (-(1 : Int)) * ((0 : Int) * ((0 : Int) + (1 : Int) * ((Nm s u 2 3) * (1 : Int))))))) + (-(1 : Int)) * ((Nm s u 2 1) * (((0 : Int) + (1 : Int) * ((Nm s u 1 2) * ((0 : Int) + (1 : Int) * ((0 : Int) * (1 : Int))))) + (-(1 : Int)) * ((0 : Int) * ((0 : Int) + (1 : Int) * ((Nm s u 1 3) * (1 : Int))))))) + (-(-(1 : Int))) * ((0 : Int) * (((0 : Int) + (1 : Int) * ((Nm s u 1 2) * ((0 : Int) + (1 : Int) * ((Nm s u 2 3) * (1 : Int))))) + (-(1 : Int)) * ((Nm s u 2 2) * ((0 : Int) + (1 : Int) * ((Nm s u 1 3) * (1 : Int))))))))))) + (-(1 : Int)) * ((1 : Int) * (((((0 : Int) + (1 : Int) * ((Nm s u 0 0) * ((((0 : Int) + (1 : Int) * ((Nm s u 2 1) * (((0 : Int) + (1 : Int) * ((0 : Int) * ((0 : Int) + (1 : Int) * ((-1 : Int) * (1 : Int))))) + (-(1 : Int)) * ((-1 : Int) * ((0 : Int) + (1 : Int) * ((0 : Int) * (1 : Int))))))) + (-(1 : Int)) * ((0 : Int) * (((0 : Int) + (1 : Int) * ((Nm s u 2 2) * ((0 : Int) + (1 : Int) * ((-1 : Int) * (1 : Int))))) + (-(1 : Int)) * ((-1 : Int) * ((0 : Int) + (1 : Int) * ((Nm s u 2 3) * (1 : Int))))))) + (-(-(1 : Int))) * ((-1 : Int) * (((0 : Int) + (1 : Int) * ((Nm s u 2 2) * ((0 : Int) + (1 : Int) * ((0 : Int) * (1 : Int))))) + (-(1 : Int)) * ((0 : Int) * ((0 : Int) + (1 : Int) * ((Nm s u 2 3) * (1 : Int))))))))) + (-(1 : Int)) * ((Nm s u 2 0) * ((((0 : Int) + (1 : Int) * ((Nm s u 0 1) * (((0 : Int) + (1 : Int) * ((0 : Int) * ((0 : Int) + (1 : Int) * ((-1 : Int) * (1 : Int))))) + (-(1 : Int)) * ((-1 : Int) * ((0 : Int) + (1 : Int) * ((0 : Int) * (1 : Int))))))) + (-(1 : Int)) * ((0 : Int) * (((0 : Int) + (1 : Int) * ((Nm s u 0 2) * ((0 : Int) + (1 : Int) * ((-1 : Int) * (1 : Int))))) + (-(1 : Int)) * ((-1 : Int) * ((0 : Int) + (1 : Int) * ((Nm s u 0 3) * (1 : Int))))))) + (-(-(1 : Int))) * ((-1 : Int) * (((0 : Int) + (1 : Int) * ((Nm s u 0 2) * ((0 : Int) + (1 : Int) * ((0 : Int) * (1 : Int))))) + (-(1 : Int)) * ((0 : Int) * ((0 : Int) + (1 : Int) * ((Nm s u 0 3) * (1 : Int))))))))) + (-(-(1 : Int))) * ((0 : Int) * ((((0 : Int) + (1 : Int) * ((Nm s u 0 1) * (((0 : Int) + (1 : Int) * ((Nm s u 2 2) * ((0 : Int) + (1 : Int) * ((-1 : Int) * (1 : Int))))) + (-(1 : Int)) * ((-1 : Int) * ((0 : Int) + (1 : Int) * ((Nm s u 2 3) * (1 : Int))))))) + (-(1 : Int)) * ((Nm s u 2 1) * (((0 : Int) + (1 : Int) * ((Nm s u 0 2) * ((0 : Int) + (1 : Int) * ((-1 : Int) * (1 : Int))))) + (-(1 : Int)) * ((-1 : Int) * ((0 : Int) + (1 : Int) * ((Nm s u 0 3) * (1 : Int))))))) + (-(-(1 : Int))) * ((-1 : Int) * (((0 : Int) + (1 : Int) * ((Nm s u 0 2) * ((0 : Int) + (1 : Int) * ((Nm s u 2 3) * (1 : Int))))) + (-(1 : Int)) * ((Nm s u 2 2) * ((0 : Int) + (1 : Int) * ((Nm s u 0 3) * (1 : Int))))))))) + (-(-(-(1 : Int)))) * ((-1 : Int) * ((((0 : Int) + (1 : Int) * ((Nm s u 0 1) * (((0 : Int) + (1 : Int) * ((Nm s u 2 2) * ((0 : Int) + (1 : Int) * ((0 : Int) * (1 : Int))))) + (-(1 : Int)) * ((0 : Int) * ((0 : Int) + (1 : Int) * ((Nm s u 2 3) * (1 : Int))))))) + (-(1 : Int)) * ((Nm s u 2 1) * (((0 : Int) + (1 : Int) * ((Nm s u 0 2) * ((0 : Int) + (1 : Int) * ((0 : Int) * (1 : Int))))) + (-(1 : Int)) * ((0 : Int) * ((0 : Int) + (1 : Int) * ((Nm s u 0 3) * (1 : Int))))))) + (-(-(1 : Int))) * ((0 : Int) * (((0 : Int) + (1 : Int) * ((Nm s u 0 2) * ((0 : Int) + (1 : Int) * ((Nm s u 2 3) * (1 : Int))))) + (-(1 : Int)) * ((Nm s u 2 2) * ((0 : Int) + (1 : Int) * ((Nm s u 0 3) * (1 : Int))))))))))) + (-(-(1 : Int))) * ((1 : Int) * (((((0 : Int) + (1 : Int) * ((Nm s u 0 0) * ((((0 : Int) + (1 : Int) * ((Nm s u 1 1) * (((0 : Int) + (1 : Int) * ((0 : Int) * ((0 : Int) + (1 : Int) * ((-1 : Int) * (1 : Int))))) + (-(1 : Int)) * ((-1 : Int) * ((0 : Int) + (1 : Int) * ((0 : Int) * (1 : Int))))))) + (-(1 : Int)) * ((0 : Int) * (((0 : Int) + (1 : Int) * ((Nm s u 1 2) * ((0 : Int) + (1 : Int) * ((-1 : Int) * (1 : Int))))) + (-(1 : Int)) * ((-1 : Int) * ((0 : Int) + (1 : Int) * ((Nm s u 1 3) * (1 : Int))))))) + (-(-(1 : Int))) * ((-1 : Int) * (((0 : Int) + (1 : Int) * ((Nm s u 1 2) * ((0 : Int) + (1 : Int) * ((0 : Int) * (1 : Int))))) + (-(1 : Int)) * ((0 : Int) * ((0 : Int) + (1 : Int) * ((Nm s u 1 3) * (1 : Int))))))))) + (-(1 : Int)) * ((Nm s u 1 0) * ((((0 : Int) + (1 : Int) * ((Nm s u 0 1) * (((0 : Int) + (1 : Int) * ((0 : Int) * ((0 : Int) + (1 : Int) * ((-1 : Int) * (1 : Int))))) + (-(1 : Int)) * ((-1 : Int) * ((0 : Int) + (1 : Int) * ((0 : Int) * (1 : Int))))))) + (-(1 : Int)) * ((0 : Int) * (((0 : Int) + (1 : Int) * ((Nm s u 0 2) * ((0 : Int) + (1 : Int) * ((-1 : Int) * (1 : Int))))) + (-(1 : Int)) * ((-1 : Int) * ((0 : Int) + (1 : Int) * ((Nm s u 0 3) * (1 : Int))))))) + (-(-(1 : Int))) * ((-1 : Int) * (((0 : Int) + (1 : Int) * ((Nm s u 0 2) * ((0 : Int) + (1 : Int) * ((0 : Int) * (1 : Int))))) + (-(1 : Int)) * ((0 : Int) * ((0 : Int) + (1 : Int) * ((Nm s u 0 3) * (1 : Int))))))))) + (-(-(1 : Int))) * ((0 : Int) * ((((0 : Int) + (1 : Int) * ((Nm s u 0 1) * (((0 : Int) + (1 : Int) * ((Nm s u 1 2) * ((0 : Int) + (1 : Int) * ((-1 : Int) * (1 : Int))))) + (-(1 : Int)) * ((-1 : Int) * ((0 : Int) + (1 : Int) * ((Nm s u 1 3) * (1 : Int))))))) + (-(1 : Int)) * ((Nm s u 1 1) * (((0 : Int) + (1 : Int) * ((Nm s u 0 2) * ((0 : Int) + (1 : Int) * ((-1 : Int) * (1 : Int))))) + (-(1 : Int)) * ((-1 : Int) * ((0 : Int) + (1 : Int) * ((Nm s u 0 3) * (1 : Int))))))) + (-(-(1 : Int))) * ((-1 : Int) * (((0 : Int) + (1 : Int) * ((Nm s u 0 2) * ((0 : Int) + (1 : Int) * ((Nm s u 1 3) * (1 : Int))))) + (-(1 : Int)) * ((Nm s u 1 2) * ((0 : Int) + (1 : Int) * ((Nm s u 0 3) * (1 : Int))))))))) + (-(-(-(1 : Int)))) * ((-1 : Int) * ((((0 : Int) + (1 : Int) * ((Nm s u 0 1) * (((0 : Int) + (1 : Int) * ((Nm s u 1 2) * ((0 : Int) + (1 : Int) * ((0 : Int) * (1 : Int))))) + (-(1 : Int)) * ((0 : Int) * ((0 : Int) + (1 : Int) * ((Nm s u 1 3) * (1 : Int))))))) + (-(1 : Int)) * ((Nm s u 1 1) * (((0 : Int) + (1 : Int) * ((Nm s u 0 2) * ((0 : Int) + (1 : Int) * ((0 : Int) * (1 : Int))))) + (-(1 : Int)) * ((0 : Int) * ((0 : Int) + (1 : Int) * ((Nm s u 0 3) * (1 : Int))))))) + (-(-(1 : Int))) * ((0 : Int) * (((0 : Int) + (1 : Int) * ((Nm s u 0 2) * ((0 : Int) + (1 : Int) * ((Nm s u 1 3) * (1 : Int))))) + (-(1 : Int)) * ((Nm s u 1 2) * ((0 : Int) + (1 : Int) * ((Nm s u 0 3) * (1 : Int))))))))))) + (-(-(-(1 : Int)))) * ((1 : Int) * (((((0 : Int) + (1 : Int) * ((Nm s u 0 0) * ((((0 : Int) + (1 : Int) * ((Nm s u 1 1) * (((0 : Int) + (1 : Int) * ((Nm s u 2 2) * ((0 : Int) + (1 : Int) * ((-1 : Int) * (1 : Int))))) + (-(1 : Int)) * ((-1 : Int) * ((0 : Int) + (1 : Int) * ((Nm s u 2 3) * (1 : Int))))))) + (-(1 : Int)) * ((Nm s u 2 1) * (((0 : Int) + (1 : Int) * ((Nm s u 1 2) * ((0 : Int) + (1 : Int) * ((-1 : Int) * (1 : Int))))) + (-(1 : Int)) * ((-1 : Int) * ((0 : Int) + (1 : Int) * ((Nm s u 1 3) * (1 : Int))))))) + (-(-(1 : Int))) * ((-1 : Int) * (((0 : Int) + (1 : Int) * ((Nm s u 1 2) * ((0 : Int) + (1 : Int) * ((Nm s u 2 3) * (1 : Int))))) + (-(1 : Int)) * ((Nm s u 2 2) * ((0 : Int) + (1 : Int) * ((Nm s u 1 3) * (1 : Int))))))))) + (-(1 : Int)) * ((Nm s u 1 0) * ((((0 : Int) + (1 : Int) * ((Nm s u 0 1) * (((0 : Int) + (1 : Int) * ((Nm s u 2 2) * ((0 : Int) + (1 : Int) * ((-1 : Int) * (1 : Int))))) + (-(1 : Int)) * ((-1 : Int) * ((0 : Int) + (1 : Int) * ((Nm s u 2 3) * (1 : Int))))))) + (-(1 : Int)) * ((Nm s u 2 1) * (((0 : Int) + (1 : Int) * ((Nm s u 0 2) * ((0 : Int) + (1 : Int) * ((-1 : Int) * (1 : Int))))) + (-(1 : Int)) * ((-1 : Int) * ((0 : Int) + (1 : Int) * ((Nm s u 0 3) * (1 : Int))))))) + (-(-(1 : Int))) * ((-1 : Int) * (((0 : Int) + (1 : Int) * ((Nm s u 0 2) * ((0 : Int) + (1 : Int) * ((Nm s u 2 3) * (1 : Int))))) + (-(1 : Int)) * ((Nm s u 2 2) * ((0 : Int) + (1 : Int) * ((Nm s u 0 3) * (1 : Int))))))))) + (-(-(1 : Int))) * ((Nm s u 2 0) * ((((0 : Int) + (1 : Int) * ((Nm s u 0 1) * (((0 : Int) + (1 : Int) * ((Nm s u 1 2) * ((0 : Int) + (1 : Int) * ((-1 : Int) * (1 : Int))))) + (-(1 : Int)) * ((-1 : Int) * ((0 : Int) + (1 : Int) * ((Nm s u 1 3) * (1 : Int))))))) + (-(1 : Int)) * ((Nm s u 1 1) * (((0 : Int) + (1 : Int) * ((Nm s u 0 2) * ((0 : Int) + (1 : Int) * ((-1 : Int) * (1 : Int))))) + (-(1 : Int)) * ((-1 : Int) * ((0 : Int) + (1 : Int) * ((Nm s u 0 3) * (1 : Int))))))) + (-(-(1 : Int))) * ((-1 : Int) * (((0 : Int) + (1 : Int) * ((Nm s u 0 2) * ((0 : Int) + (1 : Int) * ((Nm s u 1 3) * (1 : Int))))) + (-(1 : Int)) * ((Nm s u 1 2) * ((0 : Int) + (1 : Int) * ((Nm s u 0 3) * (1 : Int))))))))) + (-(-(-(1 : Int)))) * ((-1 : Int) * ((((0 : Int) + (1 : Int) * ((Nm s u 0 1) * (((0 : Int) + (1 : Int) * ((Nm s u 1 2) * ((0 : Int) + (1 : Int) * ((Nm s u 2 3) * (1 : Int))))) + (-(1 : Int)) * ((Nm s u 2 2) * ((0 : Int) + (1 : Int) * ((Nm s u 1 3) * (1 : Int))))))) + (-(1 : Int)) * ((Nm s u 1 1) * (((0 : Int) + (1 : Int) * ((Nm s u 0 2) * ((0 : Int) + (1 : Int) * ((Nm s u 2 3) * (1 : Int))))) + (-(1 : Int)) * ((Nm s u 2 2) * ((0 : Int) + (1 : Int) * ((Nm s u 0 3) * (1 : Int))))))) + (-(-(1 : Int))) * ((Nm s u 2 1) * (((0 : Int) + (1 : Int) * ((Nm s u 0 2) * ((0 : Int) + (1 : Int) * ((Nm s u 1 3) * (1 : Int))))) + (-(1 : Int)) * ((Nm s u 1 2) * ((0 : Int) + (1 : Int) * ((Nm s u 0 3) * (1 : Int))))))))))) + (-(-(-(-(1 : Int))))) * ((0 : Int) * (((((0 : Int) + (1 : Int) * ((Nm s u 0 0) * ((((0 : Int) + (1 : Int) * ((Nm s u 1 1) * (((0 : Int) + (1 : Int) * ((Nm s u 2 2) * ((0 : Int) + (1 : Int) * ((0 : Int) * (1 : Int))))) + (-(1 : Int)) * ((0 : Int) * ((0 : Int) + (1 : Int) * ((Nm s u 2 3) * (1 : Int))))))) + (-(1 : Int)) * ((Nm s u 2 1) * (((0 : Int) + (1 : Int) * ((Nm s u 1 2) * ((0 : Int) + (1 : Int) * ((0 : Int) * (1 : Int))))) + (-(1 : Int)) * ((0 : Int) * ((0 : Int) + (1 : Int) * ((Nm s u 1 3) * (1 : Int))))))) + (-(-(1 : Int))) * ((0 : Int) * (((0 : Int) + (1 : Int) * ((Nm s u 1 2) * ((0 : Int) + (1 : Int) * ((Nm s u 2 3) * (1 : Int))))) + (-(1 : Int)) * ((Nm s u 2 2) * ((0 : Int) + (1 : Int) * ((Nm s u 1 3) * (1 : Int))))))))) + (-(1 : Int)) * ((Nm s u 1 0) * ((((0 : Int) + (1 : Int) * ((Nm s u 0 1) * (((0 : Int) + (1 : Int) * ((Nm s u 2 2) * ((0 : Int) + (1 : Int) * ((0 : Int) * (1 : Int))))) + (-(1 : Int)) * ((0 : Int) * ((0 : Int) + (1 : Int) * ((Nm s u 2 3) * (1 : Int))))))) + (-(1 : Int)) * ((Nm s u 2 1) * (((0 : Int) + (1 : Int) * ((Nm s u 0 2) * ((0 : Int) + (1 : Int) * ((0 : Int) * (1 : Int))))) + (-(1 : Int)) * ((0 : Int) * ((0 : Int) + (1 : Int) * ((Nm s u 0 3) * (1 : Int))))))) + (-(-(1 : Int))) * ((0 : Int) * (((0 : Int) + (1 : Int) * ((Nm s u 0 2) * ((0 : Int) + (1 : Int) * ((Nm s u 2 3) * (1 : Int))))) + (-(1 : Int)) * ((Nm s u 2 2) * ((0 : Int) + (1 : Int) * ((Nm s u 0 3) * (1 : Int))))))))) + (-(-(1 : Int))) * ((Nm s u 2 0) * ((((0 : Int) + (1 : Int) * ((Nm s u 0 1) * (((0 : Int) + (1 : Int) * ((Nm s u 1 2) * ((0 : Int) + (1 : Int) * ((0 : Int) * (1 : Int))))) + (-(1 : Int)) * ((0 : Int) * ((0 : Int) + (1 : Int) * ((Nm s u 1 3) * (1 : Int))))))) + (-(1 : Int)) * ((Nm s u 1 1) * (((0 : Int) + (1 : Int) * ((Nm s u 0 2) * ((0 : Int) + (1 : Int) * ((0 : Int) * (1 : Int))))) + (-(1 : Int)) * ((0 : Int) * ((0 : Int) + (1 : Int) * ((Nm s u 0 3) * (1 : Int))))))) + (-(-(1 : Int))) * ((0 : Int) * (((0 : Int) + (1 : Int) * ((Nm s u 0 2) * ((0 : Int) + (1 : Int) * ((Nm s u 1 3) * (1 : Int))))) + (-(1 : Int)) * ((Nm s u 1 2) * ((0 : Int) + (1 : Int) * ((Nm s u 0 3) * (1 : Int))))))))) + (-(-(-(1 : Int)))) * ((0 : Int) * ((((0 : Int) + (1 : Int) * ((Nm s u 0 1) * (((0 : Int) + (1 : Int) * ((Nm s u 1 2) * ((0 : Int) + (1 : Int) * ((Nm s u 2 3) * (1 : Int))))) + (-(1 : Int)) * ((Nm s u 2 2) * ((0 : Int) + (1 : Int) * ((Nm s u 1 3) * (1 : Int))))))) + (-(1 : Int)) * ((Nm s u 1 1) * (((0 : Int) + (1 : Int) * ((Nm s u 0 2) * ((0 : Int) + (1 : Int) * ((Nm s u 2 3) * (1 : Int))))) + (-(1 : Int)) * ((Nm s u 2 2) * ((0 : Int) + (1 : Int) * ((Nm s u 0 3) * (1 : Int))))))) + (-(-(1 : Int))) * ((Nm s u 2 1) * (((0 : Int) + (1 : Int) * ((Nm s u 0 2) * ((0 : Int) + (1 : Int) * ((Nm s u 1 3) * (1 : Int))))) + (-(1 : Int)) * ((Nm s u 1 2) * ((0 : Int) + (1 : Int) * ((Nm s u 0 3) * (1 : Int))))))))))) := rfl
set_option maxRecDepth 20000 in
set_option maxHeartbeats 4000000 in
theorem d4_up3 (s : Nat) (u : Nat → Nat) : mnr (mxv s u 4 (fun c => decide (c = 3))) 5 5 0 0 = (1 : Int) * wgt s u 4 3 := (q4_up3 s u).trans (i4_up3 (Nm s u 0 0) (Nm s u 0 1) (Nm s u 0 2) (Nm s u 0 3) (Nm s u 1 0) (Nm s u 1 1) (Nm s u 1 2) (Nm s u 1 3) (Nm s u 2 0) (Nm s u 2 1) (Nm s u 2 2) (Nm s u 2 3) (Nm s u 3 0) (Nm s u 3 1) (Nm s u 3 2) (Nm s u 3 3))
set_option maxRecDepth 20000 in
set_option maxHeartbeats 4000000 in
theorem i4_sum (n00 n01 n02 n03 n10 n11 n12 n13 n20 n21 n22 n23 n30 n31 n32 n33 : Int) : ((((((0 : Int) + (1 : Int) * ((1 : Int) * (((((0 : Int) + (1 : Int) * (n10 * ((((0 : Int) + (1 : Int) * (n21 * (((0 : Int) + (1 : Int) * (n32 * ((0 : Int) + (1 : Int) * ((0 : Int) * (1 : Int))))) + (-(1 : Int)) * ((0 : Int) * ((0 : Int) + (1 : Int) * (n33 * (1 : Int))))))) + (-(1 : Int)) * (n31 * (((0 : Int) + (1 : Int) * (n22 * ((0 : Int) + (1 : Int) * ((0 : Int) * (1 : Int))))) + (-(1 : Int)) * ((0 : Int) * ((0 : Int) + (1 : Int) * (n23 * (1 : Int))))))) + (-(-(1 : Int))) * ((0 : Int) * (((0 : Int) + (1 : Int) * (n22 * ((0 : Int) + (1 : Int) * (n33 * (1 : Int))))) + (-(1 : Int)) * (n32 * ((0 : Int) + (1 : Int) * (n23 * (1 : Int))))))))) + (-(1 : Int)) * (n20 * ((((0 : Int) + (1 : Int) * (n11 * (((0 : Int) + (1 : Int) * (n32 * ((0 : Int) + (1 : Int) * ((0 : Int) * (1 : Int))))) + (-(1 : Int)) * ((0 : Int) * ((0 : Int) + (1 : Int) * (n33 * (1 : Int))))))) + (-(1 : Int)) * (n31 * (((0 : Int) + (1 : Int) * (n12 * ((0 : Int) + (1 : Int) * ((0 : Int) * (1 : Int))))) + (-(1 : Int)) * ((0 : Int) * ((0 : Int) + (1 : Int) * (n13 * (1 : Int))))))) + (-(-(1 : Int))) * ((0 : Int) * (((0 : Int) + (1 : Int) * (n12 * ((0 : Int) + (1 : Int) * (n33 * (1 : Int))))) + (-(1 : Int)) * (n32 * ((0 : Int) + (1 : Int) * (n13 * (1 : Int))))))))) + (-(-(1 : Int))) * (n30 * ((((0 : Int) + (1 : Int) * (n11 * (((0 : Int) + (1 : Int) * (n22 * ((0 : Int) + (1 : Int) * ((0 : Int) * (1 : Int))))) + (-(1 : Int)) * ((0 : Int) * ((0 : Int) + (1 : Int) * (n23 * (1 : Int))))))) + (-(1 : Int)) * (n21 * (((0 : Int) + (1 : Int) * (n12 * ((0 : Int) + (1 : Int) * ((0 : Int) * (1 : Int))))) + (-(1 : Int)) * ((0 : Int) * ((0 : Int) + (1 : Int) * (n13 * (1 : Int))))))) + (-(-(1 : Int))) * ((0 : Int) * (((0 : Int) + (1 : Int) * (n12 * ((0 : Int) + (1 : Int) * (n23 * (1 : Int))))) + (-(1 : Int)) * (n22 * ((0 : Int) + (1 : Int) * (n13 * (1 : Int))))))))) + (-(-(-(1 : Int)))) * ((0 : Int) * ((((0 : Int) + (1 : Int) * (n11 * (((0 : Int) + (1 : Int) * (n22 * ((0 : Int) + (1 : Int) * (n33 * (1 : Int))))) + (-(1 : Int)) * (n32 * ((0 : Int) + (1 : Int) * (n23 * (1 : Int))))))) + (-(1 : Int)) * (n21 * (((0 : Int) + (1 : Int) * (n12 * ((0 : Int) + (1 : Int) * (n33 * (1 : Int))))) + (-(1 : Int)) * (n32 * ((0 : Int) + (1 : Int) * (n13 * (1 : Int))))))) + (-(-(1 : Int))) * (n31 * (((0 : Int) + (1 : Int) * (n12 * ((0 : Int) + (1 : Int) * (n23 * (1 : Int))))) + (-(1 : Int)) * (n22 * ((0 : Int) + (1 : Int) * (n13 * (1 : Int))))))))))) + (-(1 : Int)) * ((1 : Int) * (((((0 : Int) + (1 : Int) * (n00 * ((((0 : Int) + (1 : Int) * (n21 * (((0 : Int) + (1 : Int) * (n32 * ((0 : Int) + (1 : Int) * ((0 : Int) * (1 : Int))))) + (-(1 : Int)) * ((0 : Int) * ((0 : Int) + (1 : Int) * (n33 * (1 : Int))))))) + (-(1 : Int)) * (n31 * (((0 : Int) + (1 : Int) * (n22 * ((0 : Int) + (1 : Int) * ((0 : Int) * (1 : Int))))) + (-(1 : Int)) * ((0 : Int) * ((0 : Int) + (1 : Int) * (n23 * (1 : Int))))))) + (-(-(1 : Int))) * ((0 : Int) * (((0 : Int) + (1 : Int) * (n22 * ((0 : Int) + (1 : Int) * (n33 * (1 : Int))))) + (-(1 : Int)) * (n32 * ((0 : Int) + (1 : Int) * (n23 * (1 : Int))))))))) + (-(1 : Int)) * (n20 * ((((0 : Int) + (1 : Int) * (n01 * (((0 : Int) + (1 : Int) * (n32 * ((0 : Int) + (1 : Int) * ((0 : Int) * (1 : Int))))) + (-(1 : Int)) * ((0 : Int) * ((0 : Int) + (1 : Int) * (n33 * (1 : Int))))))) + (-(1 : Int)) * (n31 * (((0 : Int) + (1 : Int) * (n02 * ((0 : Int) + (1 : Int) * ((0 : Int) * (1 : Int))))) + (-(1 : Int)) * ((0 : Int) * ((0 : Int) + (1 : Int) * (n03 * (1 : Int))))))) + (-(-(1 : Int))) * ((0 : Int) * (((0 : Int) + (1 : Int) * (n02 * ((0 : Int) + (1 : Int) * (n33 * (1 : Int))))) + (-(1 : Int)) * (n32 * ((0 : Int) + (1 : Int) * (n03 * (1 : Int))))))))) + (-(-(1 : Int))) * (n30 * ((((0 : Int) + (1 : Int) * (n01 * (((0 : Int) + (1 : Int) * (n22 * ((0 : Int) + (1 : Int) * ((0 : Int) * (1 : Int))))) + (-(1 : Int)) * ((0 : Int) * ((0 : Int) + (1 : Int) * (n23 * (1 : Int))))))) + (-(1 : Int)) * (n21 * (((0 : Int) + (1 : Int) * (n02 * ((0 : Int) + (1 : Int) * ((0 : Int) * (1 : Int))))) + (-(1 : Int)) * ((0 : Int) * ((0 : Int) + (1 : Int) * (n03 * (1 : Int))))))) + (-(-(1 : Int))) * ((0 : Int) * (((0 : Int) + (1 : Int) * (n02 * ((0 : Int) + (1 : Int) * (n23 * (1 : Int))))) + (-(1 : Int)) * (n22 * ((0 : Int) + (1 : Int) * (n03 * (1 : Int))))))))) + (-(-(-(1 : Int)))) * ((0 : Int) * ((((0 : Int) + (1 : Int) * (n01 * (((0 : Int) + (1 : Int) * (n22 * ((0 : Int) + (1 : Int) * (n33 * (1 : Int))))) + (-(1 : Int)) * (n32 * ((0 : Int) + (1 : Int) * (n23 * (1 : Int))))))) + (-(1 : Int)) * (n21 * (((0 : Int) + (1 : Int) * (n02 * ((0 : Int) + (1 : Int) * (n33 * (1 : Int))))) + (-(1 : Int)) * (n32 * ((0 : Int) + (1 : Int) * (n03 * (1 : Int))))))) + (-(-(1 : Int))) * (n31 * (((0 : Int) + (1 : Int) * (n02 * ((0 : Int) + (1 : Int) * (n23 * (1 : Int))))) + (-(1 : Int)) * (n22 * ((0 : Int) + (1 : Int) * (n03 * (1 : Int))))))))))) + (-(-(1 : Int))) * ((1 : Int) * (((((0 : Int) + (1 : Int) * (n00 * ((((0 : Int) + (1 : Int) * (n11 * (((0 : Int) + (1 : Int) * (n32 * ((0 : Int) + (1 : Int) * ((0 : Int) * (1 : Int))))) + (-(1 : Int)) * ((0 : Int) * ((0 : Int) + (1 : Int) * (n33 * (1 : Int))))))) + (-(1 : Int)) * (n31 * (((0 : Int) + (1 : Int) * (n12 * ((0 : Int) + (1 : Int) * ((0 : Int) * (1 : Int))))) + (-(1 : Int)) * ((0 : Int) * ((0 : Int) + (1 : Int) * (n13 * (1 : Int))))))) + (-(-(1 : Int))) * ((0 : Int) * (((0 : Int) + (1 : Int) * (n12 * ((0 : Int) + (1 : Int) * (n33 * (1 : Int))))) + (-(1 : Int)) * (n32 * ((0 : Int) + (1 : Int) * (n13 * (1 : Int))))))))) + (-(1 : Int)) * (n10 * ((((0 : Int) + (1 : Int) * (n01 * (((0 : Int) + (1 : Int) * (n32 * ((0 : Int) + (1 : Int) * ((0 : Int) * (1 : Int))))) + (-(1 : Int)) * ((0 : Int) * ((0 : Int) + (1 : Int) * (n33 * (1 : Int))))))) + (-(1 : Int)) * (n31 * (((0 : Int) + (1 : Int) * (n02 * ((0 : Int) + (1 : Int) * ((0 : Int) * (1 : Int))))) + (-(1 : Int)) * ((0 : Int) * ((0 : Int) + (1 : Int) * (n03 * (1 : Int))))))) + (-(-(1 : Int))) * ((0 : Int) * (((0 : Int) + (1 : Int) * (n02 * ((0 : Int) + (1 : Int) * (n33 * (1 : Int))))) + (-(1 : Int)) * (n32 * ((0 : Int) + (1 : Int) * (n03 * (1 : Int))))))))) + (-(-(1 : Int))) * (n30 * ((((0 : Int) + (1 : Int) * (n01 * (((0 : Int) + (1 : Int) * (n12 * ((0 : Int) + (1 : Int) * ((0 : Int) * (1 : Int))))) + (-(1 : Int)) * ((0 : Int) * ((0 : Int) + (1 : Int) * (n13 * (1 : Int))))))) + (-(1 : Int)) * (n11 * (((0 : Int) + (1 : Int) * (n02 * ((0 : Int) + (1 : Int) * ((0 : Int) * (1 : Int))))) + (-(1 : Int)) * ((0 : Int) * ((0 : Int) + (1 : Int) * (n03 * (1 : Int))))))) + (-(-(1 : Int))) * ((0 : Int) * (((0 : Int) + (1 : Int) * (n02 * ((0 : Int) + (1 : Int) * (n13 * (1 : Int))))) + (-(1 : Int)) * (n12 * ((0 : Int) + (1 : Int) * (n03 * (1 : Int))))))))) + (-(-(-(1 : Int)))) * ((0 : Int) * ((((0 : Int) + (1 : Int) * (n01 * (((0 : Int) + (1 : Int) * (n12 * ((0 : Int) + (1 : Int) * (n33 * (1 : Int))))) + (-(1 : Int)) * (n32 * ((0 : Int) + (1 : Int) * (n13 * (1 : Int))))))) + (-(1 : Int)) * (n11 * (((0 : Int) + (1 : Int) * (n02 * ((0 : Int) + (1 : Int) * (n33 * (1 : Int))))) + (-(1 : Int)) * (n32 * ((0 : Int) + (1 : Int) * (n03 * (1 : Int))))))) + (-(-(1 : Int))) * (n31 * (((0 : Int) + (1 : Int) * (n02 * ((0 : Int) + (1 : Int) * (n13 * (1 : Int))))) + (-(1 : Int)) * (n12 * ((0 : Int) + (1 : Int) * (n03 * (1 : Int))))))))))) + (-(-(-(1 : Int)))) * ((1 : Int) * (((((0 : Int) + (1 : Int) * (n00 * ((((0 : Int) + (1 : Int) * (n11 * (((0 : Int) + (1 : Int) * (n22 * ((0 : Int) + (1 : Int) * ((0 : Int) * (1 : Int))))) + (-(1 : Int)) * ((0 : Int) * ((0 : Int) + (1 : Int) * (n23 * (1 : Int))))))) + (-(1 : Int)) * (n21 * (((0 : Int) + (1 : Int) * (n12 * ((0 : Int) + (1 : Int) * ((0 : Int) * (1 : Int))))) + (-(1 : Int)) * ((0 : Int) * ((0 : Int) + (1 : Int) * (n13 * (1 : Int))))))) + (-(-(1 : Int))) * ((0 : Int) * (((0 : Int) + (1 : Int) * (n12 * ((0 : Int) + (1 : Int) * (n23 * (1 : Int))))) + (-(1 : Int)) * (n22 * ((0 : Int) + (1 : Int) * (n13 * (1 : Int))))))))) + (-(1 : Int)) * (n10 * ((((0 : Int) + (1 : Int) * (n01 * (((0 : Int) + (1 : Int) * (n22 * ((0 : Int) + (1 : Int) * ((0 : Int) * (1 : Int))))) + (-(1 : Int)) * ((0 : Int) * ((0 : Int) + (1 : Int) * (n23 * (1 : Int))))))) + (-(1 : Int)) * (n21 * (((0 : Int) + (1 : Int) * (n02 * ((0 : Int) + (1 : Int) * ((0 : Int) * (1 : Int))))) + (-(1 : Int)) * ((0 : Int) * ((0 : Int) + (1 : Int) * (n03 * (1 : Int))))))) + (-(-(1 : Int))) * ((0 : Int) * (((0 : Int) + (1 : Int) * (n02 * ((0 : Int) + (1 : Int) * (n23 * (1 : Int))))) + (-(1 : Int)) * (n22 * ((0 : Int) + (1 : Int) * (n03 * (1 : Int))))))))) + (-(-(1 : Int))) * (n20 * ((((0 : Int) + (1 : Int) * (n01 * (((0 : Int) + (1 : Int) * (n12 * ((0 : Int) + (1 : Int) * ((0 : Int) * (1 : Int))))) + (-(1 : Int)) * ((0 : Int) * ((0 : Int) + (1 : Int) * (n13 * (1 : Int))))))) + (-(1 : Int)) * (n11 * (((0 : Int) + (1 : Int) * (n02 * ((0 : Int) + (1 : Int) * ((0 : Int) * (1 : Int))))) + (-(1 : Int)) * ((0 : Int) * ((0 : Int) + (1 : Int) * (n03 * (1 : Int))))))) + (-(-(1 : Int))) * ((0 : Int) * (((0 : Int) + (1 : Int) * (n02 * ((0 : Int) + (1 : Int) * (n13 * (1 : Int))))) + (-(1 : Int)) * (n12 * ((0 : Int) + (1 : Int) * (n03 * (1 : Int))))))))) + (-(-(-(1 : Int)))) * ((0 : Int) * ((((0 : Int) + (1 : Int) * (n01 * (((0 : Int) + (1 : Int) * (n12 * ((0 : Int) + (1 : Int) * (n23 * (1 : Int))))) + (-(1 : Int)) * (n22 * ((0 : Int) + (1 : Int) * (n13 * (1 : Int))))))) + (-(1 : Int)) * (n11 * (((0 : Int) + (1 : Int) * (n02 * ((0 : Int) + (1 : Int) * (n23 * (1 : Int))))) + (-(1 : Int)) * (n22 * ((0 : Int) + (1 : Int) * (n03 * (1 : Int))))))) + (-(-(1 : Int))) * (n21 * (((0 : Int) + (1 : Int) * (n02 * ((0 : Int) + (1 : Int) * (n13 * (1 : Int))))) + (-(1 : Int)) * (n12 * ((0 : Int) + (1 : Int) * (n03 * (1 : Int))))))))))) + (-(-(-(-(1 : Int))))) * ((1 : Int) * (((((0 : Int) + (1 : Int) * (n00 * ((((0 : Int) + (1 : Int) * (n11 * (((0 : Int) + (1 : Int) * (n22 * ((0 : Int) + (1 : Int) * (n33 * (1 : Int))))) + (-(1 : Int)) * (n32 * ((0 : Int) + (1 : Int) * (n23 * (1 : Int))))))) + (-(1 : Int)) * (n21 * (((0 : Int) + (1 : Int) * (n12 * ((0 : Int) + (1 : Int) * (n33 * (1 : Int))))) + (-(1 : Int)) * (n32 * ((0 : Int) + (1 : Int) * (n13 * (1 : Int))))))) + (-(-(1 : Int))) * (n31 * (((0 : Int) + (1 : Int) * (n12 * ((0 : Int) + (1 : Int) * (n23 * (1 : Int))))) + (-(1 : Int)) * (n22 * ((0 : Int) + (1 : Int) * (n13 * (1 : Int))))))))) + (-(1 : Int)) * (n10 * ((((0 : Int) + (1 : Int) * (n01 * (((0 : Int) + (1 : Int) * (n22 * ((0 : Int) + (1 : Int) * (n33 * (1 : Int))))) + (-(1 : Int)) * (n32 * ((0 : Int) + (1 : Int) * (n23 * (1 : Int))))))) + (-(1 : Int)) * (n21 * (((0 : Int) + (1 : Int) * (n02 * ((0 : Int) + (1 : Int) * (n33 * (1 : Int))))) + (-(1 : Int)) * (n32 * ((0 : Int) + (1 : Int) * (n03 * (1 : Int))))))) + (-(-(1 : Int))) * (n31 * (((0 : Int) + (1 : Int) * (n02 * ((0 : Int) + (1 : Int) * (n23 * (1 : Int))))) + (-(1 : Int)) * (n22 * ((0 : Int) + (1 : Int) * (n03 * (1 : Int))))))))) + (-(-(1 : Int))) * (n20 * ((((0 : Int) + (1 : Int) * (n01 * (((0 : Int) + (1 : Int) * (n12 * ((0 : Int) + (1 : Int) * (n33 * (1 : Int))))) + (-(1 : Int)) * (n32 * ((0 : Int) + (1 : Int) * (n13 * (1 : Int))))))) + (-(1 : Int)) * (n11 * (((0 : Int) + (1 : Int) * (n02 * ((0 : Int) + (1 : Int) * (n33 * (1 : Int))))) + (-(1 : Int)) * (n32 * ((0 : Int) + (1 : Int) * (n03 * (1 : Int))))))) + (-(-(1 : Int))) * (n31 * (((0 : Int) + (1 : Int) * (n02 * ((0 : Int) + (1 : Int) * (n13 * (1 : Int))))) + (-(1 : Int)) * (n12 * ((0 : Int) + (1 : Int) * (n03 * (1 : Int))))))))) + (-(-(-(1 : Int)))) * (n30 * ((((0 : Int) + (1 : Int) * (n01 * (((0 : Int) + (1 : Int) * (n12 * ((0 : Int) + (1 : Int) * (n23 * (1 : Int))))) + (-(1 : Int)) * (n22 * ((0 : Int) + (1 : Int) * (n13 * (1 : Int))))))) + (-(1 : Int)) * (n11 * (((0 : Int) + (1 : Int) * (n02 * ((0 : Int) + (1 : Int) * (n23 * (1 : Int))))) + (-(1 : Int)) * (n22 * ((0 : Int) + (1 : Int) * (n03 * (1 : Int))))))) + (-(-(1 : Int))) * (n21 * (((0 : Int) + (1 : Int) * (n02 * ((0 : Int) + (1 : Int) * (n13 * (1 : Int))))) + (-(1 : Int)) * (n12 * ((0 : Int) + (1 : Int) * (n03 * (1 : Int))))))))))) = (1 : Int) * (((((0 : Int) + (((1 : Int) * ((((0 : Int) + (1 : Int) * ((n11 - n10) * (((0 : Int) + (1 : Int) * ((n22 - n20) * ((0 : Int) + (1 : Int) * ((n33 - n30) * (1 : Int))))) + (-(1 : Int)) * ((n32 - n30) * ((0 : Int) + (1 : Int) * ((n23 - n20) * (1 : Int))))))) + (-(1 : Int)) * ((n21 - n20) * (((0 : Int) + (1 : Int) * ((n12 - n10) * ((0 : Int) + (1 : Int) * ((n33 - n30) * (1 : Int))))) + (-(1 : Int)) * ((n32 - n30) * ((0 : Int) + (1 : Int) * ((n13 - n10) * (1 : Int))))))) + (-(-(1 : Int))) * ((n31 - n30) * (((0 : Int) + (1 : Int) * ((n12 - n10) * ((0 : Int) + (1 : Int) * ((n23 - n20) * (1 : Int))))) + (-(1 : Int)) * ((n22 - n20) * ((0 : Int) + (1 : Int) * ((n13 - n10) * (1 : Int)))))))) * n00)) + (((-1 : Int) * ((((0 : Int) + (1 : Int) * ((n01 - n00) * (((0 : Int) + (1 : Int) * ((n22 - n20) * ((0 : Int) + (1 : Int) * ((n33 - n30) * (1 : Int))))) + (-(1 : Int)) * ((n32 - n30) * ((0 : Int) + (1 : Int) * ((n23 - n20) * (1 : Int))))))) + (-(1 : Int)) * ((n21 - n20) * (((0 : Int) + (1 : Int) * ((n02 - n00) * ((0 : Int) + (1 : Int) * ((n33 - n30) * (1 : Int))))) + (-(1 : Int)) * ((n32 - n30) * ((0 : Int) + (1 : Int) * ((n03 - n00) * (1 : Int))))))) + (-(-(1 : Int))) * ((n31 - n30) * (((0 : Int) + (1 : Int) * ((n02 - n00) * ((0 : Int) + (1 : Int) * ((n23 - n20) * (1 : Int))))) + (-(1 : Int)) * ((n22 - n20) * ((0 : Int) + (1 : Int) * ((n03 - n00) * (1 : Int)))))))) * n10)) + (((1 : Int) * ((((0 : Int) + (1 : Int) * ((n01 - n00) * (((0 : Int) + (1 : Int) * ((n12 - n10) * ((0 : Int) + (1 : Int) * ((n33 - n30) * (1 : Int))))) + (-(1 : Int)) * ((n32 - n30) * ((0 : Int) + (1 : Int) * ((n13 - n10) * (1 : Int))))))) + (-(1 : Int)) * ((n11 - n10) * (((0 : Int) + (1 : Int) * ((n02 - n00) * ((0 : Int) + (1 : Int) * ((n33 - n30) * (1 : Int))))) + (-(1 : Int)) * ((n32 - n30) * ((0 : Int) + (1 : Int) * ((n03 - n00) * (1 : Int))))))) + (-(-(1 : Int))) * ((n31 - n30) * (((0 : Int) + (1 : Int) * ((n02 - n00) * ((0 : Int) + (1 : Int) * ((n13 - n10) * (1 : Int))))) + (-(1 : Int)) * ((n12 - n10) * ((0 : Int) + (1 : Int) * ((n03 - n00) * (1 : Int)))))))) * n20)) + (((-1 : Int) * ((((0 : Int) + (1 : Int) * ((n01 - n00) * (((0 : Int) + (1 : Int) * ((n12 - n10) * ((0 : Int) + (1 : Int) * ((n23 - n20) * (1 : Int))))) + (-(1 : Int)) * ((n22 - n20) * ((0 : Int) + (1 : Int) * ((n13 - n10) * (1 : Int))))))) + (-(1 : Int)) * ((n11 - n10) * (((0 : Int) + (1 : Int) * ((n02 - n00) * ((0 : Int) + (1 : Int) * ((n23 - n20) * (1 : Int))))) + (-(1 : Int)) * ((n22 - n20) * ((0 : Int) + (1 : Int) * ((n03 - n00) * (1 : Int))))))) + (-(-(1 : Int))) * ((n21 - n20) * (((0 : Int) + (1 : Int) * ((n02 - n00) * ((0 : Int) + (1 : Int) * ((n13 - n10) * (1 : Int))))) + (-(1 : Int)) * ((n12 - n10) * ((0 : Int) + (1 : Int) * ((n03 - n00) * (1 : Int)))))))) * n30)) := by
  simp only [Int.mul_add, Int.add_mul, Int.sub_mul, Int.mul_sub, Int.neg_mul, Int.mul_neg, Int.one_mul, Int.mul_one, Int.zero_mul, Int.mul_zero, Int.zero_add, Int.add_zero, Int.neg_neg, Int.neg_zero, Int.sub_zero, Int.zero_sub, Int.mul_assoc, Int.mul_comm, Int.mul_left_comm]
  try omega
set_option maxRecDepth 20000 in
set_option maxHeartbeats 4000000 in
theorem q4_sum (s : Nat) (u : Nat → Nat) : mnr (mxv s u 4 (fun c => decide (c = 4))) 5 5 0 0 = ((((((0 : Int) + (1 : Int) * ((1 : Int) * (((((0 : Int) + (1 : Int) * ((Nm s u 1 0) * ((((0 : Int) + (1 : Int) * ((Nm s u 2 1) * (((0 : Int) + (1 : Int) * ((Nm s u 3 2) * ((0 : Int) + (1 : Int) * ((0 : Int) * (1 : Int))))) + (-(1 : Int)) * ((0 : Int) * ((0 : Int) + (1 : Int) * ((Nm s u 3 3) * (1 : Int))))))) + (-(1 : Int)) * ((Nm s u 3 1) * (((0 : Int) + (1 : Int) * ((Nm s u 2 2) * ((0 : Int) + (1 : Int) * ((0 : Int) * (1 : Int))))) + (-(1 : Int)) * ((0 : Int) * ((0 : Int) + (1 : Int) * ((Nm s u 2 3) * (1 : Int))))))) + (-(-(1 : Int))) * ((0 : Int) * (((0 : Int) + (1 : Int) * ((Nm s u 2 2) * ((0 : Int) + (1 : Int) * ((Nm s u 3 3) * (1 : Int))))) + (-(1 : Int)) * ((Nm s u 3 2) * ((0 : Int) + (1 : Int) * ((Nm s u 2 3) * (1 : Int))))))))) + (-(1 : Int)) * ((Nm s u 2 0) * ((((0 : Int) + (1 : Int) * ((Nm s u 1 1) * (((0 : Int) + (1 : Int) * ((Nm s u 3 2) * ((0 : Int) + (1 : Int) * ((0 : Int) * (1 : Int))))) + (-(1 : Int)) * ((0 : Int) * ((0 : Int) + (1 : Int) * ((Nm s u 3 3) * (1 : Int))))))) + (-(1 : Int)) * ((Nm s u 3 1) * (((0 : Int) + (1 : Int) * ((Nm s u 1 2) * ((0 : Int) + (1 : Int) * ((0 : Int) * (1 : Int))))) + (-(1 : Int)) * ((0 : Int) * ((0 : Int) + (1 : Int) * ((Nm s u 1 3) * (1 : Int))))))) + (-(-(1 : Int))) * ((0 : Int) * (((0 : Int) + (1 : Int) * ((Nm s u 1 2) * ((0 : Int) + (1 : Int) * ((Nm s u 3 3) * (1 : Int))))) + (-(1 : Int)) * ((Nm s u 3 2) * ((0 : Int) + (1 : Int) * ((Nm s u 1 3) * (1 : Int))))))))) + (-(-(1 : Int))) * ((Nm s u 3 0) * ((((0 : Int) + (1 : Int) * ((Nm s u 1 1) * (((0 : Int) + (1 : Int) * ((Nm s u 2 2) * ((0 : Int) + (1 : Int) * ((0 : Int) * (1 : Int))))) + (-(1 : Int)) * ((0 : Int) * ((0 : Int) + (1 : Int) * ((Nm s u 2 3) * (1 : Int))))))) + (-(1 : Int)) * ((Nm s u 2 1) * (((0 : Int) + (1 : Int) * ((Nm s u 1 2) * ((0 : Int) + (1 : Int) * ((0 : Int) * (1 : Int))))) + (-(1 : Int)) * ((0 : Int) * ((0 : Int) + (1 : Int) * ((Nm s u 1 3) * (1 : Int))))))) + (-(-(1 : Int))) * ((0 : Int) * (((0 : Int) + (1 : Int) * ((Nm s u 1 2) * ((0 : Int) + (1 : Int) * ((Nm s u 2 3) * (1 : Int))))) + (-(1 : Int)) * ((Nm s u 2 2) * ((0 : Int) + (1 : Int) * ((Nm s u 1 3) * (1 : Int))))))))) + (-(-(-(1 : Int)))) * ((0 : Int) * ((((0 : Int) + (1 : Int) * ((Nm s u 1 1) * (((0 : Int) + (1 : Int) * ((Nm s u 2 2) * ((0 : Int) + (1 : Int) * ((Nm s u 3 3) * (1 : Int))))) + (-(1 : Int)) * ((Nm s u 3 2) * ((0 : Int) + (1 : Int) * ((Nm s u 2 3) * (1 : Int))))))) + (-(1 : Int)) * ((Nm s u 2 1) * (((0 : Int) + (1 : Int) * ((Nm s u 1 2) * ((0 : Int) + (1 : Int) * ((Nm s u 3 3) * (1 : Int))))) + (-(1 : Int)) * ((Nm s u 3 2) * ((0 : Int) + (1 : Int) * ((Nm s u 1 3) * (1 : Int))))))) + (-(-(1 : Int))) * ((Nm s u 3 1) * (((0 : Int) + (1 : Int) * ((Nm s u 1 2) * ((0 : Int) + (1 : Int) * ((Nm s u 2 3) * (1 : Int))))) + (-(1 : Int)) * ((Nm s u 2 2) * ((0 : Int) + (1 : Int) * ((Nm s u 1 3) * (1 : Int))))))))))) + (-(1 : Int)) * ((1 : Int) * (((((0 : Int) + (1 : Int) * ((Nm s u 0 0) * ((((0 : Int) + (1 : Int) * ((Nm s u 2 1) * (((0 : Int) + (1 : Int) * ((Nm s u 3 2) * ((0 : Int) + (1 : Int) * ((0 : Int) * (1 : Int))))) + (-(1 : Int)) * ((0 : Int) * ((0 : Int) + (1 : Int) * ((Nm s u 3 3) * (1 : Int))))))) + (-(1 : Int)) * ((Nm s u 3 1) * (((0 : Int) + (1 : Int) * ((Nm s u 2 2) * ((0 : Int) + (1 : Int) * ((0 : Int) * (1 : Int))))) + (-(1 : Int)) * ((0 : Int) * ((0 : Int) + (1 : Int) * ((Nm s u 2 3) * (1 : Int))))))) + (-(-(1 : Int))) * ((0 : Int) * (((0 : Int) + (1 : Int) * ((Nm s u 2 2) * ((0 : Int) + (1 : Int) * ((Nm s u 3 3) * (1 : Int))))) + (-(1 : Int)) * ((Nm s u 3 2) * ((0 : Int) + (1 : Int) * ((Nm s u 2 3) * (1 : Int))))))))) + (-(1 : Int)) * ((Nm s u 2 0) * ((((0 : Int) + (1 : Int) * ((Nm s u 0 1) * (((0 : Int) + (1 : Int) * ((Nm s u 3 2) * ((0 : Int) + (1 : Int) * ((0 : Int) * (1 : Int))))) + (-(1 : Int)) * ((0 : Int) * ((0 : Int) + (1 : Int) * ((Nm s u 3 3) * (1 : Int))))))) + (-(1 : Int)) * ((Nm s u 3 1) * (((0 : Int) + (1 : Int) * ((Nm s u 0 2) * ((0 : Int) + (1 : Int) * ((0 : Int) * (1 : Int))))) + (-(1 : Int)) * ((0 : Int) * ((0 : Int) + (1 : Int) * ((Nm s u 0 3) * (1 : Int))))))) + (-(-(1 : Int))) * ((0 : Int) * (((0 : Int) + (1 : Int) * ((Nm s u 0 2) * ((0 : Int) + (1 : Int) * ((Nm s u 3 3) * (1 : Int))))) + (-(1 : Int)) * ((Nm s u 3 2) * ((0 : Int) + (1 : Int) * ((Nm s u 0 3) * (1 : Int))))))))) + (-(-(1 : Int))) * ((Nm s u 3 0) * ((((0 : Int) + (1 : Int) * ((Nm s u 0 1) * (((0 : Int) + (1 : Int) * ((Nm s u 2 2) * ((0 : Int) + (1 : Int) * ((0 : Int) * (1 : Int))))) + (-(1 : Int)) * ((0 : Int) * ((0 : Int) + (1 : Int) * ((Nm s u 2 3) * (1 : Int))))))) + (-(1 : Int)) * ((Nm s u 2 1) * (((0 : Int) + (1 : Int) * ((Nm s u 0 2) * ((0 : Int) + (1 : Int) * ((0 : Int) * (1 : Int))))) + (-(1 : Int)) * ((0 : Int) * ((0 : Int) + (1 : Int) * ((Nm s u 0 3) * (1 : Int))))))) + (-(-(1 : Int))) * ((0 : Int) * (((0 : Int) + (1 : Int) * ((Nm s u 0 2) * ((0 : Int) + (1 : Int) * ((Nm s u 2 3) * (1 : Int))))) + (-(1 : Int)) * ((Nm s u 2 2) * ((0 : Int) + (1 : Int) * ((Nm s u 0 3) * (1 : Int))))))))) + (-(-(-(1 : Int)))) * ((0 : Int) * ((((0 : Int) + (1 : Int) * ((Nm s u 0 1) * (((0 : Int) + (1 : Int) * ((Nm s u 2 2) * ((0 : Int) + (1 : Int) * ((Nm s u 3 3) * (1 : Int))))) + (-(1 : Int)) * ((Nm s u 3 2) * ((0 : Int) + (1 : Int) * ((Nm s u 2 3) * (1 : Int))))))) + (-(1 : Int)) * ((Nm s u 2 1) * (((0 : Int) + (1 : Int) * ((Nm s u 0 2) * ((0 : Int) + (1 : Int) * ((Nm s u 3 3) * (1 : Int))))) + (-(1 : Int)) * ((Nm s u 3 2) * ((0 : Int) + (1 : Int) * ((Nm s u 0 3) * (1 : Int))))))) + (-(-(1 : Int))) * ((Nm s u 3 1) * (((0 : Int) + (1 : Int) * ((Nm s u 0 2) * ((0 : Int) + (1 : Int) * ((Nm s u 2 3) * (1 : Int))))) + (-(1 : Int)) * ((Nm s u 2 2) * ((0 : Int) + (1 : Int) * ((Nm s u 0 3) * (1 : Int))))))))))) + (-(-(1 : Int))) * ((1 : Int) * (((((0 : Int) + (1 : Int) * ((Nm s u 0 0) * ((((0 : Int) + (1 : Int) * ((Nm s u 1 1) * (((0 : Int) + (1 : Int) * ((Nm s u 3 2) * ((0 : Int) + (1 : Int) * ((0 : Int) * (1 : Int))))) + (-(1 : Int)) * ((0 : Int) * ((0 : Int) + (1 : Int) * ((Nm s u 3 3) * (1 : Int))))))) + (-(1 : Int)) * ((Nm s u 3 1) * (((0 : Int) + (1 : Int) * ((Nm s u 1 2) * ((0 : Int) + (1 : Int) * ((0 : Int) * (1 : Int))))) + (-(1 : Int)) * ((0 : Int) * ((0 : Int) + (1 : Int) * ((Nm s u 1 3) * (1 : Int))))))) + (-(-(1 : Int))) * ((0 : Int) * (((0 : Int) + (1 : Int) * ((Nm s u 1 2) * ((0 : Int) + (1 : Int) * ((Nm s u 3 3) * (1 : Int))))) + (-(1 : Int)) * ((Nm s u 3 2) * ((0 : Int) + (1 : Int) * ((Nm s u 1 3) * (1 : Int))))))))) + (-(1 : Int)) * ((Nm s u 1 0) * ((((0 : Int) + (1 : Int) * ((Nm s u 0 1) * (((0 : Int) + (1 : Int) * ((Nm s u 3 2) * ((0 : Int) + (1 : Int) * ((0 : Int) * (1 : Int))))) + (-(1 : Int)) * ((0 : Int) * ((0 : Int) + (1 : Int) * ((Nm s u 3 3) * (1 : Int))))))) + (-(1 : Int)) * ((Nm s u 3 1) * (((0 : Int) + (1 : Int) * ((Nm s u 0 2) * ((0 : Int) + (1 : Int) * ((0 : Int) * (1 : Int))))) + (-(1 : Int)) * ((0 : Int) * ((0 : Int) + (1 : Int) * ((Nm s u 0 3) * (1 : Int))))))) + (-(-(1 : Int))) * ((0 : Int) * (((0 : Int) + (1 : Int) * ((Nm s u 0 2) * ((0 : Int) + (1 : Int) * ((Nm s u 3 3) * (1 : Int))))) + (-(1 : Int)) * ((Nm s u 3 2) * ((0 : Int) + (1 : Int) * ((Nm s u 0 3) * (1 : Int))))))))) + (-(-(1 : Int))) * ((Nm s u 3 0) * ((((0 : Int) + (1 : Int) * ((Nm s u 0 1) * (((0 : Int) + (1 : Int) * ((Nm s u 1 2) * ((0 : Int) + (1 : Int) * ((0 : Int) * (1 : Int))))) + (-(1 : Int)) * ((0 : Int) * ((0 : Int) + (1 : Int) * ((Nm s u 1 3) * (1 : Int))))))) + (-(1 : Int)) * ((Nm s u 1 1) * (((0 : Int) + (1 : Int) * ((Nm s u 0 2) * ((0 : Int) + (1 : Int) * ((0 : Int) * (1 : Int))))) + (-(1 : Int)) * ((0 : Int) * ((0 : Int) + (1 : Int) * ((Nm s u 0 3) * (1 : Int))))))) + (-(-(1 : Int))) * ((0 : Int) * (((0 : Int) + (1 : Int) * ((Nm s u 0 2) * ((0 : Int) + (1 : Int) * ((Nm s u 1 3) * (1 : Int))))) + (-(1 : Int)) * ((Nm s u 1 2) * ((0 : Int) + (1 : Int) * ((Nm s u 0 3) * (1 : Int))))))))) + (-(-(-(1 : Int)))) * ((0 : Int) * ((((0 : Int) + (1 : Int) * ((Nm s u 0 1) * (((0 : Int) + (1 : Int) * ((Nm s u 1 2) * ((0 : Int) + (1 : Int) * ((Nm s u 3 3) * (1 : Int))))) + (-(1 : Int)) * ((Nm s u 3 2) * ((0 : Int) + (1 : Int) * ((Nm s u 1 3) * (1 : Int))))))) + (-(1 : Int)) * ((Nm s u 1 1) * (((0 : Int) + (1 : Int) * ((Nm s u 0 2) * ((0 : Int) + (1 : Int) * ((Nm s u 3 3) * (1 : Int))))) + (-(1 : Int)) * ((Nm s u 3 2) * ((0 : Int) + (1 : Int) * ((Nm s u 0 3) * (1 : Int))))))) + (-(-(1 : Int))) * ((Nm s u 3 1) * (((0 : Int) + (1 : Int) * ((Nm s u 0 2) * ((0 : Int) + (1 : Int) * ((Nm s u 1 3) * (1 : Int))))) + (-(1 : Int)) * ((Nm s u 1 2) * ((0 : Int) + (1 : Int) * ((Nm s u 0 3) * (1 : Int))))))))))) + (-(-(-(1 : Int)))) * ((1 : Int) * (((((0 : Int) + (1 : Int) * ((Nm s u 0 0) * ((((0 : Int) + (1 : Int) * ((Nm s u 1 1) * (((0 : Int) + (1 : Int) * ((Nm s u 2 2) * ((0 : Int) + (1 : Int) * ((0 : Int) * (1 : Int))))) + (-(1 : Int)) * ((0 : Int) * ((0 : Int) + (1 : Int) * ((Nm s u 2 3) * (1 : Int))))))) + (-(1 : Int)) * ((Nm s u 2 1) * (((0 : Int) + (1 : Int) * ((Nm s u 1 2) * ((0 : Int) + (1 : Int) * ((0 : Int) * (1 : Int))))) + (-(1 : Int)) * ((0 : Int) * ((0 : Int) + (1 : Int) * ((Nm s u 1 3) * (1 : Int))))))) + (-(-(1 : Int))) * ((0 : Int) * (((0 : Int) + (1 : Int) * ((Nm s u 1 2) * ((0 : Int) + (1 : Int) * ((Nm s u 2 3) * (1 : Int))))) + (-(1 : Int)) * ((Nm s u 2 2) * ((0 : Int) + (1 : Int) * ((Nm s u 1 3) * (1 : Int))))))))) + (-(1 : Int)) * ((Nm s u 1 0) * ((((0 : Int) + (1 : Int) * ((Nm s u 0 1) * (((0 : Int) + (1 : Int) * ((Nm s u 2 2) * ((0 : Int) + (1 : Int) * ((0 : Int) * (1 : Int))))) + (-(1 : Int)) * ((0 : Int) * ((0 : Int) + (1 : Int) * ((Nm s u 2 3) * (1 : Int))))))) + (-(1 : Int)) * ((Nm s u 2 1) * (((0 : Int) + (1 : Int) * ((Nm s u 0 2) * ((0 : Int) + (1 : Int) * ((0 : Int) * (1 : Int))))) + (-(1 : Int)) * ((0 : Int) * ((0 : Int) + (1 : Int) * ((Nm s u 0 3) * (1 : Int))))))) + (-(-(1 : Int))) * ((0 : Int) * (((0 : Int) + (1 : Int) * ((Nm s u 0 2) * ((0 : Int) + (1 : Int) * ((Nm s u 2 3) * (1 : Int))))) + (-(1 : Int)) * ((Nm s u 2 2) * ((0 : Int) + (1 : Int) * ((Nm s u 0 3) * (1 : Int))))))))) + (-(-(1 : Int))) * ((Nm s u 2 0) * ((((0 : Int) + (1 : Int) * ((Nm s u 0 1) * (((0 : Int) + (1 : Int) * ((Nm s u 1 2) * ((0 : Int) + (1 : Int) * ((0 : Int) * (1 : Int))))) + (-(1 : Int)) * ((0 : Int) * ((0 : Int) + (1 : Int) * ((Nm s u 1 3) * (1 : Int))))))) + (-(1 : Int)) * ((Nm s u 1 1) * (((0 : Int) + (1 : Int) * ((Nm s u 0 2) * ((0 : Int) + (1 : Int) * ((0 : Int) * (1 : Int))))) + (-(1 : Int)) * ((0 : Int) * ((0 : Int) + (1 : Int) * ((Nm s u 0 3) * (1 : Int))))))) + (-(-(1 : Int))) * ((0 : Int) * (((0 : Int) + (1 : Int) * ((Nm s u 0 2) * ((0 : Int) + (1 : Int) * ((Nm s u 1 3) * (1 : Int))))) + (-(1 : Int)) * ((Nm s u 1 2) * ((0 : Int) + (1 : Int) * ((Nm s u 0 3) * (1 : Int))))))))) + (-(-(-(1 : Int)))) * ((0 : Int) * ((((0 : Int) + (1 : Int) * ((Nm s u 0 1) * (((0 : Int) + (1 : Int) * ((Nm s u 1 2) * ((0 : Int) + (1 : Int) * ((Nm s u 2 3) * (1 : Int))))) + (-(1 : Int)) * ((Nm s u 2 2) * ((0 : Int) + (1 : Int) * ((Nm s u 1 3) * (1 : Int))))))) + (-(1 : Int)) * ((Nm s u 1 1) * (((0 : Int) + (1 : Int) * ((Nm s u 0 2) * ((0 : Int) + (1 : Int) * ((Nm s u 2 3) * (1 : Int))))) + (-(1 : Int)) * ((Nm s u 2 2) * ((0 : Int) + (1 : Int) * ((Nm s u 0 3) * (1 : Int))))))) + (-(-(1 : Int))) * ((Nm s u 2 1) * (((0 : Int) + (1 : Int) * ((Nm s u 0 2) * ((0 : Int) + (1 : Int) * ((Nm s u 1 3) * (1 : Int))))) + (-(1 : Int)) * ((Nm s u 1 2) * ((0 : Int) + (1 : Int) * ((Nm s u 0 3) * (1 : Int))))))))))) + (-(-(-(-(1 : Int))))) * ((1 : Int) * (((((0 : Int) + (1 : Int) * ((Nm s u 0 0) * ((((0 : Int) + (1 : Int) * ((Nm s u 1 1) * (((0 : Int) + (1 : Int) * ((Nm s u 2 2) * ((0 : Int) + (1 : Int) * ((Nm s u 3 3) * (1 : Int))))) + (-(1 : Int)) * ((Nm s u 3 2) * ((0 : Int) + (1 : Int) * ((Nm s u 2 3) * (1 : Int))))))) + (-(1 : Int)) * ((Nm s u 2 1) * (((0 : Int) + (1 : Int) * ((Nm s u 1 2) * ((0 : Int) + (1 : Int) * ((Nm s u 3 3) * (1 : Int))))) + (-(1 : Int)) * ((Nm s u 3 2) * ((0 : Int) + (1 : Int) * ((Nm s u 1 3) * (1 : Int))))))) + (-(-(1 : Int))) * ((Nm s u 3 1) * (((0 : Int) + (1 : Int) * ((Nm s u 1 2) * ((0 : Int) + (1 : Int) * ((Nm s u 2 3) * (1 : Int))))) + (-(1 : Int)) * ((Nm s u 2 2) * ((0 : Int) + (1 : Int) * ((Nm s u 1 3) * (1 : Int))))))))) + (-(1 : Int)) * ((Nm s u 1 0) * ((((0 : Int) + (1 : Int) * ((Nm s u 0 1) * (((0 : Int) + (1 : Int) * ((Nm s u 2 2) * ((0 : Int) + (1 : Int) * ((Nm s u 3 3) * (1 : Int))))) + (-(1 : Int)) * ((Nm s u 3 2) * ((0 : Int) + (1 : Int) * ((Nm s u 2 3) * (1 : Int))))))) + (-(1 : Int)) * ((Nm s u 2 1) * (((0 : Int) + (1 : Int) * ((Nm s u 0 2) * ((0 : Int) + (1 : Int) * ((Nm s u 3 3) * (1 : Int))))) + (-(1 : Int)) * ((Nm s u 3 2) * ((0 : Int) + (1 : Int) * ((Nm s u 0 3) * (1 : Int))))))) + (-(-(1 : Int))) * ((Nm s u 3 1) * (((0 : Int) + (1 : Int) * ((Nm s u 0 2) * ((0 : Int) + (1 : Int) * ((Nm s u 2 3) * (1 : Int))))) + (-(1 : Int)) * ((Nm s u 2 2) * ((0 : Int) + (1 : Int) * ((Nm s u 0 3) * (1 : Int))))))))) + (-(-(1 : Int))) * ((Nm s u 2 0) * ((((0 : Int) + (1 : Int) * ((Nm s u 0 1) * (((0 : Int) + (1 : Int) * ((Nm s u 1 2) * ((0 : Int) + (1 : Int) * ((Nm s u 3 3) * (1 : Int))))) + (-(1 : Int)) * ((Nm s u 3 2) * ((0 : Int) + (1 : Int) * ((Nm s u 1 3) * (1 : Int))))))) + (-(1 : Int)) * ((Nm s u 1 1) * (((0 : Int) + (1 : Int) * ((Nm s u 0 2) * ((0 : Int) + (1 : Int) * ((Nm s u 3 3) * (1 : Int))))) + (-(1 : Int)) * ((Nm s u 3 2) * ((0 : Int) + (1 : Int) * ((Nm s u 0 3) * (1 : Int))))))) + (-(-(1 : Int))) * ((Nm s u 3 1) * (((0 : Int) + (1 : Int) * ((Nm s u 0 2) * ((0 : Int) + (1 : Int) * ((Nm s u 1 3) * (1 : Int))))) + (-(1 : Int)) * ((Nm s u 1 2) * ((0 : Int) + (1 : Int) * ((Nm s u 0 3) * (1 : Int))))))))) + (-(-(-(1 : Int)))) * ((Nm s u 3 0) * ((((0 : Int) + (1 : Int) * ((Nm s u 0 1) * (((0 : Int) + (1 : Int) * ((Nm s u 1 2) * ((0 : Int) + (1 : Int) * ((Nm s u 2 3) * (1 : Int))))) + (-(1 : Int)) * ((Nm s u 2 2) * ((0 : Int) + (1 : Int) * ((Nm s u 1 3) * (1 : Int))))))) + (-(1 : Int)) * ((Nm s u 1 1) * (((0 : Int) + (1 : Int) * ((Nm s u 0 2) * ((0 : Int) + (1 : Int) * ((Nm s u 2 3) * (1 : Int))))) + (-(1 : Int)) * ((Nm s u 2 2) * ((0 : Int) + (1 : Int) * ((Nm s u 0 3) * (1 : Int))))))) + (-(-(1 : Int))) * ((Nm s u 2 1) * (((0 : Int) + (1 : Int) * ((Nm s u 0 2) * ((0 : Int) + (1 : Int) * ((Nm s u 1 3) * (1 : Int))))) + (-(1 : Int)) * ((Nm s u 1 2) * ((0 : Int) + (1 : Int) * ((Nm s u 0 3) * (1 : Int))))))))))) := rfl
set_option maxRecDepth 20000 in
set_option maxHeartbeats 4000000 in
theorem d4_sum (s : Nat) (u : Nat → Nat) : mnr (mxv s u 4 (fun c => decide (c = 4))) 5 5 0 0 = (1 : Int) * sm 4 (fun i => wgt s u 4 i * Nm s u i 0) := (q4_sum s u).trans (i4_sum (Nm s u 0 0) (Nm s u 0 1) (Nm s u 0 2) (Nm s u 0 3) (Nm s u 1 0) (Nm s u 1 1) (Nm s u 1 2) (Nm s u 1 3) (Nm s u 2 0) (Nm s u 2 1) (Nm s u 2 2) (Nm s u 2 3) (Nm s u 3 0) (Nm s u 3 1) (Nm s u 3 2) (Nm s u 3 3))
set_option maxRecDepth 20000 in
set_option maxHeartbeats 4000000 in
theorem e2_w (x00 x01 : Int) : (((0 : Int) + ((1 : Int) * ((0 : Int) + (1 : Int) * (x01 * (1 : Int))))) + ((-1 : Int) * ((0 : Int) + (1 : Int) * (x00 * (1 : Int))))) = (1 : Int) * (x01 - x00) := by
  simp only [Int.mul_add, Int.add_mul, Int.sub_mul, Int.mul_sub, Int.neg_mul, Int.mul_neg, Int.one_mul, Int.mul_one, Int.zero_mul, Int.mul_zero, Int.zero_add, Int.add_zero, Int.neg_neg, Int.neg_zero, Int.sub_zero, Int.zero_sub, Int.mul_assoc, Int.mul_comm, Int.mul_left_comm]
  try omega
set_option maxRecDepth 20000 in
set_option maxHeartbeats 4000000 in
theorem w2_w (s : Nat) (u : Nat → Nat) : sm 2 (wgt s u 2) = (1 : Int) * ((apm s u 0 1) - (apm s u 0 0)) := e2_w (apm s u 0 0) (apm s u 0 1)
set_option maxRecDepth 20000 in
set_option maxHeartbeats 4000000 in
theorem e3_w (x00 x01 x02 x10 x11 x12 : Int) : ((((0 : Int) + ((1 : Int) * (((0 : Int) + (1 : Int) * (x01 * ((0 : Int) + (1 : Int) * (x12 * (1 : Int))))) + (-(1 : Int)) * (x02 * ((0 : Int) + (1 : Int) * (x11 * (1 : Int))))))) + ((-1 : Int) * (((0 : Int) + (1 : Int) * (x00 * ((0 : Int) + (1 : Int) * (x12 * (1 : Int))))) + (-(1 : Int)) * (x02 * ((0 : Int) + (1 : Int) * (x10 * (1 : Int))))))) + ((1 : Int) * (((0 : Int) + (1 : Int) * (x00 * ((0 : Int) + (1 : Int) * (x11 * (1 : Int))))) + (-(1 : Int)) * (x01 * ((0 : Int) + (1 : Int) * (x10 * (1 : Int))))))) = (1 : Int) * ((x01 - x00) * (x12 - x10) - (x11 - x10) * (x02 - x00)) := by
  simp only [Int.mul_add, Int.add_mul, Int.sub_mul, Int.mul_sub, Int.neg_mul, Int.mul_neg, Int.one_mul, Int.mul_one, Int.zero_mul, Int.mul_zero, Int.zero_add, Int.add_zero, Int.neg_neg, Int.neg_zero, Int.sub_zero, Int.zero_sub, Int.mul_assoc, Int.mul_comm, Int.mul_left_comm]
  try omega
set_option maxRecDepth 20000 in
set_option maxHeartbeats 4000000 in
theorem w3_w (s : Nat) (u : Nat → Nat) : sm 3 (wgt s u 3) = (1 : Int) * (((apm s u 0 1) - (apm s u 0 0)) * ((apm s u 1 2) - (apm s u 1 0)) - ((apm s u 1 1) - (apm s u 1 0)) * ((apm s u 0 2) - (apm s u 0 0))) := e3_w (apm s u 0 0) (apm s u 0 1) (apm s u 0 2) (apm s u 1 0) (apm s u 1 1) (apm s u 1 2)
set_option maxRecDepth 20000 in
set_option maxHeartbeats 4000000 in
theorem e4_w (x00 x01 x02 x03 x10 x11 x12 x13 x20 x21 x22 x23 : Int) : (((((0 : Int) + ((1 : Int) * ((((0 : Int) + (1 : Int) * (x01 * (((0 : Int) + (1 : Int) * (x12 * ((0 : Int) + (1 : Int) * (x23 * (1 : Int))))) + (-(1 : Int)) * (x13 * ((0 : Int) + (1 : Int) * (x22 * (1 : Int))))))) + (-(1 : Int)) * (x02 * (((0 : Int) + (1 : Int) * (x11 * ((0 : Int) + (1 : Int) * (x23 * (1 : Int))))) + (-(1 : Int)) * (x13 * ((0 : Int) + (1 : Int) * (x21 * (1 : Int))))))) + (-(-(1 : Int))) * (x03 * (((0 : Int) + (1 : Int) * (x11 * ((0 : Int) + (1 : Int) * (x22 * (1 : Int))))) + (-(1 : Int)) * (x12 * ((0 : Int) + (1 : Int) * (x21 * (1 : Int))))))))) + ((-1 : Int) * ((((0 : Int) + (1 : Int) * (x00 * (((0 : Int) + (1 : Int) * (x12 * ((0 : Int) + (1 : Int) * (x23 * (1 : Int))))) + (-(1 : Int)) * (x13 * ((0 : Int) + (1 : Int) * (x22 * (1 : Int))))))) + (-(1 : Int)) * (x02 * (((0 : Int) + (1 : Int) * (x10 * ((0 : Int) + (1 : Int) * (x23 * (1 : Int))))) + (-(1 : Int)) * (x13 * ((0 : Int) + (1 : Int) * (x20 * (1 : Int))))))) + (-(-(1 : Int))) * (x03 * (((0 : Int) + (1 : Int) * (x10 * ((0 : Int) + (1 : Int) * (x22 * (1 : Int))))) + (-(1 : Int)) * (x12 * ((0 : Int) + (1 : Int) * (x20 * (1 : Int))))))))) + ((1 : Int) * ((((0 : Int) + (1 : Int) * (x00 * (((0 : Int) + (1 : Int) * (x11 * ((0 : Int) + (1 : Int) * (x23 * (1 : Int))))) + (-(1 : Int)) * (x13 * ((0 : Int) + (1 : Int) * (x21 * (1 : Int))))))) + (-(1 : Int)) * (x01 * (((0 : Int) + (1 : Int) * (x10 * ((0 : Int) + (1 : Int) * (x23 * (1 : Int))))) + (-(1 : Int)) * (x13 * ((0 : Int) + (1 : Int) * (x20 * (1 : Int))))))) + (-(-(1 : Int))) * (x03 * (((0 : Int) + (1 : Int) * (x10 * ((0 : Int) + (1 : Int) * (x21 * (1 : Int))))) + (-(1 : Int)) * (x11 * ((0 : Int) + (1 : Int) * (x20 * (1 : Int))))))))) + ((-1 : Int) * ((((0 : Int) + (1 : Int) * (x00 * (((0 : Int) + (1 : Int) * (x11 * ((0 : Int) + (1 : Int) * (x22 * (1 : Int))))) + (-(1 : Int)) * (x12 * ((0 : Int) + (1 : Int) * (x21 * (1 : Int))))))) + (-(1 : Int)) * (x01 * (((0 : Int) + (1 : Int) * (x10 * ((0 : Int) + (1 : Int) * (x22 * (1 : Int))))) + (-(1 : Int)) * (x12 * ((0 : Int) + (1 : Int) * (x20 * (1 : Int))))))) + (-(-(1 : Int))) * (x02 * (((0 : Int) + (1 : Int) * (x10 * ((0 : Int) + (1 : Int) * (x21 * (1 : Int))))) + (-(1 : Int)) * (x11 * ((0 : Int) + (1 : Int) * (x20 * (1 : Int))))))))) = (1 : Int) * ((x01 - x00) * ((x12 - x10) * (x23 - x20) - (x22 - x20) * (x13 - x10)) - (x11 - x10) * ((x02 - x00) * (x23 - x20) - (x22 - x20) * (x03 - x00)) + (x21 - x20) * ((x02 - x00) * (x13 - x10) - (x12 - x10) * (x03 - x00))) := by
  simp only [Int.mul_add, Int.add_mul, Int.sub_mul, Int.mul_sub, Int.neg_mul, Int.mul_neg, Int.one_mul, Int.mul_one, Int.zero_mul, Int.mul_zero, Int.zero_add, Int.add_zero, Int.neg_neg, Int.neg_zero, Int.sub_zero, Int.zero_sub, Int.mul_assoc, Int.mul_comm, Int.mul_left_comm]
  try omega
set_option maxRecDepth 20000 in
set_option maxHeartbeats 4000000 in
theorem w4_w (s : Nat) (u : Nat → Nat) : sm 4 (wgt s u 4) = (1 : Int) * (((apm s u 0 1) - (apm s u 0 0)) * (((apm s u 1 2) - (apm s u 1 0)) * ((apm s u 2 3) - (apm s u 2 0)) - ((apm s u 2 2) - (apm s u 2 0)) * ((apm s u 1 3) - (apm s u 1 0))) - ((apm s u 1 1) - (apm s u 1 0)) * (((apm s u 0 2) - (apm s u 0 0)) * ((apm s u 2 3) - (apm s u 2 0)) - ((apm s u 2 2) - (apm s u 2 0)) * ((apm s u 0 3) - (apm s u 0 0))) + ((apm s u 2 1) - (apm s u 2 0)) * (((apm s u 0 2) - (apm s u 0 0)) * ((apm s u 1 3) - (apm s u 1 0)) - ((apm s u 1 2) - (apm s u 1 0)) * ((apm s u 0 3) - (apm s u 0 0)))) := e4_w (apm s u 0 0) (apm s u 0 1) (apm s u 0 2) (apm s u 0 3) (apm s u 1 0) (apm s u 1 1) (apm s u 1 2) (apm s u 1 3) (apm s u 2 0) (apm s u 2 1) (apm s u 2 2) (apm s u 2 3)
/-! the whole is not 0 -/
theorem k2_ex (a1 a2 b1 b2 : Int) (h : a1 * b2 - a2 * b1 = 0) : ∃ p q : Int, ¬ (p = 0 ∧ q = 0) ∧ p * a1 + q * a2 = 0 ∧ p * b1 + q * b2 = 0 := by
  have h' : a1 * b2 = a2 * b1 := by omega
  by_cases ha : a1 = 0 ∧ a2 = 0
  · obtain ⟨rfl, rfl⟩ := ha
    by_cases hb : b1 = 0 ∧ b2 = 0
    · obtain ⟨rfl, rfl⟩ := hb
      exact ⟨1, 0, by decide, by decide, by decide⟩
    · refine ⟨-b2, b1, fun q => hb ⟨q.2, by omega⟩, by rw [Int.mul_zero, Int.mul_zero]; rfl, ?_⟩
      rw [Int.neg_mul, Int.mul_comm b2 b1]; omega
  · refine ⟨-a2, a1, fun q => ha ⟨q.2, by omega⟩, ?_, ?_⟩
    · rw [Int.neg_mul, Int.mul_comm a2 a1]; omega
    · rw [Int.neg_mul]; omega
theorem x3_a (a1 a2 a3 b1 b2 b3 : Int) : (a2 * b3 - a3 * b2) * a1 + (a3 * b1 - a1 * b3) * a2 + (a1 * b2 - a2 * b1) * a3 = 0 := by
  simp only [Int.sub_mul, Int.mul_sub, Int.mul_assoc, Int.mul_comm, Int.mul_left_comm]
  omega
theorem x3_b (a1 a2 a3 b1 b2 b3 : Int) : (a2 * b3 - a3 * b2) * b1 + (a3 * b1 - a1 * b3) * b2 + (a1 * b2 - a2 * b1) * b3 = 0 := by
  simp only [Int.sub_mul, Int.mul_sub, Int.mul_assoc, Int.mul_comm, Int.mul_left_comm]
  omega
theorem x3_c (a1 a2 a3 b1 b2 b3 c1 c2 c3 : Int) : (a2 * b3 - a3 * b2) * c1 + (a3 * b1 - a1 * b3) * c2 + (a1 * b2 - a2 * b1) * c3 = a1 * (b2 * c3 - b3 * c2) - a2 * (b1 * c3 - b3 * c1) + a3 * (b1 * c2 - b2 * c1) := by
  simp only [Int.sub_mul, Int.mul_sub, Int.mul_assoc, Int.mul_comm, Int.mul_left_comm]
  omega
/-- two rows that are parallel: something stands upright on both -/
theorem p3_ex (a1 a2 a3 b1 b2 b3 : Int) (h1 : a2 * b3 - a3 * b2 = 0) (h2 : a3 * b1 - a1 * b3 = 0) (h3 : a1 * b2 - a2 * b1 = 0) (ha : ¬ (a1 = 0 ∧ a2 = 0 ∧ a3 = 0)) : ∃ p q r : Int, ¬ (p = 0 ∧ q = 0 ∧ r = 0) ∧ p * a1 + q * a2 + r * a3 = 0 ∧ (∀ c1 c2 c3 : Int, a1 * c2 - a2 * c1 = 0 → a3 * c1 - a1 * c3 = 0 → p * c1 + q * c2 + r * c3 = 0) := by
  by_cases h12 : a1 = 0 ∧ a2 = 0
  · obtain ⟨rfl, rfl⟩ := h12
    refine ⟨a3, 0, 0, fun q => ha ⟨rfl, rfl, q.1⟩, by rw [Int.mul_zero, Int.zero_mul, Int.zero_mul]; rfl, fun c1 c2 c3 g1 g2 => ?_⟩
    rw [Int.zero_mul] at g2
    rw [Int.zero_mul, Int.zero_mul]
    omega
  · refine ⟨-a2, a1, 0, fun q => h12 ⟨q.2.1, by omega⟩, ?_, fun c1 c2 c3 g1 g2 => ?_⟩
    · rw [Int.neg_mul, Int.zero_mul, Int.mul_comm a2 a1]; omega
    · rw [Int.neg_mul, Int.zero_mul]; omega
theorem k3_ex (a1 a2 a3 b1 b2 b3 c1 c2 c3 : Int) (h : a1 * (b2 * c3 - b3 * c2) - a2 * (b1 * c3 - b3 * c1) + a3 * (b1 * c2 - b2 * c1) = 0) : ∃ p q r : Int, ¬ (p = 0 ∧ q = 0 ∧ r = 0) ∧ p * a1 + q * a2 + r * a3 = 0 ∧ p * b1 + q * b2 + r * b3 = 0 ∧ p * c1 + q * c2 + r * c3 = 0 := by
  by_cases hab : a2 * b3 - a3 * b2 = 0 ∧ a3 * b1 - a1 * b3 = 0 ∧ a1 * b2 - a2 * b1 = 0
  · by_cases hac : a2 * c3 - a3 * c2 = 0 ∧ a3 * c1 - a1 * c3 = 0 ∧ a1 * c2 - a2 * c1 = 0
    · by_cases hbc : b2 * c3 - b3 * c2 = 0 ∧ b3 * c1 - b1 * c3 = 0 ∧ b1 * c2 - b2 * c1 = 0
      · by_cases ha : a1 = 0 ∧ a2 = 0 ∧ a3 = 0
        · obtain ⟨rfl, rfl, rfl⟩ := ha
          by_cases hb : b1 = 0 ∧ b2 = 0 ∧ b3 = 0
          · obtain ⟨rfl, rfl, rfl⟩ := hb
            by_cases hc : c1 = 0 ∧ c2 = 0 ∧ c3 = 0
            · obtain ⟨rfl, rfl, rfl⟩ := hc
              exact ⟨1, 0, 0, by decide, by decide, by decide, by decide⟩
            · obtain ⟨p, q, r, n, e1, e2⟩ := p3_ex c1 c2 c3 c1 c2 c3 (by rw [Int.mul_comm]; omega) (by rw [Int.mul_comm]; omega) (by rw [Int.mul_comm]; omega) hc
              exact ⟨p, q, r, n, by rw [Int.mul_zero, Int.mul_zero, Int.mul_zero]; rfl, by rw [Int.mul_zero, Int.mul_zero, Int.mul_zero]; rfl, e1⟩
          · obtain ⟨p, q, r, n, e1, e2⟩ := p3_ex b1 b2 b3 c1 c2 c3 hbc.1 hbc.2.1 hbc.2.2 hb
            exact ⟨p, q, r, n, by rw [Int.mul_zero, Int.mul_zero, Int.mul_zero]; rfl, e1, e2 c1 c2 c3 hbc.2.2 hbc.2.1⟩
        · obtain ⟨p, q, r, n, e1, e2⟩ := p3_ex a1 a2 a3 b1 b2 b3 hab.1 hab.2.1 hab.2.2 ha
          exact ⟨p, q, r, n, e1, e2 b1 b2 b3 hab.2.2 hab.2.1, e2 c1 c2 c3 hac.2.2 hac.2.1⟩
      · refine ⟨_, _, _, hbc, ?_, x3_a b1 b2 b3 c1 c2 c3, x3_b b1 b2 b3 c1 c2 c3⟩
        have := x3_c b1 b2 b3 c1 c2 c3 a1 a2 a3
        rw [this, ← h]
        simp only [Int.sub_mul, Int.mul_sub, Int.mul_assoc, Int.mul_comm, Int.mul_left_comm]
        omega
    · refine ⟨_, _, _, hac, x3_a a1 a2 a3 c1 c2 c3, ?_, x3_b a1 a2 a3 c1 c2 c3⟩
      have := x3_c a1 a2 a3 c1 c2 c3 b1 b2 b3
      rw [this]
      have h' : a1 * (c2 * b3 - c3 * b2) - a2 * (c1 * b3 - c3 * b1) + a3 * (c1 * b2 - c2 * b1) = -(a1 * (b2 * c3 - b3 * c2) - a2 * (b1 * c3 - b3 * c1) + a3 * (b1 * c2 - b2 * c1)) := by
        simp only [Int.sub_mul, Int.mul_sub, Int.mul_assoc, Int.mul_comm, Int.mul_left_comm]
        omega
      rw [h', h]
      rfl
  · exact ⟨_, _, _, hab, x3_a a1 a2 a3 b1 b2 b3, x3_b a1 a2 a3 b1 b2 b3, (x3_c a1 a2 a3 b1 b2 b3 c1 c2 c3).trans h⟩
section NZ
variable {s : Nat} {u : Nat → Nat}
theorem Fz_nm {k : Nat} {y : Nat → Int} (hs : s = 2 ∨ s = 3) (hw : ∀ i, i < k → okw s (u i) = true) {i : Nat} (hi : i < k) : Fz s k u y (u i) = sm k (fun j => y j * Nm s u i j) := by
  unfold Fz
  apply sm_eq
  intro j hj
  unfold Nm
  rw [gz_nb hs (okw_lt (hw i hi)).2 (hw j hj)]
theorem nz2 (hs : s = 2 ∨ s = 3) (hw : ∀ i, i < 2 → okw s (u i) = true) (ha : apt 2 u) (b1 c : Int) (h : ∀ i, i < 2 → b1 * apm s u 0 i = c) : b1 = 0 := by
  have := Fz_zero (y := fun j => if j = 0 then -b1 else b1) (c := c) hs hw ha (by decide) (by show (0 + -b1) + b1 = (0 : Int); omega) (fun i hi => by
    rw [Fz_nm hs hw hi, ← h i hi]
    show (0 + -b1 * Nm s u i 0) + b1 * Nm s u i 1 = b1 * (Nm s u i 1 - Nm s u i 0)
    rw [Int.mul_sub, Int.neg_mul]
    omega) 1 (by decide)
  simpa using this
theorem nz3 (hs : s = 2 ∨ s = 3) (hw : ∀ i, i < 3 → okw s (u i) = true) (ha : apt 3 u) (b1 b2 c : Int) (h : ∀ i, i < 3 → b1 * apm s u 0 i + b2 * apm s u 1 i = c) : b1 = 0 ∧ b2 = 0 := by
  have := Fz_zero (y := fun j => if j = 0 then -(b1 + b2) else if j = 1 then b1 else b2) (c := c) hs hw ha (by decide) (by show ((0 + -(b1 + b2)) + b1) + b2 = (0 : Int); omega) (fun i hi => by
    rw [Fz_nm hs hw hi, ← h i hi]
    show ((0 + -(b1 + b2) * Nm s u i 0) + b1 * Nm s u i 1) + b2 * Nm s u i 2 = b1 * (Nm s u i 1 - Nm s u i 0) + b2 * (Nm s u i 2 - Nm s u i 0)
    rw [Int.mul_sub, Int.mul_sub, Int.neg_mul, Int.add_mul]
    omega)
  exact ⟨by simpa using this 1 (by decide), by simpa using this 2 (by decide)⟩
theorem nz4 (hs : s = 2 ∨ s = 3) (hw : ∀ i, i < 4 → okw s (u i) = true) (ha : apt 4 u) (b1 b2 b3 c : Int) (h : ∀ i, i < 4 → b1 * apm s u 0 i + b2 * apm s u 1 i + b3 * apm s u 2 i = c) : b1 = 0 ∧ b2 = 0 ∧ b3 = 0 := by
  have := Fz_zero (y := fun j => if j = 0 then -(b1 + b2 + b3) else if j = 1 then b1 else if j = 2 then b2 else b3) (c := c) hs hw ha (by decide) (by show (((0 + -(b1 + b2 + b3)) + b1) + b2) + b3 = (0 : Int); omega) (fun i hi => by
    rw [Fz_nm hs hw hi, ← h i hi]
    show (((0 + -(b1 + b2 + b3) * Nm s u i 0) + b1 * Nm s u i 1) + b2 * Nm s u i 2) + b3 * Nm s u i 3 = b1 * (Nm s u i 1 - Nm s u i 0) + b2 * (Nm s u i 2 - Nm s u i 0) + b3 * (Nm s u i 3 - Nm s u i 0)
    rw [Int.mul_sub, Int.mul_sub, Int.mul_sub, Int.neg_mul, Int.add_mul, Int.add_mul]
    omega)
  exact ⟨by simpa using this 1 (by decide), by simpa using this 2 (by decide), by simpa using this 3 (by decide)⟩
theorem whole_ne {K : Nat} (hs : s = 2 ∨ s = 3) (K2 : 2 ≤ K) (K4 : K ≤ 4) (hw : ∀ i, i < K → okw s (u i) = true) (ha : apt K u) : sm K (wgt s u K) ≠ 0 := by
  have hK : K = 2 ∨ K = 3 ∨ K = 4 := by omega
  rcases hK with rfl | rfl | rfl
  · intro h
    rw [w2_w] at h
    have := nz2 hs hw ha 1 (apm s u 0 0) (fun i hi => by
      have : i = 0 ∨ i = 1 := by omega
      rcases this with rfl | rfl <;> omega)
    omega
  · intro h
    rw [w3_w] at h
    obtain ⟨p, q, n, e1, e2⟩ := k2_ex (apm s u 0 1 - apm s u 0 0) (apm s u 1 1 - apm s u 1 0) (apm s u 0 2 - apm s u 0 0) (apm s u 1 2 - apm s u 1 0) (by omega)
    rw [Int.mul_sub, Int.mul_sub] at e1 e2
    exact n (nz3 hs hw ha p q (p * apm s u 0 0 + q * apm s u 1 0) (fun i hi => by
      have : i = 0 ∨ i = 1 ∨ i = 2 := by omega
      rcases this with rfl | rfl | rfl <;> omega))
  · intro h
    rw [w4_w] at h
    obtain ⟨p, q, r, n, e1, e2, e3⟩ := k3_ex (apm s u 0 1 - apm s u 0 0) (apm s u 1 1 - apm s u 1 0) (apm s u 2 1 - apm s u 2 0) (apm s u 0 2 - apm s u 0 0) (apm s u 1 2 - apm s u 1 0) (apm s u 2 2 - apm s u 2 0) (apm s u 0 3 - apm s u 0 0) (apm s u 1 3 - apm s u 1 0) (apm s u 2 3 - apm s u 2 0) (by omega)
    rw [Int.mul_sub, Int.mul_sub, Int.mul_sub] at e1 e2 e3
    exact n (nz4 hs hw ha p q r (p * apm s u 0 0 + q * apm s u 1 0 + r * apm s u 2 0) (fun i hi => by
      have : i = 0 ∨ i = 1 ∨ i = 2 ∨ i = 3 := by omega
      rcases this with rfl | rfl | rfl | rfl <;> omega))
theorem det_up {K p : Nat} (K2 : 2 ≤ K) (K4 : K ≤ 4) (hp : p < K) : ∃ g : Int, (g = 1 ∨ g = -1) ∧ mnr (mxv s u K (fun c => decide (c = p))) (K + 1) (K + 1) 0 0 = g * wgt s u K p ∧ mnr (mxv s u K (fun _ => false)) (K + 1) (K + 1) 0 0 = g * sm K (wgt s u K) := by
  have hK : K = 2 ∨ K = 3 ∨ K = 4 := by omega
  rcases hK with rfl | rfl | rfl
  · refine ⟨1, Or.inl rfl, ?_, d2_det s u⟩
    have : p = 0 ∨ p = 1 := by omega
    rcases this with rfl | rfl
    · exact d2_up0 s u
    · exact d2_up1 s u
  · refine ⟨-1, Or.inr rfl, ?_, d3_det s u⟩
    have : p = 0 ∨ p = 1 ∨ p = 2 := by omega
    rcases this with rfl | rfl | rfl
    · exact d3_up0 s u
    · exact d3_up1 s u
    · exact d3_up2 s u
  · refine ⟨1, Or.inl rfl, ?_, d4_det s u⟩
    have : p = 0 ∨ p = 1 ∨ p = 2 ∨ p = 3 := by omega
    rcases this with rfl | rfl | rfl | rfl
    · exact d4_up0 s u
    · exact d4_up1 s u
    · exact d4_up2 s u
    · exact d4_up3 s u
theorem det_sum {K : Nat} (K2 : 2 ≤ K) (K4 : K ≤ 4) : ∃ g : Int, (g = 1 ∨ g = -1) ∧ mnr (mxv s u K (fun c => decide (c = K))) (K + 1) (K + 1) 0 0 = g * sm K (fun i => wgt s u K i * Nm s u i 0) ∧ mnr (mxv s u K (fun _ => false)) (K + 1) (K + 1) 0 0 = g * sm K (wgt s u K) := by
  have hK : K = 2 ∨ K = 3 ∨ K = 4 := by omega
  rcases hK with rfl | rfl | rfl
  · exact ⟨1, Or.inl rfl, d2_sum s u, d2_det s u⟩
  · exact ⟨-1, Or.inr rfl, d3_sum s u, d3_det s u⟩
  · exact ⟨1, Or.inl rfl, d4_sum s u, d4_det s u⟩
theorem wgt_bd {K p : Nat} (hs : s = 2 ∨ s = 3) (K2 : 2 ≤ K) (K4 : K ≤ 4) : (wgt s u K p).natAbs ≤ 1452 ^ 3 := by
  have h := mnr_bd (a := apm s u) (K := K) (X := 363) (K - 1) 0 (2 ^ p) (fun r c _ _ _ => apm_bd hs r c)
  have h1 : (K * 363) ^ (K - 1) ≤ 1452 ^ (K - 1) := Nat.pow_le_pow_left (by omega) _
  have h2 : 1452 ^ (K - 1) ≤ 1452 ^ 3 := Nat.pow_le_pow_right (by decide) (by omega)
  have h3 : (sgn p).natAbs = 1 := by unfold sgn; split <;> rfl
  unfold wgt
  rw [Int.natAbs_mul, h3, Nat.one_mul]
  omega
theorem sm_bd {f : Nat → Int} {X : Nat} : ∀ k, (∀ i, i < k → (f i).natAbs ≤ X) → (sm k f).natAbs ≤ k * X
  | 0, _ => Nat.zero_le _
  | k + 1, h => by
    have h1 := sm_bd k (fun i hi => h i (by omega))
    have h2 := h k (by omega)
    simp only [sm]
    rw [Nat.succ_mul]
    omega
theorem whole_bd {K : Nat} (hs : s = 2 ∨ s = 3) (K2 : 2 ≤ K) (K4 : K ≤ 4) : (sm K (wgt s u K)).natAbs ≤ 4 * 1452 ^ 3 ∧ (sm K (fun i => wgt s u K i * Nm s u i 0)).natAbs ≤ 4 * (1452 ^ 3 * 363) := by
  constructor
  · exact Nat.le_trans (sm_bd K (fun i _ => wgt_bd hs K2 K4)) (Nat.mul_le_mul_right _ K4)
  · refine Nat.le_trans (sm_bd (X := 1452 ^ 3 * 363) K (fun i _ => ?_)) (Nat.mul_le_mul_right _ K4)
    rw [Int.natAbs_mul]
    refine Nat.mul_le_mul (wgt_bd hs K2 K4) ?_
    have := nb_363 hs (ov_lt (u i) (u 0))
    unfold Nm
    omega
theorem fq_neg {X Y Z : Int} (h : Y ≠ 0) : fq (-X) (-Y) (-Z) = fq X Y Z := by
  unfold fq
  rw [Int.natAbs_neg, Int.natAbs_neg]
  by_cases c : Y < 0
  · rw [if_pos c, if_neg (by omega), Int.neg_tdiv, Int.tdiv_neg]
  · rw [if_neg c, if_pos (by omega), Int.neg_tdiv, Int.tdiv_neg, Int.neg_neg]
theorem fL_sgn {X Y Z g : Int} (hg : g = 1 ∨ g = -1) (hX : X.natAbs < 2 ^ 62) (hY : Y.natAbs < 2 ^ 62) (hZ : Z.natAbs < 2 ^ 62) (h0 : Y ≠ 0) : fL (lI (g * X)) (lI (g * Y)) (lI (g * Z)) = fL (lI X) (lI Y) (lI Z) := by
  rcases hg with rfl | rfl
  · rw [Int.one_mul, Int.one_mul, Int.one_mul]
  · rw [Int.neg_one_mul, Int.neg_one_mul, Int.neg_one_mul]
    unfold fL
    rw [lI_T (by rw [Int.natAbs_neg]; omega), lI_T (by rw [Int.natAbs_neg]; omega), lI_T (by rw [Int.natAbs_neg]; omega), lI_T (by omega), lI_T (by omega), lI_T (by omega), fq_neg h0]
end NZ
/-! field and mean -/
theorem sl_le (m : Nat) : ∀ i, (sl m i).1 ≤ i
  | 0 => Nat.le_refl _
  | i + 1 => by
    have := sl_le m i
    simp only [sl]
    split
    · dsimp only; omega
    · omega
theorem d_24 : ∀ K, K ≤ 6 → decide ((2 : Int32) ≤ nI K ∧ nI K ≤ 4) = decide (2 ≤ K ∧ K ≤ 4) := by decide
theorem d_nI10 : decide (nI 1 = (0 : Int32)) = false := rfl
theorem d_nI00 : decide (nI 0 = (0 : Int32)) = true := rfl
theorem fL_two {X Y X' Y' g : Int} (hg : g = 1 ∨ g = -1) (hX : X.natAbs < 2 ^ 62) (hY : Y.natAbs < 2 ^ 62) (h0 : Y ≠ 0) (e1 : X' = g * X) (e2 : Y' = g * Y) (u : Int32) : fL (lI X') (lI Y') (if u = 0 then lI X' else lI Y') = fL (lI X) (lI Y) (if u = 0 then lI X else lI Y) := by
  rw [e1, e2]
  by_cases c : u = 0
  · rw [if_pos c, if_pos c]; exact fL_sgn hg hX hY hX h0
  · rw [if_neg c, if_neg c]; exact fL_sgn hg hX hY hY h0
theorem e_1452 : (1452 : Nat) ^ 3 = 3061257408 := by decide
theorem nat_sgn {g X : Int} (hg : g = 1 ∨ g = -1) : (g * X).natAbs = X.natAbs := by
  rcases hg with rfl | rfl
  · rw [Int.one_mul]
  · rw [Int.neg_one_mul, Int.natAbs_neg]
section FM
variable {I : Nat → Int32} {A : Nat → Nat → Int32} {J : Nat → Int32} {B : Nat → Nat → Int32} {L : Nat → Nat → Int64} {t : List zm_E} {s n m K : Nat} {w u : Nat → Nat}
theorem c_rf0 {d : Nat} (hd : 2 ≤ d) (hn : I 102 = nI n) (n6 : n ≤ 6) {x : Int32} (h : x < 0 ∨ nI (2 ^ n) ≤ x) : zC d 117 [.ref 0, .int x] (hC I A, t) = some (some (.int 0), (hC I A, t)) := by
  obtain ⟨d, rfl⟩ : ∃ e, d = e + 1 := ⟨d - 1, by omega⟩
  rw [e_X9_isRacingField, c_is0 (by omega) hn n6 h, pn_c1, d_n00, cond_false]
theorem c_rf {d : Nat} (hd : 6 ≤ d) (n6 : n ≤ 6) (hm : m < 2 ^ n) (hs : I 100 = nI s) (hn : I 102 = nI n) (hw : ∀ i, i < n → A 2 i = nI (w i)) (hl : ∀ i, i < n → w i < 100000) : ∃ I' A', (∀ t, zC d 117 [.ref 0, .int (nI m)] (hC I A, t) = some (some (.int (b01 (decide (2 ≤ (sl m n).1 ∧ (sl m n).1 ≤ 4) && !cls (sl m n).1 (fun k => w ((sl m n).2 k))))), (hC I' A', t))) ∧ (∀ c, c ≠ 2901 → c ≠ 2902 → I' c = I c) ∧ (∀ c, c ≠ 30 → A' c = A c) ∧ (2 ≤ (sl m n).1 → (sl m n).1 ≤ 4 → fdC s (sl m n).1 (fun k => w ((sl m n).2 k)) I' A') := by
  obtain ⟨d, rfl⟩ : ∃ e, d = e + 1 := ⟨d - 1, by omega⟩
  have h64 := p2_64 n6
  have hle := sl_le m n
  have e := fun t => e_X9_isRacingField d I A t (nI m)
  simp only [c_is1 (A := A) (show 1 ≤ d by omega) hn n6 hm, pn_c1, d_n10, cond_true, z_bc (show 1 ≤ d by omega) _ (show m < 64 by omega), ← sl_n n n6 m hm, F1, e_X9_isRacingField_at17] at e
  by_cases k2 : (sl m n).1 < 2
  · refine ⟨I, A, fun t => ?_, fun c _ _ => rfl, fun c _ => rfl, fun q => by omega⟩
    rw [e t, pn_t (show nI (sl m n).1 < (2 : Int32) from nI_lt (b := 2) k2 (by decide)), decide_eq_false (show ¬ (2 ≤ (sl m n).1 ∧ (sl m n).1 ≤ 4) from fun q => by omega)]
    rfl
  have nk2 : ¬ nI (sl m n).1 < (2 : Int32) := nI_nlt (b := 2) (by omega) (by omega)
  by_cases k4 : (sl m n).1 ≤ 4
  · obtain ⟨I', A', a1, a2, a3, a4⟩ := c_fill (I := I) (A := A) (d := d) (s := s) (by omega) n6 (show m < 64 by omega) k4 hs hn hw
    refine ⟨I', A', fun t => ?_, a2, a3, fun _ _ => a4⟩
    have ho := c_ho (t := t) (d := d) (by omega) k4 a4 (fun i hi => hl _ (sl_bit m n i hi).1)
    rw [e t, pn_f nk2, pn_t (show nI (sl m n).1 ≤ (4 : Int32) from nI_le (b := 4) k4 (by decide)), a1 t, pn_c0, F2, e_X9_isRacingField_at42, ho, pn_c1, decide_eq_true (show 2 ≤ (sl m n).1 ∧ (sl m n).1 ≤ 4 from ⟨by omega, k4⟩), Bool.true_and]
    cases cls (sl m n).1 (fun k => w ((sl m n).2 k)) with
    | true => rfl
    | false => rfl
  · refine ⟨I, A, fun t => ?_, fun c _ _ => rfl, fun c _ => rfl, fun _ q => by omega⟩
    rw [e t, pn_f nk2, pn_f (show ¬ nI (sl m n).1 ≤ (4 : Int32) from nI_ge (a := 4) (by omega) (by omega)), decide_eq_false (show ¬ (2 ≤ (sl m n).1 ∧ (sl m n).1 ≤ 4) from fun q => by omega)]
    rfl
theorem c_chP {d p : Nat} (hd : 8 ≤ d) (hs : s = 2 ∨ s = 3) (K2 : 2 ≤ K) (K4 : K ≤ 4) (hu : ∀ i, i < K → u i < 100000) (h : fdC s K u I A) (hne : sm K (wgt s u K) ≠ 0) (hp : p < K) (x : Int32) : ∃ A', (∀ t, zC d 22 [.ref 29, .int (nI p), .int x] (hC I A, t) = some (some (.long (fL (lI (wgt s u K p)) (lI (sm K (wgt s u K))) (if x = 0 then lI (wgt s u K p) else lI (sm K (wgt s u K))))), (hC I A', t))) ∧ ∀ c, c < 32 ∨ 34 < c → A' c = A c := by
  obtain ⟨d, rfl⟩ : ∃ e, d = e + 1 := ⟨d - 1, by omega⟩
  obtain ⟨A', a1, a2, a3⟩ := c_setA (s := s) (I := I) (A := A) (d := d) (by omega) (by omega) K4 hu h
  refine ⟨A', fun t => ?_, a2⟩
  have b1 := wgt_bd (u := u) (p := p) hs K2 K4
  have b2 := (whole_bd (u := u) hs K2 K4).1
  rw [e_1452] at b1 b2
  have t1 := lI_T (a := wgt s u K p) (by omega)
  have t2 := lI_T (a := sm K (wgt s u K)) (by omega)
  rw [e_X2_chancePart, pn_f (nI_pos (by omega)), h.1, pn_t (nI_lt hp (by omega)), a1 t, pn_c0, c_weight (by omega) hs K2 K4 h.1 a3 hp, pn_c2, c_whole (by omega) hs K2 K4 h.1 a3, pn_c2, s_partOf (by omega) _ _ _ x (by rw [t1]; omega) (by rw [t2]; omega) (by rw [t2]; exact hne), pn_c2]
theorem c_mnP {d : Nat} (hd : 9 ≤ d) (hs : s = 2 ∨ s = 3) (K2 : 2 ≤ K) (K4 : K ≤ 4) (hu : ∀ i, i < K → u i < 100000) (h : fdC s K u I A) (hne : sm K (wgt s u K) ≠ 0) (x : Int32) : ∃ A', (∀ t, zC d 23 [.ref 29, .int x] (hC I A, t) = some (some (.long (fL (lI (sm K (fun i => wgt s u K i * Nm s u i 0))) (lI (sm K (wgt s u K))) (if x = 0 then lI (sm K (fun i => wgt s u K i * Nm s u i 0)) else lI (sm K (wgt s u K))))), (hC I A', t))) ∧ ∀ c, c < 32 ∨ 34 < c → A' c = A c := by
  obtain ⟨d, rfl⟩ : ∃ e, d = e + 1 := ⟨d - 1, by omega⟩
  obtain ⟨A', a1, a2, a3⟩ := c_setA (s := s) (I := I) (A := A) (d := d) (by omega) (by omega) K4 hu h
  refine ⟨A', fun t => ?_, a2⟩
  have h' : fdC s K u I A' := ⟨h.1, h.2.1, fun k hk => by rw [a2 30 (by omega)]; exact h.2.2 k hk⟩
  have b := whole_bd (u := u) hs K2 K4
  rw [e_1452] at b
  have t1 := lI_T (a := sm K (fun i => wgt s u K i * Nm s u i 0)) (by omega)
  have t2 := lI_T (a := sm K (wgt s u K)) (by omega)
  have lp := c_meanL (t := t) d (by omega) hs K2 K4 hu h' a3 x K 0 10000000 (by omega) (by omega)
  rw [e_X2_meanPart, a1 t, pn_c0]
  refine Eq.trans lp ?_
  rw [s_partOf (by omega) _ _ _ x (by rw [t1]; omega) (by rw [t2]; omega) (by rw [t2]; exact hne), pn_c2]
theorem r_col (d : Nat) {e : Nat → Nat} (K4 : K ≤ 4) (hB : ∀ i, i < K → B 17 i = nI (e i)) (he : ∀ i, i < K → e i < 6) {v p : Nat} (hp : p < K) (hpv : e p = v) (hin : ∀ i, i < p → e i ≠ v) (x1 x3 : Int32) : ∀ (j i f : Nat), i + j = p → j < f → zR d f 164 57 [some (.ref 1000), some (.int x1), some (.int (nI v)), some (.int x3), some (.int (nI i))] [] (t, hM J B L) = (zm_c2 (zC d 163 [(.ref 1000), (.int (nI p)), (.int x3)] (t, hM J B L)) fun v2 h1 => some (some (.long v2), h1)) := by
  intro j
  induction j with
  | zero =>
    intro i f hi hf
    obtain ⟨f, rfl⟩ : ∃ e, f = e + 1 := ⟨f - 1, by omega⟩
    have e0 : i = p := by omega
    subst e0
    rw [e_X10_field_at57, pn_in (show i < 4 by omega) (by decide), cond_true, pn_cl (by omega), hB i hp, hpv, pn_t rfl]
  | succ j ih =>
    intro i f hi hf
    obtain ⟨f, rfl⟩ : ∃ e, f = e + 1 := ⟨f - 1, by omega⟩
    have ei := he i (by omega)
    have ep := he p hp
    have ne : ¬ nI (e i) = nI v := fun q => hin i (by omega) ((nI_eq (by omega) (by omega)).mp q)
    rw [e_X10_field_at57, pn_in (show i < 4 by omega) (by decide), cond_true, pn_cl (by omega), hB i (by omega), pn_f ne, nI_1]
    exact ih (i + 1) f (by omega) (by omega)
theorem P_field (h : Rel I A J B) (x y u : Int32) : AnsL 88 164 [.int x, .int y, .int u] I A J B L := by
  have hh := h
  obtain ⟨⟨⟨s, ⟨n, w⟩, ⟨z, l⟩, ⟨p, k, o⟩, ⟨r, a, v⟩⟩, hv, hc, hm⟩, -⟩ := h
  have hs : s = 2 ∨ s = 3 := hv.1
  have c1 : I 100 = nI s := hc.1
  have m1 : J 0 = nI s := hm.1
  have c2 : I 102 = nI n := hc.2.1.1
  have m2 : J 2 = nI n := hm.2.1.1
  have n6 : n ≤ 6 := hv.2.1.1
  have hw : ∀ i, i < n → okw s (w i) = true := hv.2.1.2
  have aw : ∀ i, i < n → A 2 i = nI (w i) := hc.2.1.2
  have bw : ∀ i, i < n → B 1 i = nI (w i) := hm.2.1.2
  have h64 := p2_64 n6
  have e1 := fun t => e_X9_field 59 I A t x y u
  have e2 := fun t => e_X10_field 59 J B L t x y u
  have no : ∀ q : x < 0 ∨ nI (2 ^ n) ≤ x, AnsL 88 164 [.int x, .int y, .int u] I A J B L := fun q => by
    simp only [c_rf0 (A := A) (show 2 ≤ 59 by omega) c2 n6 q, pn_c1, F1, e_X9_field_at5, d_00, cond_true] at e1
    simp only [r_setsN (B := B) (L := L) (show 2 ≤ 59 by omega) n6 m2 q, pn_c1, F1, e_X10_field_at5, d_00, cond_true] at e2
    exact ⟨_, _, _, _, _, _, e1, e2, hh⟩
  rcases pk_ix x (n := 2 ^ n) (by omega) with q | q | ⟨m, ml, rfl⟩
  · exact no (Or.inl q)
  · exact no (Or.inr q)
  have hle := sl_le m n
  obtain ⟨I1, A1, r1, r2, r3, r4⟩ := c_rf (I := I) (A := A) (d := 59) (by omega) n6 ml c1 c2 aw (fun i hi => (okw_lt (hw i hi)).2)
  obtain ⟨J1, B1, q1, q2, q3, q4, q5⟩ := r_sets (J := J) (B := B) (L := L) (d := 59) (by omega) n6 ml m2
  have rel : Rel I1 A1 J1 B1 := Rel_fr hh (fun c hc => r2 c (by omega) (by omega)) (fun c h1 h2 => r3 c (by omega)) (fun c hc => q2 c (by omega)) (fun c hc => q3 c (by omega))
  have i1 : I1 102 = nI n := (r2 102 (by decide) (by decide)).trans c2
  have j1 : J1 2 = nI n := (q2 2 (by decide)).trans m2
  have j0 : J1 0 = nI s := (q2 0 (by decide)).trans m1
  simp only [r1, pn_c1, F1, e_X9_field_at5] at e1
  simp only [q1, pn_c1, F1, e_X10_field_at5, d_10, cond_false, r_in (show 1 ≤ 59 by omega), q4, d_24 _ (Nat.le_trans hle n6)] at e2
  by_cases k24 : 2 ≤ (sl m n).1 ∧ (sl m n).1 ≤ 4
  rotate_left
  · simp only [decide_eq_false k24, Bool.false_and, b01_f, d_00, cond_true] at e1
    simp only [decide_eq_false k24, b01_f, d_00, cond_true] at e2
    exact ⟨_, _, _, _, _, _, e1, e2, rel⟩
  have hf := r4 k24.1 k24.2
  have hfm := q5 k24.2
  have he : ∀ i, i < (sl m n).1 → (sl m n).2 i < n := fun i hi => (sl_bit m n i hi).1
  have he6 : ∀ i, i < (sl m n).1 → (sl m n).2 i < 6 := fun i hi => Nat.lt_of_lt_of_le (he i hi) n6
  have hbw : ∀ i, i < (sl m n).1 → B1 1 ((sl m n).2 i) = nI (w ((sl m n).2 i)) ∧ 1 ≤ w ((sl m n).2 i) ∧ w ((sl m n).2 i) < 100000 := fun i hi => ⟨by rw [q3 1 (by decide)]; exact bw _ (he i hi), okw_lt (hw _ (he i hi))⟩
  have isf := fun t => r_isField (t := t) (J := J1) (B := B1) (L := L) (d := 59) (u := fun k => w ((sl m n).2 k)) (by omega) k24.2 hfm he6 hbw
  simp only [decide_eq_true k24, Bool.true_and] at e1
  simp only [decide_eq_true k24, b01_t, d_10, cond_false] at e2
  cases hb : cls (sl m n).1 (fun k => w ((sl m n).2 k)) with
  | true =>
    simp only [hb, Bool.not_true, b01_f, d_00, cond_true] at e1
    have no2 : ∀ q : y < 0 ∨ nI n ≤ y, AnsL 88 164 [.int (nI m), .int y, .int u] I A J B L := fun q => by
      simp only [r_iw0 (B := B1) (L := L) (show 2 ≤ 59 by omega) j1 n6 q, pn_c1, d_00, cond_true] at e2
      exact ⟨_, _, _, _, _, _, e1, e2, rel⟩
    rcases pk_ix y (n := n) (by omega) with q | q | ⟨v, vl, rfl⟩
    · exact no2 (Or.inl q)
    · exact no2 (Or.inr q)
    simp only [r_iw1 (B := B1) (L := L) (show 2 ≤ 59 by omega) j1 n6 vl, pn_c1, d_10, cond_false, b_bit m (show m < 64 by omega) v (show v < 6 by omega)] at e2
    by_cases c : m / 2 ^ v % 2 = 1
    · simp only [c, d_nI10, cond_false, r_isPart (show 1 ≤ 59 by omega), pn_c1] at e2
      by_cases hu : u = 0 ∨ u = 1
      · simp only [decide_eq_true hu, b01_t, d_10, cond_false, isf, hb, Bool.not_true, b01_f, pn_c1, d_n00] at e2
        exact ⟨_, _, _, _, _, _, e1, e2, rel⟩
      · simp only [decide_eq_false hu, b01_f, d_00, cond_true] at e2
        exact ⟨_, _, _, _, _, _, e1, e2, rel⟩
    · simp only [show m / 2 ^ v % 2 = 0 by omega, d_nI00, cond_true] at e2
      exact ⟨_, _, _, _, _, _, e1, e2, rel⟩
  | false =>
    simp only [hb, Bool.not_false, b01_t, d_10, cond_false] at e1
    have no2 : ∀ q : y < 0 ∨ nI n ≤ y, AnsL 88 164 [.int (nI m), .int y, .int u] I A J B L := fun q => by
      simp only [c_iis0 (A := A1) (show 2 ≤ 59 by omega) i1 q, pn_c1, d_00, cond_true] at e1
      simp only [r_iw0 (B := B1) (L := L) (show 2 ≤ 59 by omega) j1 n6 q, pn_c1, d_00, cond_true] at e2
      exact ⟨_, _, _, _, _, _, e1, e2, rel⟩
    rcases pk_ix y (n := n) (by omega) with q | q | ⟨v, vl, rfl⟩
    · exact no2 (Or.inl q)
    · exact no2 (Or.inr q)
    simp only [c_iis1 (A := A1) (show 2 ≤ 59 by omega) i1 n6 (show m < 64 by omega) vl, pn_c1] at e1
    simp only [r_iw1 (B := B1) (L := L) (show 2 ≤ 59 by omega) j1 n6 vl, pn_c1, d_10, cond_false, b_bit m (show m < 64 by omega) v (show v < 6 by omega)] at e2
    by_cases c : m / 2 ^ v % 2 = 1
    rotate_left
    · simp only [decide_eq_false c, b01_f, d_00, cond_true] at e1
      simp only [show m / 2 ^ v % 2 = 0 by omega, d_nI00, cond_true] at e2
      exact ⟨_, _, _, _, _, _, e1, e2, rel⟩
    simp only [decide_eq_true c, b01_t, d_10, cond_false, s_isPart (show 1 ≤ 59 by omega), pn_c1] at e1
    simp only [c, d_nI10, cond_false, r_isPart (show 1 ≤ 59 by omega), pn_c1] at e2
    by_cases hu : u = 0 ∨ u = 1
    rotate_left
    · simp only [decide_eq_false hu, b01_f, F2, e_X9_field_at24, d_n00, cond_false] at e1
      simp only [decide_eq_false hu, b01_f, d_00, cond_true] at e2
      exact ⟨_, _, _, _, _, _, e1, e2, rel⟩
    have hok : ∀ i, i < (sl m n).1 → okw s (w ((sl m n).2 i)) = true := fun i hi => hw _ (he i hi)
    have hne := whole_ne (u := fun k => w ((sl m n).2 k)) hs k24.1 k24.2 hok (cls_apt hb)
    obtain ⟨hp, hpv⟩ := sl_at m n v vl c
    obtain ⟨g, hg, d1, d2⟩ := det_up (s := s) (u := fun k => w ((sl m n).2 k)) k24.1 k24.2 hp
    have b1 := wgt_bd (u := fun k => w ((sl m n).2 k)) (p := (sl m v).1) hs k24.1 k24.2
    have b2 := (whole_bd (u := fun k => w ((sl m n).2 k)) hs k24.1 k24.2).1
    rw [e_1452] at b1 b2
    obtain ⟨A2, f1, f2⟩ := c_chP (I := I1) (A := A1) (d := 59) (by omega) hs k24.1 k24.2 (fun i hi => (hbw i hi).2.2) hf hne hp u
    obtain ⟨L2, g1⟩ := r_solved (J := J1) (B := B1) (L := L) (d := 59) (x1 := nI (sl m v).1) (p := u) (by omega) hs j0 hfm.1 k24.2 he6 hfm.2 (fun i hi => ⟨(hbw i hi).1, (hbw i hi).2.2⟩) (col := fun c => decide (c = (sl m v).1)) (fun c hc => by
      rw [nI_eq (by omega) (by omega)]
      exact (decide_eq_true_iff).symm) (by rw [d1, nat_sgn hg]; omega) (by rw [d2, nat_sgn hg]; omega) (by
      rw [d2]
      intro q
      have := nat_sgn (X := sm (sl m n).1 (wgt s (fun k => w ((sl m n).2 k)) (sl m n).1)) hg
      rw [q] at this
      exact hne (Int.natAbs_eq_zero.mp this.symm))
    simp only [decide_eq_true hu, b01_t, F2, e_X9_field_at24, d_n10, cond_true, s_place (show 2 ≤ 59 by omega) _ (show m < 64 by omega) (show v < 6 by omega), pn_c1, f1, pn_c2] at e1
    have sc : ∀ t, zR 59 9999999 164 57 [some (.ref 1000), some (.int (nI m)), some (.int (nI v)), some (.int u), some (.int 0)] [] (t, hM J1 B1 L) = (zm_c2 (zC 59 163 [(.ref 1000), (.int (nI (sl m v).1)), (.int u)] (t, hM J1 B1 L)) fun v2 h1 => some (some (.long v2), h1)) := fun t => r_col (t := t) (J := J1) (B := B1) (L := L) 59 k24.2 hfm.2 he6 hp hpv (fun i hi q => by
      have := sl_inj m n i (sl m v).1 (by omega) hp (q.trans hpv.symm)
      omega) (nI m) u (sl m v).1 0 9999999 (by omega) (by omega)
    simp only [decide_eq_true hu, b01_t, d_10, cond_false, isf, hb, Bool.not_false, pn_c1, d_n10, cond_true, sc, g1, pn_c2] at e2
    rw [fL_two hg (by omega) (by omega) hne d1 d2 u] at e2
    exact ⟨_, _, _, _, _, _, e1, e2, Rel_fr hh (fun c hc => r2 c (by omega) (by omega)) (fun c h1 h2 => (f2 c (by omega)).trans (r3 c (by omega))) (fun c hc => q2 c (by omega)) (fun c hc => q3 c (by omega))⟩
theorem P_mean (h : Rel I A J B) (x u : Int32) : AnsL 89 165 [.int x, .int u] I A J B L := by
  have hh := h
  obtain ⟨⟨⟨s, ⟨n, w⟩, ⟨z, l⟩, ⟨p, k, o⟩, ⟨r, a, v⟩⟩, hv, hc, hm⟩, -⟩ := h
  have hs : s = 2 ∨ s = 3 := hv.1
  have c1 : I 100 = nI s := hc.1
  have m1 : J 0 = nI s := hm.1
  have c2 : I 102 = nI n := hc.2.1.1
  have m2 : J 2 = nI n := hm.2.1.1
  have n6 : n ≤ 6 := hv.2.1.1
  have hw : ∀ i, i < n → okw s (w i) = true := hv.2.1.2
  have aw : ∀ i, i < n → A 2 i = nI (w i) := hc.2.1.2
  have bw : ∀ i, i < n → B 1 i = nI (w i) := hm.2.1.2
  have h64 := p2_64 n6
  have e1 := fun t => e_X9_mean 59 I A t x u
  have e2 := fun t => e_X10_mean 59 J B L t x u
  have no : ∀ q : x < 0 ∨ nI (2 ^ n) ≤ x, AnsL 89 165 [.int x, .int u] I A J B L := fun q => by
    simp only [c_rf0 (A := A) (show 2 ≤ 59 by omega) c2 n6 q, pn_c1, d_00, cond_true] at e1
    simp only [r_setsN (B := B) (L := L) (show 2 ≤ 59 by omega) n6 m2 q, pn_c1, F1, e_X10_mean_at5, d_00, cond_true] at e2
    exact ⟨_, _, _, _, _, _, e1, e2, hh⟩
  rcases pk_ix x (n := 2 ^ n) (by omega) with q | q | ⟨m, ml, rfl⟩
  · exact no (Or.inl q)
  · exact no (Or.inr q)
  have hle := sl_le m n
  obtain ⟨I1, A1, r1, r2, r3, r4⟩ := c_rf (I := I) (A := A) (d := 59) (by omega) n6 ml c1 c2 aw (fun i hi => (okw_lt (hw i hi)).2)
  obtain ⟨J1, B1, q1, q2, q3, q4, q5⟩ := r_sets (J := J) (B := B) (L := L) (d := 59) (by omega) n6 ml m2
  have rel : Rel I1 A1 J1 B1 := Rel_fr hh (fun c hc => r2 c (by omega) (by omega)) (fun c h1 h2 => r3 c (by omega)) (fun c hc => q2 c (by omega)) (fun c hc => q3 c (by omega))
  have j0 : J1 0 = nI s := (q2 0 (by decide)).trans m1
  simp only [r1, pn_c1] at e1
  simp only [q1, pn_c1, F1, e_X10_mean_at5, d_10, cond_false, r_in (show 1 ≤ 59 by omega), q4, d_24 _ (Nat.le_trans hle n6)] at e2
  by_cases k24 : 2 ≤ (sl m n).1 ∧ (sl m n).1 ≤ 4
  rotate_left
  · simp only [decide_eq_false k24, Bool.false_and, b01_f, d_00, cond_true] at e1
    simp only [decide_eq_false k24, b01_f, d_00, cond_true] at e2
    exact ⟨_, _, _, _, _, _, e1, e2, rel⟩
  have hf := r4 k24.1 k24.2
  have hfm := q5 k24.2
  have he : ∀ i, i < (sl m n).1 → (sl m n).2 i < n := fun i hi => (sl_bit m n i hi).1
  have he6 : ∀ i, i < (sl m n).1 → (sl m n).2 i < 6 := fun i hi => Nat.lt_of_lt_of_le (he i hi) n6
  have hbw : ∀ i, i < (sl m n).1 → B1 1 ((sl m n).2 i) = nI (w ((sl m n).2 i)) ∧ 1 ≤ w ((sl m n).2 i) ∧ w ((sl m n).2 i) < 100000 := fun i hi => ⟨by rw [q3 1 (by decide)]; exact bw _ (he i hi), okw_lt (hw _ (he i hi))⟩
  have isf := fun t => r_isField (t := t) (J := J1) (B := B1) (L := L) (d := 59) (u := fun k => w ((sl m n).2 k)) (by omega) k24.2 hfm he6 hbw
  simp only [decide_eq_true k24, Bool.true_and] at e1
  simp only [decide_eq_true k24, b01_t, d_10, cond_false, r_isPart (show 1 ≤ 59 by omega), pn_c1] at e2
  cases hb : cls (sl m n).1 (fun k => w ((sl m n).2 k)) with
  | true =>
    simp only [hb, Bool.not_true, b01_f, d_00, cond_true] at e1
    by_cases hu : u = 0 ∨ u = 1
    · simp only [decide_eq_true hu, b01_t, d_10, cond_false, isf, hb, Bool.not_true, b01_f, pn_c1, F2, e_X10_mean_at31, d_n00] at e2
      exact ⟨_, _, _, _, _, _, e1, e2, rel⟩
    · simp only [decide_eq_false hu, b01_f, d_00, cond_true] at e2
      exact ⟨_, _, _, _, _, _, e1, e2, rel⟩
  | false =>
    simp only [hb, Bool.not_false, b01_t, d_10, cond_false, s_isPart (show 1 ≤ 59 by omega), pn_c1] at e1
    by_cases hu : u = 0 ∨ u = 1
    rotate_left
    · simp only [decide_eq_false hu, b01_f, F1, e_X9_mean_at12, d_n00, cond_false] at e1
      simp only [decide_eq_false hu, b01_f, d_00, cond_true] at e2
      exact ⟨_, _, _, _, _, _, e1, e2, rel⟩
    have hok : ∀ i, i < (sl m n).1 → okw s (w ((sl m n).2 i)) = true := fun i hi => hw _ (he i hi)
    have hne := whole_ne (u := fun k => w ((sl m n).2 k)) hs k24.1 k24.2 hok (cls_apt hb)
    obtain ⟨g, hg, d1, d2⟩ := det_sum (s := s) (u := fun k => w ((sl m n).2 k)) k24.1 k24.2
    have b0 := whole_bd (u := fun k => w ((sl m n).2 k)) hs k24.1 k24.2
    rw [e_1452] at b0
    have b1 := b0.1
    have b2 := b0.2
    obtain ⟨A2, f1, f2⟩ := c_mnP (I := I1) (A := A1) (d := 59) (by omega) hs k24.1 k24.2 (fun i hi => (hbw i hi).2.2) hf hne u
    obtain ⟨L2, g1⟩ := r_solved (J := J1) (B := B1) (L := L) (d := 59) (x1 := nI (sl m n).1) (p := u) (by omega) hs j0 hfm.1 k24.2 he6 hfm.2 (fun i hi => ⟨(hbw i hi).1, (hbw i hi).2.2⟩) (col := fun c => decide (c = (sl m n).1)) (fun c hc => by
      rw [nI_eq (by omega) (by omega)]
      exact (decide_eq_true_iff).symm) (by rw [d1, nat_sgn hg]; omega) (by rw [d2, nat_sgn hg]; omega) (by
      rw [d2]
      intro q
      have := nat_sgn (X := sm (sl m n).1 (wgt s (fun k => w ((sl m n).2 k)) (sl m n).1)) hg
      rw [q] at this
      exact hne (Int.natAbs_eq_zero.mp this.symm))
    simp only [decide_eq_true hu, b01_t, F1, e_X9_mean_at12, d_n10, cond_true, f1, pn_c2] at e1
    simp only [decide_eq_true hu, b01_t, d_10, cond_false, isf, hb, Bool.not_false, pn_c1, F2, e_X10_mean_at31, d_n10, cond_true, q4, g1, pn_c2] at e2
    rw [fL_two hg (by omega) (by omega) hne d1 d2 u] at e2
    exact ⟨_, _, _, _, _, _, e1, e2, Rel_fr hh (fun c hc => r2 c (by omega) (by omega)) (fun c h1 h2 => (f2 c (by omega)).trans (r3 c (by omega))) (fun c hc => q2 c (by omega)) (fun c hc => q3 c (by omega))⟩
end FM
/-! rows of throws that are open, counted; rows in which a word ends just then -/
def ewd (b T : Nat) : Int := if T % 10 ^ wl b = b then 1 else 0
def opw (k : Nat) (w : Nat → Nat) (T : Nat) : Int := 1 + (-1) * sm k (fun j => ewd (w j) T)
def xt (s k : Nat) (w : Nat → Nat) (φ : Nat → Int) : Nat → Nat → Int
  | 0, T => φ T
  | i + 1, T => sa s (fun a => opw k w (T * 10 + a) * xt s k w φ i (T * 10 + a))
def Emj (s k : Nat) (w : Nat → Nat) (j : Nat) : Nat → Int
  | 0 => 0
  | m + 1 => xt s k w (fun T => sa s (fun a => ewd (w j) (T * 10 + a))) m 0
def Omj (s k : Nat) (w : Nat → Nat) (m : Nat) : Int := xt s k w (fun _ => 1) m 0
def prx (b k T : Nat) : Int := if T % 10 ^ k = b / 10 ^ (wl b - k) then 1 else 0
def bti (a b k : Nat) : Int := if k ≤ wl a ∧ a % 10 ^ k = b / 10 ^ (wl b - k) then 1 else 0
/-- a row of throws so long -/
def gdr (i T : Nat) : Prop := T < 10 ^ i ∧ ∀ k, T / 10 ^ k % 10 < 4
theorem sm_sm (f : Nat → Nat → Int) (b : Nat) : ∀ a, sm a (fun k => sm b (fun i => f k i)) = sm b (fun i => sm a (fun k => f k i))
  | 0 => by
    have z : ∀ n, sm n (fun _ => (0 : Int)) = 0 := fun n => by
      induction n with
      | zero => rfl
      | succ n ih => simp only [sm]; rw [ih]; rfl
    exact (z b).symm
  | a + 1 => by
    simp only [sm]
    rw [sm_sm f b a, ← sm_add]
theorem sa_sum (s : Nat) (hs : s = 2 ∨ s = 3) (f : Nat → Int) : sa s f = sm s (fun i => f (i + 1)) := by
  rcases hs with rfl | rfl
  · show f 1 + f 2 = (0 + f 1) + f 2
    omega
  · show f 1 + f 2 + f 3 = ((0 + f 1) + f 2) + f 3
    omega
theorem sa_z (s : Nat) : sa s (fun _ => (0 : Int)) = 0 := by unfold sa; split <;> rfl
theorem sa_1 {s : Nat} (hs : s = 2 ∨ s = 3) : sa s (fun _ => (1 : Int)) = s := by rcases hs with rfl | rfl <;> rfl
theorem gdr_0 : gdr 0 0 := ⟨by decide, fun k => by rw [Nat.zero_div]; decide⟩
theorem gdr_app {i T a : Nat} (h : gdr i T) (ha : a < 4) : gdr (i + 1) (T * 10 + a) := by
  refine ⟨by have := h.1; rw [Nat.pow_succ]; omega, fun k => ?_⟩
  cases k with
  | zero => rw [Nat.pow_zero, Nat.div_one]; omega
  | succ k =>
    rw [show (10 : Nat) ^ (k + 1) = 10 * 10 ^ k by rw [Nat.pow_succ, Nat.mul_comm], ← Nat.div_div_eq_div_mul, show (T * 10 + a) / 10 = T by omega]
    exact h.2 k
section XT
variable {s k : Nat} {w : Nat → Nat}
theorem xt_app (φ : Nat → Int) : ∀ i T, xt s k w φ (i + 1) T = xt s k w (fun T => sa s (fun a => opw k w (T * 10 + a) * φ (T * 10 + a))) i T
  | 0, T => rfl
  | i + 1, T => by
    have e : (fun a => opw k w (T * 10 + a) * xt s k w φ (i + 1) (T * 10 + a)) = (fun a => opw k w (T * 10 + a) * xt s k w (fun T => sa s (fun a => opw k w (T * 10 + a) * φ (T * 10 + a))) i (T * 10 + a)) := funext fun a => by rw [xt_app φ i]
    show sa s (fun a => opw k w (T * 10 + a) * xt s k w φ (i + 1) (T * 10 + a)) = _
    rw [e]
    rfl
theorem xt_add (φ ψ : Nat → Int) : ∀ i T, xt s k w (fun T => φ T + ψ T) i T = xt s k w φ i T + xt s k w ψ i T
  | 0, T => rfl
  | i + 1, T => by
    simp only [xt]
    rw [← sa_add]
    have e : (fun a => opw k w (T * 10 + a) * xt s k w (fun T => φ T + ψ T) i (T * 10 + a)) = (fun a => opw k w (T * 10 + a) * xt s k w φ i (T * 10 + a) + opw k w (T * 10 + a) * xt s k w ψ i (T * 10 + a)) := funext fun a => by rw [xt_add φ ψ i, Int.mul_add]
    rw [e]
theorem xt_mul (c : Int) (φ : Nat → Int) : ∀ i T, xt s k w (fun T => c * φ T) i T = c * xt s k w φ i T
  | 0, T => rfl
  | i + 1, T => by
    simp only [xt]
    rw [← sa_mul]
    have e : (fun a => opw k w (T * 10 + a) * xt s k w (fun T => c * φ T) i (T * 10 + a)) = (fun a => c * (opw k w (T * 10 + a) * xt s k w φ i (T * 10 + a))) := funext fun a => by rw [xt_mul c φ i, Int.mul_left_comm]
    rw [e]
theorem xt_z : ∀ i T, xt s k w (fun _ => 0) i T = 0
  | 0, T => rfl
  | i + 1, T => by
    simp only [xt]
    have e : (fun a => opw k w (T * 10 + a) * xt s k w (fun _ => 0) i (T * 10 + a)) = (fun _ => 0) := funext fun a => by rw [xt_z i, Int.mul_zero]
    rw [e, sa_z]
theorem xt_sm (φ : Nat → Nat → Int) (i T : Nat) : ∀ m, xt s k w (fun T => sm m (fun j => φ j T)) i T = sm m (fun j => xt s k w (φ j) i T)
  | 0 => xt_z i T
  | m + 1 => by
    simp only [sm]
    rw [xt_add, xt_sm φ i T m]
theorem xt_eq (hs : s = 2 ∨ s = 3) {φ ψ : Nat → Int} : ∀ i n T, gdr n T → (∀ U, gdr (n + i) U → φ U = ψ U) → xt s k w φ i T = xt s k w ψ i T
  | 0, n, T, h, e => e T h
  | i + 1, n, T, h, e => by
    simp only [xt]
    apply sa_eq hs
    intro a a1 a2
    rw [xt_eq hs i (n + 1) (T * 10 + a) (gdr_app h (by omega)) (fun U hU => e U (by rw [show n + (i + 1) = n + 1 + i by omega]; exact hU))]
theorem xt_eq0 (hs : s = 2 ∨ s = 3) {φ ψ : Nat → Int} (i : Nat) (e : ∀ U, gdr i U → φ U = ψ U) : xt s k w φ i 0 = xt s k w ψ i 0 := xt_eq hs i 0 0 gdr_0 (fun U hU => e U (by rw [Nat.zero_add] at hU; exact hU))
theorem xt_fn {φ ψ : Nat → Int} (e : ∀ U, φ U = ψ U) (i T : Nat) : xt s k w φ i T = xt s k w ψ i T := by rw [show φ = ψ from funext e]
theorem Om_succ (hs : s = 2 ∨ s = 3) (m : Nat) : Omj s k w (m + 1) = s * Omj s k w m + (-1) * sm k (fun j => Emj s k w j (m + 1)) := by
  unfold Omj
  rw [xt_app, ← xt_mul]
  have e : sm k (fun j => Emj s k w j (m + 1)) = xt s k w (fun T => sm k (fun j => sa s (fun a => ewd (w j) (T * 10 + a)))) m 0 := (xt_sm (fun j T => sa s (fun a => ewd (w j) (T * 10 + a))) m 0 k).symm
  rw [e, ← xt_mul, ← xt_add]
  apply xt_fn
  intro U
  have e2 : (fun a => opw k w (U * 10 + a) * 1) = (fun a => 1 + (-1) * sm k (fun j => ewd (w j) (U * 10 + a))) := funext fun a => by rw [Int.mul_one]; rfl
  rw [e2, sa_add s (fun _ => 1) (fun a => (-1) * sm k (fun j => ewd (w j) (U * 10 + a))), sa_mul s (-1) (fun a => sm k (fun j => ewd (w j) (U * 10 + a))), sa_sm s k (fun a j => ewd (w j) (U * 10 + a)), sa_1 hs, Int.mul_one]
theorem prx_sa (hs : s = 2 ∨ s = 3) {b : Nat} (hb : okw s b = true) {m : Nat} (hm : m + 1 ≤ wl b) (T : Nat) : sa s (fun a => prx b (m + 1) (T * 10 + a)) = prx b m T := by
  have hd := pre_dig hb hm
  unfold prx
  rw [← sa_pick (P := T % 10 ^ m = b / 10 ^ (wl b - m)) (c := 1) hs hd.1 hd.2]
  apply sa_eq hs
  intro a a1 a2
  have := cnd_s (T := T) (a := a) hb hm (by omega)
  by_cases c : (T * 10 + a) % 10 ^ (m + 1) = b / 10 ^ (wl b - (m + 1))
  · rw [if_pos c, if_pos (this.mp c)]
  · rw [if_neg c, if_neg (fun q => c (this.mpr q))]
theorem ewd_prx (hw : ∀ i, i < k → okw s (w i) = true) (ha : apt k w) {i j : Nat} (hi : i < k) (hj : j < k) {m : Nat} (hm : m + 1 ≤ wl (w j)) (X : Nat) : ewd (w i) X * prx (w j) (m + 1) X = bti (w i) (w j) (m + 1) * ewd (w i) X := by
  unfold ewd prx bti
  by_cases c : X % 10 ^ wl (w i) = w i
  · rw [if_pos c, Int.one_mul, Int.mul_one]
    by_cases l : m + 1 ≤ wl (w i)
    · have e : X % 10 ^ (m + 1) = w i % 10 ^ (m + 1) := by rw [← mod_mod10 X l, c]
      rw [e]
      by_cases q : w i % 10 ^ (m + 1) = w j / 10 ^ (wl (w j) - (m + 1))
      · rw [if_pos q, if_pos ⟨l, q⟩]
      · rw [if_neg q, if_neg (fun p => q p.2)]
    · rw [if_neg (fun p : (m + 1 ≤ wl (w i) ∧ _) => l p.1), if_neg]
      intro q
      have e : i ≠ j := fun e => by rw [e] at l; omega
      have : inn (w i) (w j) = true := inn_of (i := wl (w j) - (m + 1)) (by rw [← q, mod_mod10 X (by omega)]; exact c) (by omega)
      rw [ha i j hi hj e] at this
      cases this
  · rw [if_neg c, Int.zero_mul, Int.mul_zero]
/-- open rows of so many throws that end in the first letters of a word -/
def Vmj (s k : Nat) (w : Nat → Nat) (b start m : Nat) : Int := xt s k w (fun T => prx b m T) (start + m) 0
theorem Vm_succ (hs : s = 2 ∨ s = 3) (hw : ∀ i, i < k → okw s (w i) = true) (ha : apt k w) {j : Nat} (hj : j < k) {m : Nat} (hm : m + 1 ≤ wl (w j)) (start : Nat) : Vmj s k w (w j) start (m + 1) = Vmj s k w (w j) start m + (-1) * sm k (fun i => bti (w i) (w j) (m + 1) * Emj s k w i (start + (m + 1))) := by
  unfold Vmj
  rw [show start + (m + 1) = start + m + 1 from rfl, xt_app]
  have e : sm k (fun i => bti (w i) (w j) (m + 1) * Emj s k w i (start + m + 1)) = xt s k w (fun T => sm k (fun i => bti (w i) (w j) (m + 1) * sa s (fun a => ewd (w i) (T * 10 + a)))) (start + m) 0 := by
    rw [xt_sm (fun i T => bti (w i) (w j) (m + 1) * sa s (fun a => ewd (w i) (T * 10 + a)))]
    apply sm_eq
    intro i _
    rw [xt_mul]
    rfl
  rw [e, ← xt_mul, ← xt_add]
  apply xt_fn
  intro U
  have e2 : ∀ X, opw k w X * prx (w j) (m + 1) X = prx (w j) (m + 1) X + (-1) * sm k (fun i => bti (w i) (w j) (m + 1) * ewd (w i) X) := fun X => by
    have e3 : sm k (fun i => bti (w i) (w j) (m + 1) * ewd (w i) X) = prx (w j) (m + 1) X * sm k (fun i => ewd (w i) X) := by
      rw [← sm_mul]
      apply sm_eq
      intro i hi
      rw [← ewd_prx hw ha hi hj hm, Int.mul_comm]
    rw [e3]
    unfold opw
    rw [Int.add_mul, Int.one_mul, Int.mul_assoc, Int.mul_comm (sm k (fun i => ewd (w i) X))]
  have e4 : (fun a => opw k w (U * 10 + a) * prx (w j) (m + 1) (U * 10 + a)) = (fun a => prx (w j) (m + 1) (U * 10 + a) + (-1) * sm k (fun i => bti (w i) (w j) (m + 1) * ewd (w i) (U * 10 + a))) := funext fun a => e2 _
  rw [e4, sa_add s (fun a => prx (w j) (m + 1) (U * 10 + a)) (fun a => (-1) * sm k (fun i => bti (w i) (w j) (m + 1) * ewd (w i) (U * 10 + a))), prx_sa hs (hw j hj) hm, sa_mul s (-1) (fun a => sm k (fun i => bti (w i) (w j) (m + 1) * ewd (w i) (U * 10 + a))), sa_sm s k (fun a i => bti (w i) (w j) (m + 1) * ewd (w i) (U * 10 + a))]
  have e5 : sm k (fun i => sa s (fun a => bti (w i) (w j) (m + 1) * ewd (w i) (U * 10 + a))) = sm k (fun i => bti (w i) (w j) (m + 1) * sa s (fun a => ewd (w i) (U * 10 + a))) := sm_eq k (fun i _ => sa_mul s (bti (w i) (w j) (m + 1)) (fun a => ewd (w i) (U * 10 + a)))
  rw [e5]
theorem Vm_0 (b start : Nat) (hb : b < 100000) : Vmj s k w b start 0 = Omj s k w start := by
  unfold Vmj Omj
  apply xt_fn
  intro U
  unfold prx
  rw [Nat.pow_zero, Nat.mod_one, Nat.sub_zero, Nat.div_eq_of_lt (wl_lt hb), if_pos rfl]
theorem Em_V (hs : s = 2 ∨ s = 3) (hw : ∀ i, i < k → okw s (w i) = true) {j g : Nat} (hj : j < k) (hg : wl (w j) = g + 1) (start : Nat) : Emj s k w j (start + g + 1) = Vmj s k w (w j) start g := by
  unfold Vmj
  show xt s k w (fun T => sa s (fun a => ewd (w j) (T * 10 + a))) (start + g) 0 = _
  apply xt_fn
  intro U
  rw [← prx_sa hs (hw j hj) (m := g) (by omega)]
  have e : (fun a => ewd (w j) (U * 10 + a)) = (fun a => prx (w j) (g + 1) (U * 10 + a)) := funext fun a => by
    unfold ewd prx
    rw [hg, Nat.sub_self, Nat.pow_zero, Nat.div_one]
  rw [e]
theorem Em_rec (hs : s = 2 ∨ s = 3) (hw : ∀ i, i < k → okw s (w i) = true) (ha : apt k w) {j g : Nat} (hj : j < k) (hg : wl (w j) = g + 1) (start : Nat) : Emj s k w j (start + g + 1) = Omj s k w start + (-1) * sm k (fun i => sm g (fun m => bti (w i) (w j) (m + 1) * Emj s k w i (start + (m + 1)))) := by
  rw [Em_V hs hw hj hg, ← sm_sm (fun m i => bti (w i) (w j) (m + 1) * Emj s k w i (start + (m + 1))) k g]
  have key : ∀ m, m ≤ g → Vmj s k w (w j) start m = Omj s k w start + (-1) * sm m (fun m => sm k (fun i => bti (w i) (w j) (m + 1) * Emj s k w i (start + (m + 1)))) := by
    intro m
    induction m with
    | zero =>
      intro _
      rw [Vm_0 _ _ (okw_lt (hw j hj)).2]
      simp only [sm]
      omega
    | succ m ih =>
      intro hm
      rw [Vm_succ hs hw ha hj (by omega), ih (by omega)]
      simp only [sm]
      rw [Int.mul_add, Int.add_assoc]
  exact key g (Nat.le_refl _)
theorem Em_low (hs : s = 2 ∨ s = 3) (hw : ∀ i, i < k → okw s (w i) = true) {j : Nat} (hj : j < k) : ∀ m, m < wl (w j) → Emj s k w j m = 0
  | 0, _ => rfl
  | m + 1, h => by
    show xt s k w (fun T => sa s (fun a => ewd (w j) (T * 10 + a))) m 0 = 0
    rw [← xt_z (s := s) (k := k) (w := w) m 0]
    apply xt_eq0 hs
    intro U hU
    rw [← sa_z s]
    apply sa_eq hs
    intro a a1 a2
    have h1 := (gdr_app hU (show a < 4 by omega)).1
    have h2 := wl_ge (okw_lt (hw j hj)).1
    have h3 : 10 ^ (m + 1) ≤ 10 ^ (wl (w j) - 1) := Nat.pow_le_pow_right (by omega) (by omega)
    have h4 : (U * 10 + a) % 10 ^ wl (w j) ≤ U * 10 + a := Nat.mod_le _ _
    unfold ewd
    rw [if_neg (by omega)]
end XT
/-- the bits of an overlap -/
theorem ovr_bit (a b lb : Nat) : ∀ n k, k < n → (ovr a b lb n 1 / 2 ^ k % 2 = 1 ↔ a % 10 ^ (k + 1) = b / 10 ^ (lb - (k + 1)))
  | 0, k, h => by omega
  | n + 1, k, h => by
    have hl := ovr_lt a b lb n 1 (by omega)
    rw [show 1 - 1 + n = n by omega, show (2 : Nat) ^ (1 - 1) = 1 from rfl] at hl
    rw [ovr_last, show 1 + n = n + 1 by omega, show n + 1 - 1 = n by omega]
    by_cases e : k = n
    · subst e
      by_cases c : a % 10 ^ (k + 1) = b / 10 ^ (lb - (k + 1))
      · rw [if_pos c, Nat.add_div_right _ (Nat.pow_pos (by omega)), Nat.div_eq_of_lt (by omega)]
        exact ⟨fun _ => c, fun _ => rfl⟩
      · rw [if_neg c, Nat.add_zero, Nat.div_eq_of_lt (by omega)]
        exact ⟨fun q => by omega, fun q => absurd q c⟩
    · rw [← ovr_bit a b lb n k (by omega)]
      by_cases c : a % 10 ^ (n + 1) = b / 10 ^ (lb - (n + 1))
      · have e2 : (2 : Nat) ^ n = 2 ^ k * (2 * 2 ^ (n - k - 1)) := by
          rw [← Nat.pow_succ', ← Nat.pow_add]
          congr 1
          omega
        rw [if_pos c, e2, Nat.add_mul_div_left _ _ (Nat.pow_pos (by omega)), Nat.add_mul_mod_self_left]
      · rw [if_neg c, Nat.add_zero]
theorem ov_bti {a b k : Nat} (hk : k + 1 ≤ wl b) : (if ov a b / 2 ^ k % 2 = 1 then (1 : Int) else 0) = bti a b (k + 1) := by
  unfold bti ov
  by_cases l : k + 1 ≤ wl a
  · have h := ovr_bit a b (wl b) (min (wl a) (wl b)) k (by omega)
    by_cases c : a % 10 ^ (k + 1) = b / 10 ^ (wl b - (k + 1))
    · rw [if_pos (h.mpr c), if_pos ⟨l, c⟩]
    · rw [if_neg (fun q => c (h.mp q)), if_neg (fun q => c q.2)]
  · have hl := ovr_lt a b (wl b) (min (wl a) (wl b)) 1 (by omega)
    rw [show (2 : Nat) ^ (1 - 1) = 1 from rfl] at hl
    have h2 : 2 ^ (1 - 1 + min (wl a) (wl b)) ≤ 2 ^ k := Nat.pow_le_pow_right (by omega) (by omega)
    rw [Nat.div_eq_of_lt (by omega), if_neg (by decide), if_neg (fun q => l q.1)]
/-! the class counts rows of throws -/
theorem iI_add (a b : Int) : iI a + iI b = iI (a + b) := (Int32.ofInt_add a b).symm
theorem iI_sub (a b : Int) : iI a - iI b = iI (a - b) := (Int32.ofInt_sub a b).symm
def Hrn (s : Nat) (E : Nat → Int) : Nat → Int
  | 0 => 0
  | m + 1 => Hrn s E m * s + E (m + 1)
section CO
variable {I : Nat → Int32} {A : Nat → Nat → Int32} {t : List zm_E} {s K : Nat} {u : Nat → Nat}
theorem c_ea59 (d f : Nat) {i : Nat} (hi : i < 4) (x1 x2 x3 x4 x6 x7 : Int32) : zR d (f + 1) 30 59 [some (.ref 29), some (.int x1), some (.int x2), some (.int x3), some (.int x4), some (.int (nI i)), some (.int x6), some (.int x7)] [] (hC I A, t) = (bif decide (x2 ≤ (x3 + x7)) then (zR d f 30 29 [some (.ref 29), some (.int x1), some (.int x2), some (.int x3), some (.int x4), some (.int (nI (i + 1))), some (.int x6), some (.int x7)] [] (hC I A, t)) else bif decide (¬ ((x6 >>> ((x7 - 1) &&& 31)) &&& 1) = 1) then (zR d f 30 59 [some (.ref 29), some (.int x1), some (.int x2), some (.int x3), some (.int x4), some (.int (nI i)), some (.int x6), some (.int (x7 + 1))] [] (hC I A, t)) else bif zm_in (x3 + x7) 13 then (zR d f 30 59 [some (.ref 29), some (.int x1), some (.int x2), some (.int x3), some (.int (x4 - (A (36 + i) (Int32.toNatClampNeg (x3 + x7))))), some (.int (nI i)), some (.int x6), some (.int (x7 + 1))] [] (hC I A, t)) else none) := by
  have hc : i = 0 ∨ i = 1 ∨ i = 2 ∨ i = 3 := by omega
  rcases hc with rfl | rfl | rfl | rfl
  · exact e_X2_endingsAt_at59_50 d f I A t x1 x2 x3 x4 x6 x7
  · exact e_X2_endingsAt_at59_51 d f I A t x1 x2 x3 x4 x6 x7
  · exact e_X2_endingsAt_at59_52 d f I A t x1 x2 x3 x4 x6 x7
  · exact e_X2_endingsAt_at59_53 d f I A t x1 x2 x3 x4 x6 x7
theorem c_ce41 (d f : Nat) {i : Nat} (hi : i < 4) (x1 x2 : Int32) : zR d (f + 1) 29 41 [some (.ref 29), some (.int x1), some (.int x2), some (.int (nI i))] [] (hC I A, t) = (bif decide ((I 2901) ≤ nI i) then (zR d f 29 9 [some (.ref 29), some (.int x1), some (.int (x2 + 1)), some (.int (nI i))] [] (hC I A, t)) else zm_c1 (zC d 30 [(.ref 29), (.int (nI i)), (.int x2)] (hC I A, t)) fun v2 h1 => zR d f 29 62 [some (.ref 29), some (.int x1), some (.int x2), some (.int (nI i))] [(.int v2), (.int x2), (.ref (36 + i))] h1) := by
  have hc : i = 0 ∨ i = 1 ∨ i = 2 ∨ i = 3 := by omega
  rcases hc with rfl | rfl | rfl | rfl
  · exact e_X2_countEndings_at41_30 d f I A t x1 x2
  · exact e_X2_countEndings_at41_31 d f I A t x1 x2
  · exact e_X2_countEndings_at41_32 d f I A t x1 x2
  · exact e_X2_countEndings_at41_33 d f I A t x1 x2
theorem c_ce41z (d f : Nat) {i : Nat} (hi : i ≤ 4) (x1 x2 : Int32) (h : I 2901 ≤ nI i) : zR d (f + 1) 29 41 [some (.ref 29), some (.int x1), some (.int x2), some (.int (nI i))] [] (hC I A, t) = (zR d f 29 9 [some (.ref 29), some (.int x1), some (.int (x2 + 1)), some (.int (nI i))] [] (hC I A, t)) := by
  rcases Nat.lt_or_ge i 4 with q | q
  · rw [c_ce41 d f q, pn_t h]
  · have e : i = 4 := by omega
    subst e
    exact (e_X2_countEndings_at41_34 d f I A t x1 x2).trans (pn_t h)
theorem c_ce62 (d f : Nat) {i : Nat} (hi : i < 4) (x1 x2 s0 s1 : Int32) : zR d (f + 1) 29 62 [some (.ref 29), some (.int x1), some (.int x2), some (.int (nI i))] [(.int s0), (.int s1), (.ref (36 + i))] (hC I A, t) = (bif zm_in s1 13 then (bif zm_in x2 13 then (bif zm_in x2 13 then (bif zm_in x2 13 then (zR d f 29 41 [some (.ref 29), some (.int x1), some (.int x2), some (.int (nI (i + 1)))] [] (hC I (va_up (va_up A (36 + i) (upd (A (36 + i)) (Int32.toNatClampNeg s1) s0)) 40 (upd ((va_up A (36 + i) (upd (A (36 + i)) (Int32.toNatClampNeg s1) s0)) 40) (Int32.toNatClampNeg x2) (((va_up A (36 + i) (upd (A (36 + i)) (Int32.toNatClampNeg s1) s0)) 40 (Int32.toNatClampNeg x2)) - ((va_up A (36 + i) (upd (A (36 + i)) (Int32.toNatClampNeg s1) s0)) (36 + i) (Int32.toNatClampNeg x2))))), t)) else none) else none) else none) else none) := by
  have hc : i = 0 ∨ i = 1 ∨ i = 2 ∨ i = 3 := by omega
  rcases hc with rfl | rfl | rfl | rfl
  · exact e_X2_countEndings_at62_S2r36_30 d f I A t x1 x2 s0 s1
  · exact e_X2_countEndings_at62_S2r37_31 d f I A t x1 x2 s0 s1
  · exact e_X2_countEndings_at62_S2r38_32 d f I A t x1 x2 s0 s1
  · exact e_X2_countEndings_at62_S2r39_33 d f I A t x1 x2 s0 s1
theorem c_rw24 (d f : Nat) {p : Nat} (hp : p < 4) (x2 x3 x4 : Int32) : zR d (f + 1) 28 24 [some (.ref 29), some (.int (nI p)), some (.int x2), some (.int x3), some (.int x4)] [] (hC I A, t) = (bif decide (x2 < x4) then (some (some (.int x3), (hC I A, t))) else bif decide (12 < x4) then (some (some (.int x3), (hC I A, t))) else bif zm_in x4 13 then (zR d f 28 24 [some (.ref 29), some (.int (nI p)), some (.int x2), some (.int ((x3 * (I 2902)) + (A (36 + p) (Int32.toNatClampNeg x4)))), some (.int (x4 + 1))] [] (hC I A, t)) else none) := by
  have hc : p = 0 ∨ p = 1 ∨ p = 2 ∨ p = 3 := by omega
  rcases hc with rfl | rfl | rfl | rfl
  · exact e_X2_rowsWithin_at24_10 d f I A t x2 x3 x4
  · exact e_X2_rowsWithin_at24_11 d f I A t x2 x3 x4
  · exact e_X2_rowsWithin_at24_12 d f I A t x2 x3 x4
  · exact e_X2_rowsWithin_at24_13 d f I A t x2 x3 x4
theorem c_eaIn (d : Nat) {i j g st : Nat} (hi : i < 4) (hg : wl (u j) = g + 1) (hm : st + g + 1 ≤ 12) (hE : ∀ q, 1 ≤ q → q < st + g + 1 → A (36 + i) q = iI (Emj s K u i q)) (X : Int) (x1 : Int32) : ∀ (jj q f : Nat) (Y : Int), q + jj = g → Y = X + (-1) * sm q (fun m => bti (u i) (u j) (m + 1) * Emj s K u i (st + (m + 1))) → zR d (f + jj + 1) 30 59 [some (.ref 29), some (.int x1), some (.int (nI (st + g + 1))), some (.int (nI st)), some (.int (iI Y)), some (.int (nI i)), some (.int (nI (ov (u i) (u j)))), some (.int (nI (q + 1)))] [] (hC I A, t) = zR d f 30 29 [some (.ref 29), some (.int x1), some (.int (nI (st + g + 1))), some (.int (nI st)), some (.int (iI (X + (-1) * sm g (fun m => bti (u i) (u j) (m + 1) * Emj s K u i (st + (m + 1)))))), some (.int (nI (i + 1))), some (.int (nI (ov (u i) (u j)))), some (.int (nI (g + 1)))] [] (hC I A, t) := by
  intro jj
  induction jj with
  | zero =>
    intro q f Y hq hY
    have e : q = g := by omega
    subst e
    rw [Nat.add_zero, c_ea59 d f hi, nI_add, pn_t (nI_le (by omega) (by omega)), hY]
  | succ jj ih =>
    intro q f Y hq hY
    have hl := ov_lt (u i) (u j)
    have l5 := wl_le (u j)
    have hb := ov_bti (a := u i) (b := u j) (k := q) (by omega)
    rw [show f + (jj + 1) + 1 = (f + jj + 1) + 1 by omega, c_ea59 d _ hi, nI_add, pn_f (nI_ge (by omega) (by omega)), nI_pred, b_bit _ (show ov (u i) (u j) < 64 by omega) q (by omega)]
    by_cases c : ov (u i) (u j) / 2 ^ q % 2 = 1
    · rw [if_pos c] at hb
      rw [c, pn_f (show ¬ ¬ nI 1 = 1 by decide), pn_in (show st + (q + 1) < 13 by omega) (by decide), cond_true, pn_cl (by omega), hE (st + (q + 1)) (by omega) (by omega), iI_sub, nI_1]
      refine ih (q + 1) f _ (by omega) ?_
      simp only [sm]
      rw [← hb, hY]
      omega
    · rw [if_neg c] at hb
      rw [show ov (u i) (u j) / 2 ^ q % 2 = 0 by omega, pn_t (show ¬ nI 0 = 1 by decide), nI_1]
      refine ih (q + 1) f _ (by omega) ?_
      simp only [sm]
      rw [← hb, hY]
      omega
theorem c_eaOut (d : Nat) (hd : 2 ≤ d) (K4 : K ≤ 4) (hu : ∀ i, i < K → u i < 100000) {j g st : Nat} (hj : j < K) (hg : wl (u j) = g + 1) (hm : st + g + 1 ≤ 12) (h : fdC s K u I A) (hE : ∀ i q, i < K → 1 ≤ q → q < st + g + 1 → A (36 + i) q = iI (Emj s K u i q)) (X : Int) : ∀ (jj i f : Nat) (Y : Int) (o6 o7 : Option Value), i + jj = K → 10 * jj < f → Y = X + (-1) * sm i (fun i => sm g (fun m => bti (u i) (u j) (m + 1) * Emj s K u i (st + (m + 1)))) → zR d f 30 29 [some (.ref 29), some (.int (nI j)), some (.int (nI (st + g + 1))), some (.int (nI st)), some (.int (iI Y)), some (.int (nI i)), o6, o7] [] (hC I A, t) = some (some (.int (iI (X + (-1) * sm K (fun i => sm g (fun m => bti (u i) (u j) (m + 1) * Emj s K u i (st + (m + 1))))))), (hC I A, t)) := by
  intro jj
  induction jj with
  | zero =>
    intro i f Y o6 o7 hi hf hY
    obtain ⟨f, rfl⟩ : ∃ e, f = e + 1 := ⟨f - 1, by omega⟩
    have e : i = K := by omega
    subst e
    rw [e_X2_endingsAt_at29, h.1, pn_t (nI_le (Nat.le_refl _) (by omega)), hY]
  | succ jj ih =>
    intro i f Y o6 o7 hi hf hY
    have l5 := wl_le (u j)
    obtain ⟨f, rfl⟩ : ∃ e, f = (e + g + 1) + 1 := ⟨f - g - 2, by omega⟩
    have ui := hu i (by omega)
    have uj := hu j hj
    rw [e_X2_endingsAt_at29, h.1, pn_f (nI_ge (by omega) (by omega)), pn_in (show i < 4 by omega) (by decide), cond_true, pn_in (show j < 4 by omega) (by decide), cond_true, pn_cl (show i < 2 ^ 31 by omega), pn_cl (show j < 2 ^ 31 by omega), h.2.2 i (by omega), h.2.2 j hj, s_overlap hd _ (by omega) (by omega), pn_c1]
    refine (c_eaIn (s := s) (K := K) d (by omega) hg hm (fun q h1 h2 => hE i q (by omega) h1 h2) Y (nI j) g 0 f Y (by omega) (by simp only [sm]; omega)).trans ?_
    refine ih (i + 1) f _ _ _ (by omega) (by omega) ?_
    simp only [sm]
    rw [hY]
    omega
theorem c_endA {d : Nat} (hd : 3 ≤ d) (hs : s = 2 ∨ s = 3) (K4 : K ≤ 4) (hw : ∀ i, i < K → okw s (u i) = true) (ha : apt K u) {j m : Nat} (hj : j < K) (hm : m ≤ 12) (h : fdC s K u I A) (hO : ∀ q, q < m → A 40 q = iI (Omj s K u q)) (hE : ∀ i q, i < K → 1 ≤ q → q < m → A (36 + i) q = iI (Emj s K u i q)) : zC d 30 [.ref 29, .int (nI j), .int (nI m)] (hC I A, t) = some (some (.int (iI (Emj s K u j m))), (hC I A, t)) := by
  obtain ⟨d, rfl⟩ : ∃ e, d = e + 1 := ⟨d - 1, by omega⟩
  have uj := okw_lt (hw j hj)
  have lp := wl_pos uj.1
  have l5 := wl_le (u j)
  rw [e_X2_endingsAt, pn_in (show j < 4 by omega) (by decide), cond_true, pn_cl (by omega), h.2.2 j hj, s_length (by omega) _ (by omega), pn_c1, F1, e_X2_endingsAt_at10]
  rcases Nat.lt_or_ge m (wl (u j)) with q | q
  · have ng : ¬ 0 ≤ nI m - nI (wl (u j)) := Int32.not_le.mpr (pk_sneg (by omega) q)
    rw [pn_f ng, Em_low hs hw hj m q]
    rfl
  · obtain ⟨g, hg⟩ : ∃ g, wl (u j) = g + 1 := ⟨wl (u j) - 1, by omega⟩
    obtain ⟨st, rfl⟩ : ∃ st, m = st + g + 1 := ⟨m - (g + 1), by omega⟩
    have es : nI (st + g + 1) - nI (g + 1) = nI st := by
      rw [pn_sub (show g + 1 ≤ st + g + 1 by omega), show st + g + 1 - (g + 1) = st by omega]
    rw [hg, es, pn_t (nI_pos' (by omega)), pn_in (show st < 13 by omega) (by decide), cond_true, pn_cl (by omega), hO st (by omega), Em_rec hs hw ha hj hg]
    exact c_eaOut (I := I) d (by omega) K4 (fun i hi => (okw_lt (hw i hi)).2) hj hg hm h hE (Omj s K u st) K 0 9999999 _ none none (by omega) (by omega) (by simp only [sm]; omega)
def cnt (s K : Nat) (u : Nat → Nat) (m : Nat) (A : Nat → Nat → Int32) : Prop := (∀ q, q < m → A 40 q = iI (Omj s K u q)) ∧ ∀ i q, i < K → 1 ≤ q → q < m → A (36 + i) q = iI (Emj s K u i q)
theorem c_cIn (d : Nat) (hd : 3 ≤ d) (hs : s = 2 ∨ s = 3) (K4 : K ≤ 4) (hw : ∀ i, i < K → okw s (u i) = true) (ha : apt K u) {m : Nat} (hm : m + 1 ≤ 12) (x1 : Int32) : ∀ (jj i : Nat) (A : Nat → Nat → Int32), i + jj = K → fdC s K u I A → cnt s K u (m + 1) A → A 40 (m + 1) = iI (s * Omj s K u m + (-1) * sm i (fun i => Emj s K u i (m + 1))) → (∀ q, q < i → A (36 + q) (m + 1) = iI (Emj s K u q (m + 1))) → ∃ A', (∀ f t, zR d (f + 2 * jj + 1) 29 41 [some (.ref 29), some (.int x1), some (.int (nI (m + 1))), some (.int (nI i))] [] (hC I A, t) = zR d f 29 9 [some (.ref 29), some (.int x1), some (.int (nI (m + 2))), some (.int (nI K))] [] (hC I A', t)) ∧ (∀ c, c < 36 ∨ 40 < c → A' c = A c) ∧ cnt s K u (m + 2) A' := by
  intro jj
  induction jj with
  | zero =>
    intro i A hi h hc h40 h36
    have e : i = K := by omega
    subst e
    refine ⟨A, fun f t => ?_, fun c _ => rfl, fun q hq => ?_, fun a q ha1 hq1 hq2 => ?_⟩
    · rw [show f + 2 * 0 + 1 = f + 1 from rfl, c_ce41z d f K4 _ _ (by rw [h.1]; exact nI_le (Nat.le_refl _) (by omega)), nI_1]
    · by_cases e : q = m + 1
      · rw [e, h40, Om_succ hs]
      · exact hc.1 q (by omega)
    · by_cases e : q = m + 1
      · rw [e]; exact h36 a ha1
      · exact hc.2 a q ha1 hq1 (by omega)
  | succ jj ih =>
    intro i A hi h hc h40 h36
    have ea := fun t => c_endA (t := t) hd hs K4 hw ha (show i < K by omega) hm h hc.1 hc.2
    obtain ⟨A1, hA1⟩ : ∃ A1, A1 = va_up A (36 + i) (upd (A (36 + i)) (m + 1) (iI (Emj s K u i (m + 1)))) := ⟨_, rfl⟩
    have p40 : A1 40 = A 40 := by rw [hA1, vu_ne (by omega)]
    have pne : ∀ c, c ≠ 36 + i → A1 c = A c := fun c hc => by rw [hA1, vu_ne hc]
    have peq : A1 (36 + i) = upd (A (36 + i)) (m + 1) (iI (Emj s K u i (m + 1))) := by rw [hA1, vu_eq]
    obtain ⟨A2, hA2⟩ : ∃ A2, A2 = va_up A1 40 (upd (A1 40) (m + 1) ((A1 40 (m + 1)) - (A1 (36 + i) (m + 1)))) := ⟨_, rfl⟩
    have r40 : A2 40 = upd (A 40) (m + 1) (iI (s * Omj s K u m + (-1) * sm (i + 1) (fun i => Emj s K u i (m + 1)))) := by
      rw [hA2, vu_eq, p40, peq, upd_eq, h40, iI_sub]
      simp only [sm]
      rw [show (s : Int) * Omj s K u m + (-1) * sm i (fun i => Emj s K u i (m + 1)) - Emj s K u i (m + 1) = s * Omj s K u m + (-1) * (sm i (fun i => Emj s K u i (m + 1)) + Emj s K u i (m + 1)) by omega]
    have rne : ∀ c, c ≠ 40 → A2 c = A1 c := fun c hc => by rw [hA2, vu_ne hc]
    obtain ⟨A', a1, a2, a3⟩ := ih (i + 1) A2 (by omega) ⟨h.1, h.2.1, fun k hk => by rw [rne 30 (by omega), pne 30 (by omega)]; exact h.2.2 k hk⟩ ⟨fun q hq => by rw [r40, upd_ne (by omega)]; exact hc.1 q hq, fun a q ha1 hq1 hq2 => by
      rw [rne (36 + a) (by omega)]
      by_cases e : a = i
      · rw [e, peq, upd_ne (by omega), ← e]; exact hc.2 a q ha1 hq1 hq2
      · rw [pne (36 + a) (by omega)]; exact hc.2 a q ha1 hq1 hq2⟩ (by rw [r40, upd_eq]) (fun q hq => by
      rw [rne (36 + q) (by omega)]
      by_cases e : q = i
      · rw [e, peq, upd_eq]
      · rw [pne (36 + q) (by omega)]; exact h36 q (by omega))
    refine ⟨A', fun f t => ?_, fun c hc => by rw [a2 c hc, rne c (by omega), pne c (by omega)], a3⟩
    rw [show f + 2 * (jj + 1) + 1 = (f + 2 * jj + 1) + 1 + 1 by omega, c_ce41 d _ (show i < 4 by omega), h.1, pn_f (nI_ge (by omega) (by omega)), ea, pn_c1, c_ce62 d _ (show i < 4 by omega), pn_in (show m + 1 < 13 by omega) (by decide), cond_true, cond_true, cond_true, cond_true, pn_cl (by omega), ← hA1, ← hA2]
    exact a1 f t
theorem c_cOut (d : Nat) (hd : 3 ≤ d) (hs : s = 2 ∨ s = 3) (K4 : K ≤ 4) (hw : ∀ i, i < K → okw s (u i) = true) (ha : apt K u) {n : Nat} (hn : n ≤ 12) : ∀ (jj m : Nat) (A : Nat → Nat → Int32), m + jj = n → fdC s K u I A → cnt s K u (m + 1) A → ∃ A', (∀ f t o3, 20 * jj < f → zR d f 29 9 [some (.ref 29), some (.int (nI n)), some (.int (nI (m + 1))), o3] [] (hC I A, t) = some (none, (hC I A', t))) ∧ (∀ c, c < 36 ∨ 40 < c → A' c = A c) ∧ cnt s K u (n + 1) A' := by
  intro jj
  induction jj with
  | zero =>
    intro m A hm h hc
    have e : m = n := by omega
    subst e
    refine ⟨A, fun f t o3 hf => ?_, fun c _ => rfl, hc⟩
    obtain ⟨f, rfl⟩ : ∃ e, f = e + 1 := ⟨f - 1, by omega⟩
    rw [e_X2_countEndings_at9, pn_t (nI_lt (by omega) (by omega))]
  | succ jj ih =>
    intro m A hm h hc
    obtain ⟨A0, hA0⟩ : ∃ A0, A0 = va_up A 40 (upd (A 40) (m + 1) ((A 40 m) * (I 2902))) := ⟨_, rfl⟩
    have z0 : A0 40 = upd (A 40) (m + 1) (iI (s * Omj s K u m + (-1) * sm 0 (fun i => Emj s K u i (m + 1)))) := by
      have e0 : Omj s K u m * s = s * Omj s K u m + (-1) * sm 0 (fun i => Emj s K u i (m + 1)) := by
        simp only [sm]
        rw [Int.mul_comm]
        omega
      rw [hA0, vu_eq, hc.1 m (by omega), h.2.1, iI_nI s, iI_mul, e0]
    have zne : ∀ c, c ≠ 40 → A0 c = A c := fun c hc => by rw [hA0, vu_ne hc]
    obtain ⟨A1, a1, a2, a3⟩ := c_cIn (I := I) (m := m) d hd hs K4 hw ha (by omega) (nI n) K 0 A0 (by omega) ⟨h.1, h.2.1, fun k hk => by rw [zne 30 (by omega)]; exact h.2.2 k hk⟩ ⟨fun q hq => by rw [z0, upd_ne (by omega)]; exact hc.1 q hq, fun a q ha1 hq1 hq2 => by rw [zne (36 + a) (by omega)]; exact hc.2 a q ha1 hq1 hq2⟩ (by rw [z0, upd_eq]) (fun q hq => by omega)
    obtain ⟨A', b1, b2, b3⟩ := ih (m + 1) A1 (by omega) ⟨h.1, h.2.1, fun k hk => by rw [a2 30 (by omega), zne 30 (by omega)]; exact h.2.2 k hk⟩ a3
    refine ⟨A', fun f t o3 hf => ?_, fun c hc => by rw [b2 c hc, a2 c hc, zne c (by omega)], b3⟩
    obtain ⟨f, rfl⟩ : ∃ e, f = (e + 2 * K + 1) + 1 := ⟨f - 2 * K - 2, by omega⟩
    rw [e_X2_countEndings_at9, pn_f (nI_nlt (by omega) (by omega)), pn_f (show ¬ (12 : Int32) < nI (m + 1) from nI_nlt (a := 12) (by omega) (by decide)), nI_pred, pn_in (show m < 13 by omega) (by decide), cond_true, pn_in (show m + 1 < 13 by omega) (by decide), cond_true, pn_cl (show m + 1 < 2 ^ 31 by omega), pn_cl (show m < 2 ^ 31 by omega), ← hA0]
    exact (a1 f t).trans (b1 f t _ (by omega))
theorem c_rows {d p n : Nat} (hd : 5 ≤ d) (hs : s = 2 ∨ s = 3) (K4 : K ≤ 4) (hw : ∀ i, i < K → okw s (u i) = true) (ha : apt K u) (hp : p < K) (hn : n ≤ 12) (h : fdC s K u I A) : ∃ A', (∀ t, zC d 28 [.ref 29, .int (nI p), .int (nI n)] (hC I A, t) = some (some (.int (iI (Hrn s (Emj s K u p) n))), (hC I A', t))) ∧ ∀ c, c < 36 ∨ 40 < c → A' c = A c := by
  obtain ⟨d, rfl⟩ : ∃ e, d = e + 1 + 1 := ⟨d - 2, by omega⟩
  obtain ⟨A', a1, a2, a3⟩ := c_cOut (I := I) d (by omega) hs K4 hw ha hn n 0 (va_up A 40 (upd (A 40) 0 1)) (by omega) ⟨h.1, h.2.1, fun k hk => by rw [vu_ne (by omega)]; exact h.2.2 k hk⟩ ⟨fun q hq => by
    have e : q = 0 := by omega
    subst e
    rw [vu_eq, upd_eq]
    rfl, fun a q ha1 hq1 hq2 => by omega⟩
  refine ⟨A', fun t => ?_, fun c hc => by rw [a2 c hc, vu_ne (by omega)]⟩
  have e29 : zC (d + 1) 29 [.ref 29, .int (nI n)] (hC I A, t) = some (none, (hC I A', t)) := (e_X2_countEndings d I A t (nI n)).trans (a1 10000000 t none (by omega))
  have loop : ∀ (jj m f : Nat), m + jj = n → jj < f → zR (d + 1) f 28 24 [some (.ref 29), some (.int (nI p)), some (.int (nI n)), some (.int (iI (Hrn s (Emj s K u p) m))), some (.int (nI (m + 1)))] [] (hC I A', t) = some (some (.int (iI (Hrn s (Emj s K u p) n))), (hC I A', t)) := by
    intro jj
    induction jj with
    | zero =>
      intro m f hm hf
      obtain ⟨f, rfl⟩ : ∃ e, f = e + 1 := ⟨f - 1, by omega⟩
      have e : m = n := by omega
      subst e
      rw [c_rw24 (d + 1) f (by omega), pn_t (nI_lt (by omega) (by omega))]
    | succ jj ih =>
      intro m f hm hf
      obtain ⟨f, rfl⟩ : ∃ e, f = e + 1 := ⟨f - 1, by omega⟩
      rw [c_rw24 (d + 1) f (by omega), pn_f (nI_nlt (by omega) (by omega)), pn_f (show ¬ (12 : Int32) < nI (m + 1) from nI_nlt (a := 12) (by omega) (by decide)), pn_in (show m + 1 < 13 by omega) (by decide), cond_true, pn_cl (by omega), h.2.1, a3.2 p (m + 1) hp (by omega) (by omega), iI_nI s, iI_mul, iI_add, nI_1]
      exact ih (m + 1) f (by omega) (by omega)
  rw [e_X2_rowsWithin, pn_f (nI_pos (by omega)), h.1, pn_t (nI_lt hp (by omega)), e29, pn_c0]
  exact loop n 0 10000000 (by omega) (by omega)
end CO
/-! rows of throws by their last four letters, as the reference counts them -/
def q4 : Nat → Nat → Nat
  | 0, _ => 0
  | n + 1, T => 4 * q4 n (T / 10) + T % 10
def d4 (T : Nat) : Prop := ∀ k, T / 10 ^ k % 10 < 4
theorem d4_div {T : Nat} (h : d4 T) : d4 (T / 10) := fun k => by
  rw [Nat.div_div_eq_div_mul, Nat.mul_comm, ← Nat.pow_succ]
  exact h (k + 1)
theorem d4_mod {T : Nat} (h : d4 T) : T % 10 < 4 := by
  have := h 0
  rw [Nat.pow_zero, Nat.div_one] at this
  exact this
theorem q4_lt : ∀ n T, d4 T → q4 n T < 4 ^ n
  | 0, _, _ => by simp only [q4]; decide
  | n + 1, T, h => by
    have h1 := q4_lt n (T / 10) (d4_div h)
    have h2 := d4_mod h
    simp only [q4]
    rw [Nat.pow_succ]
    omega
theorem q4_mod : ∀ l n T, l ≤ n → d4 T → q4 n T % 4 ^ l = q4 l T
  | 0, n, T, _, _ => by rw [Nat.pow_zero, Nat.mod_one]; rfl
  | l + 1, n, T, hl, h => by
    obtain ⟨n, rfl⟩ : ∃ e, n = e + 1 := ⟨n - 1, by omega⟩
    have h1 := q4_mod l n (T / 10) (by omega) (d4_div h)
    have h2 := d4_mod h
    simp only [q4]
    rw [Nat.pow_succ, Nat.mul_comm (4 ^ l) 4, Nat.mod_mul, show (4 * q4 n (T / 10) + T % 10) % 4 = T % 10 by omega, show (4 * q4 n (T / 10) + T % 10) / 4 = q4 n (T / 10) by omega, h1]
    omega
theorem q4_inj : ∀ l T U, d4 T → d4 U → (q4 l T = q4 l U ↔ T % 10 ^ l = U % 10 ^ l)
  | 0, T, U, _, _ => by
    rw [Nat.pow_zero, Nat.mod_one, Nat.mod_one]
    exact ⟨fun _ => rfl, fun _ => rfl⟩
  | l + 1, T, U, hT, hU => by
    have ih := q4_inj l (T / 10) (U / 10) (d4_div hT) (d4_div hU)
    have h1 := d4_mod hT
    have h2 := d4_mod hU
    simp only [q4]
    rw [Nat.pow_succ, Nat.mul_comm (10 ^ l) 10, Nat.mod_mul, Nat.mod_mul]
    constructor
    · intro q
      have e1 : q4 l (T / 10) = q4 l (U / 10) := by omega
      have e2 := ih.mp e1
      omega
    · intro q
      have e1 : T / 10 % 10 ^ l = U / 10 % 10 ^ l := by omega
      have e2 := ih.mpr e1
      omega
theorem dg_d4 {s : Nat} (hs : s ≤ 3) : ∀ e m, dg s e m → d4 m
  | 0, m, h => by
    have h : m = 0 := h
    subst h
    intro k
    rw [Nat.zero_div]
    decide
  | e + 1, m, h => by
    have ih := dg_d4 hs e (m / 10) h.1
    intro k
    cases k with
    | zero => rw [Nat.pow_zero, Nat.div_one]; have := h.2; omega
    | succ k =>
      rw [Nat.pow_succ, Nat.mul_comm, ← Nat.div_div_eq_div_mul]
      exact ih k
/-- the place of the word that ends there -/
def ebf (u e : Nat → Nat) (x : Nat) : Nat → Nat → Int32
  | 0, _ => -1
  | j + 1, i => if x % 4 ^ wl (u i) = q4 (wl (u i)) (u i) then nI (e i) else ebf u e x j (i + 1)
theorem ebf_spec (u e : Nat → Nat) (x : Nat) : ∀ j i, (ebf u e x j i = -1 ∧ ∀ y, i ≤ y → y < i + j → ¬ x % 4 ^ wl (u y) = q4 (wl (u y)) (u y)) ∨ ∃ y, i ≤ y ∧ y < i + j ∧ x % 4 ^ wl (u y) = q4 (wl (u y)) (u y) ∧ ebf u e x j i = nI (e y)
  | 0, i => Or.inl ⟨rfl, fun y h1 h2 => by omega⟩
  | j + 1, i => by
    simp only [ebf]
    by_cases c : x % 4 ^ wl (u i) = q4 (wl (u i)) (u i)
    · rw [if_pos c]
      exact Or.inr ⟨i, Nat.le_refl _, by omega, c, rfl⟩
    · rw [if_neg c]
      rcases ebf_spec u e x j (i + 1) with ⟨h1, h2⟩ | ⟨y, h1, h2, h3, h4⟩
      · refine Or.inl ⟨h1, fun y h3 h4 => ?_⟩
        by_cases q : y = i
        · rw [q]; exact c
        · exact h2 y (by omega) (by omega)
      · exact Or.inr ⟨y, by omega, by omega, h3, h4⟩
def hBf (u e : Nat → Nat) (K v q a : Nat) : Int := if ebf u e (4 * q + a) K 0 = nI v then 1 else 0
def gBf (u e : Nat → Nat) (K y q a : Nat) : Int := if ¬ 0 ≤ ebf u e (4 * q + a) K 0 ∧ (4 * q + a) % 256 = y then 1 else 0
def Nst (s K : Nat) (u : Nat → Nat) (i y : Nat) : Int := xt s K u (fun T => if q4 4 T = y then 1 else 0) i 0
section RW
variable {s K : Nat} {u e : Nat → Nat}
theorem ends_one (ha : apt K u) {X i j : Nat} (hi : i < K) (hj : j < K) (h1 : X % 10 ^ wl (u i) = u i) (h2 : X % 10 ^ wl (u j) = u j) : i = j := by
  apply Classical.byContradiction
  intro n
  have key : ∀ i j, i < K → j < K → i ≠ j → X % 10 ^ wl (u i) = u i → X % 10 ^ wl (u j) = u j → wl (u i) ≤ wl (u j) → False := fun i j hi hj n h1 h2 h => by
    have : inn (u i) (u j) = true := inn_of (i := 0) (by
      have e := mod_mod10 X h
      rw [h2] at e
      rw [Nat.pow_zero, Nat.div_one]
      exact e.trans h1) (by omega)
    rw [ha i j hi hj n] at this
    cases this
  rcases Nat.le_total (wl (u i)) (wl (u j)) with q | q
  · exact key i j hi hj n h1 h2 q
  · exact key j i hj hi (fun q => n q.symm) h2 h1 q
theorem cnd4 (hs : s = 2 ∨ s = 3) (hw : ∀ i, i < K → okw s (u i) = true) {n U a i : Nat} (hU : gdr n U) (ha4 : a < 4) (hi : i < K) : ((4 * q4 4 U + a) % 4 ^ wl (u i) = q4 (wl (u i)) (u i) ↔ (U * 10 + a) % 10 ^ wl (u i) = u i) := by
  have hX : d4 (U * 10 + a) := (gdr_app hU ha4).2
  have e5 : 4 * q4 4 U + a = q4 5 (U * 10 + a) := by
    show _ = 4 * q4 4 ((U * 10 + a) / 10) + (U * 10 + a) % 10
    rw [show (U * 10 + a) / 10 = U by omega, show (U * 10 + a) % 10 = a by omega]
  have l5 := wl_le (u i)
  have hu : d4 (u i) := dg_d4 (s := s) (by omega) _ _ (okw_dg (hw i hi))
  rw [e5, q4_mod _ 5 _ l5 hX, q4_inj _ _ _ hX hu, Nat.mod_eq_of_lt (wl_lt (okw_lt (hw i hi)).2)]
theorem hB_eq (hs : s = 2 ∨ s = 3) (hw : ∀ i, i < K → okw s (u i) = true) (ha : apt K u) (he : ∀ i, i < K → e i < 6) (hin : ∀ i j, i < K → j < K → e i = e j → i = j) {n U a p : Nat} (hU : gdr n U) (ha4 : a < 4) (hp : p < K) : hBf u e K (e p) (q4 4 U) a = ewd (u p) (U * 10 + a) := by
  unfold hBf ewd
  have cp := cnd4 hs hw hU ha4 hp
  have ep := he p hp
  rcases ebf_spec u e (4 * q4 4 U + a) K 0 with ⟨h1, h2⟩ | ⟨y, h1, h2, h3, h4⟩
  · have n1 : ¬ (-1 : Int32) = nI (e p) := fun q => by
      have := congrArg Int32.toInt q
      rw [nI_toInt (by omega)] at this
      have e1 : (-1 : Int32).toInt = -1 := rfl
      omega
    rw [h1, if_neg n1, if_neg (fun q => h2 p (by omega) (by omega) (cp.mpr q))]
  · have ey := he y (by omega)
    rw [h4]
    by_cases q : y = p
    · rw [q, if_pos rfl, if_pos (cp.mp (by rw [← q]; exact h3))]
    · rw [if_neg (fun r => q (hin y p (by omega) hp ((nI_eq (by omega) (by omega)).mp r))), if_neg]
      intro r
      exact q (ends_one ha (by omega) hp ((cnd4 hs hw hU ha4 (show y < K by omega)).mp h3) r)
theorem gB_eq (hs : s = 2 ∨ s = 3) (hw : ∀ i, i < K → okw s (u i) = true) (ha : apt K u) (he : ∀ i, i < K → e i < 6) {n U a y : Nat} (hU : gdr n U) (ha4 : a < 4) : gBf u e K y (q4 4 U) a = opw K u (U * 10 + a) * (if q4 4 (U * 10 + a) = y then 1 else 0) := by
  have hX : d4 (U * 10 + a) := (gdr_app hU ha4).2
  have e5 : (4 * q4 4 U + a) % 256 = q4 4 (U * 10 + a) := by
    have e5 : 4 * q4 4 U + a = q4 5 (U * 10 + a) := by
      show _ = 4 * q4 4 ((U * 10 + a) / 10) + (U * 10 + a) % 10
      rw [show (U * 10 + a) / 10 = U by omega, show (U * 10 + a) % 10 = a by omega]
    rw [e5]
    exact q4_mod 4 5 _ (by omega) hX
  unfold gBf opw
  rw [e5]
  have z : ∀ n, sm n (fun _ => (0 : Int)) = 0 := fun n => by
    induction n with
    | zero => rfl
    | succ n ih => simp only [sm]; rw [ih]; rfl
  rcases ebf_spec u e (4 * q4 4 U + a) K 0 with ⟨h1, h2⟩ | ⟨v, h1, h2, h3, h4⟩
  · have s0 : sm K (fun j => ewd (u j) (U * 10 + a)) = 0 := by
      rw [← z K]
      apply sm_eq
      intro i hi
      unfold ewd
      rw [if_neg (fun q => h2 i (by omega) (by omega) ((cnd4 hs hw hU ha4 hi).mpr q))]
    rw [s0, h1, show (1 : Int) + (-1) * 0 = 1 by decide, Int.one_mul]
    by_cases c : q4 4 (U * 10 + a) = y
    · rw [if_pos ⟨by decide, c⟩, if_pos c]
    · rw [if_neg (fun q => c q.2), if_neg c]
  · have ev := he v (by omega)
    have cv := (cnd4 hs hw hU ha4 (show v < K by omega)).mp h3
    have s1 : sm K (fun j => ewd (u j) (U * 10 + a)) = 1 := by
      rw [sm_one (j := v) K (by omega) (fun i hi hn => by
        unfold ewd
        rw [if_neg (fun q => hn (ends_one ha hi (by omega) q cv))])]
      unfold ewd
      rw [if_pos cv]
    rw [s1, h4, show (1 : Int) + (-1) * 1 = 0 by decide, Int.zero_mul, if_neg (fun q => q.1 (nI_pos' (by omega)))]
theorem N_lin (hs : s = 2 ∨ s = 3) (F : Nat → Int) (i : Nat) : sm 256 (fun y => Nst s K u i y * F y) = xt s K u (fun T => F (q4 4 T)) i 0 := by
  have e1 : sm 256 (fun y => Nst s K u i y * F y) = sm 256 (fun y => xt s K u (fun T => F y * (if q4 4 T = y then 1 else 0)) i 0) := sm_eq 256 (fun y _ => by
    rw [xt_mul, Int.mul_comm]
    rfl)
  rw [e1, ← xt_sm (fun y T => F y * (if q4 4 T = y then 1 else 0)) i 0 256]
  apply xt_eq0 hs
  intro U hU
  have hl : q4 4 U < 256 := q4_lt 4 U hU.2
  rw [sm_one (j := q4 4 U) 256 hl (fun y _ hn => by rw [if_neg (fun q => hn q.symm), Int.mul_zero]), if_pos rfl, Int.mul_one]
theorem N_ends (hs : s = 2 ∨ s = 3) (hw : ∀ i, i < K → okw s (u i) = true) (ha : apt K u) (he : ∀ i, i < K → e i < 6) (hin : ∀ i j, i < K → j < K → e i = e j → i = j) {p : Nat} (hp : p < K) (i : Nat) : sm 256 (fun q => Nst s K u i q * sm s (fun a => hBf u e K (e p) q (a + 1))) = Emj s K u p (i + 1) := by
  rw [N_lin hs (fun q => sm s (fun a => hBf u e K (e p) q (a + 1)))]
  show _ = xt s K u (fun T => sa s (fun a => ewd (u p) (T * 10 + a))) i 0
  apply xt_eq0 hs
  intro U hU
  rw [← sa_sum s hs (fun a => hBf u e K (e p) (q4 4 U) a)]
  apply sa_eq hs
  intro a a1 a2
  exact hB_eq hs hw ha he hin hU (by omega) hp
theorem N_next (hs : s = 2 ∨ s = 3) (hw : ∀ i, i < K → okw s (u i) = true) (ha : apt K u) (he : ∀ i, i < K → e i < 6) (i y : Nat) : sm 256 (fun q => Nst s K u i q * sm s (fun a => gBf u e K y q (a + 1))) = Nst s K u (i + 1) y := by
  rw [N_lin hs (fun q => sm s (fun a => gBf u e K y q (a + 1)))]
  unfold Nst
  rw [xt_app]
  apply xt_eq0 hs
  intro U hU
  rw [← sa_sum s hs (fun a => gBf u e K y (q4 4 U) a)]
  apply sa_eq hs
  intro a a1 a2
  exact gB_eq hs hw ha he hU (by omega)
end RW
theorem b_4l : ∀ l, l ≤ 5 → (1 : Int32) <<< (((2 : Int32) * nI l) &&& 31) = nI (4 ^ l) := by decide
theorem p4_le : ∀ l, l ≤ 5 → 0 < 4 ^ l ∧ 4 ^ l ≤ 1024 := by decide
theorem l_skip {a b c : Int} (h : lI b = 0) : lI (a + b * c) = lI a := by rw [← lI_add, ← lI_mul, h, Int64.zero_mul, Int64.add_zero]
section RV
variable {J : Nat → Int32} {B : Nat → Nat → Int32} {L : Nat → Nat → Int64} {t : List zm_E} {s K : Nat} {u e : Nat → Nat}
theorem r_four {d a : Nat} (hd : 3 ≤ d) (h : zm_H) (ha : a < 100000) : zC d 166 [.int (nI a)] h = some (some (.int (nI (q4 (wl a) a))), h) := by
  obtain ⟨d, rfl⟩ : ∃ e, d = e + 1 := ⟨d - 1, by omega⟩
  have l5 := wl_le a
  have loop : ∀ (j i f : Nat), i + j = wl a → j < f → zR d f 166 4 [some (.int (nI a)), some (.int (nI (q4 i (a / 10 ^ (wl a - i))))), some (.int (nI i))] [] h = some (some (.int (nI (q4 (wl a) a))), h) := by
    intro j
    induction j with
    | zero =>
      intro i f hi hf
      obtain ⟨f, rfl⟩ : ∃ e, f = e + 1 := ⟨f - 1, by omega⟩
      have e0 : i = wl a := by omega
      subst e0
      rw [e_X10_fourOf_at4, r_sizeW (by omega) _ ha, pn_c1, pn_t (nI_le (Nat.le_refl _) (by omega)), Nat.sub_self, Nat.pow_zero, Nat.div_one]
    | succ j ih =>
      intro i f hi hf
      obtain ⟨f, rfl⟩ : ∃ e, f = e + 1 := ⟨f - 1, by omega⟩
      have e4 : (4 : Int32) * nI (q4 i (a / 10 ^ (wl a - i))) + nI (ltr a i) = nI (q4 (i + 1) (a / 10 ^ (wl a - (i + 1)))) := by
        have e5 : a / 10 ^ (wl a - (i + 1)) / 10 = a / 10 ^ (wl a - i) := by
          rw [Nat.div_div_eq_div_mul, ← Nat.pow_succ, show (wl a - (i + 1)).succ = wl a - i by omega]
        have e6 : ltr a i = a / 10 ^ (wl a - (i + 1)) % 10 := by
          unfold ltr
          rw [show wl a - 1 - i = wl a - (i + 1) by omega]
        simp only [q4]
        rw [show (4 : Int32) = nI 4 from rfl, pk_mul, nI_add, e5, e6]
      rw [e_X10_fourOf_at4, r_sizeW (by omega) _ ha, pn_c1, pn_f (nI_ge (by omega) (by omega)), r_letterOf (by omega) _ ha (by omega), pn_c1, e4, nI_1]
      exact ih (i + 1) f (by omega) (by omega)
  rw [e_X10_fourOf]
  exact loop (wl a) 0 10000000 (by omega) (by omega)
theorem r_ends4 {d x : Nat} (hd : 5 ≤ d) (hK : J 26 = nI K) (K4 : K ≤ 4) (he : ∀ i, i < K → e i < 6) (hB : ∀ i, i < K → B 17 i = nI (e i)) (hw : ∀ i, i < K → B 1 (e i) = nI (u i) ∧ 1 ≤ u i ∧ u i < 100000) (hx : x < 1024) : zC d 168 [.ref 1000, .int (nI x)] (t, hM J B L) = some (some (.int (ebf u e x K 0)), (t, hM J B L)) := by
  obtain ⟨d, rfl⟩ : ∃ e, d = e + 1 := ⟨d - 1, by omega⟩
  have loop : ∀ (j i f : Nat) (o3 : Option Value), i + j = K → 2 * j < f → zR d f 168 2 [some (.ref 1000), some (.int (nI x)), some (.int (nI i)), o3] [] (t, hM J B L) = some (some (.int (ebf u e x j i)), (t, hM J B L)) := by
    intro j
    induction j with
    | zero =>
      intro i f o3 hi hf
      obtain ⟨f, rfl⟩ : ∃ e, f = e + 1 := ⟨f - 1, by omega⟩
      rw [e_X10_endsBy_at2, hK, pn_t (nI_le (by omega) (by omega))]
      rfl
    | succ j ih =>
      intro i f o3 hi hf
      obtain ⟨f, rfl⟩ : ∃ e, f = e + 1 + 1 := ⟨f - 2, by omega⟩
      have ei := he i (by omega)
      have hi1 := hw i (by omega)
      have l5 := wl_le (u i)
      have p4 := p4_le _ l5
      have hq : q4 (wl (u i)) (u i) < 2 ^ 31 := by
        have h1 : ∀ n T, q4 n T < 16 ^ n := fun n => by
          induction n with
          | zero => intro T; simp only [q4]; decide
          | succ n ihn =>
            intro T
            have := ihn (T / 10)
            simp only [q4]
            rw [Nat.pow_succ]
            omega
        have h2 := h1 (wl (u i)) (u i)
        have h3 : 16 ^ wl (u i) ≤ 16 ^ 5 := Nat.pow_le_pow_right (by omega) l5
        omega
      have hm : x % 4 ^ wl (u i) < 2 ^ 31 := by
        have := Nat.mod_le x (4 ^ wl (u i))
        omega
      rw [e_X10_endsBy_at2, hK, pn_f (nI_ge (by omega) (by omega)), pn_in (show i < 4 by omega) (by decide), cond_true, pn_cl (show i < 2 ^ 31 by omega), hB i (by omega), pn_in ei (by decide), cond_true, pn_cl (show e i < 2 ^ 31 by omega), hi1.1, r_sizeW (by omega) _ hi1.2.2, pn_c1, b_4l _ l5, pn_f (nI_ne0 p4.1 (by omega)), r_four (by omega) _ hi1.2.2, pn_c1, pk_rem (by omega) p4.1 (by omega), e_X10_endsBy_at36]
      simp only [ebf]
      by_cases c : x % 4 ^ wl (u i) = q4 (wl (u i)) (u i)
      · rw [if_pos c, c, pn_f (fun q => q rfl), pn_in (show i < 4 by omega) (by decide), cond_true, pn_cl (show i < 2 ^ 31 by omega), hB i (by omega)]
      · rw [if_neg c, pn_t (fun q => c ((nI_eq hm hq).mp q)), nI_1]
        exact ih (i + 1) f _ (by omega) (by omega)
  rw [e_X10_endsBy]
  exact loop K 0 10000000 none (by omega) (by omega)
theorem r_lets (d : Nat) (hd : 5 ≤ d) (hs : s = 2 ∨ s = 3) (hJ : J 0 = nI s) (hK : J 26 = nI K) (K4 : K ≤ 4) (he : ∀ i, i < K → e i < 6) (hB : ∀ i, i < K → B 17 i = nI (e i)) (hw : ∀ i, i < K → B 1 (e i) = nI (u i) ∧ 1 ≤ u i ∧ u i < 100000) {q v : Nat} (hq : q < 256) (hv : v < 6) (x1 x3 x6 : Int32) (c X : Int) (M : Nat → Int) : ∀ (jj a : Nat) (L : Nat → Nat → Int64), a + jj = s → L 15 q = lI c → (∀ y, y < 256 → L 16 y = lI (M y + c * sm a (fun i => gBf u e K y q (i + 1)))) → ∃ L', (∀ (R : Option zm_R) (t : List zm_E) (F0 : Nat), (∀ f o8 o9, F0 < f → zR d f 167 139 [some (.ref 1000), some (.int x1), some (.int (nI v)), some (.int x3), some (.long (lI (X + c * sm s (fun i => hBf u e K v q (i + 1))))), none, some (.int x6), some (.int (nI (q + 1))), o8, o9] [] (t, hM J B L') = R) → ∀ f o9, F0 + 2 * jj + 1 < f → zR d f 167 165 [some (.ref 1000), some (.int x1), some (.int (nI v)), some (.int x3), some (.long (lI (X + c * sm a (fun i => hBf u e K v q (i + 1))))), none, some (.int x6), some (.int (nI q)), some (.int (nI (a + 1))), o9] [] (t, hM J B L) = R) ∧ (∀ y, y ≠ 16 → L' y = L y) ∧ ∀ y, y < 256 → L' 16 y = lI (M y + c * sm s (fun i => gBf u e K y q (i + 1))) := by
  intro jj
  induction jj with
  | zero =>
    intro a L ha h15 h16
    have e0 : a = s := by omega
    subst e0
    refine ⟨L, fun R t F0 hR f o9 hf => ?_, fun y _ => rfl, h16⟩
    obtain ⟨f, rfl⟩ : ∃ e, f = e + 1 := ⟨f - 1, by omega⟩
    rw [e_X10_within_at165, hJ, pn_t (nI_lt (by omega) (by omega)), nI_1]
    exact hR f _ _ (by omega)
  | succ jj ih =>
    intro a L ha h15 h16
    have eb := fun t => r_ends4 (t := t) (J := J) (B := B) (L := L) (u := u) (e := e) (x := 4 * q + (a + 1)) hd hK K4 he hB hw (by omega)
    have e4 : (4 : Int32) * nI q + nI (a + 1) = nI (4 * q + (a + 1)) := by rw [show (4 : Int32) = nI 4 from rfl, pk_mul, nI_add]
    have ns : ¬ nI s < nI (a + 1) := nI_nlt (by omega) (by omega)
    by_cases hE : ebf u e (4 * q + (a + 1)) K 0 = nI v
    · have h0 : 0 ≤ nI v := nI_pos' (by omega)
      have g0 : ∀ y, gBf u e K y q (a + 1) = 0 := fun y => if_neg (fun p => p.1 (by rw [hE]; exact h0))
      have h1 : hBf u e K v q (a + 1) = 1 := if_pos hE
      obtain ⟨L', l1, l2, l3⟩ := ih (a + 1) L (by omega) h15 (fun y hy => by
        simp only [sm]
        rw [g0, Int.add_zero]
        exact h16 y hy)
      refine ⟨L', fun R t F0 hR f o9 hf => ?_, l2, l3⟩
      obtain ⟨f, rfl⟩ : ∃ e, f = e + 1 + 1 := ⟨f - 2, by omega⟩
      have ex : X + c * sm a (fun i => hBf u e K v q (i + 1)) + c = X + c * sm (a + 1) (fun i => hBf u e K v q (i + 1)) := by
        simp only [sm]
        rw [h1, Int.mul_add, Int.mul_one, Int.add_assoc]
      rw [e_X10_within_at165, hJ, pn_f ns, e4, eb, pn_c1, e_X10_within_at185, hE, pn_f (fun p => p rfl), pn_in hq (by decide), cond_true, pn_t h0, pn_cl (by omega), h15, lI_add, ex, nI_1]
      exact l1 R t F0 hR f _ (by omega)
    · have h1 : hBf u e K v q (a + 1) = 0 := if_neg hE
      have ex : X + c * sm a (fun i => hBf u e K v q (i + 1)) = X + c * sm (a + 1) (fun i => hBf u e K v q (i + 1)) := by
        simp only [sm]
        rw [h1, Int.add_zero]
      by_cases h0 : 0 ≤ ebf u e (4 * q + (a + 1)) K 0
      · have g0 : ∀ y, gBf u e K y q (a + 1) = 0 := fun y => if_neg (fun p => p.1 h0)
        obtain ⟨L', l1, l2, l3⟩ := ih (a + 1) L (by omega) h15 (fun y hy => by
          simp only [sm]
          rw [g0, Int.add_zero]
          exact h16 y hy)
        refine ⟨L', fun R t F0 hR f o9 hf => ?_, l2, l3⟩
        obtain ⟨f, rfl⟩ : ∃ e, f = e + 1 + 1 := ⟨f - 2, by omega⟩
        rw [e_X10_within_at165, hJ, pn_f ns, e4, eb, pn_c1, e_X10_within_at185, pn_t hE, pn_t h0, ex, nI_1]
        exact l1 R t F0 hR f _ (by omega)
      · have hx : (4 * q + (a + 1)) % 256 < 256 := Nat.mod_lt _ (by decide)
        have er : nI (4 * q + (a + 1)) - nI (4 * q + (a + 1)) / 256 * 256 = nI ((4 * q + (a + 1)) % 256) := pk_rem (d := 256) (by omega) (by decide) (by decide)
        obtain ⟨L', l1, l2, l3⟩ := ih (a + 1) (va_up L 16 (vp_updL (L 16) ((4 * q + (a + 1)) % 256) ((L 16 ((4 * q + (a + 1)) % 256)) + (L 15 q)))) (by omega) (by rw [vu_ne (by decide)]; exact h15) (fun y hy => by
          rw [vu_eq]
          simp only [sm]
          by_cases ey : y = (4 * q + (a + 1)) % 256
          · have g1 : gBf u e K y q (a + 1) = 1 := if_pos ⟨h0, ey.symm⟩
            rw [g1, ← ey, pk_uLs, h16 y hy, h15, lI_add, Int.mul_add, Int.mul_one, Int.add_assoc]
          · have g0 : gBf u e K y q (a + 1) = 0 := if_neg (fun p => ey p.2.symm)
            rw [g0, Int.add_zero, pk_uLn ey]
            exact h16 y hy)
        refine ⟨L', fun R t F0 hR f o9 hf => ?_, fun y hy => by rw [l2 y hy, vu_ne hy], l3⟩
        obtain ⟨f, rfl⟩ : ∃ e, f = e + 1 + 1 := ⟨f - 2, by omega⟩
        rw [e_X10_within_at165, hJ, pn_f ns, e4, eb, pn_c1, e_X10_within_at185, pn_t hE, pn_f h0, e4, er, pn_in hx (by decide), cond_true, pn_in hq (by decide), cond_true, cond_true, pn_cl (show (4 * q + (a + 1)) % 256 < 2 ^ 31 by omega), pn_cl (show q < 2 ^ 31 by omega), ex, nI_1]
        exact l1 R t F0 hR f _ (by omega)
theorem r_scanQ (d : Nat) (hd : 5 ≤ d) (hs : s = 2 ∨ s = 3) (hJ : J 0 = nI s) (hK : J 26 = nI K) (K4 : K ≤ 4) (he : ∀ i, i < K → e i < 6) (hB : ∀ i, i < K → B 17 i = nI (e i)) (hw : ∀ i, i < K → B 1 (e i) = nI (u i) ∧ 1 ≤ u i ∧ u i < 100000) {v : Nat} (hv : v < 6) (x1 x3 x6 : Int32) (X : Int) (N : Nat → Int) : ∀ (jj q : Nat) (L : Nat → Nat → Int64), q + jj = 256 → (∀ y, y < 256 → L 15 y = lI (N y)) → (∀ y, y < 256 → L 16 y = lI (sm q (fun z => N z * sm s (fun i => gBf u e K y z (i + 1))))) → ∃ L', (∀ (R : Option zm_R) (t : List zm_E) (F0 : Nat), (∀ f o8 o9, F0 < f → zR d f 167 251 [some (.ref 1000), some (.int x1), some (.int (nI v)), some (.int x3), some (.long (lI (X + sm 256 (fun z => N z * sm s (fun i => hBf u e K v z (i + 1)))))), none, some (.int x6), some (.int 0), o8, o9] [] (t, hM J B L') = R) → ∀ f o8 o9, F0 + 10 * jj + 1 < f → zR d f 167 139 [some (.ref 1000), some (.int x1), some (.int (nI v)), some (.int x3), some (.long (lI (X + sm q (fun z => N z * sm s (fun i => hBf u e K v z (i + 1)))))), none, some (.int x6), some (.int (nI q)), o8, o9] [] (t, hM J B L) = R) ∧ (∀ y, y ≠ 16 → L' y = L y) ∧ ∀ y, y < 256 → L' 16 y = lI (sm 256 (fun z => N z * sm s (fun i => gBf u e K y z (i + 1)))) := by
  intro jj
  induction jj with
  | zero =>
    intro q L hq h15 h16
    have e0 : q = 256 := by omega
    subst e0
    refine ⟨L, fun R t F0 hR f o8 o9 hf => ?_, fun y _ => rfl, h16⟩
    obtain ⟨f, rfl⟩ : ∃ e, f = e + 1 := ⟨f - 1, by omega⟩
    rw [e_X10_within_at139, pn_t (show (256 : Int32) ≤ nI 256 from nI_le (a := 256) (Nat.le_refl _) (by decide))]
    exact hR f _ _ (by omega)
  | succ jj ih =>
    intro q L hq h15 h16
    have hq' : q < 256 := by omega
    have n256 : ¬ (256 : Int32) ≤ nI q := nI_ge (b := 256) hq' (by decide)
    by_cases z : (lI (N q)).toInt = 0
    · have z0 : lI (N q) = 0 := Int64.toInt_inj.mp (by rw [z]; rfl)
      have ex : lI (X + sm (q + 1) (fun z => N z * sm s (fun i => hBf u e K v z (i + 1)))) = lI (X + sm q (fun z => N z * sm s (fun i => hBf u e K v z (i + 1)))) := by
        simp only [sm]
        rw [← Int.add_assoc, l_skip z0]
      obtain ⟨L', l1, l2, l3⟩ := ih (q + 1) L (by omega) h15 (fun y hy => by
        simp only [sm]
        rw [l_skip z0]
        exact h16 y hy)
      refine ⟨L', fun R t F0 hR f o8 o9 hf => ?_, l2, l3⟩
      obtain ⟨f, rfl⟩ : ∃ e, f = e + 1 := ⟨f - 1, by omega⟩
      rw [e_X10_within_at139, pn_f n256, pn_in hq' (by decide), cond_true, pn_cl (by omega), h15 q hq', pn_f (fun p => p ((l_cmp0 _).mpr z)), nI_1, ← ex]
      exact l1 R t F0 hR f _ _ (by omega)
    · obtain ⟨L1, a1, a2, a3⟩ := r_lets d hd hs hJ hK K4 he hB hw hq' hv x1 x3 x6 (N q) (X + sm q (fun z => N z * sm s (fun i => hBf u e K v z (i + 1)))) (fun y => sm q (fun z => N z * sm s (fun i => gBf u e K y z (i + 1)))) s 0 L (by omega) (h15 q hq') (fun y hy => by
        simp only [sm]
        rw [Int.mul_zero, Int.add_zero]
        exact h16 y hy)
      obtain ⟨L', l1, l2, l3⟩ := ih (q + 1) L1 (by omega) (fun y hy => by rw [a2 15 (by decide)]; exact h15 y hy) (fun y hy => by
        rw [a3 y hy]
        rfl)
      refine ⟨L', fun R t F0 hR f o8 o9 hf => ?_, fun y hy => by rw [l2 y hy, a2 y hy], l3⟩
      obtain ⟨f, rfl⟩ : ∃ e, f = e + 1 := ⟨f - 1, by omega⟩
      rw [e_X10_within_at139, pn_f n256, pn_in hq' (by decide), cond_true, pn_cl (by omega), h15 q hq', pn_t (fun p => z ((l_cmp0 _).mp p))]
      have a1' := a1 R t (F0 + 10 * jj + 1) (fun f o8 o9 hf => by
        rw [Int.add_assoc]
        exact l1 R t F0 hR f o8 o9 hf) f o9 (by omega)
      rw [show (X + sm q (fun z => N z * sm s (fun i => hBf u e K v z (i + 1)))) + N q * sm 0 (fun i => hBf u e K v q (i + 1)) = X + sm q (fun z => N z * sm s (fun i => hBf u e K v z (i + 1))) by
        simp only [sm]
        rw [Int.mul_zero, Int.add_zero]] at a1'
      exact a1'
theorem r_clearQ (d : Nat) (x1 x2 x3 x6 : Int32) (x4 : Int64) : ∀ (jj q : Nat) (L : Nat → Nat → Int64), q + jj = 256 → (∀ y, y < q → L 16 y = 0) → ∃ L', (∀ (R : Option zm_R) (t : List zm_E) (F0 : Nat), (∀ f o8 o9, F0 < f → zR d f 167 139 [some (.ref 1000), some (.int x1), some (.int x2), some (.int x3), some (.long x4), none, some (.int x6), some (.int 0), o8, o9] [] (t, hM J B L') = R) → ∀ f o8 o9, F0 + jj + 1 < f → zR d f 167 114 [some (.ref 1000), some (.int x1), some (.int x2), some (.int x3), some (.long x4), none, some (.int x6), some (.int (nI q)), o8, o9] [] (t, hM J B L) = R) ∧ (∀ y, y ≠ 16 → L' y = L y) ∧ ∀ y, y < 256 → L' 16 y = 0 := by
  intro jj
  induction jj with
  | zero =>
    intro q L hq h
    have e0 : q = 256 := by omega
    subst e0
    refine ⟨L, fun R t F0 hR f o8 o9 hf => ?_, fun y _ => rfl, h⟩
    obtain ⟨f, rfl⟩ : ∃ e, f = e + 1 := ⟨f - 1, by omega⟩
    rw [e_X10_within_at114, pn_t (show (256 : Int32) ≤ nI 256 from nI_le (a := 256) (Nat.le_refl _) (by decide))]
    exact hR f _ _ (by omega)
  | succ jj ih =>
    intro q L hq h
    have hq' : q < 256 := by omega
    obtain ⟨L', l1, l2, l3⟩ := ih (q + 1) (va_up L 16 (vp_updL (L 16) q 0)) (by omega) (fun y hy => by
      rw [vu_eq]
      by_cases ey : y = q
      · rw [ey, pk_uLs]
      · rw [pk_uLn ey]; exact h y (by omega))
    refine ⟨L', fun R t F0 hR f o8 o9 hf => ?_, fun y hy => by rw [l2 y hy, vu_ne hy], l3⟩
    obtain ⟨f, rfl⟩ : ∃ e, f = e + 1 := ⟨f - 1, by omega⟩
    rw [e_X10_within_at114, pn_f (show ¬ (256 : Int32) ≤ nI q from nI_ge (b := 256) hq' (by decide)), pn_in hq' (by decide), cond_true, pn_cl (by omega), nI_1]
    exact l1 R t F0 hR f _ _ (by omega)
theorem r_copyQ (d : Nat) (x1 x2 x3 x6 : Int32) (x4 : Int64) : ∀ (jj q : Nat) (L : Nat → Nat → Int64), q + jj = 256 → (∀ y, y < q → L 15 y = L 16 y) → ∃ L', (∀ (R : Option zm_R) (t : List zm_E) (F0 : Nat), (∀ f o7 o8 o9, F0 < f → zR d f 167 95 [some (.ref 1000), some (.int x1), some (.int x2), some (.int x3), some (.long x4), none, some (.int (x6 + 1)), o7, o8, o9] [] (t, hM J B L') = R) → ∀ f o8 o9, F0 + jj + 1 < f → zR d f 167 251 [some (.ref 1000), some (.int x1), some (.int x2), some (.int x3), some (.long x4), none, some (.int x6), some (.int (nI q)), o8, o9] [] (t, hM J B L) = R) ∧ (∀ y, y ≠ 15 → L' y = L y) ∧ ∀ y, y < 256 → L' 15 y = L 16 y := by
  intro jj
  induction jj with
  | zero =>
    intro q L hq h
    have e0 : q = 256 := by omega
    subst e0
    refine ⟨L, fun R t F0 hR f o8 o9 hf => ?_, fun y _ => rfl, h⟩
    obtain ⟨f, rfl⟩ : ∃ e, f = e + 1 := ⟨f - 1, by omega⟩
    rw [e_X10_within_at251, pn_t (show (256 : Int32) ≤ nI 256 from nI_le (a := 256) (Nat.le_refl _) (by decide))]
    exact hR f _ _ _ (by omega)
  | succ jj ih =>
    intro q L hq h
    have hq' : q < 256 := by omega
    obtain ⟨L', l1, l2, l3⟩ := ih (q + 1) (va_up L 15 (vp_updL (L 15) q (L 16 q))) (by omega) (fun y hy => by
      rw [vu_eq, vu_ne (by decide)]
      by_cases ey : y = q
      · rw [ey, pk_uLs]
      · rw [pk_uLn ey]; exact h y (by omega))
    refine ⟨L', fun R t F0 hR f o8 o9 hf => ?_, fun y hy => by rw [l2 y hy, vu_ne hy], fun y hy => by rw [l3 y hy, vu_ne (by decide)]⟩
    obtain ⟨f, rfl⟩ : ∃ e, f = e + 1 := ⟨f - 1, by omega⟩
    rw [e_X10_within_at251, pn_f (show ¬ (256 : Int32) ≤ nI q from nI_ge (b := 256) hq' (by decide)), pn_in hq' (by decide), cond_true, cond_true, pn_cl (by omega), nI_1]
    exact l1 R t F0 hR f _ _ (by omega)
theorem r_initQ (d : Nat) (x1 x2 x3 : Int32) : ∀ (jj q : Nat) (L : Nat → Nat → Int64), q + jj = 256 → (∀ y, y < q → L 15 y = 0) → ∃ L', (∀ (R : Option zm_R) (t : List zm_E) (F0 : Nat), (∀ f, F0 < f → zR d f 167 95 [some (.ref 1000), some (.int x1), some (.int x2), some (.int x3), some (.long 0), none, some (.int 0), none, none, none] [] (t, hM J B L') = R) → ∀ f, F0 + jj + 1 < f → zR d f 167 60 [some (.ref 1000), some (.int x1), some (.int x2), some (.int x3), some (.int (nI q)), none, none, none, none, none] [] (t, hM J B L) = R) ∧ (∀ y, y ≠ 15 → L' y = L y) ∧ ∀ y, y < 256 → L' 15 y = lI (if 0 = y then 1 else 0) := by
  intro jj
  induction jj with
  | zero =>
    intro q L hq h
    have e0 : q = 256 := by omega
    subst e0
    refine ⟨va_up L 15 (vp_updL (L 15) 0 1), fun R t F0 hR f hf => ?_, fun y hy => vu_ne hy, fun y hy => ?_⟩
    · obtain ⟨f, rfl⟩ : ∃ e, f = e + 1 := ⟨f - 1, by omega⟩
      rw [e_X10_within_at60, pn_t (show (256 : Int32) ≤ nI 256 from nI_le (a := 256) (Nat.le_refl _) (by decide))]
      exact hR f (by omega)
    · rw [vu_eq]
      by_cases ey : y = 0
      · rw [ey, pk_uLs, if_pos rfl]; rfl
      · rw [pk_uLn ey, h y hy, if_neg (fun p => ey p.symm)]; rfl
  | succ jj ih =>
    intro q L hq h
    have hq' : q < 256 := by omega
    obtain ⟨L', l1, l2, l3⟩ := ih (q + 1) (va_up L 15 (vp_updL (L 15) q 0)) (by omega) (fun y hy => by
      rw [vu_eq]
      by_cases ey : y = q
      · rw [ey, pk_uLs]
      · rw [pk_uLn ey]; exact h y (by omega))
    refine ⟨L', fun R t F0 hR f hf => ?_, fun y hy => by rw [l2 y hy, vu_ne hy], l3⟩
    obtain ⟨f, rfl⟩ : ∃ e, f = e + 1 := ⟨f - 1, by omega⟩
    rw [e_X10_within_at60, pn_f (show ¬ (256 : Int32) ≤ nI q from nI_ge (b := 256) hq' (by decide)), pn_in hq' (by decide), cond_true, pn_cl (by omega), nI_1]
    exact l1 R t F0 hR f (by omega)
theorem r_rowsW (d : Nat) (hd : 5 ≤ d) (hs : s = 2 ∨ s = 3) (hJ : J 0 = nI s) (hK : J 26 = nI K) (K4 : K ≤ 4) (he : ∀ i, i < K → e i < 6) (hB : ∀ i, i < K → B 17 i = nI (e i)) (hw : ∀ i, i < K → B 1 (e i) = nI (u i) ∧ okw s (u i) = true) (ha : apt K u) (hin : ∀ i j, i < K → j < K → e i = e j → i = j) {p n : Nat} (hp : p < K) (hn : n ≤ 12) (x1 : Int32) : ∀ (jj i : Nat) (L : Nat → Nat → Int64), i + jj = n → (∀ y, y < 256 → L 15 y = lI (Nst s K u i y)) → ∃ L', ∀ t f o7 o8 o9, 4000 * jj < f → zR d f 167 95 [some (.ref 1000), some (.int x1), some (.int (nI (e p))), some (.int (nI n)), some (.long (lI (Hrn s (Emj s K u p) i))), none, some (.int (nI i)), o7, o8, o9] [] (t, hM J B L) = some (some (.int (iI (Hrn s (Emj s K u p) n))), (t, hM J B L')) := by
  intro jj
  induction jj with
  | zero =>
    intro i L hi h15
    have e0 : i = n := by omega
    subst e0
    refine ⟨L, fun t f o7 o8 o9 hf => ?_⟩
    obtain ⟨f, rfl⟩ : ∃ e, f = e + 1 := ⟨f - 1, by omega⟩
    rw [e_X10_within_at95, pn_t (nI_le (Nat.le_refl _) (by omega))]
    have ec : Int64.toInt32 (lI (Hrn s (Emj s K u p) i)) = iI (Hrn s (Emj s K u p) i) := Int64.toInt32_ofInt
    rw [ec]
  | succ jj ih =>
    intro i L hi h15
    have hok : ∀ i, i < K → okw s (u i) = true := fun i hi => (hw i hi).2
    have hw' : ∀ i, i < K → B 1 (e i) = nI (u i) ∧ 1 ≤ u i ∧ u i < 100000 := fun i hi => ⟨(hw i hi).1, okw_lt (hok i hi)⟩
    have hs4 : (s : Int).natAbs < 2 ^ 31 := by omega
    obtain ⟨L1, a1, a2, a3⟩ := r_clearQ (J := J) (B := B) d x1 (nI (e p)) (nI n) (nI i) (lI (Hrn s (Emj s K u p) i * s)) 256 0 L (by omega) (fun y hy => by omega)
    obtain ⟨L2, b1, b2, b3⟩ := r_scanQ (u := u) (e := e) d hd hs hJ hK K4 he hB hw' (he p hp) x1 (nI n) (nI i) (Hrn s (Emj s K u p) i * s) (Nst s K u i) 256 0 L1 (by omega) (fun y hy => by rw [a2 15 (by decide)]; exact h15 y hy) (fun y hy => by rw [a3 y hy]; rfl)
    obtain ⟨L3, c1, c2, c3⟩ := r_copyQ (J := J) (B := B) d x1 (nI (e p)) (nI n) (nI i) (lI (Hrn s (Emj s K u p) i * s + sm 256 (fun z => Nst s K u i z * sm s (fun a => hBf u e K (e p) z (a + 1))))) 256 0 L2 (by omega) (fun y hy => by omega)
    obtain ⟨L', l1⟩ := ih (i + 1) L3 (by omega) (fun y hy => by rw [c3 y hy, b3 y hy, N_next hs hok ha he])
    refine ⟨L', fun t f o7 o8 o9 hf => ?_⟩
    obtain ⟨f, rfl⟩ : ∃ e, f = e + 1 := ⟨f - 1, by omega⟩
    have s3 : ∀ f o7 o8 o9, 4000 * jj < f → zR d f 167 95 [some (.ref 1000), some (.int x1), some (.int (nI (e p))), some (.int (nI n)), some (.long (lI (Hrn s (Emj s K u p) i * s + sm 256 (fun z => Nst s K u i z * sm s (fun a => hBf u e K (e p) z (a + 1)))))), none, some (.int (nI i + 1)), o7, o8, o9] [] (t, hM J B L3) = some (some (.int (iI (Hrn s (Emj s K u p) n))), (t, hM J B L')) := fun f o7 o8 o9 hf => by
      rw [N_ends hs hok ha he hin hp, nI_1]
      exact l1 t f o7 o8 o9 hf
    have s2 := c1 _ t (4000 * jj) s3
    have s1 := b1 _ t (4000 * jj + 256 + 1) s2
    have s0 := a1 _ t (4000 * jj + 256 + 1 + 10 * 256 + 1) (fun f o8 o9 hf => by
      have := s1 f o8 o9 hf
      rw [show Hrn s (Emj s K u p) i * s + sm 0 (fun z => Nst s K u i z * sm s (fun a => hBf u e K (e p) z (a + 1))) = Hrn s (Emj s K u p) i * s by simp only [sm]; rw [Int.add_zero]] at this
      exact this) f o8 o9 (by omega)
    rw [e_X10_within_at95, pn_f (nI_ge (by omega) (by omega)), hJ, iI_nI s, iI_l hs4, lI_mul]
    exact s0
end RV
/-! within -/
section WI
variable {I : Nat → Int32} {A : Nat → Nat → Int32} {J : Nat → Int32} {B : Nat → Nat → Int32} {L : Nat → Nat → Int64}
theorem d_nI1n : decide (¬ nI 1 = (0 : Int32)) = true := rfl
theorem d_nI0n : decide (¬ nI 0 = (0 : Int32)) = false := rfl
theorem P_within (h : Rel I A J B) (x y c : Int32) : Ans 90 167 [.int x, .int y, .int c] I A J B L := by
  have hh := h
  obtain ⟨⟨⟨s, ⟨n, w⟩, ⟨z, l⟩, ⟨p, k, o⟩, ⟨r, a, v⟩⟩, hv, hc, hm⟩, -⟩ := h
  have hs : s = 2 ∨ s = 3 := hv.1
  have c1 : I 100 = nI s := hc.1
  have m1 : J 0 = nI s := hm.1
  have c2 : I 102 = nI n := hc.2.1.1
  have m2 : J 2 = nI n := hm.2.1.1
  have n6 : n ≤ 6 := hv.2.1.1
  have hw : ∀ i, i < n → okw s (w i) = true := hv.2.1.2
  have aw : ∀ i, i < n → A 2 i = nI (w i) := hc.2.1.2
  have bw : ∀ i, i < n → B 1 i = nI (w i) := hm.2.1.2
  have h64 := p2_64 n6
  have e1 := fun t => e_X9_within 59 I A t x y c
  have e2 := fun t => e_X10_within 59 J B L t x y c
  have no : ∀ q : x < 0 ∨ nI (2 ^ n) ≤ x, Ans 90 167 [.int x, .int y, .int c] I A J B L := fun q => by
    simp only [c_is0 (A := A) (show 1 ≤ 59 by omega) c2 n6 q, pn_c1, F1, e_X9_within_at8, d_00, cond_true] at e1
    simp only [r_setsN (B := B) (L := L) (show 2 ≤ 59 by omega) n6 m2 q, pn_c1, d_00, cond_true] at e2
    exact ⟨_, _, _, _, _, _, e1, e2, hh⟩
  rcases pk_ix x (n := 2 ^ n) (by omega) with q | q | ⟨m, ml, rfl⟩
  · exact no (Or.inl q)
  · exact no (Or.inr q)
  have hle := sl_le m n
  obtain ⟨J1, B1, q1, q2, q3, q4, q5⟩ := r_sets (J := J) (B := B) (L := L) (d := 59) (by omega) n6 ml m2
  have rel : Rel I A J1 B1 := Rel_fr hh (fun _ _ => rfl) (fun _ _ _ => rfl) (fun c hc => q2 c (by omega)) (fun c hc => q3 c (by omega))
  have j1 : J1 2 = nI n := (q2 2 (by decide)).trans m2
  have j0 : J1 0 = nI s := (q2 0 (by decide)).trans m1
  simp only [c_is1 (A := A) (show 1 ≤ 59 by omega) c2 n6 ml, pn_c1, F1, e_X9_within_at8, d_10, cond_false] at e1
  simp only [q1, pn_c1, d_10, cond_false] at e2
  have no2 : ∀ q : y < 0 ∨ nI n ≤ y, Ans 90 167 [.int (nI m), .int y, .int c] I A J B L := fun q => by
    simp only [c_iis0 (A := A) (show 2 ≤ 59 by omega) c2 q, pn_c1, d_n00, cond_false] at e1
    simp only [r_iw0 (B := B1) (L := L) (show 2 ≤ 59 by omega) j1 n6 q, pn_c1, F1, e_X10_within_at13, d_00, cond_true] at e2
    exact ⟨_, _, _, _, _, _, e1, e2, rel⟩
  rcases pk_ix y (n := n) (by omega) with q | q | ⟨v, vl, rfl⟩
  · exact no2 (Or.inl q)
  · exact no2 (Or.inr q)
  simp only [c_iis1 (A := A) (show 2 ≤ 59 by omega) c2 n6 (show m < 64 by omega) vl, pn_c1] at e1
  simp only [r_iw1 (B := B1) (L := L) (show 2 ≤ 59 by omega) j1 n6 vl, pn_c1, F1, e_X10_within_at13, d_10, cond_false, b_bit m (show m < 64 by omega) v (show v < 6 by omega), q4] at e2
  by_cases cb : m / 2 ^ v % 2 = 1
  rotate_left
  · simp only [decide_eq_false cb, b01_f, d_n00, cond_false] at e1
    simp only [show m / 2 ^ v % 2 = 0 by omega, d_nI0n, cond_false] at e2
    exact ⟨_, _, _, _, _, _, e1, e2, rel⟩
  simp only [decide_eq_true cb, b01_t, d_n10, cond_true, z_bc (show 1 ≤ 59 by omega) _ (show m < 64 by omega), ← sl_n n n6 m ml, pn_c1, F2, e_X9_within_at29] at e1
  simp only [cb, d_nI1n, cond_true] at e2
  by_cases k4 : (sl m n).1 ≤ 4
  rotate_left
  · have g4 : (4 : Int32) < nI (sl m n).1 := nI_lt (a := 4) (by omega) (by omega)
    simp only [pn_t g4] at e1 e2
    exact ⟨_, _, _, _, _, _, e1, e2, rel⟩
  have g4 : ¬ (4 : Int32) < nI (sl m n).1 := nI_nlt (a := 4) k4 (by decide)
  simp only [pn_f g4] at e1
  simp only [pn_f g4, r_in (show 1 ≤ 59 by omega), pn_c1] at e2
  have no3 : ∀ q : c < 0 ∨ nI 13 ≤ c, Ans 90 167 [.int (nI m), .int (nI v), .int c] I A J B L := fun q => by
    have hx := i_in0 (x := c) (n := 13) (by decide) q
    rw [show nI 13 - 1 = (12 : Int32) from rfl] at hx
    simp only [hx, b01_f, d_n00, cond_false] at e2
    by_cases c0 : c < 0
    · simp only [pn_t c0] at e1
      exact ⟨_, _, _, _, _, _, e1, e2, rel⟩
    · have c12 : ¬ c ≤ 12 := fun p => by
        rcases q with q | q
        · exact c0 q
        · exact (Int32.not_le.mpr (show (12 : Int32) < nI 13 by decide)) (Int32.le_trans q p)
      simp only [pn_f c0, pn_f c12] at e1
      exact ⟨_, _, _, _, _, _, e1, e2, rel⟩
  rcases pk_ix c (n := 13) (by decide) with q | q | ⟨g, gl, rfl⟩
  · exact no3 (Or.inl q)
  · exact no3 (Or.inr q)
  have hx := i_in1 (j := g) (n := 13) (by decide) gl
  rw [show nI 13 - 1 = (12 : Int32) from rfl] at hx
  have hfm := q5 k4
  have he : ∀ i, i < (sl m n).1 → (sl m n).2 i < n := fun i hi => (sl_bit m n i hi).1
  have he6 : ∀ i, i < (sl m n).1 → (sl m n).2 i < 6 := fun i hi => Nat.lt_of_lt_of_le (he i hi) n6
  have hok : ∀ i, i < (sl m n).1 → okw s (w ((sl m n).2 i)) = true := fun i hi => hw _ (he i hi)
  have hb1 : ∀ i, i < (sl m n).1 → B1 1 ((sl m n).2 i) = nI (w ((sl m n).2 i)) := fun i hi => by rw [q3 1 (by decide)]; exact bw _ (he i hi)
  obtain ⟨I1, A1, r1, r2, r3, r4⟩ := c_fill (I := I) (A := A) (d := 59) (s := s) (by omega) n6 (show m < 64 by omega) k4 c1 c2 aw
  have ho := fun t => c_ho (t := t) (d := 59) (by omega) k4 r4 (fun i hi => (okw_lt (hok i hi)).2)
  have isf := fun t => r_isField (t := t) (J := J1) (B := B1) (L := L) (d := 59) (u := fun k => w ((sl m n).2 k)) (by omega) k4 hfm he6 (fun i hi => ⟨hb1 i hi, okw_lt (hok i hi)⟩)
  simp only [pn_f (nI_pos (show g < 2 ^ 31 by omega)), pn_t (show nI g ≤ (12 : Int32) from nI_le (b := 12) (by omega) (by decide)), r1, pn_c0, F3, e_X9_within_at58, ho, pn_c1, F4, e_X9_within_at65] at e1
  simp only [hx, b01_t, d_n10, cond_true, isf, pn_c1] at e2
  cases hb : cls (sl m n).1 (fun k => w ((sl m n).2 k)) with
  | true =>
    simp only [hb, b01_t, d_10, cond_false] at e1
    simp only [hb, Bool.not_true, b01_f, d_n00, cond_false] at e2
    exact ⟨_, _, _, _, _, _, e1, e2, Rel_fr hh (fun c hc => r2 c (by omega) (by omega)) (fun c h1 h2 => r3 c (by omega)) (fun c hc => q2 c (by omega)) (fun c hc => q3 c (by omega))⟩
  | false =>
    obtain ⟨hp, hpv⟩ := sl_at m n v vl cb
    obtain ⟨A2, f1, f2⟩ := c_rows (I := I1) (A := A1) (d := 59) (n := g) (by omega) hs k4 hok (cls_apt hb) hp (by omega) r4
    obtain ⟨L1, i1, i2, i3⟩ := r_initQ (J := J1) (B := B1) 59 (nI m) (nI v) (nI g) 256 0 L (by omega) (fun y hy => by omega)
    obtain ⟨L2, w1⟩ := r_rowsW (J := J1) (B := B1) (u := fun k => w ((sl m n).2 k)) (e := (sl m n).2) 59 (by omega) hs j0 hfm.1 k4 he6 hfm.2 (fun i hi => ⟨hb1 i hi, hok i hi⟩) (cls_apt hb) (fun i j hi hj e => sl_inj m n i j hi hj e) hp (show g ≤ 12 by omega) (nI m) g 0 L1 (by omega) (fun y hy => i3 y hy)
    have e60 : ∀ t, zR 59 9999999 167 60 [some (.ref 1000), some (.int (nI m)), some (.int (nI v)), some (.int (nI g)), some (.int 0), none, none, none, none, none] [] (t, hM J1 B1 L) = some (some (.int (iI (Hrn s (Emj s (sl m n).1 (fun k => w ((sl m n).2 k)) (sl m v).1) g))), (t, hM J1 B1 L2)) := fun t => i1 _ t (4000 * g) (fun f hf => by
      have := w1 t f none none none (by omega)
      rw [hpv] at this
      exact this) 9999999 (by omega)
    simp only [hb, b01_f, d_00, cond_true, s_place (show 2 ≤ 59 by omega) _ (show m < 64 by omega) (show v < 6 by omega), pn_c1, f1] at e1
    simp only [hb, Bool.not_false, b01_t, d_n10, cond_true, e60] at e2
    exact ⟨_, _, _, _, _, _, e1, e2, Rel_fr hh (fun c hc => r2 c (by omega) (by omega)) (fun c h1 h2 => (f2 c (by omega)).trans (r3 c (by omega))) (fun c hc => q2 c (by omega)) (fun c hc => q3 c (by omega))⟩
end WI
