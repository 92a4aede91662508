/-! who beats whom; the chance of one against another -/
def bt (s a b : Nat) : Bool := !(inn a b || inn b a) && decide (¬ wt s a b ≤ wt s b a)
theorem s_beats {d : Nat} (hd : 5 ≤ d) (h : zm_H) {a b s : Nat} (ha : a < 100000) (hb : b < 100000) : zC d 36 [.int (nI a), .int (nI b), .int (nI s)] h = some (some (.int (b01 (bt s a b))), h) := by
  obtain ⟨d, rfl⟩ : ∃ e, d = e + 1 := ⟨d - 1, by omega⟩
  rw [e_X4_beats, s_clash (by omega) h (by omega) (by omega), pn_c1]
  unfold bt
  cases h1 : (inn a b || inn b a) with
  | true => rfl
  | false =>
    rw [b01_f, d_n00, cond_false, s_share (by omega) h ha hb, pn_c1, s_share (by omega) h hb ha, pn_c1]
    by_cases c : wt s a b ≤ wt s b a
    · rw [pn_t c, decide_eq_false (fun q => q c)]; rfl
    · rw [pn_f c, decide_eq_true c]; rfl
theorem r_beats {d : Nat} (hd : 5 ≤ d) (t : List zm_E) (J : Nat → Int32) (B : Nat → Nat → Int32) (L : Nat → Nat → Int64) {a b s : Nat} (hJ : J 0 = nI s) (ha1 : 1 ≤ a) (ha : a < 100000) (hb1 : 1 ≤ b) (hb : b < 100000) : zC d 140 [.ref 1000, .int (nI a), .int (nI b)] (t, hM J B L) = some (some (.int (b01 (bt s a b))), (t, hM J B L)) := by
  obtain ⟨d, rfl⟩ : ∃ e, d = e + 1 := ⟨d - 1, by omega⟩
  rw [e_X10_beats, r_apart (by omega) _ ha1 ha hb1 hb, pn_c1]
  unfold bt
  cases h1 : (inn a b || inn b a) with
  | true => rfl
  | false =>
    rw [show b01 (!false) = 1 from rfl, d_10, cond_false, r_weight (by omega) t J B L hJ ha hb, pn_c1, r_weight (by omega) t J B L hJ hb ha, pn_c1]
    by_cases c : wt s a b ≤ wt s b a
    · rw [pn_t c, decide_eq_false (fun q => q c)]; rfl
    · rw [pn_f c, decide_eq_true c]; rfl
def chn (s a b : Nat) (p : Int32) : Int64 := fL (Int32.toInt64 (wt s a b)) (Int32.toInt64 (wt s a b + wt s b a)) (if p = 0 then Int32.toInt64 (wt s a b) else Int32.toInt64 (wt s a b + wt s b a))
theorem inn_pre {a b : Nat} (hb : b < 100000) (h : inn b a = false) (hle : wl b ≤ wl a) : b ≠ a / 10 ^ (wl a - wl b) := by
  intro e
  have : inn b a = true := by
    unfold inn
    rw [inr_iff]
    exact ⟨wl a - wl b, by omega, by omega, by rw [← e]; exact Nat.mod_eq_of_lt (wl_lt hb)⟩
  rw [this] at h
  cases h
theorem inn_same {a b : Nat} (hb : b < 100000) (h : wl a = wl b) (hn : a ≠ b) : inn a b = false := by
  rw [Bool.eq_false_iff]
  intro q
  unfold inn at q
  rw [inr_iff] at q
  obtain ⟨i, h1, h2, h3⟩ := q
  have e : i = 0 := by omega
  subst e
  rw [Nat.pow_zero, Nat.div_one, h, Nat.mod_eq_of_lt (wl_lt hb)] at h3
  exact hn h3.symm
theorem wt_n {s a b : Nat} (hs : s = 2 ∨ s = 3) (hb1 : 1 ≤ b) (hb : b < 100000) (h : inn b a = false) : ∃ x, 0 < x ∧ x ≤ 363 ∧ wt s a b = nI x := by
  have h1 := w_pos hs hb1 hb (b := a) (inn_pre hb h)
  have h2 := nb_363 hs (ov_lt b b)
  refine ⟨nb s (ov b b) - nb s (ov b a), by omega, by omega, ?_⟩
  unfold wt
  rw [pn_sub (by omega)]
theorem chn_pre {s a b : Nat} (hs : s = 2 ∨ s = 3) (ha : okw s a = true) (hb : okw s b = true) (h : (inn a b || inn b a) = false) : (Int32.toInt64 (wt s a b)).toInt.natAbs < 2 ^ 49 ∧ (Int32.toInt64 (wt s a b + wt s b a)).toInt.natAbs < 2 ^ 49 ∧ (Int32.toInt64 (wt s a b + wt s b a)).toInt ≠ 0 := by
  have ha := okw_lt ha
  have hb := okw_lt hb
  rw [Bool.or_eq_false_iff] at h
  obtain ⟨x, x1, x2, x3⟩ := wt_n hs hb.1 hb.2 h.2
  obtain ⟨y, y1, y2, y3⟩ := wt_n hs ha.1 ha.2 h.1
  rw [x3, y3, nI_add, Int32.toInt_toInt64, Int32.toInt_toInt64, nI_toInt (by omega), nI_toInt (by omega)]
  omega
theorem s_chance {d : Nat} (hd : 5 ≤ d) (h : zm_H) {s a b : Nat} (hs : s = 2 ∨ s = 3) (ha : okw s a = true) (hb : okw s b = true) (p : Int32) : zC d 35 [.int (nI a), .int (nI b), .int (nI s), .int p] h = some (some (.long (bif inn a b || inn b a then -9223372036854775808 else chn s a b p)), h) := by
  obtain ⟨d, rfl⟩ : ∃ e, d = e + 1 := ⟨d - 1, by omega⟩
  have ha' := okw_lt ha
  have hb' := okw_lt hb
  rw [e_X4_chancePart, s_clash (by omega) h (by omega) (by omega), pn_c1]
  cases h1 : (inn a b || inn b a) with
  | true => rw [b01_t, d_10, cond_false, cond_true]
  | false =>
    obtain ⟨q1, q2, q3⟩ := chn_pre hs ha hb h1
    rw [b01_f, d_00, cond_true, s_share (by omega) h ha'.2 hb'.2, pn_c1, s_share (by omega) h hb'.2 ha'.2, pn_c1, s_partOf (by omega) h _ _ p q1 q2 q3, pn_c2, cond_false]
    rfl
theorem r_chanceOf {d : Nat} (hd : 5 ≤ d) (t : List zm_E) (J : Nat → Int32) (B : Nat → Nat → Int32) (L : Nat → Nat → Int64) {s a b : Nat} (hJ : J 0 = nI s) (hs : s = 2 ∨ s = 3) (ha : okw s a = true) (hb : okw s b = true) (p : Int32) (h1 : (inn a b || inn b a) = false) : zC d 143 [.ref 1000, .int (nI a), .int (nI b), .int p] (t, hM J B L) = some (some (.long (chn s a b p)), (t, hM J B L)) := by
  obtain ⟨d, rfl⟩ : ∃ e, d = e + 1 := ⟨d - 1, by omega⟩
  have ha' := okw_lt ha
  have hb' := okw_lt hb
  obtain ⟨q1, q2, q3⟩ := chn_pre hs ha hb h1
  rw [e_X10_chanceOf, r_weight (by omega) t J B L hJ ha'.2 hb'.2, pn_c1, r_weight (by omega) t J B L hJ hb'.2 ha'.2, pn_c1, r_lowest (by omega) _ _ _ p (by omega) (by omega) q3, pn_c2]
  rfl
theorem s_isPart {d : Nat} (hd : 1 ≤ d) (h : zm_H) (x : Int32) : zC d 31 [.int x] h = some (some (.int (b01 (decide (x = 0 ∨ x = 1)))), h) := by
  obtain ⟨d, rfl⟩ : ∃ e, d = e + 1 := ⟨d - 1, by omega⟩
  rw [e_X3_isPart]
  by_cases h0 : x = 0
  · rw [pn_t h0, decide_eq_true (Or.inl h0)]; rfl
  · rw [pn_f h0]
    by_cases h1 : x = 1
    · rw [pn_f (by simpa using h1), decide_eq_true (Or.inr h1)]; rfl
    · rw [pn_t h1, decide_eq_false (fun q => q.elim h0 h1)]; rfl
theorem r_isPart {d : Nat} (hd : 1 ≤ d) (h : zm_H) (x : Int32) : zC d 127 [.int x] h = some (some (.int (b01 (decide (x = 0 ∨ x = 1)))), h) := by
  obtain ⟨d, rfl⟩ : ∃ e, d = e + 1 := ⟨d - 1, by omega⟩
  rw [e_X10_isPart]
  by_cases h0 : x = 0
  · rw [pn_t h0, decide_eq_true (Or.inl h0)]; rfl
  · rw [pn_f h0]
    by_cases h1 : x = 1
    · rw [pn_f (by simpa using h1), decide_eq_true (Or.inr h1)]; rfl
    · rw [pn_t h1, decide_eq_false (fun q => q.elim h0 h1)]; rfl
section PL
variable {I : Nat → Int32} {A : Nat → Nat → Int32} {J : Nat → Int32} {B : Nat → Nat → Int32} {L : Nat → Nat → Int64} {t : List zm_E} {s n z p r : Nat} {w l k o a v : Nat → Nat}
theorem c_hpl0 {d : Nat} (hd : 1 ≤ d) (hp : I 106 = nI p) {x : Int32} (h : x < 0 ∨ nI p ≤ x) : zC d 9 [.ref 1, .int x] (hC I A, t) = some (some (.int 0), (hC I A, t)) := by
  obtain ⟨d, rfl⟩ : ∃ e, d = e + 1 := ⟨d - 1, by omega⟩
  rw [e_X0_hasPlayer, hp]
  by_cases h1 : x < 0
  · rw [pn_t h1]
  · rw [pn_f h1, pn_t (h.resolve_left h1)]
theorem c_hpl1 {d j : Nat} (hd : 1 ≤ d) (hp : I 106 = nI p) (p4 : p ≤ 4) (hj : j < p) : zC d 9 [.ref 1, .int (nI j)] (hC I A, t) = some (some (.int 1), (hC I A, t)) := by
  obtain ⟨d, rfl⟩ : ∃ e, d = e + 1 := ⟨d - 1, by omega⟩
  rw [e_X0_hasPlayer, hp, pn_f (nI_pos (by omega)), pn_f (nI_ge hj (by omega)), pn_f (show ¬ (4 : Int32) ≤ nI j from nI_ge (b := 4) (by omega) (by decide))]
theorem r_ipl0 {d : Nat} (hd : 2 ≤ d) (hp : J 7 = nI p) (p4 : p ≤ 4) {x : Int32} (h : x < 0 ∨ nI p ≤ x) : zC d 182 [.ref 1000, .int x] (t, hM J B L) = some (some (.int 0), (t, hM J B L)) := by
  obtain ⟨d, rfl⟩ : ∃ e, d = e + 1 := ⟨d - 1, by omega⟩
  rw [e_X10_isPlayer, r_in (by omega), pn_c1, hp, i_in0 (by omega) h]
  rfl
theorem r_ipl1 {d j : Nat} (hd : 2 ≤ d) (hp : J 7 = nI p) (p4 : p ≤ 4) (hj : j < p) : zC d 182 [.ref 1000, .int (nI j)] (t, hM J B L) = some (some (.int 1), (t, hM J B L)) := by
  obtain ⟨d, rfl⟩ : ∃ e, d = e + 1 := ⟨d - 1, by omega⟩
  rw [e_X10_isPlayer, r_in (by omega), pn_c1, hp, i_in1 (by omega) hj]
  rfl
theorem c_pickA {d q u : Nat} (hd : 7 ≤ d) (hv : vB (s, (n, w), (z, l), (p, k, o), (r, a, v))) (hc : cB 1 I A (s, (n, w), (z, l), (p, k, o), (r, a, v))) (hq : q < p) (hu : okw s u = true) : zC d 13 [.ref 1, .int (nI q), .int (nI u)] (hC I A, t) = some (some (.int (nI (pck s (k q) (w (o q)) u))), (hC I A, t)) := by
  obtain ⟨d, rfl⟩ : ∃ e, d = e + 1 := ⟨d - 1, by omega⟩
  obtain ⟨v1, ⟨n6, vw⟩, v3, ⟨p4, vp⟩, v5⟩ := hv
  obtain ⟨c1, ⟨c2, cw⟩, c3, ⟨c4, cp⟩, c5⟩ := hc
  have c1 : I 100 = nI s := c1
  have c2 : I 102 = nI n := c2
  have c4 : I 106 = nI p := c4
  have ck : A 5 q = nI (k q) := (cp q hq).1
  have co : A 6 q = nI (o q) := (cp q hq).2
  have hk := (vp q hq).1
  have ho := (vp q hq).2
  have cwo : A 2 (o q) = nI (w (o q)) := cw _ ho
  have how := vw _ ho
  have hlt := okw_lt how
  have s3 : s ≤ 3 := by omega
  have s1 : 1 ≤ s := by omega
  have hu' := okw_lt hu
  have t1 := tn_ok s3 how
  have t1' := okw_lt t1.1
  have t2 := sh_ok s3 s1 t1.1
  have t2' := okw_lt t2.1
  rw [e_X0_pickAgainst, c_hpl1 (by omega) c4 p4 hq, pn_c1, F1, e_X0_pickAgainst_at5, d_n10, cond_true, pn_in (show q < 4 by omega) (by decide), cond_true, pn_cl (show q < 2 ^ 31 by omega), co, c_wa (by omega) c2 n6 ho, pn_c1, cwo, F2, e_X0_pickAgainst_at20, pn_in (show q < 4 by omega) (by decide), cond_true, pn_cl (show q < 2 ^ 31 by omega), ck, c1]
  unfold pck
  generalize k q = kd at hk ⊢
  have hk' : kd = 0 ∨ kd = 1 ∨ kd = 2 ∨ kd = 3 ∨ kd = 4 ∨ kd = 5 := by omega
  rcases hk' with rfl | rfl | rfl | rfl | rfl | rfl
  · rw [pn_f (by decide), pn_f (by decide), pn_f (by decide), pn_f (by decide), pn_f (by decide), if_pos rfl]
  · rw [pn_t (by decide), s_turned (by omega) _ hlt.1 hlt.2, pn_c1, if_neg (by decide), if_pos rfl]
  · rw [pn_f (by decide), pn_t (by decide), s_answering (by omega) _ hu'.1 hu'.2 (by omega), pn_c1, if_neg (by decide), if_neg (by decide), if_pos rfl]
  · rw [pn_f (by decide), pn_f (by decide), pn_t (by decide), s_turned (by omega) _ hlt.1 hlt.2, pn_c1, F3, e_X0_pickAgainst_at78, c1, s_shifted (by omega) _ t1.1 s3, pn_c1, if_neg (by decide), if_neg (by decide), if_neg (by decide), if_pos rfl]
  · rw [pn_f (by decide), pn_f (by decide), pn_f (by decide), pn_t (by decide), s_best (by omega) _ v1 hu, pn_c1, if_neg (by decide), if_neg (by decide), if_neg (by decide), if_neg (by decide), if_pos rfl]
  · rw [pn_f (by decide), pn_f (by decide), pn_f (by decide), pn_f (by decide), pn_t (by decide), s_turned (by omega) _ hlt.1 hlt.2, pn_c1, F3, e_X0_pickAgainst_at99, c1, s_shifted (by omega) _ t1.1 s3, pn_c1, s_doubled (by omega) _ t2'.1 t2'.2, pn_c1, if_neg (by decide), if_neg (by decide), if_neg (by decide), if_neg (by decide), if_neg (by decide)]
theorem c_firstP {d q : Nat} (hd : 8 ≤ d) (hv : vB (s, (n, w), (z, l), (p, k, o), (r, a, v))) (hc : cB 1 I A (s, (n, w), (z, l), (p, k, o), (r, a, v))) (hq : q < p) : zC d 12 [.ref 1, .int (nI q)] (hC I A, t) = some (some (.int (nI (pck s (k q) (w (o q)) (w (o q))))), (hC I A, t)) := by
  obtain ⟨d, rfl⟩ : ∃ e, d = e + 1 := ⟨d - 1, by omega⟩
  have c2 : I 102 = nI n := hc.2.1.1
  have c4 : I 106 = nI p := hc.2.2.2.1.1
  have p4 : p ≤ 4 := hv.2.2.2.1.1
  have n6 : n ≤ 6 := hv.2.1.1
  have co : A 6 q = nI (o q) := (hc.2.2.2.1.2 q hq).2
  have ho : o q < n := (hv.2.2.2.1.2 q hq).2
  have cwo : A 2 (o q) = nI (w (o q)) := hc.2.1.2 _ ho
  rw [e_X0_firstPick, c_hpl1 (by omega) c4 p4 hq, pn_c1, F1, e_X0_firstPick_at5, d_10, cond_false, pn_in (show q < 4 by omega) (by decide), cond_true, pn_cl (show q < 2 ^ 31 by omega), co, c_wa (by omega) c2 n6 ho, pn_c1, cwo, c_pickA (by omega) hv hc hq (hv.2.1.2 _ ho), pn_c1]
theorem r_picks {d q u : Nat} (hd : 7 ≤ d) (hv : vB (s, (n, w), (z, l), (p, k, o), (r, a, v))) (hm : mB J B (s, (n, w), (z, l), (p, k, o), (r, a, v))) (hq : q < p) (hu : okw s u = true) : zC d 186 [.ref 1000, .int (nI q), .int (nI u)] (t, hM J B L) = some (some (.int (nI (pck s (k q) (w (o q)) u))), (t, hM J B L)) := by
  obtain ⟨d, rfl⟩ : ∃ e, d = e + 1 := ⟨d - 1, by omega⟩
  obtain ⟨v1, ⟨n6, vw⟩, v3, ⟨p4, vp⟩, v5⟩ := hv
  obtain ⟨m1, ⟨m2, mw⟩, m3, ⟨m4, mp⟩, m5⟩ := hm
  have mk : B 3 q = nI (k q) := (mp q hq).1
  have mo : B 4 q = nI (o q) := (mp q hq).2
  have hk := (vp q hq).1
  have ho := (vp q hq).2
  have mwo : B 1 (o q) = nI (w (o q)) := mw _ ho
  have how := vw _ ho
  have hlt := okw_lt how
  have s3 : s ≤ 3 := by omega
  have s1 : 1 ≤ s := by omega
  have hu' := okw_lt hu
  have t1 := tn_ok s3 how
  have t1' := okw_lt t1.1
  have t2 := sh_ok s3 s1 t1.1
  have t2' := okw_lt t2.1
  have lu := wl_pos hu'.1
  have lu5 := wl_le u
  have e := e_X10_picks d J B L t (nI q) (nI u)
  simp only [pn_in (show q < 4 by omega) (show 4 < 2 ^ 31 by decide), cond_true, pn_cl (show q < 2 ^ 31 by omega), mk, mo, pn_in (show o q < 6 by omega) (show 6 < 2 ^ 31 by decide), pn_cl (show o q < 2 ^ 31 by omega), mwo] at e
  rw [e]
  clear e mk
  unfold pck
  generalize k q = kd at hk ⊢
  have hk' : kd = 0 ∨ kd = 1 ∨ kd = 2 ∨ kd = 3 ∨ kd = 4 ∨ kd = 5 := by omega
  rcases hk' with rfl | rfl | rfl | rfl | rfl | rfl
  · rw [pn_t (by decide), if_pos rfl]
  · rw [pn_f (by decide), pn_t (by decide), r_turned (by omega) _ hlt.2, pn_c1, if_neg (by decide), if_pos rfl]
  · rw [pn_f (by decide), pn_f (by decide), pn_t (by decide), r_sizeW (by omega) _ hu'.2, pn_c1, if_neg (by decide), if_neg (by decide), if_pos rfl, show (1 : Int32) = nI 1 from rfl, pn_le (by omega) (by decide)]
    unfold asw
    by_cases c : wl u ≤ 1
    · rw [pn_t c, if_pos c, show (0 : Int32) = nI 0 from rfl, r_letterOf (by omega) _ hu'.2 (by omega), pn_c1, r_on (by omega) t J B L m1 (ltr_ok hu (by omega)).2 (by omega), pn_c1, r_ahead (by omega) _ hu'.1 hu'.2, pn_c1]
    · rw [pn_f c, if_neg c, r_letterOf (by omega) _ hu'.2 (by omega), pn_c1, r_on (by omega) t J B L m1 (ltr_ok hu (by omega)).2 (by omega), pn_c1, r_ahead (by omega) _ hu'.1 hu'.2, pn_c1]
  · rw [pn_f (by decide), pn_f (by decide), pn_f (by decide), pn_t (by decide), r_turned (by omega) _ hlt.2, pn_c1, r_shifted (by omega) t J B L m1 t1.1 s3, pn_c1, if_neg (by decide), if_neg (by decide), if_neg (by decide), if_pos rfl]
  · rw [pn_f (by decide), pn_f (by decide), pn_f (by decide), pn_f (by decide), pn_t (by decide), r_best (by omega) t J B L m1 v1 hu, pn_c1, if_neg (by decide), if_neg (by decide), if_neg (by decide), if_neg (by decide), if_pos rfl]
  · rw [pn_f (by decide), pn_f (by decide), pn_f (by decide), pn_f (by decide), pn_f (by decide), r_turned (by omega) _ hlt.2, pn_c1, r_shifted (by omega) t J B L m1 t1.1 s3, pn_c1, show (0 : Int32) = nI 0 from rfl, r_letterOf (by omega) _ t2'.2 (wl_pos t2'.1), pn_c1, r_ahead (by omega) _ t2'.1 t2'.2, pn_c1, if_neg (by decide), if_neg (by decide), if_neg (by decide), if_neg (by decide), if_neg (by decide)]
theorem r_firstP {d q : Nat} (hd : 8 ≤ d) (hv : vB (s, (n, w), (z, l), (p, k, o), (r, a, v))) (hm : mB J B (s, (n, w), (z, l), (p, k, o), (r, a, v))) (hq : q < p) : zC d 187 [.ref 1000, .int (nI q)] (t, hM J B L) = some (some (.int (nI (pck s (k q) (w (o q)) (w (o q))))), (t, hM J B L)) := by
  obtain ⟨d, rfl⟩ : ∃ e, d = e + 1 := ⟨d - 1, by omega⟩
  have p4 : p ≤ 4 := hv.2.2.2.1.1
  have n6 : n ≤ 6 := hv.2.1.1
  have mo : B 4 q = nI (o q) := (hm.2.2.2.1.2 q hq).2
  have ho : o q < n := (hv.2.2.2.1.2 q hq).2
  have mwo : B 1 (o q) = nI (w (o q)) := hm.2.1.2 _ ho
  rw [e_X10_firstPick, pn_in (show q < 4 by omega) (by decide), cond_true, pn_cl (show q < 2 ^ 31 by omega), mo, pn_in (show o q < 6 by omega) (by decide), cond_true, pn_cl (show o q < 2 ^ 31 by omega), mwo, r_picks (by omega) hv hm hq (hv.2.1.2 _ ho), pn_c1]
def wns (s me x : Nat) (k ow : Nat → Nat) : Nat → Nat → Nat → Nat
  | 0, _, m => m
  | j + 1, i, m => wns s me x k ow j (i + 1) (if i = me then m else if bt s x (pck s (k i) (ow i) x) = true then m + 1 else m)
theorem c_winsL (d : Nat) (hd : 7 ≤ d) (hv : vB (s, (n, w), (z, l), (p, k, o), (r, a, v))) (hc : cB 1 I A (s, (n, w), (z, l), (p, k, o), (r, a, v))) {me x : Nat} (hme : me < p) (hx : okw s x = true) : ∀ (j i m f : Nat), i + j = p → 2 * j < f → zR d f 14 31 [some (.ref 1), some (.int (nI me)), some (.int (nI x)), some (.int (nI m)), some (.int (nI i))] [] (hC I A, t) = some (some (.int (nI (wns s me x k (fun i => w (o i)) j i m))), (hC I A, t)) := by
  have c1 : I 100 = nI s := hc.1
  have c4 : I 106 = nI p := hc.2.2.2.1.1
  have p4 : p ≤ 4 := hv.2.2.2.1.1
  have hx' := okw_lt hx
  intro j
  induction j with
  | zero =>
    intro i m f hi hf
    obtain ⟨f, rfl⟩ : ∃ e, f = e + 1 := ⟨f - 1, by omega⟩
    rw [e_X0_wins_at31, c4, pn_t (nI_le (by omega) (by omega))]
    rfl
  | succ j ih =>
    intro i m f hi hf
    obtain ⟨f, rfl⟩ : ∃ e, f = e + 1 + 1 := ⟨f - 2, by omega⟩
    rw [e_X0_wins_at31, c4, pn_f (nI_ge (by omega) (by omega)), pn_eq (by omega) (by omega), nI_1]
    simp only [wns]
    by_cases c : i = me
    · rw [pn_t c, if_pos c, ih (i + 1) m (f + 1) (by omega) (by omega)]
    · have ho : o i < n := (hv.2.2.2.1.2 i (by omega)).2
      have hp := pck_ok (kd := k i) hv.1 (hv.2.1.2 _ ho) hx
      have hp' := okw_lt hp
      rw [pn_f c, if_neg c, c_pickA hd hv hc (by omega) hx, pn_c1, e_X0_wins_at54, c1, s_beats (by omega) _ hx'.2 hp'.2, pn_c1, nI_1, nI_1]
      cases hb : bt s x (pck s (k i) (w (o i)) x) with
      | true => rw [b01_t, d_10, cond_false, if_pos rfl, ih (i + 1) (m + 1) f (by omega) (by omega)]
      | false => rw [b01_f, d_00, cond_true, if_neg (by decide), ih (i + 1) m f (by omega) (by omega)]
theorem c_wins {d q : Nat} (hd : 8 ≤ d) (hv : vB (s, (n, w), (z, l), (p, k, o), (r, a, v))) (hc : cB 1 I A (s, (n, w), (z, l), (p, k, o), (r, a, v))) (hq : q < p) : zC d 14 [.ref 1, .int (nI q)] (hC I A, t) = some (some (.int (nI (wns s q (pck s (k q) (w (o q)) (w (o q))) k (fun i => w (o i)) p 0 0))), (hC I A, t)) := by
  obtain ⟨d, rfl⟩ : ∃ e, d = e + 1 := ⟨d - 1, by omega⟩
  have c2 : I 102 = nI n := hc.2.1.1
  have c4 : I 106 = nI p := hc.2.2.2.1.1
  have p4 : p ≤ 4 := hv.2.2.2.1.1
  have n6 : n ≤ 6 := hv.2.1.1
  have co : A 6 q = nI (o q) := (hc.2.2.2.1.2 q hq).2
  have ho : o q < n := (hv.2.2.2.1.2 q hq).2
  have cwo : A 2 (o q) = nI (w (o q)) := hc.2.1.2 _ ho
  have how := hv.2.1.2 _ ho
  rw [e_X0_wins, c_hpl1 (by omega) c4 p4 hq, pn_c1, F1, e_X0_wins_at5, d_n10, cond_true, pn_in (show q < 4 by omega) (by decide), cond_true, pn_cl (show q < 2 ^ 31 by omega), co, c_wa (by omega) c2 n6 ho, pn_c1, cwo, c_pickA (by omega) hv hc hq how, pn_c1, show (0 : Int32) = nI 0 from rfl, c_winsL d (by omega) hv hc hq (pck_ok hv.1 how how) p 0 0 9999999 (by omega) (by omega)]
theorem r_winsL (d : Nat) (hd : 7 ≤ d) (hv : vB (s, (n, w), (z, l), (p, k, o), (r, a, v))) (hm : mB J B (s, (n, w), (z, l), (p, k, o), (r, a, v))) {me x : Nat} (hme : me < p) (hx : okw s x = true) : ∀ (j i m f : Nat), i + j = p → j < f → zR d f 188 11 [some (.ref 1000), some (.int (nI me)), some (.int (nI m)), some (.int (nI x)), some (.int (nI i))] [] (t, hM J B L) = some (some (.int (nI (wns s me x k (fun i => w (o i)) j i m))), (t, hM J B L)) := by
  have m1 : J 0 = nI s := hm.1
  have m4 : J 7 = nI p := hm.2.2.2.1.1
  have p4 : p ≤ 4 := hv.2.2.2.1.1
  have hx' := okw_lt hx
  intro j
  induction j with
  | zero =>
    intro i m f hi hf
    obtain ⟨f, rfl⟩ : ∃ e, f = e + 1 := ⟨f - 1, by omega⟩
    rw [e_X10_wins_at11, m4, pn_t (nI_le (by omega) (by omega))]
    rfl
  | succ j ih =>
    intro i m f hi hf
    obtain ⟨f, rfl⟩ : ∃ e, f = e + 1 := ⟨f - 1, by omega⟩
    rw [e_X10_wins_at11, m4, pn_f (nI_ge (by omega) (by omega)), pn_eq (by omega) (by omega), nI_1]
    simp only [wns]
    by_cases c : i = me
    · rw [pn_t c, if_pos c, ih (i + 1) m f (by omega) (by omega)]
    · have ho : o i < n := (hv.2.2.2.1.2 i (by omega)).2
      have hp := pck_ok (kd := k i) hv.1 (hv.2.1.2 _ ho) hx
      have hp' := okw_lt hp
      rw [pn_f c, if_neg c, r_picks hd hv hm (by omega) hx, pn_c1, r_beats (by omega) t J B L m1 hx'.1 hx'.2 hp'.1 hp'.2, pn_c1, nI_1]
      cases hb : bt s x (pck s (k i) (w (o i)) x) with
      | true => rw [b01_t, d_10, cond_false, if_pos rfl, ih (i + 1) (m + 1) f (by omega) (by omega)]
      | false => rw [b01_f, d_00, cond_true, if_neg (by decide), ih (i + 1) m f (by omega) (by omega)]
theorem r_wins {d q : Nat} (hd : 9 ≤ d) (hv : vB (s, (n, w), (z, l), (p, k, o), (r, a, v))) (hm : mB J B (s, (n, w), (z, l), (p, k, o), (r, a, v))) (hq : q < p) : zC d 188 [.ref 1000, .int (nI q)] (t, hM J B L) = some (some (.int (nI (wns s q (pck s (k q) (w (o q)) (w (o q))) k (fun i => w (o i)) p 0 0))), (t, hM J B L)) := by
  obtain ⟨d, rfl⟩ : ∃ e, d = e + 1 := ⟨d - 1, by omega⟩
  have ho : o q < n := (hv.2.2.2.1.2 q hq).2
  have how := hv.2.1.2 _ ho
  have p4 : p ≤ 4 := hv.2.2.2.1.1
  rw [e_X10_wins, r_firstP (by omega) hv hm hq, pn_c1, show (0 : Int32) = nI 0 from rfl, r_winsL d (by omega) hv hm hq (pck_ok hv.1 how how) p 0 0 10000000 (by omega) (by omega)]
def two (p : Nat) (x y : Int32) : Prop := ∃ i j, i < p ∧ j < p ∧ i ≠ j ∧ x = nI i ∧ y = nI j
theorem c_two0 {d : Nat} (hd : 2 ≤ d) (hp : I 106 = nI p) (p4 : p ≤ 4) {x y : Int32} (h : ¬ two p x y) : zC d 10 [.ref 1, .int x, .int y] (hC I A, t) = some (some (.int 0), (hC I A, t)) := by
  obtain ⟨d, rfl⟩ : ∃ e, d = e + 1 := ⟨d - 1, by omega⟩
  have nx : ∀ q : x < 0 ∨ nI p ≤ x, zC (d + 1) 10 [.ref 1, .int x, .int y] (hC I A, t) = some (some (.int 0), (hC I A, t)) := fun q => by
    rw [e_X0_areTwoPlayers, c_hpl0 (by omega) hp q, pn_c1, d_00, cond_true]
  rcases pk_ix x (n := p) (by omega) with q | q | ⟨i, hi, rfl⟩
  · exact nx (Or.inl q)
  · exact nx (Or.inr q)
  have ny : ∀ q : y < 0 ∨ nI p ≤ y, zC (d + 1) 10 [.ref 1, .int (nI i), .int y] (hC I A, t) = some (some (.int 0), (hC I A, t)) := fun q => by
    rw [e_X0_areTwoPlayers, c_hpl1 (by omega) hp p4 hi, pn_c1, d_10, cond_false, c_hpl0 (by omega) hp q, pn_c1, d_00, cond_true]
  rcases pk_ix y (n := p) (by omega) with q | q | ⟨j, hj, rfl⟩
  · exact ny (Or.inl q)
  · exact ny (Or.inr q)
  have e : i = j := by
    rcases Nat.decEq i j with q | q
    · exact absurd ⟨i, j, hi, hj, q, rfl, rfl⟩ h
    · exact q
  rw [e_X0_areTwoPlayers, c_hpl1 (by omega) hp p4 hi, pn_c1, d_10, cond_false, c_hpl1 (by omega) hp p4 hj, pn_c1, d_10, cond_false, pn_t (by rw [e])]
theorem c_two1 {d i j : Nat} (hd : 2 ≤ d) (hp : I 106 = nI p) (p4 : p ≤ 4) (hi : i < p) (hj : j < p) (h : i ≠ j) : zC d 10 [.ref 1, .int (nI i), .int (nI j)] (hC I A, t) = some (some (.int 1), (hC I A, t)) := by
  obtain ⟨d, rfl⟩ : ∃ e, d = e + 1 := ⟨d - 1, by omega⟩
  rw [e_X0_areTwoPlayers, c_hpl1 (by omega) hp p4 hi, pn_c1, d_10, cond_false, c_hpl1 (by omega) hp p4 hj, pn_c1, d_10, cond_false, pn_eq (by omega) (by omega), pn_f h]
theorem r_two0 {d : Nat} (hd : 3 ≤ d) (hp : J 7 = nI p) (p4 : p ≤ 4) {x y : Int32} (h : ¬ two p x y) : zC d 190 [.ref 1000, .int x, .int y] (t, hM J B L) = some (some (.int 0), (t, hM J B L)) := by
  obtain ⟨d, rfl⟩ : ∃ e, d = e + 1 := ⟨d - 1, by omega⟩
  have nx : ∀ q : x < 0 ∨ nI p ≤ x, zC (d + 1) 190 [.ref 1000, .int x, .int y] (t, hM J B L) = some (some (.int 0), (t, hM J B L)) := fun q => by
    rw [e_X10_areTwo, r_ipl0 (by omega) hp p4 q, pn_c1, d_00, cond_true]
  rcases pk_ix x (n := p) (by omega) with q | q | ⟨i, hi, rfl⟩
  · exact nx (Or.inl q)
  · exact nx (Or.inr q)
  have ny : ∀ q : y < 0 ∨ nI p ≤ y, zC (d + 1) 190 [.ref 1000, .int (nI i), .int y] (t, hM J B L) = some (some (.int 0), (t, hM J B L)) := fun q => by
    rw [e_X10_areTwo, r_ipl1 (by omega) hp p4 hi, pn_c1, d_10, cond_false, r_ipl0 (by omega) hp p4 q, pn_c1, d_00, cond_true]
  rcases pk_ix y (n := p) (by omega) with q | q | ⟨j, hj, rfl⟩
  · exact ny (Or.inl q)
  · exact ny (Or.inr q)
  have e : i = j := by
    rcases Nat.decEq i j with q | q
    · exact absurd ⟨i, j, hi, hj, q, rfl, rfl⟩ h
    · exact q
  rw [e_X10_areTwo, r_ipl1 (by omega) hp p4 hi, pn_c1, d_10, cond_false, r_ipl1 (by omega) hp p4 hj, pn_c1, d_10, cond_false, pn_t (by rw [e])]
theorem r_two1 {d i j : Nat} (hd : 3 ≤ d) (hp : J 7 = nI p) (p4 : p ≤ 4) (hi : i < p) (hj : j < p) (h : i ≠ j) : zC d 190 [.ref 1000, .int (nI i), .int (nI j)] (t, hM J B L) = some (some (.int 1), (t, hM J B L)) := by
  obtain ⟨d, rfl⟩ : ∃ e, d = e + 1 := ⟨d - 1, by omega⟩
  rw [e_X10_areTwo, r_ipl1 (by omega) hp p4 hi, pn_c1, d_10, cond_false, r_ipl1 (by omega) hp p4 hj, pn_c1, d_10, cond_false, pn_eq (by omega) (by omega), pn_f h]
end PL
