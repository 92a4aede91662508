/-! matched; seen; were -/
def gr (l : Nat → Nat) : Nat → Nat → Nat → Nat
  | 0, _, T => T
  | j + 1, i, T => gr l j (i + 1) (T % 10000 * 10 + l i)
theorem gr_tl (l : Nat → Nat) : ∀ j i, gr l j i (tl l i) = tl l (i + j)
  | 0, i => rfl
  | j + 1, i => by
    have := gr_tl l j (i + 1)
    rw [show i + 1 + j = i + (j + 1) by omega] at this
    exact this
theorem gr_5 {l : Nat → Nat} {i T : Nat} (hl : ∀ q, i ≤ q → q < i + 5 → l q < 10) : gr l 5 i T = gr l 5 i 0 := by
  have h0 := hl i (by omega) (by omega)
  have h1 := hl (i + 1) (by omega) (by omega)
  have h2 := hl (i + 1 + 1) (by omega) (by omega)
  have h3 := hl (i + 1 + 1 + 1) (by omega) (by omega)
  have h4 := hl (i + 1 + 1 + 1 + 1) (by omega) (by omega)
  simp only [gr]
  omega
theorem gr_lt {l : Nat → Nat} {z : Nat} (hl : ∀ i, i < z → l i < 10) : ∀ j i T, i + j ≤ z → T < 100000 → gr l j i T < 100000
  | 0, _, _, _, h => h
  | j + 1, i, T, h1, h2 => by
    have := hl i (by omega)
    exact gr_lt hl j (i + 1) _ (by omega) (by omega)
/-- how many first letters are the last ones -/
def mt (l : Nat → Nat) (a z : Nat) : Nat → Nat
  | 0 => 0
  | k + 1 => if a / 10 ^ (wl a - (k + 1)) = tl l z % 10 ^ (k + 1) then k + 1 else mt l a z k
theorem mt_min {s : Nat} {l : Nat → Nat} {a z : Nat} (ha : okw s a = true) (hl : ∀ i, i < z → l i < 10) : ∀ j, z + j ≤ wl a → mt l a z (z + j) = mt l a z z
  | 0, _ => rfl
  | j + 1, h => by
    rw [show z + (j + 1) = z + j + 1 from rfl, mt, if_neg (fun q => by
      have := ((pre_iff ha (by omega) hl).mp q.symm).1
      omega), mt_min ha hl j (by omega)]
theorem i_m51 (u : Nat) : nI u - 5 + 1 = nI (u + 1) - 5 := by
  rw [Int32.sub_eq_add_neg, Int32.add_assoc, Int32.add_comm (-5) 1, ← Int32.add_assoc, ← Int32.sub_eq_add_neg, nI_1]
section SE
variable {I : Nat → Int32} {A : Nat → Nat → Int32} {J : Nat → Int32} {B : Nat → Nat → Int32} {L : Nat → Nat → Int64} {t : List zm_E} {l w : Nat → Nat} {n z a : Nat}
theorem c_letterAt0 {d : Nat} (hd : 2 ≤ d) (hz : I 301 = nI z) {x : Int32} (h : x < 0) : zC d 44 [.ref 3, .int x] (hC I A, t) = some (some (.int 0), (hC I A, t)) := by
  obtain ⟨d, rfl⟩ : ∃ e, d = e + 1 := ⟨d - 1, by omega⟩
  rw [e_X6_letterAt_3, c_hp0 (by omega) hz (Or.inl h), pn_c1, F1, e_X6_letterAt_3_at5, d_00, cond_true]
theorem c_mA (d : Nat) (hd : 2 ≤ d) (hz : I 301 = nI z) (z40 : z ≤ 40) (a : Int32) : ∀ (j u f : Nat), u + j = 5 → zR d (f + j) 50 9 [some (.ref 3), some (.int a), some (.int (nI 0)), some (.int (nI u - 5))] [] (hC I A, t) = zR d f 50 9 [some (.ref 3), some (.int a), some (.int (nI 0)), some (.int (nI 0))] [] (hC I A, t) := by
  intro j
  induction j with
  | zero =>
    intro u f hu
    have : u = 5 := by omega
    subst this
    rw [Nat.add_zero, show nI 5 - 5 = nI 0 by decide]
  | succ j ih =>
    intro u f hu
    have hu4 : u = 0 ∨ u = 1 ∨ u = 2 ∨ u = 3 ∨ u = 4 := by omega
    have hneg : nI u - 5 < 0 := by rcases hu4 with rfl | rfl | rfl | rfl | rfl <;> decide
    rw [show f + (j + 1) = (f + j) + 1 from rfl, e_X6_matched_3_at9, hz, pn_f (fun q => by
      have g1 := Int32.le_iff_toInt_le.mp q
      have g2 := Int32.lt_iff_toInt_lt.mp hneg
      rw [nI_toInt (by omega)] at g1
      have e0 : (0 : Int32).toInt = 0 := rfl
      omega), c_letterAt0 hd hz hneg, pn_c1, show (0 : Int32) = nI 0 from rfl, s_grown (by omega) _ (by decide), pn_c1, i_m51, show 0 % 10000 * 10 + 0 = 0 from rfl, ih (u + 1) f (by omega)]
theorem c_mB (d : Nat) (hd : 2 ≤ d) (hz : I 301 = nI z) (z40 : z ≤ 40) (hl : ∀ i, i < z → A 4 i = nI (l i) ∧ l i < 10) (a : Int32) : ∀ (j i f T : Nat), i + j = z → T < 100000 → zR d (f + j) 50 9 [some (.ref 3), some (.int a), some (.int (nI T)), some (.int (nI i))] [] (hC I A, t) = zR d f 50 9 [some (.ref 3), some (.int a), some (.int (nI (gr l j i T))), some (.int (nI z))] [] (hC I A, t) := by
  intro j
  induction j with
  | zero =>
    intro i f T hi hT
    have : i = z := by omega
    subst this
    rw [Nat.add_zero]
    rfl
  | succ j ih =>
    intro i f T hi hT
    have h1 := hl i (by omega)
    rw [show f + (j + 1) = (f + j) + 1 from rfl, e_X6_matched_3_at9, hz, pn_f (nI_ge (by omega) (by omega)), c_letterAt hd hz z40 (by omega), pn_c1, h1.1, s_grown (by omega) _ hT, pn_c1, nI_1, ih (i + 1) f _ (by omega) (by omega)]
    rfl
theorem c_matchL (d : Nat) (hd : 2 ≤ d) (ha : a < 100000) {T : Nat} (hT : T = tl l z) (hT5 : T < 100000) : ∀ (k f : Nat), k < f → k ≤ wl a → zR d f 50 38 [some (.ref 3), some (.int (nI a)), some (.int (nI T)), some (.int (nI k))] [] (hC I A, t) = some (some (.int (nI (mt l a z k))), (hC I A, t)) := by
  have l5 := wl_le a
  intro k
  induction k with
  | zero =>
    intro f hf hk
    obtain ⟨f, rfl⟩ : ∃ e, f = e + 1 := ⟨f - 1, by omega⟩
    rw [e_X6_matched_3_at38, pn_t (show nI 0 ≤ 0 by decide)]
    rfl
  | succ k ih =>
    intro f hf hk
    obtain ⟨f, rfl⟩ : ∃ e, f = e + 1 := ⟨f - 1, by omega⟩
    rw [e_X6_matched_3_at38, pn_f (nI_nle (by omega) (by omega)), s_firstLetters hd _ (by omega) hk, pn_c1, s_lastL hd _ (by omega) (by omega), pn_c1, pn_ne (Nat.lt_of_le_of_lt (Nat.div_le_self _ _) (by omega)) (Nat.lt_of_le_of_lt (Nat.mod_le _ _) (by omega)), mt, ← hT]
    by_cases c : a / 10 ^ (wl a - (k + 1)) = T % 10 ^ (k + 1)
    · rw [pn_f (by simpa using c), if_pos c]
    · rw [pn_t c, if_neg c, show nI (k + 1) + -1 = nI k from pk_m1 k, ih f (by omega) (by omega)]
theorem c_matched {d : Nat} (hd : 3 ≤ d) (hz : I 301 = nI z) (z40 : z ≤ 40) (hl : ∀ i, i < z → A 4 i = nI (l i) ∧ l i < 10) (ha : a < 100000) : zC d 50 [.ref 3, .int (nI a)] (hC I A, t) = some (some (.int (nI (mt l a z (wl a)))), (hC I A, t)) := by
  obtain ⟨d, rfl⟩ : ∃ e, d = e + 1 := ⟨d - 1, by omega⟩
  have l5 := wl_le a
  have hl' : ∀ i, i < z → l i < 10 := fun i hi => (hl i hi).2
  have hT := tl_lt hl' z (Nat.le_refl _)
  have key : ∀ f, 20 < f → zR d f 50 9 [some (.ref 3), some (.int (nI a)), some (.int (nI (tl l z))), some (.int (nI z))] [] (hC I A, t) = some (some (.int (nI (mt l a z (wl a)))), (hC I A, t)) := fun f hf => by
    obtain ⟨f, rfl⟩ : ∃ e, f = e + 1 := ⟨f - 1, by omega⟩
    rw [e_X6_matched_3_at9, hz, pn_t (nI_le (Nat.le_refl _) (by omega)), s_length (by omega) _ (by omega), pn_c1, c_matchL d (by omega) ha rfl hT (wl a) f (by omega) (Nat.le_refl _)]
  rw [e_X6_matched_3, hz, show (0 : Int32) = nI 0 from rfl]
  by_cases c : z < 5
  · have g : gr l z 0 0 = tl l z := by
      have := gr_tl l z 0
      rw [Nat.zero_add] at this
      exact this
    have h1 := c_mA (I := I) (A := A) (t := t) d (by omega) hz z40 (nI a) (5 - z) z (9999995 + z) (by omega)
    have h2 := c_mB (I := I) (A := A) (t := t) d (by omega) hz z40 hl (nI a) z 0 9999995 0 (by omega) (by omega)
    rw [show 9999995 + z + (5 - z) = 10000000 by omega] at h1
    rw [h1, h2, g, key _ (by omega)]
  · have g : gr l 5 (z - 5) 0 = tl l z := by
      have := gr_tl l 5 (z - 5)
      rw [gr_5 (fun q h1 h2 => hl' q (by omega)), show z - 5 + 5 = z by omega] at this
      exact this
    have h2 := c_mB (I := I) (A := A) (t := t) d (by omega) hz z40 hl (nI a) 5 (z - 5) 9999995 0 (by omega) (by omega)
    rw [show (5 : Int32) = nI 5 from rfl, pn_sub (by omega)]
    rw [show 9999995 + 5 = 10000000 from (Eq.refl _).trans (Eq.refl _)] at h2
    rw [h2, g, key _ (by omega)]
theorem r_mscan (d : Nat) (hd : 2 ≤ d) {k : Nat} (hz : J 4 = nI z) (z40 : z ≤ 40) (hl : ∀ i, i < z → B 2 i = nI (l i) ∧ l i < 10) (ha : a < 100000) (hk : k ≤ wl a) (hkz : k ≤ z) : ∀ (j i f : Nat) (b : Bool), i + j = k → zR d (f + j) 177 21 [some (.ref 1000), some (.int (nI a)), some (.int (nI k)), some (.int (b01 b)), some (.int (nI i))] [] (t, hM J B L) = zR d f 177 21 [some (.ref 1000), some (.int (nI a)), some (.int (nI k)), some (.int (b01 (b && !anyb (fun i => decide (¬ l (z - k + i) = ltr a i)) j i))), some (.int (nI k))] [] (t, hM J B L) := by
  have l5 := wl_le a
  intro j
  induction j with
  | zero =>
    intro i f b hi
    have : i = k := by omega
    subst this
    rw [Nat.add_zero]
    simp only [anyb, Bool.not_false, Bool.and_true]
  | succ j ih =>
    intro i f b hi
    have h1 := hl (z - k + i) (by omega)
    have h2 : ltr a i < 10 := Nat.mod_lt _ (by decide)
    rw [show f + (j + 1) = (f + j) + 1 from rfl, e_X10_matched_at21, pn_f (nI_ge (by omega) (by omega)), hz, pn_sub (by omega), nI_add, pn_in (show z - k + i < 40 by omega) (by decide), cond_true, r_letterOf hd _ ha (by omega), pn_c1, pn_cl (by omega), h1.1, pn_ne (by omega) (by omega), nI_1]
    simp only [anyb]
    by_cases c : l (z - k + i) = ltr a i
    · rw [pn_f (by simpa using c), if_neg (by simpa using c), show b01 b &&& 1 = b01 b by cases b <;> rfl, ih (i + 1) f b (by omega)]
    · rw [pn_t c, if_pos (by simpa using c), show b01 b &&& 0 = b01 false by cases b <;> rfl, ih (i + 1) f false (by omega)]
      rw [Bool.false_and, Bool.not_true, Bool.and_false]
theorem r_matchL (d : Nat) (hd : 2 ≤ d) {s : Nat} (hz : J 4 = nI z) (z40 : z ≤ 40) (hl : ∀ i, i < z → B 2 i = nI (l i) ∧ l i < 10) (ha : okw s a = true) : ∀ (k f : Nat) (o3 o4 : Option Value), k ≤ wl a → k ≤ z → 50 * k + 50 < f → zR d f 177 12 [some (.ref 1000), some (.int (nI a)), some (.int (nI k)), o3, o4] [] (t, hM J B L) = some (some (.int (nI (mt l a z k))), (t, hM J B L)) := by
  have l5 := wl_le a
  have hlt := okw_lt ha
  intro k
  induction k with
  | zero =>
    intro f o3 o4 hk hkz hf
    obtain ⟨f, rfl⟩ : ∃ e, f = e + 1 := ⟨f - 1, by omega⟩
    rw [e_X10_matched_at12, pn_t (show nI 0 ≤ 0 by decide)]
    rfl
  | succ k ih =>
    intro f o3 o4 hk hkz hf
    obtain ⟨f, rfl⟩ : ∃ e, f = ((e + 1) + (k + 1)) + 1 := ⟨f - k - 3, by omega⟩
    have h := r_mscan (J := J) (B := B) (L := L) (t := t) d hd hz z40 hl hlt.2 hk hkz (k + 1) 0 (f + 1) true (by omega)
    rw [e_X10_matched_at12, pn_f (nI_nle (by omega) (by omega))]
    have h' : zR d (f + 1 + (k + 1)) 177 21 [some (.ref 1000), some (.int (nI a)), some (.int (nI (k + 1))), some (.int 1), some (.int 0)] [] (t, hM J B L) = _ := h
    rw [h', e_X10_matched_at21, pn_t (nI_le (Nat.le_refl _) (by omega)), Bool.true_and, mt]
    have hp := pre_iff (l := l) (P := z) ha hk (fun i hi => (hl i hi).2)
    cases hb : anyb (fun i => decide (¬ l (z - (k + 1) + i) = ltr a i)) (k + 1) 0 with
    | true =>
      obtain ⟨i, g1, g2, g3⟩ := (anyb_iff _ _ _).mp hb
      have hne : ¬ a / 10 ^ (wl a - (k + 1)) = tl l z % 10 ^ (k + 1) := fun q => (of_decide_eq_true g3) ((hp.mp q.symm).2 i (by omega))
      rw [Bool.not_true, b01_f, d_00, cond_true, if_neg hne, show nI (k + 1) + -1 = nI k from pk_m1 k, ih f _ _ (by omega) (by omega) (by omega)]
    | false =>
      have heq : tl l z % 10 ^ (k + 1) = a / 10 ^ (wl a - (k + 1)) := hp.mpr ⟨hkz, fun i hi => by
        rcases Nat.decEq (l (z - (k + 1) + i)) (ltr a i) with u | u
        · exact absurd ((anyb_iff (fun i => decide (¬ l (z - (k + 1) + i) = ltr a i)) (k + 1) 0).mpr ⟨i, by omega, by omega, decide_eq_true u⟩) (by rw [hb]; decide)
        · exact u⟩
      rw [Bool.not_false, b01_t, d_10, cond_false, if_pos heq.symm]
theorem r_matched {d s : Nat} (hd : 3 ≤ d) (hz : J 4 = nI z) (z40 : z ≤ 40) (hl : ∀ i, i < z → B 2 i = nI (l i) ∧ l i < 10) (ha : okw s a = true) : zC d 177 [.ref 1000, .int (nI a)] (t, hM J B L) = some (some (.int (nI (mt l a z (wl a)))), (t, hM J B L)) := by
  obtain ⟨d, rfl⟩ : ∃ e, d = e + 1 := ⟨d - 1, by omega⟩
  have l5 := wl_le a
  have hlt := okw_lt ha
  rw [e_X10_matched, r_sizeW (by omega) _ hlt.2, pn_c1, F1, e_X10_matched_at4, hz]
  by_cases c : z < wl a
  · have := mt_min (l := l) (z := z) ha (fun i hi => (hl i hi).2) (wl a - z) (by omega)
    rw [if_pos (nI_lt c (by omega)), r_matchL d (by omega) hz z40 hl ha z _ _ _ (by omega) (by omega) (by omega), ← this, show z + (wl a - z) = wl a by omega]
  · rw [if_neg (nI_nlt (by omega) (by omega)), r_matchL d (by omega) hz z40 hl ha (wl a) _ _ _ (by omega) (by omega) (by omega)]
theorem r_ends {d s k : Nat} (hd : 4 ≤ d) (hn : J 2 = nI n) (n6 : n ≤ 6) (hk : k < n) (hz : J 4 = nI z) (z40 : z ≤ 40) (hl : ∀ i, i < z → B 2 i = nI (l i) ∧ l i < 10) (hb : B 1 k = nI a) (ho : okw s a = true) : zC d 175 [.ref 1000, .int (nI k)] (t, hM J B L) = some (some (.long (ebs l a z 0 0)), (t, hM J B L)) := by
  obtain ⟨d, rfl⟩ : ∃ e, d = e + 1 := ⟨d - 1, by omega⟩
  rw [e_X10_ends, r_iw1 (by omega) hn n6 hk, pn_c1, d_n10, cond_true]
  exact r_endBL d (by omega) hz z40 hl (by omega) hb ho z 0 10000000 0 (by omega) (by omega)
theorem P_seen (h : Rel I A J B) (x y : Int32) : Ans 96 178 [.int x, .int y] I A J B L := by
  have hh := h
  obtain ⟨⟨⟨s, ⟨n, w⟩, ⟨z, l⟩, ⟨p, k, o⟩, ⟨r, a, v⟩⟩, hv, hc, hm⟩, -⟩ := h
  have s3 : s ≤ 3 := by have := hv.1; omega
  have c2 : I 102 = nI n := hc.2.1.1
  have m2 : J 2 = nI n := hm.2.1.1
  have c3 : I 301 = nI z := hc.2.2.1.1
  have m3 : J 4 = nI z := hm.2.2.1.1
  have n6 : n ≤ 6 := hv.2.1.1
  have z40 : z ≤ 40 := hv.2.2.1.1
  have lc : ∀ i, i < z → A 4 i = nI (l i) ∧ l i < 10 := fun i hi => ⟨hc.2.2.1.2 i hi, by have := hv.2.2.1.2 i hi; omega⟩
  have lm : ∀ i, i < z → B 2 i = nI (l i) ∧ l i < 10 := fun i hi => ⟨hm.2.2.1.2 i hi, by have := hv.2.2.1.2 i hi; omega⟩
  have e1 := fun t => e_X9_seen 59 I A t x y
  have e2 := fun t => e_X10_seen 59 J B L t x y
  have no : ∀ q : x < 0 ∨ nI n ≤ x, Ans 96 178 [.int x, .int y] I A J B L := fun q => by
    simp only [c_hw0 (A := A) (show 1 ≤ 59 by omega) c2 q, pn_c1, F1, e_X9_seen_at8, d_n00, cond_false] at e1
    simp only [r_iw0 (B := B) (L := L) (show 2 ≤ 59 by omega) m2 n6 q, pn_c1, d_00, cond_true] at e2
    exact ⟨_, _, _, _, _, _, e1, e2, hh⟩
  rcases pk_ix x (n := n) (by omega) with q | q | ⟨i, hi, rfl⟩
  · exact no (Or.inl q)
  · exact no (Or.inr q)
  have hw := hv.2.1.2 i hi
  have wi := okw_lt hw
  have a1 : A 2 i = nI (w i) := hc.2.1.2 i hi
  have b1 : B 1 i = nI (w i) := hm.2.1.2 i hi
  simp only [c_hw1 (A := A) (show 1 ≤ 59 by omega) c2 n6 hi, pn_c1, F1, e_X9_seen_at8, d_n10, cond_true, c_wa (A := A) (show 2 ≤ 59 by omega) c2 n6 hi, a1, F2, e_X9_seen_at21] at e1
  simp only [r_iw1 (B := B) (L := L) (show 2 ≤ 59 by omega) m2 n6 hi, pn_c1, d_10, cond_false, r_in (show 1 ≤ 59 by omega), F1, e_X10_seen_at14] at e2
  by_cases g : ∃ j, j ≤ 2 ∧ y = nI j
  · have g' : decide (0 ≤ y ∧ y ≤ 2) = true := (i_02 (n := 2) (by omega)).mpr g
    simp only [g', b01_t, d_n10, cond_true] at e2
    obtain ⟨j, hj, rfl⟩ := g
    have hj' : j = 0 ∨ j = 1 ∨ j = 2 := by omega
    rcases hj' with rfl | rfl | rfl
    · simp only [pn_t (show Int32.toInt (nI 0) = 0 by decide), c_first_3 (show 4 ≤ 59 by omega) c3 z40 lc wi.1 wi.2, pn_c1] at e1
      simp only [pn_f (show ¬ ¬ nI 0 = 0 by decide), r_firstOf (show 4 ≤ 59 by omega) m3 z40 lm (show i < 6 by omega) b1 hw, pn_c1] at e2
      exact ⟨_, _, _, _, _, _, e1, e2, hh⟩
    · obtain ⟨bc, hbc⟩ : ∃ v, ∀ h, zC 59 209 [.long (ebs l (w i) z 0 0)] h = some (some (.int v), h) := ⟨_, fun h => e_J13_bitCount_95d88 58 h _⟩
      simp only [pn_f (show ¬ Int32.toInt (nI 1) = 0 by decide), pn_t (show Int32.toInt (nI 1) = 1 by decide), c_endB (show 4 ≤ 59 by omega) c3 z40 lc wi.1 wi.2, pn_c2, hbc, pn_c1] at e1
      simp only [pn_t (show ¬ nI 1 = 0 by decide), pn_f (show ¬ ¬ nI 1 = 1 by decide), r_ends (show 4 ≤ 59 by omega) m2 n6 hi m3 z40 lm b1 hw, pn_c2, hbc, pn_c1] at e2
      exact ⟨_, _, _, _, _, _, e1, e2, hh⟩
    · simp only [pn_f (show ¬ Int32.toInt (nI 2) = 0 by decide), pn_f (show ¬ Int32.toInt (nI 2) = 1 by decide), pn_t (show Int32.toInt (nI 2) = 2 by decide), c_matched (show 3 ≤ 59 by omega) c3 z40 lc wi.2, pn_c1] at e1
      simp only [pn_t (show ¬ nI 2 = 0 by decide), pn_t (show ¬ nI 2 = 1 by decide), pn_in (show i < 6 by omega) (show 6 < 2 ^ 31 by omega), cond_true, pn_cl (show i < 2 ^ 31 by omega), b1, r_matched (show 3 ≤ 59 by omega) m3 z40 lm hw, pn_c1] at e2
      exact ⟨_, _, _, _, _, _, e1, e2, hh⟩
  · have g' : decide (0 ≤ y ∧ y ≤ 2) = false := Bool.eq_false_iff.mpr (fun q => g ((i_02 (n := 2) (by omega)).mp q))
    have y0 : ¬ y.toInt = 0 := fun q => g ⟨0, by omega, i_ofT (by omega) q⟩
    have y1 : ¬ y.toInt = 1 := fun q => g ⟨1, by omega, i_ofT (by omega) q⟩
    have y2 : ¬ y.toInt = 2 := fun q => g ⟨2, by omega, i_ofT (by omega) q⟩
    simp only [pn_f y0, pn_f y1, pn_f y2] at e1
    simp only [g', b01_f, d_n00, cond_false] at e2
    exact ⟨_, _, _, _, _, _, e1, e2, hh⟩
/-! were -/
def wrb (l : Nat → Nat) (z : Nat) (w : Nat → Nat) (n P wd : Nat) : Nat → Nat → Int32 → Int32
  | 0, _, x => x
  | j + 1, c, x => wrb l z w n P wd j (c + 1) (if oI (whf (fun i => if i = P then c else l i) z w n 0 none 40 0) = nI wd then x ||| ((1 : Int32) <<< ((nI c - 1) &&& 31)) else x)
theorem c_wereL (d : Nat) (hd : 5 ≤ d) {s P wd : Nat} (hs : s ≤ 3) (c1 : I 100 = nI s) (hn : I 102 = nI n) (n6 : n ≤ 6) (hz : I 2701 = nI z) (z40 : z ≤ 40) (hP : P < z) : ∀ (j c f : Nat) (A : Nat → Nat → Int32) (x : Int32), c + j = s + 1 → j < f → (∀ i, i < n → A 2 i = nI (w i) ∧ okw s (w i) = true) → (∀ i, i < z → i ≠ P → A 28 i = nI (l i) ∧ l i < 10) → ∃ A', (∀ t, zR d f 98 46 [some (.ref 0), some (.int (nI P)), some (.int (nI wd)), some (.int x), some (.int (nI c))] [] (hC I A, t) = some (some (.int (wrb l z w n P wd j c x)), (hC I A', t))) ∧ ∀ c, c ≠ 28 → A' c = A c := by
  intro j
  induction j with
  | zero =>
    intro c f A x hc hf hw hl
    obtain ⟨f, rfl⟩ : ∃ e, f = e + 1 := ⟨f - 1, by omega⟩
    refine ⟨A, fun t => ?_, fun c _ => rfl⟩
    rw [e_X9_were_at46, c1, pn_t (nI_lt (by omega) (by omega))]
    rfl
  | succ j ih =>
    intro c f A x hc hf hw hl
    obtain ⟨f, rfl⟩ : ∃ e, f = e + 1 := ⟨f - 1, by omega⟩
    have hl' : ∀ i, i < z → va_up A 28 (upd (A 28) P (nI c)) 28 i = nI ((fun i => if i = P then c else l i) i) ∧ (fun i => if i = P then c else l i) i < 10 := fun i hi => by
      rw [vu_eq]
      dsimp only
      by_cases e : i = P
      · subst e; rw [upd_eq, if_pos rfl]; exact ⟨rfl, by omega⟩
      · rw [upd_ne e, if_neg e]; exact hl i hi e
    obtain ⟨A', b1, b2⟩ := ih (c + 1) f (va_up A 28 (upd (A 28) P (nI c))) (if oI (whf (fun i => if i = P then c else l i) z w n 0 none 40 0) = nI wd then x ||| ((1 : Int32) <<< ((nI c - 1) &&& 31)) else x) (by omega) (by omega) (fun i hi => by rw [vu_ne (by decide)]; exact hw i hi) (fun i hi e => by rw [vu_eq, upd_ne e]; exact hl i hi e)
    refine ⟨A', fun t => ?_, fun c hc => by rw [b2 c hc, vu_ne hc]⟩
    rw [e_X9_were_at46, c1, pn_f (nI_nlt (by omega) (by omega)), pn_in (show P < 40 by omega) (by decide), cond_true, pn_cl (by omega), c_who_27 hd hn n6 (fun i hi => by rw [vu_ne (by decide)]; exact hw i hi) hz z40 hl', pn_c1, nI_1]
    simp only [wrb]
    by_cases e : oI (whf (fun i => if i = P then c else l i) z w n 0 none 40 0) = nI wd
    · rw [if_pos e] at b1
      rw [pn_f (by simpa using e), if_pos e]
      exact b1 t
    · rw [if_neg e] at b1
      rw [pn_t e, if_neg e]
      exact b1 t
theorem r_wereL (d : Nat) (hd : 5 ≤ d) {s P wd : Nat} {x3 : Int32} (hs : s ≤ 3) (c1 : J 0 = nI s) (hn : J 2 = nI n) (n6 : n ≤ 6) (hz : J 4 = nI z) (z40 : z ≤ 40) (hP : P < z) : ∀ (j c f : Nat) (B : Nat → Nat → Int32) (x : Int32), c + j = s + 1 → j < f → (∀ i, i < n → B 1 i = nI (w i) ∧ okw s (w i) = true) → (∀ i, i < z → i ≠ P → B 2 i = nI (l i) ∧ l i < 10) → ∃ B', (∀ t, zR d f 180 37 [some (.ref 1000), some (.int (nI P)), some (.int (nI wd)), some (.int x3), some (.int x), some (.int (nI c))] [] (t, hM J B L) = some (some (.int (wrb l z w n P wd j c x)), (t, hM J B' L))) ∧ (∀ c, c ≠ 2 → B' c = B c) ∧ ∀ i, B' 2 i = upd (B 2) P x3 i := by
  intro j
  induction j with
  | zero =>
    intro c f B x hc hf hw hl
    obtain ⟨f, rfl⟩ : ∃ e, f = e + 1 := ⟨f - 1, by omega⟩
    refine ⟨va_up B 2 (upd (B 2) P x3), fun t => ?_, fun c hc => vu_ne hc, fun i => by rw [vu_eq]⟩
    rw [e_X10_were_at37, c1, pn_t (nI_lt (by omega) (by omega)), pn_in (show P < 40 by omega) (by decide), cond_true, pn_cl (by omega)]
    rfl
  | succ j ih =>
    intro c f B x hc hf hw hl
    obtain ⟨f, rfl⟩ : ∃ e, f = e + 1 := ⟨f - 1, by omega⟩
    have hl' : ∀ i, i < z → va_up B 2 (upd (B 2) P (nI c)) 2 i = nI ((fun i => if i = P then c else l i) i) ∧ (fun i => if i = P then c else l i) i < 10 := fun i hi => by
      rw [vu_eq]
      dsimp only
      by_cases e : i = P
      · subst e; rw [upd_eq, if_pos rfl]; exact ⟨rfl, by omega⟩
      · rw [upd_ne e, if_neg e]; exact hl i hi e
    obtain ⟨B', b1, b2, b3⟩ := ih (c + 1) f (va_up B 2 (upd (B 2) P (nI c))) (if oI (whf (fun i => if i = P then c else l i) z w n 0 none 40 0) = nI wd then x ||| ((1 : Int32) <<< ((nI c - 1) &&& 31)) else x) (by omega) (by omega) (fun i hi => by rw [vu_ne (by decide)]; exact hw i hi) (fun i hi e => by rw [vu_eq, upd_ne e]; exact hl i hi e)
    refine ⟨B', fun t => ?_, fun c hc => by rw [b2 c hc, vu_ne hc], fun i => by
      rw [b3 i, vu_eq]
      by_cases e : i = P
      · subst e; rw [upd_eq, upd_eq]
      · rw [upd_ne e, upd_ne e, upd_ne e]⟩
    rw [e_X10_were_at37, c1, pn_f (nI_nlt (by omega) (by omega)), pn_in (show P < 40 by omega) (by decide), cond_true, pn_cl (by omega), r_who hd hn n6 (fun i hi => by rw [vu_ne (by decide)]; exact hw i hi) hz z40 hl', pn_c1, nI_1]
    simp only [wrb]
    by_cases e : oI (whf (fun i => if i = P then c else l i) z w n 0 none 40 0) = nI wd
    · rw [if_pos e] at b1
      rw [pn_f (by simpa using e), if_pos e]
      exact b1 t
    · rw [if_neg e] at b1
      rw [pn_t e, if_neg e]
      exact b1 t
theorem P_were (h : Rel I A J B) (x y : Int32) : Ans 98 180 [.int x, .int y] I A J B L := by
  have hh := h
  obtain ⟨⟨⟨s, ⟨n, w⟩, ⟨z, l⟩, ⟨p, k, o⟩, ⟨r, a, v⟩⟩, hv, hc, hm⟩, -⟩ := h
  have s3 : s ≤ 3 := by have := hv.1; omega
  have c1 : I 100 = nI s := hc.1
  have m1 : J 0 = nI s := hm.1
  have c2 : I 102 = nI n := hc.2.1.1
  have m2 : J 2 = nI n := hm.2.1.1
  have c3 : I 301 = nI z := hc.2.2.1.1
  have m3 : J 4 = nI z := hm.2.2.1.1
  have n6 : n ≤ 6 := hv.2.1.1
  have z40 : z ≤ 40 := hv.2.2.1.1
  have lc : ∀ i, i < z → A 4 i = nI (l i) ∧ l i < 10 := fun i hi => ⟨hc.2.2.1.2 i hi, by have := hv.2.2.1.2 i hi; omega⟩
  have lm : ∀ i, i < z → B 2 i = nI (l i) ∧ l i < 10 := fun i hi => ⟨hm.2.2.1.2 i hi, by have := hv.2.2.1.2 i hi; omega⟩
  have wc : ∀ i, i < n → A 2 i = nI (w i) ∧ okw s (w i) = true := fun i hi => ⟨hc.2.1.2 i hi, hv.2.1.2 i hi⟩
  have wm : ∀ i, i < n → B 1 i = nI (w i) ∧ okw s (w i) = true := fun i hi => ⟨hm.2.1.2 i hi, hv.2.1.2 i hi⟩
  have e1 := fun t => e_X9_were 59 I A t x y
  have e2 := fun t => e_X10_were 59 J B L t x y
  simp only [r_in (show 1 ≤ 59 by omega), pn_c1, m3] at e2
  have no : ∀ q : x < 0 ∨ nI z ≤ x, Ans 98 180 [.int x, .int y] I A J B L := fun q => by
    simp only [c_hp0 (A := A) (show 1 ≤ 59 by omega) c3 q, pn_c1, F1, e_X9_were_at11, d_00, cond_true] at e1
    simp only [i_in0 (show z < 2 ^ 30 by omega) q, b01_f, d_00, cond_true] at e2
    exact ⟨_, _, _, _, _, _, e1, e2, hh⟩
  rcases pk_ix x (n := z) (by omega) with q | q | ⟨P, hP, rfl⟩
  · exact no (Or.inl q)
  · exact no (Or.inr q)
  simp only [c_hp1 (A := A) (show 1 ≤ 59 by omega) c3 z40 hP, pn_c1, F1, e_X9_were_at11, d_10, cond_false] at e1
  simp only [i_in1 (show z < 2 ^ 30 by omega) hP, b01_t, d_10, cond_false] at e2
  have no2 : ∀ q : y < 0 ∨ nI n ≤ y, Ans 98 180 [.int (nI P), .int y] I A J B L := fun q => by
    simp only [c_hw0 (A := A) (show 1 ≤ 59 by omega) c2 q, pn_c1, F2, e_X9_were_at22, d_n00, cond_false] at e1
    simp only [r_iw0 (B := B) (L := L) (show 2 ≤ 59 by omega) m2 n6 q, pn_c1, F1, e_X10_were_at19, d_n00, cond_false] at e2
    exact ⟨_, _, _, _, _, _, e1, e2, hh⟩
  rcases pk_ix y (n := n) (by omega) with q | q | ⟨i, hi, rfl⟩
  · exact no2 (Or.inl q)
  · exact no2 (Or.inr q)
  simp only [c_hw1 (A := A) (show 1 ≤ 59 by omega) c2 n6 hi, pn_c1, F2, e_X9_were_at22, d_n10, cond_true, e_X6_copyFrom_27_3 58, pn_c0] at e1
  simp only [r_iw1 (B := B) (L := L) (show 2 ≤ 59 by omega) m2 n6 hi, pn_c1, F1, e_X10_were_at19, d_n10, cond_true, pn_in (show P < 40 by omega) (show 40 < 2 ^ 31 by omega), pn_cl (show P < 2 ^ 31 by omega)] at e2
  obtain ⟨A', a1, a2⟩ := c_wereL (I := upd I 2701 (I 301)) (l := l) (w := w) (P := P) (wd := i) 59 (by omega) s3 ((upd_ne (by decide)).trans c1) ((upd_ne (by decide)).trans c2) n6 (upd_eq.trans c3) z40 hP s 1 9999998 (va_up A 28 (va_cpy (A 4) (A 28) 0 0 40)) 0 (by omega) (by omega) (fun i hi => by rw [vu_ne (by decide)]; exact wc i hi) (fun i hi _ => by rw [vu_eq, cpy_in (by omega)]; exact lc i hi)
  obtain ⟨B', b1, b2, b3⟩ := r_wereL (J := J) (L := L) (l := l) (w := w) (P := P) (wd := i) (x3 := B 2 P) 59 (by omega) s3 m1 m2 n6 m3 z40 hP s 1 9999999 B 0 (by omega) (by omega) wm (fun i hi _ => lm i hi)
  have a1' : ∀ t, zR 59 9999998 98 46 [some (.ref 0), some (.int (nI P)), some (.int (nI i)), some (.int 0), some (.int 1)] [] (hC (upd I 2701 (I 301)) (va_up A 28 (va_cpy (A 4) (A 28) 0 0 40)), t) = some (some (.int (wrb l z w n P i s 1 0)), (hC (upd I 2701 (I 301)) A', t)) := a1
  have b1' : ∀ t, zR 59 9999999 180 37 [some (.ref 1000), some (.int (nI P)), some (.int (nI i)), some (.int (B 2 P)), some (.int 0), some (.int 1)] [] (t, hM J B L) = some (some (.int (wrb l z w n P i s 1 0)), (t, hM J B' L)) := b1
  simp only [a1'] at e1
  simp only [b1'] at e2
  refine ⟨_, _, _, _, _, _, e1, e2, Rel_fr hh (fun c hc => upd_ne (by omega)) (fun c hc _ => (a2 c (by omega)).trans (vu_ne (by omega))) (fun c _ => rfl) (fun c hc => ?_)⟩
  by_cases e : c = 2
  · subst e
    funext q
    rw [b3 q]
    by_cases e : q = P
    · subst e; rw [upd_eq]
    · rw [upd_ne e]
  · exact b2 c e
end SE
