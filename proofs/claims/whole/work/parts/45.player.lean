/-! player, plan -/
section PY
variable {I : Nat → Int32} {A : Nat → Nat → Int32} {J : Nat → Int32} {B : Nat → Nat → Int32} {L : Nat → Nat → Int64} {t : List zm_E}
theorem P_player (h : Rel I A J B) (x y : Int32) : Ans 99 181 [.int x, .int y] I A J B L := by
  have hh := h
  obtain ⟨⟨⟨s, ⟨n, w⟩, ⟨z, l⟩, ⟨p, k, o⟩, ⟨r, a, v⟩⟩, hv, hc, hm⟩, hR⟩ := h
  obtain ⟨v1, ⟨n6, vw⟩, v3, ⟨p4, vp⟩, v5⟩ := id hv
  obtain ⟨c1, ⟨c2, cw⟩, c3, ⟨c4, cp⟩, c5⟩ := id hc
  obtain ⟨m1, ⟨m2, mw⟩, m3, ⟨m4, mp⟩, m5⟩ := id hm
  have c2 : I 102 = nI n := c2
  have c4 : I 106 = nI p := c4
  have e1 := fun t => e_X9_player 59 I A t x y
  have e2 := fun t => e_X10_player 59 J B L t x y
  simp only [r_in (show 1 ≤ 59 by omega), pn_c1] at e2
  rcases pk_ix x (n := 6) (by omega) with q | q | ⟨i, hi, rfl⟩
  · have g : decide (0 ≤ x ∧ x ≤ 5) = false := decide_eq_false (fun u => Int32.not_lt.mpr u.1 q)
    simp only [pn_t q] at e1
    simp only [g, b01_f, d_00, cond_true] at e2
    exact ⟨_, _, _, _, _, _, e1, e2, hh⟩
  · have g : decide (0 ≤ x ∧ x ≤ 5) = false := decide_eq_false (fun u => (nle_of (n := 5) (by omega) u.2) q)
    have q : (6 : Int32) ≤ x := q
    simp only [g, b01_f, d_00, cond_true] at e2
    by_cases q0 : x < 0
    · simp only [pn_t q0] at e1
      exact ⟨_, _, _, _, _, _, e1, e2, hh⟩
    · simp only [pn_f q0, pn_t q] at e1
      exact ⟨_, _, _, _, _, _, e1, e2, hh⟩
  have g : decide (0 ≤ nI i ∧ nI i ≤ 5) = true := decide_eq_true ⟨nI_pos' (by omega), nI_le (b := 5) (by omega) (by decide)⟩
  simp only [pn_f (nI_pos (show i < 2 ^ 31 by omega)), pn_f (show ¬ (6 : Int32) ≤ nI i from nI_ge (b := 6) hi (by decide))] at e1
  simp only [g, b01_t, d_10, cond_false] at e2
  have no : ∀ q : y < 0 ∨ nI n ≤ y, Ans 99 181 [.int (nI i), .int y] I A J B L := fun q => by
    simp only [c_hw0 (A := A) (show 1 ≤ 59 by omega) c2 q, pn_c1, F1, e_X9_player_at18, d_n00, cond_false] at e1
    simp only [r_iw0 (B := B) (L := L) (show 2 ≤ 59 by omega) m2 n6 q, pn_c1, F1, e_X10_player_at14, d_n00, cond_false] at e2
    exact ⟨_, _, _, _, _, _, e1, e2, hh⟩
  rcases pk_ix y (n := n) (by omega) with q | q | ⟨j, hj, rfl⟩
  · exact no (Or.inl q)
  · exact no (Or.inr q)
  simp only [c_hw1 (A := A) (show 1 ≤ 59 by omega) c2 n6 hj, pn_c1, F1, e_X9_player_at18, d_n10, cond_true, e_X0_addPlayer 58, c4] at e1
  simp only [r_iw1 (B := B) (L := L) (show 2 ≤ 59 by omega) m2 n6 hj, pn_c1, F1, e_X10_player_at14, d_n10, cond_true, m4] at e2
  by_cases hp : p = 4
  · subst hp
    simp only [pn_f (show ¬ nI 4 < (0 : Int32) by decide), pn_f (show ¬ nI 4 < (4 : Int32) by decide), pn_c1, F2, e_X9_player_at32, d_00, cond_true] at e1
    simp only [pn_f (show ¬ ¬ nI 4 = (4 : Int32) by decide)] at e2
    exact ⟨_, _, _, _, _, _, e1, e2, hh⟩
  · have hp' : p < 4 := by omega
    have n4 : ¬ nI p = (4 : Int32) := fun q => hp ((nI_eq (b := 4) (by omega) (by decide)).mp q)
    simp only [pn_f (nI_pos (show p < 2 ^ 31 by omega)), pn_t (show nI p < (4 : Int32) from nI_lt (b := 4) hp' (by decide)), pn_in hp' (show 4 < 2 ^ 31 by omega), cond_true, pn_cl (show p < 2 ^ 31 by omega), pn_c1, F2, e_X9_player_at32, d_10, cond_false, nI_1, upd_eq, nI_pred] at e1
    simp only [pn_t n4, pn_in hp' (show 4 < 2 ^ 31 by omega), cond_true, pn_cl (show p < 2 ^ 31 by omega), nI_1, upd_eq, nI_pred] at e2
    refine ⟨_, _, _, _, _, _, e1, e2, ⟨(s, (n, w), (z, l), (p + 1, fun u => if u = p then i else k u, fun u => if u = p then j else o u), (r, a, v)), ⟨v1, ⟨n6, vw⟩, v3, ⟨by omega, fun u hu => ?_⟩, v5⟩, ⟨c1, ⟨c2, cw⟩, c3, ⟨rfl, fun u hu => ?_⟩, c5⟩, ⟨m1, ⟨m2, mw⟩, m3, ⟨rfl, fun u hu => ?_⟩, m5⟩⟩, hR⟩
    · dsimp only
      by_cases e : u = p
      · rw [if_pos e, if_pos e]; exact ⟨by omega, hj⟩
      · rw [if_neg e, if_neg e]; exact vp u (by omega)
    · show upd (A 5) p (nI i) u = nI (if u = p then i else k u) ∧ upd (A 6) p (nI j) u = nI (if u = p then j else o u)
      by_cases e : u = p
      · subst e; rw [if_pos rfl, if_pos rfl, upd_eq, upd_eq]; exact ⟨rfl, rfl⟩
      · rw [if_neg e, if_neg e, upd_ne e, upd_ne e]; exact cp u (by omega)
    · show upd (B 3) p (nI i) u = nI (if u = p then i else k u) ∧ upd (B 4) p (nI j) u = nI (if u = p then j else o u)
      by_cases e : u = p
      · subst e; rw [if_pos rfl, if_pos rfl, upd_eq, upd_eq]; exact ⟨rfl, rfl⟩
      · rw [if_neg e, if_neg e, upd_ne e, upd_ne e]; exact mp u (by omega)
theorem P_plan (h : Rel I A J B) (x y : Int32) : Ans 105 196 [.int x, .int y] I A J B L := by
  have hh := h
  obtain ⟨⟨⟨s, ⟨n, w⟩, ⟨z, l⟩, ⟨p, k, o⟩, ⟨r, a, v⟩⟩, hv, hc, hm⟩, hR⟩ := h
  obtain ⟨v1, v2, v3, v4, ⟨r8, vr⟩⟩ := id hv
  obtain ⟨c1, c2, c3, c4, ⟨c5, cr⟩⟩ := id hc
  obtain ⟨m1, m2, m3, m4, ⟨m5, mr⟩⟩ := id hm
  have c5 : I 109 = nI r := c5
  have e1 := fun t => e_X9_plan 59 I A t x y
  have e2 := fun t => e_X10_plan 59 J B L t x y
  have q0 : (0 : Int32).toInt = 0 := rfl
  have qm : (-1 : Int32).toInt = -1 := rfl
  have q2 : (2 : Int32).toInt = 2 := rfl
  by_cases xm : x = -1
  · subst xm
    simp only [pn_f (show ¬ (-1 : Int32) < -1 by decide), pn_t (show (-1 : Int32) ≤ 2 by decide), pn_f (show ¬ ¬ (-1 : Int32) = -1 by decide)] at e1
    simp only [pn_f (show ¬ ¬ (-1 : Int32) = -1 by decide)] at e2
    exact ⟨_, _, _, _, _, _, e1, e2, ⟨(s, (n, w), (z, l), (p, k, o), (0, a, v)), ⟨v1, v2, v3, v4, ⟨by omega, fun u hu => by omega⟩⟩, ⟨c1, c2, c3, c4, ⟨rfl, fun u hu => by omega⟩⟩, ⟨m1, m2, m3, m4, ⟨rfl, fun u hu => by omega⟩⟩⟩, hR⟩
  simp only [pn_t xm, r_in (show 1 ≤ 59 by omega), pn_c1] at e2
  rcases pk_ix x (n := 3) (by omega) with q | q | ⟨i, hi, rfl⟩
  · have g : decide (0 ≤ x ∧ x ≤ 2) = false := decide_eq_false (fun u => Int32.not_lt.mpr u.1 q)
    have lt : x < -1 := by
      have g1 := Int32.lt_iff_toInt_lt.mp q
      apply Int32.lt_iff_toInt_lt.mpr
      have : x.toInt ≠ -1 := fun u => xm (Int32.toInt_inj.mp (by rw [u]; rfl))
      omega
    simp only [pn_t lt] at e1
    simp only [g, b01_f, d_n00, cond_false] at e2
    exact ⟨_, _, _, _, _, _, e1, e2, hh⟩
  · have g : decide (0 ≤ x ∧ x ≤ 2) = false := decide_eq_false (fun u => (nle_of (n := 2) (by omega) u.2) q)
    have g3 := Int32.le_iff_toInt_le.mp q
    rw [nI_toInt (by omega)] at g3
    have lt : ¬ x < -1 := fun u => by have := Int32.lt_iff_toInt_lt.mp u; omega
    have le : ¬ x ≤ 2 := fun u => by have := Int32.le_iff_toInt_le.mp u; omega
    simp only [pn_f lt, pn_f le] at e1
    simp only [g, b01_f, d_n00, cond_false] at e2
    exact ⟨_, _, _, _, _, _, e1, e2, hh⟩
  have ti := nI_toInt (n := i) (by omega)
  have lt : ¬ nI i < -1 := fun u => by have := Int32.lt_iff_toInt_lt.mp u; omega
  have le : nI i ≤ 2 := nI_le (b := 2) (by omega) (by decide)
  have g : decide (0 ≤ nI i ∧ nI i ≤ 2) = true := decide_eq_true ⟨nI_pos' (by omega), le⟩
  simp only [pn_f lt, pn_t le, pn_t xm] at e1
  simp only [g, b01_t, d_n10, cond_true] at e2
  obtain ⟨c, hmc, hc9, e2⟩ : ∃ c : Nat, (∀ t, zC 59 119 [.int (nI i)] (hC I A, t) = some (some (.int (nI c)), (hC I A, t))) ∧ c ≤ 9 ∧ ∀ t, zC 60 196 [.ref 1000, .int (nI i), .int y] (t, hM J B L) = zR 59 10000000 196 47 [some (.ref 1000), some (.int (nI i)), some (.int y)] [.int (b01 (decide (1 ≤ y ∧ y ≤ nI c)))] (t, hM J B L) := by
    have hcs : i = 0 ∨ i = 1 ∨ i = 2 := by omega
    rcases hcs with rfl | rfl | rfl
    · simp only [pn_f (show ¬ ¬ nI 0 = (0 : Int32) by decide)] at e2
      exact ⟨3, fun t => by rw [e_X9_mostOfRow]; rfl, by omega, e2⟩
    · simp only [pn_t (show ¬ nI 1 = (0 : Int32) by decide), pn_f (show ¬ ¬ nI 1 = (1 : Int32) by decide)] at e2
      exact ⟨9, fun t => by rw [e_X9_mostOfRow]; rfl, by omega, e2⟩
    · simp only [pn_t (show ¬ nI 2 = (0 : Int32) by decide), pn_t (show ¬ nI 2 = (1 : Int32) by decide)] at e2
      exact ⟨2, fun t => by rw [e_X9_mostOfRow]; rfl, by omega, e2⟩
  simp only [F1, e_X10_plan_at47] at e2
  by_cases y1 : y < 1
  · have g : decide (1 ≤ y ∧ y ≤ nI c) = false := decide_eq_false (fun u => Int32.not_lt.mpr u.1 y1)
    simp only [pn_t y1] at e1
    simp only [g, b01_f, d_n00, cond_false] at e2
    exact ⟨_, _, _, _, _, _, e1, e2, hh⟩
  simp only [pn_f y1, hmc, pn_c1, F1, e_X9_plan_at37] at e1
  by_cases yc : y ≤ nI c
  · have g : decide (1 ≤ y ∧ y ≤ nI c) = true := decide_eq_true ⟨Int32.not_lt.mp y1, yc⟩
    obtain ⟨j, hj, rfl⟩ := i_rng (n := c + 1) (lo := 1) (by omega) (by decide) y1 (nle_of (n := c) (by omega) yc)
    have hj1 : 1 ≤ j := by
      rcases Nat.eq_zero_or_pos j with q | q
      · rw [q] at y1; exact absurd (by decide) y1
      · exact q
    simp only [pn_t yc, e_X0_addRow 58, c5] at e1
    simp only [g, b01_t, d_n10, cond_true, m5] at e2
    by_cases hr : r = 8
    · subst hr
      simp only [pn_f (show ¬ nI 8 < (0 : Int32) by decide), pn_f (show ¬ nI 8 < (8 : Int32) by decide), pn_c1, F2, e_X9_plan_at52, d_00, cond_true] at e1
      simp only [pn_f (show ¬ ¬ nI 8 = (8 : Int32) by decide)] at e2
      exact ⟨_, _, _, _, _, _, e1, e2, hh⟩
    · have hr' : r < 8 := by omega
      have n8 : ¬ nI r = (8 : Int32) := fun q => hr ((nI_eq (b := 8) (by omega) (by decide)).mp q)
      simp only [pn_f (nI_pos (show r < 2 ^ 31 by omega)), pn_t (show nI r < (8 : Int32) from nI_lt (b := 8) hr' (by decide)), pn_in hr' (show 8 < 2 ^ 31 by omega), cond_true, pn_cl (show r < 2 ^ 31 by omega), pn_c1, F2, e_X9_plan_at52, d_10, cond_false, nI_1, upd_eq] at e1
      simp only [pn_t n8, pn_in hr' (show 8 < 2 ^ 31 by omega), cond_true, pn_cl (show r < 2 ^ 31 by omega), nI_1, upd_eq] at e2
      refine ⟨_, _, _, _, _, _, e1, e2, ⟨(s, (n, w), (z, l), (p, k, o), (r + 1, fun u => if u = r then i else a u, fun u => if u = r then j else v u)), ⟨v1, v2, v3, v4, ⟨by omega, fun u hu => ?_⟩⟩, ⟨c1, c2, c3, c4, ⟨rfl, fun u hu => ?_⟩⟩, ⟨m1, m2, m3, m4, ⟨rfl, fun u hu => ?_⟩⟩⟩, hR⟩
      · dsimp only
        by_cases e : u = r
        · rw [if_pos e, if_pos e]; omega
        · rw [if_neg e, if_neg e]; exact vr u (by omega)
      · show upd (A 7) r (nI i) u = nI (if u = r then i else a u) ∧ upd (A 8) r (nI j) u = nI (if u = r then j else v u)
        by_cases e : u = r
        · subst e; rw [if_pos rfl, if_pos rfl, upd_eq, upd_eq]; exact ⟨rfl, rfl⟩
        · rw [if_neg e, if_neg e, upd_ne e, upd_ne e]; exact cr u (by omega)
      · show upd (B 5) r (nI i) u = nI (if u = r then i else a u) ∧ upd (B 6) r (nI j) u = nI (if u = r then j else v u)
        by_cases e : u = r
        · subst e; rw [if_pos rfl, if_pos rfl, upd_eq, upd_eq]; exact ⟨rfl, rfl⟩
        · rw [if_neg e, if_neg e, upd_ne e, upd_ne e]; exact mr u (by omega)
  · have g : decide (1 ≤ y ∧ y ≤ nI c) = false := decide_eq_false (fun u => yc u.2)
    simp only [pn_f yc] at e1
    simp only [g, b01_f, d_n00, cond_false] at e2
    exact ⟨_, _, _, _, _, _, e1, e2, hh⟩
end PY
