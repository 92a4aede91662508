/-! feed, cast, strip, player, plan -/
theorem t_t {p : Prop} [Decidable p] (h : p) : decide p = true := decide_eq_true h
theorem b01_t : b01 true = 1 := rfl
theorem b01_f : b01 false = 0 := rfl
theorem d_10 : decide ((1 : Int32) = 0) = false := rfl
theorem d_00 : decide ((0 : Int32) = 0) = true := rfl
theorem d_n10 : decide (¬ (1 : Int32) = 0) = true := rfl
theorem d_n00 : decide (¬ (0 : Int32) = 0) = false := rfl
section LY
variable {I : Nat → Int32} {A : Nat → Nat → Int32} {J : Nat → Int32} {B : Nat → Nat → Int32} {L : Nat → Nat → Int64} {t : List zm_E}
theorem i_rng {x lo : Int32} {n : Nat} (hn : n < 2 ^ 31) (h0 : 0 ≤ lo) (h1 : ¬ x < lo) (h2 : ¬ nI n ≤ x) : ∃ j, j < n ∧ x = nI j := by
  apply i_nneg hn _ h2
  intro q
  apply h1
  have g1 := Int32.lt_iff_toInt_lt.mp q
  have g2 := Int32.le_iff_toInt_le.mp h0
  have e0 : (0 : Int32).toInt = 0 := rfl
  apply Int32.lt_iff_toInt_lt.mpr
  omega
theorem nle_of {x : Int32} {n : Nat} (hn : n < 2 ^ 30) (h : x ≤ nI n) : ¬ nI (n + 1) ≤ x := by
  intro q
  have g1 := Int32.le_iff_toInt_le.mp h
  have g2 := Int32.le_iff_toInt_le.mp q
  rw [nI_toInt (by omega)] at g1 g2
  omega
theorem P_feed (h : Rel I A J B) (x : Int32) : Ans 77 145 [.int x] I A J B L := by
  have hh := h
  obtain ⟨hB, hI, ⟨z, c, t1, t2, t3, t4⟩, hP, hL⟩ := h
  have e1 := fun t => e_X9_feed 59 I A t x
  have e2 := fun t => e_X10_feed 59 J B L t x
  simp only [r_in (show 1 ≤ 59 by omega), pn_c1, F1, e_X10_feed_at7] at e2
  by_cases h1 : x < 1
  · have g : decide (1 ≤ x ∧ x ≤ 127) = false := decide_eq_false (fun q => Int32.not_lt.mpr q.1 h1)
    simp only [pn_t h1] at e1
    simp only [g, b01_f, d_n00, cond_false] at e2
    exact ⟨_, _, _, _, _, _, e1, e2, hh⟩
  by_cases h2 : x ≤ 127
  · have g : decide (1 ≤ x ∧ x ≤ 127) = true := decide_eq_true ⟨Int32.not_lt.mp h1, h2⟩
    obtain ⟨k, hk, rfl⟩ := i_rng (n := 128) (lo := 1) (by omega) (by decide) h1 (nle_of (n := 127) (by omega) h2)
    have hk1 : 1 ≤ k := by
      rcases Nat.eq_zero_or_pos k with q | q
      · rw [q] at h1; exact absurd (by decide) h1
      · exact q
    simp only [pn_f h1, pn_t h2] at e1
    simp only [g, b01_t, d_n10, cond_true, t3] at e2
    by_cases hz : z = 60
    · subst hz
      simp only [pn_f (show ¬ ¬ nI 60 = (60 : Int32) by decide)] at e2
      have e3 : ∀ t, zC 59 51 [.ref 17, .int (nI k)] (hC I A, t) = some (some (.int 0), (hC I A, t)) := fun t => by
        rw [e_X7_append, t2, pn_f (by decide), pn_f (by decide)]
      simp only [e3, pn_c1, F1, e_X9_feed_at22, d_00, cond_true] at e1
      exact ⟨_, _, _, _, _, _, e1, e2, hh⟩
    · have hz' : z < 60 := by omega
      have e3 : ∀ t, zC 59 51 [.ref 17, .int (nI k)] (hC I A, t) = some (some (.int 1), (hC (upd I 1701 (nI (z + 1))) (va_up A 18 (upd (A 18) z (nI k))), t)) := fun t => by
        rw [e_X7_append, t2, pn_f (nI_pos (by omega)), pn_t (show nI z < (60 : Int32) from nI_lt (b := 60) hz' (by decide)), pn_in hz' (by decide), cond_true, pn_cl (by omega), nI_1]
      simp only [e3, pn_c1, F1, e_X9_feed_at22, d_10, cond_false, upd_eq] at e1
      have n60 : ¬ nI z = (60 : Int32) := fun q => hz ((nI_eq (b := 60) (by omega) (by decide)).mp q)
      simp only [pn_t n60, pn_in hz' (by decide), cond_true, pn_cl (show z < 2 ^ 31 by omega), nI_1, upd_eq] at e2
      refine ⟨_, _, _, _, _, _, e1, e2, hB, hI, ⟨z + 1, fun i => if i = z then k else c i, by omega, rfl, rfl, fun i hi => ?_⟩, hP, hL⟩
      by_cases e : i = z
      · subst e
        dsimp only
        rw [if_pos rfl]
        exact ⟨hk1, by omega, upd_eq, upd_eq⟩
      · dsimp only
        rw [if_neg e]
        have := t4 i (by omega)
        exact ⟨this.1, this.2.1, (upd_ne e).trans this.2.2.1, (upd_ne e).trans this.2.2.2⟩
  · have g : decide (1 ≤ x ∧ x ≤ 127) = false := decide_eq_false (fun q => h2 q.2)
    simp only [pn_f h1, pn_f h2] at e1
    simp only [g, b01_f, d_n00, cond_false] at e2
    exact ⟨_, _, _, _, _, _, e1, e2, hh⟩
theorem c_hp0 {d n : Nat} (hd : 1 ≤ d) (hn : I 301 = nI n) {x : Int32} (h : x < 0 ∨ nI n ≤ x) : zC d 43 [.ref 3, .int x] (hC I A, t) = some (some (.int 0), (hC I A, t)) := by
  obtain ⟨d, rfl⟩ : ∃ e, d = e + 1 := ⟨d - 1, by omega⟩
  rw [e_X6_hasPlace_3, hn]
  by_cases h1 : x < 0
  · rw [pn_t h1]
  · rw [pn_f h1, pn_t (h.resolve_left h1)]
theorem c_hp1 {d n j : Nat} (hd : 1 ≤ d) (hn : I 301 = nI n) (hn6 : n ≤ 40) (hj : j < n) : zC d 43 [.ref 3, .int (nI j)] (hC I A, t) = some (some (.int 1), (hC I A, t)) := by
  obtain ⟨d, rfl⟩ : ∃ e, d = e + 1 := ⟨d - 1, by omega⟩
  rw [e_X6_hasPlace_3, hn, pn_f (nI_pos (by omega)), pn_f (nI_ge hj (by omega)), pn_f (show ¬ (40 : Int32) ≤ nI j from nI_ge (b := 40) (by omega) (by decide))]
set_option maxRecDepth 100000 in
theorem P_strip (h : Rel I A J B) (x : Int32) : Ans 94 173 [.int x] I A J B L := by
  have hh := h
  obtain ⟨⟨⟨s, ⟨n, w⟩, ⟨z, l⟩, ⟨p, k, o⟩, ⟨r, a, v⟩⟩, hv, hc, hm⟩, -⟩ := h
  have c3 : I 301 = nI z := hc.2.2.1.1
  have m3 : J 4 = nI z := hm.2.2.1.1
  have z40 : z ≤ 40 := hv.2.2.1.1
  have e1 := fun t => e_X9_strip 59 I A t x
  have e2 := fun t => e_X10_strip 59 J B L t x
  simp only [r_in (show 1 ≤ 59 by omega), pn_c1, F1, e_X10_strip_at11, m3] at e2
  rcases pk_ix x (n := z) (by omega) with q | q | ⟨j, hj, rfl⟩
  · simp only [c_hp0 (A := A) (show 1 ≤ 59 by omega) c3 (Or.inl q), pn_c1, F1, e_X9_strip_at11, d_00, cond_true] at e1
    simp only [i_in0 (show z < 2 ^ 30 by omega) (Or.inl q), b01_f, d_00, cond_true] at e2
    exact ⟨_, _, _, _, _, _, e1, e2, hh⟩
  · simp only [c_hp0 (A := A) (show 1 ≤ 59 by omega) c3 (Or.inr q), pn_c1, F1, e_X9_strip_at11, d_00, cond_true] at e1
    simp only [i_in0 (show z < 2 ^ 30 by omega) (Or.inr q), b01_f, d_00, cond_true] at e2
    exact ⟨_, _, _, _, _, _, e1, e2, hh⟩
  · simp only [c_hp1 (A := A) (show 1 ≤ 59 by omega) c3 z40 hj, pn_c1, F1, e_X9_strip_at11, d_10, cond_false, pn_in (show j < 40 by omega) (by decide), cond_true, pn_cl (show j < 2 ^ 31 by omega), show A 4 j = nI (l j) from hc.2.2.1.2 j hj] at e1
    simp only [i_in1 (show z < 2 ^ 30 by omega) hj, b01_t, d_10, cond_false, pn_in (show j < 40 by omega) (by decide), cond_true, pn_cl (show j < 2 ^ 31 by omega), show B 2 j = nI (l j) from hm.2.2.1.2 j hj] at e2
    exact ⟨_, _, _, _, _, _, e1, e2, hh⟩
theorem c_app {d z : Nat} (hd : 1 ≤ d) (hz : I 301 = nI z) (hz' : z < 40) (x : Int32) : zC d 45 [.ref 3, .int x] (hC I A, t) = some (some (.int 1), (hC (upd I 301 (nI (z + 1))) (va_up A 4 (upd (A 4) z x)), t)) := by
  obtain ⟨d, rfl⟩ : ∃ e, d = e + 1 := ⟨d - 1, by omega⟩
  rw [e_X6_append_3, hz, pn_f (nI_pos (by omega)), pn_t (show nI z < (40 : Int32) from nI_lt (b := 40) hz' (by decide)), pn_in hz' (by decide), cond_true, pn_cl (by omega), nI_1]
theorem c_app0 {d : Nat} (hd : 1 ≤ d) (hz : I 301 = nI 40) (x : Int32) : zC d 45 [.ref 3, .int x] (hC I A, t) = some (some (.int 0), (hC I A, t)) := by
  obtain ⟨d, rfl⟩ : ∃ e, d = e + 1 := ⟨d - 1, by omega⟩
  rw [e_X6_append_3, hz, pn_f (by decide), pn_f (by decide)]
/-- a letter more on the strip: class, reference, what they hold -/
theorem rel_app {s n z p r : Nat} {w l k o a v : Nat → Nat} (hv : vB (s, (n, w), (z, l), (p, k, o), (r, a, v))) (hc : cB 1 I A (s, (n, w), (z, l), (p, k, o), (r, a, v))) (hm : mB J B (s, (n, w), (z, l), (p, k, o), (r, a, v))) (hR : rI I A J B ∧ rT I A J B ∧ rP I A J B ∧ rL A B) {j : Nat} (hj1 : 1 ≤ j) (hj : j ≤ s) (hz : z < 40) : vB (s, (n, w), (z + 1, fun i => if i = z then j else l i), (p, k, o), (r, a, v)) ∧ cB 1 (upd I 301 (nI (z + 1))) (va_up A 4 (upd (A 4) z (nI j))) (s, (n, w), (z + 1, fun i => if i = z then j else l i), (p, k, o), (r, a, v)) ∧ mB (upd J 4 (nI (z + 1))) (va_up B 2 (upd (B 2) z (nI j))) (s, (n, w), (z + 1, fun i => if i = z then j else l i), (p, k, o), (r, a, v)) ∧ (rI (upd I 301 (nI (z + 1))) (va_up A 4 (upd (A 4) z (nI j))) (upd J 4 (nI (z + 1))) (va_up B 2 (upd (B 2) z (nI j))) ∧ rT (upd I 301 (nI (z + 1))) (va_up A 4 (upd (A 4) z (nI j))) (upd J 4 (nI (z + 1))) (va_up B 2 (upd (B 2) z (nI j))) ∧ rP (upd I 301 (nI (z + 1))) (va_up A 4 (upd (A 4) z (nI j))) (upd J 4 (nI (z + 1))) (va_up B 2 (upd (B 2) z (nI j))) ∧ rL (va_up A 4 (upd (A 4) z (nI j))) (va_up B 2 (upd (B 2) z (nI j)))) := by
  obtain ⟨v1, v2, v3, v4, v5⟩ := hv
  obtain ⟨c1, c2, c3, c4, c5⟩ := hc
  obtain ⟨m1, m2, m3, m4, m5⟩ := hm
  refine ⟨⟨v1, v2, ⟨by omega, fun i hi => ?_⟩, v4, v5⟩, ⟨c1, c2, ⟨rfl, fun i hi => ?_⟩, c4, c5⟩, ⟨m1, m2, ⟨rfl, fun i hi => ?_⟩, m4, m5⟩, hR⟩
  · show 1 ≤ (if i = z then j else l i) ∧ (if i = z then j else l i) ≤ s
    by_cases e : i = z
    · rw [if_pos e]; exact ⟨hj1, hj⟩
    · rw [if_neg e]; exact v3.2 i (by omega)
  · show upd (A 4) z (nI j) i = nI (if i = z then j else l i)
    by_cases e : i = z
    · subst e; rw [if_pos rfl, upd_eq]
    · rw [if_neg e, upd_ne e]; exact c3.2 i (by omega)
  · show upd (B 2) z (nI j) i = nI (if i = z then j else l i)
    by_cases e : i = z
    · subst e; rw [if_pos rfl, upd_eq]
    · rw [if_neg e, upd_ne e]; exact m3.2 i (by omega)
theorem P_cast (h : Rel I A J B) (x : Int32) : Ans 91 169 [.int x] I A J B L := by
  have hh := h
  obtain ⟨⟨⟨s, ⟨n, w⟩, ⟨z, l⟩, ⟨p, k, o⟩, ⟨r, a, v⟩⟩, hv, hc, hm⟩, hR⟩ := h
  have c1 : I 100 = nI s := hc.1
  have m1 : J 0 = nI s := hm.1
  have c3 : I 301 = nI z := hc.2.2.1.1
  have m3 : J 4 = nI z := hm.2.2.1.1
  have z40 : z ≤ 40 := hv.2.2.1.1
  have s3 : s ≤ 3 := by have := hv.1; omega
  have e1 := fun t => e_X9_cast 59 I A t x
  have e2 := fun t => e_X10_cast 59 J B L t x
  simp only [c1] at e1
  simp only [r_in (show 1 ≤ 59 by omega), pn_c1, F1, e_X10_cast_at9, m1] at e2
  by_cases h1 : x < 1
  · have g : decide (1 ≤ x ∧ x ≤ nI s) = false := decide_eq_false (fun q => Int32.not_lt.mpr q.1 h1)
    simp only [pn_t h1] at e1
    simp only [g, b01_f, d_n00, cond_false] at e2
    exact ⟨_, _, _, _, _, _, e1, e2, hh⟩
  by_cases h2 : x ≤ nI s
  · have g : decide (1 ≤ x ∧ x ≤ nI s) = true := decide_eq_true ⟨Int32.not_lt.mp h1, h2⟩
    obtain ⟨j, hj, rfl⟩ := i_rng (n := s + 1) (lo := 1) (by omega) (by decide) h1 (nle_of (n := s) (by omega) h2)
    have hj1 : 1 ≤ j := by
      rcases Nat.eq_zero_or_pos j with q | q
      · rw [q] at h1; exact absurd (by decide) h1
      · exact q
    simp only [pn_f h1, pn_t h2] at e1
    simp only [g, b01_t, d_n10, cond_true, m3] at e2
    by_cases hz : z = 40
    · subst hz
      simp only [pn_f (show ¬ ¬ nI 40 = (40 : Int32) by decide)] at e2
      simp only [c_app0 (A := A) (show 1 ≤ 59 by omega) c3, pn_c1, F1, e_X9_cast_at30, d_00, cond_true] at e1
      exact ⟨_, _, _, _, _, _, e1, e2, hh⟩
    · have hz' : z < 40 := by omega
      simp only [c_app (A := A) (show 1 ≤ 59 by omega) c3 hz', pn_c1, F1, e_X9_cast_at30, d_10, cond_false, upd_eq] at e1
      have n40 : ¬ nI z = (40 : Int32) := fun q => hz ((nI_eq (b := 40) (by omega) (by decide)).mp q)
      simp only [pn_t n40, pn_in hz' (by decide), cond_true, pn_cl (show z < 2 ^ 31 by omega), nI_1, upd_eq] at e2
      obtain ⟨g1, g2, g3, g4⟩ := rel_app hv hc hm hR hj1 (by omega) hz'
      exact ⟨_, _, _, _, _, _, e1, e2, ⟨_, g1, g2, g3⟩, g4⟩
  · have g : decide (1 ≤ x ∧ x ≤ nI s) = false := decide_eq_false (fun q => h2 q.2)
    simp only [pn_f h1, pn_f h2] at e1
    simp only [g, b01_f, d_n00, cond_false] at e2
    exact ⟨_, _, _, _, _, _, e1, e2, hh⟩
end LY
