/-! the calls that only look, or lay one thing down -/
section SM
variable {I : Nat → Int32} {A : Nat → Nat → Int32} {J : Nat → Int32} {B : Nat → Nat → Int32} {L : Nat → Nat → Int64}
theorem P_wipe (h : Rel I A J B) : Ans 93 172 [] I A J B L := by
  obtain ⟨⟨⟨s, ⟨n, w⟩, ⟨z, l⟩, ⟨p, k, o⟩, ⟨r, a, v⟩⟩, hv, hc, hm⟩, hI, hT, hP, hL⟩ := h
  obtain ⟨v1, v2, v3, v4, v5⟩ := hv
  obtain ⟨c1, c2, c3, c4, c5⟩ := hc
  obtain ⟨m1, m2, m3, m4, m5⟩ := hm
  refine ⟨nI z, upd I 301 0, A, upd J 4 0, B, L, ?_, ?_, ?_⟩
  · intro t; rw [e_X9_wipe, show I 301 = nI z from c3.1]
  · intro t; rw [e_X10_wipe, m3.1]
  · exact ⟨⟨(s, (n, w), (0, l), (p, k, o), (r, a, v)), ⟨v1, v2, ⟨by omega, fun i hi => by omega⟩, v4, v5⟩, ⟨c1, c2, ⟨rfl, fun i hi => by omega⟩, c4, c5⟩, ⟨m1, m2, ⟨rfl, fun i hi => by omega⟩, m4, m5⟩⟩, hI, hT, hP, hL⟩
theorem P_count (h : Rel I A J B) (x : Int32) : Ans 115 207 [.int x] I A J B L := by
  have hh := h
  obtain ⟨⟨⟨s, ⟨n, w⟩, ⟨z, l⟩, ⟨p, k, o⟩, ⟨r, a, v⟩⟩, hv, hc, hm⟩, hI, hT, hP, hL⟩ := h
  obtain ⟨c1, c2, c3, c4, c5⟩ := hc
  obtain ⟨m1, m2, m3, m4, m5⟩ := hm
  obtain ⟨tz, tc, t1, t2, t3, t4⟩ := hT
  obtain ⟨pz, p1, p2, p3, p4⟩ := hP
  have q1 : J 2 = I 102 := m2.1.trans c2.1.symm
  have q2 : J 4 = I 301 := m3.1.trans c3.1.symm
  have q3 : J 7 = I 106 := m4.1.trans c4.1.symm
  have q4 : J 0 = I 100 := m1.trans c1.symm
  have q5 : J 12 = I 1701 := t3.trans t2.symm
  have q6 : J 14 = I 5 := p3.trans p2.symm
  have q7 : J 10 = I 109 := m5.1.trans c5.1.symm
  have e1 := fun t => e_X9_count 59 I A t x
  have e2 := fun t => e_X10_count 59 J B L t x
  simp only [q1, q2, q3, q4, q5, q6, q7] at e2
  by_cases g0 : x.toInt = 0
  · simp only [pn_t g0] at e1 e2; exact ⟨_, _, _, _, _, _, e1, e2, hh⟩
  simp only [pn_f g0] at e1 e2
  by_cases g1 : x.toInt = 1
  · simp only [pn_t g1] at e1 e2; exact ⟨_, _, _, _, _, _, e1, e2, hh⟩
  simp only [pn_f g1] at e1 e2
  by_cases g2 : x.toInt = 2
  · simp only [pn_t g2] at e1 e2; exact ⟨_, _, _, _, _, _, e1, e2, hh⟩
  simp only [pn_f g2] at e1 e2
  by_cases g3 : x.toInt = 3
  · simp only [pn_t g3] at e1 e2; exact ⟨_, _, _, _, _, _, e1, e2, hh⟩
  simp only [pn_f g3] at e1 e2
  by_cases g4 : x.toInt = 4
  · simp only [pn_t g4] at e1 e2; exact ⟨_, _, _, _, _, _, e1, e2, hh⟩
  simp only [pn_f g4] at e1 e2
  by_cases g5 : x.toInt = 5
  · simp only [pn_t g5] at e1 e2; exact ⟨_, _, _, _, _, _, e1, e2, hh⟩
  simp only [pn_f g5] at e1 e2
  by_cases g6 : x.toInt = 6
  · simp only [pn_t g6] at e1 e2; exact ⟨_, _, _, _, _, _, e1, e2, hh⟩
  simp only [pn_f g6] at e1 e2
  exact ⟨_, _, _, _, _, _, e1, e2, hh⟩
theorem F1 : (10000000 : Nat) = 9999999 + 1 := (Eq.refl _).trans (Eq.refl _)
theorem P_paper (h : Rel I A J B) (x : Int32) : Ans 108 200 [.int x] I A J B L := by
  have hh := h
  obtain ⟨pz, p1, p2, p3, p4⟩ := h.2.2.2.1
  have e1 := fun t => e_X9_paper 59 I A t x
  have e2 := fun t => e_X10_paper 59 J B L t x
  simp only [p2] at e1
  simp only [p3, r_in (show 1 ≤ 59 by omega), pn_c1, F1, e_X10_paper_at11] at e2
  rcases pk_ix x (n := pz) (by omega) with q | q | ⟨j, hj, rfl⟩
  · simp only [pn_t q] at e1
    simp only [i_in0 (show pz < 2 ^ 30 by omega) (Or.inl q), pn_t (show b01 false = 0 from rfl)] at e2
    exact ⟨_, _, _, _, _, _, e1, e2, hh⟩
  · simp only [i_in0 (show pz < 2 ^ 30 by omega) (Or.inr q), pn_t (show b01 false = 0 from rfl)] at e2
    by_cases q0 : x < 0
    · simp only [pn_t q0] at e1
      exact ⟨_, _, _, _, _, _, e1, e2, hh⟩
    · simp only [pn_f q0, pn_t q] at e1
      exact ⟨_, _, _, _, _, _, e1, e2, hh⟩
  · have f1 : ¬ nI j < 0 := nI_pos (by omega)
    have f2 : ¬ nI pz ≤ nI j := nI_ge hj (by omega)
    have f3 : ¬ 40 ≤ nI j := nI_ge (b := 40) (by omega) (by decide)
    simp only [pn_f f1, pn_f f2, pn_f f3, pn_in (show j < 40 by omega) (by decide), cond_true, pn_cl (show j < 2 ^ 31 by omega), p4 j hj] at e1
    simp only [i_in1 (show pz < 2 ^ 30 by omega) hj, pn_f (show ¬ b01 true = 0 by decide), pn_in (show j < 40 by omega) (by decide), cond_true, pn_cl (show j < 2 ^ 31 by omega)] at e2
    exact ⟨_, _, _, _, _, _, e1, e2, hh⟩
end SM
