/-! within -/
section WI
variable {I : Nat → Int32} {A : Nat → Nat → Int32} {J : Nat → Int32} {B : Nat → Nat → Int32} {L : Nat → Nat → Int64}
theorem d_nI1n : decide (¬ nI 1 = (0 : Int32)) = true := rfl
theorem d_nI0n : decide (¬ nI 0 = (0 : Int32)) = false := rfl
theorem P_within (h : Rel I A J B) (x y c : Int32) : Ans 90 167 [.int x, .int y, .int c] I A J B L := by
  have hh := h
  obtain ⟨⟨⟨s, ⟨n, w⟩, ⟨z, l⟩, ⟨p, k, o⟩, ⟨r, a, v⟩⟩, hv, hc, hm⟩, -⟩ := h
  have hs : s = 2 ∨ s = 3 := hv.1
  have c1 : I 100 = nI s := hc.1
  have m1 : J 0 = nI s := hm.1
  have c2 : I 102 = nI n := hc.2.1.1
  have m2 : J 2 = nI n := hm.2.1.1
  have n6 : n ≤ 6 := hv.2.1.1
  have hw : ∀ i, i < n → okw s (w i) = true := hv.2.1.2
  have aw : ∀ i, i < n → A 2 i = nI (w i) := hc.2.1.2
  have bw : ∀ i, i < n → B 1 i = nI (w i) := hm.2.1.2
  have h64 := p2_64 n6
  have e1 := fun t => e_X9_within 59 I A t x y c
  have e2 := fun t => e_X10_within 59 J B L t x y c
  have no : ∀ q : x < 0 ∨ nI (2 ^ n) ≤ x, Ans 90 167 [.int x, .int y, .int c] I A J B L := fun q => by
    simp only [c_is0 (A := A) (show 1 ≤ 59 by omega) c2 n6 q, pn_c1, F1, e_X9_within_at8, d_00, cond_true] at e1
    simp only [r_setsN (B := B) (L := L) (show 2 ≤ 59 by omega) n6 m2 q, pn_c1, d_00, cond_true] at e2
    exact ⟨_, _, _, _, _, _, e1, e2, hh⟩
  rcases pk_ix x (n := 2 ^ n) (by omega) with q | q | ⟨m, ml, rfl⟩
  · exact no (Or.inl q)
  · exact no (Or.inr q)
  have hle := sl_le m n
  obtain ⟨J1, B1, q1, q2, q3, q4, q5⟩ := r_sets (J := J) (B := B) (L := L) (d := 59) (by omega) n6 ml m2
  have rel : Rel I A J1 B1 := Rel_fr hh (fun _ _ => rfl) (fun _ _ _ => rfl) (fun c hc => q2 c (by omega)) (fun c hc => q3 c (by omega))
  have j1 : J1 2 = nI n := (q2 2 (by decide)).trans m2
  have j0 : J1 0 = nI s := (q2 0 (by decide)).trans m1
  simp only [c_is1 (A := A) (show 1 ≤ 59 by omega) c2 n6 ml, pn_c1, F1, e_X9_within_at8, d_10, cond_false] at e1
  simp only [q1, pn_c1, d_10, cond_false] at e2
  have no2 : ∀ q : y < 0 ∨ nI n ≤ y, Ans 90 167 [.int (nI m), .int y, .int c] I A J B L := fun q => by
    simp only [c_iis0 (A := A) (show 2 ≤ 59 by omega) c2 q, pn_c1, d_n00, cond_false] at e1
    simp only [r_iw0 (B := B1) (L := L) (show 2 ≤ 59 by omega) j1 n6 q, pn_c1, F1, e_X10_within_at13, d_00, cond_true] at e2
    exact ⟨_, _, _, _, _, _, e1, e2, rel⟩
  rcases pk_ix y (n := n) (by omega) with q | q | ⟨v, vl, rfl⟩
  · exact no2 (Or.inl q)
  · exact no2 (Or.inr q)
  simp only [c_iis1 (A := A) (show 2 ≤ 59 by omega) c2 n6 (show m < 64 by omega) vl, pn_c1] at e1
  simp only [r_iw1 (B := B1) (L := L) (show 2 ≤ 59 by omega) j1 n6 vl, pn_c1, F1, e_X10_within_at13, d_10, cond_false, b_bit m (show m < 64 by omega) v (show v < 6 by omega), q4] at e2
  by_cases cb : m / 2 ^ v % 2 = 1
  rotate_left
  · simp only [decide_eq_false cb, b01_f, d_n00, cond_false] at e1
    simp only [show m / 2 ^ v % 2 = 0 by omega, d_nI0n, cond_false] at e2
    exact ⟨_, _, _, _, _, _, e1, e2, rel⟩
  simp only [decide_eq_true cb, b01_t, d_n10, cond_true, z_bc (show 1 ≤ 59 by omega) _ (show m < 64 by omega), ← sl_n n n6 m ml, pn_c1, F2, e_X9_within_at29] at e1
  simp only [cb, d_nI1n, cond_true] at e2
  by_cases k4 : (sl m n).1 ≤ 4
  rotate_left
  · have g4 : (4 : Int32) < nI (sl m n).1 := nI_lt (a := 4) (by omega) (by omega)
    simp only [pn_t g4] at e1 e2
    exact ⟨_, _, _, _, _, _, e1, e2, rel⟩
  have g4 : ¬ (4 : Int32) < nI (sl m n).1 := nI_nlt (a := 4) k4 (by decide)
  simp only [pn_f g4] at e1
  simp only [pn_f g4, r_in (show 1 ≤ 59 by omega), pn_c1] at e2
  have no3 : ∀ q : c < 0 ∨ nI 13 ≤ c, Ans 90 167 [.int (nI m), .int (nI v), .int c] I A J B L := fun q => by
    have hx := i_in0 (x := c) (n := 13) (by decide) q
    rw [show nI 13 - 1 = (12 : Int32) from rfl] at hx
    simp only [hx, b01_f, d_n00, cond_false] at e2
    by_cases c0 : c < 0
    · simp only [pn_t c0] at e1
      exact ⟨_, _, _, _, _, _, e1, e2, rel⟩
    · have c12 : ¬ c ≤ 12 := fun p => by
        rcases q with q | q
        · exact c0 q
        · exact (Int32.not_le.mpr (show (12 : Int32) < nI 13 by decide)) (Int32.le_trans q p)
      simp only [pn_f c0, pn_f c12] at e1
      exact ⟨_, _, _, _, _, _, e1, e2, rel⟩
  rcases pk_ix c (n := 13) (by decide) with q | q | ⟨g, gl, rfl⟩
  · exact no3 (Or.inl q)
  · exact no3 (Or.inr q)
  have hx := i_in1 (j := g) (n := 13) (by decide) gl
  rw [show nI 13 - 1 = (12 : Int32) from rfl] at hx
  have hfm := q5 k4
  have he : ∀ i, i < (sl m n).1 → (sl m n).2 i < n := fun i hi => (sl_bit m n i hi).1
  have he6 : ∀ i, i < (sl m n).1 → (sl m n).2 i < 6 := fun i hi => Nat.lt_of_lt_of_le (he i hi) n6
  have hok : ∀ i, i < (sl m n).1 → okw s (w ((sl m n).2 i)) = true := fun i hi => hw _ (he i hi)
  have hb1 : ∀ i, i < (sl m n).1 → B1 1 ((sl m n).2 i) = nI (w ((sl m n).2 i)) := fun i hi => by rw [q3 1 (by decide)]; exact bw _ (he i hi)
  obtain ⟨I1, A1, r1, r2, r3, r4⟩ := c_fill (I := I) (A := A) (d := 59) (s := s) (by omega) n6 (show m < 64 by omega) k4 c1 c2 aw
  have ho := fun t => c_ho (t := t) (d := 59) (by omega) k4 r4 (fun i hi => (okw_lt (hok i hi)).2)
  have isf := fun t => r_isField (t := t) (J := J1) (B := B1) (L := L) (d := 59) (u := fun k => w ((sl m n).2 k)) (by omega) k4 hfm he6 (fun i hi => ⟨hb1 i hi, okw_lt (hok i hi)⟩)
  simp only [pn_f (nI_pos (show g < 2 ^ 31 by omega)), pn_t (show nI g ≤ (12 : Int32) from nI_le (b := 12) (by omega) (by decide)), r1, pn_c0, F3, e_X9_within_at58, ho, pn_c1, F4, e_X9_within_at65] at e1
  simp only [hx, b01_t, d_n10, cond_true, isf, pn_c1] at e2
  cases hb : cls (sl m n).1 (fun k => w ((sl m n).2 k)) with
  | true =>
    simp only [hb, b01_t, d_10, cond_false] at e1
    simp only [hb, Bool.not_true, b01_f, d_n00, cond_false] at e2
    exact ⟨_, _, _, _, _, _, e1, e2, Rel_fr hh (fun c hc => r2 c (by omega) (by omega)) (fun c h1 h2 => r3 c (by omega)) (fun c hc => q2 c (by omega)) (fun c hc => q3 c (by omega))⟩
  | false =>
    obtain ⟨hp, hpv⟩ := sl_at m n v vl cb
    obtain ⟨A2, f1, f2⟩ := c_rows (I := I1) (A := A1) (d := 59) (n := g) (by omega) hs k4 hok (cls_apt hb) hp (by omega) r4
    obtain ⟨L1, i1, i2, i3⟩ := r_initQ (J := J1) (B := B1) 59 (nI m) (nI v) (nI g) 256 0 L (by omega) (fun y hy => by omega)
    obtain ⟨L2, w1⟩ := r_rowsW (J := J1) (B := B1) (u := fun k => w ((sl m n).2 k)) (e := (sl m n).2) 59 (by omega) hs j0 hfm.1 k4 he6 hfm.2 (fun i hi => ⟨hb1 i hi, hok i hi⟩) (cls_apt hb) (fun i j hi hj e => sl_inj m n i j hi hj e) hp (show g ≤ 12 by omega) (nI m) g 0 L1 (by omega) (fun y hy => i3 y hy)
    have e60 : ∀ t, zR 59 9999999 167 60 [some (.ref 1000), some (.int (nI m)), some (.int (nI v)), some (.int (nI g)), some (.int 0), none, none, none, none, none] [] (t, hM J1 B1 L) = some (some (.int (iI (Hrn s (Emj s (sl m n).1 (fun k => w ((sl m n).2 k)) (sl m v).1) g))), (t, hM J1 B1 L2)) := fun t => i1 _ t (4000 * g) (fun f hf => by
      have := w1 t f none none none (by omega)
      rw [hpv] at this
      exact this) 9999999 (by omega)
    simp only [hb, b01_f, d_00, cond_true, s_place (show 2 ≤ 59 by omega) _ (show m < 64 by omega) (show v < 6 by omega), pn_c1, f1] at e1
    simp only [hb, Bool.not_false, b01_t, d_n10, cond_true, e60] at e2
    exact ⟨_, _, _, _, _, _, e1, e2, Rel_fr hh (fun c hc => r2 c (by omega) (by omega)) (fun c h1 h2 => (f2 c (by omega)).trans (r3 c (by omega))) (fun c hc => q2 c (by omega)) (fun c hc => q3 c (by omega))⟩
end WI
