/-! behind the plan -/
def itr (s : Nat) : Nat → (Nat → Nat) → Nat → Nat
  | 0, l => l
  | v + 1, l => itr s v (fun i => on1 s (l i))
def stS (s what v : Nat) (q : Nat × (Nat → Nat)) : Nat × (Nat → Nat) := if what = 1 then (q.1 - v, q.2) else if what = 2 then (q.1, itr s v q.2) else if v ≤ s ∧ q.1 < 40 then (q.1 + 1, fun i => if i = q.1 then v else q.2 i) else q
def pln (s : Nat) (a v : Nat → Nat) : Nat → Nat → Nat × (Nat → Nat) → Nat × (Nat → Nat)
  | 0, _, q => q
  | j + 1, k, q => pln s a v j (k + 1) (stS s (a k) (v k) q)
/-- a strip in thought (the class's) -/
def pcC (s : Nat) (I : Nat → Int32) (A : Nat → Nat → Int32) (q : Nat × (Nat → Nat)) : Prop := I 2701 = nI q.1 ∧ q.1 ≤ 40 ∧ ∀ i, i < q.1 → A 28 i = nI (q.2 i) ∧ 1 ≤ q.2 i ∧ q.2 i ≤ s
def pcM (s : Nat) (J : Nat → Int32) (B : Nat → Nat → Int32) (q : Nat × (Nat → Nat)) : Prop := J 4 = nI q.1 ∧ q.1 ≤ 40 ∧ ∀ i, i < q.1 → B 2 i = nI (q.2 i) ∧ 1 ≤ q.2 i ∧ q.2 i ≤ s
theorem i_max {a b : Nat} (ha : a < 2 ^ 30) (hb : b < 2 ^ 30) : (if (0 : Int32) < nI a - nI b then nI a - nI b else 0) = nI (a - b) := by
  by_cases c : b < a
  · rw [pn_sub (by omega), if_pos (show (0 : Int32) < nI (a - b) from nI_lt (a := 0) (by omega) (by omega))]
  · rw [if_neg (fun q => by
      have g := Int32.lt_iff_toInt_lt.mp q
      rw [pk_sub_toInt ha hb] at g
      have e0 : (0 : Int32).toInt = 0 := rfl
      omega), show a - b = 0 by omega]
    rfl
section BH
variable {I : Nat → Int32} {A : Nat → Nat → Int32} {J : Nat → Int32} {B : Nat → Nat → Int32} {L : Nat → Nat → Int64} {t : List zm_E} {s : Nat}
theorem c_putL (d : Nat) (hd : 1 ≤ d) (hs : s ≤ 3) (hs1 : 1 ≤ s) {z : Nat} {l : Nat → Nat} (hz : I 2701 = nI z) (z40 : z ≤ 40) (hl : ∀ q, q < z → l q ≤ s) : ∀ (j i f : Nat) (A : Nat → Nat → Int32), i + j = z → 2 * j < f → (∀ q, q < z → A 28 q = nI (if q < i then on1 s (l q) else l q)) → ∃ A', (∀ t, zR d f 47 2 [some (.ref 27), some (.int (nI s)), some (.int (nI i))] [] (hC I A, t) = some (none, (hC I A', t))) ∧ (∀ c, c ≠ 28 → A' c = A c) ∧ ∀ q, q < z → A' 28 q = nI (on1 s (l q)) := by
  intro j
  induction j with
  | zero =>
    intro i f A hi hf hA
    obtain ⟨f, rfl⟩ : ∃ e, f = e + 1 := ⟨f - 1, by omega⟩
    refine ⟨A, fun t => ?_, fun c _ => rfl, fun q hq => by rw [hA q hq, if_pos (by omega)]⟩
    rw [e_X6_putOneOn_27_at2, hz, pn_t (nI_le (by omega) (by omega))]
  | succ j ih =>
    intro i f A hi hf hA
    obtain ⟨f, rfl⟩ : ∃ e, f = e + 1 + 1 := ⟨f - 2, by omega⟩
    have hi' := hA i (by omega)
    rw [if_neg (by omega)] at hi'
    have h1 := hl i (by omega)
    obtain ⟨A', a1, a2, a3⟩ := ih (i + 1) f (va_up A 28 (upd (A 28) i (nI (on1 s (l i))))) (by omega) (by omega) (fun q hq => by
      rw [vu_eq]
      by_cases e : q = i
      · subst e; rw [upd_eq, if_pos (by omega)]
      · rw [upd_ne e, hA q hq]
        by_cases e' : q < i
        · rw [if_pos e', if_pos (by omega)]
        · rw [if_neg e', if_neg (by omega)])
    refine ⟨A', fun t => ?_, fun c hc => by rw [a2 c hc, vu_ne hc], a3⟩
    rw [e_X6_putOneOn_27_at2, hz, pn_f (nI_ge (by omega) (by omega)), pn_f (show ¬ (40 : Int32) ≤ nI i from nI_ge (b := 40) (by omega) (by decide)), pn_in (show i < 40 by omega) (by decide), cond_true, pn_cl (by omega), hi', s_oneOn hd _ (by omega) (by omega), pn_c1, e_X6_putOneOn_27_at31, pn_in (show i < 40 by omega) (by decide), cond_true, pn_cl (by omega), nI_1]
    exact a1 t
theorem c_put1 {d : Nat} (hd : 2 ≤ d) (hs : s ≤ 3) (hs1 : 1 ≤ s) {q : Nat × (Nat → Nat)} (h : pcC s I A q) : ∃ A', (∀ t, zC d 47 [.ref 27, .int (nI s)] (hC I A, t) = some (none, (hC I A', t))) ∧ (∀ c, c ≠ 28 → A' c = A c) ∧ pcC s I A' (q.1, fun i => on1 s (q.2 i)) := by
  obtain ⟨d, rfl⟩ : ∃ e, d = e + 1 := ⟨d - 1, by omega⟩
  obtain ⟨h1, h2, h3⟩ := h
  obtain ⟨A', a1, a2, a3⟩ := c_putL (I := I) (l := q.2) d (by omega) hs hs1 h1 h2 (fun i hi => (h3 i hi).2.2) q.1 0 10000000 A (by omega) (by omega) (fun i hi => by rw [if_neg (by omega)]; exact (h3 i hi).1)
  exact ⟨A', fun t => (e_X6_putOneOn_27 d I A t (nI s)).trans (a1 t), a2, h1, h2, fun i hi => ⟨a3 i hi, on1_ok hs1⟩⟩
theorem c_put54 (d : Nat) (hd : 2 ≤ d) (hs : s ≤ 3) (hs1 : 1 ≤ s) (c1 : I 100 = nI s) {k v : Nat} (hv : v ≤ 9) : ∀ (j i f : Nat) (A : Nat → Nat → Int32) (q : Nat × (Nat → Nat)), i + j = v → pcC s I A q → ∃ A', (∀ t, zR d (f + (j + 1)) 16 54 [some (.ref 1), some (.ref 27), some (.int (nI k)), some (.int (nI v)), some (.int (nI i))] [] (hC I A, t) = zR d f 16 2 [some (.ref 1), some (.ref 27), some (.int (nI (k + 1))), some (.int (nI v)), some (.int (nI v))] [] (hC I A', t)) ∧ (∀ c, c ≠ 28 → A' c = A c) ∧ pcC s I A' (q.1, itr s j q.2) := by
  intro j
  induction j with
  | zero =>
    intro i f A q hi h
    have e : i = v := by omega
    subst e
    refine ⟨A, fun t => ?_, fun c _ => rfl, h⟩
    rw [e_X0_followPlan_1_27_at54, pn_t (nI_le (by omega) (by omega)), nI_1]
  | succ j ih =>
    intro i f A q hi h
    obtain ⟨A1, a1, a2, a3⟩ := c_put1 (d := d) hd hs hs1 h
    obtain ⟨A', b1, b2, b3⟩ := ih (i + 1) f A1 (q.1, fun i => on1 s (q.2 i)) (by omega) a3
    refine ⟨A', fun t => ?_, fun c hc => (b2 c hc).trans (a2 c hc), b3⟩
    rw [show f + (j + 1 + 1) = (f + (j + 1)) + 1 from rfl, e_X0_followPlan_1_27_at54, pn_f (nI_ge (by omega) (by omega)), c1, a1 t, pn_c0, nI_1]
    exact b1 t
theorem c_app27 {d z : Nat} (hd : 1 ≤ d) (hz : I 2701 = nI z) (hz' : z < 40) (x : Int32) : zC d 45 [.ref 27, .int x] (hC I A, t) = some (some (.int 1), (hC (upd I 2701 (nI (z + 1))) (va_up A 28 (upd (A 28) z x)), t)) := by
  obtain ⟨d, rfl⟩ : ∃ e, d = e + 1 := ⟨d - 1, by omega⟩
  rw [e_X6_append_27, hz, pn_f (nI_pos (by omega)), pn_t (show nI z < (40 : Int32) from nI_lt (b := 40) hz' (by decide)), pn_in hz' (by decide), cond_true, pn_cl (by omega), nI_1]
theorem c_app270 {d : Nat} (hd : 1 ≤ d) (hz : I 2701 = nI 40) (x : Int32) : zC d 45 [.ref 27, .int x] (hC I A, t) = some (some (.int 0), (hC I A, t)) := by
  obtain ⟨d, rfl⟩ : ∃ e, d = e + 1 := ⟨d - 1, by omega⟩
  rw [e_X6_append_27, hz, pn_f (by decide), pn_f (by decide)]
theorem c_planL (d : Nat) (hd : 2 ≤ d) (hs : s ≤ 3) (hs1 : 1 ≤ s) {r : Nat} {a v : Nat → Nat} (r8 : r ≤ 8) (hr : ∀ i, i < r → a i ≤ 2 ∧ 1 ≤ v i ∧ v i ≤ 9) : ∀ (j k f : Nat) (I : Nat → Int32) (A : Nat → Nat → Int32) (q : Nat × (Nat → Nat)) (o3 o4 : Option Value), k + j = r → 20 * j < f → I 100 = nI s → I 109 = nI r → (∀ i, i < r → A 7 i = nI (a i) ∧ A 8 i = nI (v i)) → pcC s I A q → ∃ I' A', (∀ t, zR d f 16 2 [some (.ref 1), some (.ref 27), some (.int (nI k)), o3, o4] [] (hC I A, t) = some (none, (hC I' A', t))) ∧ (∀ c, c ≠ 2701 → I' c = I c) ∧ (∀ c, c ≠ 28 → A' c = A c) ∧ pcC s I' A' (pln s a v j k q) := by
  intro j
  induction j with
  | zero =>
    intro k f I A q o3 o4 hk hf c1 c5 cr h
    obtain ⟨f, rfl⟩ : ∃ e, f = e + 1 := ⟨f - 1, by omega⟩
    refine ⟨I, A, fun t => ?_, fun c _ => rfl, fun c _ => rfl, h⟩
    rw [e_X0_followPlan_1_27_at2, c5, pn_t (nI_le (by omega) (by omega))]
  | succ j ih =>
    intro k f I A q o3 o4 hk hf c1 c5 cr h
    have hrk := hr k (by omega)
    have crk := cr k (by omega)
    obtain ⟨h1, h2, h3⟩ := id h
    have e2 : ∀ g t, zR d (g + 1) 16 2 [some (.ref 1), some (.ref 27), some (.int (nI k)), o3, o4] [] (hC I A, t) = _ := fun g t => e_X0_followPlan_1_27_at2 d g I A t (nI k) o3 o4
    simp only [c5, pn_f (nI_ge (show k < r by omega) (show r < 2 ^ 31 by omega)), pn_f (show ¬ (8 : Int32) ≤ nI k from nI_ge (b := 8) (by omega) (by decide)), pn_in (show k < 8 by omega) (show 8 < 2 ^ 31 by decide), cond_true, pn_cl (show k < 2 ^ 31 by omega), crk.1, crk.2, c1, nI_1] at e2
    have ha : a k = 0 ∨ a k = 1 ∨ a k = 2 := by omega
    rcases ha with ha | ha | ha
    · rw [ha] at e2
      simp only [pn_t (show ¬ nI 0 = 1 by decide), pn_t (show ¬ nI 0 = 2 by decide)] at e2
      obtain ⟨f, rfl⟩ : ∃ e, f = e + 1 := ⟨f - 1, by omega⟩
      by_cases cv : s < v k
      · have st : stS s (a k) (v k) q = q := by
          unfold stS
          rw [ha, if_neg (by decide), if_neg (by decide), if_neg (by omega)]
        obtain ⟨I', A', b1, b2, b3, b4⟩ := ih (k + 1) f I A q (some (.int (nI (v k)))) o4 (by omega) (by omega) c1 c5 cr h
        refine ⟨I', A', fun t => ?_, b2, b3, ?_⟩
        · rw [e2, pn_t (nI_lt cv (by omega))]; exact b1 t
        · rw [pln, st]; exact b4
      · by_cases cz : q.1 = 40
        · have st : stS s (a k) (v k) q = q := by
            unfold stS
            rw [ha, if_neg (by decide), if_neg (by decide), if_neg (by omega)]
          obtain ⟨I', A', b1, b2, b3, b4⟩ := ih (k + 1) f I A q (some (.int (nI (v k)))) o4 (by omega) (by omega) c1 c5 cr h
          refine ⟨I', A', fun t => ?_, b2, b3, ?_⟩
          · rw [e2, pn_f (nI_nlt (by omega) (by omega)), c_app270 (by omega) (by rw [h1, cz]), pn_c1]; exact b1 t
          · rw [pln, st]; exact b4
        · have st : stS s (a k) (v k) q = (q.1 + 1, fun i => if i = q.1 then v k else q.2 i) := by
            unfold stS
            rw [ha, if_neg (by decide), if_neg (by decide), if_pos (by omega)]
          have hp : pcC s (upd I 2701 (nI (q.1 + 1))) (va_up A 28 (upd (A 28) q.1 (nI (v k)))) (q.1 + 1, fun i => if i = q.1 then v k else q.2 i) := by
            refine ⟨upd_eq, by dsimp only; omega, fun i hi => ?_⟩
            dsimp only at hi ⊢
            rw [vu_eq]
            by_cases e : i = q.1
            · rw [e, upd_eq, if_pos rfl]; exact ⟨rfl, by omega, by omega⟩
            · rw [upd_ne e, if_neg e]; exact h3 i (by omega)
          obtain ⟨I', A', b1, b2, b3, b4⟩ := ih (k + 1) f (upd I 2701 (nI (q.1 + 1))) (va_up A 28 (upd (A 28) q.1 (nI (v k)))) _ (some (.int (nI (v k)))) o4 (by omega) (by omega) ((upd_ne (by decide)).trans c1) ((upd_ne (by decide)).trans c5) (fun i hi => by rw [vu_ne (by decide), vu_ne (by decide)]; exact cr i hi) hp
          refine ⟨I', A', fun t => ?_, fun c hc => by rw [b2 c hc, upd_ne hc], fun c hc => by rw [b3 c hc, vu_ne hc], ?_⟩
          · rw [e2, pn_f (nI_nlt (by omega) (by omega)), c_app27 (by omega) h1 (by omega), pn_c1]; exact b1 t
          · rw [pln, st]; exact b4
    · rw [ha] at e2
      simp only [pn_f (show ¬ ¬ nI 1 = 1 by decide)] at e2
      obtain ⟨f, rfl⟩ : ∃ e, f = e + 1 := ⟨f - 1, by omega⟩
      have st : stS s (a k) (v k) q = (q.1 - v k, q.2) := by
        unfold stS
        rw [ha, if_pos rfl]
      have hp : pcC s (upd I 2701 (nI (q.1 - v k))) A (q.1 - v k, q.2) := ⟨upd_eq, by dsimp only; omega, fun i hi => by dsimp only at hi ⊢; exact h3 i (by omega)⟩
      obtain ⟨I', A', b1, b2, b3, b4⟩ := ih (k + 1) f (upd I 2701 (nI (q.1 - v k))) A _ (some (.int (nI (v k)))) o4 (by omega) (by omega) ((upd_ne (by decide)).trans c1) ((upd_ne (by decide)).trans c5) cr hp
      refine ⟨I', A', fun t => ?_, fun c hc => by rw [b2 c hc, upd_ne hc], b3, ?_⟩
      · obtain ⟨d, rfl⟩ : ∃ e, d = e + 1 := ⟨d - 1, by omega⟩
        rw [e2, e_X6_dropLast_27, pn_c0, h1, i_max (by omega) (by omega)]; exact b1 t
      · rw [pln, st]; exact b4
    · rw [ha] at e2
      simp only [pn_t (show ¬ nI 2 = 1 by decide), pn_f (show ¬ ¬ nI 2 = 2 by decide)] at e2
      obtain ⟨f, rfl⟩ : ∃ e, f = (e + (v k + 1)) + 1 := ⟨f - v k - 2, by omega⟩
      have st : stS s (a k) (v k) q = (q.1, itr s (v k) q.2) := by
        unfold stS
        rw [ha, if_neg (by decide), if_pos rfl]
      obtain ⟨A1, a1, a2, a3⟩ := c_put54 (I := I) (k := k) d hd hs hs1 c1 hrk.2.2 (v k) 0 f A q (by omega) h
      obtain ⟨I', A', b1, b2, b3, b4⟩ := ih (k + 1) f I A1 _ (some (.int (nI (v k)))) (some (.int (nI (v k)))) (by omega) (by omega) c1 c5 (fun i hi => by rw [a2 7 (by decide), a2 8 (by decide)]; exact cr i hi) a3
      refine ⟨I', A', fun t => ?_, b2, fun c hc => (b3 c hc).trans (a2 c hc), ?_⟩
      · have a1' : ∀ t, zR d (f + (v k + 1)) 16 54 [some (.ref 1), some (.ref 27), some (.int (nI k)), some (.int (nI (v k))), some (.int 0)] [] (hC I A, t) = _ := a1
        rw [e2, a1' t]; exact b1 t
      · rw [pln, st]; exact b4
/-! the reference's -/
theorem r_putL (d : Nat) (hd : 1 ≤ d) (hs : s ≤ 3) (hs1 : 1 ≤ s) {x0 : Int32} {z v m : Nat} {l : Nat → Nat} (c1 : J 0 = nI s) (hz : J 4 = nI z) (z40 : z ≤ 40) (hl : ∀ q, q < z → l q ≤ s) : ∀ (j i f : Nat) (B : Nat → Nat → Int32), i + j = z → (∀ q, q < z → B 2 q = nI (if q < i then on1 s (l q) else l q)) → ∃ B', (∀ t, zR d (f + (2 * j + 1)) 197 88 [some (.ref 1000), some (.int x0), some (.int (nI v)), some (.int (nI m)), some (.int (nI i))] [] (t, hM J B L) = zR d f 197 80 [some (.ref 1000), some (.int x0), some (.int (nI v)), some (.int (nI (m + 1))), some (.int (nI z))] [] (t, hM J B' L)) ∧ (∀ c, c ≠ 2 → B' c = B c) ∧ ∀ q, q < z → B' 2 q = nI (on1 s (l q)) := by
  intro j
  induction j with
  | zero =>
    intro i f B hi hB
    have e : i = z := by omega
    refine ⟨B, fun t => ?_, fun c _ => rfl, fun q hq => by rw [hB q hq, if_pos (by omega)]⟩
    rw [show f + (2 * 0 + 1) = f + 1 from rfl, e_X10_does_at88, hz, pn_t (nI_le (by omega) (by omega)), nI_1, e]
  | succ j ih =>
    intro i f B hi hB
    have hi' := hB i (by omega)
    rw [if_neg (by omega)] at hi'
    have h1 := hl i (by omega)
    obtain ⟨B', a1, a2, a3⟩ := ih (i + 1) f (va_up B 2 (upd (B 2) i (nI (on1 s (l i))))) (by omega) (fun q hq => by
      rw [vu_eq]
      by_cases e : q = i
      · subst e; rw [upd_eq, if_pos (by omega)]
      · rw [upd_ne e, hB q hq]
        by_cases e' : q < i
        · rw [if_pos e', if_pos (by omega)]
        · rw [if_neg e', if_neg (by omega)])
    refine ⟨B', fun t => ?_, fun c hc => by rw [a2 c hc, vu_ne hc], a3⟩
    rw [show f + (2 * (j + 1) + 1) = (f + (2 * j + 1)) + 1 + 1 from rfl, e_X10_does_at88, hz, pn_f (nI_ge (by omega) (by omega)), pn_in (show i < 40 by omega) (by decide), cond_true, pn_cl (by omega), hi', r_on hd t J B L c1 h1 (by omega), pn_c1, e_X10_does_at114, pn_in (show i < 40 by omega) (by decide), cond_true, pn_cl (by omega), nI_1]
    exact a1 t
theorem r_put80 (d : Nat) (hd : 1 ≤ d) (hs : s ≤ 3) (hs1 : 1 ≤ s) {x0 : Int32} (c1 : J 0 = nI s) {v : Nat} (hv : v ≤ 9) : ∀ (j i f : Nat) (B : Nat → Nat → Int32) (q : Nat × (Nat → Nat)) (o4 : Option Value), i + j = v → pcM s J B q → 90 * j < f → ∃ B', (∀ t, zR d f 197 80 [some (.ref 1000), some (.int x0), some (.int (nI v)), some (.int (nI i)), o4] [] (t, hM J B L) = some (none, (t, hM J B' L))) ∧ (∀ c, c ≠ 2 → B' c = B c) ∧ pcM s J B' (q.1, itr s j q.2) := by
  intro j
  induction j with
  | zero =>
    intro i f B q o4 hi h hf
    obtain ⟨f, rfl⟩ : ∃ e, f = e + 1 := ⟨f - 1, by omega⟩
    refine ⟨B, fun t => ?_, fun c _ => rfl, h⟩
    rw [e_X10_does_at80, pn_t (nI_le (by omega) (by omega))]
  | succ j ih =>
    intro i f B q o4 hi h hf
    obtain ⟨h1, h2, h3⟩ := id h
    obtain ⟨f, rfl⟩ : ∃ e, f = (e + (2 * q.1 + 1)) + 1 := ⟨f - 2 * q.1 - 2, by omega⟩
    obtain ⟨B1, a1, a2, a3⟩ := r_putL (J := J) (L := L) (x0 := x0) (v := v) (m := i) (l := q.2) d hd hs hs1 c1 h1 h2 (fun i hi => (h3 i hi).2.2) q.1 0 f B (by omega) (fun i hi => by rw [if_neg (by omega)]; exact (h3 i hi).1)
    obtain ⟨B', b1, b2, b3⟩ := ih (i + 1) f B1 (q.1, fun i => on1 s (q.2 i)) (some (.int (nI q.1))) (by omega) ⟨h1, h2, fun i hi => ⟨a3 i hi, on1_ok hs1⟩⟩ (by omega)
    refine ⟨B', fun t => ?_, fun c hc => (b2 c hc).trans (a2 c hc), b3⟩
    have a1' : ∀ t, zR d (f + (2 * q.1 + 1)) 197 88 [some (.ref 1000), some (.int x0), some (.int (nI v)), some (.int (nI i)), some (.int 0)] [] (t, hM J B L) = _ := a1
    rw [e_X10_does_at80, pn_f (nI_ge (by omega) (by omega)), a1' t]
    exact b1 t
theorem r_does {d : Nat} (hd : 2 ≤ d) (hs : s ≤ 3) (hs1 : 1 ≤ s) (c1 : J 0 = nI s) {what v : Nat} (hw : what ≤ 2) (hv1 : 1 ≤ v) (hv : v ≤ 9) {q : Nat × (Nat → Nat)} (h : pcM s J B q) : ∃ J' B', (∀ t, zC d 197 [.ref 1000, .int (nI what), .int (nI v)] (t, hM J B L) = some (none, (t, hM J' B' L))) ∧ (∀ c, c ≠ 4 → J' c = J c) ∧ (∀ c, c ≠ 2 → B' c = B c) ∧ pcM s J' B' (stS s what v q) := by
  obtain ⟨d, rfl⟩ : ∃ e, d = e + 1 := ⟨d - 1, by omega⟩
  obtain ⟨h1, h2, h3⟩ := id h
  have e2 := fun t => e_X10_does d J B L t (nI what) (nI v)
  simp only [c1, h1] at e2
  have ha : what = 0 ∨ what = 1 ∨ what = 2 := by omega
  unfold stS
  rcases ha with rfl | rfl | rfl
  · simp only [pn_t (show Int32.toInt (nI 0) = 0 by decide)] at e2
    rw [if_neg (by decide), if_neg (by decide)]
    by_cases cv : s < v
    · simp only [pn_t (nI_lt cv (show v < 2 ^ 31 by omega))] at e2
      rw [if_neg (by omega)]
      exact ⟨J, B, e2, fun c _ => rfl, fun c _ => rfl, h⟩
    · simp only [pn_f (nI_nlt (show v ≤ s by omega) (show s < 2 ^ 31 by omega))] at e2
      by_cases cz : q.1 < 40
      · simp only [pn_f (show ¬ (40 : Int32) ≤ nI q.1 from nI_ge (b := 40) cz (by decide)), pn_in cz (show 40 < 2 ^ 31 by decide), cond_true, pn_cl (show q.1 < 2 ^ 31 by omega), nI_1] at e2
        rw [if_pos (by omega)]
        refine ⟨_, _, e2, fun c hc => upd_ne hc, fun c hc => vu_ne hc, upd_eq, by dsimp only; omega, fun i hi => ?_⟩
        dsimp only at hi ⊢
        rw [vu_eq]
        by_cases e : i = q.1
        · rw [e, upd_eq, if_pos rfl]; exact ⟨rfl, by omega, by omega⟩
        · rw [upd_ne e, if_neg e]; exact h3 i (by omega)
      · simp only [pn_t (show (40 : Int32) ≤ nI q.1 from nI_le (a := 40) (by omega) (by omega))] at e2
        rw [if_neg (by omega)]
        exact ⟨J, B, e2, fun c _ => rfl, fun c _ => rfl, h⟩
  · simp only [pn_f (show ¬ Int32.toInt (nI 1) = 0 by decide), pn_t (show Int32.toInt (nI 1) = 1 by decide), i_max (show q.1 < 2 ^ 30 by omega) (show v < 2 ^ 30 by omega)] at e2
    rw [if_pos rfl]
    exact ⟨_, _, e2, fun c hc => upd_ne hc, fun c _ => rfl, upd_eq, by dsimp only; omega, fun i hi => by dsimp only at hi ⊢; exact h3 i (by omega)⟩
  · simp only [pn_f (show ¬ Int32.toInt (nI 2) = 0 by decide), pn_f (show ¬ Int32.toInt (nI 2) = 1 by decide)] at e2
    rw [if_neg (by decide), if_pos rfl]
    obtain ⟨B', b1, b2, b3⟩ := r_put80 (J := J) (L := L) (x0 := nI 2) d (by omega) hs hs1 c1 hv v 0 10000000 B q none (by omega) h (by omega)
    exact ⟨J, B', fun t => (e2 t).trans (b1 t), fun c _ => rfl, b2, b3⟩
theorem r_planL (d : Nat) (hd : 2 ≤ d) (hs : s ≤ 3) (hs1 : 1 ≤ s) {x1 : Int32} {r : Nat} {a v : Nat → Nat} (r8 : r ≤ 8) (hr : ∀ i, i < r → a i ≤ 2 ∧ 1 ≤ v i ∧ v i ≤ 9) : ∀ (j k : Nat) (J : Nat → Int32) (B : Nat → Nat → Int32) (q : Nat × (Nat → Nat)), k + j = r → J 0 = nI s → J 10 = nI r → (∀ i, i < r → B 5 i = nI (a i) ∧ B 6 i = nI (v i)) → pcM s J B q → ∃ J' B', (∀ f t, zR d (f + j) 198 69 [some (.ref 1000), some (.int x1), some (.int (nI k)), none] [] (t, hM J B L) = zR d f 198 69 [some (.ref 1000), some (.int x1), some (.int (nI r)), none] [] (t, hM J' B' L)) ∧ (∀ c, c ≠ 4 → J' c = J c) ∧ (∀ c, c ≠ 2 → B' c = B c) ∧ pcM s J' B' (pln s a v j k q) := by
  intro j
  induction j with
  | zero =>
    intro k J B q hk c1 c5 cr h
    have e : k = r := by omega
    subst e
    exact ⟨J, B, fun f t => by rw [Nat.add_zero], fun c _ => rfl, fun c _ => rfl, h⟩
  | succ j ih =>
    intro k J B q hk c1 c5 cr h
    have hrk := hr k (by omega)
    have crk := cr k (by omega)
    obtain ⟨J1, B1, a1, a2, a3, a4⟩ := r_does (J := J) (B := B) (L := L) (d := d) hd hs hs1 c1 hrk.1 hrk.2.1 hrk.2.2 h
    obtain ⟨J', B', b1, b2, b3, b4⟩ := ih (k + 1) J1 B1 _ (by omega) ((a2 0 (by decide)).trans c1) ((a2 10 (by decide)).trans c5) (fun i hi => by rw [a3 5 (by decide), a3 6 (by decide)]; exact cr i hi) a4
    refine ⟨J', B', fun f t => ?_, fun c hc => (b2 c hc).trans (a2 c hc), fun c hc => (b3 c hc).trans (a3 c hc), b4⟩
    have e2 := e_X10_behind_at69 d (f + j) J B L t x1 (nI k)
    simp only [c5, pn_f (nI_ge (show k < r by omega) (show r < 2 ^ 31 by omega)), pn_in (show k < 8 by omega) (show 8 < 2 ^ 31 by decide), cond_true, pn_cl (show k < 2 ^ 31 by omega), crk.1, crk.2, a1 t, pn_c0, nI_1] at e2
    rw [show f + (j + 1) = (f + j) + 1 from rfl, e2]
    exact b1 f t
theorem r_hold (d : Nat) {x1 : Int32} : ∀ (j i : Nat) (B : Nat → Nat → Int32), i + j = 40 → ∃ B', (∀ f t, zR d (f + (j + 1)) 198 43 [some (.ref 1000), some (.int x1), some (.int (nI i)), none] [] (t, hM J B L) = zR d f 198 69 [some (.ref 1000), some (.int x1), some (.int (nI 0)), none] [] (t, hM J B' L)) ∧ (∀ c, c ≠ 13 → B' c = B c) ∧ (∀ q, i ≤ q → q < 40 → B' 13 q = B 2 q) ∧ ∀ q, q < i → B' 13 q = B 13 q := by
  intro j
  induction j with
  | zero =>
    intro i B hi
    refine ⟨B, fun f t => ?_, fun c _ => rfl, fun q h1 h2 => by omega, fun q _ => rfl⟩
    rw [e_X10_behind_at43, pn_t (show (40 : Int32) ≤ nI i from nI_le (a := 40) (by omega) (by omega))]
    rfl
  | succ j ih =>
    intro i B hi
    obtain ⟨B', b1, b2, b3, b4⟩ := ih (i + 1) (va_up B 13 (upd (B 13) i (B 2 i))) (by omega)
    refine ⟨B', fun f t => ?_, fun c hc => by rw [b2 c hc, vu_ne hc], fun q h1 h2 => ?_, fun q hq => ?_⟩
    · rw [show f + (j + 1 + 1) = (f + (j + 1)) + 1 from rfl, e_X10_behind_at43, pn_f (show ¬ (40 : Int32) ≤ nI i from nI_ge (b := 40) (by omega) (by decide)), pn_in (show i < 40 by omega) (by decide), cond_true, cond_true, pn_cl (by omega), nI_1]
      exact b1 f t
    · rcases Nat.lt_or_ge i q with u | u
      · rw [b3 q u h2, vu_ne (by decide)]
      · rw [b4 q (by omega), vu_eq, show q = i by omega, upd_eq]
    · rw [b4 q (by omega), vu_eq, upd_ne (by omega)]
theorem r_back (d : Nat) {x1 x2 : Int32} : ∀ (j i f : Nat) (B : Nat → Nat → Int32), i + j = 40 → j < f → ∃ B', (∀ t, zR d f 198 141 [some (.ref 1000), some (.int x1), some (.int x2), some (.int (nI i))] [] (t, hM J B L) = some (some (.int x2), (t, hM J B' L))) ∧ (∀ c, c ≠ 2 → B' c = B c) ∧ (∀ q, i ≤ q → q < 40 → B' 2 q = B 13 q) ∧ ∀ q, q < i → B' 2 q = B 2 q := by
  intro j
  induction j with
  | zero =>
    intro i f B hi hf
    obtain ⟨f, rfl⟩ : ∃ e, f = e + 1 := ⟨f - 1, by omega⟩
    refine ⟨B, fun t => ?_, fun c _ => rfl, fun q h1 h2 => by omega, fun q _ => rfl⟩
    rw [e_X10_behind_at141, pn_t (show (40 : Int32) ≤ nI i from nI_le (a := 40) (by omega) (by omega))]
  | succ j ih =>
    intro i f B hi hf
    obtain ⟨f, rfl⟩ : ∃ e, f = e + 1 := ⟨f - 1, by omega⟩
    obtain ⟨B', b1, b2, b3, b4⟩ := ih (i + 1) f (va_up B 2 (upd (B 2) i (B 13 i))) (by omega) (by omega)
    refine ⟨B', fun t => ?_, fun c hc => by rw [b2 c hc, vu_ne hc], fun q h1 h2 => ?_, fun q hq => ?_⟩
    · rw [e_X10_behind_at141, pn_f (show ¬ (40 : Int32) ≤ nI i from nI_ge (b := 40) (by omega) (by decide)), pn_in (show i < 40 by omega) (by decide), cond_true, cond_true, pn_cl (by omega), nI_1]
      exact b1 t
    · rcases Nat.lt_or_ge i q with u | u
      · rw [b3 q u h2, vu_ne (by decide)]
      · rw [b4 q (by omega), vu_eq, show q = i by omega, upd_eq]
    · rw [b4 q (by omega), vu_eq, upd_ne (by omega)]
end BH
