/-! the tape -/
def apl (r : Nat) : Nat → Nat → Nat
  | 0, cl => cl
  | k + 1, cl => apl r k (cl * 10 + r)
abbrev TS : Type := Nat × (Nat → Nat) × Nat × Nat
def stT (s : Nat) (q : TS) (b : Nat) : Option TS := match q with
  | (m, T, cl, rp) => if b = 59 then (if cl = 0 then none else some (m + 1, (fun i => if i = m then cl else T i), 0, 0)) else if 50 ≤ b ∧ b ≤ 53 then (if rp = 0 then none else if wl cl + (b - 49) ≤ 5 then some (m, T, apl rp (b - 49) cl, 0) else none) else if 97 ≤ b ∧ b < 97 + s then (if wl cl + 1 ≤ 5 then some (m, T, cl * 10 + (b - 96), b - 96) else none) else none
def rnT (s : Nat) (c : Nat → Nat) : Nat → Nat → TS → Sum Nat (Nat × (Nat → Nat))
  | 0, i, q => if q.2.2.1 = 0 then .inl i else .inr (q.1 + 1, fun k => if k = q.1 then q.2.2.1 else q.2.1 k)
  | j + 1, i, q => match stT s q (c i) with
    | none => .inl i
    | some q' => rnT s c j (i + 1) q'
theorem rnT_n {s : Nat} {c : Nat → Nat} {j i : Nat} {q : TS} (h : stT s q (c i) = none) : rnT s c (j + 1) i q = .inl i := by
  simp only [rnT, h]
theorem rnT_s {s : Nat} {c : Nat → Nat} {j i : Nat} {q q' : TS} (h : stT s q (c i) = some q') : rnT s c (j + 1) i q = rnT s c j (i + 1) q' := by
  simp only [rnT, h]
theorem apl_dg {s r : Nat} (hs : s ≤ 3) (h1 : 1 ≤ r) (h2 : r ≤ s) : ∀ k n cl, dg s n cl → dg s (n + k) (apl r k cl)
  | 0, n, cl, h => h
  | k + 1, n, cl, h => by
    have := apl_dg hs h1 h2 k (n + 1) _ (dg_push hs h h1 h2)
    rw [show n + 1 + k = n + (k + 1) by omega] at this
    exact this
theorem apl_s (r : Nat) : ∀ k cl, apl r (k + 1) cl = apl r k (cl * 10 + r) := fun _ _ => rfl
theorem dg_wl {s n cl : Nat} (h : dg s n cl) (hn : n ≤ 5) : wl cl = n ∧ cl < 100000 := by
  cases n with
  | zero => have h : cl = 0 := h; subst h; decide
  | succ n =>
    have h1 := dg_okw h (by omega)
    exact ⟨h1.2, (okw_lt h1.1).2⟩
theorem dg_0 {s n cl : Nat} (h : dg s n cl) : cl = 0 ↔ n = 0 := by
  cases n with
  | zero => have h : cl = 0 := h; subst h; exact ⟨fun _ => rfl, fun _ => rfl⟩
  | succ n => have := h.2; constructor <;> intro q <;> omega
/-- what holds of a reader's state at a place -/
def vT (s i : Nat) (q : TS) : Prop := q.1 ≤ i ∧ (∃ n, n ≤ 5 ∧ dg s n q.2.2.1) ∧ q.2.2.2 ≤ s ∧ ∀ k, k < q.1 → okw s (q.2.1 k) = true
theorem told_ok {s m n cl : Nat} {T : Nat → Nat} (hT : ∀ k, k < m → okw s (T k) = true) (h : dg s n cl) (hn : n ≤ 5) (h0 : cl ≠ 0) : ∀ k, k < m + 1 → okw s (if k = m then cl else T k) = true := by
  intro k hk
  by_cases e : k = m
  · rw [if_pos e]
    have : n ≠ 0 := fun q => h0 ((dg_0 h).mpr q)
    obtain ⟨n, rfl⟩ : ∃ e, n = e + 1 := ⟨n - 1, by omega⟩
    exact (dg_okw h (by omega)).1
  · rw [if_neg e]; exact hT k (by omega)
theorem stT_ok {s i b : Nat} {q q' : TS} (hs : s ≤ 3) (h : vT s i q) (e : stT s q b = some q') : vT s (i + 1) q' := by
  obtain ⟨m, T, cl, rp⟩ := q
  obtain ⟨h1, ⟨n, hn, hd⟩, h3, h4⟩ := h
  dsimp only at h1 hd h3 h4
  have hw := dg_wl hd hn
  simp only [stT] at e
  by_cases b1 : b = 59
  · rw [if_pos b1] at e
    by_cases c0 : cl = 0
    · rw [if_pos c0] at e; cases e
    · rw [if_neg c0] at e
      cases e
      exact ⟨by dsimp only; omega, ⟨0, by omega, rfl⟩, Nat.zero_le _, told_ok h4 hd hn c0⟩
  · rw [if_neg b1] at e
    by_cases b2 : 50 ≤ b ∧ b ≤ 53
    · rw [if_pos b2] at e
      by_cases r0 : rp = 0
      · rw [if_pos r0] at e; cases e
      · rw [if_neg r0] at e
        by_cases l5 : wl cl + (b - 49) ≤ 5
        · rw [if_pos l5] at e
          cases e
          exact ⟨by dsimp only; omega, ⟨n + (b - 49), by omega, apl_dg hs (by omega) h3 _ _ _ hd⟩, Nat.zero_le _, h4⟩
        · rw [if_neg l5] at e; cases e
    · rw [if_neg b2] at e
      by_cases b3 : 97 ≤ b ∧ b < 97 + s
      · rw [if_pos b3] at e
        by_cases l5 : wl cl + 1 ≤ 5
        · rw [if_pos l5] at e
          cases e
          exact ⟨by dsimp only; omega, ⟨n + 1, by omega, dg_push hs hd (by omega) (by omega)⟩, by dsimp only; omega, h4⟩
        · rw [if_neg l5] at e; cases e
      · rw [if_neg b3] at e; cases e
theorem rnT_ok {s : Nat} {c : Nat → Nat} (hs : s ≤ 3) : ∀ j i q, vT s i q → (∀ p, rnT s c j i q = .inl p → p ≤ i + j) ∧ ∀ M T, rnT s c j i q = .inr (M, T) → M ≤ i + j + 1 ∧ ∀ k, k < M → okw s (T k) = true := by
  intro j
  induction j with
  | zero =>
    intro i q h
    obtain ⟨h1, ⟨n, hn, hd⟩, h3, h4⟩ := h
    simp only [rnT]
    by_cases c0 : q.2.2.1 = 0
    · rw [if_pos c0]
      exact ⟨fun p e => by cases e; omega, fun M T e => by cases e⟩
    · rw [if_neg c0]
      refine ⟨fun p e => by (cases e), fun M T e => ?_⟩
      cases e
      exact ⟨by omega, told_ok h4 hd hn c0⟩
  | succ j ih =>
    intro i q h
    cases e : stT s q (c i) with
    | none =>
      rw [rnT_n e]
      exact ⟨fun p e => by cases e; omega, fun M T e => by cases e⟩
    | some q' =>
      rw [rnT_s e]
      have := ih (i + 1) q' (stT_ok hs h e)
      exact ⟨fun p e => by have := this.1 p e; omega, fun M T e => by have := this.2 M T e; exact ⟨by omega, this.2⟩⟩
def rsC : Sum Nat (Nat × (Nat → Nat)) → Int32
  | .inl p => nI p
  | .inr _ => -1
def rsM : Sum Nat (Nat × (Nat → Nat)) → Int32
  | .inl p => -100 - nI p
  | .inr q => nI q.1
section TP
variable {I : Nat → Int32} {A : Nat → Nat → Int32} {J : Nat → Int32} {B : Nat → Nat → Int32} {L : Nat → Nat → Int64} {t : List zm_E} {s : Nat}
/-- the class's reader -/
def tpC (I : Nat → Int32) (A : Nat → Nat → Int32) (q : TS) : Prop := I 1703 = nI q.1 ∧ I 1704 = nI q.2.2.1 ∧ I 1705 = nI q.2.2.2 ∧ ∀ k, k < q.1 → k < 6 → A 19 k = nI (q.2.1 k)
theorem c_addLL (d : Nat) {r k : Nat} (hk : k ≤ 5) : ∀ (j i f cl : Nat) (I : Nat → Int32), i + j = k → j < f → I 1704 = nI cl → ∃ I', (∀ t, zR d f 54 17 [some (.ref 17), some (.int (nI r)), some (.int (nI k)), some (.int (nI i))] [] (hC I A, t) = some (some (.int 1), (hC I' A, t))) ∧ (∀ c, c ≠ 1704 → I' c = I c) ∧ I' 1704 = nI (apl r j cl) := by
  intro j
  induction j with
  | zero =>
    intro i f cl I hi hf h
    obtain ⟨f, rfl⟩ : ∃ e, f = e + 1 := ⟨f - 1, by omega⟩
    refine ⟨I, fun t => ?_, fun c _ => rfl, h⟩
    rw [e_X7_addLetters_at17, pn_t (nI_le (by omega) (by omega))]
  | succ j ih =>
    intro i f cl I hi hf h
    obtain ⟨f, rfl⟩ : ∃ e, f = e + 1 := ⟨f - 1, by omega⟩
    obtain ⟨I', b1, b2, b3⟩ := ih (i + 1) f (cl * 10 + r) (upd I 1704 (nI (cl * 10 + r))) (by omega) (by omega) upd_eq
    refine ⟨I', fun t => ?_, fun c hc => by rw [b2 c hc, upd_ne hc], b3⟩
    rw [e_X7_addLetters_at17, pn_f (nI_ge (by omega) (by omega)), h, show (10 : Int32) = nI 10 from rfl, pk_mul, nI_add, nI_1]
    exact b1 t
theorem c_add {d r k cl : Nat} (hd : 2 ≤ d) (hk : k ≤ 5) (h : I 1704 = nI cl) (hcl : cl < 100000) : ∃ I', (∀ t, zC d 54 [.ref 17, .int (nI r), .int (nI k)] (hC I A, t) = some (some (.int (b01 (decide (wl cl + k ≤ 5)))), (hC I' A, t))) ∧ (∀ c, c ≠ 1704 → I' c = I c) ∧ (wl cl + k ≤ 5 → I' 1704 = nI (apl r k cl)) := by
  obtain ⟨d, rfl⟩ : ∃ e, d = e + 1 := ⟨d - 1, by omega⟩
  have l5 := wl_le cl
  have e := fun t => e_X7_addLetters d I A t (nI r) (nI k)
  simp only [h, s_length (show 1 ≤ d by omega) _ (show cl < 2 ^ 31 by omega), pn_c1, nI_add] at e
  by_cases c : wl cl + k ≤ 5
  · obtain ⟨I', b1, b2, b3⟩ := c_addLL (A := A) (r := r) d hk k 0 10000000 cl I (by omega) (by omega) h
    refine ⟨I', fun t => ?_, b2, fun _ => b3⟩
    rw [e, pn_t (show nI (wl cl + k) ≤ (5 : Int32) from nI_le (b := 5) c (by decide)), decide_eq_true c]
    exact b1 t
  · refine ⟨I, fun t => ?_, fun c _ => rfl, fun q => absurd q c⟩
    rw [e, pn_f (show ¬ nI (wl cl + k) ≤ (5 : Int32) from nI_ge (a := 5) (by omega) (by omega)), decide_eq_false c]
    rfl
theorem c_endCl {d m cl rp : Nat} {T : Nat → Nat} (hd : 1 ≤ d) (hm : m ≤ 60) (hcl : cl < 100000) (h : tpC I A (m, T, cl, rp)) : ∃ I' A', (∀ t, zC d 55 [.ref 17] (hC I A, t) = some (some (.int (b01 (decide (cl ≠ 0)))), (hC I' A', t))) ∧ (∀ c, c < 1703 → I' c = I c) ∧ (∀ c, c ≠ 19 → A' c = A c) ∧ (cl ≠ 0 → tpC I' A' (m + 1, (fun i => if i = m then cl else T i), 0, 0)) := by
  obtain ⟨d, rfl⟩ : ∃ e, d = e + 1 := ⟨d - 1, by omega⟩
  obtain ⟨h1, h2, h3, h4⟩ := h
  dsimp only at h1 h2 h3 h4
  have e := fun t => e_X7_endClause d I A t
  simp only [h1, h2] at e
  by_cases c0 : cl = 0
  · refine ⟨I, A, fun t => ?_, fun c _ => rfl, fun c _ => rfl, fun q => absurd c0 q⟩
    rw [e, pn_f (show ¬ ¬ nI cl = 0 by rw [c0]; decide), decide_eq_false (fun q => q c0)]
    rfl
  · simp only [pn_t (nI_ne0 (show 0 < cl by omega) (show cl < 2 ^ 31 by omega)), pn_f (nI_pos (show m < 2 ^ 31 by omega)), nI_1] at e
    by_cases c6 : m < 6
    · simp only [pn_f (show ¬ (6 : Int32) ≤ nI m from nI_ge (b := 6) c6 (by decide)), pn_in c6 (show 6 < 2 ^ 31 by decide), cond_true, pn_cl (show m < 2 ^ 31 by omega)] at e
      refine ⟨upd (upd (upd I 1703 (nI (m + 1))) 1704 0) 1705 0, va_up A 19 (upd (A 19) m (nI cl)), fun t => ?_, ?_, ?_, fun _ => ⟨?_, ?_, ?_, fun k hk k6 => ?_⟩⟩
      · rw [e, decide_eq_true c0]; rfl
      · intro c hc; rw [upd_ne (by omega), upd_ne (by omega), upd_ne (by omega)]
      · intro c hc; exact vu_ne hc
      · rfl
      · rfl
      · rfl
      · dsimp only at hk ⊢
        rw [vu_eq]
        by_cases ek : k = m
        · subst ek; rw [upd_eq, if_pos rfl]
        · rw [upd_ne ek, if_neg ek]; exact h4 k (by omega) k6
    · simp only [pn_t (show (6 : Int32) ≤ nI m from nI_le (a := 6) (by omega) (by omega))] at e
      refine ⟨upd (upd (upd I 1703 (nI (m + 1))) 1704 0) 1705 0, A, fun t => ?_, ?_, fun c _ => rfl, fun _ => ⟨?_, ?_, ?_, fun k hk k6 => ?_⟩⟩
      · rw [e, decide_eq_true c0]; rfl
      · intro c hc; rw [upd_ne (by omega), upd_ne (by omega), upd_ne (by omega)]
      · rfl
      · rfl
      · rfl
      · dsimp only at hk ⊢
        rw [if_neg (by omega)]; exact h4 k (by omega) k6
theorem zm01_b (b : Bool) : zm_01 (b01 b) = true := by cases b <;> decide
theorem c_step {d b m cl rp i : Nat} {T : Nat → Nat} (hd : 3 ≤ d) (hs : s ≤ 3) (hb : b ≤ 127) (hi : i ≤ 60) (hv : vT s i (m, T, cl, rp)) (h : tpC I A (m, T, cl, rp)) : ∃ I' A', (∀ t, zC d 53 [.ref 17, .int (nI b), .int (nI s)] (hC I A, t) = some (some (.int (b01 (stT s (m, T, cl, rp) b).isSome)), (hC I' A', t))) ∧ (∀ c, c < 1703 → I' c = I c) ∧ (∀ c, c ≠ 19 → A' c = A c) ∧ ∀ q', stT s (m, T, cl, rp) b = some q' → tpC I' A' q' := by
  obtain ⟨d, rfl⟩ : ∃ e, d = e + 1 := ⟨d - 1, by omega⟩
  obtain ⟨v1, ⟨n, hn, hdg⟩, v3, v4⟩ := id hv
  dsimp only at v1 hdg v3 v4
  obtain ⟨h1, h2, h3, h4⟩ := id h
  dsimp only at h1 h2 h3 h4
  have hw := dg_wl hdg hn
  have e := fun t => e_X7_goesOn d I A t (nI b) (nI s)
  simp only [stT]
  by_cases b1 : b = 59
  · subst b1
    obtain ⟨I', A', r1, r2, r3, r4⟩ := c_endCl (d := d) (by omega) (show m ≤ 60 by omega) hw.2 h
    simp only [pn_f (show ¬ ¬ nI 59 = 59 by decide), r1, pn_c1, zm01_b, cond_true] at e
    rw [if_pos rfl]
    refine ⟨I', A', fun t => ?_, r2, r3, fun q' e => ?_⟩
    · rw [e]
      by_cases c0 : cl = 0
      · rw [if_pos c0, decide_eq_false (fun q => q c0)]; rfl
      · rw [if_neg c0, decide_eq_true c0]; rfl
    · by_cases c0 : cl = 0
      · rw [if_pos c0] at e; cases e
      · rw [if_neg c0] at e; cases e; exact r4 c0
  · rw [if_neg b1]
    have n59 : ¬ nI b = 59 := fun q => b1 ((nI_eq (b := 59) (by omega) (by decide)).mp q)
    simp only [pn_t n59] at e
    by_cases b2 : 50 ≤ b ∧ b ≤ 53
    · rw [if_pos b2]
      simp only [pn_f (show ¬ nI b < (50 : Int32) from nI_nlt (b := 50) b2.1 (by omega)), pn_f (show ¬ (53 : Int32) < nI b from nI_nlt (a := 53) b2.2 (by decide)), h3] at e
      by_cases r0 : rp = 0
      · refine ⟨upd I 1705 0, A, fun t => ?_, ?_, fun c _ => rfl, ?_⟩
        · rw [e, pn_t (show nI rp = 0 by rw [r0]; rfl), if_pos r0]; rfl
        · intro c hc; exact upd_ne (by omega)
        · intro q' e; rw [if_pos r0] at e; cases e
      · obtain ⟨I', r1, r2, r3⟩ := c_add (I := upd I 1705 0) (A := A) (d := d) (r := rp) (k := b - 49) (by omega) (by omega) ((upd_ne (by decide)).trans h2) hw.2
        have eb : nI b - 49 = nI (b - 49) := pn_sub (b := 49) (by omega)
        simp only [pn_f (nI_ne0 (show 0 < rp by omega) (show rp < 2 ^ 31 by omega)), eb, r1, pn_c1] at e
        rw [if_neg r0]
        refine ⟨I', A, fun t => ?_, fun c hc => by rw [r2 c (by omega), upd_ne (by omega)], fun c _ => rfl, fun q' e => ?_⟩
        · rw [e]
          by_cases l5 : wl cl + (b - 49) ≤ 5
          · rw [if_pos l5, decide_eq_true l5]; rfl
          · rw [if_neg l5, decide_eq_false l5]; rfl
        · by_cases l5 : wl cl + (b - 49) ≤ 5
          · rw [if_pos l5] at e
            cases e
            exact ⟨(r2 1703 (by decide)).trans ((upd_ne (by decide)).trans h1), r3 l5, (r2 1705 (by decide)).trans upd_eq, h4⟩
          · rw [if_neg l5] at e; cases e
    · rw [if_neg b2]
      by_cases b3 : 97 ≤ b ∧ b < 97 + s
      · rw [if_pos b3]
        obtain ⟨I', r1, r2, r3⟩ := c_add (I := upd I 1705 (nI (b - 96))) (A := A) (d := d) (r := b - 96) (k := 1) (by omega) (by omega) ((upd_ne (by decide)).trans h2) hw.2
        have eb : nI b - 97 + 1 = nI (b - 96) := by
          rw [show nI b - 97 = nI (b - 97) from pn_sub (b := 97) (by omega), nI_1, show b - 97 + 1 = b - 96 by omega]
        have ea : (97 : Int32) + nI s = nI (97 + s) := nI_add 97 s
        have r1' : ∀ t, zC d 54 [.ref 17, .int (nI (b - 96)), .int 1] (hC (upd I 1705 (nI (b - 96))) A, t) = _ := r1
        simp only [pn_f (show ¬ nI b < (50 : Int32) from nI_nlt (b := 50) (by omega) (by omega)), pn_t (show (53 : Int32) < nI b from nI_lt (a := 53) (by omega) (by omega)), pn_f (show ¬ nI b < (97 : Int32) from nI_nlt (b := 97) b3.1 (by omega)), ea, pn_t (nI_lt b3.2 (show 97 + s < 2 ^ 31 by omega)), eb, upd_eq, r1', pn_c1, zm01_b, cond_true] at e
        refine ⟨I', A, fun t => ?_, fun c hc => by rw [r2 c (by omega), upd_ne (by omega)], fun c _ => rfl, fun q' e => ?_⟩
        · rw [e]
          by_cases l5 : wl cl + 1 ≤ 5
          · rw [if_pos l5, decide_eq_true l5]; rfl
          · rw [if_neg l5, decide_eq_false l5]; rfl
        · by_cases l5 : wl cl + 1 ≤ 5
          · rw [if_pos l5] at e
            cases e
            exact ⟨(r2 1703 (by decide)).trans ((upd_ne (by decide)).trans h1), r3 l5, (r2 1705 (by decide)).trans upd_eq, h4⟩
          · rw [if_neg l5] at e; cases e
      · rw [if_neg b3]
        have ea : (97 : Int32) + nI s = nI (97 + s) := nI_add 97 s
        refine ⟨I, A, fun t => ?_, fun c _ => rfl, fun c _ => rfl, fun q' e => by cases e⟩
        rw [e t]
        by_cases c1 : b < 50
        · rw [pn_t (show nI b < (50 : Int32) from nI_lt (b := 50) c1 (by decide)), pn_t (show nI b < (97 : Int32) from nI_lt (b := 97) (by omega) (by decide))]
          rfl
        · rw [pn_f (show ¬ nI b < (50 : Int32) from nI_nlt (b := 50) (by omega) (by omega)), pn_t (show (53 : Int32) < nI b from nI_lt (a := 53) (by omega) (by omega))]
          by_cases c2 : b < 97
          · rw [pn_t (show nI b < (97 : Int32) from nI_lt (b := 97) c2 (by decide))]
            rfl
          · rw [pn_f (show ¬ nI b < (97 : Int32) from nI_nlt (b := 97) (by omega) (by omega)), ea, pn_f (nI_nlt (show 97 + s ≤ b by omega) (show b < 2 ^ 31 by omega))]
            rfl
theorem c_readL (d : Nat) (hd : 3 ≤ d) (hs : s ≤ 3) {z : Nat} {c : Nat → Nat} (z60 : z ≤ 60) (hc : ∀ i, i < z → c i ≤ 127) : ∀ (j i f : Nat) (I : Nat → Int32) (A : Nat → Nat → Int32) (q : TS), i + j = z → j + 3 < f → I 1701 = nI z → (∀ i, i < z → A 18 i = nI (c i)) → vT s i q → tpC I A q → ∃ I' A', (∀ t, zR d f 52 17 [some (.ref 17), some (.int (nI s)), some (.int (nI i))] [] (hC I A, t) = some (some (.int (rsC (rnT s c j i q))), (hC I' A', t))) ∧ (∀ c, c < 1703 → I' c = I c) ∧ (∀ c, c ≠ 19 → A' c = A c) ∧ ∀ M T, rnT s c j i q = .inr (M, T) → I' 1703 = nI M ∧ ∀ k, k < M → k < 6 → A' 19 k = nI (T k) := by
  intro j
  induction j with
  | zero =>
    intro i f I A q hi hf hz hA hv h
    obtain ⟨m, T, cl, rp⟩ := q
    obtain ⟨f, rfl⟩ : ∃ e, f = e + 1 + 1 := ⟨f - 2, by omega⟩
    obtain ⟨v1, ⟨n, hn, hdg⟩, v3, v4⟩ := id hv
    dsimp only at v1 hdg v3 v4
    obtain ⟨I', A', r1, r2, r3, r4⟩ := c_endCl (d := d) (by omega) (show m ≤ 60 by omega) (dg_wl hdg hn).2 h
    refine ⟨I', A', fun t => ?_, r2, r3, fun M T' e => ?_⟩
    · rw [e_X7_read_at17, hz, pn_t (nI_le (by omega) (by omega)), r1, pn_c1, e_X7_read_at57]
      simp only [rnT]
      by_cases c0 : cl = 0
      · rw [decide_eq_false (show ¬ cl ≠ 0 from fun q => q c0), b01_f, d_00, cond_true, r2 1701 (by decide), hz, if_pos c0, show z = i by omega]
        rfl
      · rw [decide_eq_true c0, b01_t, d_10, cond_false, if_neg c0]
        rfl
    · simp only [rnT] at e
      by_cases c0 : cl = 0
      · rw [if_pos c0] at e; cases e
      · rw [if_neg c0] at e
        cases e
        have := r4 c0
        exact ⟨this.1, this.2.2.2⟩
  | succ j ih =>
    intro i f I A q hi hf hz hA hv h
    obtain ⟨m, T, cl, rp⟩ := q
    obtain ⟨f, rfl⟩ : ∃ e, f = e + 1 := ⟨f - 1, by omega⟩
    obtain ⟨I1, A1, r1, r2, r3, r4⟩ := c_step (d := d) hd hs (hc i (by omega)) (show i ≤ 60 by omega) hv h
    have e17 : ∀ t, zR d (f + 1) 52 17 [some (.ref 17), some (.int (nI s)), some (.int (nI i))] [] (hC I A, t) = bif decide (¬ b01 (stT s (m, T, cl, rp) (c i)).isSome = 0) then zR d f 52 17 [some (.ref 17), some (.int (nI s)), some (.int (nI (i + 1)))] [] (hC I1 A1, t) else some (some (.int (nI i)), (hC I1 A1, t)) := fun t => by
      rw [e_X7_read_at17, hz, pn_f (nI_ge (by omega) (by omega)), pn_f (show ¬ (60 : Int32) ≤ nI i from nI_ge (b := 60) (by omega) (by decide)), pn_in (show i < 60 by omega) (by decide), cond_true, pn_cl (by omega), hA i (by omega), r1, pn_c1, nI_1]
    cases e : stT s (m, T, cl, rp) (c i) with
    | none =>
      rw [rnT_n e]
      refine ⟨I1, A1, fun t => ?_, r2, r3, fun M T' e => by cases e⟩
      rw [e17, e]
      rfl
    | some q' =>
      rw [rnT_s e]
      obtain ⟨I', A', b1, b2, b3, b4⟩ := ih (i + 1) f I1 A1 q' (by omega) (by omega) ((r2 1701 (by decide)).trans hz) (fun i hi => by rw [r3 18 (by decide)]; exact hA i hi) (stT_ok hs hv e) (r4 q' e)
      refine ⟨I', A', fun t => ?_, fun c hc => (b2 c hc).trans (r2 c hc), fun c hc => (b3 c hc).trans (r3 c hc), b4⟩
      rw [e17, e]
      exact b1 t
/-! the reference's -/
def sg (c : Nat → Nat) (z i : Nat) : Nat := if i < z then c i else 0
theorem r_sign {d z i : Nat} {c : Nat → Nat} (hd : 1 ≤ d) (hz : J 12 = nI z) (z60 : z ≤ 60) (hB : ∀ i, i < z → B 7 i = nI (c i)) (hi : i ≤ 100) : zC d 146 [.ref 1000, .int (nI i)] (t, hM J B L) = some (some (.int (nI (sg c z i))), (t, hM J B L)) := by
  obtain ⟨d, rfl⟩ : ∃ e, d = e + 1 := ⟨d - 1, by omega⟩
  rw [e_X10_sign, hz]
  unfold sg
  by_cases c : i < z
  · rw [pn_f (nI_ge c (by omega)), pn_in (show i < 60 by omega) (by decide), cond_true, pn_cl (by omega), hB i c, if_pos c]
  · rw [pn_t (nI_le (by omega) (by omega)), if_neg c]
    rfl
theorem r_rep (d : Nat) {x1 x2 : Int32} {r k n : Nat} (hk : k ≤ 5) (hn : n ≤ 5) : ∀ (j i f cl : Nat), i + j = k → zR d (f + (j + 1)) 147 105 [some (.ref 1000), some (.int x1), some (.int x2), some (.int (nI cl)), some (.int (nI n)), some (.int (nI r)), some (.int (nI k)), some (.int (nI i))] [] (t, hM J B L) = zR d f 147 9 [some (.ref 1000), some (.int x1), some (.int x2), some (.int (nI (apl r j cl))), some (.int (nI (n + k))), some (.int (nI r)), some (.int (nI k)), some (.int (nI k))] [] (t, hM J B L) := by
  intro j
  induction j with
  | zero =>
    intro i f cl hi
    rw [e_X10_reads_at105, pn_t (nI_le (by omega) (by omega)), nI_add, show i = k by omega]
    rfl
  | succ j ih =>
    intro i f cl hi
    rw [show f + (j + 1 + 1) = (f + (j + 1)) + 1 from rfl, e_X10_reads_at105, pn_f (nI_ge (by omega) (by omega)), show (10 : Int32) = nI 10 from rfl, pk_mul, nI_add, nI_1, ih (i + 1) f _ (by omega), Nat.mul_comm 10 cl]
    rfl
theorem r_readL (d : Nat) (hd : 2 ≤ d) (hJ : J 0 = nI s) (hs : s ≤ 3) (hs1 : 1 ≤ s) {z : Nat} {c : Nat → Nat} (hz : J 12 = nI z) (z60 : z ≤ 60) (hc : ∀ i, i < z → c i ≤ 127) : ∀ (g j i f m cl rp n : Nat) (T : Nat → Nat) (B : Nat → Nat → Int32) (o5 o6 o7 : Option Value), j ≤ g → i + j = z → 20 * j + 20 < f → vT s i (m, T, cl, rp) → n ≤ 5 → dg s n cl → (rp = 0 ∨ ¬ (50 ≤ sg c z i ∧ sg c z i ≤ 53)) → (∀ k, k < m → k < 6 → B 12 k = nI (T k)) → (∀ i, i < z → B 7 i = nI (c i)) → ∃ B', (∀ t, zR d f 147 9 [some (.ref 1000), some (.int (nI m)), some (.int (nI i)), some (.int (nI cl)), some (.int (nI n)), o5, o6, o7] [] (t, hM J B L) = some (some (.int (rsM (rnT s c j i (m, T, cl, rp)))), (t, hM J B' L))) ∧ (∀ c, c ≠ 12 → B' c = B c) ∧ ∀ M T', rnT s c j i (m, T, cl, rp) = .inr (M, T') → ∀ k, k < M → k < 6 → B' 12 k = nI (T' k) := by
  intro g
  induction g with
  | zero =>
    intro j i f m cl rp n T B o5 o6 o7 hg hi hf hv hn hdg hrp hB hB7
    have hj : j = 0 := by omega
    subst hj
    obtain ⟨f, rfl⟩ : ∃ e, f = e + 1 + 1 + 1 := ⟨f - 3, by omega⟩
    obtain ⟨v1, -, v3, v4⟩ := id hv
    dsimp only at v1 v3 v4
    have hsg : sg c z i = 0 := by unfold sg; rw [if_neg (by omega)]
    have ea : (97 : Int32) + nI s - 1 = nI (96 + s) := by
      rw [show (97 : Int32) + nI s = nI (97 + s) from nI_add 97 s, show 97 + s = 96 + s + 1 by omega, nI_pred]
    have hin : decide ((97 : Int32) ≤ nI 0 ∧ nI 0 ≤ nI (96 + s)) = false := decide_eq_false (fun q => absurd q.1 (by decide))
    have e0 : ∀ t, zR d (f + 1 + 1 + 1) 147 9 [some (.ref 1000), some (.int (nI m)), some (.int (nI i)), some (.int (nI cl)), some (.int (nI n)), o5, o6, o7] [] (t, hM J B L) = zR d (f + 1) 147 28 [some (.ref 1000), some (.int (nI m)), some (.int (nI i)), some (.int (nI cl)), some (.int (nI n)), o5, o6, o7] [(.int 0)] (t, hM J B L) := fun t => by
      rw [e_X10_reads_at9, r_sign (by omega) hz z60 hB7 (by omega), pn_c1, e_X10_reads_at14, hJ, ea, r_in (by omega), pn_c1, hsg, hin]
      rfl
    simp only [rnT]
    by_cases c0 : cl = 0
    · have n0 := (dg_0 hdg).mp c0
      rw [if_pos c0]
      refine ⟨B, fun t => ?_, fun c _ => rfl, fun M T' e => by cases e⟩
      rw [e0, e_X10_reads_at28, d_00, cond_true, pn_f (show ¬ ¬ nI n = 0 by rw [n0]; decide)]
      rfl
    · have n0 : n ≠ 0 := fun q => c0 ((dg_0 hdg).mpr q)
      rw [if_neg c0]
      by_cases c6 : m < 6
      · refine ⟨va_up B 12 (upd (B 12) m (nI cl)), fun t => ?_, fun c hc => vu_ne hc, fun M T' e k hk k6 => ?_⟩
        · rw [e0, e_X10_reads_at28, d_00, cond_true, pn_t (nI_ne0 (by omega) (by omega)), pn_f (show ¬ (6 : Int32) ≤ nI m from nI_ge (b := 6) c6 (by decide)), pn_in c6 (by decide), cond_true, pn_f (show ¬ ¬ nI i = J 12 by rw [hz, show i = z by omega]; exact fun q => q rfl), pn_cl (by omega), nI_1]
          rfl
        · cases e
          dsimp only at hk ⊢
          rw [vu_eq]
          by_cases ek : k = m
          · subst ek; rw [upd_eq, if_pos rfl]
          · rw [upd_ne ek, if_neg ek]; exact hB k (by omega) k6
      · refine ⟨B, fun t => ?_, fun c hc => rfl, fun M T' e k hk k6 => ?_⟩
        · rw [e0, e_X10_reads_at28, d_00, cond_true, pn_t (nI_ne0 (by omega) (by omega)), pn_t (show (6 : Int32) ≤ nI m from nI_le (a := 6) (by omega) (by omega)), pn_f (show ¬ ¬ nI i = J 12 by rw [hz, show i = z by omega]; exact fun q => q rfl), nI_1]
          rfl
        · cases e
          dsimp only at hk ⊢
          rw [if_neg (by omega)]; exact hB k (by omega) k6
  | succ g ih =>
    intro j i f m cl rp n T B o5 o6 o7 hg hi hf hv hn hdg hrp hB hB7
    rcases Nat.eq_zero_or_pos j with hj | hj
    · exact ih j i f m cl rp n T B o5 o6 o7 (by omega) hi hf hv hn hdg hrp hB hB7
    obtain ⟨j, rfl⟩ : ∃ e, j = e + 1 := ⟨j - 1, by omega⟩
    obtain ⟨f, rfl⟩ : ∃ e, f = e + 15 + 1 + 1 + 1 := ⟨f - 18, by omega⟩
    obtain ⟨v1, -, v3, v4⟩ := id hv
    dsimp only at v1 v3 v4
    have hw := dg_wl hdg hn
    have hsg : sg c z i = c i := by unfold sg; rw [if_pos (by omega)]
    have hb := hc i (by omega)
    rw [hsg] at hrp
    have ea : (97 : Int32) + nI s - 1 = nI (96 + s) := by
      rw [show (97 : Int32) + nI s = nI (97 + s) from nI_add 97 s, show 97 + s = 96 + s + 1 by omega, nI_pred]
    have hin : decide ((97 : Int32) ≤ nI (c i) ∧ nI (c i) ≤ nI (96 + s)) = decide (97 ≤ c i ∧ c i < 97 + s) := by
      rw [decide_eq_decide, show (97 : Int32) = nI 97 from rfl, nI_leI (by decide) (by omega), nI_leI (by omega) (by omega)]
      omega
    have e0 : ∀ t, zR d (f + 15 + 1 + 1 + 1) 147 9 [some (.ref 1000), some (.int (nI m)), some (.int (nI i)), some (.int (nI cl)), some (.int (nI n)), o5, o6, o7] [] (t, hM J B L) = zR d (f + 15 + 1) 147 28 [some (.ref 1000), some (.int (nI m)), some (.int (nI i)), some (.int (nI cl)), some (.int (nI n)), o5, o6, o7] [(.int (b01 (decide (97 ≤ c i ∧ c i < 97 + s))))] (t, hM J B L) := fun t => by
      rw [e_X10_reads_at9, r_sign (by omega) hz z60 hB7 (by omega), pn_c1, e_X10_reads_at14, hJ, ea, r_in (by omega), pn_c1, hsg, hin]
    by_cases b3 : 97 ≤ c i ∧ c i < 97 + s
    · -- a letter
      rw [decide_eq_true b3] at e0
      have nb2 : ¬ (50 ≤ c i ∧ c i ≤ 53) := by omega
      by_cases n5 : n = 5
      · have st : stT s (m, T, cl, rp) (c i) = none := by
          simp only [stT]
          rw [if_neg (by omega), if_neg nb2, if_pos b3, if_neg (by omega)]
        rw [rnT_n st]
        refine ⟨B, fun t => ?_, fun c _ => rfl, fun M T' e => by cases e⟩
        rw [e0, e_X10_reads_at28, b01_t, d_10, cond_false, pn_f (show ¬ ¬ nI n = 5 by rw [n5]; decide)]
        rfl
      · have st : stT s (m, T, cl, rp) (c i) = some (m, T, cl * 10 + (c i - 96), c i - 96) := by
          simp only [stT]
          rw [if_neg (by omega), if_neg nb2, if_pos b3, if_pos (by omega)]
        have hv1 := stT_ok hs hv st
        have hd1 : dg s (n + 1) (cl * 10 + (c i - 96)) := dg_push hs hdg (by omega) (by omega)
        have hw1 := dg_wl hd1 (by omega)
        rw [rnT_s st]
        have n5' : ¬ nI n = 5 := fun q => n5 ((nI_eq (b := 5) (by omega) (by decide)).mp q)
        have er : nI (c i) - 97 + 1 = nI (c i - 96) := by
          rw [show nI (c i) - 97 = nI (c i - 97) from pn_sub (b := 97) (by omega), nI_1, show c i - 97 + 1 = c i - 96 by omega]
        have sg1 : sg c z (i + 1) ≤ 127 := by
          unfold sg
          split
          · exact hc _ (by assumption)
          · omega
        have hin2 : decide ((50 : Int32) ≤ nI (sg c z (i + 1)) ∧ nI (sg c z (i + 1)) ≤ 53) = decide (50 ≤ sg c z (i + 1) ∧ sg c z (i + 1) ≤ 53) := by
          rw [decide_eq_decide, show (50 : Int32) = nI 50 from rfl, show (53 : Int32) = nI 53 from rfl, nI_leI (by decide) (by omega), nI_leI (by omega) (by decide)]
        have e1 := fun t => e0 t
        simp only [e_X10_reads_at28, b01_t, d_10, cond_false, pn_t n5', r_sign (show 1 ≤ d by omega) hz z60 hB7 (show i ≤ 100 by omega), pn_c1, nI_1, r_sign (show 1 ≤ d by omega) hz z60 hB7 (show i + 1 ≤ 100 by omega), r_in (show 1 ≤ d by omega), hin2, hsg, er] at e1
        by_cases b2 : 50 ≤ sg c z (i + 1) ∧ sg c z (i + 1) ≤ 53
        · -- with a figure behind it
          have hiz : i + 1 < z := by
            rcases Nat.lt_or_ge (i + 1) z with q | q
            · exact q
            · unfold sg at b2; rw [if_neg (by omega)] at b2; omega
          have hsg1 : sg c z (i + 1) = c (i + 1) := by unfold sg; rw [if_pos hiz]
          rw [hsg1] at b2
          obtain ⟨j, rfl⟩ : ∃ e, j = e + 1 := ⟨j - 1, by omega⟩
          have eo : nI (c (i + 1)) - 48 = nI (c (i + 1) - 48) := pn_sub (b := 48) (by omega)
          simp only [hsg1, decide_eq_true b2, b01_t, d_10, cond_false, eo, nI_add, nI_1] at e1
          by_cases l5 : n + (c (i + 1) - 48) ≤ 5
          · have st2 : stT s (m, T, cl * 10 + (c i - 96), c i - 96) (c (i + 1)) = some (m, T, apl (c i - 96) (c (i + 1) - 49) (cl * 10 + (c i - 96)), 0) := by
              simp only [stT]
              rw [if_neg (by omega), if_pos b2, if_neg (by omega), if_pos (by omega)]
            have hap : apl (c i - 96) (c (i + 1) - 49) (cl * 10 + (c i - 96)) = apl (c i - 96) (c (i + 1) - 48) cl := by
              rw [show c (i + 1) - 48 = c (i + 1) - 49 + 1 by omega, apl_s]
            have hv2 := stT_ok hs hv1 st2
            rw [rnT_s st2]
            rw [hap] at hv2 ⊢
            have hd2 := apl_dg hs (show 1 ≤ c i - 96 by omega) (show c i - 96 ≤ s by omega) (c (i + 1) - 48) n cl hdg
            obtain ⟨B', r1, r2, r3⟩ := ih j (i + 1 + 1) (f + 15 - (c (i + 1) - 48 + 1)) m (apl (c i - 96) (c (i + 1) - 48) cl) 0 (n + (c (i + 1) - 48)) T B (some (.int (nI (c i - 96)))) (some (.int (nI (c (i + 1) - 48)))) (some (.int (nI (c (i + 1) - 48)))) (by omega) (by omega) (by omega) hv2 l5 hd2 (Or.inl rfl) hB hB7
            refine ⟨B', fun t => ?_, r2, r3⟩
            have hr := r_rep (J := J) (B := B) (L := L) (t := t) (x1 := nI m) (x2 := nI (i + 1 + 1)) (r := c i - 96) (n := n) d (show c (i + 1) - 48 ≤ 5 by omega) hn (c (i + 1) - 48) 0 (f + 15 - (c (i + 1) - 48 + 1)) cl (by omega)
            rw [show f + 15 - (c (i + 1) - 48 + 1) + (c (i + 1) - 48 + 1) = f + 15 by omega] at hr
            have hr' : zR d (f + 15) 147 105 [some (.ref 1000), some (.int (nI m)), some (.int (nI (i + 1 + 1))), some (.int (nI cl)), some (.int (nI n)), some (.int (nI (c i - 96))), some (.int (nI (c (i + 1) - 48))), some (.int 0)] [] (t, hM J B L) = _ := hr
            rw [e1, pn_t (show nI (n + (c (i + 1) - 48)) ≤ (5 : Int32) from nI_le (b := 5) l5 (by decide)), hr']
            exact r1 t
          · have st2 : stT s (m, T, cl * 10 + (c i - 96), c i - 96) (c (i + 1)) = none := by
              simp only [stT]
              rw [if_neg (by omega), if_pos b2, if_neg (by omega), if_neg (by omega)]
            rw [rnT_n st2]
            refine ⟨B, fun t => ?_, fun c _ => rfl, fun M T' e => by cases e⟩
            rw [e1, pn_f (show ¬ nI (n + (c (i + 1) - 48)) ≤ (5 : Int32) from nI_ge (a := 5) (by omega) (by omega))]
            rfl
        · simp only [decide_eq_false b2, b01_f, d_00, cond_true] at e1
          obtain ⟨B', r1, r2, r3⟩ := ih j (i + 1) (f + 13) m (cl * 10 + (c i - 96)) (c i - 96) (n + 1) T B (some (.int (nI (c i - 96)))) (some (.int (nI 1))) (some (.int (nI 1))) (by omega) (by omega) (by omega) hv1 (by omega) hd1 (Or.inr b2) hB hB7
          refine ⟨B', fun t => ?_, r2, r3⟩
          have hr := r_rep (J := J) (B := B) (L := L) (t := t) (x1 := nI m) (x2 := nI (i + 1)) (r := c i - 96) (n := n) d (show 1 ≤ 5 by omega) hn 1 0 (f + 13) cl (by omega)
          have hr' : zR d (f + 15) 147 105 [some (.ref 1000), some (.int (nI m)), some (.int (nI (i + 1))), some (.int (nI cl)), some (.int (nI n)), some (.int (nI (c i - 96))), some (.int 1), some (.int 0)] [] (t, hM J B L) = _ := hr
          rw [e1, hr']
          exact r1 t
    · rw [decide_eq_false b3] at e0
      by_cases c0 : cl = 0
      · have n0 := (dg_0 hdg).mp c0
        have st : stT s (m, T, cl, rp) (c i) = none := by
          simp only [stT]
          by_cases b1 : c i = 59
          · rw [if_pos b1, if_pos c0]
          · rw [if_neg b1]
            by_cases b2 : 50 ≤ c i ∧ c i ≤ 53
            · rw [if_pos b2, if_pos (hrp.resolve_right (fun q => q b2))]
            · rw [if_neg b2, if_neg b3]
        rw [rnT_n st]
        refine ⟨B, fun t => ?_, fun c _ => rfl, fun M T' e => by cases e⟩
        rw [e0, e_X10_reads_at28, b01_f, d_00, cond_true, pn_f (show ¬ ¬ nI n = 0 by rw [n0]; decide)]
        rfl
      · have n0 : n ≠ 0 := fun q => c0 ((dg_0 hdg).mpr q)
        have iz : ¬ nI i = J 12 := fun q => by
          rw [hz] at q
          have := (nI_eq (by omega) (by omega)).mp q
          omega
        -- with the clause laid by in B1
        have key : ∀ B1 : Nat → Nat → Int32, (∀ c, c ≠ 12 → B1 c = B c) → (∀ k, k < m + 1 → k < 6 → B1 12 k = nI (if k = m then cl else T k)) → ∃ B', (∀ t, (zm_c1 (zC d 146 [(.ref 1000), (.int (nI i))] (t, hM J B1 L)) fun v2 h1 => bif decide (v2 = 59) then (zR d (f + 15) 147 4 [some (.ref 1000), some (.int (nI (m + 1))), some (.int (nI (i + 1))), some (.int (nI cl)), some (.int (nI n)), o5, o6, o7] [] h1) else some (some (.int ((-100) - nI i)), h1)) = some (some (.int (rsM (rnT s c (j + 1) i (m, T, cl, rp)))), (t, hM J B' L))) ∧ (∀ c, c ≠ 12 → B' c = B c) ∧ ∀ M T', rnT s c (j + 1) i (m, T, cl, rp) = .inr (M, T') → ∀ k, k < M → k < 6 → B' 12 k = nI (T' k) := by
          intro B1 g1 g2
          have hB71 : ∀ i, i < z → B1 7 i = nI (c i) := fun i hi => by rw [g1 7 (by decide)]; exact hB7 i hi
          by_cases b1 : c i = 59
          · have st : stT s (m, T, cl, rp) (c i) = some (m + 1, (fun i => if i = m then cl else T i), 0, 0) := by
              simp only [stT]
              rw [if_pos b1, if_neg c0]
            have hv1 := stT_ok hs hv st
            rw [rnT_s st]
            obtain ⟨B', r1, r2, r3⟩ := ih j (i + 1) (f + 14) (m + 1) 0 0 0 (fun i => if i = m then cl else T i) B1 o5 o6 o7 (by omega) (by omega) (by omega) hv1 (by omega) rfl (Or.inl rfl) g2 hB71
            refine ⟨B', fun t => ?_, fun c hc => (r2 c hc).trans (g1 c hc), r3⟩
            rw [r_sign (by omega) hz z60 hB71 (by omega), pn_c1, hsg, pn_t (show nI (c i) = 59 by rw [b1]; rfl), show f + 15 = f + 14 + 1 from rfl, e_X10_reads_at4]
            exact r1 t
          · have st : stT s (m, T, cl, rp) (c i) = none := by
              simp only [stT]
              rw [if_neg b1]
              by_cases b2 : 50 ≤ c i ∧ c i ≤ 53
              · rw [if_pos b2, if_pos (hrp.resolve_right (fun q => q b2))]
              · rw [if_neg b2, if_neg b3]
            rw [rnT_n st]
            refine ⟨B1, fun t => ?_, g1, fun M T' e => by cases e⟩
            have n59 : ¬ nI (c i) = 59 := fun q => b1 ((nI_eq (b := 59) (by omega) (by decide)).mp q)
            rw [r_sign (by omega) hz z60 hB71 (by omega), pn_c1, hsg, pn_f n59]
            rfl
        by_cases c6 : m < 6
        · obtain ⟨B', r1, r2, r3⟩ := key (va_up B 12 (upd (B 12) m (nI cl))) (fun c hc => vu_ne hc) (fun k hk k6 => by
            rw [vu_eq]
            by_cases ek : k = m
            · subst ek; rw [upd_eq, if_pos rfl]
            · rw [upd_ne ek, if_neg ek]; exact hB k (by omega) k6)
          refine ⟨B', fun t => ?_, r2, r3⟩
          rw [e0, e_X10_reads_at28, b01_f, d_00, cond_true, pn_t (nI_ne0 (by omega) (by omega)), pn_f (show ¬ (6 : Int32) ≤ nI m from nI_ge (b := 6) c6 (by decide)), pn_in c6 (by decide), cond_true, pn_t iz, pn_cl (by omega), nI_1, nI_1]
          exact r1 t
        · obtain ⟨B', r1, r2, r3⟩ := key B (fun c hc => rfl) (fun k hk k6 => by
            rw [if_neg (by omega)]; exact hB k (by omega) k6)
          refine ⟨B', fun t => ?_, r2, r3⟩
          rw [e0, e_X10_reads_at28, b01_f, d_00, cond_true, pn_t (nI_ne0 (by omega) (by omega)), pn_t (show (6 : Int32) ≤ nI m from nI_le (a := 6) (by omega) (by omega)), pn_t iz, nI_1, nI_1]
          exact r1 t
end TP
