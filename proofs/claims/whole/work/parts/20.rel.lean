/-! the picture of the small machine against the heap; what its instructions' words are -/
def zm_v (ρ : Nat → Nat) : Value → Value
  | .ref k => .ref (ρ k)
  | v => v
def zm_A (ρ : Nat → Nat) (a : vp_A) : vp_A := match a with
  | (n, .inr (.inr (.inr (.inr f)))) => (n, .inr (.inr (.inr (.inr (fun j => (f j).map ρ)))))
  | a => a
def zm_k (dA : Nat → ClassId) (a : vp_A) : ClassId := match a.2 with
  | .inl _ => dA 0
  | .inr (.inl _) => dA 1
  | _ => dA 2
def zm_e (ρ : Nat → Nat) (dA : Nat → ClassId) : zm_E → va_E
  | .inl a => .inl (zm_k dA a, zm_A ρ a)
  | .inr (c, fs) => .inr (c, fs.map (zm_v ρ))
def zm_w (ρ : Nat → Nat) (dA : Nat → ClassId) (h : zm_H) : va_W := h.1.mapIdx (fun k e => (ρ k, zm_e ρ dA e)) ++ h.2.mapIdx (fun k e => (ρ (1000 + k), zm_e ρ dA e))
def zm_pos (h : zm_H) (k : Nat) : Nat := bif Nat.blt k 1000 then k else h.1.length + (k - 1000)
theorem zm_cat (ρ : Nat → Nat) (v : Value) : (zm_v ρ v).category = v.category := by cases v <;> rfl
theorem zm_w_get {ρ : Nat → Nat} {dA : Nat → ClassId} {h : zm_H} {k : Nat} {e : zm_E} (hg : zm_get h k = some e) : (zm_w ρ dA h)[zm_pos h k]? = some (ρ k, zm_e ρ dA e) := by
  unfold zm_get at hg
  unfold zm_w zm_pos
  cases hk : Nat.blt k 1000 with
  | true =>
    rw [hk] at hg
    simp only [cond_true] at hg ⊢
    have hlt : k < h.1.length := (List.getElem?_eq_some_iff.mp hg).1
    rw [List.getElem?_append_left (by simpa using hlt), List.getElem?_mapIdx, hg]
    rfl
  | false =>
    rw [hk] at hg
    simp only [cond_false] at hg ⊢
    have hge : 1000 ≤ k := by
      rcases Nat.lt_or_ge k 1000 with q | q
      · rw [show Nat.blt k 1000 = true from Nat.ble_eq_true_of_le q] at hk; cases hk
      · exact q
    rw [List.getElem?_append_right (by simp), List.getElem?_mapIdx]
    simp only [List.length_mapIdx, Nat.add_sub_cancel_left, hg]
    show some (ρ (1000 + (k - 1000)), _) = _
    rw [show 1000 + (k - 1000) = k by omega]
theorem zm_w_set {ρ : Nat → Nat} {dA : Nat → ClassId} {h : zm_H} {k : Nat} {e0 e : zm_E} (hg : zm_get h k = some e0) : zm_w ρ dA (zm_set h k e) = (zm_w ρ dA h).set (zm_pos h k) (ρ k, zm_e ρ dA e) := by
  unfold zm_get at hg
  unfold zm_w zm_pos zm_set
  cases hk : Nat.blt k 1000 with
  | true =>
    rw [hk] at hg
    simp only [cond_true] at hg ⊢
    have hlt : k < h.1.length := (List.getElem?_eq_some_iff.mp hg).1
    rw [List.mapIdx_set, List.set_append_left _ _ (by simpa using hlt)]
  | false =>
    rw [hk] at hg
    simp only [cond_false] at hg ⊢
    have hge : 1000 ≤ k := by
      rcases Nat.lt_or_ge k 1000 with q | q
      · rw [show Nat.blt k 1000 = true from Nat.ble_eq_true_of_le q] at hk; cases hk
      · exact q
    rw [List.mapIdx_set, List.set_append_right _ _ (by simp)]
    simp only [List.length_mapIdx, Nat.add_sub_cancel_left]
    rw [show 1000 + (k - 1000) = k by omega]
/-- the locals -/
def zm_has (ρ : Nat → Nat) (ls : Array Slot) (nL : Nat) (lv : zm_L) : Prop := ls.size = nL ∧ lv.length = nL ∧ lv_wf ls ∧ ∀ (i : Nat) (v : Value), lv[i]? = some (some v) → ls[i]? = some (.val (zm_v ρ v))
def zm_as (ρ : Nat → Nat) (lv : zm_L) : List (Nat × Value) := (List.range lv.length).filterMap (fun i => match lv[i]? with
  | some (some v) => some (i, zm_v ρ v)
  | _ => none)
theorem zm_as_mem {ρ : Nat → Nat} {lv : zm_L} {q : Nat × Value} : q ∈ zm_as ρ lv ↔ ∃ v, lv[q.1]? = some (some v) ∧ q.2 = zm_v ρ v := by
  unfold zm_as
  rw [List.mem_filterMap]
  constructor
  · rintro ⟨i, -, h⟩
    split at h
    · next v hv => cases h; exact ⟨v, hv, rfl⟩
    · cases h
  · rintro ⟨v, h1, h2⟩
    refine ⟨q.1, List.mem_range.mpr (List.getElem?_eq_some_iff.mp h1).1, ?_⟩
    rw [h1]
    simp only [← h2]
theorem zm_has_lv {ρ : Nat → Nat} {ls : Array Slot} {nL : Nat} {lv : zm_L} (h : zm_has ρ ls nL lv) : lv_has ls nL (zm_as ρ lv) := by
  refine ⟨h.1, h.2.2.1, fun q hq => ?_⟩
  obtain ⟨v, h1, h2⟩ := zm_as_mem.mp hq
  rw [h2]
  exact h.2.2.2 _ _ h1
theorem zm_drop_get {lv : zm_L} {i j : Nat} {v : Value} (h : (zm_drop lv i)[j]? = some (some v)) : lv[j]? = some (some v) ∧ ¬ (j + 1 = i ∧ v.category = 2) := by
  cases i with
  | zero => exact ⟨h, fun q => by omega⟩
  | succ i =>
    simp only [zm_drop] at h
    split at h
    · next w hw =>
      cases hc : Nat.beq w.category 2 with
      | true =>
        rw [hc] at h
        simp only [cond_true, List.getElem?_set] at h
        split at h
        · split at h <;> cases h
        · next hne => exact ⟨h, fun q => hne (by omega)⟩
      | false =>
        rw [hc] at h
        simp only [cond_false] at h
        refine ⟨h, fun q => ?_⟩
        have : j = i := by omega
        subst this
        rw [h] at hw
        cases hw
        rw [q.2] at hc
        cases hc
    · next hn =>
      refine ⟨h, fun q => ?_⟩
      have : j = i := by omega
      subst this
      exact hn v h
theorem zm_drop_len (lv : zm_L) (i : Nat) : (zm_drop lv i).length = lv.length := by
  cases i with
  | zero => rfl
  | succ i =>
    simp only [zm_drop]
    split
    · next w _ => cases Nat.beq w.category 2 <;> simp
    · rfl
theorem zm_has_st1 {ρ : Nat → Nat} {ls' : Array Slot} {nL i : Nat} {lv : zm_L} {v : Value} (hn : lv.length = nL) (h : lv_has ls' nL ((i, zm_v ρ v) :: (zm_as ρ lv).filter (fun q => !(q.1 == i) && !(q.1 + 1 == i && q.2.category == 2)))) : zm_has ρ ls' nL (zm_st1 lv i v) := by
  refine ⟨h.1, by unfold zm_st1; rw [List.length_set, zm_drop_len, hn], h.2.1, fun j w hw => ?_⟩
  unfold zm_st1 at hw
  rw [List.getElem?_set] at hw
  split at hw
  · next e =>
    subst e
    split at hw
    · cases hw; exact h.2.2 (i, zm_v ρ v) List.mem_cons_self
    · cases hw
  · next hne =>
    obtain ⟨h1, h2⟩ := zm_drop_get hw
    refine h.2.2 (j, zm_v ρ w) (List.mem_cons_of_mem _ (List.mem_filter.mpr ⟨zm_as_mem.mpr ⟨w, h1, rfl⟩, ?_⟩))
    simp only [zm_cat, Bool.and_eq_true, Bool.not_eq_true', beq_eq_false_iff_ne, Bool.and_eq_false_iff]
    refine ⟨fun q => hne q.symm, ?_⟩
    rcases Nat.decEq (j + 1) i with q | q
    · exact Or.inl q
    · exact Or.inr fun q2 => h2 ⟨q, q2⟩
theorem zm_has_st2 {ρ : Nat → Nat} {ls' : Array Slot} {nL i : Nat} {lv : zm_L} {v : Value} (hn : lv.length = nL) (h : lv_has ls' nL ((i, zm_v ρ v) :: (zm_as ρ lv).filter (fun q => !(q.1 == i) && (!(q.1 == i + 1) && !(q.1 + 1 == i && q.2.category == 2))))) : zm_has ρ ls' nL (zm_st2 lv i v) := by
  refine ⟨h.1, by unfold zm_st2; rw [List.length_set, List.length_set, zm_drop_len, hn], h.2.1, fun j w hw => ?_⟩
  unfold zm_st2 at hw
  rw [List.getElem?_set] at hw
  split at hw
  · split at hw <;> cases hw
  · next hne1 =>
    rw [List.getElem?_set] at hw
    split at hw
    · next e =>
      subst e
      split at hw
      · cases hw; exact h.2.2 (i, zm_v ρ v) List.mem_cons_self
      · cases hw
    · next hne =>
      obtain ⟨h1, h2⟩ := zm_drop_get hw
      refine h.2.2 (j, zm_v ρ w) (List.mem_cons_of_mem _ (List.mem_filter.mpr ⟨zm_as_mem.mpr ⟨w, h1, rfl⟩, ?_⟩))
      simp only [zm_cat, Bool.and_eq_true, Bool.not_eq_true', beq_eq_false_iff_ne, Bool.and_eq_false_iff]
      refine ⟨fun q => hne q.symm, fun q => hne1 q.symm, ?_⟩
      rcases Nat.decEq (j + 1) i with q | q
      · exact Or.inl q
      · exact Or.inr fun q2 => h2 ⟨q, q2⟩
theorem zm_args_eq : ∀ (n : Nat) (acc st : List Value) (ar : List Value × List Value), zm_args n acc st = some ar → ∃ t : List Value, t.length = n ∧ st = t ++ ar.2 ∧ ar.1 = t.reverse ++ acc
  | 0, acc, st, ar, h => by cases h; exact ⟨[], rfl, rfl, rfl⟩
  | n + 1, acc, [], ar, h => by cases h
  | n + 1, acc, v :: st, ar, h => by
    obtain ⟨t, h1, h2, h3⟩ := zm_args_eq n (v :: acc) st ar h
    exact ⟨v :: t, by simp [h1], by rw [h2]; rfl, by rw [h3]; simp⟩
