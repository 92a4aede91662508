/-! methods of the small machine, and that they are the machine's -/
/-- the words of a call -/
def zm_lc (ms : Nat → Option zm_M) (own : String) (i : zm_I) : Prop := match i with
  | (ins, len, x1, x2, _, _) => match ins with
    | .invokestatic idx => x1 < 9990 → ∃ (own' : String) (y : MethodName) (cc : ByteArray) (nL : Nat) (ret : Option FieldType) (ci : Nat) (rb : Bool) (cuts : List Nat) (T : zm_T), ms x1 = some (own', y, cc, nL, ret, true, x2, ci, rb, cuts, T) ∧ Jvm.Cond.methodLink own idx y ∈ zm_WL
    | .invokevirtual idx => ∃ (own' : String) (y : MethodName) (cc : ByteArray) (nL : Nat) (ret : Option FieldType) (n : Nat) (rb : Bool) (cuts : List Nat) (T : zm_T), ms x1 = some (own', y, cc, nL, ret, false, n, len, rb, cuts, T) ∧ x2 = n + 1 ∧ Jvm.Cond.methodLink own idx y ∈ zm_WL
    | _ => True
def zm_le (rb : Bool) (ret : Option FieldType) (i : zm_I) : Prop := match i.1 with
  | .ireturn => (rb = true ∧ ret = some .boolean) ∨ (rb = false ∧ ret = some .int)
  | .lreturn => ret = some .long
  | .return_ => ret = none
  | _ => True
/-- a table is that of a code -/
def zm_tok (ms : Nat → Option zm_M) (own : String) (cc : ByteArray) (ret : Option FieldType) (rb : Bool) (T : zm_T) : Prop :=
  ∀ (pc : Nat) (i : zm_I), zm_look T pc = some i → decode cc pc = .ok (i.1, zm_ln i.1 i.2.1) ∧ zm_lk own pc i ∧ zm_lc ms own i ∧ zm_le rb ret i
def zm_mok (ms : Nat → Option zm_M) (M : zm_M) : Prop := match M with
  | (own, y, cc, nL, ret, stt, n, ci, rb, _, T) => y.cls = own ∧ plainName own = true ∧ (own ≠ "java/lang/invoke/MethodHandle" ∧ own ≠ "java/lang/invoke/VarHandle") ∧ Jvm.Cond.code y cc nL ret ∈ zm_WL ∧ Jvm.Cond.initialized own ∈ zm_WL ∧ (parseMethodDescriptor y.desc).map (fun d => d.parameters.length) = some n ∧
    (stt = true → Jvm.Cond.static y ∈ zm_WL) ∧ (stt = false → Jvm.Cond.instanceMethod y ∈ zm_WL ∧ Jvm.Cond.selects own y y ∈ zm_WL ∧ ∃ (T : u_T) (N : Nat), vwCl[ci]? = some (own, T, N)) ∧ nL ≤ 40 ∧ zm_tok ms own cc ret rb T
theorem zm_WL_good : ∀ w ∈ zm_WL, goodWord w = true := fun _ h => (List.mem_filter.mp h).2
section ZMB
variable {p : Program} {l : Launch} {e : Env} {R : Room} {s : State} {m : MethodId} {args : Array Value} {below : List Frame} {meth : Method} {c : Code} {cells slots : Nat} {Q : State → Prop} {own : String} {cc : ByteArray} {nL : Nat} {rb : Bool} {sc : zm_S} {ρ : Nat → Nat} {dA : Nat → ClassId} {D : va_G} {A : Nat → Prop} {C : zm_C} {r : zm_R}
/-- what a body asks of its calls -/
def zm_cok (p : Program) (l : Launch) (e : Env) (R : Room) (s : State) (m : MethodId) (args : Array Value) (below : List Frame) (meth : Method) (c : Code) (cells slots : Nat) (Q : State → Prop) (cc : ByteArray) (nL : Nat) (ρ : Nat → Nat) (dA : Nat → ClassId) (D : va_G) (A : Nat → Prop) (T : zm_T) (C : zm_C) : Prop :=
  ∀ (pc idx len x1 x2 x3 : Nat) (ps : List (Int × Nat)) (vi : Bool) (st : List Value) (ar : List Value × List Value) (v : Option Value) (h h1 : zm_H) (ls : Array Slot) (H : Heap) (locs : List Loc), zm_look T pc = some ((if vi then Instr.invokevirtual idx else Instr.invokestatic idx), len, x1, x2, x3, ps) → x1 < 9990 → zm_args x2 [] st = some ar → (ar.2.map fun v => v.category).sum ≤ 8 → (vi = true → zm_rc ar.1 len = true) → C x1 ar.1 h = some (v, h1) → ls.size = nL → zm_Rl s ρ dA D A h H locs →
    (∀ (H1 : Heap) (locs1 : List Loc), zm_Rl s ρ dA D A h1 H1 locs1 → W p l e R s m args below meth c H1 locs1 cells slots Q (F0 m (pc + 3) ls ((v.toList ++ ar.2).map (zm_v ρ)))) → W p l e R s m args below meth c H locs cells slots Q (F0 m pc ls (st.map (zm_v ρ)))
def zm_rok (p : Program) (l : Launch) (e : Env) (R : Room) (s : State) (m : MethodId) (args : Array Value) (below : List Frame) (meth : Method) (c : Code) (cells slots : Nat) (Q : State → Prop) (rb : Bool) (ρ : Nat → Nat) (dA : Nat → ClassId) (D : va_G) (A : Nat → Prop) (T : zm_T) (cc : ByteArray) (r : zm_R) : Prop :=
  ∀ (pc : Nat) (i : zm_I) (st : List Value) (ls : Array Slot) (H : Heap) (locs : List Loc), zm_look T pc = some i → decode cc pc = .ok (i.1, 1) → zm_end rb i.1 r.1 st → zm_Rl s ρ dA D A r.2 H locs → W p l e R s m args below meth c H locs cells slots Q (F0 m pc ls st)
theorem zm_blk_sound {T : zm_T} {cuts : List Nat} {K : zm_G} (X : zm_Cx p R s m args c own cc nL sc ρ dA D A) (hcs : cells ≤ R.cells ∧ slots ≤ R.slots) (hT : ∀ (pc : Nat) (i : zm_I), zm_look T pc = some i → decode cc pc = .ok (i.1, zm_ln i.1 i.2.1) ∧ zm_lk own pc i) (hC : zm_cok p l e R s m args below meth c cells slots Q cc nL ρ dA D A T C) (hr : zm_rok p l e R s m args below meth c cells slots Q rb ρ dA D A T cc r)
    (hK : ∀ (pc : Nat) (lv : zm_L) (st : List Value) (h : zm_H) (ls : Array Slot) (H : Heap) (locs : List Loc), K pc lv st h = some r → zm_has ρ ls nL lv → zm_Rl s ρ dA D A h H locs → W p l e R s m args below meth c H locs cells slots Q (F0 m pc ls (st.map (zm_v ρ)))) :
    ∀ (n pc : Nat) (lv : zm_L) (st : List Value) (h : zm_H) (ls : Array Slot) (H : Heap) (locs : List Loc), zm_blk T cuts rb sc C K n pc lv st h = some r → zm_has ρ ls nL lv → zm_Rl s ρ dA D A h H locs → W p l e R s m args below meth c H locs cells slots Q (F0 m pc ls (st.map (zm_v ρ))) := by
  intro n
  induction n with
  | zero => intro pc lv st h ls H locs hb; cases hb
  | succ n ih =>
    intro pc lv st h ls H locs hb hl hR
    simp only [zm_blk] at hb
    cases hlk : zm_look T pc with
    | none => rw [hlk] at hb; cases hb
    | some i =>
      rw [hlk] at hb
      obtain ⟨hdg, hk⟩ := hT pc i hlk
      refine zm_do_sound X hcs hdg hk hb ?_ ?_ ?_ hl hR
      · intro idx x1 x2 x3 len ps vi ar v h1 ls H locs ei h1 h2 h3 h4 h5 h6 h7 h8
        exact hC pc idx len x1 x2 x3 ps vi st ar v h _ ls H locs (by rw [hlk, ei]) h1 h2 h3 h4 h5 h6.1 h7 h8
      · intro ins st ls H locs hdr he hR
        have e : i.1 = ins := by
          rw [hdg] at hdr
          exact (Prod.mk.inj (Except.ok.inj hdr)).1
        subst e
        exact hr pc i st ls H locs hlk hdr he hR
      · intro pc lv st h ls H locs hG hl hR
        rcases zm_bif2 hG with ⟨-, h2⟩ | ⟨-, h2⟩
        · exact hK pc lv st h ls H locs h2 hl hR
        · exact ih pc lv st h ls H locs h2 hl hR
theorem zm_run_sound {T : zm_T} {cuts : List Nat} (X : zm_Cx p R s m args c own cc nL sc ρ dA D A) (hcs : cells ≤ R.cells ∧ slots ≤ R.slots) (hT : ∀ (pc : Nat) (i : zm_I), zm_look T pc = some i → decode cc pc = .ok (i.1, zm_ln i.1 i.2.1) ∧ zm_lk own pc i) (hC : zm_cok p l e R s m args below meth c cells slots Q cc nL ρ dA D A T C) (hr : zm_rok p l e R s m args below meth c cells slots Q rb ρ dA D A T cc r) :
    ∀ (f pc : Nat) (lv : zm_L) (st : List Value) (h : zm_H) (ls : Array Slot) (H : Heap) (locs : List Loc), zm_run T cuts rb sc C f pc lv st h = some r → zm_has ρ ls nL lv → zm_Rl s ρ dA D A h H locs → W p l e R s m args below meth c H locs cells slots Q (F0 m pc ls (st.map (zm_v ρ))) := by
  intro f
  induction f with
  | zero => intro pc lv st h ls H locs hb; cases hb
  | succ f ih =>
    intro pc lv st h ls H locs hb hl hR
    exact zm_blk_sound X hcs hT hC hr ih 3000 pc lv st h ls H locs hb hl hR
theorem zm_callW {v : Option Value} {B : State → Prop} {A0 A1 : Nat → Prop} {H0 H : Heap} {locs : List Loc} {free : Addr → Prop} {pc : Nat} {ls : Array Slot} {st0 rest : List Value} (hr : va_Run p l e R s m args below meth c H locs cells slots 0 0 (F0 m pc ls st0) rest (fun st oc t => (oc = .returned v ∧ B t) ∧ va_F A1 st t) free) (hS : va_S A0 H0 H locs) (hA : ∀ q, q < H.size → A1 q → A0 q) (hf : ∀ q, free q → A0 q)
    (kk : ∀ (t : State) (H1 : Heap) (locs1 : List Loc), t.heap = H1 → B t → va_S A0 H0 H1 locs1 → W p l e R s m args below meth c H1 locs1 cells slots Q (F0 m (pc + 3) ls (v.toList ++ rest))) : W p l e R s m args below meth c H locs cells slots Q (F0 m pc ls st0) := by
  intro T hT X
  obtain ⟨v', st₀, t, T', L, h0, X', hL, e1, e2, ⟨⟨hv, hb⟩, hz, hk⟩, st⟩ := hr T hT X
  cases hv
  rw [h0] at hz hk
  obtain ⟨t2, a1, b1⟩ := kk t T'.heap (locs ++ L) e1.symm hb
    ⟨Nat.le_trans hS.1 (by rw [e1]; exact hz), fun q h1 h2 => by rw [e1, hk q (Nat.lt_of_lt_of_le h1 hS.1) (fun z => h2 (hA q (Nat.lt_of_lt_of_le h1 hS.1) z))]; exact hS.2.1 q h1 h2, fun q hq => by
      rcases List.mem_append.mp hq with h | h
      · exact hS.2.2 q h
      · exact hf _ (hL q h)⟩ T' rfl X'
  exact ⟨t2, st t2 a1, b1⟩
end ZMB
def zm_TN (ρ : Nat → Nat) (A : Nat → Prop) (U : State) : Prop := va_Z "WordRace$Word" "TENS" "[I" (.ref (ρ 2000000)) A U U.heap ∧ va_T .int (ρ 2000000) 6 (fun j => .int (zm_ten j)) A U U.heap
def zm_Pc (ρ : Nat → Nat) (dA : Nat → ClassId) (D : va_G) (sz : Nat) (as : List Value) (h : zm_H) : Array Value → State → Prop := va_Pc (as.map (zm_v ρ)) (fun U => U.heap.size = sz ∧ zm_ty h ∧ va_P D vwCl (zm_w ρ dA h) U.heap ∧ va_K D vwCl (zm_tys dA) U ∧ va_D (fun _ => True) (zm_w ρ dA h) ∧ zm_TN ρ (va_A (zm_w ρ dA h) sz) U)
def zm_Qc (ρ : Nat → Nat) (dA : Nat → ClassId) (D : va_G) (sz : Nat) (h : zm_H) (r : zm_R) : Array Value → State → Outcome → State → Prop := fun _ st oc t => (oc = .returned (r.1.map (zm_v ρ)) ∧ zm_ty r.2 ∧ va_P D vwCl (zm_w ρ dA r.2) t.heap ∧ va_D (va_A (zm_w ρ dA h) sz) (zm_w ρ dA r.2)) ∧ va_F (va_A (zm_w ρ dA h) sz) st t
abbrev zm_rm (d : Nat) : Room := { frames := d, cells := 0, slots := 0, locals := 60 * d }
theorem zm_blind (ρ : Nat → Nat) (dA : Nat → ClassId) (D : va_G) (sz : Nat) (as : List Value) (h : zm_H) : FrameBlind (zm_Pc ρ dA D sz as h) := by
  intro a U g mk q
  obtain ⟨q0, q1, qT, qP, qK, qD, z1, z2⟩ := q
  exact ⟨q0, q1, qT, qP, va_K.moved (u := U) (U := U.calling g mk a) (Vm.Alike.refl U.vm) qK, qD, va_Z.moved (u := U) (U := U.calling g mk a) (Vm.Alike.refl U.vm) z1, va_T.moved (u := U) (U := U.calling g mk a) (Vm.Alike.refl U.vm) z2⟩
theorem zm_ent_sl : ∀ (ρ : Nat → Nat) (as : List Value) (k : Nat) (i : Nat) (v : Value), (zm_ent as)[i]? = some (some v) → (i + k, zm_v ρ v) ∈ lv_args k (as.map (zm_v ρ))
  | ρ, [], k, i, v, h => by simp [zm_ent] at h
  | ρ, a :: as, k, i, v, h => by
    simp only [List.map_cons, lv_args, zm_cat]
    simp only [zm_ent] at h
    cases e : Nat.beq a.category 2 with
    | true =>
      rw [e] at h
      have e2 := Nat.eq_of_beq_eq_true e
      rw [if_pos e2]
      match i, h with
      | 0, h =>
        simp only [cond_true, List.getElem?_cons_zero, Option.some.injEq] at h
        subst h
        rw [Nat.zero_add]
        exact List.mem_cons_self
      | 1, h => simp at h
      | i + 2, h =>
        refine List.mem_cons_of_mem _ ?_
        have := zm_ent_sl ρ as (k + 2) i v (by simpa using h)
        rwa [show i + 2 + k = i + (k + 2) by omega]
    | false =>
      rw [e] at h
      have e2 := Nat.ne_of_beq_eq_false e
      rw [if_neg e2]
      match i, h with
      | 0, h =>
        simp only [cond_false, List.getElem?_cons_zero, Option.some.injEq] at h
        subst h
        rw [Nat.zero_add]
        exact List.mem_cons_self
      | i + 1, h =>
        refine List.mem_cons_of_mem _ ?_
        have := zm_ent_sl ρ as (k + 1) i v (by simpa using h)
        rwa [show i + 1 + k = i + (k + 1) by omega]
theorem zm_ent_len (ρ : Nat → Nat) : ∀ as : List Value, (zm_ent as).length = (lg_sl (as.map (zm_v ρ))).length
  | [] => rfl
  | a :: as => by
    have ih := zm_ent_len ρ as
    unfold lg_sl at ih ⊢
    simp only [zm_ent, List.map_cons, List.flatMap_cons, zm_cat]
    cases e : Nat.beq a.category 2 with
    | true =>
      rw [if_pos (Nat.eq_of_beq_eq_true e)]
      simp [ih, Nat.add_comm]
    | false =>
      rw [if_neg (Nat.ne_of_beq_eq_false e)]
      simp [ih, Nat.add_comm]
theorem zm_entry (ρ : Nat → Nat) (as : List Value) {n : Nat} (h : (zm_ent as).length ≤ n) : zm_has ρ ((lg_sl (as.map (zm_v ρ)) ++ List.replicate (n - (lg_sl (as.map (zm_v ρ))).length) Slot.unset).toArray) n (zm_pad n (zm_ent as)) := by
  have h1 := lv_entry (as.map (zm_v ρ)) (n := n) (by rw [← zm_ent_len ρ as]; exact h)
  refine ⟨h1.1, by simp [zm_pad]; omega, h1.2.1, fun i v hv => ?_⟩
  unfold zm_pad at hv
  rcases Nat.lt_or_ge i (zm_ent as).length with q | q
  · rw [List.getElem?_append_left q] at hv
    have := h1.2.2 _ (zm_ent_sl ρ as 0 i v hv)
    simpa using this
  · rw [List.getElem?_append_right q] at hv
    simp only [List.getElem?_replicate] at hv
    split at hv <;> cases hv
