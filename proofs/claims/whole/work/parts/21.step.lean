/-! one instruction of the small machine is one of the machine -/
def zm_ln (ins : Instr) (len : Nat) : Nat := match ins with
  | .bipush _ | .iload _ | .lload _ | .aload _ | .istore _ | .lstore _ | .astore _ | .ldc _ => 2
  | .sipush _ | .ldc_w _ | .ldc2_w _ | .iinc _ _ | .if_icmp _ _ | .ifCond _ _ | .goto _ | .getfield _ | .putfield _ | .getstatic _ | .invokestatic _ | .invokevirtual _ => 3
  | .tableswitch _ _ _ _ | .lookupswitch _ _ => len
  | _ => 1
/-- where a switch goes: the pairs of the table, the default -/
def zm_tab (pc : Nat) (dflt lo hi : Int) (offs : List Int) (d : Nat) (ps : List (Int × Nat)) : Prop :=
  (pc : Int) + dflt = (d : Int) ∧ hi + 1 = lo + offs.length ∧ ps.length = offs.length ∧ ∀ (j : Nat) (k : Int) (t : Nat), ps[j]? = some (k, t) → k = lo + j ∧ ∃ off, offs[j]? = some off ∧ (pc : Int) + off = (t : Int)
def zm_tav (pc : Nat) (dflt : Int) (prs : List (Int × Int)) (d : Nat) (ps : List (Int × Nat)) : Prop :=
  (pc : Int) + dflt = (d : Int) ∧ (prs.zip (prs.drop 1)).all (fun (a, next) => a.1 < next.1) = true ∧ ps.map (fun q => (q.1, (q.2 : Int))) = prs.map (fun q => (q.1, (pc : Int) + q.2))
/-- the words of an instruction that the tables link -/
def zm_lk (own : String) (pc : Nat) (i : zm_I) : Prop := match i with
  | (ins, _, x1, x2, x3, ps) => match ins with
    | .getfield idx => ∃ (C : String) (T : u_T) (N : Nat), vwCl[x1]? = some (C, T, N) ∧ x2 < N ∧ (∀ w ∈ u_ws C T N, w ∈ zm_WL) ∧ Jvm.Cond.fieldLink own idx (T x2).1 (T x2).2.1 (T x2).2.2.1 ∈ zm_WL
    | .putfield idx => ∃ (C : String) (T : u_T) (N : Nat) (ty0 : Nat → FieldType), vwCl[x1]? = some (C, T, N) ∧ x2 < N ∧ (∀ w ∈ u_ws C T N, w ∈ zm_WL) ∧ Jvm.Cond.fieldLink own idx (T x2).1 (T x2).2.1 (T x2).2.2.1 ∈ zm_WL ∧ (∀ k, k < N → parseFieldDescriptor (T k).2.2.1 = some (ty0 k)) ∧ (∀ a, a < N → ∀ b, b < N → a ≠ b → (T a).2.1 ≠ (T b).2.1) ∧ (T x2).2.2.2 = false ∧ ((ty0 x2 = .int ∧ x3 = 0) ∨ (ty0 x2 = .boolean ∧ x3 = 1))
    | .getstatic idx => Jvm.Cond.fieldLink own idx "WordRace$Word" "TENS" "[I" ∈ zm_WL
    | .ldc idx => ∀ q, ps.head? = some q → Jvm.Cond.constant own idx (Int32.ofInt q.1) ∈ zm_WL
    | .ldc_w idx => ∀ q, ps.head? = some q → Jvm.Cond.constant own idx (Int32.ofInt q.1) ∈ zm_WL
    | .ldc2_w idx => ∀ q, ps.head? = some q → Jvm.Cond.constantLong own idx (Int64.ofInt q.1) ∈ zm_WL
    | .if_icmp _ off => (pc : Int) + off = (x1 : Int)
    | .ifCond _ off => (pc : Int) + off = (x1 : Int)
    | .goto off => (pc : Int) + off = (x1 : Int)
    | .tableswitch d lo hi offs => zm_tab pc d lo hi offs.toList x1 ps
    | .lookupswitch d prs => zm_tav pc d prs.toList x1 ps
    | .invokestatic idx => (9990 ≤ x1 → x1 = 9999 ∨ x1 = 9998 ∨ x1 = 9997) ∧ (x1 = 9999 → Jvm.Cond.methodLink own idx arraycopyName ∈ zm_WL ∧ Jvm.Cond.native arraycopyName ∈ zm_WL ∧ Jvm.Cond.static arraycopyName ∈ zm_WL ∧ Jvm.Cond.initialized "java/lang/System" ∈ zm_WL) ∧
      (x1 = 9998 → Jvm.Cond.methodLink own idx Lib.Math.min.name ∈ zm_WL ∧ Jvm.Cond.static Lib.Math.min.name ∈ zm_WL ∧ Jvm.Cond.initialized "java/lang/Math" ∈ zm_WL ∧ Jvm.Cond.code Lib.Math.min.name Lib.Math.min.code 2 (some .int) ∈ zm_WL) ∧
      (x1 = 9997 → Jvm.Cond.methodLink own idx Lib.Math.max.name ∈ zm_WL ∧ Jvm.Cond.static Lib.Math.max.name ∈ zm_WL ∧ Jvm.Cond.initialized "java/lang/Math" ∈ zm_WL ∧ Jvm.Cond.code Lib.Math.max.name Lib.Math.max.code 2 (some .int) ∈ zm_WL)
    | _ => True
abbrev zm_tys (dA : Nat → ClassId) : List (ClassId × FieldType) := [(dA 0, .int), (dA 1, .long), (dA 2, .array .int)]
/-- what stands fast while a body runs -/
def zm_Cx (p : Program) (R : Room) (s : State) (m : MethodId) (args : Array Value) (c : Code) (own : String) (cc : ByteArray) (nL : Nat) (sc : zm_S) (ρ : Nat → Nat) (dA : Nat → ClassId) (D : va_G) (A : Nat → Prop) : Prop :=
  p.tables.exec = Jvm.exec ∧ c.code = cc ∧ c.maxLocals = nL ∧ s.vm.findClass own = some m.cls ∧ (∀ w ∈ zm_WL, w.before args s = true) ∧ va_K D vwCl (zm_tys dA) s ∧ (∀ q, s.heap.size ≤ q → A q) ∧ va_Z "WordRace$Word" "TENS" "[I" (.ref (ρ 2000000)) A s s.heap ∧ (∀ (k n : Nat) (f : Nat → Int32), zm_ro sc k = some (n, f) → va_T .int (ρ k) n (fun j => .int (f j)) A s s.heap) ∧ 1 ≤ R.frames ∧ 60 ≤ R.locals
/-- the objects are there -/
def zm_ty (h : zm_H) : Prop := ∀ k : Nat, zm_oc k ≠ 99 → ∃ fs, zm_get h k = some (.inr (zm_oc k, fs))
theorem zm_get_set {h : zm_H} {k j : Nat} {e e0 : zm_E} (hk : zm_get h k = some e0) : zm_get (zm_set h k e) j = if j = k then some e else zm_get h j := by
  unfold zm_get at hk ⊢
  unfold zm_set
  have hb : ∀ a : Nat, Nat.blt a 1000 = decide (a < 1000) := fun a => by
    rcases Nat.lt_or_ge a 1000 with q | q
    · rw [show Nat.blt a 1000 = true from Nat.ble_eq_true_of_le q]; simp [q]
    · rw [show decide (a < 1000) = false from by simp; exact q]
      cases e : Nat.blt a 1000 with
      | false => rfl
      | true => exact absurd (Nat.le_of_ble_eq_true e) (by omega)
  rw [hb] at hk ⊢
  rw [hb]
  by_cases h1 : k < 1000
  · simp only [h1, decide_true, cond_true] at hk ⊢
    have hlt := (List.getElem?_eq_some_iff.mp hk).1
    by_cases h2 : j < 1000
    · simp only [h2, decide_true, cond_true, List.getElem?_set]
      by_cases h3 : k = j
      · subst h3; simp [hlt]
      · rw [if_neg h3, if_neg (fun q => h3 q.symm)]
    · simp only [h2, decide_false, cond_false]
      rw [if_neg (by omega)]
  · simp only [h1, decide_false, cond_false] at hk ⊢
    have hlt := (List.getElem?_eq_some_iff.mp hk).1
    by_cases h2 : j < 1000
    · simp only [h2, decide_true, cond_true]
      rw [if_neg (by omega)]
    · simp only [h2, decide_false, cond_false, List.getElem?_set]
      by_cases h3 : k = j
      · subst h3; simp [hlt]
      · rw [if_neg (by omega), if_neg (fun q => h3 q.symm)]
theorem zm_ty_arr {h : zm_H} {k : Nat} {a0 a : vp_A} (hk : zm_get h k = some (.inl a0)) (ht : zm_ty h) : zm_ty (zm_set h k (.inl a)) := by
  intro j hj
  obtain ⟨fs, hf⟩ := ht j hj
  refine ⟨fs, ?_⟩
  rw [zm_get_set hk, if_neg]
  · exact hf
  · rintro rfl
    rw [hf] at hk
    cases hk
theorem zm_ty_obj {h : zm_H} {k c : Nat} {f0 f : List Value} (hk : zm_get h k = some (.inr (c, f0))) (ht : zm_ty h) : zm_ty (zm_set h k (.inr (c, f))) := by
  intro j hj
  obtain ⟨fs, hf⟩ := ht j hj
  rw [zm_get_set hk]
  by_cases e : j = k
  · subst e
    rw [hf] at hk
    cases hk
    exact ⟨f, by rw [if_pos rfl]⟩
  · exact ⟨fs, by rw [if_neg e]; exact hf⟩
def zm_Rl (s : State) (ρ : Nat → Nat) (dA : Nat → ClassId) (D : va_G) (A : Nat → Prop) (h : zm_H) (H : Heap) (locs : List Loc) : Prop := zm_ty h ∧ va_P D vwCl (zm_w ρ dA h) H ∧ va_D A (zm_w ρ dA h) ∧ va_S A s.heap H locs
theorem zm_p1_of {st : List Value} {k : Int32 → List Value → Option zm_R} {r : zm_R} (h : zm_p1 st k = some r) : ∃ x t, st = .int x :: t ∧ k x t = some r := by
  unfold zm_p1 at h
  split at h
  · exact ⟨_, _, rfl, h⟩
  · cases h
theorem zm_p2_of {st : List Value} {k : Int32 → Int32 → List Value → Option zm_R} {r : zm_R} (h : zm_p2 st k = some r) : ∃ x y t, st = .int y :: .int x :: t ∧ k x y t = some r := by
  unfold zm_p2 at h
  split at h
  · exact ⟨_, _, _, rfl, h⟩
  · cases h
theorem zm_q1_of {st : List Value} {k : Int64 → List Value → Option zm_R} {r : zm_R} (h : zm_q1 st k = some r) : ∃ x t, st = .long x :: t ∧ k x t = some r := by
  unfold zm_q1 at h
  split at h
  · exact ⟨_, _, rfl, h⟩
  · cases h
theorem zm_q2_of {st : List Value} {k : Int64 → Int64 → List Value → Option zm_R} {r : zm_R} (h : zm_q2 st k = some r) : ∃ x y t, st = .long y :: .long x :: t ∧ k x y t = some r := by
  unfold zm_q2 at h
  split at h
  · exact ⟨_, _, _, rfl, h⟩
  · cases h
theorem zm_qs_of {st : List Value} {k : Int64 → Int32 → List Value → Option zm_R} {r : zm_R} (h : zm_qs st k = some r) : ∃ x y t, st = .int y :: .long x :: t ∧ k x y t = some r := by
  unfold zm_qs at h
  split at h
  · exact ⟨_, _, _, rfl, h⟩
  · cases h
theorem zm_a1_of {st : List Value} {k : Nat → List Value → Option zm_R} {r : zm_R} (h : zm_a1 st k = some r) : ∃ x t, st = .ref x :: t ∧ k x t = some r := by
  unfold zm_a1 at h
  split at h
  · exact ⟨_, _, rfl, h⟩
  · cases h
theorem zm_ix_of {st : List Value} {k : Nat → Int32 → List Value → Option zm_R} {r : zm_R} (h : zm_ix st k = some r) : ∃ a i t, st = .int i :: .ref a :: t ∧ k a i t = some r := by
  unfold zm_ix at h
  split at h
  · exact ⟨_, _, _, rfl, h⟩
  · cases h
theorem zm_is_of {st : List Value} {k : Nat → Int32 → Int32 → List Value → Option zm_R} {r : zm_R} (h : zm_is st k = some r) : ∃ a i x t, st = .int x :: .int i :: .ref a :: t ∧ k a i x t = some r := by
  unfold zm_is at h
  split at h
  · exact ⟨_, _, _, _, rfl, h⟩
  · cases h
theorem zm_js_of {st : List Value} {k : Nat → Int32 → Int64 → List Value → Option zm_R} {r : zm_R} (h : zm_js st k = some r) : ∃ a i x t, st = .long x :: .int i :: .ref a :: t ∧ k a i x t = some r := by
  unfold zm_js at h
  split at h
  · exact ⟨_, _, _, _, rfl, h⟩
  · cases h
theorem zm_ps_of {st : List Value} {k : Nat → Int32 → List Value → Option zm_R} {r : zm_R} (h : zm_ps st k = some r) : ∃ a x t, st = .int x :: .ref a :: t ∧ k a x t = some r := by
  unfold zm_ps at h
  split at h
  · exact ⟨_, _, _, rfl, h⟩
  · cases h
theorem zm_cy_of {st : List Value} {k : Nat → Int32 → Nat → Int32 → Int32 → List Value → Option zm_R} {r : zm_R} (h : zm_cy st k = some r) : ∃ a sp b dp n t, st = .int n :: .int dp :: .ref b :: .int sp :: .ref a :: t ∧ k a sp b dp n t = some r := by
  unfold zm_cy at h
  split at h
  · exact ⟨_, _, _, _, _, _, rfl, h⟩
  · cases h
theorem zm_iload_of {lv : zm_L} {i : Nat} {k : Int32 → Option zm_R} {r : zm_R} (h : zm_iload lv i k = some r) : ∃ x, lv[i]? = some (some (.int x)) ∧ k x = some r := by
  unfold zm_iload at h
  split at h
  · next q => exact ⟨_, q, h⟩
  · cases h
theorem zm_lload_of {lv : zm_L} {i : Nat} {k : Int64 → Option zm_R} {r : zm_R} (h : zm_lload lv i k = some r) : ∃ x, lv[i]? = some (some (.long x)) ∧ k x = some r := by
  unfold zm_lload at h
  split at h
  · next q => exact ⟨_, q, h⟩
  · cases h
theorem zm_aload_of {lv : zm_L} {i : Nat} {k : Nat → Option zm_R} {r : zm_R} (h : zm_aload lv i k = some r) : ∃ x, lv[i]? = some (some (.ref x)) ∧ k x = some r := by
  unfold zm_aload at h
  split at h
  · next q => exact ⟨_, q, h⟩
  · cases h
theorem zm_ia_of {h : zm_H} {a : Nat} {k : Nat → (Nat → Int32) → Option zm_R} {r : zm_R} (hh : zm_ia h a k = some r) : ∃ n f, zm_get h a = some (.inl (n, .inl f)) ∧ k n f = some r := by
  unfold zm_ia at hh
  split at hh
  · next q => exact ⟨_, _, q, hh⟩
  · cases hh
theorem zm_ja_of {h : zm_H} {a : Nat} {k : Nat → (Nat → Int64) → Option zm_R} {r : zm_R} (hh : zm_ja h a k = some r) : ∃ n f, zm_get h a = some (.inl (n, .inr (.inl f))) ∧ k n f = some r := by
  unfold zm_ja at hh
  split at hh
  · next q => exact ⟨_, _, q, hh⟩
  · cases hh
theorem zm_aa_of {h : zm_H} {a : Nat} {k : Nat → (Nat → Option Nat) → Option zm_R} {r : zm_R} (hh : zm_aa h a k = some r) : ∃ n f, zm_get h a = some (.inl (n, .inr (.inr (.inr (.inr f))))) ∧ k n f = some r := by
  unfold zm_aa at hh
  split at hh
  · next q => exact ⟨_, _, q, hh⟩
  · cases hh
theorem zm_ob_of {h : zm_H} {a ci : Nat} {k : List Value → Option zm_R} {r : zm_R} (hh : zm_ob h a ci k = some r) : ∃ fs, zm_get h a = some (.inr (ci, fs)) ∧ k fs = some r := by
  unfold zm_ob at hh
  split at hh
  · next cc fs q =>
    cases e : Nat.beq cc ci with
    | true => rw [e] at hh; rw [Nat.eq_of_beq_eq_true e] at q; exact ⟨_, q, hh⟩
    | false => rw [e] at hh; cases hh
  · cases hh
theorem zm_ov_of {α : Type} {o : Option α} {k : α → Option zm_R} {r : zm_R} (h : zm_ov o k = some r) : ∃ v, o = some v ∧ k v = some r := by
  unfold zm_ov at h
  split at h
  · exact ⟨_, rfl, h⟩
  · cases h
theorem zm_bif_of {b : Bool} {x : Option zm_R} {r : zm_R} (h : (bif b then x else none) = some r) : b = true ∧ x = some r := by
  cases b with
  | true => exact ⟨rfl, h⟩
  | false => cases h
theorem zm_bnf_of {b : Bool} {x : Option zm_R} {r : zm_R} (h : (bif b then none else x) = some r) : b = false ∧ x = some r := by
  cases b with
  | true => cases h
  | false => exact ⟨rfl, h⟩
theorem zm_in_of {i : Int32} {n : Nat} (h : zm_in i n = true) : vp_in i n := by
  unfold zm_in at h
  exact (of_decide_eq_true h : ¬ (i < 0 ∨ n ≤ i.toNatClampNeg))
theorem zm_bif2 {b : Bool} {x y : Option zm_R} {r : zm_R} (h : (bif b then x else y) = some r) : (b = true ∧ x = some r) ∨ (b = false ∧ y = some r) := by
  cases b with
  | true => exact Or.inl ⟨rfl, h⟩
  | false => exact Or.inr ⟨rfl, h⟩
