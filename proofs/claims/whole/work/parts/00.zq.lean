/-! an array of rows of ints, as the machine makes it (of Shelf42 nothing is used) -/
section ZQ
variable {p : Program} {l : Launch} {e : Env} {R : Room} {s U : State} {m : MethodId} {args : Array Value} {below : List Frame} {meth : Method} {c : Code} {T : State} {locs : List Loc} {cells slots : Nat}
theorem zq_over {a : Array Value} {f : State} {o : Option Outcome} {idx : List Nat} (h : (Cond.arrayOver (.array .int)).holds a f o s idx = true) : ∃ (comp cA : ClassId) (k : Class), s.vm.findClass (FieldType.array .int).toString = some comp ∧ s.vm.classes[cA]? = some k ∧ k.kind = .array comp (.array .int) ∧ s.vm.findClass ("[" ++ (FieldType.array .int).toString) = some cA := by
  simp only [Cond.holds, Cond.value, beq_iff_eq, Option.bind_eq_some_iff, Option.map_eq_some_iff] at h
  obtain ⟨comp, hc, cA, hi, k, hk, hb⟩ := h
  obtain ⟨hlt, hp, -⟩ := Array.findIdx?_eq_some_iff_getElem.mp hi
  have e1 : s.vm.classes[cA] = k := (Array.getElem?_eq_some_iff.mp hk).2
  rw [e1] at hp
  cases hkind : k.kind with
  | array component ty =>
    rw [hkind] at hb hp
    simp at hb hp
    exact ⟨comp, cA, k, hc, hk, by rw [hkind, hp, hb.1], hb.2⟩
  | _ => rw [hkind] at hb; simp at hb
theorem zq_alike {a a' : Array Value} {f f' : State} {o o' : Option Outcome} {idx idx' : List Nat} (hal : s.vm.Alike U.vm) (h : (Cond.arrayOver (.array .int)).holds a f o s idx = true) : (Cond.arrayOver (.array .int)).holds a' f' o' U idx' = true := by
  simp only [Cond.holds, Cond.value, beq_iff_eq, Option.bind_eq_some_iff, Option.map_eq_some_iff] at h ⊢
  obtain ⟨comp, hc, cA, hi, k, hk, hb⟩ := h
  obtain ⟨k', hk', he⟩ := hal.2.2 _ _ hk
  have ek : k'.kind = k.kind := by rw [he]
  refine ⟨comp, by rw [hal.findClass]; exact hc, cA, (hal.findIdx?_eqK _ (fun _ => rfl)).trans hi, k', hk', ?_⟩
  rw [hal.findClass, ek]
  exact hb
/-- of the outer array the first i places are filled -/
def zqO (c : ClassId) (N h0 i : Nat) : Cell := arrV c N (fun j => if j < i then .ref (h0 + 1 + j) else .null)
theorem zqO_set (c : ClassId) (N h0 i : Nat) : (zqO c N h0 i).setSlot i (.ref (h0 + 1 + i)) = zqO c N h0 (i + 1) := by
  unfold zqO
  rw [arrV_store]
  refine congrArg (arrV c N) (funext fun j => ?_)
  unfold updV
  by_cases q : j = i
  · rw [if_pos q, if_pos (by omega), q]
  · rw [if_neg q]
    show (if j < i then Value.ref (h0 + 1 + j) else Value.null) = _
    by_cases q2 : j < i
    · rw [if_pos q2, if_pos (by omega)]
    · rw [if_neg q2, if_neg (by omega)]
/-- the outer array, then row after row -/
def zqS (c comp : ClassId) (N M : Nat) (s : State) : Nat → State
  | 0 => s.pushCell (zqO c N s.heap.size 0)
  | i + 1 => ((zqS c comp N M s i).pushCell (arrV comp M (fun _ => .int 0))).setCell s.heap.size (zqO c N s.heap.size (i + 1))
theorem zqS_all (c comp : ClassId) (N M : Nat) (s : State) : ∀ i, (zqS c comp N M s i).heap.size = s.heap.size + 1 + i ∧ (zqS c comp N M s i).heap[s.heap.size]? = some (zqO c N s.heap.size i) ∧ (zqS c comp N M s i).vm = s.vm ∧ (zqS c comp N M s i).slotsUsed = s.slotsUsed + N + i * M ∧ (∀ x, x < s.heap.size → (zqS c comp N M s i).heap[x]? = s.heap[x]?) ∧ ∀ j, j < i → (zqS c comp N M s i).heap[s.heap.size + 1 + j]? = some (arrV comp M (fun _ => .int 0)) := by
  intro i
  induction i with
  | zero =>
    have z : (zqO c N s.heap.size 0).slots.size = N := arrV_size _ _ _
    refine ⟨by simp [zqS], by simp [zqS], rfl, by simp [zqS, z], fun x hx => State.heap_pushCell_of_lt _ _ hx, fun j hj => absurd hj (Nat.not_lt_zero _)⟩
  | succ i ih =>
    obtain ⟨h1, h2, h3, h4, h5, h6⟩ := ih
    have z : (arrV comp M (fun _ => .int 0)).slots.size = M := arrV_size _ _ _
    have lt : s.heap.size < (zqS c comp N M s i).heap.size := by omega
    have self : ((zqS c comp N M s i).pushCell (arrV comp M (fun _ => .int 0))).heap[s.heap.size]? = some (zqO c N s.heap.size i) := by
      rw [State.heap_pushCell_of_lt (h := lt)]
      exact h2
    refine ⟨?_, State.heap_setCell_self self, by simp [zqS, h3], ?_, fun x hx => ?_, fun j hj => ?_⟩
    · simp [zqS, State.setCell, h1]
      omega
    · simp [zqS, h4, z, Nat.succ_mul]
      omega
    · show (((zqS c comp N M s i).pushCell (arrV comp M (fun _ => .int 0))).setCell s.heap.size _).heap[x]? = _
      rw [State.heap_setCell_other (Nat.ne_of_gt hx), State.heap_pushCell_of_lt (h := Nat.lt_trans hx lt)]
      exact h5 x hx
    · show (((zqS c comp N M s i).pushCell (arrV comp M (fun _ => .int 0))).setCell s.heap.size _).heap[s.heap.size + 1 + j]? = _
      rw [State.heap_setCell_other (show s.heap.size ≠ s.heap.size + 1 + j by omega)]
      by_cases q : j < i
      · rw [State.heap_pushCell_of_lt (h := show s.heap.size + 1 + j < (zqS c comp N M s i).heap.size by omega)]
        exact h6 j q
      · have q2 : j = i := by omega
        subst q2
        rw [← h1]
        exact State.heap_pushCell_size _ _
theorem zqS_top (c comp : ClassId) (N M : Nat) (s : State) (g : JFrame) : ∀ i, zqS c comp N M (s.setTop g) i = (zqS c comp N M s i).setTop g
  | 0 => rfl
  | i + 1 => by simp only [zqS, zqS_top c comp N M s g i, State.heap_setTop, State.pushCell_setTop, State.setCell_setTop]
theorem zqS_stand (X : Stand p l e R s m args below meth c T locs cells slots) (cA comp : ClassId) (N M : Nat) : ∀ i, Stand p l e R s m args below meth c (zqS cA comp N M T i) locs (cells + 1 + i) (slots + N + i * M) := by
  intro i
  induction i with
  | zero =>
    have h := X.pushed (zqO cA N T.heap.size 0)
    rw [show (zqO cA N T.heap.size 0).slots.size = N from arrV_size _ _ _] at h
    simpa [zqS] using h
  | succ i ih =>
    obtain ⟨h1, h2, -, -, -, -⟩ := zqS_all cA comp N M T i
    have lt : T.heap.size < (zqS cA comp N M T i).heap.size := by omega
    have self : ((zqS cA comp N M T i).pushCell (arrV comp M (fun _ => .int 0))).heap[T.heap.size]? = some (zqO cA N T.heap.size i) := by
      rw [State.heap_pushCell_of_lt (h := lt)]
      exact h2
    have h := (ih.pushed (arrV comp M (fun _ => .int 0))).stored self i (.ref (T.heap.size + 1 + i))
    rw [zqO_set, show (arrV comp M (fun _ => .int 0)).slots.size = M from arrV_size _ _ _] at h
    have h' := h.dropFresh (fun x hx => by
      rw [List.mem_singleton] at hx
      rw [hx]
      exact X.heapGrown)
    have e1 : slots + N + (i + 1) * M = slots + N + i * M + M := by rw [Nat.succ_mul]; omega
    rw [e1]
    exact h'
theorem zq_make {E : CtlPost} {d : Bool} {acts : List Action} {cA comp cc : ClassId} {k kc : Class} {n q : Int32} (hk : s.vm.classes[cA]? = some k) (hkind : k.kind = .array comp (.array .int)) (hkc : s.vm.classes[comp]? = some kc) (hkindc : kc.kind = .array cc .int) (hn : ¬ n < 0) (hq0 : ¬ q < 0)
    (l1 : ¬ n.toNatClampNeg > e.platform.arrayLengthLimit) (b1 : ¬ n.toNatClampNeg * componentBytes (.array .int) > e.platform.maxHeapBytes) (l2 : ¬ q.toNatClampNeg > e.platform.arrayLengthLimit) (b2 : ¬ q.toNatClampNeg * componentBytes .int > e.platform.maxHeapBytes)
    (hcl : s.heap.size + 1 + n.toNatClampNeg ≤ e.platform.maxCells) (hsl : s.slotsUsed + n.toNatClampNeg + n.toNatClampNeg * q.toNatClampNeg ≤ e.platform.maxSlots)
    {Q : Addr → Pre} (hQ : ∀ d' acts', Q s.heap.size d' acts' (zqS cA comp n.toNatClampNeg q.toNatClampNeg s n.toNatClampNeg)) : wp (multianewarray.make cA [n, q]) Q E e d acts s := by
  have none1 : ([q].find? (· < 0)) = none := by simp [hq0]
  have ge0 := Nat.zero_le (n.toNatClampNeg * q.toNatClampNeg)
  rw [multianewarray.make]
  simp only [wp_bind', W.ite, hn, if_false, wp_pure', W.theClass, hk, hkind, Option.some.injEq, exists_eq_left']
  refine W.newArray_of hk hkind l1 b1 (by omega) (by omega) rfl (fun acts1 => ?_)
  have start : s.pushCell { cls := cA, slots := Array.replicate n.toNatClampNeg Value.null } = zqS cA comp n.toNatClampNeg q.toNatClampNeg s 0 := by
    show s.pushCell ({ cls := cA, slots := Array.replicate n.toNatClampNeg Value.null, vm := .none } : Cell) = s.pushCell _
    rw [arrV_new]
    refine congrArg s.pushCell (congrArg (arrV cA n.toNatClampNeg) (funext fun j => ?_))
    rw [if_neg (Nat.not_lt_zero _)]
  rw [start]
  simp only [none1]
  rw [ite_self, wp_bind', Std.Legacy.Range.forIn_eq_forIn_range']
  have hsz : ([:n.toNatClampNeg] : Std.Legacy.Range).size = n.toNatClampNeg := by simp [Std.Legacy.Range.size]
  rw [hsz]
  show wp (forIn (List.range' 0 n.toNatClampNeg 1) PUnit.unit _) _ E e d _ _
  refine wp_forIn_inv (fun rest s' => ∃ i, i + rest.length = n.toNatClampNeg ∧ rest = List.range' i rest.length ∧ s' = zqS cA comp n.toNatClampNeg q.toNatClampNeg s i) _ _ ⟨0, by simp, by simp, rfl⟩ ?_ ?_
  · rintro x rest s' d' acts' Q' ⟨i, hi, hl, rfl⟩ hnext
    rw [List.length_cons, List.range'_succ] at hl
    obtain ⟨hx, hrest⟩ := List.cons.inj hl
    subst hx
    rw [List.length_cons] at hi
    obtain ⟨f1, f2, f3, f4, -, -⟩ := zqS_all cA comp n.toNatClampNeg q.toNatClampNeg s x
    have hmul : x * q.toNatClampNeg + q.toNatClampNeg ≤ n.toNatClampNeg * q.toNatClampNeg := by
      have := Nat.mul_le_mul_right q.toNatClampNeg (show x + 1 ≤ n.toNatClampNeg by omega)
      rw [Nat.succ_mul] at this
      exact this
    have lt : s.heap.size < (zqS cA comp n.toNatClampNeg q.toNatClampNeg s x).heap.size := by omega
    simp only [wp_bind']
    rw [multianewarray.make]
    simp only [wp_bind', W.ite, hq0, if_false, wp_pure', W.theClass, f3, hkc, hkindc, Option.some.injEq, exists_eq_left']
    refine W.newArray_of (by rw [f3]; exact hkc) hkindc l2 b2 (by omega) (by omega) rfl (fun acts2 => ?_)
    have row : ({ cls := comp, slots := Array.replicate q.toNatClampNeg (defaultValue .int) } : Cell) = arrV comp q.toNatClampNeg (fun _ => .int 0) := arrV_new comp q.toNatClampNeg (.int 0)
    rw [row]
    simp only [wp_bind', W.writeLoc, wp_pure']
    refine ⟨zqO cA n.toNatClampNeg s.heap.size x, by rw [State.heap_pushCell_of_lt (h := lt)]; exact f2, (fun h => by cases h), by rw [show (zqO cA n.toNatClampNeg s.heap.size x).slots.size = n.toNatClampNeg from arrV_size _ _ _]; omega, ?_, hnext _ _ _ ⟨x + 1, by omega, hrest, ?_⟩⟩
    · simp [State.fitsSlot, State.slotType?, zqO, arrV, f3, hk, hkind, fits]
    · rw [f1, zqO_set]
      rfl
  · rintro s' d' acts' ⟨i, hi, hl, rfl⟩
    rw [List.length_nil, Nat.add_zero] at hi
    subst hi
    simp only [wp_pure']
    exact hQ _ _
theorem zq_step (X : Stand p l e R s m args below meth c T locs cells slots) (hexec : p.tables.exec = Jvm.exec) {own : String} {index : Nat} (hown : s.vm.findClass own = some m.cls) (hclink : (Cond.classLink own index ("[" ++ (FieldType.array .int).toString)).before args s = true) (hover : (Cond.arrayOver (.array .int)).before args s = true) (harr : (Cond.arrayClass .int).before args s = true)
    {g : JFrame} (hg : g.method = m) (hdg : decode c.code g.pc = .ok (.multianewarray index 2, 4)) {n k : Int32} {rest : List Value} (hstack : g.stack = .int k :: .int n :: rest) (hn : ¬ n < 0) (hk : ¬ k < 0) (hb1 : n.toNatClampNeg * 4 ≤ 536870912) (hb2 : k.toNatClampNeg * 4 ≤ 536870912)
    (hcells : cells + (1 + n.toNatClampNeg) ≤ R.cells) (hslots : slots + (n.toNatClampNeg + n.toNatClampNeg * k.toNatClampNeg) ≤ R.slots) :
    ∃ (vm₁ : Vm) (cA comp : ClassId), s.vm.findClass ("[" ++ (FieldType.array .int).toString) = some cA ∧ s.vm.findClass (FieldType.array .int).toString = some comp ∧ Stand p l e R s m args below meth c (zqS cA comp n.toNatClampNeg k.toNatClampNeg (T.setVm vm₁) n.toNatClampNeg) locs (cells + 1 + n.toNatClampNeg) (slots + n.toNatClampNeg + n.toNatClampNeg * k.toNatClampNeg) ∧
      ∀ target, Steps p.tables e below ((zqS cA comp n.toNatClampNeg k.toNatClampNeg (T.setVm vm₁) n.toNatClampNeg).setTop { g with pc := g.pc + 4, stack := .ref T.heap.size :: rest }) target → Steps p.tables e below (T.setTop g) target := by
  subst hg
  obtain ⟨comp, cA, kA, hcomp, hkA, hkindA, hnameA⟩ := zq_over hover
  obtain ⟨comp2, kC, cc, hcomp2, hkC, hkindC⟩ := Cond.arrayClass_spec harr
  cases hcomp2.symm.trans hcomp
  obtain ⟨c0, hc0, hcl⟩ := Cond.classLink_spec hown hclink e.platform (by rw [X.admits.platform])
  cases hnameA.symm.trans hc0
  obtain ⟨gives, warm, -⟩ := State.classEntry (e := e) X.warmed hcl
  generalize T.vm.noted g.method.cls index (.cls cA) = vm₁ at gives warm
  obtain ⟨kA1, hkA1, eA⟩ := warm.alike.2.2 _ _ hkA
  obtain ⟨kC1, hkC1, eC⟩ := warm.alike.2.2 _ _ hkC
  have X1 := X.noted warm
  obtain ⟨r1, r2⟩ := X.roomAbove hcells hslots
  refine ⟨vm₁, cA, comp, hnameA, hcomp, zqS_stand X1 cA comp _ _ _, fun target hrest => ?_⟩
  jvm_step X.here [hexec, hdg]
  simp only [multianewarray.sem, wp_bind', W.resolveClassAt_links (State.method?_setTop g X.here.top) gives]
  rw [W.popN, if_neg (by decide)]
  refine ⟨g, State.topJava?_setTop' (s := T.setVm vm₁) g X.here.top, [.int n, .int k], rest, rfl, hstack, ?_⟩
  simp only [List.mapM_cons, List.mapM_nil, wp_bind', wp_pure']
  refine zq_make (k := kA1) (kc := kC1) (comp := comp) (cc := cc) hkA1 (by rw [eA]; exact hkindA) hkC1 (by rw [eC]; exact hkindC) hn hk (by rw [Launch.admits_arrayLengthLimit X.admits]; omega) (by rw [Launch.admits_maxHeapBytes X.admits]; show ¬ n.toNatClampNeg * 4 > 536870912; omega) (by rw [Launch.admits_arrayLengthLimit X.admits]; omega) (by rw [Launch.admits_maxHeapBytes X.admits]; show ¬ k.toNatClampNeg * 4 > 536870912; omega) (by show T.heap.size + 1 + _ ≤ _; omega) (by show T.slotsUsed + _ + _ ≤ _; omega) (fun d' acts' => ?_)
  have XF := zqS_stand X1 cA comp n.toNatClampNeg k.toNatClampNeg n.toNatClampNeg
  have eS : ((T.setTop g).setVm vm₁).setTop { g with stack := rest } = (T.setVm vm₁).setTop { g with stack := rest } := by
    show ((T.setVm vm₁).setTop g).setTop _ = _
    rw [State.setTop_setTop]
  rw [eS, zqS_top]
  simp only [wp_bind', W.mark, W.pushRef, State.topJava?_setTop' _ XF.here.top, Option.some.injEq, exists_eq_left', State.setTop_setTop, State.heap_setTop]
  intro acts
  simp [jvm, XF.here.top]
  exact hrest
end ZQ
