/-! a check, by computing, that a table is that of a code -/
def zm_tabb (pc : Nat) (dflt lo hi : Int) (offs : List Int) (d : Nat) (ps : List (Int × Nat)) : Bool := decide ((pc : Int) + dflt = (d : Int)) && decide (hi + 1 = lo + offs.length) && decide (ps.map (fun q => (q.1, (q.2 : Int))) = offs.mapIdx (fun j o => (lo + (j : Int), (pc : Int) + o)))
def zm_tavb (pc : Nat) (dflt : Int) (prs : List (Int × Int)) (d : Nat) (ps : List (Int × Nat)) : Bool := decide ((pc : Int) + dflt = (d : Int)) && (prs.zip (prs.drop 1)).all (fun (a, next) => a.1 < next.1) && decide (ps.map (fun q => (q.1, (q.2 : Int))) = prs.map (fun q => (q.1, (pc : Int) + q.2)))
def zm_lb (cno : Nat) (rb : Bool) (ret : Option FieldType) (pc : Nat) (i : zm_I) : Bool := match i with
  | (ins, len, x1, x2, x3, ps) => match ins with
    | .getfield idx => zm_FL.contains (cno, idx, x1, x2)
    | .putfield idx => zm_PL.contains (cno, idx, x1, x2, x3)
    | .getstatic idx => Nat.beq cno 8 && Nat.beq idx 9
    | .ldc idx => ps.all fun q => zm_KL.contains (cno, idx, q.1)
    | .ldc_w idx => ps.all fun q => zm_KL.contains (cno, idx, q.1)
    | .ldc2_w idx => ps.all fun q => zm_JL.contains (cno, idx, q.1)
    | .if_icmp _ off => decide ((pc : Int) + off = (x1 : Int))
    | .ifCond _ off => decide ((pc : Int) + off = (x1 : Int))
    | .goto off => decide ((pc : Int) + off = (x1 : Int))
    | .tableswitch d lo hi offs => zm_tabb pc d lo hi offs.toList x1 ps
    | .lookupswitch d prs => zm_tavb pc d prs.toList x1 ps
    | .invokestatic idx => bif Nat.ble 9990 x1 then zm_AL.contains (cno, idx, x1) else zm_ML.contains (cno, idx, x1) && (match zm_ms x1 with
      | some (_, _, _, _, _, stt, n, _, _, _, _) => stt && Nat.beq n x2
      | none => false)
    | .invokevirtual idx => zm_ML.contains (cno, idx, x1) && (match zm_ms x1 with
      | some (_, _, _, _, _, stt, n, ci, _, _, _) => !stt && Nat.beq (n + 1) x2 && Nat.beq ci len
      | none => false)
    | .ireturn => (rb && decide (ret = some .boolean)) || (!rb && decide (ret = some .int))
    | .lreturn => decide (ret = some .long)
    | .return_ => decide (ret = none)
    | _ => true
def zm_eb (cno : Nat) (cc : ByteArray) (rb : Bool) (ret : Option FieldType) (e : Nat × zm_I) : Bool := decide (decode cc e.1 = .ok (e.2.1, zm_ln e.2.1 e.2.2.1)) && zm_lb cno rb ret e.1 e.2
def zm_tb (cno : Nat) (cc : ByteArray) (rb : Bool) (ret : Option FieldType) (T : zm_T) : Bool := T.all fun l => l.all (zm_eb cno cc rb ret)
theorem zm_find_mem {pc : Nat} {i : zm_I} : ∀ l : List (Nat × zm_I), zm_find pc l = some i → (pc, i) ∈ l
  | [], h => by cases h
  | (p, j) :: r, h => by
    simp only [zm_find] at h
    cases e : Nat.beq p pc with
    | true =>
      rw [e] at h
      cases h
      rw [Nat.eq_of_beq_eq_true e]
      exact List.mem_cons_self
    | false =>
      rw [e] at h
      exact List.mem_cons_of_mem _ (zm_find_mem r h)
theorem zm_tab_ok {pc : Nat} {dflt lo hi : Int} {offs : List Int} {d : Nat} {ps : List (Int × Nat)} (h : zm_tabb pc dflt lo hi offs d ps = true) : zm_tab pc dflt lo hi offs d ps := by
  unfold zm_tabb at h
  simp only [Bool.and_eq_true, decide_eq_true_eq] at h
  obtain ⟨⟨h1, h2⟩, h3⟩ := h
  have hlen : ps.length = offs.length := by
    have := congrArg List.length h3
    simpa using this
  refine ⟨h1, h2, hlen, fun j k t hj => ?_⟩
  have hlt : j < offs.length := by rw [← hlen]; exact (List.getElem?_eq_some_iff.mp hj).1
  have hq := congrArg (fun l => l[j]?) h3
  simp only [List.getElem?_map, hj, List.getElem?_mapIdx, Option.map_some, List.getElem?_eq_getElem hlt] at hq
  simp only [Option.some.injEq, Prod.mk.injEq] at hq
  exact ⟨hq.1, offs[j], List.getElem?_eq_getElem hlt, hq.2.symm⟩
theorem zm_tav_ok {pc : Nat} {dflt : Int} {prs : List (Int × Int)} {d : Nat} {ps : List (Int × Nat)} (h : zm_tavb pc dflt prs d ps = true) : zm_tav pc dflt prs d ps := by
  unfold zm_tavb at h
  simp only [Bool.and_eq_true, decide_eq_true_eq] at h
  exact ⟨h.1.1, h.1.2, h.2⟩
theorem zm_lb_ok {cno : Nat} {own : String} (hown : zm_cn[cno]? = some own) {rb : Bool} {ret : Option FieldType} {pc : Nat} {i : zm_I} (h : zm_lb cno rb ret pc i = true) : zm_lk own pc i ∧ zm_lc zm_ms own i ∧ zm_le rb ret i := by
  obtain ⟨ins, len, x1, x2, x3, ps⟩ := i
  cases ins
  case getfield idx =>
    obtain ⟨own', C, T, N, k0, k1, k2, k3, k4⟩ := zl_F _ (List.contains_iff_mem.mp h)
    rw [show own' = own from Option.some.inj (k0.symm.trans hown)] at k4
    exact ⟨⟨C, T, N, k1, k2, k3, k4⟩, trivial, trivial⟩
  case putfield idx =>
    obtain ⟨own', C, T, N, ty0, k0, k1, k2, k3, k4, k5, k6, k7, k8⟩ := zl_P _ (List.contains_iff_mem.mp h)
    rw [show own' = own from Option.some.inj (k0.symm.trans hown)] at k4
    exact ⟨⟨C, T, N, ty0, k1, k2, k3, k4, k5, k6, k7, k8⟩, trivial, trivial⟩
  case getstatic idx =>
    obtain ⟨h1, h2⟩ := Bool.and_eq_true_iff.mp (show (Nat.beq cno 8 && Nat.beq idx 9) = true from h)
    have e1 := Nat.eq_of_beq_eq_true h1
    have e2 := Nat.eq_of_beq_eq_true h2
    subst e1
    subst e2
    refine ⟨?_, trivial, trivial⟩
    rw [show own = RX8 from (Option.some.inj (hown.symm.trans (show zm_cn[8]? = some RX8 from rfl)))]
    exact zl_T
  case ldc idx =>
    refine ⟨fun q hq => ?_, trivial, trivial⟩
    obtain ⟨own', k0, k1⟩ := zl_K _ (List.contains_iff_mem.mp (List.all_eq_true.mp (show (ps.all fun q => zm_KL.contains (cno, idx, q.1)) = true from h) q (List.mem_of_mem_head? hq)))
    rw [show own' = own from Option.some.inj (k0.symm.trans hown)] at k1
    exact k1
  case ldc_w idx =>
    refine ⟨fun q hq => ?_, trivial, trivial⟩
    obtain ⟨own', k0, k1⟩ := zl_K _ (List.contains_iff_mem.mp (List.all_eq_true.mp (show (ps.all fun q => zm_KL.contains (cno, idx, q.1)) = true from h) q (List.mem_of_mem_head? hq)))
    rw [show own' = own from Option.some.inj (k0.symm.trans hown)] at k1
    exact k1
  case ldc2_w idx =>
    refine ⟨fun q hq => ?_, trivial, trivial⟩
    obtain ⟨own', k0, k1⟩ := zl_J _ (List.contains_iff_mem.mp (List.all_eq_true.mp (show (ps.all fun q => zm_JL.contains (cno, idx, q.1)) = true from h) q (List.mem_of_mem_head? hq)))
    rw [show own' = own from Option.some.inj (k0.symm.trans hown)] at k1
    exact k1
  case if_icmp cd off => exact ⟨(of_decide_eq_true h : (pc : Int) + off = (x1 : Int)), trivial, trivial⟩
  case ifCond cd off => exact ⟨(of_decide_eq_true h : (pc : Int) + off = (x1 : Int)), trivial, trivial⟩
  case goto off => exact ⟨(of_decide_eq_true h : (pc : Int) + off = (x1 : Int)), trivial, trivial⟩
  case tableswitch d lo hi offs => exact ⟨zm_tab_ok h, trivial, trivial⟩
  case lookupswitch d prs => exact ⟨zm_tav_ok h, trivial, trivial⟩
  case invokestatic idx =>
    cases e : Nat.ble 9990 x1 with
    | true =>
      have h' : (bif Nat.ble 9990 x1 then zm_AL.contains (cno, idx, x1) else zm_ML.contains (cno, idx, x1) && (match zm_ms x1 with
        | some (_, _, _, _, _, stt, n, _, _, _, _) => stt && Nat.beq n x2
        | none => false)) = true := h
      rw [e] at h'
      obtain ⟨own', k0, k1⟩ := zl_A _ (List.contains_iff_mem.mp h')
      rw [show own' = own from Option.some.inj (k0.symm.trans hown)] at k1
      exact ⟨k1, fun q => absurd (Nat.le_of_ble_eq_true e) (Nat.not_le.mpr q), trivial⟩
    | false =>
      have h' : (bif Nat.ble 9990 x1 then zm_AL.contains (cno, idx, x1) else zm_ML.contains (cno, idx, x1) && (match zm_ms x1 with
        | some (_, _, _, _, _, stt, n, _, _, _, _) => stt && Nat.beq n x2
        | none => false)) = true := h
      rw [e] at h'
      have hlt : ¬ 9990 ≤ x1 := fun q => by rw [Nat.ble_eq_true_of_le q] at e; cases e
      obtain ⟨h1, h2⟩ := Bool.and_eq_true_iff.mp h'
      obtain ⟨own', o2, y, cc, nL, rt, stt, n, ci, rb', cuts, T, k0, k1, k2⟩ := zl_M _ (List.contains_iff_mem.mp h1)
      rw [show own' = own from Option.some.inj (k0.symm.trans hown)] at k2
      simp only at k1
      rw [k1] at h2
      obtain ⟨h3, h4⟩ := Bool.and_eq_true_iff.mp h2
      rw [h3, Nat.eq_of_beq_eq_true h4] at k1
      exact ⟨⟨fun q => absurd q hlt, fun q => absurd (by omega) hlt, fun q => absurd (by omega) hlt, fun q => absurd (by omega) hlt⟩, fun _ => ⟨o2, y, cc, nL, rt, ci, rb', cuts, T, k1, k2⟩, trivial⟩
  case invokevirtual idx =>
    obtain ⟨h1, h2⟩ := Bool.and_eq_true_iff.mp (show (zm_ML.contains (cno, idx, x1) && (match zm_ms x1 with
      | some (_, _, _, _, _, stt, n, ci, _, _, _) => !stt && Nat.beq (n + 1) x2 && Nat.beq ci len
      | none => false)) = true from h)
    obtain ⟨own', o2, y, cc, nL, rt, stt, n, ci, rb', cuts, T, k0, k1, k2⟩ := zl_M _ (List.contains_iff_mem.mp h1)
    rw [show own' = own from Option.some.inj (k0.symm.trans hown)] at k2
    simp only at k1
    rw [k1] at h2
    obtain ⟨h3, h5⟩ := Bool.and_eq_true_iff.mp h2
    obtain ⟨h3, h4⟩ := Bool.and_eq_true_iff.mp h3
    rw [show stt = false by simpa using h3, Nat.eq_of_beq_eq_true h5] at k1
    exact ⟨trivial, ⟨o2, y, cc, nL, rt, n, rb', cuts, T, k1, (Nat.eq_of_beq_eq_true h4).symm, k2⟩, trivial⟩
  case ireturn =>
    refine ⟨trivial, trivial, ?_⟩
    have h' : ((rb && decide (ret = some .boolean)) || (!rb && decide (ret = some .int))) = true := h
    show (rb = true ∧ ret = some .boolean) ∨ (rb = false ∧ ret = some .int)
    simpa using h'
  case lreturn => exact ⟨trivial, trivial, (of_decide_eq_true h : ret = some .long)⟩
  case return_ => exact ⟨trivial, trivial, (of_decide_eq_true h : ret = none)⟩
  all_goals exact ⟨trivial, trivial, trivial⟩
theorem zm_tb_ok {cno : Nat} {own : String} (hown : zm_cn[cno]? = some own) {cc : ByteArray} {rb : Bool} {ret : Option FieldType} {T : zm_T} (h : zm_tb cno cc rb ret T = true) : zm_tok zm_ms own cc ret rb T := by
  intro pc i hl
  unfold zm_look at hl
  split at hl
  · next l hm =>
    have h1 := List.all_eq_true.mp (List.all_eq_true.mp h l (List.mem_of_getElem? hm)) _ (zm_find_mem l hl)
    obtain ⟨h2, h3⟩ := Bool.and_eq_true_iff.mp (show (decide (decode cc pc = .ok (i.1, zm_ln i.1 i.2.1)) && zm_lb cno rb ret pc i) = true from h1)
    exact ⟨of_decide_eq_true h2, zm_lb_ok hown h3⟩
  · cases hl
