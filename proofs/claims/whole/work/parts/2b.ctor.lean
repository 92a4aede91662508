/-! printed by wip/whole/ctor.py: the constructors -/
theorem dJ7_fill_53178_0 : decode cJ7_fill_53178 0 = .ok (.iconst 0, 1) := by decide +kernel
theorem dJ7_fill_53178_1 : decode cJ7_fill_53178 1 = .ok (.istore_n 2, 1) := by decide +kernel
theorem dJ7_fill_53178_2 : decode cJ7_fill_53178 2 = .ok (.aload_n 0, 1) := by decide +kernel
theorem dJ7_fill_53178_3 : decode cJ7_fill_53178 3 = .ok (.arraylength, 1) := by decide +kernel
theorem dJ7_fill_53178_4 : decode cJ7_fill_53178 4 = .ok (.istore_n 3, 1) := by decide +kernel
theorem dJ7_fill_53178_5 : decode cJ7_fill_53178 5 = .ok (.iload_n 2, 1) := by decide +kernel
theorem dJ7_fill_53178_6 : decode cJ7_fill_53178 6 = .ok (.iload_n 3, 1) := by decide +kernel
theorem dJ7_fill_53178_7 : decode cJ7_fill_53178 7 = .ok (.if_icmp .ge 13, 3) := by decide +kernel
theorem dJ7_fill_53178_10 : decode cJ7_fill_53178 10 = .ok (.aload_n 0, 1) := by decide +kernel
theorem dJ7_fill_53178_11 : decode cJ7_fill_53178 11 = .ok (.iload_n 2, 1) := by decide +kernel
theorem dJ7_fill_53178_12 : decode cJ7_fill_53178 12 = .ok (.iload_n 1, 1) := by decide +kernel
theorem dJ7_fill_53178_13 : decode cJ7_fill_53178 13 = .ok (.iastore, 1) := by decide +kernel
theorem dJ7_fill_53178_14 : decode cJ7_fill_53178 14 = .ok (.iinc 2 1, 3) := by decide +kernel
theorem dJ7_fill_53178_17 : decode cJ7_fill_53178 17 = .ok (.goto (-12), 3) := by decide +kernel
theorem dJ7_fill_53178_20 : decode cJ7_fill_53178 20 = .ok (.return_, 1) := by decide +kernel
set_option maxHeartbeats 4000000 in
set_option maxRecDepth 100000 in
theorem k_fill (l : Launch) (dC : Nat → ClassId) (dI : Nat → Nat → Nat) (dA : Nat → ClassId) (h0 sz : Nat) (f : Nat → Int32) (v : Int32) : Met l yJ7_fill_53178 (Jvm.Cond.code yJ7_fill_53178 cJ7_fill_53178 4 none :: zm_WL) ({ frames := 0, cells := 0, slots := 0, locals := 0 }) (zc_P dC dI dA [.ref h0, .int v] sz [(h0, .inl (dA 0, 4, .inl f))]) (va_Qv (fun _ : Unit => True) (fun _ t => va_P (dC, dI) vwCl [(h0, .inl (dA 0, 4, .inl (upd (upd (upd (upd f 0 v) 1 v) 2 v) 3 v)))] t.heap ∧ va_D (va_A [(h0, .inl (dA 0, 4, .inl f))] sz) [(h0, .inl (dA 0, 4, .inl (upd (upd (upd (upd f 0 v) 1 v) 2 v) 3 v)))]) (va_A [(h0, .inl (dA 0, 4, .inl f))] sz)) 0 0 (va_A [(h0, .inl (dA 0, 4, .inl f))] sz) := by
  refine Met.ofW (cc := cJ7_fill_53178) (maxL := 4) (ret := none) (by decide) rfl ?_
  intro p e s m args below meth c s₁ B hml hv
  obtain ⟨rfl, hsz, hP, hV, hD0⟩ := hv
  have hx := B.exec
  have hb := B.bytes
  have hr := B.returns
  have hts0 := atoms_spec (ws := Jvm.Cond.code yJ7_fill_53178 cJ7_fill_53178 4 none :: zm_WL) B.pre
  have hts : ∀ w ∈ zm_WL, w.before [Value.ref h0, Value.int v].toArray s = true := fun w h => hts0 w (List.mem_cons_of_mem _ h)
  have hown : s.vm.findClass RJ7 = some m.cls := findClass_of_methodNamed B.named
  have hlocks := B.notSynchronized
  subst hsz
  have hK := hV.1
  have hD := hD0.self (sz := s.heap.size)
  generalize hAe : va_A [(h0, .inl (dA 0, 4, .inl f))] s.heap.size = A at hD ⊢
  have hA : ∀ q : Nat, s.heap.size ≤ q → A q := fun q h => by rw [← hAe]; exact Or.inr h
  have hS : va_S A s.heap s.heap [] := va_S.rf
  have hP : va_P (dC, dI) vwCl [(h0, .inl (dA 0, 4, .inl f))] s.heap := hP
  have hl := lv_entry ([.ref h0, .int v]) (n := 4) (Nat.le_of_ble_eq_true rfl)
  rw [lg_entry_eq]
  generalize (lg_sl ([.ref h0, .int v]) ++ List.replicate (4 - (lg_sl ([.ref h0, .int v])).length) Slot.unset).toArray = ls at hl ⊢
  have hl : lv_has ls 4 [(0, .ref h0), (1, .int v)] := hl
  refine lv_iconst (v := 0) hx hb dJ7_fill_53178_0 (by decide) ?_
  refine lv_istore_n (lv' := [(2, .int 0), (0, .ref h0), (1, .int v)]) hx hb dJ7_fill_53178_1 rfl hl (by decide) rfl (fun ls hl => ?_)
  refine lv_aload_n hx hb dJ7_fill_53178_2 rfl (lv_at hl 1 rfl) ?_
  refine va_alen (v := 4) hx hb hK hP 0 0 rfl rfl rfl dJ7_fill_53178_3 ?_
  refine lv_istore_n (lv' := [(3, .int 4), (2, .int 0), (0, .ref h0), (1, .int v)]) hx hb dJ7_fill_53178_4 rfl hl (by decide) rfl (fun ls hl => ?_)
  refine lv_iload_n hx hb dJ7_fill_53178_5 rfl (lv_at hl 1 rfl) ?_
  refine lv_iload_n hx hb dJ7_fill_53178_6 rfl (lv_at hl 0 rfl) ?_
  refine lv_icmp_ge (tgt := 20) hx hb dJ7_fill_53178_7 (by decide) (fun c => absurd c (by decide)) (fun _ => ?_)
  refine lv_aload_n hx hb dJ7_fill_53178_10 rfl (lv_at hl 2 rfl) ?_
  refine lv_iload_n hx hb dJ7_fill_53178_11 rfl (lv_at hl 1 rfl) ?_
  refine lv_iload_n hx hb dJ7_fill_53178_12 rfl (lv_at hl 3 rfl) ?_
  refine va_iast hx hb hK hP hD hS 0 0 rfl rfl (by unfold vp_in; decide) dJ7_fill_53178_13 (fun H locs hP hD hS => ?_)
  have hP : va_P (dC, dI) vwCl [(h0, .inl (dA 0, 4, .inl (upd f 0 v)))] H := hP
  have hD : va_D A [(h0, .inl (dA 0, 4, .inl (upd f 0 v)))] := hD
  refine lv_iinc (v := 1) (lv' := [(2, .int 1), (3, .int 4), (0, .ref h0), (1, .int v)]) hx hb dJ7_fill_53178_14 hl (k := 1) rfl (by decide) (by decide) rfl (fun ls hl => ?_)
  refine lv_goto (tgt := 5) hx hb dJ7_fill_53178_17 (by decide) ?_
  refine lv_iload_n hx hb dJ7_fill_53178_5 rfl (lv_at hl 0 rfl) ?_
  refine lv_iload_n hx hb dJ7_fill_53178_6 rfl (lv_at hl 1 rfl) ?_
  refine lv_icmp_ge (tgt := 20) hx hb dJ7_fill_53178_7 (by decide) (fun c => absurd c (by decide)) (fun _ => ?_)
  refine lv_aload_n hx hb dJ7_fill_53178_10 rfl (lv_at hl 2 rfl) ?_
  refine lv_iload_n hx hb dJ7_fill_53178_11 rfl (lv_at hl 0 rfl) ?_
  refine lv_iload_n hx hb dJ7_fill_53178_12 rfl (lv_at hl 3 rfl) ?_
  refine va_iast hx hb hK hP hD hS 0 0 rfl rfl (by unfold vp_in; decide) dJ7_fill_53178_13 (fun H locs hP hD hS => ?_)
  have hP : va_P (dC, dI) vwCl [(h0, .inl (dA 0, 4, .inl (upd (upd f 0 v) 1 v)))] H := hP
  have hD : va_D A [(h0, .inl (dA 0, 4, .inl (upd (upd f 0 v) 1 v)))] := hD
  refine lv_iinc (v := 2) (lv' := [(2, .int 2), (3, .int 4), (0, .ref h0), (1, .int v)]) hx hb dJ7_fill_53178_14 hl (k := 0) rfl (by decide) (by decide) rfl (fun ls hl => ?_)
  refine lv_goto (tgt := 5) hx hb dJ7_fill_53178_17 (by decide) ?_
  refine lv_iload_n hx hb dJ7_fill_53178_5 rfl (lv_at hl 0 rfl) ?_
  refine lv_iload_n hx hb dJ7_fill_53178_6 rfl (lv_at hl 1 rfl) ?_
  refine lv_icmp_ge (tgt := 20) hx hb dJ7_fill_53178_7 (by decide) (fun c => absurd c (by decide)) (fun _ => ?_)
  refine lv_aload_n hx hb dJ7_fill_53178_10 rfl (lv_at hl 2 rfl) ?_
  refine lv_iload_n hx hb dJ7_fill_53178_11 rfl (lv_at hl 0 rfl) ?_
  refine lv_iload_n hx hb dJ7_fill_53178_12 rfl (lv_at hl 3 rfl) ?_
  refine va_iast hx hb hK hP hD hS 0 0 rfl rfl (by unfold vp_in; decide) dJ7_fill_53178_13 (fun H locs hP hD hS => ?_)
  have hP : va_P (dC, dI) vwCl [(h0, .inl (dA 0, 4, .inl (upd (upd (upd f 0 v) 1 v) 2 v)))] H := hP
  have hD : va_D A [(h0, .inl (dA 0, 4, .inl (upd (upd (upd f 0 v) 1 v) 2 v)))] := hD
  refine lv_iinc (v := 3) (lv' := [(2, .int 3), (3, .int 4), (0, .ref h0), (1, .int v)]) hx hb dJ7_fill_53178_14 hl (k := 0) rfl (by decide) (by decide) rfl (fun ls hl => ?_)
  refine lv_goto (tgt := 5) hx hb dJ7_fill_53178_17 (by decide) ?_
  refine lv_iload_n hx hb dJ7_fill_53178_5 rfl (lv_at hl 0 rfl) ?_
  refine lv_iload_n hx hb dJ7_fill_53178_6 rfl (lv_at hl 1 rfl) ?_
  refine lv_icmp_ge (tgt := 20) hx hb dJ7_fill_53178_7 (by decide) (fun c => absurd c (by decide)) (fun _ => ?_)
  refine lv_aload_n hx hb dJ7_fill_53178_10 rfl (lv_at hl 2 rfl) ?_
  refine lv_iload_n hx hb dJ7_fill_53178_11 rfl (lv_at hl 0 rfl) ?_
  refine lv_iload_n hx hb dJ7_fill_53178_12 rfl (lv_at hl 3 rfl) ?_
  refine va_iast hx hb hK hP hD hS 0 0 rfl rfl (by unfold vp_in; decide) dJ7_fill_53178_13 (fun H locs hP hD hS => ?_)
  have hP : va_P (dC, dI) vwCl [(h0, .inl (dA 0, 4, .inl (upd (upd (upd (upd f 0 v) 1 v) 2 v) 3 v)))] H := hP
  have hD : va_D A [(h0, .inl (dA 0, 4, .inl (upd (upd (upd (upd f 0 v) 1 v) 2 v) 3 v)))] := hD
  refine lv_iinc (v := 4) (lv' := [(2, .int 4), (3, .int 4), (0, .ref h0), (1, .int v)]) hx hb dJ7_fill_53178_14 hl (k := 0) rfl (by decide) (by decide) rfl (fun ls hl => ?_)
  refine lv_goto (tgt := 5) hx hb dJ7_fill_53178_17 (by decide) ?_
  refine lv_iload_n hx hb dJ7_fill_53178_5 rfl (lv_at hl 0 rfl) ?_
  refine lv_iload_n hx hb dJ7_fill_53178_6 rfl (lv_at hl 1 rfl) ?_
  refine lv_icmp_ge (tgt := 20) hx hb dJ7_fill_53178_7 (by decide) (fun _ => ?_) (fun c => absurd (by decide) c)
  have hP9 := hP
  have hD9 := hD
  exact W.vret hx hb hr (fun t ht hW => ⟨⟨(), rfl, trivial, by rw [ht]; exact hP9, hD9⟩, hS.F ht⟩) hS.2.2 dJ7_fill_53178_20
theorem dX6_init_0 : decode cX6_init 0 = .ok (.aload_n 0, 1) := by decide +kernel
theorem dX6_init_1 : decode cX6_init 1 = .ok (.invokespecial 3, 3) := by decide +kernel
theorem dX6_init_4 : decode cX6_init 4 = .ok (.aload_n 0, 1) := by decide +kernel
theorem dX6_init_5 : decode cX6_init 5 = .ok (.bipush 40, 2) := by decide +kernel
theorem dX6_init_7 : decode cX6_init 7 = .ok (.newarray .int, 2) := by decide +kernel
theorem dX6_init_9 : decode cX6_init 9 = .ok (.putfield 9, 3) := by decide +kernel
theorem dX6_init_12 : decode cX6_init 12 = .ok (.return_, 1) := by decide +kernel
set_option maxHeartbeats 4000000 in
set_option maxRecDepth 100000 in
theorem k_X6_init (l : Launch) (dC : Nat → ClassId) (dI : Nat → Nat → Nat) (dA : Nat → ClassId) (h0 sz : Nat) : Met l yX6_init (Jvm.Cond.code yX6_init cX6_init 1 none :: zm_WL) ({ frames := 1, cells := 1, slots := 40, locals := 20 }) (zc_P dC dI dA [.ref h0] sz [(h0, .inr (4, [.null, .int 0]))]) (va_Qv (fun _ : Unit => True) (fun _ t => ∃ (q1 : Nat), va_P (dC, dI) vwCl [(h0, .inr (4, [.ref q1, .int 0])), (q1, .inl (dA 0, 40, .inl (fun _ => 0)))] t.heap ∧ va_D (va_A [(h0, .inr (4, [.null, .int 0]))] sz) [(h0, .inr (4, [.ref q1, .int 0])), (q1, .inl (dA 0, 40, .inl (fun _ => 0)))]) (va_A [(h0, .inr (4, [.null, .int 0]))] sz)) 1 40 (va_A [(h0, .inr (4, [.null, .int 0]))] sz) := by
  refine Met.ofW (cc := cX6_init) (maxL := 1) (ret := none) (by decide) rfl ?_
  intro p e s m args below meth c s₁ B hml hv
  obtain ⟨rfl, hsz, hP, hV, hD0⟩ := hv
  have hx := B.exec
  have hb := B.bytes
  have hr := B.returns
  have hts0 := atoms_spec (ws := Jvm.Cond.code yX6_init cX6_init 1 none :: zm_WL) B.pre
  have hts : ∀ w ∈ zm_WL, w.before [Value.ref h0].toArray s = true := fun w h => hts0 w (List.mem_cons_of_mem _ h)
  have hown : s.vm.findClass RX6 = some m.cls := findClass_of_methodNamed B.named
  have hlocks := B.notSynchronized
  have hin : meth.name = "<init>" := (name_of_methodNamed B.named B.method).1
  subst hsz
  have hK := hV.1
  have hD := hD0.self (sz := s.heap.size)
  generalize hAe : va_A [(h0, .inr (4, [.null, .int 0]))] s.heap.size = A at hD ⊢
  have hA : ∀ q : Nat, s.heap.size ≤ q → A q := fun q h => by rw [← hAe]; exact Or.inr h
  have hS : va_S A s.heap s.heap [] := va_S.rf
  have hP : va_P (dC, dI) vwCl [(h0, .inr (4, [.null, .int 0]))] s.heap := hP
  have hl := lv_entry ([.ref h0]) (n := 1) (Nat.le_of_ble_eq_true rfl)
  rw [lg_entry_eq]
  generalize (lg_sl ([.ref h0]) ++ List.replicate (1 - (lg_sl ([.ref h0])).length) Slot.unset).toArray = ls at hl ⊢
  have hl : lv_has ls 1 [(0, .ref h0)] := hl
  refine lv_aload_n hx hb dX6_init_0 rfl (lv_at hl 0 rfl) ?_
  refine W.objInit hx hb hown (hts (.methodLink RX6 3 objectInit) (zm_WL_in 79 (by decide +kernel) rfl)) (hts (.instanceMethod objectInit) (zm_WL_in 66 (by decide +kernel) rfl)) (hts (.code objectInit ⟨#[0xb1]⟩ 1 none) (zm_WL_in 67 (by decide +kernel) rfl)) rfl (by rw [hml]; exact hl.1) rfl dX6_init_1 (Nat.le_of_ble_eq_true rfl) (Nat.le_of_ble_eq_true rfl) ?_
  refine W.eq (g2 := F0 m 4 ls []) rfl ?_
  refine lv_aload_n hx hb dX6_init_4 rfl (lv_at hl 0 rfl) ?_
  refine lv_bipush (v := 40) hx hb dX6_init_5 (by decide) ?_
  refine zc_newi (dA := dA) (N' := 40) hx hb (hts (.arrayClass .int) (zm_WL_in 90 (by decide +kernel) rfl)) hK hP hD hS hA (by decide) (by decide) (Nat.le_of_ble_eq_true rfl) (Nat.le_of_ble_eq_true rfl) (Nat.le_of_ble_eq_true rfl) dX6_init_7 (fun q1 H hP hD hS => ?_)
  have hP : va_P (dC, dI) vwCl [(h0, .inr (4, [.null, .int 0])), (q1, .inl (dA 0, 40, .inl (fun _ => 0)))] H := hP
  have hD : va_D A [(h0, .inr (4, [.null, .int 0])), (q1, .inl (dA 0, 40, .inl (fun _ => 0)))] := hD
  refine W.widen (k := 1) (n := 40) (by omega) (by omega) ?_
  refine va_putF (D := (dC, dI)) (ci := 4) (v := .ref q1) (ty := .array .int) (C := RX6) (T := TX6) (N := 2) hx hb hts zu_X6 tyX6 tyX6_ok nmX6 hown hK hP hD hS 0 rfl rfl 0 (by decide) (hts (.fieldLink RX6 9 "WordRace$Strip" "letters" "[I") (zm_WL_in 80 (by decide +kernel) rfl)) (fun _ h9 => h9) rfl hin rfl (by decide +kernel) rfl rfl (Nat.le_of_ble_eq_true rfl) dX6_init_9 (fun H locs hP hD hS => ?_)
  have hP : va_P (dC, dI) vwCl [(h0, .inr (4, [.ref q1, .int 0])), (q1, .inl (dA 0, 40, .inl (fun _ => 0)))] H := hP
  have hD : va_D A [(h0, .inr (4, [.ref q1, .int 0])), (q1, .inl (dA 0, 40, .inl (fun _ => 0)))] := hD
  have hP9 := hP
  have hD9 := hD
  exact W.vret hx hb hr (fun t ht hW => ⟨⟨(), rfl, trivial, q1, by rw [ht]; exact hP9, hD9⟩, hS.F ht⟩) hS.2.2 dX6_init_12
theorem dX7_init_0 : decode cX7_init 0 = .ok (.aload_n 0, 1) := by decide +kernel
theorem dX7_init_1 : decode cX7_init 1 = .ok (.invokespecial 3, 3) := by decide +kernel
theorem dX7_init_4 : decode cX7_init 4 = .ok (.aload_n 0, 1) := by decide +kernel
theorem dX7_init_5 : decode cX7_init 5 = .ok (.bipush 60, 2) := by decide +kernel
theorem dX7_init_7 : decode cX7_init 7 = .ok (.newarray .int, 2) := by decide +kernel
theorem dX7_init_9 : decode cX7_init 9 = .ok (.putfield 9, 3) := by decide +kernel
theorem dX7_init_12 : decode cX7_init 12 = .ok (.aload_n 0, 1) := by decide +kernel
theorem dX7_init_13 : decode cX7_init 13 = .ok (.bipush 6, 2) := by decide +kernel
theorem dX7_init_15 : decode cX7_init 15 = .ok (.newarray .int, 2) := by decide +kernel
theorem dX7_init_17 : decode cX7_init 17 = .ok (.putfield 15, 3) := by decide +kernel
theorem dX7_init_20 : decode cX7_init 20 = .ok (.return_, 1) := by decide +kernel
set_option maxHeartbeats 4000000 in
set_option maxRecDepth 100000 in
theorem k_X7_init (l : Launch) (dC : Nat → ClassId) (dI : Nat → Nat → Nat) (dA : Nat → ClassId) (h0 sz : Nat) : Met l yX7_init (Jvm.Cond.code yX7_init cX7_init 1 none :: zm_WL) ({ frames := 1, cells := 2, slots := 66, locals := 20 }) (zc_P dC dI dA [.ref h0] sz [(h0, .inr (5, [.null, .int 0, .null, .int 0, .int 0, .int 0]))]) (va_Qv (fun _ : Unit => True) (fun _ t => ∃ (q1 q2 : Nat), va_P (dC, dI) vwCl [(h0, .inr (5, [.ref q1, .int 0, .ref q2, .int 0, .int 0, .int 0])), (q1, .inl (dA 0, 60, .inl (fun _ => 0))), (q2, .inl (dA 0, 6, .inl (fun _ => 0)))] t.heap ∧ va_D (va_A [(h0, .inr (5, [.null, .int 0, .null, .int 0, .int 0, .int 0]))] sz) [(h0, .inr (5, [.ref q1, .int 0, .ref q2, .int 0, .int 0, .int 0])), (q1, .inl (dA 0, 60, .inl (fun _ => 0))), (q2, .inl (dA 0, 6, .inl (fun _ => 0)))]) (va_A [(h0, .inr (5, [.null, .int 0, .null, .int 0, .int 0, .int 0]))] sz)) 2 66 (va_A [(h0, .inr (5, [.null, .int 0, .null, .int 0, .int 0, .int 0]))] sz) := by
  refine Met.ofW (cc := cX7_init) (maxL := 1) (ret := none) (by decide) rfl ?_
  intro p e s m args below meth c s₁ B hml hv
  obtain ⟨rfl, hsz, hP, hV, hD0⟩ := hv
  have hx := B.exec
  have hb := B.bytes
  have hr := B.returns
  have hts0 := atoms_spec (ws := Jvm.Cond.code yX7_init cX7_init 1 none :: zm_WL) B.pre
  have hts : ∀ w ∈ zm_WL, w.before [Value.ref h0].toArray s = true := fun w h => hts0 w (List.mem_cons_of_mem _ h)
  have hown : s.vm.findClass RX7 = some m.cls := findClass_of_methodNamed B.named
  have hlocks := B.notSynchronized
  have hin : meth.name = "<init>" := (name_of_methodNamed B.named B.method).1
  subst hsz
  have hK := hV.1
  have hD := hD0.self (sz := s.heap.size)
  generalize hAe : va_A [(h0, .inr (5, [.null, .int 0, .null, .int 0, .int 0, .int 0]))] s.heap.size = A at hD ⊢
  have hA : ∀ q : Nat, s.heap.size ≤ q → A q := fun q h => by rw [← hAe]; exact Or.inr h
  have hS : va_S A s.heap s.heap [] := va_S.rf
  have hP : va_P (dC, dI) vwCl [(h0, .inr (5, [.null, .int 0, .null, .int 0, .int 0, .int 0]))] s.heap := hP
  have hl := lv_entry ([.ref h0]) (n := 1) (Nat.le_of_ble_eq_true rfl)
  rw [lg_entry_eq]
  generalize (lg_sl ([.ref h0]) ++ List.replicate (1 - (lg_sl ([.ref h0])).length) Slot.unset).toArray = ls at hl ⊢
  have hl : lv_has ls 1 [(0, .ref h0)] := hl
  refine lv_aload_n hx hb dX7_init_0 rfl (lv_at hl 0 rfl) ?_
  refine W.objInit hx hb hown (hts (.methodLink RX7 3 objectInit) (zm_WL_in 139 (by decide +kernel) rfl)) (hts (.instanceMethod objectInit) (zm_WL_in 66 (by decide +kernel) rfl)) (hts (.code objectInit ⟨#[0xb1]⟩ 1 none) (zm_WL_in 67 (by decide +kernel) rfl)) rfl (by rw [hml]; exact hl.1) rfl dX7_init_1 (Nat.le_of_ble_eq_true rfl) (Nat.le_of_ble_eq_true rfl) ?_
  refine W.eq (g2 := F0 m 4 ls []) rfl ?_
  refine lv_aload_n hx hb dX7_init_4 rfl (lv_at hl 0 rfl) ?_
  refine lv_bipush (v := 60) hx hb dX7_init_5 (by decide) ?_
  refine zc_newi (dA := dA) (N' := 60) hx hb (hts (.arrayClass .int) (zm_WL_in 90 (by decide +kernel) rfl)) hK hP hD hS hA (by decide) (by decide) (Nat.le_of_ble_eq_true rfl) (Nat.le_of_ble_eq_true rfl) (Nat.le_of_ble_eq_true rfl) dX7_init_7 (fun q1 H hP hD hS => ?_)
  have hP : va_P (dC, dI) vwCl [(h0, .inr (5, [.null, .int 0, .null, .int 0, .int 0, .int 0])), (q1, .inl (dA 0, 60, .inl (fun _ => 0)))] H := hP
  have hD : va_D A [(h0, .inr (5, [.null, .int 0, .null, .int 0, .int 0, .int 0])), (q1, .inl (dA 0, 60, .inl (fun _ => 0)))] := hD
  refine W.widen (k := 1) (n := 60) (by omega) (by omega) ?_
  refine va_putF (D := (dC, dI)) (ci := 5) (v := .ref q1) (ty := .array .int) (C := RX7) (T := TX7) (N := 6) hx hb hts zu_X7 tyX7 tyX7_ok nmX7 hown hK hP hD hS 0 rfl rfl 0 (by decide) (hts (.fieldLink RX7 9 "WordRace$Tape" "bytes" "[I") (zm_WL_in 140 (by decide +kernel) rfl)) (fun _ h9 => h9) rfl hin rfl (by decide +kernel) rfl rfl (Nat.le_of_ble_eq_true rfl) dX7_init_9 (fun H locs hP hD hS => ?_)
  have hP : va_P (dC, dI) vwCl [(h0, .inr (5, [.ref q1, .int 0, .null, .int 0, .int 0, .int 0])), (q1, .inl (dA 0, 60, .inl (fun _ => 0)))] H := hP
  have hD : va_D A [(h0, .inr (5, [.ref q1, .int 0, .null, .int 0, .int 0, .int 0])), (q1, .inl (dA 0, 60, .inl (fun _ => 0)))] := hD
  refine lv_aload_n hx hb dX7_init_12 rfl (lv_at hl 0 rfl) ?_
  refine lv_bipush (v := 6) hx hb dX7_init_13 (by decide) ?_
  refine zc_newi (dA := dA) (N' := 6) hx hb (hts (.arrayClass .int) (zm_WL_in 90 (by decide +kernel) rfl)) hK hP hD hS hA (by decide) (by decide) (Nat.le_of_ble_eq_true rfl) (Nat.le_of_ble_eq_true rfl) (Nat.le_of_ble_eq_true rfl) dX7_init_15 (fun q2 H hP hD hS => ?_)
  have hP : va_P (dC, dI) vwCl [(h0, .inr (5, [.ref q1, .int 0, .null, .int 0, .int 0, .int 0])), (q1, .inl (dA 0, 60, .inl (fun _ => 0))), (q2, .inl (dA 0, 6, .inl (fun _ => 0)))] H := hP
  have hD : va_D A [(h0, .inr (5, [.ref q1, .int 0, .null, .int 0, .int 0, .int 0])), (q1, .inl (dA 0, 60, .inl (fun _ => 0))), (q2, .inl (dA 0, 6, .inl (fun _ => 0)))] := hD
  refine W.widen (k := 2) (n := 66) (by omega) (by omega) ?_
  refine va_putF (D := (dC, dI)) (ci := 5) (v := .ref q2) (ty := .array .int) (C := RX7) (T := TX7) (N := 6) hx hb hts zu_X7 tyX7 tyX7_ok nmX7 hown hK hP hD hS 0 rfl rfl 2 (by decide) (hts (.fieldLink RX7 15 "WordRace$Tape" "told" "[I") (zm_WL_in 143 (by decide +kernel) rfl)) (fun _ h9 => h9) rfl hin rfl (by decide +kernel) rfl rfl (Nat.le_of_ble_eq_true rfl) dX7_init_17 (fun H locs hP hD hS => ?_)
  have hP : va_P (dC, dI) vwCl [(h0, .inr (5, [.ref q1, .int 0, .ref q2, .int 0, .int 0, .int 0])), (q1, .inl (dA 0, 60, .inl (fun _ => 0))), (q2, .inl (dA 0, 6, .inl (fun _ => 0)))] H := hP
  have hD : va_D A [(h0, .inr (5, [.ref q1, .int 0, .ref q2, .int 0, .int 0, .int 0])), (q1, .inl (dA 0, 60, .inl (fun _ => 0))), (q2, .inl (dA 0, 6, .inl (fun _ => 0)))] := hD
  have hP9 := hP
  have hD9 := hD
  exact W.vret hx hb hr (fun t ht hW => ⟨⟨(), rfl, trivial, q1, q2, by rw [ht]; exact hP9, hD9⟩, hS.F ht⟩) hS.2.2 dX7_init_20
theorem dX5_init_0 : decode cX5_init 0 = .ok (.aload_n 0, 1) := by decide +kernel
theorem dX5_init_1 : decode cX5_init 1 = .ok (.invokespecial 3, 3) := by decide +kernel
theorem dX5_init_4 : decode cX5_init 4 = .ok (.aload_n 0, 1) := by decide +kernel
theorem dX5_init_5 : decode cX5_init 5 = .ok (.bipush 6, 2) := by decide +kernel
theorem dX5_init_7 : decode cX5_init 7 = .ok (.newarray .int, 2) := by decide +kernel
theorem dX5_init_9 : decode cX5_init 9 = .ok (.putfield 9, 3) := by decide +kernel
theorem dX5_init_12 : decode cX5_init 12 = .ok (.aload_n 0, 1) := by decide +kernel
theorem dX5_init_13 : decode cX5_init 13 = .ok (.bipush 6, 2) := by decide +kernel
theorem dX5_init_15 : decode cX5_init 15 = .ok (.newarray .int, 2) := by decide +kernel
theorem dX5_init_17 : decode cX5_init 17 = .ok (.putfield 15, 3) := by decide +kernel
theorem dX5_init_20 : decode cX5_init 20 = .ok (.return_, 1) := by decide +kernel
set_option maxHeartbeats 4000000 in
set_option maxRecDepth 100000 in
theorem k_X5_init (l : Launch) (dC : Nat → ClassId) (dI : Nat → Nat → Nat) (dA : Nat → ClassId) (h0 sz : Nat) : Met l yX5_init (Jvm.Cond.code yX5_init cX5_init 1 none :: zm_WL) ({ frames := 1, cells := 2, slots := 12, locals := 20 }) (zc_P dC dI dA [.ref h0] sz [(h0, .inr (3, [.null, .null]))]) (va_Qv (fun _ : Unit => True) (fun _ t => ∃ (q1 q2 : Nat), va_P (dC, dI) vwCl [(h0, .inr (3, [.ref q1, .ref q2])), (q1, .inl (dA 0, 6, .inl (fun _ => 0))), (q2, .inl (dA 0, 6, .inl (fun _ => 0)))] t.heap ∧ va_D (va_A [(h0, .inr (3, [.null, .null]))] sz) [(h0, .inr (3, [.ref q1, .ref q2])), (q1, .inl (dA 0, 6, .inl (fun _ => 0))), (q2, .inl (dA 0, 6, .inl (fun _ => 0)))]) (va_A [(h0, .inr (3, [.null, .null]))] sz)) 2 12 (va_A [(h0, .inr (3, [.null, .null]))] sz) := by
  refine Met.ofW (cc := cX5_init) (maxL := 1) (ret := none) (by decide) rfl ?_
  intro p e s m args below meth c s₁ B hml hv
  obtain ⟨rfl, hsz, hP, hV, hD0⟩ := hv
  have hx := B.exec
  have hb := B.bytes
  have hr := B.returns
  have hts0 := atoms_spec (ws := Jvm.Cond.code yX5_init cX5_init 1 none :: zm_WL) B.pre
  have hts : ∀ w ∈ zm_WL, w.before [Value.ref h0].toArray s = true := fun w h => hts0 w (List.mem_cons_of_mem _ h)
  have hown : s.vm.findClass RX5 = some m.cls := findClass_of_methodNamed B.named
  have hlocks := B.notSynchronized
  have hin : meth.name = "<init>" := (name_of_methodNamed B.named B.method).1
  subst hsz
  have hK := hV.1
  have hD := hD0.self (sz := s.heap.size)
  generalize hAe : va_A [(h0, .inr (3, [.null, .null]))] s.heap.size = A at hD ⊢
  have hA : ∀ q : Nat, s.heap.size ≤ q → A q := fun q h => by rw [← hAe]; exact Or.inr h
  have hS : va_S A s.heap s.heap [] := va_S.rf
  have hP : va_P (dC, dI) vwCl [(h0, .inr (3, [.null, .null]))] s.heap := hP
  have hl := lv_entry ([.ref h0]) (n := 1) (Nat.le_of_ble_eq_true rfl)
  rw [lg_entry_eq]
  generalize (lg_sl ([.ref h0]) ++ List.replicate (1 - (lg_sl ([.ref h0])).length) Slot.unset).toArray = ls at hl ⊢
  have hl : lv_has ls 1 [(0, .ref h0)] := hl
  refine lv_aload_n hx hb dX5_init_0 rfl (lv_at hl 0 rfl) ?_
  refine W.objInit hx hb hown (hts (.methodLink RX5 3 objectInit) (zm_WL_in 197 (by decide +kernel) rfl)) (hts (.instanceMethod objectInit) (zm_WL_in 66 (by decide +kernel) rfl)) (hts (.code objectInit ⟨#[0xb1]⟩ 1 none) (zm_WL_in 67 (by decide +kernel) rfl)) rfl (by rw [hml]; exact hl.1) rfl dX5_init_1 (Nat.le_of_ble_eq_true rfl) (Nat.le_of_ble_eq_true rfl) ?_
  refine W.eq (g2 := F0 m 4 ls []) rfl ?_
  refine lv_aload_n hx hb dX5_init_4 rfl (lv_at hl 0 rfl) ?_
  refine lv_bipush (v := 6) hx hb dX5_init_5 (by decide) ?_
  refine zc_newi (dA := dA) (N' := 6) hx hb (hts (.arrayClass .int) (zm_WL_in 90 (by decide +kernel) rfl)) hK hP hD hS hA (by decide) (by decide) (Nat.le_of_ble_eq_true rfl) (Nat.le_of_ble_eq_true rfl) (Nat.le_of_ble_eq_true rfl) dX5_init_7 (fun q1 H hP hD hS => ?_)
  have hP : va_P (dC, dI) vwCl [(h0, .inr (3, [.null, .null])), (q1, .inl (dA 0, 6, .inl (fun _ => 0)))] H := hP
  have hD : va_D A [(h0, .inr (3, [.null, .null])), (q1, .inl (dA 0, 6, .inl (fun _ => 0)))] := hD
  refine W.widen (k := 1) (n := 6) (by omega) (by omega) ?_
  refine va_putF (D := (dC, dI)) (ci := 3) (v := .ref q1) (ty := .array .int) (C := RX5) (T := TX5) (N := 2) hx hb hts zu_X5 tyX5 tyX5_ok nmX5 hown hK hP hD hS 0 rfl rfl 0 (by decide) (hts (.fieldLink RX5 9 "WordRace$Ring" "row" "[I") (zm_WL_in 198 (by decide +kernel) rfl)) (fun _ h9 => h9) rfl hin rfl (by decide +kernel) rfl rfl (Nat.le_of_ble_eq_true rfl) dX5_init_9 (fun H locs hP hD hS => ?_)
  have hP : va_P (dC, dI) vwCl [(h0, .inr (3, [.ref q1, .null])), (q1, .inl (dA 0, 6, .inl (fun _ => 0)))] H := hP
  have hD : va_D A [(h0, .inr (3, [.ref q1, .null])), (q1, .inl (dA 0, 6, .inl (fun _ => 0)))] := hD
  refine lv_aload_n hx hb dX5_init_12 rfl (lv_at hl 0 rfl) ?_
  refine lv_bipush (v := 6) hx hb dX5_init_13 (by decide) ?_
  refine zc_newi (dA := dA) (N' := 6) hx hb (hts (.arrayClass .int) (zm_WL_in 90 (by decide +kernel) rfl)) hK hP hD hS hA (by decide) (by decide) (Nat.le_of_ble_eq_true rfl) (Nat.le_of_ble_eq_true rfl) (Nat.le_of_ble_eq_true rfl) dX5_init_15 (fun q2 H hP hD hS => ?_)
  have hP : va_P (dC, dI) vwCl [(h0, .inr (3, [.ref q1, .null])), (q1, .inl (dA 0, 6, .inl (fun _ => 0))), (q2, .inl (dA 0, 6, .inl (fun _ => 0)))] H := hP
  have hD : va_D A [(h0, .inr (3, [.ref q1, .null])), (q1, .inl (dA 0, 6, .inl (fun _ => 0))), (q2, .inl (dA 0, 6, .inl (fun _ => 0)))] := hD
  refine W.widen (k := 2) (n := 12) (by omega) (by omega) ?_
  refine va_putF (D := (dC, dI)) (ci := 3) (v := .ref q2) (ty := .array .int) (C := RX5) (T := TX5) (N := 2) hx hb hts zu_X5 tyX5 tyX5_ok nmX5 hown hK hP hD hS 0 rfl rfl 1 (by decide) (hts (.fieldLink RX5 15 "WordRace$Ring" "beaten" "[I") (zm_WL_in 199 (by decide +kernel) rfl)) (fun _ h9 => h9) rfl hin rfl (by decide +kernel) rfl rfl (Nat.le_of_ble_eq_true rfl) dX5_init_17 (fun H locs hP hD hS => ?_)
  have hP : va_P (dC, dI) vwCl [(h0, .inr (3, [.ref q1, .ref q2])), (q1, .inl (dA 0, 6, .inl (fun _ => 0))), (q2, .inl (dA 0, 6, .inl (fun _ => 0)))] H := hP
  have hD : va_D A [(h0, .inr (3, [.ref q1, .ref q2])), (q1, .inl (dA 0, 6, .inl (fun _ => 0))), (q2, .inl (dA 0, 6, .inl (fun _ => 0)))] := hD
  have hP9 := hP
  have hD9 := hD
  exact W.vret hx hb hr (fun t ht hW => ⟨⟨(), rfl, trivial, q1, q2, by rw [ht]; exact hP9, hD9⟩, hS.F ht⟩) hS.2.2 dX5_init_20
theorem dX1_init_0 : decode cX1_init 0 = .ok (.aload_n 0, 1) := by decide +kernel
theorem dX1_init_1 : decode cX1_init 1 = .ok (.invokespecial 3, 3) := by decide +kernel
theorem dX1_init_4 : decode cX1_init 4 = .ok (.return_, 1) := by decide +kernel
set_option maxHeartbeats 4000000 in
set_option maxRecDepth 100000 in
theorem k_X1_init (l : Launch) (dC : Nat → ClassId) (dI : Nat → Nat → Nat) (dA : Nat → ClassId) (h0 sz : Nat) : Met l yX1_init (Jvm.Cond.code yX1_init cX1_init 1 none :: zm_WL) ({ frames := 1, cells := 0, slots := 0, locals := 20 }) (zc_P dC dI dA [.ref h0] sz [(h0, .inr (1, [.int 0, .int 0]))]) (va_Qv (fun _ : Unit => True) (fun _ t => va_P (dC, dI) vwCl [(h0, .inr (1, [.int 0, .int 0]))] t.heap ∧ va_D (va_A [(h0, .inr (1, [.int 0, .int 0]))] sz) [(h0, .inr (1, [.int 0, .int 0]))]) (va_A [(h0, .inr (1, [.int 0, .int 0]))] sz)) 0 0 (va_A [(h0, .inr (1, [.int 0, .int 0]))] sz) := by
  refine Met.ofW (cc := cX1_init) (maxL := 1) (ret := none) (by decide) rfl ?_
  intro p e s m args below meth c s₁ B hml hv
  obtain ⟨rfl, hsz, hP, hV, hD0⟩ := hv
  have hx := B.exec
  have hb := B.bytes
  have hr := B.returns
  have hts0 := atoms_spec (ws := Jvm.Cond.code yX1_init cX1_init 1 none :: zm_WL) B.pre
  have hts : ∀ w ∈ zm_WL, w.before [Value.ref h0].toArray s = true := fun w h => hts0 w (List.mem_cons_of_mem _ h)
  have hown : s.vm.findClass RX1 = some m.cls := findClass_of_methodNamed B.named
  have hlocks := B.notSynchronized
  have hin : meth.name = "<init>" := (name_of_methodNamed B.named B.method).1
  subst hsz
  have hK := hV.1
  have hD := hD0.self (sz := s.heap.size)
  generalize hAe : va_A [(h0, .inr (1, [.int 0, .int 0]))] s.heap.size = A at hD ⊢
  have hA : ∀ q : Nat, s.heap.size ≤ q → A q := fun q h => by rw [← hAe]; exact Or.inr h
  have hS : va_S A s.heap s.heap [] := va_S.rf
  have hP : va_P (dC, dI) vwCl [(h0, .inr (1, [.int 0, .int 0]))] s.heap := hP
  have hl := lv_entry ([.ref h0]) (n := 1) (Nat.le_of_ble_eq_true rfl)
  rw [lg_entry_eq]
  generalize (lg_sl ([.ref h0]) ++ List.replicate (1 - (lg_sl ([.ref h0])).length) Slot.unset).toArray = ls at hl ⊢
  have hl : lv_has ls 1 [(0, .ref h0)] := hl
  refine lv_aload_n hx hb dX1_init_0 rfl (lv_at hl 0 rfl) ?_
  refine W.objInit hx hb hown (hts (.methodLink RX1 3 objectInit) (zm_WL_in 210 (by decide +kernel) rfl)) (hts (.instanceMethod objectInit) (zm_WL_in 66 (by decide +kernel) rfl)) (hts (.code objectInit ⟨#[0xb1]⟩ 1 none) (zm_WL_in 67 (by decide +kernel) rfl)) rfl (by rw [hml]; exact hl.1) rfl dX1_init_1 (Nat.le_of_ble_eq_true rfl) (Nat.le_of_ble_eq_true rfl) ?_
  refine W.eq (g2 := F0 m 4 ls []) rfl ?_
  have hP9 := hP
  have hD9 := hD
  exact W.vret hx hb hr (fun t ht hW => ⟨⟨(), rfl, trivial, by rw [ht]; exact hP9, hD9⟩, hS.F ht⟩) hS.2.2 dX1_init_4
theorem dX2_init_0 : decode cX2_init 0 = .ok (.aload_n 0, 1) := by decide +kernel
theorem dX2_init_1 : decode cX2_init 1 = .ok (.invokespecial 3, 3) := by decide +kernel
theorem dX2_init_4 : decode cX2_init 4 = .ok (.aload_n 0, 1) := by decide +kernel
theorem dX2_init_5 : decode cX2_init 5 = .ok (.iconst 4, 1) := by decide +kernel
theorem dX2_init_6 : decode cX2_init 6 = .ok (.newarray .int, 2) := by decide +kernel
theorem dX2_init_8 : decode cX2_init 8 = .ok (.putfield 9, 3) := by decide +kernel
theorem dX2_init_11 : decode cX2_init 11 = .ok (.aload_n 0, 1) := by decide +kernel
theorem dX2_init_12 : decode cX2_init 12 = .ok (.iconst 3, 1) := by decide +kernel
theorem dX2_init_13 : decode cX2_init 13 = .ok (.iconst 4, 1) := by decide +kernel
theorem dX2_init_14 : decode cX2_init 14 = .ok (.multianewarray 15 2, 4) := by decide +kernel
theorem dX2_init_18 : decode cX2_init 18 = .ok (.putfield 17, 3) := by decide +kernel
theorem dX2_init_21 : decode cX2_init 21 = .ok (.aload_n 0, 1) := by decide +kernel
theorem dX2_init_22 : decode cX2_init 22 = .ok (.iconst 4, 1) := by decide +kernel
theorem dX2_init_23 : decode cX2_init 23 = .ok (.bipush 13, 2) := by decide +kernel
theorem dX2_init_25 : decode cX2_init 25 = .ok (.multianewarray 15 2, 4) := by decide +kernel
theorem dX2_init_29 : decode cX2_init 29 = .ok (.putfield 20, 3) := by decide +kernel
theorem dX2_init_32 : decode cX2_init 32 = .ok (.aload_n 0, 1) := by decide +kernel
theorem dX2_init_33 : decode cX2_init 33 = .ok (.bipush 13, 2) := by decide +kernel
theorem dX2_init_35 : decode cX2_init 35 = .ok (.newarray .int, 2) := by decide +kernel
theorem dX2_init_37 : decode cX2_init 37 = .ok (.putfield 23, 3) := by decide +kernel
theorem dX2_init_40 : decode cX2_init 40 = .ok (.return_, 1) := by decide +kernel
set_option maxHeartbeats 4000000 in
set_option maxRecDepth 100000 in
theorem k_X2_init (l : Launch) (dC : Nat → ClassId) (dI : Nat → Nat → Nat) (dA : Nat → ClassId) (h0 sz : Nat) : Met l yX2_init (Jvm.Cond.code yX2_init cX2_init 1 none :: zm_WL) ({ frames := 1, cells := 11, slots := 88, locals := 20 }) (zc_P dC dI dA [.ref h0] sz [(h0, .inr (2, [.null, .int 0, .int 0, .null, .null, .null]))]) (va_Qv (fun _ : Unit => True) (fun _ t => ∃ (q1 q2 q3 q4 : Nat), va_P (dC, dI) vwCl [(h0, .inr (2, [.ref q1, .int 0, .int 0, .ref q2, .ref q3, .ref q4])), (q1, .inl (dA 0, 4, .inl (fun _ => 0))), (q2, .inl (dA 2, 3, .inr (.inr (.inr (.inr (fun j => if j < 3 then some (q2 + 1 + j) else none)))))), ((q2 + 1), .inl (dA 0, 4, .inl (fun _ => 0))), ((q2 + 2), .inl (dA 0, 4, .inl (fun _ => 0))), ((q2 + 3), .inl (dA 0, 4, .inl (fun _ => 0))), (q3, .inl (dA 2, 4, .inr (.inr (.inr (.inr (fun j => if j < 4 then some (q3 + 1 + j) else none)))))), ((q3 + 1), .inl (dA 0, 13, .inl (fun _ => 0))), ((q3 + 2), .inl (dA 0, 13, .inl (fun _ => 0))), ((q3 + 3), .inl (dA 0, 13, .inl (fun _ => 0))), ((q3 + 4), .inl (dA 0, 13, .inl (fun _ => 0))), (q4, .inl (dA 0, 13, .inl (fun _ => 0)))] t.heap ∧ va_D (va_A [(h0, .inr (2, [.null, .int 0, .int 0, .null, .null, .null]))] sz) [(h0, .inr (2, [.ref q1, .int 0, .int 0, .ref q2, .ref q3, .ref q4])), (q1, .inl (dA 0, 4, .inl (fun _ => 0))), (q2, .inl (dA 2, 3, .inr (.inr (.inr (.inr (fun j => if j < 3 then some (q2 + 1 + j) else none)))))), ((q2 + 1), .inl (dA 0, 4, .inl (fun _ => 0))), ((q2 + 2), .inl (dA 0, 4, .inl (fun _ => 0))), ((q2 + 3), .inl (dA 0, 4, .inl (fun _ => 0))), (q3, .inl (dA 2, 4, .inr (.inr (.inr (.inr (fun j => if j < 4 then some (q3 + 1 + j) else none)))))), ((q3 + 1), .inl (dA 0, 13, .inl (fun _ => 0))), ((q3 + 2), .inl (dA 0, 13, .inl (fun _ => 0))), ((q3 + 3), .inl (dA 0, 13, .inl (fun _ => 0))), ((q3 + 4), .inl (dA 0, 13, .inl (fun _ => 0))), (q4, .inl (dA 0, 13, .inl (fun _ => 0)))]) (va_A [(h0, .inr (2, [.null, .int 0, .int 0, .null, .null, .null]))] sz)) 11 88 (va_A [(h0, .inr (2, [.null, .int 0, .int 0, .null, .null, .null]))] sz) := by
  refine Met.ofW (cc := cX2_init) (maxL := 1) (ret := none) (by decide) rfl ?_
  intro p e s m args below meth c s₁ B hml hv
  obtain ⟨rfl, hsz, hP, hV, hD0⟩ := hv
  have hx := B.exec
  have hb := B.bytes
  have hr := B.returns
  have hts0 := atoms_spec (ws := Jvm.Cond.code yX2_init cX2_init 1 none :: zm_WL) B.pre
  have hts : ∀ w ∈ zm_WL, w.before [Value.ref h0].toArray s = true := fun w h => hts0 w (List.mem_cons_of_mem _ h)
  have hown : s.vm.findClass RX2 = some m.cls := findClass_of_methodNamed B.named
  have hlocks := B.notSynchronized
  have hin : meth.name = "<init>" := (name_of_methodNamed B.named B.method).1
  subst hsz
  have hK := hV.1
  have hD := hD0.self (sz := s.heap.size)
  generalize hAe : va_A [(h0, .inr (2, [.null, .int 0, .int 0, .null, .null, .null]))] s.heap.size = A at hD ⊢
  have hA : ∀ q : Nat, s.heap.size ≤ q → A q := fun q h => by rw [← hAe]; exact Or.inr h
  have hS : va_S A s.heap s.heap [] := va_S.rf
  have hP : va_P (dC, dI) vwCl [(h0, .inr (2, [.null, .int 0, .int 0, .null, .null, .null]))] s.heap := hP
  have hl := lv_entry ([.ref h0]) (n := 1) (Nat.le_of_ble_eq_true rfl)
  rw [lg_entry_eq]
  generalize (lg_sl ([.ref h0]) ++ List.replicate (1 - (lg_sl ([.ref h0])).length) Slot.unset).toArray = ls at hl ⊢
  have hl : lv_has ls 1 [(0, .ref h0)] := hl
  refine lv_aload_n hx hb dX2_init_0 rfl (lv_at hl 0 rfl) ?_
  refine W.objInit hx hb hown (hts (.methodLink RX2 3 objectInit) (zm_WL_in 171 (by decide +kernel) rfl)) (hts (.instanceMethod objectInit) (zm_WL_in 66 (by decide +kernel) rfl)) (hts (.code objectInit ⟨#[0xb1]⟩ 1 none) (zm_WL_in 67 (by decide +kernel) rfl)) rfl (by rw [hml]; exact hl.1) rfl dX2_init_1 (Nat.le_of_ble_eq_true rfl) (Nat.le_of_ble_eq_true rfl) ?_
  refine W.eq (g2 := F0 m 4 ls []) rfl ?_
  refine lv_aload_n hx hb dX2_init_4 rfl (lv_at hl 0 rfl) ?_
  refine lv_iconst (v := 4) hx hb dX2_init_5 (by decide) ?_
  refine zc_newi (dA := dA) (N' := 4) hx hb (hts (.arrayClass .int) (zm_WL_in 90 (by decide +kernel) rfl)) hK hP hD hS hA (by decide) (by decide) (Nat.le_of_ble_eq_true rfl) (Nat.le_of_ble_eq_true rfl) (Nat.le_of_ble_eq_true rfl) dX2_init_6 (fun q1 H hP hD hS => ?_)
  have hP : va_P (dC, dI) vwCl [(h0, .inr (2, [.null, .int 0, .int 0, .null, .null, .null])), (q1, .inl (dA 0, 4, .inl (fun _ => 0)))] H := hP
  have hD : va_D A [(h0, .inr (2, [.null, .int 0, .int 0, .null, .null, .null])), (q1, .inl (dA 0, 4, .inl (fun _ => 0)))] := hD
  refine W.widen (k := 1) (n := 4) (by omega) (by omega) ?_
  refine va_putF (D := (dC, dI)) (ci := 2) (v := .ref q1) (ty := .array .int) (C := RX2) (T := TX2) (N := 6) hx hb hts zu_X2 tyX2 tyX2_ok nmX2 hown hK hP hD hS 0 rfl rfl 0 (by decide) (hts (.fieldLink RX2 9 "WordRace$Field" "numbers" "[I") (zm_WL_in 173 (by decide +kernel) rfl)) (fun _ h9 => h9) rfl hin rfl (by decide +kernel) rfl rfl (Nat.le_of_ble_eq_true rfl) dX2_init_8 (fun H locs hP hD hS => ?_)
  have hP : va_P (dC, dI) vwCl [(h0, .inr (2, [.ref q1, .int 0, .int 0, .null, .null, .null])), (q1, .inl (dA 0, 4, .inl (fun _ => 0)))] H := hP
  have hD : va_D A [(h0, .inr (2, [.ref q1, .int 0, .int 0, .null, .null, .null])), (q1, .inl (dA 0, 4, .inl (fun _ => 0)))] := hD
  refine lv_aload_n hx hb dX2_init_11 rfl (lv_at hl 0 rfl) ?_
  refine lv_iconst (v := 3) hx hb dX2_init_12 (by decide) ?_
  refine lv_iconst (v := 4) hx hb dX2_init_13 (by decide) ?_
  refine zc_mna (dA := dA) (N' := 3) (K' := 4) hx hb hown (hts (.classLink RX2 15 "[[I") (zm_WL_in 172 (by decide +kernel) rfl)) (zq_alike (s := s) (U := s) (Vm.Alike.refl s.vm) hV.2.1) (hts (.arrayClass .int) (zm_WL_in 90 (by decide +kernel) rfl)) hK hP hD hS hA (by decide) (by decide) (by decide) (by decide) (Nat.le_of_ble_eq_true rfl) (Nat.le_of_ble_eq_true rfl) (Nat.le_of_ble_eq_true rfl) (Nat.le_of_ble_eq_true rfl) dX2_init_14 (fun q2 H hP hD hS => ?_)
  have hP : va_P (dC, dI) vwCl [(h0, .inr (2, [.ref q1, .int 0, .int 0, .null, .null, .null])), (q1, .inl (dA 0, 4, .inl (fun _ => 0))), (q2, .inl (dA 2, 3, .inr (.inr (.inr (.inr (fun j => if j < 3 then some (q2 + 1 + j) else none)))))), ((q2 + 1), .inl (dA 0, 4, .inl (fun _ => 0))), ((q2 + 2), .inl (dA 0, 4, .inl (fun _ => 0))), ((q2 + 3), .inl (dA 0, 4, .inl (fun _ => 0)))] H := hP
  have hD : va_D A [(h0, .inr (2, [.ref q1, .int 0, .int 0, .null, .null, .null])), (q1, .inl (dA 0, 4, .inl (fun _ => 0))), (q2, .inl (dA 2, 3, .inr (.inr (.inr (.inr (fun j => if j < 3 then some (q2 + 1 + j) else none)))))), ((q2 + 1), .inl (dA 0, 4, .inl (fun _ => 0))), ((q2 + 2), .inl (dA 0, 4, .inl (fun _ => 0))), ((q2 + 3), .inl (dA 0, 4, .inl (fun _ => 0)))] := hD
  refine W.widen (k := 5) (n := 19) (by omega) (by omega) ?_
  refine va_putF (D := (dC, dI)) (ci := 2) (v := .ref q2) (ty := .array (.array .int)) (C := RX2) (T := TX2) (N := 6) hx hb hts zu_X2 tyX2 tyX2_ok nmX2 hown hK hP hD hS 0 rfl rfl 3 (by decide) (hts (.fieldLink RX2 17 "WordRace$Field" "apart" "[[I") (zm_WL_in 176 (by decide +kernel) rfl)) (fun _ h9 => h9) rfl hin rfl (by decide +kernel) rfl rfl (Nat.le_of_ble_eq_true rfl) dX2_init_18 (fun H locs hP hD hS => ?_)
  have hP : va_P (dC, dI) vwCl [(h0, .inr (2, [.ref q1, .int 0, .int 0, .ref q2, .null, .null])), (q1, .inl (dA 0, 4, .inl (fun _ => 0))), (q2, .inl (dA 2, 3, .inr (.inr (.inr (.inr (fun j => if j < 3 then some (q2 + 1 + j) else none)))))), ((q2 + 1), .inl (dA 0, 4, .inl (fun _ => 0))), ((q2 + 2), .inl (dA 0, 4, .inl (fun _ => 0))), ((q2 + 3), .inl (dA 0, 4, .inl (fun _ => 0)))] H := hP
  have hD : va_D A [(h0, .inr (2, [.ref q1, .int 0, .int 0, .ref q2, .null, .null])), (q1, .inl (dA 0, 4, .inl (fun _ => 0))), (q2, .inl (dA 2, 3, .inr (.inr (.inr (.inr (fun j => if j < 3 then some (q2 + 1 + j) else none)))))), ((q2 + 1), .inl (dA 0, 4, .inl (fun _ => 0))), ((q2 + 2), .inl (dA 0, 4, .inl (fun _ => 0))), ((q2 + 3), .inl (dA 0, 4, .inl (fun _ => 0)))] := hD
  refine lv_aload_n hx hb dX2_init_21 rfl (lv_at hl 0 rfl) ?_
  refine lv_iconst (v := 4) hx hb dX2_init_22 (by decide) ?_
  refine lv_bipush (v := 13) hx hb dX2_init_23 (by decide) ?_
  refine zc_mna (dA := dA) (N' := 4) (K' := 13) hx hb hown (hts (.classLink RX2 15 "[[I") (zm_WL_in 172 (by decide +kernel) rfl)) (zq_alike (s := s) (U := s) (Vm.Alike.refl s.vm) hV.2.1) (hts (.arrayClass .int) (zm_WL_in 90 (by decide +kernel) rfl)) hK hP hD hS hA (by decide) (by decide) (by decide) (by decide) (Nat.le_of_ble_eq_true rfl) (Nat.le_of_ble_eq_true rfl) (Nat.le_of_ble_eq_true rfl) (Nat.le_of_ble_eq_true rfl) dX2_init_25 (fun q3 H hP hD hS => ?_)
  have hP : va_P (dC, dI) vwCl [(h0, .inr (2, [.ref q1, .int 0, .int 0, .ref q2, .null, .null])), (q1, .inl (dA 0, 4, .inl (fun _ => 0))), (q2, .inl (dA 2, 3, .inr (.inr (.inr (.inr (fun j => if j < 3 then some (q2 + 1 + j) else none)))))), ((q2 + 1), .inl (dA 0, 4, .inl (fun _ => 0))), ((q2 + 2), .inl (dA 0, 4, .inl (fun _ => 0))), ((q2 + 3), .inl (dA 0, 4, .inl (fun _ => 0))), (q3, .inl (dA 2, 4, .inr (.inr (.inr (.inr (fun j => if j < 4 then some (q3 + 1 + j) else none)))))), ((q3 + 1), .inl (dA 0, 13, .inl (fun _ => 0))), ((q3 + 2), .inl (dA 0, 13, .inl (fun _ => 0))), ((q3 + 3), .inl (dA 0, 13, .inl (fun _ => 0))), ((q3 + 4), .inl (dA 0, 13, .inl (fun _ => 0)))] H := hP
  have hD : va_D A [(h0, .inr (2, [.ref q1, .int 0, .int 0, .ref q2, .null, .null])), (q1, .inl (dA 0, 4, .inl (fun _ => 0))), (q2, .inl (dA 2, 3, .inr (.inr (.inr (.inr (fun j => if j < 3 then some (q2 + 1 + j) else none)))))), ((q2 + 1), .inl (dA 0, 4, .inl (fun _ => 0))), ((q2 + 2), .inl (dA 0, 4, .inl (fun _ => 0))), ((q2 + 3), .inl (dA 0, 4, .inl (fun _ => 0))), (q3, .inl (dA 2, 4, .inr (.inr (.inr (.inr (fun j => if j < 4 then some (q3 + 1 + j) else none)))))), ((q3 + 1), .inl (dA 0, 13, .inl (fun _ => 0))), ((q3 + 2), .inl (dA 0, 13, .inl (fun _ => 0))), ((q3 + 3), .inl (dA 0, 13, .inl (fun _ => 0))), ((q3 + 4), .inl (dA 0, 13, .inl (fun _ => 0)))] := hD
  refine W.widen (k := 10) (n := 75) (by omega) (by omega) ?_
  refine va_putF (D := (dC, dI)) (ci := 2) (v := .ref q3) (ty := .array (.array .int)) (C := RX2) (T := TX2) (N := 6) hx hb hts zu_X2 tyX2 tyX2_ok nmX2 hown hK hP hD hS 0 rfl rfl 4 (by decide) (hts (.fieldLink RX2 20 "WordRace$Field" "endings" "[[I") (zm_WL_in 177 (by decide +kernel) rfl)) (fun _ h9 => h9) rfl hin rfl (by decide +kernel) rfl rfl (Nat.le_of_ble_eq_true rfl) dX2_init_29 (fun H locs hP hD hS => ?_)
  have hP : va_P (dC, dI) vwCl [(h0, .inr (2, [.ref q1, .int 0, .int 0, .ref q2, .ref q3, .null])), (q1, .inl (dA 0, 4, .inl (fun _ => 0))), (q2, .inl (dA 2, 3, .inr (.inr (.inr (.inr (fun j => if j < 3 then some (q2 + 1 + j) else none)))))), ((q2 + 1), .inl (dA 0, 4, .inl (fun _ => 0))), ((q2 + 2), .inl (dA 0, 4, .inl (fun _ => 0))), ((q2 + 3), .inl (dA 0, 4, .inl (fun _ => 0))), (q3, .inl (dA 2, 4, .inr (.inr (.inr (.inr (fun j => if j < 4 then some (q3 + 1 + j) else none)))))), ((q3 + 1), .inl (dA 0, 13, .inl (fun _ => 0))), ((q3 + 2), .inl (dA 0, 13, .inl (fun _ => 0))), ((q3 + 3), .inl (dA 0, 13, .inl (fun _ => 0))), ((q3 + 4), .inl (dA 0, 13, .inl (fun _ => 0)))] H := hP
  have hD : va_D A [(h0, .inr (2, [.ref q1, .int 0, .int 0, .ref q2, .ref q3, .null])), (q1, .inl (dA 0, 4, .inl (fun _ => 0))), (q2, .inl (dA 2, 3, .inr (.inr (.inr (.inr (fun j => if j < 3 then some (q2 + 1 + j) else none)))))), ((q2 + 1), .inl (dA 0, 4, .inl (fun _ => 0))), ((q2 + 2), .inl (dA 0, 4, .inl (fun _ => 0))), ((q2 + 3), .inl (dA 0, 4, .inl (fun _ => 0))), (q3, .inl (dA 2, 4, .inr (.inr (.inr (.inr (fun j => if j < 4 then some (q3 + 1 + j) else none)))))), ((q3 + 1), .inl (dA 0, 13, .inl (fun _ => 0))), ((q3 + 2), .inl (dA 0, 13, .inl (fun _ => 0))), ((q3 + 3), .inl (dA 0, 13, .inl (fun _ => 0))), ((q3 + 4), .inl (dA 0, 13, .inl (fun _ => 0)))] := hD
  refine lv_aload_n hx hb dX2_init_32 rfl (lv_at hl 0 rfl) ?_
  refine lv_bipush (v := 13) hx hb dX2_init_33 (by decide) ?_
  refine zc_newi (dA := dA) (N' := 13) hx hb (hts (.arrayClass .int) (zm_WL_in 90 (by decide +kernel) rfl)) hK hP hD hS hA (by decide) (by decide) (Nat.le_of_ble_eq_true rfl) (Nat.le_of_ble_eq_true rfl) (Nat.le_of_ble_eq_true rfl) dX2_init_35 (fun q4 H hP hD hS => ?_)
  have hP : va_P (dC, dI) vwCl [(h0, .inr (2, [.ref q1, .int 0, .int 0, .ref q2, .ref q3, .null])), (q1, .inl (dA 0, 4, .inl (fun _ => 0))), (q2, .inl (dA 2, 3, .inr (.inr (.inr (.inr (fun j => if j < 3 then some (q2 + 1 + j) else none)))))), ((q2 + 1), .inl (dA 0, 4, .inl (fun _ => 0))), ((q2 + 2), .inl (dA 0, 4, .inl (fun _ => 0))), ((q2 + 3), .inl (dA 0, 4, .inl (fun _ => 0))), (q3, .inl (dA 2, 4, .inr (.inr (.inr (.inr (fun j => if j < 4 then some (q3 + 1 + j) else none)))))), ((q3 + 1), .inl (dA 0, 13, .inl (fun _ => 0))), ((q3 + 2), .inl (dA 0, 13, .inl (fun _ => 0))), ((q3 + 3), .inl (dA 0, 13, .inl (fun _ => 0))), ((q3 + 4), .inl (dA 0, 13, .inl (fun _ => 0))), (q4, .inl (dA 0, 13, .inl (fun _ => 0)))] H := hP
  have hD : va_D A [(h0, .inr (2, [.ref q1, .int 0, .int 0, .ref q2, .ref q3, .null])), (q1, .inl (dA 0, 4, .inl (fun _ => 0))), (q2, .inl (dA 2, 3, .inr (.inr (.inr (.inr (fun j => if j < 3 then some (q2 + 1 + j) else none)))))), ((q2 + 1), .inl (dA 0, 4, .inl (fun _ => 0))), ((q2 + 2), .inl (dA 0, 4, .inl (fun _ => 0))), ((q2 + 3), .inl (dA 0, 4, .inl (fun _ => 0))), (q3, .inl (dA 2, 4, .inr (.inr (.inr (.inr (fun j => if j < 4 then some (q3 + 1 + j) else none)))))), ((q3 + 1), .inl (dA 0, 13, .inl (fun _ => 0))), ((q3 + 2), .inl (dA 0, 13, .inl (fun _ => 0))), ((q3 + 3), .inl (dA 0, 13, .inl (fun _ => 0))), ((q3 + 4), .inl (dA 0, 13, .inl (fun _ => 0))), (q4, .inl (dA 0, 13, .inl (fun _ => 0)))] := hD
  refine W.widen (k := 11) (n := 88) (by omega) (by omega) ?_
  refine va_putF (D := (dC, dI)) (ci := 2) (v := .ref q4) (ty := .array .int) (C := RX2) (T := TX2) (N := 6) hx hb hts zu_X2 tyX2 tyX2_ok nmX2 hown hK hP hD hS 0 rfl rfl 5 (by decide) (hts (.fieldLink RX2 23 "WordRace$Field" "open" "[I") (zm_WL_in 178 (by decide +kernel) rfl)) (fun _ h9 => h9) rfl hin rfl (by decide +kernel) rfl rfl (Nat.le_of_ble_eq_true rfl) dX2_init_37 (fun H locs hP hD hS => ?_)
  have hP : va_P (dC, dI) vwCl [(h0, .inr (2, [.ref q1, .int 0, .int 0, .ref q2, .ref q3, .ref q4])), (q1, .inl (dA 0, 4, .inl (fun _ => 0))), (q2, .inl (dA 2, 3, .inr (.inr (.inr (.inr (fun j => if j < 3 then some (q2 + 1 + j) else none)))))), ((q2 + 1), .inl (dA 0, 4, .inl (fun _ => 0))), ((q2 + 2), .inl (dA 0, 4, .inl (fun _ => 0))), ((q2 + 3), .inl (dA 0, 4, .inl (fun _ => 0))), (q3, .inl (dA 2, 4, .inr (.inr (.inr (.inr (fun j => if j < 4 then some (q3 + 1 + j) else none)))))), ((q3 + 1), .inl (dA 0, 13, .inl (fun _ => 0))), ((q3 + 2), .inl (dA 0, 13, .inl (fun _ => 0))), ((q3 + 3), .inl (dA 0, 13, .inl (fun _ => 0))), ((q3 + 4), .inl (dA 0, 13, .inl (fun _ => 0))), (q4, .inl (dA 0, 13, .inl (fun _ => 0)))] H := hP
  have hD : va_D A [(h0, .inr (2, [.ref q1, .int 0, .int 0, .ref q2, .ref q3, .ref q4])), (q1, .inl (dA 0, 4, .inl (fun _ => 0))), (q2, .inl (dA 2, 3, .inr (.inr (.inr (.inr (fun j => if j < 3 then some (q2 + 1 + j) else none)))))), ((q2 + 1), .inl (dA 0, 4, .inl (fun _ => 0))), ((q2 + 2), .inl (dA 0, 4, .inl (fun _ => 0))), ((q2 + 3), .inl (dA 0, 4, .inl (fun _ => 0))), (q3, .inl (dA 2, 4, .inr (.inr (.inr (.inr (fun j => if j < 4 then some (q3 + 1 + j) else none)))))), ((q3 + 1), .inl (dA 0, 13, .inl (fun _ => 0))), ((q3 + 2), .inl (dA 0, 13, .inl (fun _ => 0))), ((q3 + 3), .inl (dA 0, 13, .inl (fun _ => 0))), ((q3 + 4), .inl (dA 0, 13, .inl (fun _ => 0))), (q4, .inl (dA 0, 13, .inl (fun _ => 0)))] := hD
  have hP9 := hP
  have hD9 := hD
  exact W.vret hx hb hr (fun t ht hW => ⟨⟨(), rfl, trivial, q1, q2, q3, q4, by rw [ht]; exact hP9, hD9⟩, hS.F ht⟩) hS.2.2 dX2_init_40
theorem dX0_init_0 : decode cX0_init 0 = .ok (.aload_n 0, 1) := by decide +kernel
theorem dX0_init_1 : decode cX0_init 1 = .ok (.invokespecial 3, 3) := by decide +kernel
theorem dX0_init_4 : decode cX0_init 4 = .ok (.aload_n 0, 1) := by decide +kernel
theorem dX0_init_5 : decode cX0_init 5 = .ok (.iconst 2, 1) := by decide +kernel
theorem dX0_init_6 : decode cX0_init 6 = .ok (.putfield 9, 3) := by decide +kernel
theorem dX0_init_9 : decode cX0_init 9 = .ok (.aload_n 0, 1) := by decide +kernel
theorem dX0_init_10 : decode cX0_init 10 = .ok (.bipush 6, 2) := by decide +kernel
theorem dX0_init_12 : decode cX0_init 12 = .ok (.newarray .int, 2) := by decide +kernel
theorem dX0_init_14 : decode cX0_init 14 = .ok (.putfield 15, 3) := by decide +kernel
theorem dX0_init_17 : decode cX0_init 17 = .ok (.aload_n 0, 1) := by decide +kernel
theorem dX0_init_18 : decode cX0_init 18 = .ok (.new 19, 3) := by decide +kernel
theorem dX0_init_21 : decode cX0_init 21 = .ok (.dup, 1) := by decide +kernel
theorem dX0_init_22 : decode cX0_init 22 = .ok (.invokespecial 21, 3) := by decide +kernel
theorem dX0_init_25 : decode cX0_init 25 = .ok (.putfield 22, 3) := by decide +kernel
theorem dX0_init_28 : decode cX0_init 28 = .ok (.aload_n 0, 1) := by decide +kernel
theorem dX0_init_29 : decode cX0_init 29 = .ok (.iconst 4, 1) := by decide +kernel
theorem dX0_init_30 : decode cX0_init 30 = .ok (.newarray .int, 2) := by decide +kernel
theorem dX0_init_32 : decode cX0_init 32 = .ok (.putfield 26, 3) := by decide +kernel
theorem dX0_init_35 : decode cX0_init 35 = .ok (.aload_n 0, 1) := by decide +kernel
theorem dX0_init_36 : decode cX0_init 36 = .ok (.iconst 4, 1) := by decide +kernel
theorem dX0_init_37 : decode cX0_init 37 = .ok (.newarray .int, 2) := by decide +kernel
theorem dX0_init_39 : decode cX0_init 39 = .ok (.putfield 29, 3) := by decide +kernel
theorem dX0_init_42 : decode cX0_init 42 = .ok (.aload_n 0, 1) := by decide +kernel
theorem dX0_init_43 : decode cX0_init 43 = .ok (.bipush 8, 2) := by decide +kernel
theorem dX0_init_45 : decode cX0_init 45 = .ok (.newarray .int, 2) := by decide +kernel
theorem dX0_init_47 : decode cX0_init 47 = .ok (.putfield 32, 3) := by decide +kernel
theorem dX0_init_50 : decode cX0_init 50 = .ok (.aload_n 0, 1) := by decide +kernel
theorem dX0_init_51 : decode cX0_init 51 = .ok (.bipush 8, 2) := by decide +kernel
theorem dX0_init_53 : decode cX0_init 53 = .ok (.newarray .int, 2) := by decide +kernel
theorem dX0_init_55 : decode cX0_init 55 = .ok (.putfield 35, 3) := by decide +kernel
theorem dX0_init_58 : decode cX0_init 58 = .ok (.return_, 1) := by decide +kernel
set_option maxHeartbeats 4000000 in
set_option maxRecDepth 100000 in
theorem k_X0_init (l : Launch) (dC : Nat → ClassId) (dI : Nat → Nat → Nat) (dA : Nat → ClassId) (h0 sz : Nat) : Met l yX0_init (Jvm.Cond.code yX0_init cX0_init 1 none :: zm_WL) ({ frames := 2, cells := 7, slots := 72, locals := 40 }) (zc_P dC dI dA [.ref h0] sz [(h0, .inr (0, [.int 0, .null, .int 0, .null, .null, .null, .int 0, .null, .null, .int 0]))]) (va_Qv (fun _ : Unit => True) (fun _ t => ∃ (q1 q2 q3 q4 q5 q6 q7 : Nat), va_P (dC, dI) vwCl [(h0, .inr (0, [.int 2, .ref q1, .int 0, .ref q2, .ref q4, .ref q5, .int 0, .ref q6, .ref q7, .int 0])), (q1, .inl (dA 0, 6, .inl (fun _ => 0))), (q2, .inr (4, [.ref q3, .int 0])), (q3, .inl (dA 0, 40, .inl (fun _ => 0))), (q4, .inl (dA 0, 4, .inl (fun _ => 0))), (q5, .inl (dA 0, 4, .inl (fun _ => 0))), (q6, .inl (dA 0, 8, .inl (fun _ => 0))), (q7, .inl (dA 0, 8, .inl (fun _ => 0)))] t.heap ∧ va_D (va_A [(h0, .inr (0, [.int 0, .null, .int 0, .null, .null, .null, .int 0, .null, .null, .int 0]))] sz) [(h0, .inr (0, [.int 2, .ref q1, .int 0, .ref q2, .ref q4, .ref q5, .int 0, .ref q6, .ref q7, .int 0])), (q1, .inl (dA 0, 6, .inl (fun _ => 0))), (q2, .inr (4, [.ref q3, .int 0])), (q3, .inl (dA 0, 40, .inl (fun _ => 0))), (q4, .inl (dA 0, 4, .inl (fun _ => 0))), (q5, .inl (dA 0, 4, .inl (fun _ => 0))), (q6, .inl (dA 0, 8, .inl (fun _ => 0))), (q7, .inl (dA 0, 8, .inl (fun _ => 0)))]) (va_A [(h0, .inr (0, [.int 0, .null, .int 0, .null, .null, .null, .int 0, .null, .null, .int 0]))] sz)) 7 72 (va_A [(h0, .inr (0, [.int 0, .null, .int 0, .null, .null, .null, .int 0, .null, .null, .int 0]))] sz) := by
  refine Met.ofW (cc := cX0_init) (maxL := 1) (ret := none) (by decide) rfl ?_
  intro p e s m args below meth c s₁ B hml hv
  obtain ⟨rfl, hsz, hP, hV, hD0⟩ := hv
  have hx := B.exec
  have hb := B.bytes
  have hr := B.returns
  have hts0 := atoms_spec (ws := Jvm.Cond.code yX0_init cX0_init 1 none :: zm_WL) B.pre
  have hts : ∀ w ∈ zm_WL, w.before [Value.ref h0].toArray s = true := fun w h => hts0 w (List.mem_cons_of_mem _ h)
  have hown : s.vm.findClass RX0 = some m.cls := findClass_of_methodNamed B.named
  have hlocks := B.notSynchronized
  have hin : meth.name = "<init>" := (name_of_methodNamed B.named B.method).1
  subst hsz
  have hK := hV.1
  have hD := hD0.self (sz := s.heap.size)
  generalize hAe : va_A [(h0, .inr (0, [.int 0, .null, .int 0, .null, .null, .null, .int 0, .null, .null, .int 0]))] s.heap.size = A at hD ⊢
  have hA : ∀ q : Nat, s.heap.size ≤ q → A q := fun q h => by rw [← hAe]; exact Or.inr h
  have hS : va_S A s.heap s.heap [] := va_S.rf
  have hP : va_P (dC, dI) vwCl [(h0, .inr (0, [.int 0, .null, .int 0, .null, .null, .null, .int 0, .null, .null, .int 0]))] s.heap := hP
  have hl := lv_entry ([.ref h0]) (n := 1) (Nat.le_of_ble_eq_true rfl)
  rw [lg_entry_eq]
  generalize (lg_sl ([.ref h0]) ++ List.replicate (1 - (lg_sl ([.ref h0])).length) Slot.unset).toArray = ls at hl ⊢
  have hl : lv_has ls 1 [(0, .ref h0)] := hl
  refine lv_aload_n hx hb dX0_init_0 rfl (lv_at hl 0 rfl) ?_
  refine W.objInit hx hb hown (hts (.methodLink RX0 3 objectInit) (zm_WL_in 73 (by decide +kernel) rfl)) (hts (.instanceMethod objectInit) (zm_WL_in 66 (by decide +kernel) rfl)) (hts (.code objectInit ⟨#[0xb1]⟩ 1 none) (zm_WL_in 67 (by decide +kernel) rfl)) rfl (by rw [hml]; exact hl.1) rfl dX0_init_1 (Nat.le_of_ble_eq_true rfl) (Nat.le_of_ble_eq_true rfl) ?_
  refine W.eq (g2 := F0 m 4 ls []) rfl ?_
  refine lv_aload_n hx hb dX0_init_4 rfl (lv_at hl 0 rfl) ?_
  refine lv_iconst (v := 2) hx hb dX0_init_5 (by decide) ?_
  refine va_put (D := (dC, dI)) (ci := 0) (v := .int 2) (ty := .int) (C := RX0) (T := TX0) (N := 10) hx hb hts zu_X0 tyX0 tyX0_ok nmX0 hown hK hP hD hS 0 rfl rfl 0 (by decide) (hts (.fieldLink RX0 9 "WordRace$Board" "sides" "I") (zm_WL_in 91 (by decide +kernel) rfl)) (fun _ h9 => h9) rfl (by decide +kernel) rfl rfl (Nat.le_of_ble_eq_true rfl) dX0_init_6 (fun H locs hP hD hS => ?_)
  have hP : va_P (dC, dI) vwCl [(h0, .inr (0, [.int 2, .null, .int 0, .null, .null, .null, .int 0, .null, .null, .int 0]))] H := hP
  have hD : va_D A [(h0, .inr (0, [.int 2, .null, .int 0, .null, .null, .null, .int 0, .null, .null, .int 0]))] := hD
  refine lv_aload_n hx hb dX0_init_9 rfl (lv_at hl 0 rfl) ?_
  refine lv_bipush (v := 6) hx hb dX0_init_10 (by decide) ?_
  refine zc_newi (dA := dA) (N' := 6) hx hb (hts (.arrayClass .int) (zm_WL_in 90 (by decide +kernel) rfl)) hK hP hD hS hA (by decide) (by decide) (Nat.le_of_ble_eq_true rfl) (Nat.le_of_ble_eq_true rfl) (Nat.le_of_ble_eq_true rfl) dX0_init_12 (fun q1 H hP hD hS => ?_)
  have hP : va_P (dC, dI) vwCl [(h0, .inr (0, [.int 2, .null, .int 0, .null, .null, .null, .int 0, .null, .null, .int 0])), (q1, .inl (dA 0, 6, .inl (fun _ => 0)))] H := hP
  have hD : va_D A [(h0, .inr (0, [.int 2, .null, .int 0, .null, .null, .null, .int 0, .null, .null, .int 0])), (q1, .inl (dA 0, 6, .inl (fun _ => 0)))] := hD
  refine W.widen (k := 1) (n := 6) (by omega) (by omega) ?_
  refine va_putF (D := (dC, dI)) (ci := 0) (v := .ref q1) (ty := .array .int) (C := RX0) (T := TX0) (N := 10) hx hb hts zu_X0 tyX0 tyX0_ok nmX0 hown hK hP hD hS 0 rfl rfl 1 (by decide) (hts (.fieldLink RX0 15 "WordRace$Board" "numbers" "[I") (zm_WL_in 95 (by decide +kernel) rfl)) (fun _ h9 => h9) rfl hin rfl (by decide +kernel) rfl rfl (Nat.le_of_ble_eq_true rfl) dX0_init_14 (fun H locs hP hD hS => ?_)
  have hP : va_P (dC, dI) vwCl [(h0, .inr (0, [.int 2, .ref q1, .int 0, .null, .null, .null, .int 0, .null, .null, .int 0])), (q1, .inl (dA 0, 6, .inl (fun _ => 0)))] H := hP
  have hD : va_D A [(h0, .inr (0, [.int 2, .ref q1, .int 0, .null, .null, .null, .int 0, .null, .null, .int 0])), (q1, .inl (dA 0, 6, .inl (fun _ => 0)))] := hD
  refine lv_aload_n hx hb dX0_init_17 rfl (lv_at hl 0 rfl) ?_
  refine va_new (ci := 4) (fs := [.null, .int 0]) (C := RX6) (T := TX6) (N := 2) hx hb hts zu_X6 tyX6 tyX6_ok hown (hts (.classLink RX0 19 RX6) (zm_WL_in 74 (by decide +kernel) rfl)) (hts (.instantiable RX6 2) (zm_WL_in 75 (by decide +kernel) rfl)) (hts (.initialized RX6) (zm_WL_in 46 (by decide +kernel) rfl)) hK hP hD hS hA rfl (by decide +kernel) (Nat.le_of_ble_eq_true rfl) (Nat.le_of_ble_eq_true rfl) dX0_init_18 (fun q2 H hP hD hS => ?_)
  have hP : va_P (dC, dI) vwCl [(h0, .inr (0, [.int 2, .ref q1, .int 0, .null, .null, .null, .int 0, .null, .null, .int 0])), (q1, .inl (dA 0, 6, .inl (fun _ => 0))), (q2, .inr (4, [.null, .int 0]))] H := hP
  have hD : va_D A [(h0, .inr (0, [.int 2, .ref q1, .int 0, .null, .null, .null, .int 0, .null, .null, .int 0])), (q1, .inl (dA 0, 6, .inl (fun _ => 0))), (q2, .inr (4, [.null, .int 0]))] := hD
  refine W.widen (k := 2) (n := 8) (by omega) (by omega) ?_
  refine lv_dup hx hb dX0_init_21 rfl ?_
  have hPc := hP.sub (ws' := [(q2, .inr (4, [.null, .int 0]))]) [2] rfl
  have hDc := hD.sub (ws' := [(q2, .inr (4, [.null, .int 0]))]) [2] (by decide) rfl
  have hFc := va_free (wc := [(q2, .inr (4, [.null, .int 0]))]) hD hS hA [2] rfl
  refine va_callv (va_runIN (As := []) (rest := [.ref q2, .ref h0]) ⟨hx, hb, hml, hown, hts⟩ (k_X6_init l dC dI dA q2 H.size) ⟨va_cnB 0 hts (zm_goodIn (zm_WL_in 78 rfl rfl)) rfl rfl rfl hV.2.2.2.1 (hts (.initialized RX6) (zm_WL_in 46 (by decide +kernel) rfl)) (by decide +kernel) ⟨Nat.le_of_ble_eq_true rfl, Nat.le_of_ble_eq_true rfl⟩, rfl, hts (.instanceMethod yX6_init) (zm_WL_in 77 (by decide +kernel) rfl)⟩ ⟨zc_blind dC dI dA _ _ _, fun U hU hW => ⟨rfl, by rw [hU], by rw [hU]; exact hPc, hV.moved hW, hDc.weaken (fun _ _ _ _ => trivial)⟩⟩ rfl rfl hl.1 rfl (lv_room (Nat.le_of_ble_eq_true rfl)) dX0_init_22 ⟨Nat.le_of_ble_eq_true rfl, Nat.le_of_ble_eq_true rfl⟩) hS (fun q _ h => hFc q h) hFc (fun u t H1 locs ht hvm hw hB hz1 hk1 hS => ?_)
  obtain ⟨q3, hP1, hD1⟩ := hB
  rw [ht] at hP1
  obtain ⟨hP, hD⟩ := va_join (wr := [(h0, .inr (0, [.int 2, .ref q1, .int 0, .null, .null, .null, .int 0, .null, .null, .int 0])), (q1, .inl (dA 0, 6, .inl (fun _ => 0)))]) (w1 := [(q2, .inr (4, [.ref q3, .int 0])), (q3, .inl (dA 0, 40, .inl (fun _ => 0)))]) hP hD [2] [0, 1] rfl rfl (by decide) (by decide) hk1 hFc hP1 hD1
  generalize H1 = H at hP hS ⊢
  have hP : va_P (dC, dI) vwCl [(h0, .inr (0, [.int 2, .ref q1, .int 0, .null, .null, .null, .int 0, .null, .null, .int 0])), (q1, .inl (dA 0, 6, .inl (fun _ => 0))), (q2, .inr (4, [.ref q3, .int 0])), (q3, .inl (dA 0, 40, .inl (fun _ => 0)))] H := hP
  have hD : va_D A [(h0, .inr (0, [.int 2, .ref q1, .int 0, .null, .null, .null, .int 0, .null, .null, .int 0])), (q1, .inl (dA 0, 6, .inl (fun _ => 0))), (q2, .inr (4, [.ref q3, .int 0])), (q3, .inl (dA 0, 40, .inl (fun _ => 0)))] := hD
  refine W.widen (k := 3) (n := 48) (by omega) (by omega) ?_
  refine va_putF (D := (dC, dI)) (ci := 0) (v := .ref q2) (ty := .object "WordRace$Strip") (C := RX0) (T := TX0) (N := 10) hx hb hts zu_X0 tyX0 tyX0_ok nmX0 hown hK hP hD hS 0 rfl rfl 3 (by decide) (hts (.fieldLink RX0 22 "WordRace$Board" "strip" "LWordRace$Strip;") (zm_WL_in 101 (by decide +kernel) rfl)) (fun _ h9 => h9) rfl hin rfl (by decide +kernel) rfl rfl (Nat.le_of_ble_eq_true rfl) dX0_init_25 (fun H locs hP hD hS => ?_)
  have hP : va_P (dC, dI) vwCl [(h0, .inr (0, [.int 2, .ref q1, .int 0, .ref q2, .null, .null, .int 0, .null, .null, .int 0])), (q1, .inl (dA 0, 6, .inl (fun _ => 0))), (q2, .inr (4, [.ref q3, .int 0])), (q3, .inl (dA 0, 40, .inl (fun _ => 0)))] H := hP
  have hD : va_D A [(h0, .inr (0, [.int 2, .ref q1, .int 0, .ref q2, .null, .null, .int 0, .null, .null, .int 0])), (q1, .inl (dA 0, 6, .inl (fun _ => 0))), (q2, .inr (4, [.ref q3, .int 0])), (q3, .inl (dA 0, 40, .inl (fun _ => 0)))] := hD
  refine lv_aload_n hx hb dX0_init_28 rfl (lv_at hl 0 rfl) ?_
  refine lv_iconst (v := 4) hx hb dX0_init_29 (by decide) ?_
  refine zc_newi (dA := dA) (N' := 4) hx hb (hts (.arrayClass .int) (zm_WL_in 90 (by decide +kernel) rfl)) hK hP hD hS hA (by decide) (by decide) (Nat.le_of_ble_eq_true rfl) (Nat.le_of_ble_eq_true rfl) (Nat.le_of_ble_eq_true rfl) dX0_init_30 (fun q4 H hP hD hS => ?_)
  have hP : va_P (dC, dI) vwCl [(h0, .inr (0, [.int 2, .ref q1, .int 0, .ref q2, .null, .null, .int 0, .null, .null, .int 0])), (q1, .inl (dA 0, 6, .inl (fun _ => 0))), (q2, .inr (4, [.ref q3, .int 0])), (q3, .inl (dA 0, 40, .inl (fun _ => 0))), (q4, .inl (dA 0, 4, .inl (fun _ => 0)))] H := hP
  have hD : va_D A [(h0, .inr (0, [.int 2, .ref q1, .int 0, .ref q2, .null, .null, .int 0, .null, .null, .int 0])), (q1, .inl (dA 0, 6, .inl (fun _ => 0))), (q2, .inr (4, [.ref q3, .int 0])), (q3, .inl (dA 0, 40, .inl (fun _ => 0))), (q4, .inl (dA 0, 4, .inl (fun _ => 0)))] := hD
  refine W.widen (k := 4) (n := 52) (by omega) (by omega) ?_
  refine va_putF (D := (dC, dI)) (ci := 0) (v := .ref q4) (ty := .array .int) (C := RX0) (T := TX0) (N := 10) hx hb hts zu_X0 tyX0 tyX0_ok nmX0 hown hK hP hD hS 0 rfl rfl 4 (by decide) (hts (.fieldLink RX0 26 "WordRace$Board" "kinds" "[I") (zm_WL_in 103 (by decide +kernel) rfl)) (fun _ h9 => h9) rfl hin rfl (by decide +kernel) rfl rfl (Nat.le_of_ble_eq_true rfl) dX0_init_32 (fun H locs hP hD hS => ?_)
  have hP : va_P (dC, dI) vwCl [(h0, .inr (0, [.int 2, .ref q1, .int 0, .ref q2, .ref q4, .null, .int 0, .null, .null, .int 0])), (q1, .inl (dA 0, 6, .inl (fun _ => 0))), (q2, .inr (4, [.ref q3, .int 0])), (q3, .inl (dA 0, 40, .inl (fun _ => 0))), (q4, .inl (dA 0, 4, .inl (fun _ => 0)))] H := hP
  have hD : va_D A [(h0, .inr (0, [.int 2, .ref q1, .int 0, .ref q2, .ref q4, .null, .int 0, .null, .null, .int 0])), (q1, .inl (dA 0, 6, .inl (fun _ => 0))), (q2, .inr (4, [.ref q3, .int 0])), (q3, .inl (dA 0, 40, .inl (fun _ => 0))), (q4, .inl (dA 0, 4, .inl (fun _ => 0)))] := hD
  refine lv_aload_n hx hb dX0_init_35 rfl (lv_at hl 0 rfl) ?_
  refine lv_iconst (v := 4) hx hb dX0_init_36 (by decide) ?_
  refine zc_newi (dA := dA) (N' := 4) hx hb (hts (.arrayClass .int) (zm_WL_in 90 (by decide +kernel) rfl)) hK hP hD hS hA (by decide) (by decide) (Nat.le_of_ble_eq_true rfl) (Nat.le_of_ble_eq_true rfl) (Nat.le_of_ble_eq_true rfl) dX0_init_37 (fun q5 H hP hD hS => ?_)
  have hP : va_P (dC, dI) vwCl [(h0, .inr (0, [.int 2, .ref q1, .int 0, .ref q2, .ref q4, .null, .int 0, .null, .null, .int 0])), (q1, .inl (dA 0, 6, .inl (fun _ => 0))), (q2, .inr (4, [.ref q3, .int 0])), (q3, .inl (dA 0, 40, .inl (fun _ => 0))), (q4, .inl (dA 0, 4, .inl (fun _ => 0))), (q5, .inl (dA 0, 4, .inl (fun _ => 0)))] H := hP
  have hD : va_D A [(h0, .inr (0, [.int 2, .ref q1, .int 0, .ref q2, .ref q4, .null, .int 0, .null, .null, .int 0])), (q1, .inl (dA 0, 6, .inl (fun _ => 0))), (q2, .inr (4, [.ref q3, .int 0])), (q3, .inl (dA 0, 40, .inl (fun _ => 0))), (q4, .inl (dA 0, 4, .inl (fun _ => 0))), (q5, .inl (dA 0, 4, .inl (fun _ => 0)))] := hD
  refine W.widen (k := 5) (n := 56) (by omega) (by omega) ?_
  refine va_putF (D := (dC, dI)) (ci := 0) (v := .ref q5) (ty := .array .int) (C := RX0) (T := TX0) (N := 10) hx hb hts zu_X0 tyX0 tyX0_ok nmX0 hown hK hP hD hS 0 rfl rfl 5 (by decide) (hts (.fieldLink RX0 29 "WordRace$Board" "owned" "[I") (zm_WL_in 105 (by decide +kernel) rfl)) (fun _ h9 => h9) rfl hin rfl (by decide +kernel) rfl rfl (Nat.le_of_ble_eq_true rfl) dX0_init_39 (fun H locs hP hD hS => ?_)
  have hP : va_P (dC, dI) vwCl [(h0, .inr (0, [.int 2, .ref q1, .int 0, .ref q2, .ref q4, .ref q5, .int 0, .null, .null, .int 0])), (q1, .inl (dA 0, 6, .inl (fun _ => 0))), (q2, .inr (4, [.ref q3, .int 0])), (q3, .inl (dA 0, 40, .inl (fun _ => 0))), (q4, .inl (dA 0, 4, .inl (fun _ => 0))), (q5, .inl (dA 0, 4, .inl (fun _ => 0)))] H := hP
  have hD : va_D A [(h0, .inr (0, [.int 2, .ref q1, .int 0, .ref q2, .ref q4, .ref q5, .int 0, .null, .null, .int 0])), (q1, .inl (dA 0, 6, .inl (fun _ => 0))), (q2, .inr (4, [.ref q3, .int 0])), (q3, .inl (dA 0, 40, .inl (fun _ => 0))), (q4, .inl (dA 0, 4, .inl (fun _ => 0))), (q5, .inl (dA 0, 4, .inl (fun _ => 0)))] := hD
  refine lv_aload_n hx hb dX0_init_42 rfl (lv_at hl 0 rfl) ?_
  refine lv_bipush (v := 8) hx hb dX0_init_43 (by decide) ?_
  refine zc_newi (dA := dA) (N' := 8) hx hb (hts (.arrayClass .int) (zm_WL_in 90 (by decide +kernel) rfl)) hK hP hD hS hA (by decide) (by decide) (Nat.le_of_ble_eq_true rfl) (Nat.le_of_ble_eq_true rfl) (Nat.le_of_ble_eq_true rfl) dX0_init_45 (fun q6 H hP hD hS => ?_)
  have hP : va_P (dC, dI) vwCl [(h0, .inr (0, [.int 2, .ref q1, .int 0, .ref q2, .ref q4, .ref q5, .int 0, .null, .null, .int 0])), (q1, .inl (dA 0, 6, .inl (fun _ => 0))), (q2, .inr (4, [.ref q3, .int 0])), (q3, .inl (dA 0, 40, .inl (fun _ => 0))), (q4, .inl (dA 0, 4, .inl (fun _ => 0))), (q5, .inl (dA 0, 4, .inl (fun _ => 0))), (q6, .inl (dA 0, 8, .inl (fun _ => 0)))] H := hP
  have hD : va_D A [(h0, .inr (0, [.int 2, .ref q1, .int 0, .ref q2, .ref q4, .ref q5, .int 0, .null, .null, .int 0])), (q1, .inl (dA 0, 6, .inl (fun _ => 0))), (q2, .inr (4, [.ref q3, .int 0])), (q3, .inl (dA 0, 40, .inl (fun _ => 0))), (q4, .inl (dA 0, 4, .inl (fun _ => 0))), (q5, .inl (dA 0, 4, .inl (fun _ => 0))), (q6, .inl (dA 0, 8, .inl (fun _ => 0)))] := hD
  refine W.widen (k := 6) (n := 64) (by omega) (by omega) ?_
  refine va_putF (D := (dC, dI)) (ci := 0) (v := .ref q6) (ty := .array .int) (C := RX0) (T := TX0) (N := 10) hx hb hts zu_X0 tyX0 tyX0_ok nmX0 hown hK hP hD hS 0 rfl rfl 7 (by decide) (hts (.fieldLink RX0 32 "WordRace$Board" "rowWhats" "[I") (zm_WL_in 109 (by decide +kernel) rfl)) (fun _ h9 => h9) rfl hin rfl (by decide +kernel) rfl rfl (Nat.le_of_ble_eq_true rfl) dX0_init_47 (fun H locs hP hD hS => ?_)
  have hP : va_P (dC, dI) vwCl [(h0, .inr (0, [.int 2, .ref q1, .int 0, .ref q2, .ref q4, .ref q5, .int 0, .ref q6, .null, .int 0])), (q1, .inl (dA 0, 6, .inl (fun _ => 0))), (q2, .inr (4, [.ref q3, .int 0])), (q3, .inl (dA 0, 40, .inl (fun _ => 0))), (q4, .inl (dA 0, 4, .inl (fun _ => 0))), (q5, .inl (dA 0, 4, .inl (fun _ => 0))), (q6, .inl (dA 0, 8, .inl (fun _ => 0)))] H := hP
  have hD : va_D A [(h0, .inr (0, [.int 2, .ref q1, .int 0, .ref q2, .ref q4, .ref q5, .int 0, .ref q6, .null, .int 0])), (q1, .inl (dA 0, 6, .inl (fun _ => 0))), (q2, .inr (4, [.ref q3, .int 0])), (q3, .inl (dA 0, 40, .inl (fun _ => 0))), (q4, .inl (dA 0, 4, .inl (fun _ => 0))), (q5, .inl (dA 0, 4, .inl (fun _ => 0))), (q6, .inl (dA 0, 8, .inl (fun _ => 0)))] := hD
  refine lv_aload_n hx hb dX0_init_50 rfl (lv_at hl 0 rfl) ?_
  refine lv_bipush (v := 8) hx hb dX0_init_51 (by decide) ?_
  refine zc_newi (dA := dA) (N' := 8) hx hb (hts (.arrayClass .int) (zm_WL_in 90 (by decide +kernel) rfl)) hK hP hD hS hA (by decide) (by decide) (Nat.le_of_ble_eq_true rfl) (Nat.le_of_ble_eq_true rfl) (Nat.le_of_ble_eq_true rfl) dX0_init_53 (fun q7 H hP hD hS => ?_)
  have hP : va_P (dC, dI) vwCl [(h0, .inr (0, [.int 2, .ref q1, .int 0, .ref q2, .ref q4, .ref q5, .int 0, .ref q6, .null, .int 0])), (q1, .inl (dA 0, 6, .inl (fun _ => 0))), (q2, .inr (4, [.ref q3, .int 0])), (q3, .inl (dA 0, 40, .inl (fun _ => 0))), (q4, .inl (dA 0, 4, .inl (fun _ => 0))), (q5, .inl (dA 0, 4, .inl (fun _ => 0))), (q6, .inl (dA 0, 8, .inl (fun _ => 0))), (q7, .inl (dA 0, 8, .inl (fun _ => 0)))] H := hP
  have hD : va_D A [(h0, .inr (0, [.int 2, .ref q1, .int 0, .ref q2, .ref q4, .ref q5, .int 0, .ref q6, .null, .int 0])), (q1, .inl (dA 0, 6, .inl (fun _ => 0))), (q2, .inr (4, [.ref q3, .int 0])), (q3, .inl (dA 0, 40, .inl (fun _ => 0))), (q4, .inl (dA 0, 4, .inl (fun _ => 0))), (q5, .inl (dA 0, 4, .inl (fun _ => 0))), (q6, .inl (dA 0, 8, .inl (fun _ => 0))), (q7, .inl (dA 0, 8, .inl (fun _ => 0)))] := hD
  refine W.widen (k := 7) (n := 72) (by omega) (by omega) ?_
  refine va_putF (D := (dC, dI)) (ci := 0) (v := .ref q7) (ty := .array .int) (C := RX0) (T := TX0) (N := 10) hx hb hts zu_X0 tyX0 tyX0_ok nmX0 hown hK hP hD hS 0 rfl rfl 8 (by decide) (hts (.fieldLink RX0 35 "WordRace$Board" "rowValues" "[I") (zm_WL_in 110 (by decide +kernel) rfl)) (fun _ h9 => h9) rfl hin rfl (by decide +kernel) rfl rfl (Nat.le_of_ble_eq_true rfl) dX0_init_55 (fun H locs hP hD hS => ?_)
  have hP : va_P (dC, dI) vwCl [(h0, .inr (0, [.int 2, .ref q1, .int 0, .ref q2, .ref q4, .ref q5, .int 0, .ref q6, .ref q7, .int 0])), (q1, .inl (dA 0, 6, .inl (fun _ => 0))), (q2, .inr (4, [.ref q3, .int 0])), (q3, .inl (dA 0, 40, .inl (fun _ => 0))), (q4, .inl (dA 0, 4, .inl (fun _ => 0))), (q5, .inl (dA 0, 4, .inl (fun _ => 0))), (q6, .inl (dA 0, 8, .inl (fun _ => 0))), (q7, .inl (dA 0, 8, .inl (fun _ => 0)))] H := hP
  have hD : va_D A [(h0, .inr (0, [.int 2, .ref q1, .int 0, .ref q2, .ref q4, .ref q5, .int 0, .ref q6, .ref q7, .int 0])), (q1, .inl (dA 0, 6, .inl (fun _ => 0))), (q2, .inr (4, [.ref q3, .int 0])), (q3, .inl (dA 0, 40, .inl (fun _ => 0))), (q4, .inl (dA 0, 4, .inl (fun _ => 0))), (q5, .inl (dA 0, 4, .inl (fun _ => 0))), (q6, .inl (dA 0, 8, .inl (fun _ => 0))), (q7, .inl (dA 0, 8, .inl (fun _ => 0)))] := hD
  have hP9 := hP
  have hD9 := hD
  exact W.vret hx hb hr (fun t ht hW => ⟨⟨(), rfl, trivial, q1, q2, q3, q4, q5, q6, q7, by rw [ht]; exact hP9, hD9⟩, hS.F ht⟩) hS.2.2 dX0_init_58
