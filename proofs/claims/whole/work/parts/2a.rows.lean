section ZCR
/-! rows for the constructors: arrays of a known class, arrays of arrays; what of the tables a constructor carries along -/
variable {p : Program} {l : Launch} {e : Env} {R : Room} {s : State} {m : MethodId} {args : Array Value} {below : List Frame} {meth : Method} {c : Code} {H : Heap} {locs : List Loc} {cells slots : Nat} {Q : State → Prop}
variable {cc : ByteArray} {pc : Nat} {ls : Array Slot} {rest : List Value} {D : va_G} {cl : List vw_C} {A : Nat → Prop} {dA : Nat → ClassId} {ws : va_W} {H0 : Heap}
theorem zc_newi (hexec : p.tables.exec = Jvm.exec) (hb : c.code = cc) (harr : (Cond.arrayClass .int).before args s = true) (hK : va_K D cl (zm_tys dA) s) (hP : va_P D cl ws H) (hD : va_D A ws) (hS : va_S A H0 H locs) (hA : ∀ q, H0.size ≤ q → A q)
    {n : Int32} {N' : Nat} (hn : ¬ n < 0) (hN : n.toNatClampNeg = N') (hbytes : N' * 4 ≤ 536870912) (hcells : cells + 1 ≤ R.cells) (hslots : slots + N' ≤ R.slots) (hdg : decode cc pc = .ok (.newarray .int, 2))
    (kk : ∀ (q : Nat) (H1 : Heap), va_P D cl (ws ++ [(q, .inl (dA 0, N', .inl (fun _ => 0)))]) H1 → va_D A (ws ++ [(q, .inl (dA 0, N', .inl (fun _ => 0)))]) → va_S A H0 H1 locs →
      W p l e R s m args below meth c H1 locs (cells + 1) (slots + N') Q (F0 m (pc + 2) ls (.ref q :: rest))) : W p l e R s m args below meth c H locs cells slots Q (F0 m pc ls (.int n :: rest)) := by
  refine va_newa (atype := .int) (a0 := (N', .inl (fun _ => 0))) hexec hb harr rfl hK hP hD hS hA (fun cA => rfl) hn hN hbytes hcells hslots hdg (fun q cA H1 hK2 hP2 hD2 hS2 => ?_)
  have h1 : va_RA s cA .int := (hK2.2 3 _ rfl).2
  have h2 : va_RA s (dA 0) .int := (hK.2 0 _ rfl).2
  have e : cA = dA 0 := Option.some.inj (Eq.trans (Eq.symm (show s.vm.findClass ("[" ++ FieldType.int.toString) = some cA from h1)) h2)
  subst e
  exact kk q H1 hP2 hD2 hS2
theorem zc_newl (hexec : p.tables.exec = Jvm.exec) (hb : c.code = cc) (harr : (Cond.arrayClass .long).before args s = true) (hK : va_K D cl (zm_tys dA) s) (hP : va_P D cl ws H) (hD : va_D A ws) (hS : va_S A H0 H locs) (hA : ∀ q, H0.size ≤ q → A q)
    {n : Int32} {N' : Nat} (hn : ¬ n < 0) (hN : n.toNatClampNeg = N') (hbytes : N' * 8 ≤ 536870912) (hcells : cells + 1 ≤ R.cells) (hslots : slots + N' ≤ R.slots) (hdg : decode cc pc = .ok (.newarray .long, 2))
    (kk : ∀ (q : Nat) (H1 : Heap), va_P D cl (ws ++ [(q, .inl (dA 1, N', .inr (.inl (fun _ => 0))))]) H1 → va_D A (ws ++ [(q, .inl (dA 1, N', .inr (.inl (fun _ => 0))))]) → va_S A H0 H1 locs →
      W p l e R s m args below meth c H1 locs (cells + 1) (slots + N') Q (F0 m (pc + 2) ls (.ref q :: rest))) : W p l e R s m args below meth c H locs cells slots Q (F0 m pc ls (.int n :: rest)) := by
  refine va_newa (atype := .long) (a0 := (N', .inr (.inl (fun _ => 0)))) hexec hb harr rfl hK hP hD hS hA (fun cA => rfl) hn hN hbytes hcells hslots hdg (fun q cA H1 hK2 hP2 hD2 hS2 => ?_)
  have h1 : va_RA s cA .long := (hK2.2 3 _ rfl).2
  have h2 : va_RA s (dA 1) .long := (hK.2 1 _ rfl).2
  have e : cA = dA 1 := Option.some.inj (Eq.trans (Eq.symm (show s.vm.findClass ("[" ++ FieldType.long.toString) = some cA from h1)) h2)
  subst e
  exact kk q H1 hP2 hD2 hS2
theorem zc_D_rows {D : va_G} {n : Nat} (hP : va_P D cl ws H) (hD : va_D A ws) (hA : ∀ q, H.size ≤ q → A q) (es : Nat → va_E) : va_D A (ws ++ (List.range n).map (fun i => (H.size + i, es i))) := by
  refine hD.app ⟨fun i j x y hi hj hxy => ?_, fun k x hx => ?_⟩ (fun i j x y hx hy hxy => ?_)
  · rw [List.getElem?_map] at hi hj
    have hi' := (List.getElem?_eq_some_iff.mp (Option.map_eq_some_iff.mp hi).choose_spec.1)
    have hj' := (List.getElem?_eq_some_iff.mp (Option.map_eq_some_iff.mp hj).choose_spec.1)
    obtain ⟨a, ha, rfl⟩ := Option.map_eq_some_iff.mp hi
    obtain ⟨b, hb, rfl⟩ := Option.map_eq_some_iff.mp hj
    have ea : a = i := by
      have := List.getElem?_eq_some_iff.mp ha
      simpa using this.2.symm
    have eb : b = j := by
      have := List.getElem?_eq_some_iff.mp hb
      simpa using this.2.symm
    have : H.size + a = H.size + b := hxy
    omega
  · rw [List.getElem?_map] at hx
    obtain ⟨a, ha, rfl⟩ := Option.map_eq_some_iff.mp hx
    exact hA _ (Nat.le_add_right _ _)
  · rw [List.getElem?_map] at hy
    obtain ⟨a, ha, rfl⟩ := Option.map_eq_some_iff.mp hy
    have h1 := (hP i x hx).lt
    have : x.1 = H.size + a := hxy
    omega
set_option maxHeartbeats 1000000 in
theorem zc_mna (hexec : p.tables.exec = Jvm.exec) (hb : c.code = cc) {own : String} {index : Nat} (hown : s.vm.findClass own = some m.cls) (hclink : (Cond.classLink own index "[[I").before args s = true) (hover : (Cond.arrayOver (.array .int)).before args s = true) (harr : (Cond.arrayClass .int).before args s = true)
    (hK : va_K D cl (zm_tys dA) s) (hP : va_P D cl ws H) (hD : va_D A ws) (hS : va_S A H0 H locs) (hA : ∀ q, H0.size ≤ q → A q) {n k : Int32} {N' K' : Nat} (hn : ¬ n < 0) (hk : ¬ k < 0) (hN : n.toNatClampNeg = N') (hM : k.toNatClampNeg = K')
    (hb1 : N' * 4 ≤ 536870912) (hb2 : K' * 4 ≤ 536870912) (hcells : cells + (1 + N') ≤ R.cells) (hslots : slots + (N' + N' * K') ≤ R.slots) (hdg : decode cc pc = .ok (.multianewarray index 2, 4))
    (kk : ∀ (q : Nat) (H1 : Heap), va_P D cl (ws ++ (List.range (N' + 1)).map (fun i => (q + i, if i = 0 then .inl (dA 2, N', .inr (.inr (.inr (.inr (fun j => if j < N' then some (q + 1 + j) else none))))) else .inl (dA 0, K', .inl (fun _ => 0))))) H1 → va_D A (ws ++ (List.range (N' + 1)).map (fun i => (q + i, if i = 0 then .inl (dA 2, N', .inr (.inr (.inr (.inr (fun j => if j < N' then some (q + 1 + j) else none))))) else .inl (dA 0, K', .inl (fun _ => 0))))) → va_S A H0 H1 locs →
      W p l e R s m args below meth c H1 locs (cells + 1 + N') (slots + N' + N' * K') Q (F0 m (pc + 4) ls (.ref q :: rest))) : W p l e R s m args below meth c H locs cells slots Q (F0 m pc ls (.int k :: .int n :: rest)) := by
  subst hN
  subst hM
  intro T hT Xs
  obtain ⟨vm₁, cA, comp, fA, fC, X', step⟩ := zq_step Xs hexec hown hclink hover harr (g := F0 m pc ls (.int k :: .int n :: rest)) rfl (by rw [hb]; exact hdg) rfl hn hk hb1 hb2 hcells hslots
  have e1 : cA = dA 2 := Option.some.inj (fA.symm.trans (show s.vm.findClass ("[" ++ (FieldType.array .int).toString) = some (dA 2) from (hK.2 2 _ rfl).2))
  have e2 : comp = dA 0 := Option.some.inj (fC.symm.trans (show s.vm.findClass ("[" ++ FieldType.int.toString) = some (dA 0) from (hK.2 0 _ rfl).2))
  subst e1
  subst e2
  have hTh : (T.setVm vm₁).heap = H := hT
  obtain ⟨f1, f2, -, -, hold, hrow⟩ := zqS_all (dA 2) (dA 0) n.toNatClampNeg k.toNatClampNeg (T.setVm vm₁) n.toNatClampNeg
  rw [hTh] at f1 f2 hold hrow
  generalize zqS (dA 2) (dA 0) n.toNatClampNeg k.toNatClampNeg (T.setVm vm₁) n.toNatClampNeg = F at X' step f1 f2 hold hrow
  have hout : zqO (dA 2) n.toNatClampNeg H.size n.toNatClampNeg = vp_cell (dA 2) (n.toNatClampNeg, .inr (.inr (.inr (.inr (fun i => if i < n.toNatClampNeg then some (H.size + 1 + i) else none))))) := by
    rw [vp_cell_q]
    refine congrArg (arrV (dA 2) n.toNatClampNeg) (funext fun j => ?_)
    by_cases q : j < n.toNatClampNeg
    · rw [if_pos q, if_pos q]
      rfl
    · rw [if_neg q, if_neg q]
      rfl
  rw [hout] at f2
  have hP0 : va_P D cl ws F.heap := hP.kept (fun k9 x hx => hold x.1 ((hP k9 x hx).lt))
  have hA' : ∀ q, H.size ≤ q → A q := fun q h => hA q (Nat.le_trans hS.1 h)
  obtain ⟨t, a1, b1⟩ := kk H.size F.heap (hP0.app (fun k9 x hx => by
    rw [List.getElem?_map] at hx
    obtain ⟨a, ha, rfl⟩ := Option.map_eq_some_iff.mp hx
    have ha' : a < n.toNatClampNeg + 1 := List.mem_range.mp (List.mem_of_getElem? ha)
    cases a with
    | zero => exact f2
    | succ a =>
      show va_at D cl (H.size + (a + 1), _) F.heap
      rw [if_neg (by omega)]
      show F.heap[H.size + (a + 1)]? = _
      rw [show H.size + (a + 1) = H.size + 1 + a by omega]
      exact hrow a (by omega))) (zc_D_rows hP hD hA' _) ⟨by rw [f1]; have := hS.1; omega, fun x h1 h2 => (hold x (Nat.lt_of_lt_of_le h1 hS.1)).trans (hS.2.1 x h1 h2), hS.2.2⟩ F rfl X'
  refine ⟨t, step t ?_, b1⟩
  have e : T.heap.size = H.size := by rw [hT]
  rw [e]
  exact a1
end ZCR
/-- what of the tables a constructor carries along -/
def zc_V (dC : Nat → ClassId) (dI : Nat → Nat → Nat) (dA : Nat → ClassId) (U : State) : Prop := va_K (dC, dI) vwCl (zm_tys dA) U ∧ (Cond.arrayOver (.array .int)).before #[] U = true ∧
  (va_Nw (.methodLinkNest RX9 11 yX0_init "WordRace") U ∧ va_Nw (.methodLinkNest RX0 21 yX6_init "WordRace") U ∧ va_Nw (.methodLinkNest RX9 23 yX7_init "WordRace") U ∧ va_Nw (.methodLinkNest RX9 42 yX6_init "WordRace") U ∧ va_Nw (.methodLinkNest RX9 49 yX2_init "WordRace") U ∧ va_Nw (.methodLinkNest RX9 56 yX5_init "WordRace") U ∧ va_Nw (.methodLinkNest RX9 63 yX1_init "WordRace") U)
theorem zc_V.moved {dC : Nat → ClassId} {dI : Nat → Nat → Nat} {dA : Nat → ClassId} {s U : State} (h : zc_V dC dI dA s) (hW : s.WarmedH U.vm) : zc_V dC dI dA U := by
  obtain ⟨h1, h2, w1, w2, w3, w4, w5, w6, w7⟩ := h
  exact ⟨va_K.moved hW.alike h1, zq_alike hW.alike h2, va_Nw.warmM hW w1, va_Nw.warmM hW w2, va_Nw.warmM hW w3, va_Nw.warmM hW w4, va_Nw.warmM hW w5, va_Nw.warmM hW w6, va_Nw.warmM hW w7⟩
theorem zc_V.call {dC : Nat → ClassId} {dI : Nat → Nat → Nat} {dA : Nat → ClassId} {U : State} (h : zc_V dC dI dA U) (g : JFrame) (mk : MethodId) (a : Array Value) : zc_V dC dI dA (U.calling g mk a) := by
  obtain ⟨h1, h2, w1, w2, w3, w4, w5, w6, w7⟩ := h
  exact ⟨va_K.moved (u := U) (U := U.calling g mk a) (Vm.Alike.refl U.vm) h1, zq_alike (s := U) (U := U.calling g mk a) (Vm.Alike.refl U.vm) h2, va_Nw.same rfl (u := U) (U := U.calling g mk a) rfl w1, va_Nw.same rfl (u := U) (U := U.calling g mk a) rfl w2, va_Nw.same rfl (u := U) (U := U.calling g mk a) rfl w3, va_Nw.same rfl (u := U) (U := U.calling g mk a) rfl w4, va_Nw.same rfl (u := U) (U := U.calling g mk a) rfl w5, va_Nw.same rfl (u := U) (U := U.calling g mk a) rfl w6, va_Nw.same rfl (u := U) (U := U.calling g mk a) rfl w7⟩
abbrev zc_P (dC : Nat → ClassId) (dI : Nat → Nat → Nat) (dA : Nat → ClassId) (av : List Value) (sz : Nat) (ws : va_W) : Array Value → State → Prop := va_Pc av (fun U => U.heap.size = sz ∧ va_P (dC, dI) vwCl ws U.heap ∧ zc_V dC dI dA U ∧ va_D (fun _ => True) ws)
theorem zc_blind (dC : Nat → ClassId) (dI : Nat → Nat → Nat) (dA : Nat → ClassId) (av : List Value) (sz : Nat) (ws : va_W) : FrameBlind (zc_P dC dI dA av sz ws) := by
  intro a U g mk q
  obtain ⟨q0, q1, qP, qV, qD⟩ := q
  exact ⟨q0, q1, qP, qV.call g mk a, qD⟩
