/-! the contract of every method of the small machine -/
section ZMC
variable {p : Program} {l : Launch} {e : Env} {R : Room} {s : State} {m : MethodId} {args : Array Value} {below : List Frame} {meth : Method} {c : Code} {cells slots : Nat} {Q : State → Prop} {own : String} {cc : ByteArray} {nL : Nat} {rb : Bool} {sc : zm_S} {ρ : Nat → Nat} {dA : Nat → ClassId} {D : va_G} {A : Nat → Prop}
def zm_IH (ms : Nat → Option zm_M) (l : Launch) (d : Nat) : Prop :=
  ∀ (μ : Nat) (as : List Value) (h : zm_H) (r : zm_R), zm_meth ms d μ as h = some r → ∀ (own : String) (y : MethodName) (cc : ByteArray) (nL : Nat) (ret : Option FieldType) (stt : Bool) (n ci : Nat) (rb : Bool) (cuts : List Nat) (T : zm_T), ms μ = some (own, y, cc, nL, ret, stt, n, ci, rb, cuts, T) → ∀ (ρ : Nat → Nat) (dA : Nat → ClassId) (D : va_G) (sz : Nat), Met l y (Jvm.Cond.code y cc nL ret :: zm_WL) (zm_rm d) (zm_Pc ρ dA D sz as h) (zm_Qc ρ dA D sz h r) 0 0 (va_A (zm_w ρ dA h) sz)
theorem zm_goodIn {y : MethodName} {cc : ByteArray} {nL : Nat} {ret : Option FieldType} (h : Jvm.Cond.code y cc nL ret ∈ zm_WL) : GoodIn zm_WL (Jvm.Cond.code y cc nL ret :: zm_WL) := by
  intro w hw
  have hm : w ∈ zm_WL := by
    rcases List.mem_cons.mp hw with q | q
    · rw [q]; exact h
    · exact q
  exact ⟨hm, good_of_word (zm_WL_good w hm)⟩
theorem zm_toList (f : Value → Value) (v : Option Value) (t : List Value) : (v.map f).toList ++ t.map f = (v.toList ++ t).map f := by
  cases v <;> simp
theorem zm_cok_of {ms : Nat → Option zm_M} (hms : ∀ μ M, ms μ = some M → zm_mok ms M) (X : zm_Cx p R s m args c own cc nL sc ρ dA D A) {T : zm_T} (hTk : ∀ (pc : Nat) (i : zm_I), zm_look T pc = some i → decode cc pc = .ok (i.1, zm_ln i.1 i.2.1) ∧ zm_lc ms own i) {d : Nat} (hRm : d + 1 ≤ R.frames ∧ 60 * (d + 1) ≤ R.locals) (hcs : cells ≤ R.cells ∧ slots ≤ R.slots) (IH : zm_IH ms l d) : zm_cok p l e R s m args below meth c cells slots Q cc nL ρ dA D A T (zm_meth ms d) := by
  obtain ⟨hx, hb, hml, hown, hts, hK, hA, hZ, hX, hfr, hlo⟩ := X
  intro pc idx len x1 x2 x3 ps vi st ar v h h1 ls H locs hlk hne har hcat hrc hC hls hR kk
  obtain ⟨hT, hP, hD, hS⟩ := hR
  obtain ⟨hdg, hlc⟩ := hTk pc _ hlk
  obtain ⟨t, ht1, ht2, ht3⟩ := zm_args_eq x2 [] st ar har
  rw [List.append_nil] at ht3
  have hfree : ∀ q, va_A (zm_w ρ dA h) H.size q → A q := by
    intro q hq
    rcases hq with ⟨k, e, hq⟩ | hq
    · exact hD.2 k _ hq
    · exact hA q (Nat.le_trans hS.1 hq)
  have hro := hX 2000000 6 zm_ten rfl
  have hPU : ∀ U : State, U.heap = H → s.WarmedH U.vm → zm_Pc ρ dA D H.size ar.1 h (ar.1.map (zm_v ρ)).toArray U := by
    intro U hU hW
    refine ⟨rfl, by rw [hU], hT, by rw [hU]; exact hP, va_K.moved hW.alike hK, hD.weaken (fun _ _ _ _ => trivial), ?_, ?_⟩
    · rw [hU]
      exact va_Z.moved hW.alike (va_Z.narrow (va_Z.kept hZ (fun a h1 h2 => hS.2.1 a h1 h2)) hfree)
    · rw [hU]
      exact va_T.moved hW.alike (va_T.narrow (va_T.kept hro (fun a h1 h2 => hS.2.1 a h1 h2)) hfree)
  have hend : ∀ (tt : State) (H1 : Heap) (locs1 : List Loc), tt.heap = H1 → (zm_ty h1 ∧ va_P D vwCl (zm_w ρ dA h1) tt.heap ∧ va_D (va_A (zm_w ρ dA h) H.size) (zm_w ρ dA h1)) → va_S A s.heap H1 locs1 → W p l e R s m args below meth c H1 locs1 cells slots Q (F0 m (pc + 3) ls ((v.map (zm_v ρ)).toList ++ ar.2.map (zm_v ρ))) := by
    intro tt H1 locs1 e1 hB hS1
    rw [zm_toList]
    refine kk H1 locs1 ⟨hB.1, by rw [← e1]; exact hB.2.1, hB.2.2.weaken (fun _ q _ h => hfree q.1 h), hS1⟩
  cases vi with
  | false =>
    obtain ⟨own', y, cc', nL', ret, ci, rb', cuts, T', hM, hml'⟩ := hlc hne
    obtain ⟨k1, k2, k3, k4, k5, k6, k7, k8, k9, k10⟩ := hms _ _ hM
    have hMet := IH x1 ar.1 h (v, h1) hC _ _ _ _ _ _ _ _ _ _ _ hM ρ dA D H.size
    have hCB : CallB R s args own idx y cc' nL' ret (Jvm.Cond.code y cc' nL' ret :: zm_WL) (zm_rm d) 0 0 x2 := callB_of x2 hts (zm_goodIn k4) rfl rfl rfl (by rw [k1]; exact hts _ k5) (hts _ hml') ⟨by rw [k1]; exact k3.1, by rw [k1]; exact k3.2, k6⟩ ⟨hRm.1, by show 8 + (nL' + 11) + 60 * d ≤ R.locals; omega⟩
    have hrun := va_runS (p := p) (l := l) (e := e) (below := below) (meth := meth) (locs := locs) (cells := cells) (slots := slots) (g := F0 m pc ls (st.map (zm_v ρ))) (As := ar.1.map (zm_v ρ)) (rest := ar.2.map (zm_v ρ)) ⟨hx, hb, hml, hown, hts⟩ hMet ⟨hCB, hts _ (k7 rfl)⟩ ⟨zm_blind ρ dA D H.size ar.1 h, hPU⟩ rfl (by rw [List.length_map, ht3, List.length_reverse, ht1]) hls (by show st.map (zm_v ρ) = _; rw [ht2, ht3, List.map_append, List.map_reverse, List.reverse_reverse]) (by show 2 * (F0 m pc ls (st.map (zm_v ρ))).monitorRoom + _ ≤ 8; rw [show ((List.map (zm_v ρ) ar.2).map fun v => v.category).sum = (ar.2.map fun v => v.category).sum from zm_catsum ρ ar.2]; exact (Nat.zero_add _).symm ▸ hcat) hdg hcs
    exact zm_callW hrun hS (fun q _ h => hfree q h) hfree hend
  | true =>
    obtain ⟨own', y, cc', nL', ret, n, rb', cuts, T', hM, hx2, hml'⟩ := hlc
    obtain ⟨k1, k2, k3, k4, k5, k6, k7, k8, k9, k10⟩ := hms _ _ hM
    obtain ⟨k81, k82, TT, NN, k83⟩ := k8 rfl
    have hMet := IH x1 ar.1 h (v, h1) hC _ _ _ _ _ _ _ _ _ _ _ hM ρ dA D H.size
    have hrc := hrc rfl
    unfold zm_rc at hrc
    split at hrc
    · next k As hA1 =>
      have hoc := Nat.eq_of_beq_eq_true hrc
      have hlt : len < vwCl.length := (List.getElem?_eq_some_iff.mp k83).1
      have hlt8 : len < 8 := hlt
      obtain ⟨fs, hfs⟩ := hT k (by omega)
      rw [hoc] at hfs
      have hrecv := va_recv hK hP (ci := len) (q0 := zm_pos h k) k83 (zm_w_get (ρ := ρ) (dA := dA) hfs)
      have hPU2 : ∀ U : State, U.heap = H → s.WarmedH U.vm → zm_Pc ρ dA D H.size ar.1 h (Value.ref (ρ k) :: As.map (zm_v ρ)).toArray U := by
        intro U h1 h2
        have := hPU U h1 h2
        rw [hA1] at this ⊢
        exact this
      have hCB : CallB R s args own idx y cc' nL' ret (Jvm.Cond.code y cc' nL' ret :: zm_WL) (zm_rm d) 0 0 n := callB_of n hts (zm_goodIn k4) rfl rfl rfl (by rw [k1]; exact hts _ k5) (hts _ hml') ⟨by rw [k1]; exact k3.1, by rw [k1]; exact k3.2, k6⟩ ⟨hRm.1, by show 8 + (nL' + 11) + 60 * d ≤ R.locals; omega⟩
      have htr : t = As.reverse ++ [.ref k] := by
        have := congrArg List.reverse (ht3.symm.trans hA1)
        simpa using this
      have hrun := va_runV (p := p) (l := l) (e := e) (below := below) (meth := meth) (locs := locs) (cells := cells) (slots := slots) (g := F0 m pc ls (st.map (zm_v ρ))) (As := As.map (zm_v ρ)) (rest := ar.2.map (zm_v ρ)) (C := own') (b := ρ k) ⟨hx, hb, hml, hown, hts⟩ hMet ⟨hCB, hts _ k81, hts _ k82⟩ ⟨zm_blind ρ dA D H.size ar.1 h, hrecv, hPU2⟩ rfl (by
        have : ar.1.length = x2 := by rw [ht3, List.length_reverse, ht1]
        rw [hA1, hx2] at this
        rw [List.length_map]
        simpa using this) hls (by show st.map (zm_v ρ) = _; rw [ht2, htr]; simp [zm_v]) (by show 2 * (F0 m pc ls (st.map (zm_v ρ))).monitorRoom + _ ≤ 8; rw [show ((List.map (zm_v ρ) ar.2).map fun v => v.category).sum = (ar.2.map fun v => v.category).sum from zm_catsum ρ ar.2]; exact (Nat.zero_add _).symm ▸ hcat) hdg hcs
      exact zm_callW hrun hS (fun q _ h => hfree q h) hfree hend
    · cases hrc
end ZMC
set_option maxHeartbeats 1000000 in
theorem zm_met {ms : Nat → Option zm_M} (hms : ∀ μ M, ms μ = some M → zm_mok ms M) (l : Launch) : ∀ d : Nat, zm_IH ms l d := by
  intro d
  induction d with
  | zero => intro μ as h r hr; cases hr
  | succ d ih =>
    intro μ as h r hr own y cc nL ret stt n ci rb cuts T hM ρ dA D sz
    simp only [zm_meth] at hr
    rw [hM] at hr
    obtain ⟨hen, hr⟩ := zm_bif_of hr
    have hen := Nat.le_of_ble_eq_true hen
    obtain ⟨k1, k2, k3, k4, k5, k6, k7, k8, k9, k10⟩ := hms _ _ hM
    refine Met.ofW (cc := cc) (maxL := nL) (ret := ret) (by rw [k1]; exact k2) rfl ?_
    intro p e s m args below meth c s₁ B hml hv
    obtain ⟨rfl, hsz, hT, hP, hK, hD0, z1, z2⟩ := hv
    subst hsz
    have hx := B.exec
    have hb := B.bytes
    have hrt := B.returns
    have hts0 := atoms_spec (ws := Jvm.Cond.code y cc nL ret :: zm_WL) B.pre
    have hts : ∀ w ∈ zm_WL, w.before (as.map (zm_v ρ)).toArray s = true := fun w hw => hts0 w (List.mem_cons_of_mem _ hw)
    have hown : s.vm.findClass own = some m.cls := by rw [← k1]; exact findClass_of_methodNamed B.named
    have hlocks := B.notSynchronized
    have hD := hD0.self (sz := s.heap.size)
    have hA : ∀ q : Nat, s.heap.size ≤ q → va_A (zm_w ρ dA h) s.heap.size q := fun q h => Or.inr h
    have hS : va_S (va_A (zm_w ρ dA h) s.heap.size) s.heap s.heap [] := va_S.rf
    have X : zm_Cx p (zm_rm (d + 1)) s m (as.map (zm_v ρ)).toArray c own cc nL none ρ dA D (va_A (zm_w ρ dA h) s.heap.size) := by
      refine ⟨hx, hb, hml, hown, hts, hK, hA, z1, ?_, by show 1 ≤ d + 1; omega, by show 60 ≤ 60 * (d + 1); omega⟩
      intro k n f hk
      unfold zm_ro at hk
      cases e1 : Nat.beq k 2000000 with
      | true =>
        rw [e1] at hk
        cases hk
        rw [Nat.eq_of_beq_eq_true e1]
        exact z2
      | false =>
        rw [e1] at hk
        simp at hk
    have hcok : zm_cok p l e (zm_rm (d + 1)) s m (as.map (zm_v ρ)).toArray below meth c 0 0 (MQ below (zm_Qc ρ dA D s.heap.size h r) (as.map (zm_v ρ)).toArray s 0 0 (va_A (zm_w ρ dA h) s.heap.size)) cc nL ρ dA D (va_A (zm_w ρ dA h) s.heap.size) T (zm_meth ms d) :=
      zm_cok_of hms X (fun pc i hi => ⟨(k10 pc i hi).1, (k10 pc i hi).2.2.1⟩) ⟨Nat.le_refl _, Nat.le_refl _⟩ ⟨Nat.le_refl _, Nat.le_refl _⟩ ih
    have hrok : zm_rok p l e (zm_rm (d + 1)) s m (as.map (zm_v ρ)).toArray below meth c 0 0 (MQ below (zm_Qc ρ dA D s.heap.size h r) (as.map (zm_v ρ)).toArray s 0 0 (va_A (zm_w ρ dA h) s.heap.size)) rb ρ dA D (va_A (zm_w ρ dA h) s.heap.size) T cc r := by
      intro pc i st ls H locs hlk hdg he hR
      have hle := (k10 pc i hlk).2.2.2
      obtain ⟨rT, rP, rD, rS⟩ := hR
      unfold zm_le at hle
      rcases he with ⟨e1, x, e2, rfl, e3⟩ | ⟨e1, x, e2, rfl⟩ | ⟨e1, e2, rfl⟩
      · rw [e1] at hle hdg
        rcases hle with ⟨f1, f2⟩ | ⟨f1, f2⟩
        · refine W.zret (ty := .boolean) hx hb (by rw [hrt, f2]) (by rcases e3 f1 with rfl | rfl <;> decide) (fun t ht hW => ⟨⟨by rw [e2]; rfl, rT, by rw [ht]; exact rP, rD⟩, rS.F ht⟩) rS.2.2 hdg
        · refine W.iret hx hb (by rw [hrt, f2]) (fun t ht hW => ⟨⟨by rw [e2]; rfl, rT, by rw [ht]; exact rP, rD⟩, rS.F ht⟩) rS.2.2 hdg
      · rw [e1] at hle hdg
        refine W.lret hx hb (by rw [hrt]; exact hle) (fun t ht hW => ⟨⟨by rw [e2]; rfl, rT, by rw [ht]; exact rP, rD⟩, rS.F ht⟩) rS.2.2 hdg
      · rw [e1] at hle hdg
        refine W.vret hx hb (by rw [hrt]; exact hle) (fun t ht hW => ⟨⟨by rw [e2]; rfl, rT, by rw [ht]; exact rP, rD⟩, rS.F ht⟩) rS.2.2 hdg
    have hTT : ∀ (pc : Nat) (i : zm_I), zm_look T pc = some i → decode cc pc = .ok (i.1, zm_ln i.1 i.2.1) ∧ zm_lk own pc i := fun pc i hi => ⟨(k10 pc i hi).1, (k10 pc i hi).2.1⟩
    rw [lg_entry_eq]
    exact zm_blk_sound X ⟨Nat.le_refl _, Nat.le_refl _⟩ hTT hcok hrok (fun pc lv st h ls H locs => zm_run_sound X ⟨Nat.le_refl _, Nat.le_refl _⟩ hTT hcok hrok 10000000 pc lv st h ls H locs) 3000 0 _ [] h _ s.heap [] hr (zm_entry ρ as hen) ⟨hT, hP, hD, hS⟩
