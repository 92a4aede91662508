theorem zm_sw_of {x : Int32} {go : Nat → Option zm_R} {d : Nat} {r : zm_R} : ∀ (ps : List (Int × Nat)), zm_sw x go d ps = some r → (∃ (j : Nat) (k : Int) (t : Nat), ps[j]? = some (k, t) ∧ x.toInt = k ∧ go t = some r) ∨ ((∀ (j : Nat) (k : Int) (t : Nat), ps[j]? = some (k, t) → x.toInt ≠ k) ∧ go d = some r)
  | [], h => Or.inr ⟨fun j k t q => by simp at q, h⟩
  | (k, t) :: ps, h => by
    unfold zm_sw at h
    rcases zm_bif2 h with ⟨h1, h2⟩ | ⟨h1, h2⟩
    · exact Or.inl ⟨0, k, t, rfl, of_decide_eq_true h1, h2⟩
    · rcases zm_sw_of ps h2 with ⟨j, k2, t2, a, b, c⟩ | ⟨a, b⟩
      · exact Or.inl ⟨j + 1, k2, t2, by simpa using a, b, c⟩
      · refine Or.inr ⟨fun j k2 t2 q => ?_, b⟩
        cases j with
        | zero =>
          simp only [List.getElem?_cons_zero, Option.some.injEq, Prod.mk.injEq] at q
          rw [← q.1]
          exact of_decide_eq_false h1
        | succ j => exact a j k2 t2 (by simpa using q)
theorem zm_tab_of {pc : Nat} {dflt lo hi : Int} {offs : List Int} {d : Nat} {ps : List (Int × Nat)} (h : zm_tab pc dflt lo hi offs d ps) {x : Int32} (hn : ∀ (j : Nat) (k : Int) (t : Nat), ps[j]? = some (k, t) → x.toInt ≠ k) : x.toInt < lo ∨ hi < x.toInt := by
  obtain ⟨-, h1, h2, h3⟩ := h
  rcases Int.lt_or_le x.toInt lo with q | q
  · exact Or.inl q
  · right
    rcases Int.lt_or_le hi x.toInt with q2 | q2
    · exact q2
    · exfalso
      have hj : (x.toInt - lo).toNat < ps.length := by omega
      rcases hp : ps[(x.toInt - lo).toNat] with ⟨k, t⟩
      have hq : ps[(x.toInt - lo).toNat]? = some (k, t) := by rw [List.getElem?_eq_getElem hj, hp]
      have := (h3 _ _ _ hq).1
      exact hn _ _ _ hq (by omega)
theorem zm_look_off {pc : Nat} {x : Int} : ∀ (prs : List (Int × Int)) (ps : List (Int × Nat)), ps.map (fun q => (q.1, (q.2 : Int))) = prs.map (fun q => (q.1, (pc : Int) + q.2)) → ∀ (dflt : Int) (go : Nat → Option zm_R) (d : Nat) (r : zm_R) (y : Int32), y.toInt = x → (pc : Int) + dflt = (d : Int) → zm_sw y go d ps = some r → ∃ t : Nat, (pc : Int) + Op.lookupswitch.offset prs dflt x = (t : Int) ∧ go t = some r
  | [], [], _, dflt, go, d, r, y, hy, hd, h => ⟨d, by rw [Op.lookupswitch.offset_nil]; exact hd, h⟩
  | [], _ :: _, hm, _, _, _, _, _, _, _, _ => by simp at hm
  | _ :: _, [], hm, _, _, _, _, _, _, _, _ => by simp at hm
  | (a, o) :: prs, (k, t) :: ps, hm, dflt, go, d, r, y, hy, hd, h => by
    simp only [List.map_cons, List.cons.injEq, Prod.mk.injEq] at hm
    unfold zm_sw at h
    rw [Op.lookupswitch.offset_cons]
    rcases zm_bif2 h with ⟨h1, h2⟩ | ⟨h1, h2⟩
    · have e := of_decide_eq_true h1
      refine ⟨t, ?_, h2⟩
      rw [if_pos (by rw [← hy, e, hm.1.1])]
      exact hm.1.2.symm
    · have e := of_decide_eq_false h1
      obtain ⟨t2, g1, g2⟩ := zm_look_off prs ps hm.2 dflt go d r y hy hd h2
      refine ⟨t2, ?_, g2⟩
      rw [if_neg (by rw [← hy, ← hm.1.1]; exact fun q => e q.symm)]
      exact g1
theorem zm_catsum (ρ : Nat → Nat) (st : List Value) : ((st.map (zm_v ρ)).map fun v => v.category).sum = (st.map fun v => v.category).sum := by
  rw [List.map_map]
  congr 1
  exact List.map_congr_left fun v _ => zm_cat ρ v
section ZMS
variable {p : Program} {l : Launch} {e : Env} {R : Room} {s : State} {m : MethodId} {args : Array Value} {below : List Frame} {meth : Method} {c : Code} {cells slots : Nat} {Q : State → Prop} {own : String} {cc : ByteArray} {nL : Nat} {rb : Bool} {sc : zm_S} {ρ : Nat → Nat} {dA : Nat → ClassId} {D : va_G} {A : Nat → Prop} {C : zm_C} {G : zm_G} {r : zm_R}
/-- how a body may end -/
def zm_end (rb : Bool) (ins : Instr) (v : Option Value) (st : List Value) : Prop :=
  (ins = .ireturn ∧ ∃ x : Int32, v = some (.int x) ∧ st = [.int x] ∧ (rb = true → x = 0 ∨ x = 1)) ∨ (ins = .lreturn ∧ ∃ x : Int64, v = some (.long x) ∧ st = [.long x]) ∨ (ins = .return_ ∧ v = none ∧ st = [])
theorem zm_01_of {x : Int32} (h : zm_01 x = true) : x = 0 ∨ x = 1 := by
  unfold zm_01 at h
  simpa using h
set_option maxHeartbeats 4000000 in
set_option maxRecDepth 100000 in
theorem zm_do_sound (X : zm_Cx p R s m args c own cc nL sc ρ dA D A) (hcs : cells ≤ R.cells ∧ slots ≤ R.slots) {i : zm_I} {pc : Nat} {lv : zm_L} {st : List Value} {h : zm_H} (hdg : decode cc pc = .ok (i.1, zm_ln i.1 i.2.1)) (hk : zm_lk own pc i) (hd : zm_do rb sc C G i pc lv st h = some r)
    (hCall : ∀ (idx x1 x2 x3 : Nat) (len : Nat) (ps : List (Int × Nat)) (vi : Bool) (ar : List Value × List Value) (v : Option Value) (h1 : zm_H) (ls : Array Slot) (H : Heap) (locs : List Loc), i = ((if vi then Instr.invokevirtual idx else Instr.invokestatic idx), len, x1, x2, x3, ps) → x1 < 9990 → zm_args x2 [] st = some ar → (ar.2.map fun v => v.category).sum ≤ 8 → (vi = true → zm_rc ar.1 len = true) → C x1 ar.1 h = some (v, h1) → zm_has ρ ls nL lv → zm_Rl s ρ dA D A h H locs →
      (∀ (H1 : Heap) (locs1 : List Loc), zm_Rl s ρ dA D A h1 H1 locs1 → W p l e R s m args below meth c H1 locs1 cells slots Q (F0 m (pc + 3) ls ((v.toList ++ ar.2).map (zm_v ρ)))) → W p l e R s m args below meth c H locs cells slots Q (F0 m pc ls (st.map (zm_v ρ))))
    (hret : ∀ (ins : Instr) (st : List Value) (ls : Array Slot) (H : Heap) (locs : List Loc), decode cc pc = .ok (ins, 1) → zm_end rb ins r.1 st → zm_Rl s ρ dA D A r.2 H locs → W p l e R s m args below meth c H locs cells slots Q (F0 m pc ls st))
    (hG : ∀ (pc : Nat) (lv : zm_L) (st : List Value) (h : zm_H) (ls : Array Slot) (H : Heap) (locs : List Loc), G pc lv st h = some r → zm_has ρ ls nL lv → zm_Rl s ρ dA D A h H locs → W p l e R s m args below meth c H locs cells slots Q (F0 m pc ls (st.map (zm_v ρ))))
    {ls : Array Slot} {H : Heap} {locs : List Loc} (hl : zm_has ρ ls nL lv) (hR : zm_Rl s ρ dA D A h H locs) : W p l e R s m args below meth c H locs cells slots Q (F0 m pc ls (st.map (zm_v ρ))) := by
  obtain ⟨hx, hb, hml, hown, hts, hK, hA, hZ, hX, hfr, hlo⟩ := X
  have hlv := zm_has_lv hl
  have hll := hl.2.1
  have hRr := hR
  obtain ⟨hT, hP, hD, hS⟩ := hRr
  obtain ⟨ins, len, x1, x2, x3, ps⟩ := i
  cases ins
  case iconst n => exact lv_iconst hx hb hdg rfl (hG _ _ _ _ _ _ _ hd hl hR)
  case bipush n => exact lv_bipush hx hb hdg rfl (hG _ _ _ _ _ _ _ hd hl hR)
  case sipush n => exact lv_sipush hx hb hdg rfl (hG _ _ _ _ _ _ _ hd hl hR)
  case lconst n => exact lv_lconst hx hb hdg rfl (hG _ _ _ _ _ _ _ hd hl hR)
  case ldc idx =>
    obtain ⟨q, h1, h2⟩ := zm_ov_of hd
    exact lv_ldc hx hb hown (hts _ (hk q h1)) hdg (hG _ _ _ _ _ _ _ h2 hl hR)
  case ldc_w idx =>
    obtain ⟨q, h1, h2⟩ := zm_ov_of hd
    exact lv_ldcw hx hb hown (hts _ (hk q h1)) hdg (hG _ _ _ _ _ _ _ h2 hl hR)
  case ldc2_w idx =>
    obtain ⟨q, h1, h2⟩ := zm_ov_of hd
    exact lv_ldc2 hx hb hown (hts _ (hk q h1)) hdg (hG _ _ _ _ _ _ _ h2 hl hR)
  case iload_n k =>
    obtain ⟨x, h1, h2⟩ := zm_iload_of hd
    exact lv_iload_n hx hb hdg rfl (hl.2.2.2 _ _ h1) (hG _ _ _ _ _ _ _ h2 hl hR)
  case iload k =>
    obtain ⟨x, h1, h2⟩ := zm_iload_of hd
    exact lv_iload hx hb hdg (hl.2.2.2 _ _ h1) (hG _ _ _ _ _ _ _ h2 hl hR)
  case lload_n k =>
    obtain ⟨x, h1, h2⟩ := zm_lload_of hd
    exact lv_lload_n hx hb hdg rfl (hl.2.2.2 _ _ h1) (hG _ _ _ _ _ _ _ h2 hl hR)
  case lload k =>
    obtain ⟨x, h1, h2⟩ := zm_lload_of hd
    exact lv_lload hx hb hdg (hl.2.2.2 _ _ h1) (hG _ _ _ _ _ _ _ h2 hl hR)
  case aload_n k =>
    obtain ⟨x, h1, h2⟩ := zm_aload_of hd
    exact lv_aload_n hx hb hdg rfl (hl.2.2.2 _ _ h1) (hG _ _ _ _ _ _ _ h2 hl hR)
  case aload k =>
    obtain ⟨x, h1, h2⟩ := zm_aload_of hd
    exact lv_aload hx hb hdg (hl.2.2.2 _ _ h1) (hG _ _ _ _ _ _ _ h2 hl hR)
  case istore_n k =>
    obtain ⟨x, t, rfl, h1⟩ := zm_p1_of hd
    obtain ⟨h1, h2⟩ := zm_bif_of h1
    exact lv_istore_n hx hb hdg rfl hlv (by rw [← hll]; exact Nat.le_of_ble_eq_true h1) rfl (fun ls' hl' => hG _ _ _ _ _ _ _ h2 (zm_has_st1 (v := .int x) hll hl') hR)
  case istore k =>
    obtain ⟨x, t, rfl, h1⟩ := zm_p1_of hd
    obtain ⟨h1, h2⟩ := zm_bif_of h1
    exact lv_istore hx hb hdg hlv (by rw [← hll]; exact Nat.le_of_ble_eq_true h1) rfl (fun ls' hl' => hG _ _ _ _ _ _ _ h2 (zm_has_st1 (v := .int x) hll hl') hR)
  case astore_n k =>
    obtain ⟨x, t, rfl, h1⟩ := zm_a1_of hd
    obtain ⟨h1, h2⟩ := zm_bif_of h1
    exact lv_astore_n hx hb hdg rfl hlv (by rw [← hll]; exact Nat.le_of_ble_eq_true h1) rfl (fun ls' hl' => hG _ _ _ _ _ _ _ h2 (zm_has_st1 (v := .ref x) hll hl') hR)
  case astore k =>
    obtain ⟨x, t, rfl, h1⟩ := zm_a1_of hd
    obtain ⟨h1, h2⟩ := zm_bif_of h1
    exact lv_astore hx hb hdg hlv (by rw [← hll]; exact Nat.le_of_ble_eq_true h1) rfl (fun ls' hl' => hG _ _ _ _ _ _ _ h2 (zm_has_st1 (v := .ref x) hll hl') hR)
  case lstore_n k =>
    obtain ⟨x, t, rfl, h1⟩ := zm_q1_of hd
    obtain ⟨h1, h2⟩ := zm_bif_of h1
    exact lv_lstore_n hx hb hdg rfl hlv (by rw [← hll]; exact Nat.le_of_ble_eq_true h1) rfl (fun ls' hl' => hG _ _ _ _ _ _ _ h2 (zm_has_st2 (v := .long x) hll hl') hR)
  case lstore k =>
    obtain ⟨x, t, rfl, h1⟩ := zm_q1_of hd
    obtain ⟨h1, h2⟩ := zm_bif_of h1
    exact lv_lstore hx hb hdg hlv (by rw [← hll]; exact Nat.le_of_ble_eq_true h1) rfl (fun ls' hl' => hG _ _ _ _ _ _ _ h2 (zm_has_st2 (v := .long x) hll hl') hR)
  case iinc k n =>
    obtain ⟨x, h0, h1⟩ := zm_iload_of hd
    obtain ⟨h1, h2⟩ := zm_bif_of h1
    have hm : (k, Value.int x) ∈ zm_as ρ lv := zm_as_mem.mpr ⟨.int x, h0, rfl⟩
    obtain ⟨j, hj⟩ := List.getElem?_of_mem hm
    exact lv_iinc hx hb hdg hlv hj rfl (by rw [← hll]; exact Nat.le_of_ble_eq_true h1) rfl (fun ls' hl' => hG _ _ _ _ _ _ _ h2 (zm_has_st1 (v := .int (x + Int32.ofInt n)) hll hl') hR)
  case iadd => obtain ⟨x, y, t, rfl, h1⟩ := zm_p2_of hd; exact lv_iadd hx hb hdg (hG _ _ _ _ _ _ _ h1 hl hR)
  case isub => obtain ⟨x, y, t, rfl, h1⟩ := zm_p2_of hd; exact lv_isub hx hb hdg (hG _ _ _ _ _ _ _ h1 hl hR)
  case imul => obtain ⟨x, y, t, rfl, h1⟩ := zm_p2_of hd; exact lv_imul hx hb hdg (hG _ _ _ _ _ _ _ h1 hl hR)
  case iand => obtain ⟨x, y, t, rfl, h1⟩ := zm_p2_of hd; exact lv_iand hx hb hdg (hG _ _ _ _ _ _ _ h1 hl hR)
  case ior => obtain ⟨x, y, t, rfl, h1⟩ := zm_p2_of hd; exact lv_ior hx hb hdg (hG _ _ _ _ _ _ _ h1 hl hR)
  case ixor => obtain ⟨x, y, t, rfl, h1⟩ := zm_p2_of hd; exact lv_ixor hx hb hdg (hG _ _ _ _ _ _ _ h1 hl hR)
  case idiv =>
    obtain ⟨x, y, t, rfl, h1⟩ := zm_p2_of hd
    obtain ⟨h1, h2⟩ := zm_bnf_of h1
    exact lv_idiv hx hb hdg (of_decide_eq_false h1) (hG _ _ _ _ _ _ _ h2 hl hR)
  case irem =>
    obtain ⟨x, y, t, rfl, h1⟩ := zm_p2_of hd
    obtain ⟨h1, h2⟩ := zm_bnf_of h1
    exact lv_irem hx hb hdg (of_decide_eq_false h1) (hG _ _ _ _ _ _ _ h2 hl hR)
  case ineg => obtain ⟨x, t, rfl, h1⟩ := zm_p1_of hd; exact lv_ineg hx hb hdg (hG _ _ _ _ _ _ _ h1 hl hR)
  case ishl => obtain ⟨x, y, t, rfl, h1⟩ := zm_p2_of hd; exact lv_ishl hx hb hdg (hG _ _ _ _ _ _ _ h1 hl hR)
  case ishr => obtain ⟨x, y, t, rfl, h1⟩ := zm_p2_of hd; exact lv_ishr hx hb hdg (hG _ _ _ _ _ _ _ h1 hl hR)
  case iushr => obtain ⟨x, y, t, rfl, h1⟩ := zm_p2_of hd; exact lv_iushr hx hb hdg rfl (hG _ _ _ _ _ _ _ h1 hl hR)
  case ladd => obtain ⟨x, y, t, rfl, h1⟩ := zm_q2_of hd; exact lv_ladd hx hb hdg (hG _ _ _ _ _ _ _ h1 hl hR)
  case lsub => obtain ⟨x, y, t, rfl, h1⟩ := zm_q2_of hd; exact lv_lsub hx hb hdg (hG _ _ _ _ _ _ _ h1 hl hR)
  case lmul => obtain ⟨x, y, t, rfl, h1⟩ := zm_q2_of hd; exact lv_lmul hx hb hdg (hG _ _ _ _ _ _ _ h1 hl hR)
  case land => obtain ⟨x, y, t, rfl, h1⟩ := zm_q2_of hd; exact lv_land hx hb hdg (hG _ _ _ _ _ _ _ h1 hl hR)
  case lor => obtain ⟨x, y, t, rfl, h1⟩ := zm_q2_of hd; exact lv_lor hx hb hdg (hG _ _ _ _ _ _ _ h1 hl hR)
  case ldiv =>
    obtain ⟨x, y, t, rfl, h1⟩ := zm_q2_of hd
    obtain ⟨h1, h2⟩ := zm_bnf_of h1
    exact lv_ldiv hx hb hdg (of_decide_eq_false h1) (hG _ _ _ _ _ _ _ h2 hl hR)
  case lrem =>
    obtain ⟨x, y, t, rfl, h1⟩ := zm_q2_of hd
    obtain ⟨h1, h2⟩ := zm_bnf_of h1
    exact lv_lrem hx hb hdg (of_decide_eq_false h1) (hG _ _ _ _ _ _ _ h2 hl hR)
  case lneg => obtain ⟨x, t, rfl, h1⟩ := zm_q1_of hd; exact lv_lneg hx hb hdg (hG _ _ _ _ _ _ _ h1 hl hR)
  case lshl => obtain ⟨x, y, t, rfl, h1⟩ := zm_qs_of hd; exact lv_lshl hx hb hdg rfl (hG _ _ _ _ _ _ _ h1 hl hR)
  case lushr => obtain ⟨x, y, t, rfl, h1⟩ := zm_qs_of hd; exact lv_lushr hx hb hdg rfl (hG _ _ _ _ _ _ _ h1 hl hR)
  case lcmp => obtain ⟨x, y, t, rfl, h1⟩ := zm_q2_of hd; exact W.lcmp hx hb hdg (hG _ _ _ _ _ _ _ h1 hl hR)
  case i2l => obtain ⟨x, t, rfl, h1⟩ := zm_p1_of hd; exact lv_i2l hx hb hdg rfl (hG _ _ _ _ _ _ _ h1 hl hR)
  case l2i => obtain ⟨x, t, rfl, h1⟩ := zm_q1_of hd; exact lv_l2i hx hb hdg rfl (hG _ _ _ _ _ _ _ h1 hl hR)
  case dup =>
    cases st with
    | nil => cases hd
    | cons a t =>
      obtain ⟨h1, h2⟩ := zm_bif_of hd
      exact lv_dup hx hb hdg (by rw [zm_cat]; exact Nat.eq_of_beq_eq_true h1) (hG _ _ _ _ _ _ _ h2 hl hR)
  case pop =>
    cases st with
    | nil => cases hd
    | cons a t =>
      obtain ⟨h1, h2⟩ := zm_bif_of hd
      exact lv_pop hx hb hdg (by rw [zm_cat]; exact Nat.eq_of_beq_eq_true h1) (hG _ _ _ _ _ _ _ h2 hl hR)
  case dup_x1 =>
    rcases st with - | ⟨a, - | ⟨b, t⟩⟩
    · cases hd
    · cases hd
    · obtain ⟨h1, h2⟩ := zm_bif_of hd
      obtain ⟨h1, h3⟩ := Bool.and_eq_true_iff.mp h1
      exact lv_dup_x1 hx hb hdg (by rw [zm_cat]; exact Nat.eq_of_beq_eq_true h1) (by rw [zm_cat]; exact Nat.eq_of_beq_eq_true h3) (hG _ _ _ _ _ _ _ h2 hl hR)
  case dup2 =>
    rcases st with - | ⟨a, - | ⟨b, t⟩⟩
    · cases hd
    · cases hd
    · obtain ⟨h1, h2⟩ := zm_bif_of hd
      obtain ⟨h1, h3⟩ := Bool.and_eq_true_iff.mp h1
      exact lv_dup2_11 hx hb hdg (by rw [zm_cat]; exact Nat.eq_of_beq_eq_true h1) (by rw [zm_cat]; exact Nat.eq_of_beq_eq_true h3) (hG _ _ _ _ _ _ _ h2 hl hR)
  case if_icmp cd off =>
    obtain ⟨x, y, t, rfl, h1⟩ := zm_p2_of hd
    rcases zm_bif2 h1 with ⟨h1, h2⟩ | ⟨h1, h2⟩
    · have kk := hG _ _ _ _ _ _ _ h2 hl hR
      cases cd
      · exact lv_icmp_eq hx hb hdg hk (fun _ => kk) (fun q => absurd (of_decide_eq_true h1) q)
      · exact lv_icmp_ne hx hb hdg hk (fun _ => kk) (fun q => absurd q (of_decide_eq_true h1))
      · exact lv_icmp_lt hx hb hdg hk (fun _ => kk) (fun q => absurd (of_decide_eq_true h1) q)
      · exact lv_icmp_ge hx hb hdg hk (fun _ => kk) (fun q => absurd (of_decide_eq_true h1) q)
      · exact lv_icmp_gt hx hb hdg hk (fun _ => kk) (fun q => absurd (of_decide_eq_true h1) q)
      · exact lv_icmp_le hx hb hdg hk (fun _ => kk) (fun q => absurd (of_decide_eq_true h1) q)
    · have kk := hG _ _ _ _ _ _ _ h2 hl hR
      cases cd
      · exact lv_icmp_eq hx hb hdg hk (fun q => absurd q (of_decide_eq_false h1)) (fun _ => kk)
      · exact lv_icmp_ne hx hb hdg hk (fun q => absurd q (of_decide_eq_false h1)) (fun _ => kk)
      · exact lv_icmp_lt hx hb hdg hk (fun q => absurd q (of_decide_eq_false h1)) (fun _ => kk)
      · exact lv_icmp_ge hx hb hdg hk (fun q => absurd q (of_decide_eq_false h1)) (fun _ => kk)
      · exact lv_icmp_gt hx hb hdg hk (fun q => absurd q (of_decide_eq_false h1)) (fun _ => kk)
      · exact lv_icmp_le hx hb hdg hk (fun q => absurd q (of_decide_eq_false h1)) (fun _ => kk)
  case ifCond cd off =>
    obtain ⟨x, t, rfl, h1⟩ := zm_p1_of hd
    rcases zm_bif2 h1 with ⟨h1, h2⟩ | ⟨h1, h2⟩
    · have kk := hG _ _ _ _ _ _ _ h2 hl hR
      cases cd
      · exact lv_if_eq hx hb hdg hk (fun _ => kk) (fun q => absurd (of_decide_eq_true h1) q)
      · exact lv_if_ne hx hb hdg hk (fun _ => kk) (fun q => absurd q (of_decide_eq_true h1))
      · exact lv_if_lt hx hb hdg hk (fun _ => kk) (fun q => absurd (of_decide_eq_true h1) q)
      · exact lv_if_ge hx hb hdg hk (fun _ => kk) (fun q => absurd (of_decide_eq_true h1) q)
      · exact lv_if_gt hx hb hdg hk (fun _ => kk) (fun q => absurd (of_decide_eq_true h1) q)
      · exact lv_if_le hx hb hdg hk (fun _ => kk) (fun q => absurd (of_decide_eq_true h1) q)
    · have kk := hG _ _ _ _ _ _ _ h2 hl hR
      cases cd
      · exact lv_if_eq hx hb hdg hk (fun q => absurd q (of_decide_eq_false h1)) (fun _ => kk)
      · exact lv_if_ne hx hb hdg hk (fun q => absurd q (of_decide_eq_false h1)) (fun _ => kk)
      · exact lv_if_lt hx hb hdg hk (fun q => absurd q (of_decide_eq_false h1)) (fun _ => kk)
      · exact lv_if_ge hx hb hdg hk (fun q => absurd q (of_decide_eq_false h1)) (fun _ => kk)
      · exact lv_if_gt hx hb hdg hk (fun q => absurd q (of_decide_eq_false h1)) (fun _ => kk)
      · exact lv_if_le hx hb hdg hk (fun q => absurd q (of_decide_eq_false h1)) (fun _ => kk)
  case goto off => exact lv_goto hx hb hdg hk (hG _ _ _ _ _ _ _ hd hl hR)
  case tableswitch d lo hi offs =>
    obtain ⟨x, t, rfl, h1⟩ := zm_p1_of hd
    rcases zm_sw_of ps h1 with ⟨j, k, tg, a1, a2, a3⟩ | ⟨a1, a2⟩
    · obtain ⟨-, b1, b2, b3⟩ := id hk
      obtain ⟨c1, off, c2, c3⟩ := b3 j k tg a1
      have hj : j < offs.toList.length := (List.getElem?_eq_some_iff.mp c2).1
      refine lv_tableIn (off := off) (tgt := tg) hx hb hdg (by omega) (by omega) ?_ c3 (hG _ _ _ _ _ _ _ a3 hl hR)
      rw [show (x.toInt - lo).toNat = j by omega, ← Array.getElem?_toList]
      exact c2
    · exact lv_tableOut hx hb hdg (zm_tab_of hk a1) hk.1 (hG _ _ _ _ _ _ _ a2 hl hR)
  case lookupswitch d prs =>
    obtain ⟨x, t, rfl, h1⟩ := zm_p1_of hd
    obtain ⟨tg, g1, g2⟩ := zm_look_off (pc := pc) (x := x.toInt) prs.toList ps hk.2.2 d _ x1 r x rfl hk.1 h1
    exact lv_lookup hx hb hdg hk.2.1 rfl g1 (hG _ _ _ _ _ _ _ g2 hl hR)
  case arraylength =>
    obtain ⟨a, t, rfl, h1⟩ := zm_a1_of hd
    cases hro : zm_ro sc a with
    | some nf =>
      obtain ⟨n, f⟩ := nf
      rw [hro] at h1
      obtain ⟨cell, t1, t2, t3, t4, t5, t6, t7⟩ := hX a n f hro
      have hlt := (Array.getElem?_eq_some_iff.mp t1).1
      exact W.alen (n := Int32.ofNat n) hx hb (by rw [hS.2.1 _ hlt t7]; exact t1) t2 t5 rfl rfl hdg (hG _ _ _ _ _ _ _ h1 hl hR)
    | none =>
      rw [hro] at h1
      obtain ⟨n, f, g1, g2⟩ := zm_ia_of h1
      exact va_alen hx hb hK hP _ 0 (zm_w_get g1) rfl rfl hdg (hG _ _ _ _ _ _ _ g2 hl hR)
  case iaload =>
    obtain ⟨a, i, t, rfl, h1⟩ := zm_ix_of hd
    unfold zm_ld at h1
    cases hro : zm_ro sc a with
    | some nf =>
      obtain ⟨n, f⟩ := nf
      rw [hro] at h1
      obtain ⟨h1, h2⟩ := zm_bif_of h1
      obtain ⟨cell, t1, t2, t3, t4, t5, t6, t7⟩ := hX a n f hro
      have hlt := (Array.getElem?_eq_some_iff.mp t1).1
      have hin := zm_in_of h1
      have hin' : ¬ (i < 0 ∨ n ≤ i.toNatClampNeg) := hin
      have hi : i.toNatClampNeg < n := Nat.not_le.mp fun q => hin' (Or.inr q)
      exact W.iald (v := .int (f i.toNatClampNeg)) hx hb (by rw [hS.2.1 _ hlt t7]; exact t1) t2 t3 (fun q => hin' (q.elim Or.inl (fun q => Or.inr (by omega)))) (t6 _ hi) rfl rfl hdg (hG _ _ _ _ _ _ _ h2 hl hR)
    | none =>
      rw [hro] at h1
      obtain ⟨n, f, g1, g2⟩ := zm_ia_of h1
      obtain ⟨h1, h2⟩ := zm_bif_of g2
      exact va_iald hx hb hK hP _ 0 (zm_w_get g1) rfl (zm_in_of h1) hdg (hG _ _ _ _ _ _ _ h2 hl hR)
  case laload =>
    obtain ⟨a, i, t, rfl, h1⟩ := zm_ix_of hd
    obtain ⟨n, f, g1, g2⟩ := zm_ja_of h1
    obtain ⟨h1, h2⟩ := zm_bif_of g2
    exact va_lald hx hb hK hP _ 1 (zm_w_get g1) rfl (zm_in_of h1) hdg (hG _ _ _ _ _ _ _ h2 hl hR)
  case aaload =>
    obtain ⟨a, i, t, rfl, h1⟩ := zm_ix_of hd
    obtain ⟨n, f, g1, g2⟩ := zm_aa_of h1
    obtain ⟨h1, h2⟩ := zm_bif_of g2
    obtain ⟨q, h3, h4⟩ := zm_ov_of h2
    have hin := zm_in_of h1
    have hlt : i.toNatClampNeg < n := Nat.not_le.mp fun q => hin (Or.inr q)
    have ha := zm_w_get (ρ := ρ) (dA := dA) g1
    exact W.aald (v := .ref (ρ q)) (ty := .array .int) hx hb (hP _ _ ha) ((hK.2 2 _ rfl).1 n (fun j => va_rf ((f j).map ρ))) rfl (fun q => by cases q) (by show ¬ (i < 0 ∨ (arrV _ _ _).slots.size ≤ _); rw [arrV_size]; exact hin) (by show (arrV (dA 2) n (fun j => va_rf ((f j).map ρ))).slots[i.toNatClampNeg]? = _; rw [arrV_read _ _ hlt, h3]; rfl) rfl rfl hdg (hG _ _ _ _ _ _ _ h4 hl hR)
  case iastore =>
    obtain ⟨a, i, x, t, rfl, h1⟩ := zm_is_of hd
    obtain ⟨n, f, g1, g2⟩ := zm_ia_of h1
    obtain ⟨h1, h2⟩ := zm_bif_of g2
    refine va_iast hx hb hK hP hD hS _ 0 (zm_w_get g1) rfl (zm_in_of h1) hdg (fun H1 locs1 hP1 hD1 hS1 => hG _ _ _ _ _ _ _ h2 hl ⟨zm_ty_arr g1 hT, ?_, ?_, hS1⟩)
    · rw [zm_w_set g1]; exact hP1
    · rw [zm_w_set g1]; exact hD1
  case lastore =>
    obtain ⟨a, i, x, t, rfl, h1⟩ := zm_js_of hd
    obtain ⟨n, f, g1, g2⟩ := zm_ja_of h1
    obtain ⟨h1, h2⟩ := zm_bif_of g2
    refine va_last hx hb hK hP hD hS _ 1 (zm_w_get g1) rfl (zm_in_of h1) hdg (fun H1 locs1 hP1 hD1 hS1 => hG _ _ _ _ _ _ _ h2 hl ⟨zm_ty_arr g1 hT, ?_, ?_, hS1⟩)
    · rw [zm_w_set g1]; exact hP1
    · rw [zm_w_set g1]; exact hD1
  case getfield idx =>
    obtain ⟨a, t, rfl, h1⟩ := zm_a1_of hd
    obtain ⟨fs, g1, g2⟩ := zm_ob_of h1
    obtain ⟨v, h3, h4⟩ := zm_ov_of g2
    obtain ⟨Cn, Tn, N, k1, k2, k3, k4⟩ := hk
    exact va_get hx hb hts k3 hown hK hP _ (zm_w_get g1) k1 x2 k2 (hts _ k4) (fun _ h9 => h9) (by rw [List.getElem?_map, h3]; rfl) hdg (hG _ _ _ _ _ _ _ h4 hl hR)
  case putfield idx =>
    obtain ⟨a, x, t, rfl, h1⟩ := zm_ps_of hd
    obtain ⟨fs, g1, g2⟩ := zm_ob_of h1
    obtain ⟨h1, h2⟩ := zm_bif_of g2
    obtain ⟨h3, h4⟩ := Bool.and_eq_true_iff.mp h1
    obtain ⟨Cn, Tn, N, ty0, k1, k2, k3, k4, k5, k6, k7, k8⟩ := hk
    have hfit : narrow (ty0 x2) (.int x) = .int x ∧ fits (ty0 x2) (.int x) = true := by
      rcases k8 with ⟨e1, e2⟩ | ⟨e1, e2⟩
      · rw [e1]; exact ⟨rfl, rfl⟩
      · rw [e1]
        rw [e2] at h4
        rcases zm_01_of (show zm_01 x = true from h4) with rfl | rfl <;> decide
    refine va_put hx hb hts k3 ty0 k5 k6 hown hK hP hD hS _ (zm_w_get g1) k1 x2 k2 (hts _ k4) (fun _ h9 => h9) k7 (k5 x2 k2) hfit.1 hfit.2 (by rw [List.length_map]; exact Nat.le_of_ble_eq_true h3) hdg (fun H1 locs1 hP1 hD1 hS1 => hG _ _ _ _ _ _ _ h2 hl ⟨zm_ty_obj g1 hT, ?_, ?_, hS1⟩)
    · rw [zm_w_set g1]; show va_P _ _ ((zm_w ρ dA h).set _ (ρ a, .inr (x1, (fs.set x2 (.int x)).map (zm_v ρ)))) H1; rw [List.map_set]; exact hP1
    · rw [zm_w_set g1]; show va_D _ ((zm_w ρ dA h).set _ (ρ a, .inr (x1, (fs.set x2 (.int x)).map (zm_v ρ)))); rw [List.map_set]; exact hD1
  case getstatic idx => exact va_gets hx hb hZ hS hown (hts _ hk) (fun _ h9 => h9) hdg (hG _ _ _ _ _ _ _ hd hl hR)
  case invokestatic idx =>
    rcases zm_bif2 hd with ⟨e, hd⟩ | ⟨e, hd⟩
    · rcases zm_bif2 hd with ⟨e1, hd⟩ | ⟨e1, hd⟩
      · obtain ⟨a, sp, b, dp, n, t, rfl, h1⟩ := zm_cy_of hd
        obtain ⟨h0, h1⟩ := zm_bif_of h1
        obtain ⟨n0, f, g1, h1⟩ := zm_ia_of h1
        obtain ⟨n1, g, g2, h1⟩ := zm_ia_of h1
        obtain ⟨h1, h2⟩ := zm_bif_of h1
        simp only [Bool.and_eq_true, decide_eq_true_eq] at h1
        obtain ⟨⟨⟨⟨u1, u2⟩, u3⟩, u4⟩, u5⟩ := h1
        obtain ⟨w1, w2, w3, w4⟩ := hk.2.1 (Nat.eq_of_beq_eq_true e1)
        refine va_copyi hx hb (hml.trans hl.1.symm) hown (hts _ w1) (hts _ w2) (hts _ w3) (hts _ w4) hK hP hD hS _ _ 0 0 (zm_w_get g1) (zm_w_get g2) rfl rfl rfl u1 u2 u3 (Nat.le_of_ble_eq_true u4) (Nat.le_of_ble_eq_true u5) (fun _ _ => rfl) hfr ?_ hdg (fun H1 locs1 hP1 hD1 hS1 => hG _ _ _ _ _ _ _ h2 hl ⟨zm_ty_arr g2 hT, ?_, ?_, hS1⟩)
        · have := Nat.le_of_ble_eq_true h0
          have h9 : nativeFrameWords "java/lang/System" "arraycopy" 5 + 11 ≤ 52 := by decide
          rw [show ((List.map (zm_v ρ) t).map fun v => v.category).sum = (t.map fun v => v.category).sum from zm_catsum ρ t]
          omega
        · rw [zm_w_set g2]; exact hP1
        · rw [zm_w_set g2]; exact hD1
      · rcases zm_bif2 hd with ⟨e2, hd⟩ | ⟨e2, hd⟩
        · obtain ⟨x, y, t, rfl, h1⟩ := zm_p2_of hd
          obtain ⟨h0, h2⟩ := zm_bif_of h1
          have h0 := Nat.le_of_ble_eq_true h0
          obtain ⟨w1, w2, w3, w4⟩ := hk.2.2.1 (Nat.eq_of_beq_eq_true e2)
          exact va_mmin hx hb (hml.trans hl.1.symm) hown (hts _ w1) (hts _ w2) (hts _ w3) (hts _ w4) hfr (by rw [show ((List.map (zm_v ρ) t).map fun v => v.category).sum = (t.map fun v => v.category).sum from zm_catsum ρ t]; omega) hcs.1 hcs.2 hdg (hG _ _ _ _ _ _ _ h2 hl hR)
        · obtain ⟨x, y, t, rfl, h1⟩ := zm_p2_of hd
          obtain ⟨h0, h2⟩ := zm_bif_of h1
          have h0 := Nat.le_of_ble_eq_true h0
          have n1 := Nat.ne_of_beq_eq_false e1
          have n2 := Nat.ne_of_beq_eq_false e2
          have n3 := hk.1 (Nat.le_of_ble_eq_true e)
          obtain ⟨w1, w2, w3, w4⟩ := hk.2.2.2 (by omega)
          exact va_mmax hx hb (hml.trans hl.1.symm) hown (hts _ w1) (hts _ w2) (hts _ w3) (hts _ w4) hfr (by rw [show ((List.map (zm_v ρ) t).map fun v => v.category).sum = (t.map fun v => v.category).sum from zm_catsum ρ t]; omega) hcs.1 hcs.2 hdg (hG _ _ _ _ _ _ _ h2 hl hR)
    · have hne : x1 < 9990 := Nat.lt_of_not_le (fun q => by rw [Nat.ble_eq_true_of_le q] at e; cases e)
      obtain ⟨ar, h1, h2⟩ := zm_ov_of hd
      obtain ⟨h3, h2⟩ := zm_bif_of h2
      have h3 := Nat.le_of_ble_eq_true h3
      rcases zm_bif2 h2 with ⟨-, h2⟩ | ⟨-, h2⟩
      · unfold zm_c0 at h2
        split at h2
        · next h1' hC => exact hCall idx x1 x2 x3 len ps false ar none h1' ls H locs rfl hne h1 h3 (fun q => by cases q) hC hl hR (fun H1 locs1 hR1 => hG _ _ _ _ _ _ _ h2 hl hR1)
        · cases h2
      rcases zm_bif2 h2 with ⟨-, h2⟩ | ⟨-, h2⟩
      · unfold zm_c1 at h2
        split at h2
        · next x h1' hC => exact hCall idx x1 x2 x3 len ps false ar (some (.int x)) h1' ls H locs rfl hne h1 h3 (fun q => by cases q) hC hl hR (fun H1 locs1 hR1 => hG _ _ _ _ _ _ _ h2 hl hR1)
        · cases h2
      · unfold zm_c2 at h2
        split at h2
        · next x h1' hC => exact hCall idx x1 x2 x3 len ps false ar (some (.long x)) h1' ls H locs rfl hne h1 h3 (fun q => by cases q) hC hl hR (fun H1 locs1 hR1 => hG _ _ _ _ _ _ _ h2 hl hR1)
        · cases h2
  case invokevirtual idx =>
    obtain ⟨ar, h1, h2⟩ := zm_ov_of hd
    obtain ⟨h3, h2⟩ := zm_bif_of h2
    obtain ⟨h3, h4⟩ := Bool.and_eq_true_iff.mp h3
    have h3 := Nat.le_of_ble_eq_true h3
    obtain ⟨hne, h2⟩ := zm_bnf_of h2
    have hne : x1 < 9990 := Nat.lt_of_not_le (fun q => by rw [Nat.ble_eq_true_of_le q] at hne; cases hne)
    rcases zm_bif2 h2 with ⟨-, h2⟩ | ⟨-, h2⟩
    · unfold zm_c0 at h2
      split at h2
      · next h1' hC => exact hCall idx x1 x2 x3 len ps true ar none h1' ls H locs rfl hne h1 h3 (fun _ => h4) hC hl hR (fun H1 locs1 hR1 => hG _ _ _ _ _ _ _ h2 hl hR1)
      · cases h2
    rcases zm_bif2 h2 with ⟨-, h2⟩ | ⟨-, h2⟩
    · unfold zm_c1 at h2
      split at h2
      · next x h1' hC => exact hCall idx x1 x2 x3 len ps true ar (some (.int x)) h1' ls H locs rfl hne h1 h3 (fun _ => h4) hC hl hR (fun H1 locs1 hR1 => hG _ _ _ _ _ _ _ h2 hl hR1)
      · cases h2
    · unfold zm_c2 at h2
      split at h2
      · next x h1' hC => exact hCall idx x1 x2 x3 len ps true ar (some (.long x)) h1' ls H locs rfl hne h1 h3 (fun _ => h4) hC hl hR (fun H1 locs1 hR1 => hG _ _ _ _ _ _ _ h2 hl hR1)
      · cases h2
  case ireturn =>
    rcases st with - | ⟨a, - | ⟨b, t⟩⟩
    · cases hd
    · cases a
      case int x =>
        rcases zm_bif2 hd with ⟨h1, h2⟩ | ⟨h1, h2⟩
        · obtain ⟨h3, h2⟩ := zm_bif_of h2
          cases h2
          exact hret .ireturn _ _ _ _ hdg (Or.inl ⟨rfl, x, rfl, rfl, fun _ => zm_01_of h3⟩) hR
        · cases h2
          exact hret .ireturn _ _ _ _ hdg (Or.inl ⟨rfl, x, rfl, rfl, fun q => by rw [h1] at q; cases q⟩) hR
      all_goals cases hd
    · cases a <;> cases hd
  case lreturn =>
    rcases st with - | ⟨a, - | ⟨b, t⟩⟩
    · cases hd
    · cases a
      case long x =>
        cases hd
        exact hret .lreturn _ _ _ _ hdg (Or.inr (Or.inl ⟨rfl, x, rfl, rfl⟩)) hR
      all_goals cases hd
    · cases a <;> cases hd
  case return_ =>
    cases st with
    | nil =>
      cases hd
      exact hret .return_ _ _ _ _ hdg (Or.inr (Or.inr ⟨rfl, rfl, rfl⟩)) hR
    | cons a t => cases hd
  all_goals exact absurd (show (none : Option zm_R) = some r from hd) (by simp)
end ZMS
