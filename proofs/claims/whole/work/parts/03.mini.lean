/-! A SMALL MACHINE: the bytecode's own steps over a picture of the cells. A reference is the number of a cell in the picture (below 1000 the class's, from 1000 on the reference's); 2000000 is the static row TENS, 2000001 the script. Every step is a function; 'none' is what has no answer. -/
abbrev zm_E : Type := vp_A ⊕ (Nat × List Value)
abbrev zm_H : Type := List zm_E × List zm_E
abbrev zm_L : Type := List (Option Value)
abbrev zm_R : Type := Option Value × zm_H
abbrev zm_I : Type := Instr × Nat × Nat × Nat × Nat × List (Int × Nat)
abbrev zm_T : Type := List (List (Nat × zm_I))
abbrev zm_S : Type := Option (Nat × (Nat → Int32))
abbrev zm_G : Type := Nat → zm_L → List Value → zm_H → Option zm_R
abbrev zm_C : Type := Nat → List Value → zm_H → Option zm_R
def zm_get (h : zm_H) (k : Nat) : Option zm_E := bif Nat.blt k 1000 then h.1[k]? else h.2[k - 1000]?
def zm_set (h : zm_H) (k : Nat) (e : zm_E) : zm_H := bif Nat.blt k 1000 then (h.1.set k e, h.2) else (h.1, h.2.set (k - 1000) e)
def zm_ten : Nat → Int32
  | 0 => 1
  | 1 => 10
  | 2 => 100
  | 3 => 1000
  | 4 => 10000
  | 5 => 100000
  | _ => 0
def zm_ro (sc : zm_S) (k : Nat) : zm_S := bif Nat.beq k 2000000 then some (6, zm_ten) else bif Nat.beq k 2000001 then sc else none
def zm_in (i : Int32) (n : Nat) : Bool := decide (¬ (i < 0 ∨ n ≤ i.toNatClampNeg))
def zm_drop (lv : zm_L) : Nat → zm_L
  | 0 => lv
  | j + 1 => match lv[j]? with
    | some (some v) => bif Nat.beq v.category 2 then lv.set j none else lv
    | _ => lv
def zm_st1 (lv : zm_L) (i : Nat) (v : Value) : zm_L := (zm_drop lv i).set i (some v)
def zm_st2 (lv : zm_L) (i : Nat) (v : Value) : zm_L := ((zm_drop lv i).set i (some v)).set (i + 1) none
def zm_args : Nat → List Value → List Value → Option (List Value × List Value)
  | 0, acc, st => some (acc, st)
  | _ + 1, _, [] => none
  | n + 1, acc, v :: st => zm_args n (v :: acc) st
def zm_c0 (r : Option zm_R) (k : zm_H → Option zm_R) : Option zm_R := match r with
  | some (none, h) => k h
  | _ => none
def zm_c1 (r : Option zm_R) (k : Int32 → zm_H → Option zm_R) : Option zm_R := match r with
  | some (some (.int x), h) => k x h
  | _ => none
def zm_c2 (r : Option zm_R) (k : Int64 → zm_H → Option zm_R) : Option zm_R := match r with
  | some (some (.long x), h) => k x h
  | _ => none
def zm_sw (x : Int32) (go : Nat → Option zm_R) (d : Nat) : List (Int × Nat) → Option zm_R
  | [] => go d
  | (k, t) :: r => bif decide (x.toInt = k) then go t else zm_sw x go d r
def zm_icmp (c : ClassFile.Cond) (x y : Int32) : Bool := match c with
  | .eq => decide (x = y)
  | .ne => decide (¬ x = y)
  | .lt => decide (x < y)
  | .ge => decide (y ≤ x)
  | .gt => decide (y < x)
  | .le => decide (x ≤ y)
def zm_iload (lv : zm_L) (i : Nat) (k : Int32 → Option zm_R) : Option zm_R := match lv[i]? with
  | some (some (.int x)) => k x
  | _ => none
def zm_lload (lv : zm_L) (i : Nat) (k : Int64 → Option zm_R) : Option zm_R := match lv[i]? with
  | some (some (.long x)) => k x
  | _ => none
def zm_aload (lv : zm_L) (i : Nat) (k : Nat → Option zm_R) : Option zm_R := match lv[i]? with
  | some (some (.ref x)) => k x
  | _ => none
def zm_p1 (st : List Value) (k : Int32 → List Value → Option zm_R) : Option zm_R := match st with
  | .int x :: r => k x r
  | _ => none
def zm_p2 (st : List Value) (k : Int32 → Int32 → List Value → Option zm_R) : Option zm_R := match st with
  | .int y :: .int x :: r => k x y r
  | _ => none
def zm_q1 (st : List Value) (k : Int64 → List Value → Option zm_R) : Option zm_R := match st with
  | .long x :: r => k x r
  | _ => none
def zm_q2 (st : List Value) (k : Int64 → Int64 → List Value → Option zm_R) : Option zm_R := match st with
  | .long y :: .long x :: r => k x y r
  | _ => none
def zm_qs (st : List Value) (k : Int64 → Int32 → List Value → Option zm_R) : Option zm_R := match st with
  | .int y :: .long x :: r => k x y r
  | _ => none
def zm_a1 (st : List Value) (k : Nat → List Value → Option zm_R) : Option zm_R := match st with
  | .ref x :: r => k x r
  | _ => none
def zm_ix (st : List Value) (k : Nat → Int32 → List Value → Option zm_R) : Option zm_R := match st with
  | .int i :: .ref a :: r => k a i r
  | _ => none
def zm_is (st : List Value) (k : Nat → Int32 → Int32 → List Value → Option zm_R) : Option zm_R := match st with
  | .int x :: .int i :: .ref a :: r => k a i x r
  | _ => none
def zm_js (st : List Value) (k : Nat → Int32 → Int64 → List Value → Option zm_R) : Option zm_R := match st with
  | .long x :: .int i :: .ref a :: r => k a i x r
  | _ => none
def zm_ps (st : List Value) (k : Nat → Int32 → List Value → Option zm_R) : Option zm_R := match st with
  | .int x :: .ref a :: r => k a x r
  | _ => none
def zm_cy (st : List Value) (k : Nat → Int32 → Nat → Int32 → Int32 → List Value → Option zm_R) : Option zm_R := match st with
  | .int n :: .int dp :: .ref b :: .int sp :: .ref a :: r => k a sp b dp n r
  | _ => none
def zm_ia (h : zm_H) (a : Nat) (k : Nat → (Nat → Int32) → Option zm_R) : Option zm_R := match zm_get h a with
  | some (.inl (n, .inl f)) => k n f
  | _ => none
def zm_ja (h : zm_H) (a : Nat) (k : Nat → (Nat → Int64) → Option zm_R) : Option zm_R := match zm_get h a with
  | some (.inl (n, .inr (.inl f))) => k n f
  | _ => none
def zm_aa (h : zm_H) (a : Nat) (k : Nat → (Nat → Option Nat) → Option zm_R) : Option zm_R := match zm_get h a with
  | some (.inl (n, .inr (.inr (.inr (.inr f))))) => k n f
  | _ => none
def zm_ob (h : zm_H) (a ci : Nat) (k : List Value → Option zm_R) : Option zm_R := match zm_get h a with
  | some (.inr (c, fs)) => bif Nat.beq c ci then k fs else none
  | _ => none
def zm_ov {α : Type} (o : Option α) (k : α → Option zm_R) : Option zm_R := match o with
  | some v => k v
  | none => none
def zm_01 (x : Int32) : Bool := decide (x = 0) || decide (x = 1)
def zm_ld (sc : zm_S) (h : zm_H) (a : Nat) (i : Int32) (k : Int32 → Option zm_R) : Option zm_R := match zm_ro sc a with
  | some (n, f) => bif zm_in i n then k (f i.toNatClampNeg) else none
  | none => zm_ia h a fun n f => bif zm_in i n then k (f i.toNatClampNeg) else none
/-- which cells are objects, and of which class -/
def zm_oc (k : Nat) : Nat := bif Nat.beq k 0 then 6 else bif Nat.beq k 1 || Nat.beq k 9 then 0 else bif Nat.beq k 3 || (Nat.beq k 11 || Nat.beq k 27) then 4 else bif Nat.beq k 17 then 5 else bif Nat.beq k 29 then 2 else bif Nat.beq k 41 then 3 else bif Nat.beq k 44 then 1 else bif Nat.beq k 1000 then 7 else 99
def zm_rc (ar : List Value) (ci : Nat) : Bool := match ar with
  | .ref k :: _ => Nat.beq (zm_oc k) ci
  | _ => false
/-- one instruction: pc, locals, operand stack, picture; G goes on, C calls -/
def zm_do (rb : Bool) (sc : zm_S) (C : zm_C) (G : zm_G) (i : zm_I) (pc : Nat) (lv : zm_L) (st : List Value) (h : zm_H) : Option zm_R := match i with
  | (ins, len, x1, x2, x3, ps) => match ins with
    | .iconst n => G (pc + 1) lv (.int (Int32.ofInt n) :: st) h
    | .bipush n => G (pc + 2) lv (.int (Int8.ofInt n).toInt32 :: st) h
    | .sipush n => G (pc + 3) lv (.int (Int16.ofInt n).toInt32 :: st) h
    | .lconst n => G (pc + 1) lv (.long (Int64.ofNat n) :: st) h
    | .ldc _ => zm_ov ps.head? fun q => G (pc + 2) lv (.int (Int32.ofInt q.1) :: st) h
    | .ldc_w _ => zm_ov ps.head? fun q => G (pc + 3) lv (.int (Int32.ofInt q.1) :: st) h
    | .ldc2_w _ => zm_ov ps.head? fun q => G (pc + 3) lv (.long (Int64.ofInt q.1) :: st) h
    | .iload_n k => zm_iload lv k fun x => G (pc + 1) lv (.int x :: st) h
    | .iload k => zm_iload lv k fun x => G (pc + 2) lv (.int x :: st) h
    | .lload_n k => zm_lload lv k fun x => G (pc + 1) lv (.long x :: st) h
    | .lload k => zm_lload lv k fun x => G (pc + 2) lv (.long x :: st) h
    | .aload_n k => zm_aload lv k fun x => G (pc + 1) lv (.ref x :: st) h
    | .aload k => zm_aload lv k fun x => G (pc + 2) lv (.ref x :: st) h
    | .istore_n k => zm_p1 st fun x r => bif Nat.blt k lv.length then G (pc + 1) (zm_st1 lv k (.int x)) r h else none
    | .istore k => zm_p1 st fun x r => bif Nat.blt k lv.length then G (pc + 2) (zm_st1 lv k (.int x)) r h else none
    | .astore_n k => zm_a1 st fun x r => bif Nat.blt k lv.length then G (pc + 1) (zm_st1 lv k (.ref x)) r h else none
    | .astore k => zm_a1 st fun x r => bif Nat.blt k lv.length then G (pc + 2) (zm_st1 lv k (.ref x)) r h else none
    | .lstore_n k => zm_q1 st fun x r => bif Nat.blt (k + 1) lv.length then G (pc + 1) (zm_st2 lv k (.long x)) r h else none
    | .lstore k => zm_q1 st fun x r => bif Nat.blt (k + 1) lv.length then G (pc + 2) (zm_st2 lv k (.long x)) r h else none
    | .iinc k n => zm_iload lv k fun x => bif Nat.blt k lv.length then G (pc + 3) (zm_st1 lv k (.int (x + Int32.ofInt n))) st h else none
    | .iadd => zm_p2 st fun x y r => G (pc + 1) lv (.int (x + y) :: r) h
    | .isub => zm_p2 st fun x y r => G (pc + 1) lv (.int (x - y) :: r) h
    | .imul => zm_p2 st fun x y r => G (pc + 1) lv (.int (x * y) :: r) h
    | .iand => zm_p2 st fun x y r => G (pc + 1) lv (.int (x &&& y) :: r) h
    | .ior => zm_p2 st fun x y r => G (pc + 1) lv (.int (x ||| y) :: r) h
    | .ixor => zm_p2 st fun x y r => G (pc + 1) lv (.int (x ^^^ y) :: r) h
    | .idiv => zm_p2 st fun x y r => bif decide (y = 0) then none else G (pc + 1) lv (.int (x / y) :: r) h
    | .irem => zm_p2 st fun x y r => bif decide (y = 0) then none else G (pc + 1) lv (.int (x - x / y * y) :: r) h
    | .ineg => zm_p1 st fun x r => G (pc + 1) lv (.int (-x) :: r) h
    | .ishl => zm_p2 st fun x y r => G (pc + 1) lv (.int (x <<< (y &&& 31)) :: r) h
    | .ishr => zm_p2 st fun x y r => G (pc + 1) lv (.int (x >>> (y &&& 31)) :: r) h
    | .iushr => zm_p2 st fun x y r => G (pc + 1) lv (.int (x.toUInt32 >>> (y.toUInt32 &&& Int32.toUInt32 31)).toInt32 :: r) h
    | .ladd => zm_q2 st fun x y r => G (pc + 1) lv (.long (x + y) :: r) h
    | .lsub => zm_q2 st fun x y r => G (pc + 1) lv (.long (x - y) :: r) h
    | .lmul => zm_q2 st fun x y r => G (pc + 1) lv (.long (x * y) :: r) h
    | .land => zm_q2 st fun x y r => G (pc + 1) lv (.long (x &&& y) :: r) h
    | .lor => zm_q2 st fun x y r => G (pc + 1) lv (.long (x ||| y) :: r) h
    | .ldiv => zm_q2 st fun x y r => bif decide (y = 0) then none else G (pc + 1) lv (.long (x / y) :: r) h
    | .lrem => zm_q2 st fun x y r => bif decide (y = 0) then none else G (pc + 1) lv (.long (x - x / y * y) :: r) h
    | .lneg => zm_q1 st fun x r => G (pc + 1) lv (.long (-x) :: r) h
    | .lshl => zm_qs st fun x y r => G (pc + 1) lv (.long (x <<< (y.toInt64 &&& 63)) :: r) h
    | .lushr => zm_qs st fun x y r => G (pc + 1) lv (.long (x.toUInt64 >>> (y.toInt64.toUInt64 &&& Int64.toUInt64 63)).toInt64 :: r) h
    | .lcmp => zm_q2 st fun x y r => G (pc + 1) lv (.int (lg_cmp x y) :: r) h
    | .i2l => zm_p1 st fun x r => G (pc + 1) lv (.long x.toInt64 :: r) h
    | .l2i => zm_q1 st fun x r => G (pc + 1) lv (.int x.toInt32 :: r) h
    | .dup => match st with
      | a :: r => bif Nat.beq a.category 1 then G (pc + 1) lv (a :: a :: r) h else none
      | _ => none
    | .pop => match st with
      | a :: r => bif Nat.beq a.category 1 then G (pc + 1) lv r h else none
      | _ => none
    | .dup_x1 => match st with
      | a :: b :: r => bif Nat.beq a.category 1 && Nat.beq b.category 1 then G (pc + 1) lv (a :: b :: a :: r) h else none
      | _ => none
    | .dup2 => match st with
      | a :: b :: r => bif Nat.beq a.category 1 && Nat.beq b.category 1 then G (pc + 1) lv (a :: b :: a :: b :: r) h else none
      | _ => none
    | .if_icmp c _ => zm_p2 st fun x y r => bif zm_icmp c x y then G x1 lv r h else G (pc + 3) lv r h
    | .ifCond c _ => zm_p1 st fun x r => bif zm_icmp c x 0 then G x1 lv r h else G (pc + 3) lv r h
    | .goto _ => G x1 lv st h
    | .tableswitch _ _ _ _ => zm_p1 st fun x r => zm_sw x (fun t => G t lv r h) x1 ps
    | .lookupswitch _ _ => zm_p1 st fun x r => zm_sw x (fun t => G t lv r h) x1 ps
    | .arraylength => zm_a1 st fun a r => match zm_ro sc a with
      | some (n, _) => G (pc + 1) lv (.int (Int32.ofNat n) :: r) h
      | none => zm_ia h a fun n _ => G (pc + 1) lv (.int (Int32.ofNat n) :: r) h
    | .iaload => zm_ix st fun a i r => zm_ld sc h a i fun v => G (pc + 1) lv (.int v :: r) h
    | .laload => zm_ix st fun a i r => zm_ja h a fun n f => bif zm_in i n then G (pc + 1) lv (.long (f i.toNatClampNeg) :: r) h else none
    | .aaload => zm_ix st fun a i r => zm_aa h a fun n f => bif zm_in i n then zm_ov (f i.toNatClampNeg) fun q => G (pc + 1) lv (.ref q :: r) h else none
    | .iastore => zm_is st fun a i x r => zm_ia h a fun n f => bif zm_in i n then G (pc + 1) lv r (zm_set h a (.inl (n, .inl (upd f i.toNatClampNeg x)))) else none
    | .lastore => zm_js st fun a i x r => zm_ja h a fun n f => bif zm_in i n then G (pc + 1) lv r (zm_set h a (.inl (n, .inr (.inl (vp_updL f i.toNatClampNeg x))))) else none
    | .getfield _ => zm_a1 st fun a r => zm_ob h a x1 fun fs => zm_ov fs[x2]? fun v => G (pc + 3) lv (v :: r) h
    | .putfield _ => zm_ps st fun a x r => zm_ob h a x1 fun fs => bif Nat.blt x2 fs.length && (Nat.beq x3 0 || zm_01 x) then G (pc + 3) lv r (zm_set h a (.inr (x1, fs.set x2 (.int x)))) else none
    | .getstatic _ => G (pc + 3) lv (.ref 2000000 :: st) h
    | .invokestatic _ => bif Nat.ble 9990 x1 then (bif Nat.beq x1 9999 then zm_cy st fun a sp b dp n r => bif Nat.ble (r.map fun v => v.category).sum 8 then zm_ia h a fun n0 f => zm_ia h b fun n1 g => bif decide (¬ sp < 0) && decide (¬ dp < 0) && decide (¬ n < 0) && Nat.ble (sp.toNatClampNeg + n.toNatClampNeg) n0 && Nat.ble (dp.toNatClampNeg + n.toNatClampNeg) n1 then G (pc + 3) lv r (zm_set h b (.inl (n1, .inl (va_cpy f g sp.toNatClampNeg dp.toNatClampNeg n.toNatClampNeg)))) else none else none
        else bif Nat.beq x1 9998 then zm_p2 st fun x y r => bif Nat.ble (r.map fun v => v.category).sum 8 then G (pc + 3) lv (.int (if y < x then y else x) :: r) h else none
        else zm_p2 st fun x y r => bif Nat.ble (r.map fun v => v.category).sum 8 then G (pc + 3) lv (.int (if x < y then y else x) :: r) h else none)
      else zm_ov (zm_args x2 [] st) fun ar => bif Nat.ble (ar.2.map fun v => v.category).sum 8 then (bif Nat.beq x3 0 then zm_c0 (C x1 ar.1 h) fun h2 => G (pc + 3) lv ar.2 h2 else bif Nat.beq x3 1 then zm_c1 (C x1 ar.1 h) fun x h2 => G (pc + 3) lv (.int x :: ar.2) h2 else zm_c2 (C x1 ar.1 h) fun x h2 => G (pc + 3) lv (.long x :: ar.2) h2) else none
    | .invokevirtual _ => zm_ov (zm_args x2 [] st) fun ar => bif Nat.ble (ar.2.map fun v => v.category).sum 8 && zm_rc ar.1 len then (bif Nat.ble 9990 x1 then none else bif Nat.beq x3 0 then zm_c0 (C x1 ar.1 h) fun h2 => G (pc + 3) lv ar.2 h2 else bif Nat.beq x3 1 then zm_c1 (C x1 ar.1 h) fun x h2 => G (pc + 3) lv (.int x :: ar.2) h2 else zm_c2 (C x1 ar.1 h) fun x h2 => G (pc + 3) lv (.long x :: ar.2) h2) else none
    | .ireturn => match st with
      | [.int x] => bif rb then (bif zm_01 x then some (some (.int x), h) else none) else some (some (.int x), h)
      | _ => none
    | .lreturn => match st with
      | [.long x] => some (some (.long x), h)
      | _ => none
    | .return_ => match st with
      | [] => some (none, h)
      | _ => none
    | _ => none
def zm_find (pc : Nat) : List (Nat × zm_I) → Option zm_I
  | [] => none
  | (p, i) :: r => bif Nat.beq p pc then some i else zm_find pc r
def zm_look (T : zm_T) (pc : Nat) : Option zm_I := match T[pc / 16]? with
  | some l => zm_find pc l
  | none => none
def zm_cut (cuts : List Nat) (pc : Nat) : Bool := match cuts with
  | [] => false
  | q :: r => bif Nat.beq q pc then true else zm_cut r pc
/-- a stretch: from pc to the next cut (K goes on there) -/
def zm_blk (T : zm_T) (cuts : List Nat) (rb : Bool) (sc : zm_S) (C : zm_C) (K : zm_G) : Nat → zm_G
  | 0 => fun _ _ _ _ => none
  | n + 1 => fun pc lv st h => match zm_look T pc with
    | none => none
    | some i => zm_do rb sc C (fun pc lv st h => bif zm_cut cuts pc then K pc lv st h else zm_blk T cuts rb sc C K n pc lv st h) i pc lv st h
/-- from a cut on -/
def zm_run (T : zm_T) (cuts : List Nat) (rb : Bool) (sc : zm_S) (C : zm_C) : Nat → zm_G
  | 0 => fun _ _ _ _ => none
  | f + 1 => fun pc lv st h => zm_blk T cuts rb sc C (zm_run T cuts rb sc C f) 3000 pc lv st h
def zm_ent : List Value → zm_L
  | [] => []
  | v :: r => bif Nat.beq v.category 2 then some v :: none :: zm_ent r else some v :: zm_ent r
def zm_pad (n : Nat) (l : zm_L) : zm_L := l ++ List.replicate (n - l.length) none
/-! methods of the small machine -/
abbrev zm_M : Type := String × MethodName × ByteArray × Nat × Option FieldType × Bool × Nat × Nat × Bool × List Nat × zm_T
def zm_meth (ms : Nat → Option zm_M) : Nat → zm_C
  | 0 => fun _ _ _ => none
  | d + 1 => fun μ args h => match ms μ with
    | none => none
    | some (_, _, _, nL, _, _, _, _, rb, cuts, T) => bif Nat.ble (zm_ent args).length nL then zm_blk T cuts rb none (zm_meth ms d) (zm_run T cuts rb none (zm_meth ms d) 10000000) 3000 0 (zm_pad nL (zm_ent args)) [] h else none
