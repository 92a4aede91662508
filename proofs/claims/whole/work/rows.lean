section
-- ===== PART A: goes FIRST, ahead of the names: the tables' words, and 'selects' of the private methods out of them =====
/-- a private method of a class that the tables say can be made, by its rows of tables_1 -/
def lw_okq (q : MethodName × Nat) : Prop := (q.1.cls ≠ "java/lang/invoke/MethodHandle" ∧ q.1.cls ≠ "java/lang/invoke/VarHandle") ∧ Cond.instantiable q.1.cls q.2 ∈ tables_1 ∧ Cond.privateMethod q.1 ∈ tables_1 ∧ Cond.instanceMethod q.1 ∈ tables_1
theorem lw_p0 : lw_okq (⟨"WordRace$Tape", "goesOn", "(II)Z"⟩, 6) := ⟨⟨by decide +kernel, by decide +kernel⟩, List.mem_of_getElem? (i := 92) (by decide +kernel), List.mem_of_getElem? (i := 275) (by decide +kernel), List.mem_of_getElem? (i := 276) (by decide +kernel)⟩
theorem lw_p1 : lw_okq (⟨"WordRace$Tape", "endClause", "()Z"⟩, 6) := ⟨⟨by decide +kernel, by decide +kernel⟩, List.mem_of_getElem? (i := 92) (by decide +kernel), List.mem_of_getElem? (i := 279) (by decide +kernel), List.mem_of_getElem? (i := 280) (by decide +kernel)⟩
theorem lw_p2 : lw_okq (⟨"WordRace$Tape", "addLetters", "(II)Z"⟩, 6) := ⟨⟨by decide +kernel, by decide +kernel⟩, List.mem_of_getElem? (i := 92) (by decide +kernel), List.mem_of_getElem? (i := 283) (by decide +kernel), List.mem_of_getElem? (i := 284) (by decide +kernel)⟩
theorem lw_p3 : lw_okq (⟨"WordRace", "trailLength", "(IZ)I"⟩, 13) := ⟨⟨by decide +kernel, by decide +kernel⟩, List.mem_of_getElem? (i := 18) (by decide +kernel), List.mem_of_getElem? (i := 374) (by decide +kernel), List.mem_of_getElem? (i := 375) (by decide +kernel)⟩
theorem lw_p4 : lw_okq (⟨"WordRace$Ring", "isBeaten", "(II)Z"⟩, 2) := ⟨⟨by decide +kernel, by decide +kernel⟩, List.mem_of_getElem? (i := 150) (by decide +kernel), List.mem_of_getElem? (i := 394) (by decide +kernel), List.mem_of_getElem? (i := 395) (by decide +kernel)⟩
theorem lw_p5 : lw_okq (⟨"WordRace", "isRacingField", "(I)Z"⟩, 13) := ⟨⟨by decide +kernel, by decide +kernel⟩, List.mem_of_getElem? (i := 18) (by decide +kernel), List.mem_of_getElem? (i := 406) (by decide +kernel), List.mem_of_getElem? (i := 407) (by decide +kernel)⟩
theorem lw_p6 : lw_okq (⟨"WordRace$Field", "setApart", "()V"⟩, 6) := ⟨⟨by decide +kernel, by decide +kernel⟩, List.mem_of_getElem? (i := 124) (by decide +kernel), List.mem_of_getElem? (i := 443) (by decide +kernel), List.mem_of_getElem? (i := 444) (by decide +kernel)⟩
theorem lw_p7 : lw_okq (⟨"WordRace$Field", "weight", "(I)J"⟩, 6) := ⟨⟨by decide +kernel, by decide +kernel⟩, List.mem_of_getElem? (i := 124) (by decide +kernel), List.mem_of_getElem? (i := 448) (by decide +kernel), List.mem_of_getElem? (i := 449) (by decide +kernel)⟩
theorem lw_p8 : lw_okq (⟨"WordRace$Field", "wholeWeight", "()J"⟩, 6) := ⟨⟨by decide +kernel, by decide +kernel⟩, List.mem_of_getElem? (i := 124) (by decide +kernel), List.mem_of_getElem? (i := 455) (by decide +kernel), List.mem_of_getElem? (i := 456) (by decide +kernel)⟩
theorem lw_p9 : lw_okq (⟨"WordRace$Field", "countEndings", "(I)V"⟩, 6) := ⟨⟨by decide +kernel, by decide +kernel⟩, List.mem_of_getElem? (i := 124) (by decide +kernel), List.mem_of_getElem? (i := 476) (by decide +kernel), List.mem_of_getElem? (i := 477) (by decide +kernel)⟩
theorem lw_p10 : lw_okq (⟨"WordRace$Field", "endingsAt", "(II)I"⟩, 6) := ⟨⟨by decide +kernel, by decide +kernel⟩, List.mem_of_getElem? (i := 124) (by decide +kernel), List.mem_of_getElem? (i := 480) (by decide +kernel), List.mem_of_getElem? (i := 481) (by decide +kernel)⟩
theorem lw_p11 : lw_okq (⟨"WordRace", "writeStrip", "()I"⟩, 13) := ⟨⟨by decide +kernel, by decide +kernel⟩, List.mem_of_getElem? (i := 18) (by decide +kernel), List.mem_of_getElem? (i := 697) (by decide +kernel), List.mem_of_getElem? (i := 698) (by decide +kernel)⟩
theorem lw_p12 : lw_okq (⟨"WordRace", "writeWord", "(I)I"⟩, 13) := ⟨⟨by decide +kernel, by decide +kernel⟩, List.mem_of_getElem? (i := 18) (by decide +kernel), List.mem_of_getElem? (i := 704) (by decide +kernel), List.mem_of_getElem? (i := 705) (by decide +kernel)⟩
theorem lw_p13 : lw_okq (⟨"WordRace", "hasListPlace", "(II)Z"⟩, 13) := ⟨⟨by decide +kernel, by decide +kernel⟩, List.mem_of_getElem? (i := 18) (by decide +kernel), List.mem_of_getElem? (i := 728) (by decide +kernel), List.mem_of_getElem? (i := 729) (by decide +kernel)⟩
theorem lw_p14 : lw_okq (⟨"WordRaceModel", "reads", "()I"⟩, 29) := ⟨⟨by decide +kernel, by decide +kernel⟩, List.mem_of_getElem? (i := 754) (by decide +kernel), List.mem_of_getElem? (i := 867) (by decide +kernel), List.mem_of_getElem? (i := 868) (by decide +kernel)⟩
theorem lw_p15 : lw_okq (⟨"WordRaceModel", "sign", "(I)I"⟩, 29) := ⟨⟨by decide +kernel, by decide +kernel⟩, List.mem_of_getElem? (i := 754) (by decide +kernel), List.mem_of_getElem? (i := 871) (by decide +kernel), List.mem_of_getElem? (i := 872) (by decide +kernel)⟩
def lw_privs_1 : List (MethodName × Nat) := [(⟨"WordRace$Tape", "goesOn", "(II)Z"⟩, 6), (⟨"WordRace$Tape", "endClause", "()Z"⟩, 6), (⟨"WordRace$Tape", "addLetters", "(II)Z"⟩, 6), (⟨"WordRace", "trailLength", "(IZ)I"⟩, 13), (⟨"WordRace$Ring", "isBeaten", "(II)Z"⟩, 2), (⟨"WordRace", "isRacingField", "(I)Z"⟩, 13), (⟨"WordRace$Field", "setApart", "()V"⟩, 6), (⟨"WordRace$Field", "weight", "(I)J"⟩, 6), (⟨"WordRace$Field", "wholeWeight", "()J"⟩, 6), (⟨"WordRace$Field", "countEndings", "(I)V"⟩, 6), (⟨"WordRace$Field", "endingsAt", "(II)I"⟩, 6), (⟨"WordRace", "writeStrip", "()I"⟩, 13), (⟨"WordRace", "writeWord", "(I)I"⟩, 13), (⟨"WordRace", "hasListPlace", "(II)Z"⟩, 13), (⟨"WordRaceModel", "reads", "()I"⟩, 29), (⟨"WordRaceModel", "sign", "(I)I"⟩, 29)]
theorem lw_r1 : ∀ q ∈ lw_privs_1, lw_okq q := List.forall_mem_cons.mpr ⟨lw_p0, List.forall_mem_cons.mpr ⟨lw_p1, List.forall_mem_cons.mpr ⟨lw_p2, List.forall_mem_cons.mpr ⟨lw_p3, List.forall_mem_cons.mpr ⟨lw_p4, List.forall_mem_cons.mpr ⟨lw_p5, List.forall_mem_cons.mpr ⟨lw_p6, List.forall_mem_cons.mpr ⟨lw_p7, List.forall_mem_cons.mpr ⟨lw_p8, List.forall_mem_cons.mpr ⟨lw_p9, List.forall_mem_cons.mpr ⟨lw_p10, List.forall_mem_cons.mpr ⟨lw_p11, List.forall_mem_cons.mpr ⟨lw_p12, List.forall_mem_cons.mpr ⟨lw_p13, List.forall_mem_cons.mpr ⟨lw_p14, List.forall_mem_cons.mpr ⟨lw_p15, fun _ h => absurd h List.not_mem_nil⟩⟩⟩⟩⟩⟩⟩⟩⟩⟩⟩⟩⟩⟩⟩⟩
theorem lw_p16 : lw_okq (⟨"WordRaceModel", "isWord", "(I)Z"⟩, 29) := ⟨⟨by decide +kernel, by decide +kernel⟩, List.mem_of_getElem? (i := 754) (by decide +kernel), List.mem_of_getElem? (i := 879) (by decide +kernel), List.mem_of_getElem? (i := 880) (by decide +kernel)⟩
theorem lw_p17 : lw_okq (⟨"WordRaceModel", "isSuch", "(I)Z"⟩, 29) := ⟨⟨by decide +kernel, by decide +kernel⟩, List.mem_of_getElem? (i := 754) (by decide +kernel), List.mem_of_getElem? (i := 883) (by decide +kernel), List.mem_of_getElem? (i := 884) (by decide +kernel)⟩
theorem lw_p18 : lw_okq (⟨"WordRaceModel", "numberOf", "(II)I"⟩, 29) := ⟨⟨by decide +kernel, by decide +kernel⟩, List.mem_of_getElem? (i := 754) (by decide +kernel), List.mem_of_getElem? (i := 894) (by decide +kernel), List.mem_of_getElem? (i := 895) (by decide +kernel)⟩
theorem lw_p19 : lw_okq (⟨"WordRaceModel", "bestAnswer", "(I)I"⟩, 29) := ⟨⟨by decide +kernel, by decide +kernel⟩, List.mem_of_getElem? (i := 754) (by decide +kernel), List.mem_of_getElem? (i := 905) (by decide +kernel), List.mem_of_getElem? (i := 906) (by decide +kernel)⟩
theorem lw_p20 : lw_okq (⟨"WordRaceModel", "weight", "(II)I"⟩, 29) := ⟨⟨by decide +kernel, by decide +kernel⟩, List.mem_of_getElem? (i := 754) (by decide +kernel), List.mem_of_getElem? (i := 909) (by decide +kernel), List.mem_of_getElem? (i := 910) (by decide +kernel)⟩
theorem lw_p21 : lw_okq (⟨"WordRaceModel", "chanceOf", "(III)J"⟩, 29) := ⟨⟨by decide +kernel, by decide +kernel⟩, List.mem_of_getElem? (i := 754) (by decide +kernel), List.mem_of_getElem? (i := 939) (by decide +kernel), List.mem_of_getElem? (i := 940) (by decide +kernel)⟩
theorem lw_p22 : lw_okq (⟨"WordRaceModel", "rings", "(II)Z"⟩, 29) := ⟨⟨by decide +kernel, by decide +kernel⟩, List.mem_of_getElem? (i := 754) (by decide +kernel), List.mem_of_getElem? (i := 958) (by decide +kernel), List.mem_of_getElem? (i := 959) (by decide +kernel)⟩
theorem lw_p23 : lw_okq (⟨"WordRaceModel", "beats", "(II)Z"⟩, 29) := ⟨⟨by decide +kernel, by decide +kernel⟩, List.mem_of_getElem? (i := 754) (by decide +kernel), List.mem_of_getElem? (i := 962) (by decide +kernel), List.mem_of_getElem? (i := 963) (by decide +kernel)⟩
theorem lw_p24 : lw_okq (⟨"WordRaceModel", "sets", "(I)Z"⟩, 29) := ⟨⟨by decide +kernel, by decide +kernel⟩, List.mem_of_getElem? (i := 754) (by decide +kernel), List.mem_of_getElem? (i := 970) (by decide +kernel), List.mem_of_getElem? (i := 971) (by decide +kernel)⟩
theorem lw_p25 : lw_okq (⟨"WordRaceModel", "isField", "()Z"⟩, 29) := ⟨⟨by decide +kernel, by decide +kernel⟩, List.mem_of_getElem? (i := 754) (by decide +kernel), List.mem_of_getElem? (i := 975) (by decide +kernel), List.mem_of_getElem? (i := 976) (by decide +kernel)⟩
theorem lw_p26 : lw_okq (⟨"WordRaceModel", "solved", "(II)J"⟩, 29) := ⟨⟨by decide +kernel, by decide +kernel⟩, List.mem_of_getElem? (i := 754) (by decide +kernel), List.mem_of_getElem? (i := 979) (by decide +kernel), List.mem_of_getElem? (i := 980) (by decide +kernel)⟩
theorem lw_p27 : lw_okq (⟨"WordRaceModel", "fills", "(I)V"⟩, 29) := ⟨⟨by decide +kernel, by decide +kernel⟩, List.mem_of_getElem? (i := 754) (by decide +kernel), List.mem_of_getElem? (i := 983) (by decide +kernel), List.mem_of_getElem? (i := 984) (by decide +kernel)⟩
theorem lw_p28 : lw_okq (⟨"WordRaceModel", "square", "(III)J"⟩, 29) := ⟨⟨by decide +kernel, by decide +kernel⟩, List.mem_of_getElem? (i := 754) (by decide +kernel), List.mem_of_getElem? (i := 988) (by decide +kernel), List.mem_of_getElem? (i := 989) (by decide +kernel)⟩
theorem lw_p29 : lw_okq (⟨"WordRaceModel", "endsBy", "(I)I"⟩, 29) := ⟨⟨by decide +kernel, by decide +kernel⟩, List.mem_of_getElem? (i := 754) (by decide +kernel), List.mem_of_getElem? (i := 1000) (by decide +kernel), List.mem_of_getElem? (i := 1001) (by decide +kernel)⟩
theorem lw_p30 : lw_okq (⟨"WordRaceModel", "drawn", "(I)I"⟩, 29) := ⟨⟨by decide +kernel, by decide +kernel⟩, List.mem_of_getElem? (i := 754) (by decide +kernel), List.mem_of_getElem? (i := 1019) (by decide +kernel), List.mem_of_getElem? (i := 1020) (by decide +kernel)⟩
theorem lw_p31 : lw_okq (⟨"WordRaceModel", "endsAt", "(II)Z"⟩, 29) := ⟨⟨by decide +kernel, by decide +kernel⟩, List.mem_of_getElem? (i := 754) (by decide +kernel), List.mem_of_getElem? (i := 1035) (by decide +kernel), List.mem_of_getElem? (i := 1036) (by decide +kernel)⟩
def lw_privs_2 : List (MethodName × Nat) := [(⟨"WordRaceModel", "isWord", "(I)Z"⟩, 29), (⟨"WordRaceModel", "isSuch", "(I)Z"⟩, 29), (⟨"WordRaceModel", "numberOf", "(II)I"⟩, 29), (⟨"WordRaceModel", "bestAnswer", "(I)I"⟩, 29), (⟨"WordRaceModel", "weight", "(II)I"⟩, 29), (⟨"WordRaceModel", "chanceOf", "(III)J"⟩, 29), (⟨"WordRaceModel", "rings", "(II)Z"⟩, 29), (⟨"WordRaceModel", "beats", "(II)Z"⟩, 29), (⟨"WordRaceModel", "sets", "(I)Z"⟩, 29), (⟨"WordRaceModel", "isField", "()Z"⟩, 29), (⟨"WordRaceModel", "solved", "(II)J"⟩, 29), (⟨"WordRaceModel", "fills", "(I)V"⟩, 29), (⟨"WordRaceModel", "square", "(III)J"⟩, 29), (⟨"WordRaceModel", "endsBy", "(I)I"⟩, 29), (⟨"WordRaceModel", "drawn", "(I)I"⟩, 29), (⟨"WordRaceModel", "endsAt", "(II)Z"⟩, 29)]
theorem lw_r2 : ∀ q ∈ lw_privs_2, lw_okq q := List.forall_mem_cons.mpr ⟨lw_p16, List.forall_mem_cons.mpr ⟨lw_p17, List.forall_mem_cons.mpr ⟨lw_p18, List.forall_mem_cons.mpr ⟨lw_p19, List.forall_mem_cons.mpr ⟨lw_p20, List.forall_mem_cons.mpr ⟨lw_p21, List.forall_mem_cons.mpr ⟨lw_p22, List.forall_mem_cons.mpr ⟨lw_p23, List.forall_mem_cons.mpr ⟨lw_p24, List.forall_mem_cons.mpr ⟨lw_p25, List.forall_mem_cons.mpr ⟨lw_p26, List.forall_mem_cons.mpr ⟨lw_p27, List.forall_mem_cons.mpr ⟨lw_p28, List.forall_mem_cons.mpr ⟨lw_p29, List.forall_mem_cons.mpr ⟨lw_p30, List.forall_mem_cons.mpr ⟨lw_p31, fun _ h => absurd h List.not_mem_nil⟩⟩⟩⟩⟩⟩⟩⟩⟩⟩⟩⟩⟩⟩⟩⟩
theorem lw_p32 : lw_okq (⟨"WordRaceModel", "firstOf", "(I)I"⟩, 29) := ⟨⟨by decide +kernel, by decide +kernel⟩, List.mem_of_getElem? (i := 754) (by decide +kernel), List.mem_of_getElem? (i := 1043) (by decide +kernel), List.mem_of_getElem? (i := 1044) (by decide +kernel)⟩
theorem lw_p33 : lw_okq (⟨"WordRaceModel", "matched", "(I)I"⟩, 29) := ⟨⟨by decide +kernel, by decide +kernel⟩, List.mem_of_getElem? (i := 754) (by decide +kernel), List.mem_of_getElem? (i := 1049) (by decide +kernel), List.mem_of_getElem? (i := 1050) (by decide +kernel)⟩
theorem lw_p34 : lw_okq (⟨"WordRaceModel", "isPlayer", "(I)Z"⟩, 29) := ⟨⟨by decide +kernel, by decide +kernel⟩, List.mem_of_getElem? (i := 754) (by decide +kernel), List.mem_of_getElem? (i := 1070) (by decide +kernel), List.mem_of_getElem? (i := 1071) (by decide +kernel)⟩
theorem lw_p35 : lw_okq (⟨"WordRaceModel", "wins", "(I)I"⟩, 29) := ⟨⟨by decide +kernel, by decide +kernel⟩, List.mem_of_getElem? (i := 754) (by decide +kernel), List.mem_of_getElem? (i := 1074) (by decide +kernel), List.mem_of_getElem? (i := 1075) (by decide +kernel)⟩
theorem lw_p36 : lw_okq (⟨"WordRaceModel", "firstPick", "(I)I"⟩, 29) := ⟨⟨by decide +kernel, by decide +kernel⟩, List.mem_of_getElem? (i := 754) (by decide +kernel), List.mem_of_getElem? (i := 1078) (by decide +kernel), List.mem_of_getElem? (i := 1079) (by decide +kernel)⟩
theorem lw_p37 : lw_okq (⟨"WordRaceModel", "picks", "(II)I"⟩, 29) := ⟨⟨by decide +kernel, by decide +kernel⟩, List.mem_of_getElem? (i := 754) (by decide +kernel), List.mem_of_getElem? (i := 1082) (by decide +kernel), List.mem_of_getElem? (i := 1083) (by decide +kernel)⟩
theorem lw_p38 : lw_okq (⟨"WordRaceModel", "on", "(I)I"⟩, 29) := ⟨⟨by decide +kernel, by decide +kernel⟩, List.mem_of_getElem? (i := 754) (by decide +kernel), List.mem_of_getElem? (i := 1089) (by decide +kernel), List.mem_of_getElem? (i := 1090) (by decide +kernel)⟩
theorem lw_p39 : lw_okq (⟨"WordRaceModel", "shifted", "(I)I"⟩, 29) := ⟨⟨by decide +kernel, by decide +kernel⟩, List.mem_of_getElem? (i := 754) (by decide +kernel), List.mem_of_getElem? (i := 1096) (by decide +kernel), List.mem_of_getElem? (i := 1097) (by decide +kernel)⟩
theorem lw_p40 : lw_okq (⟨"WordRaceModel", "areTwo", "(II)Z"⟩, 29) := ⟨⟨by decide +kernel, by decide +kernel⟩, List.mem_of_getElem? (i := 754) (by decide +kernel), List.mem_of_getElem? (i := 1104) (by decide +kernel), List.mem_of_getElem? (i := 1105) (by decide +kernel)⟩
theorem lw_p41 : lw_okq (⟨"WordRaceModel", "duels", "(III)I"⟩, 29) := ⟨⟨by decide +kernel, by decide +kernel⟩, List.mem_of_getElem? (i := 754) (by decide +kernel), List.mem_of_getElem? (i := 1116) (by decide +kernel), List.mem_of_getElem? (i := 1117) (by decide +kernel)⟩
theorem lw_p42 : lw_okq (⟨"WordRaceModel", "does", "(II)V"⟩, 29) := ⟨⟨by decide +kernel, by decide +kernel⟩, List.mem_of_getElem? (i := 754) (by decide +kernel), List.mem_of_getElem? (i := 1133) (by decide +kernel), List.mem_of_getElem? (i := 1134) (by decide +kernel)⟩
def lw_privs_3 : List (MethodName × Nat) := [(⟨"WordRaceModel", "firstOf", "(I)I"⟩, 29), (⟨"WordRaceModel", "matched", "(I)I"⟩, 29), (⟨"WordRaceModel", "isPlayer", "(I)Z"⟩, 29), (⟨"WordRaceModel", "wins", "(I)I"⟩, 29), (⟨"WordRaceModel", "firstPick", "(I)I"⟩, 29), (⟨"WordRaceModel", "picks", "(II)I"⟩, 29), (⟨"WordRaceModel", "on", "(I)I"⟩, 29), (⟨"WordRaceModel", "shifted", "(I)I"⟩, 29), (⟨"WordRaceModel", "areTwo", "(II)Z"⟩, 29), (⟨"WordRaceModel", "duels", "(III)I"⟩, 29), (⟨"WordRaceModel", "does", "(II)V"⟩, 29)]
theorem lw_r3 : ∀ q ∈ lw_privs_3, lw_okq q := List.forall_mem_cons.mpr ⟨lw_p32, List.forall_mem_cons.mpr ⟨lw_p33, List.forall_mem_cons.mpr ⟨lw_p34, List.forall_mem_cons.mpr ⟨lw_p35, List.forall_mem_cons.mpr ⟨lw_p36, List.forall_mem_cons.mpr ⟨lw_p37, List.forall_mem_cons.mpr ⟨lw_p38, List.forall_mem_cons.mpr ⟨lw_p39, List.forall_mem_cons.mpr ⟨lw_p40, List.forall_mem_cons.mpr ⟨lw_p41, List.forall_mem_cons.mpr ⟨lw_p42, fun _ h => absurd h List.not_mem_nil⟩⟩⟩⟩⟩⟩⟩⟩⟩⟩⟩
def lw_privs : List (MethodName × Nat) := lw_privs_1 ++ (lw_privs_2 ++ (lw_privs_3))
def lw_tbl : List Cond := k2_sels lw_privs ++ tables_1
theorem lw_privs_ok : ∀ q ∈ lw_privs, lw_okq q := by
  show ∀ q ∈ lw_privs_1 ++ (lw_privs_2 ++ (lw_privs_3)), lw_okq q
  exact List.forall_mem_append.mpr ⟨lw_r1, List.forall_mem_append.mpr ⟨lw_r2, lw_r3⟩⟩
end
section
def RX0 : String := "WordRace$Board"
def TX0 : u_T := fun k => match k with
  | 0 => ("WordRace$Board", "sides", "I", false)
  | 1 => ("WordRace$Board", "numbers", "[I", true)
  | 2 => ("WordRace$Board", "wordCount", "I", false)
  | 3 => ("WordRace$Board", "strip", "LWordRace$Strip;", true)
  | 4 => ("WordRace$Board", "kinds", "[I", true)
  | 5 => ("WordRace$Board", "owned", "[I", true)
  | 6 => ("WordRace$Board", "playerCount", "I", false)
  | 7 => ("WordRace$Board", "rowWhats", "[I", true)
  | 8 => ("WordRace$Board", "rowValues", "[I", true)
  | _ => ("WordRace$Board", "rowCount", "I", false)
def tyX0 : Nat → FieldType := fun k => match k with
  | 0 => .int
  | 1 => .array .int
  | 2 => .int
  | 3 => .object "WordRace$Strip"
  | 4 => .array .int
  | 5 => .array .int
  | 6 => .int
  | 7 => .array .int
  | 8 => .array .int
  | _ => .int
theorem nmX0 : ∀ a, a < 10 → ∀ b, b < 10 → a ≠ b → (TX0 a).2.1 ≠ (TX0 b).2.1 := by decide +kernel
theorem tyX0_ok : ∀ k, k < 10 → parseFieldDescriptor (TX0 k).2.2.1 = some (tyX0 k) := by decide +kernel
abbrev cX0_init : ByteArray := prog_2_method_1_code
def yX0_init : MethodName := ⟨RX0, "<init>", "()V"⟩
abbrev cX0_copyFrom : ByteArray := prog_2_method_2_code
def yX0_copyFrom : MethodName := ⟨RX0, "copyFrom", "(LWordRace$Board;)V"⟩
abbrev cX0_hasWord : ByteArray := prog_2_method_3_code
def yX0_hasWord : MethodName := ⟨RX0, "hasWord", "(I)Z"⟩
abbrev cX0_areTwoWords : ByteArray := prog_2_method_4_code
def yX0_areTwoWords : MethodName := ⟨RX0, "areTwoWords", "(II)Z"⟩
abbrev cX0_wordAt : ByteArray := prog_2_method_5_code
def yX0_wordAt : MethodName := ⟨RX0, "wordAt", "(I)I"⟩
abbrev cX0_addWord : ByteArray := prog_2_method_6_code
def yX0_addWord : MethodName := ⟨RX0, "addWord", "(I)V"⟩
abbrev cX0_hasThirdLetter : ByteArray := prog_2_method_7_code
def yX0_hasThirdLetter : MethodName := ⟨RX0, "hasThirdLetter", "()Z"⟩
abbrev cX0_isSet : ByteArray := prog_2_method_8_code
def yX0_isSet : MethodName := ⟨RX0, "isSet", "(I)Z"⟩
abbrev cX0_isInSet : ByteArray := prog_2_method_9_code
def yX0_isInSet : MethodName := ⟨RX0, "isInSet", "(II)Z"⟩
abbrev cX0_firstOn : ByteArray := prog_2_method_10_code
def yX0_firstOn : MethodName := ⟨RX0, "firstOn", "(LWordRace$Strip;)I"⟩
abbrev cX0_hasPlayer : ByteArray := prog_2_method_11_code
def yX0_hasPlayer : MethodName := ⟨RX0, "hasPlayer", "(I)Z"⟩
abbrev cX0_areTwoPlayers : ByteArray := prog_2_method_12_code
def yX0_areTwoPlayers : MethodName := ⟨RX0, "areTwoPlayers", "(II)Z"⟩
abbrev cX0_addPlayer : ByteArray := prog_2_method_13_code
def yX0_addPlayer : MethodName := ⟨RX0, "addPlayer", "(II)Z"⟩
abbrev cX0_firstPick : ByteArray := prog_2_method_14_code
def yX0_firstPick : MethodName := ⟨RX0, "firstPick", "(I)I"⟩
abbrev cX0_pickAgainst : ByteArray := prog_2_method_15_code
def yX0_pickAgainst : MethodName := ⟨RX0, "pickAgainst", "(II)I"⟩
abbrev cX0_wins : ByteArray := prog_2_method_16_code
def yX0_wins : MethodName := ⟨RX0, "wins", "(I)I"⟩
abbrev cX0_addRow : ByteArray := prog_2_method_17_code
def yX0_addRow : MethodName := ⟨RX0, "addRow", "(II)Z"⟩
abbrev cX0_followPlan : ByteArray := prog_2_method_18_code
def yX0_followPlan : MethodName := ⟨RX0, "followPlan", "(LWordRace$Strip;)V"⟩
def RX1 : String := "WordRace$Duel"
def TX1 : u_T := fun k => match k with
  | 0 => ("WordRace$Duel", "winner", "I", false)
  | _ => ("WordRace$Duel", "throwCount", "I", false)
def tyX1 : Nat → FieldType := fun k => match k with
  | 0 => .int
  | _ => .int
theorem nmX1 : ∀ a, a < 2 → ∀ b, b < 2 → a ≠ b → (TX1 a).2.1 ≠ (TX1 b).2.1 := by decide +kernel
theorem tyX1_ok : ∀ k, k < 2 → parseFieldDescriptor (TX1 k).2.2.1 = some (tyX1 k) := by decide +kernel
abbrev cX1_init : ByteArray := prog_3_method_1_code
def yX1_init : MethodName := ⟨RX1, "<init>", "()V"⟩
abbrev cX1_nextSeed : ByteArray := prog_3_method_2_code
def yX1_nextSeed : MethodName := ⟨RX1, "nextSeed", "(I)I"⟩
abbrev cX1_drawn : ByteArray := prog_3_method_3_code
def yX1_drawn : MethodName := ⟨RX1, "drawn", "(II)I"⟩
abbrev cX1_run : ByteArray := prog_3_method_4_code
def yX1_run : MethodName := ⟨RX1, "run", "(IIII)V"⟩
def RX2 : String := "WordRace$Field"
def TX2 : u_T := fun k => match k with
  | 0 => ("WordRace$Field", "numbers", "[I", true)
  | 1 => ("WordRace$Field", "size", "I", false)
  | 2 => ("WordRace$Field", "sides", "I", false)
  | 3 => ("WordRace$Field", "apart", "[[I", true)
  | 4 => ("WordRace$Field", "endings", "[[I", true)
  | _ => ("WordRace$Field", "open", "[I", true)
def tyX2 : Nat → FieldType := fun k => match k with
  | 0 => .array .int
  | 1 => .int
  | 2 => .int
  | 3 => .array (.array .int)
  | 4 => .array (.array .int)
  | _ => .array .int
theorem nmX2 : ∀ a, a < 6 → ∀ b, b < 6 → a ≠ b → (TX2 a).2.1 ≠ (TX2 b).2.1 := by decide +kernel
theorem tyX2_ok : ∀ k, k < 6 → parseFieldDescriptor (TX2 k).2.2.1 = some (tyX2 k) := by decide +kernel
abbrev cX2_init : ByteArray := prog_4_method_1_code
def yX2_init : MethodName := ⟨RX2, "<init>", "()V"⟩
abbrev cX2_fill : ByteArray := prog_4_method_2_code
def yX2_fill : MethodName := ⟨RX2, "fill", "(LWordRace$Board;I)V"⟩
abbrev cX2_hasOneInAnother : ByteArray := prog_4_method_3_code
def yX2_hasOneInAnother : MethodName := ⟨RX2, "hasOneInAnother", "()Z"⟩
abbrev cX2_chancePart : ByteArray := prog_4_method_4_code
def yX2_chancePart : MethodName := ⟨RX2, "chancePart", "(II)J"⟩
abbrev cX2_meanPart : ByteArray := prog_4_method_5_code
def yX2_meanPart : MethodName := ⟨RX2, "meanPart", "(I)J"⟩
abbrev cX2_setApart : ByteArray := prog_4_method_6_code
def yX2_setApart : MethodName := ⟨RX2, "setApart", "()V"⟩
abbrev cX2_weight : ByteArray := prog_4_method_7_code
def yX2_weight : MethodName := ⟨RX2, "weight", "(I)J"⟩
abbrev cX2_wholeWeight : ByteArray := prog_4_method_8_code
def yX2_wholeWeight : MethodName := ⟨RX2, "wholeWeight", "()J"⟩
abbrev cX2_minor : ByteArray := prog_4_method_9_code
def yX2_minor : MethodName := ⟨RX2, "minor", "([[IIII)J"⟩
abbrev cX2_rowsWithin : ByteArray := prog_4_method_10_code
def yX2_rowsWithin : MethodName := ⟨RX2, "rowsWithin", "(II)I"⟩
abbrev cX2_countEndings : ByteArray := prog_4_method_11_code
def yX2_countEndings : MethodName := ⟨RX2, "countEndings", "(I)V"⟩
abbrev cX2_endingsAt : ByteArray := prog_4_method_12_code
def yX2_endingsAt : MethodName := ⟨RX2, "endingsAt", "(II)I"⟩
def RX3 : String := "WordRace$Fraction"
def TX3 : u_T := fun k => match k with
  | _ => ("", "", "", false)
def tyX3 : Nat → FieldType := fun k => match k with
  | _ => .int
theorem nmX3 : ∀ a, a < 0 → ∀ b, b < 0 → a ≠ b → (TX3 a).2.1 ≠ (TX3 b).2.1 := by decide +kernel
theorem tyX3_ok : ∀ k, k < 0 → parseFieldDescriptor (TX3 k).2.2.1 = some (tyX3 k) := by decide +kernel
abbrev cX3_isPart : ByteArray := prog_5_method_2_code
def yX3_isPart : MethodName := ⟨RX3, "isPart", "(I)Z"⟩
abbrev cX3_partOf : ByteArray := prog_5_method_3_code
def yX3_partOf : MethodName := ⟨RX3, "partOf", "(JJI)J"⟩
abbrev cX3_commonDivisor : ByteArray := prog_5_method_4_code
def yX3_commonDivisor : MethodName := ⟨RX3, "commonDivisor", "(JJ)J"⟩
def RX4 : String := "WordRace$Race"
def TX4 : u_T := fun k => match k with
  | _ => ("", "", "", false)
def tyX4 : Nat → FieldType := fun k => match k with
  | _ => .int
theorem nmX4 : ∀ a, a < 0 → ∀ b, b < 0 → a ≠ b → (TX4 a).2.1 ≠ (TX4 b).2.1 := by decide +kernel
theorem tyX4_ok : ∀ k, k < 0 → parseFieldDescriptor (TX4 k).2.2.1 = some (tyX4 k) := by decide +kernel
abbrev cX4_share : ByteArray := prog_6_method_2_code
def yX4_share : MethodName := ⟨RX4, "share", "(III)I"⟩
abbrev cX4_chancePart : ByteArray := prog_6_method_3_code
def yX4_chancePart : MethodName := ⟨RX4, "chancePart", "(IIII)J"⟩
abbrev cX4_beats : ByteArray := prog_6_method_4_code
def yX4_beats : MethodName := ⟨RX4, "beats", "(III)Z"⟩
abbrev cX4_bestAnswer : ByteArray := prog_6_method_5_code
def yX4_bestAnswer : MethodName := ⟨RX4, "bestAnswer", "(II)I"⟩
def RX5 : String := "WordRace$Ring"
def TX5 : u_T := fun k => match k with
  | 0 => ("WordRace$Ring", "row", "[I", true)
  | _ => ("WordRace$Ring", "beaten", "[I", true)
def tyX5 : Nat → FieldType := fun k => match k with
  | 0 => .array .int
  | _ => .array .int
theorem nmX5 : ∀ a, a < 2 → ∀ b, b < 2 → a ≠ b → (TX5 a).2.1 ≠ (TX5 b).2.1 := by decide +kernel
theorem tyX5_ok : ∀ k, k < 2 → parseFieldDescriptor (TX5 k).2.2.1 = some (tyX5 k) := by decide +kernel
abbrev cX5_init : ByteArray := prog_7_method_1_code
def yX5_init : MethodName := ⟨RX5, "<init>", "()V"⟩
abbrev cX5_wordAt : ByteArray := prog_7_method_2_code
def yX5_wordAt : MethodName := ⟨RX5, "wordAt", "(I)I"⟩
abbrev cX5_find : ByteArray := prog_7_method_3_code
def yX5_find : MethodName := ⟨RX5, "find", "(LWordRace$Board;)I"⟩
abbrev cX5_closes : ByteArray := prog_7_method_4_code
def yX5_closes : MethodName := ⟨RX5, "closes", "(LWordRace$Ring;III)Z"⟩
abbrev cX5_isBeaten : ByteArray := prog_7_method_5_code
def yX5_isBeaten : MethodName := ⟨RX5, "isBeaten", "(II)Z"⟩
def RX6 : String := "WordRace$Strip"
def TX6 : u_T := fun k => match k with
  | 0 => ("WordRace$Strip", "letters", "[I", true)
  | _ => ("WordRace$Strip", "size", "I", false)
def tyX6 : Nat → FieldType := fun k => match k with
  | 0 => .array .int
  | _ => .int
theorem nmX6 : ∀ a, a < 2 → ∀ b, b < 2 → a ≠ b → (TX6 a).2.1 ≠ (TX6 b).2.1 := by decide +kernel
theorem tyX6_ok : ∀ k, k < 2 → parseFieldDescriptor (TX6 k).2.2.1 = some (tyX6 k) := by decide +kernel
abbrev cX6_init : ByteArray := prog_8_method_1_code
def yX6_init : MethodName := ⟨RX6, "<init>", "()V"⟩
abbrev cX6_copyFrom : ByteArray := prog_8_method_2_code
def yX6_copyFrom : MethodName := ⟨RX6, "copyFrom", "(LWordRace$Strip;)V"⟩
abbrev cX6_hasPlace : ByteArray := prog_8_method_3_code
def yX6_hasPlace : MethodName := ⟨RX6, "hasPlace", "(I)Z"⟩
abbrev cX6_letterAt : ByteArray := prog_8_method_4_code
def yX6_letterAt : MethodName := ⟨RX6, "letterAt", "(I)I"⟩
abbrev cX6_append : ByteArray := prog_8_method_5_code
def yX6_append : MethodName := ⟨RX6, "append", "(I)Z"⟩
abbrev cX6_dropLast : ByteArray := prog_8_method_6_code
def yX6_dropLast : MethodName := ⟨RX6, "dropLast", "(I)V"⟩
abbrev cX6_putOneOn : ByteArray := prog_8_method_7_code
def yX6_putOneOn : MethodName := ⟨RX6, "putOneOn", "(I)V"⟩
abbrev cX6_endBits : ByteArray := prog_8_method_8_code
def yX6_endBits : MethodName := ⟨RX6, "endBits", "(I)J"⟩
abbrev cX6_firstEnd : ByteArray := prog_8_method_9_code
def yX6_firstEnd : MethodName := ⟨RX6, "firstEnd", "(I)I"⟩
abbrev cX6_matched : ByteArray := prog_8_method_10_code
def yX6_matched : MethodName := ⟨RX6, "matched", "(I)I"⟩
def RX7 : String := "WordRace$Tape"
def TX7 : u_T := fun k => match k with
  | 0 => ("WordRace$Tape", "bytes", "[I", true)
  | 1 => ("WordRace$Tape", "size", "I", false)
  | 2 => ("WordRace$Tape", "told", "[I", true)
  | 3 => ("WordRace$Tape", "toldCount", "I", false)
  | 4 => ("WordRace$Tape", "clause", "I", false)
  | _ => ("WordRace$Tape", "repeatable", "I", false)
def tyX7 : Nat → FieldType := fun k => match k with
  | 0 => .array .int
  | 1 => .int
  | 2 => .array .int
  | 3 => .int
  | 4 => .int
  | _ => .int
theorem nmX7 : ∀ a, a < 6 → ∀ b, b < 6 → a ≠ b → (TX7 a).2.1 ≠ (TX7 b).2.1 := by decide +kernel
theorem tyX7_ok : ∀ k, k < 6 → parseFieldDescriptor (TX7 k).2.2.1 = some (tyX7 k) := by decide +kernel
abbrev cX7_init : ByteArray := prog_9_method_1_code
def yX7_init : MethodName := ⟨RX7, "<init>", "()V"⟩
abbrev cX7_append : ByteArray := prog_9_method_2_code
def yX7_append : MethodName := ⟨RX7, "append", "(I)Z"⟩
abbrev cX7_read : ByteArray := prog_9_method_3_code
def yX7_read : MethodName := ⟨RX7, "read", "(I)I"⟩
abbrev cX7_goesOn : ByteArray := prog_9_method_4_code
def yX7_goesOn : MethodName := ⟨RX7, "goesOn", "(II)Z"⟩
abbrev cX7_addLetters : ByteArray := prog_9_method_5_code
def yX7_addLetters : MethodName := ⟨RX7, "addLetters", "(II)Z"⟩
abbrev cX7_endClause : ByteArray := prog_9_method_6_code
def yX7_endClause : MethodName := ⟨RX7, "endClause", "()Z"⟩
def RX8 : String := "WordRace$Word"
def TX8 : u_T := fun k => match k with
  | _ => ("", "", "", false)
def tyX8 : Nat → FieldType := fun k => match k with
  | _ => .int
theorem nmX8 : ∀ a, a < 0 → ∀ b, b < 0 → a ≠ b → (TX8 a).2.1 ≠ (TX8 b).2.1 := by decide +kernel
theorem tyX8_ok : ∀ k, k < 0 → parseFieldDescriptor (TX8 k).2.2.1 = some (tyX8 k) := by decide +kernel
abbrev cX8_tens : ByteArray := prog_10_method_2_code
def yX8_tens : MethodName := ⟨RX8, "tens", "(I)I"⟩
abbrev cX8_length : ByteArray := prog_10_method_3_code
def yX8_length : MethodName := ⟨RX8, "length", "(I)I"⟩
abbrev cX8_isWord : ByteArray := prog_10_method_4_code
def yX8_isWord : MethodName := ⟨RX8, "isWord", "(II)Z"⟩
abbrev cX8_letterAt : ByteArray := prog_10_method_5_code
def yX8_letterAt : MethodName := ⟨RX8, "letterAt", "(II)I"⟩
abbrev cX8_firstLetters : ByteArray := prog_10_method_6_code
def yX8_firstLetters : MethodName := ⟨RX8, "firstLetters", "(II)I"⟩
abbrev cX8_lastLetters : ByteArray := prog_10_method_7_code
def yX8_lastLetters : MethodName := ⟨RX8, "lastLetters", "(II)I"⟩
abbrev cX8_grown : ByteArray := prog_10_method_8_code
def yX8_grown : MethodName := ⟨RX8, "grown", "(II)I"⟩
abbrev cX8_endsWith : ByteArray := prog_10_method_9_code
def yX8_endsWith : MethodName := ⟨RX8, "endsWith", "(II)Z"⟩
abbrev cX8_overlapBits : ByteArray := prog_10_method_10_code
def yX8_overlapBits : MethodName := ⟨RX8, "overlapBits", "(II)I"⟩
abbrev cX8_numberOn : ByteArray := prog_10_method_11_code
def yX8_numberOn : MethodName := ⟨RX8, "numberOn", "(III)I"⟩
abbrev cX8_standsIn : ByteArray := prog_10_method_12_code
def yX8_standsIn : MethodName := ⟨RX8, "standsIn", "(II)Z"⟩
abbrev cX8_clash : ByteArray := prog_10_method_13_code
def yX8_clash : MethodName := ⟨RX8, "clash", "(II)Z"⟩
abbrev cX8_oneOn : ByteArray := prog_10_method_14_code
def yX8_oneOn : MethodName := ⟨RX8, "oneOn", "(II)I"⟩
abbrev cX8_turned : ByteArray := prog_10_method_15_code
def yX8_turned : MethodName := ⟨RX8, "turned", "(I)I"⟩
abbrev cX8_shifted : ByteArray := prog_10_method_16_code
def yX8_shifted : MethodName := ⟨RX8, "shifted", "(II)I"⟩
abbrev cX8_doubled : ByteArray := prog_10_method_17_code
def yX8_doubled : MethodName := ⟨RX8, "doubled", "(I)I"⟩
abbrev cX8_answering : ByteArray := prog_10_method_18_code
def yX8_answering : MethodName := ⟨RX8, "answering", "(II)I"⟩
abbrev cX8_ledBy : ByteArray := prog_10_method_19_code
def yX8_ledBy : MethodName := ⟨RX8, "ledBy", "(II)I"⟩
abbrev cX8_least : ByteArray := prog_10_method_20_code
def yX8_least : MethodName := ⟨RX8, "least", "(I)I"⟩
abbrev cX8_following : ByteArray := prog_10_method_21_code
def yX8_following : MethodName := ⟨RX8, "following", "(II)I"⟩
def RX9 : String := "WordRace"
def TX9 : u_T := fun k => match k with
  | 0 => ("WordRace", "now", "LWordRace$Board;", true)
  | 1 => ("WordRace", "kept", "LWordRace$Board;", true)
  | 2 => ("WordRace", "isKept", "Z", false)
  | 3 => ("WordRace", "tape", "LWordRace$Tape;", true)
  | 4 => ("WordRace", "written", "[I", true)
  | 5 => ("WordRace", "writtenSize", "I", false)
  | 6 => ("WordRace", "lists", "[[I", true)
  | 7 => ("WordRace", "listSizes", "[I", true)
  | 8 => ("WordRace", "thought", "LWordRace$Strip;", true)
  | 9 => ("WordRace", "contest", "LWordRace$Field;", true)
  | 10 => ("WordRace", "circle", "LWordRace$Ring;", true)
  | 11 => ("WordRace", "bout", "LWordRace$Duel;", true)
  | _ => ("WordRace", "steps", "[I", true)
def tyX9 : Nat → FieldType := fun k => match k with
  | 0 => .object "WordRace$Board"
  | 1 => .object "WordRace$Board"
  | 2 => .boolean
  | 3 => .object "WordRace$Tape"
  | 4 => .array .int
  | 5 => .int
  | 6 => .array (.array .int)
  | 7 => .array .int
  | 8 => .object "WordRace$Strip"
  | 9 => .object "WordRace$Field"
  | 10 => .object "WordRace$Ring"
  | 11 => .object "WordRace$Duel"
  | _ => .array .int
theorem nmX9 : ∀ a, a < 13 → ∀ b, b < 13 → a ≠ b → (TX9 a).2.1 ≠ (TX9 b).2.1 := by decide +kernel
theorem tyX9_ok : ∀ k, k < 13 → parseFieldDescriptor (TX9 k).2.2.1 = some (tyX9 k) := by decide +kernel
abbrev cX9_init : ByteArray := prog_1_method_1_code
def yX9_init : MethodName := ⟨RX9, "<init>", "()V"⟩
abbrev cX9_sides : ByteArray := prog_1_method_2_code
def yX9_sides : MethodName := ⟨RX9, "sides", "(I)I"⟩
abbrev cX9_feed : ByteArray := prog_1_method_3_code
def yX9_feed : MethodName := ⟨RX9, "feed", "(I)I"⟩
abbrev cX9_words : ByteArray := prog_1_method_4_code
def yX9_words : MethodName := ⟨RX9, "words", "()I"⟩
abbrev cX9_becomes : ByteArray := prog_1_method_5_code
def yX9_becomes : MethodName := ⟨RX9, "becomes", "(II)I"⟩
abbrev cX9_of : ByteArray := prog_1_method_6_code
def yX9_of : MethodName := ⟨RX9, "of", "(II)I"⟩
abbrev cX9_overlaps : ByteArray := prog_1_method_7_code
def yX9_overlaps : MethodName := ⟨RX9, "overlaps", "(II)I"⟩
abbrev cX9_number : ByteArray := prog_1_method_8_code
def yX9_number : MethodName := ⟨RX9, "number", "(II)I"⟩
abbrev cX9_isIn : ByteArray := prog_1_method_9_code
def yX9_isIn : MethodName := ⟨RX9, "isIn", "(II)I"⟩
abbrev cX9_chance : ByteArray := prog_1_method_10_code
def yX9_chance : MethodName := ⟨RX9, "chance", "(III)J"⟩
abbrev cX9_answered : ByteArray := prog_1_method_11_code
def yX9_answered : MethodName := ⟨RX9, "answered", "(II)J"⟩
abbrev cX9_trail : ByteArray := prog_1_method_12_code
def yX9_trail : MethodName := ⟨RX9, "trail", "(II)I"⟩
abbrev cX9_ring : ByteArray := prog_1_method_13_code
def yX9_ring : MethodName := ⟨RX9, "ring", "(I)I"⟩
abbrev cX9_field : ByteArray := prog_1_method_14_code
def yX9_field : MethodName := ⟨RX9, "field", "(III)J"⟩
abbrev cX9_mean : ByteArray := prog_1_method_15_code
def yX9_mean : MethodName := ⟨RX9, "mean", "(II)J"⟩
abbrev cX9_within : ByteArray := prog_1_method_16_code
def yX9_within : MethodName := ⟨RX9, "within", "(III)I"⟩
abbrev cX9_cast : ByteArray := prog_1_method_17_code
def yX9_cast : MethodName := ⟨RX9, "cast", "(I)I"⟩
abbrev cX9_casts : ByteArray := prog_1_method_18_code
def yX9_casts : MethodName := ⟨RX9, "casts", "(II)I"⟩
abbrev cX9_wipe : ByteArray := prog_1_method_19_code
def yX9_wipe : MethodName := ⟨RX9, "wipe", "()I"⟩
abbrev cX9_strip : ByteArray := prog_1_method_20_code
def yX9_strip : MethodName := ⟨RX9, "strip", "(I)I"⟩
abbrev cX9_ends : ByteArray := prog_1_method_21_code
def yX9_ends : MethodName := ⟨RX9, "ends", "(I)J"⟩
abbrev cX9_seen : ByteArray := prog_1_method_22_code
def yX9_seen : MethodName := ⟨RX9, "seen", "(II)I"⟩
abbrev cX9_who : ByteArray := prog_1_method_23_code
def yX9_who : MethodName := ⟨RX9, "who", "()I"⟩
abbrev cX9_were : ByteArray := prog_1_method_24_code
def yX9_were : MethodName := ⟨RX9, "were", "(II)I"⟩
abbrev cX9_player : ByteArray := prog_1_method_25_code
def yX9_player : MethodName := ⟨RX9, "player", "(II)I"⟩
abbrev cX9_playerOf : ByteArray := prog_1_method_26_code
def yX9_playerOf : MethodName := ⟨RX9, "playerOf", "(II)I"⟩
abbrev cX9_pick : ByteArray := prog_1_method_27_code
def yX9_pick : MethodName := ⟨RX9, "pick", "(III)I"⟩
abbrev cX9_match : ByteArray := prog_1_method_28_code
def yX9_match : MethodName := ⟨RX9, "match", "(III)J"⟩
abbrev cX9_duel : ByteArray := prog_1_method_29_code
def yX9_duel : MethodName := ⟨RX9, "duel", "(IIII)I"⟩
abbrev cX9_odds : ByteArray := prog_1_method_30_code
def yX9_odds : MethodName := ⟨RX9, "odds", "(IIIII)J"⟩
abbrev cX9_plan : ByteArray := prog_1_method_31_code
def yX9_plan : MethodName := ⟨RX9, "plan", "(II)I"⟩
abbrev cX9_behind : ByteArray := prog_1_method_32_code
def yX9_behind : MethodName := ⟨RX9, "behind", "(I)I"⟩
abbrev cX9_write : ByteArray := prog_1_method_33_code
def yX9_write : MethodName := ⟨RX9, "write", "(I)I"⟩
abbrev cX9_paper : ByteArray := prog_1_method_34_code
def yX9_paper : MethodName := ⟨RX9, "paper", "(I)I"⟩
abbrev cX9_judge : ByteArray := prog_1_method_35_code
def yX9_judge : MethodName := ⟨RX9, "judge", "(I)I"⟩
abbrev cX9_list : ByteArray := prog_1_method_36_code
def yX9_list : MethodName := ⟨RX9, "list", "(II)I"⟩
abbrev cX9_put : ByteArray := prog_1_method_37_code
def yX9_put : MethodName := ⟨RX9, "put", "(III)I"⟩
abbrev cX9_get : ByteArray := prog_1_method_38_code
def yX9_get : MethodName := ⟨RX9, "get", "(II)J"⟩
abbrev cX9_image : ByteArray := prog_1_method_39_code
def yX9_image : MethodName := ⟨RX9, "image", "()I"⟩
abbrev cX9_undo : ByteArray := prog_1_method_40_code
def yX9_undo : MethodName := ⟨RX9, "undo", "()I"⟩
abbrev cX9_count : ByteArray := prog_1_method_41_code
def yX9_count : MethodName := ⟨RX9, "count", "(I)I"⟩
abbrev cX9_trailLength : ByteArray := prog_1_method_42_code
def yX9_trailLength : MethodName := ⟨RX9, "trailLength", "(IZ)I"⟩
abbrev cX9_isRacingField : ByteArray := prog_1_method_43_code
def yX9_isRacingField : MethodName := ⟨RX9, "isRacingField", "(I)Z"⟩
abbrev cX9_placeInSet : ByteArray := prog_1_method_44_code
def yX9_placeInSet : MethodName := ⟨RX9, "placeInSet", "(II)I"⟩
abbrev cX9_mostOfRow : ByteArray := prog_1_method_45_code
def yX9_mostOfRow : MethodName := ⟨RX9, "mostOfRow", "(I)I"⟩
abbrev cX9_writeStrip : ByteArray := prog_1_method_46_code
def yX9_writeStrip : MethodName := ⟨RX9, "writeStrip", "()I"⟩
abbrev cX9_writeWord : ByteArray := prog_1_method_47_code
def yX9_writeWord : MethodName := ⟨RX9, "writeWord", "(I)I"⟩
abbrev cX9_signOf : ByteArray := prog_1_method_48_code
def yX9_signOf : MethodName := ⟨RX9, "signOf", "(I)I"⟩
abbrev cX9_hasList : ByteArray := prog_1_method_49_code
def yX9_hasList : MethodName := ⟨RX9, "hasList", "(I)Z"⟩
abbrev cX9_hasListPlace : ByteArray := prog_1_method_50_code
def yX9_hasListPlace : MethodName := ⟨RX9, "hasListPlace", "(II)Z"⟩
def RX10 : String := "WordRaceModel"
def TX10 : u_T := fun k => match k with
  | 0 => ("WordRaceModel", "sides", "I", false)
  | 1 => ("WordRaceModel", "word", "[I", true)
  | 2 => ("WordRaceModel", "words", "I", false)
  | 3 => ("WordRaceModel", "strip", "[I", true)
  | 4 => ("WordRaceModel", "thrown", "I", false)
  | 5 => ("WordRaceModel", "playerKind", "[I", true)
  | 6 => ("WordRaceModel", "playerWord", "[I", true)
  | 7 => ("WordRaceModel", "players", "I", false)
  | 8 => ("WordRaceModel", "planWhat", "[I", true)
  | 9 => ("WordRaceModel", "planBy", "[I", true)
  | 10 => ("WordRaceModel", "planned", "I", false)
  | 11 => ("WordRaceModel", "tape", "[I", true)
  | 12 => ("WordRaceModel", "taped", "I", false)
  | 13 => ("WordRaceModel", "paper", "[I", true)
  | 14 => ("WordRaceModel", "written", "I", false)
  | 15 => ("WordRaceModel", "lists", "[I", true)
  | 16 => ("WordRaceModel", "listSize", "[I", true)
  | 17 => ("WordRaceModel", "image", "[I", true)
  | 18 => ("WordRaceModel", "imaged", "Z", false)
  | 19 => ("WordRaceModel", "came", "[I", true)
  | 20 => ("WordRaceModel", "held", "[I", true)
  | 21 => ("WordRaceModel", "heldMany", "I", false)
  | 22 => ("WordRaceModel", "row", "[I", true)
  | 23 => ("WordRaceModel", "now", "[J", true)
  | 24 => ("WordRaceModel", "then", "[J", true)
  | 25 => ("WordRaceModel", "field", "[I", true)
  | 26 => ("WordRaceModel", "fieldMany", "I", false)
  | 27 => ("WordRaceModel", "matrix", "[J", true)
  | _ => ("WordRaceModel", "trail", "[I", true)
def tyX10 : Nat → FieldType := fun k => match k with
  | 0 => .int
  | 1 => .array .int
  | 2 => .int
  | 3 => .array .int
  | 4 => .int
  | 5 => .array .int
  | 6 => .array .int
  | 7 => .int
  | 8 => .array .int
  | 9 => .array .int
  | 10 => .int
  | 11 => .array .int
  | 12 => .int
  | 13 => .array .int
  | 14 => .int
  | 15 => .array .int
  | 16 => .array .int
  | 17 => .array .int
  | 18 => .boolean
  | 19 => .array .int
  | 20 => .array .int
  | 21 => .int
  | 22 => .array .int
  | 23 => .array .long
  | 24 => .array .long
  | 25 => .array .int
  | 26 => .int
  | 27 => .array .long
  | _ => .array .int
theorem nmX10 : ∀ a, a < 29 → ∀ b, b < 29 → a ≠ b → (TX10 a).2.1 ≠ (TX10 b).2.1 := by decide +kernel
theorem tyX10_ok : ∀ k, k < 29 → parseFieldDescriptor (TX10 k).2.2.1 = some (tyX10 k) := by decide +kernel
abbrev cX10_init : ByteArray := prog_12_method_1_code
def yX10_init : MethodName := ⟨RX10, "<init>", "()V"⟩
abbrev cX10_in : ByteArray := prog_12_method_2_code
def yX10_in : MethodName := ⟨RX10, "in", "(III)Z"⟩
abbrev cX10_isWord : ByteArray := prog_12_method_3_code
def yX10_isWord : MethodName := ⟨RX10, "isWord", "(I)Z"⟩
abbrev cX10_isPart : ByteArray := prog_12_method_4_code
def yX10_isPart : MethodName := ⟨RX10, "isPart", "(I)Z"⟩
abbrev cX10_isList : ByteArray := prog_12_method_5_code
def yX10_isList : MethodName := ⟨RX10, "isList", "(I)Z"⟩
abbrev cX10_ten : ByteArray := prog_12_method_6_code
def yX10_ten : MethodName := ⟨RX10, "ten", "(I)I"⟩
abbrev cX10_sizeOf : ByteArray := prog_12_method_7_code
def yX10_sizeOf : MethodName := ⟨RX10, "sizeOf", "(I)I"⟩
abbrev cX10_letterOf : ByteArray := prog_12_method_8_code
def yX10_letterOf : MethodName := ⟨RX10, "letterOf", "(II)I"⟩
abbrev cX10_hasThird : ByteArray := prog_12_method_9_code
def yX10_hasThird : MethodName := ⟨RX10, "hasThird", "(I)Z"⟩
abbrev cX10_isSuch : ByteArray := prog_12_method_10_code
def yX10_isSuch : MethodName := ⟨RX10, "isSuch", "(I)Z"⟩
abbrev cX10_on : ByteArray := prog_12_method_11_code
def yX10_on : MethodName := ⟨RX10, "on", "(I)I"⟩
abbrev cX10_overlap : ByteArray := prog_12_method_12_code
def yX10_overlap : MethodName := ⟨RX10, "overlap", "(II)I"⟩
abbrev cX10_numberOf : ByteArray := prog_12_method_13_code
def yX10_numberOf : MethodName := ⟨RX10, "numberOf", "(II)I"⟩
abbrev cX10_stands : ByteArray := prog_12_method_14_code
def yX10_stands : MethodName := ⟨RX10, "stands", "(II)Z"⟩
abbrev cX10_areApart : ByteArray := prog_12_method_15_code
def yX10_areApart : MethodName := ⟨RX10, "areApart", "(II)Z"⟩
abbrev cX10_weight : ByteArray := prog_12_method_16_code
def yX10_weight : MethodName := ⟨RX10, "weight", "(II)I"⟩
abbrev cX10_beats : ByteArray := prog_12_method_17_code
def yX10_beats : MethodName := ⟨RX10, "beats", "(II)Z"⟩
abbrev cX10_bestAnswer : ByteArray := prog_12_method_18_code
def yX10_bestAnswer : MethodName := ⟨RX10, "bestAnswer", "(I)I"⟩
abbrev cX10_lowest : ByteArray := prog_12_method_19_code
def yX10_lowest : MethodName := ⟨RX10, "lowest", "(JJI)J"⟩
abbrev cX10_chanceOf : ByteArray := prog_12_method_20_code
def yX10_chanceOf : MethodName := ⟨RX10, "chanceOf", "(III)J"⟩
abbrev cX10_sides : ByteArray := prog_12_method_21_code
def yX10_sides : MethodName := ⟨RX10, "sides", "(I)I"⟩
abbrev cX10_feed : ByteArray := prog_12_method_22_code
def yX10_feed : MethodName := ⟨RX10, "feed", "(I)I"⟩
abbrev cX10_sign : ByteArray := prog_12_method_23_code
def yX10_sign : MethodName := ⟨RX10, "sign", "(I)I"⟩
abbrev cX10_reads : ByteArray := prog_12_method_24_code
def yX10_reads : MethodName := ⟨RX10, "reads", "()I"⟩
abbrev cX10_words : ByteArray := prog_12_method_25_code
def yX10_words : MethodName := ⟨RX10, "words", "()I"⟩
abbrev cX10_becomes : ByteArray := prog_12_method_26_code
def yX10_becomes : MethodName := ⟨RX10, "becomes", "(II)I"⟩
abbrev cX10_of : ByteArray := prog_12_method_27_code
def yX10_of : MethodName := ⟨RX10, "of", "(II)I"⟩
abbrev cX10_overlaps : ByteArray := prog_12_method_28_code
def yX10_overlaps : MethodName := ⟨RX10, "overlaps", "(II)I"⟩
abbrev cX10_number : ByteArray := prog_12_method_29_code
def yX10_number : MethodName := ⟨RX10, "number", "(II)I"⟩
abbrev cX10_isIn : ByteArray := prog_12_method_30_code
def yX10_isIn : MethodName := ⟨RX10, "isIn", "(II)I"⟩
abbrev cX10_chance : ByteArray := prog_12_method_31_code
def yX10_chance : MethodName := ⟨RX10, "chance", "(III)J"⟩
abbrev cX10_answered : ByteArray := prog_12_method_32_code
def yX10_answered : MethodName := ⟨RX10, "answered", "(II)J"⟩
abbrev cX10_trail : ByteArray := prog_12_method_33_code
def yX10_trail : MethodName := ⟨RX10, "trail", "(II)I"⟩
abbrev cX10_rings : ByteArray := prog_12_method_34_code
def yX10_rings : MethodName := ⟨RX10, "rings", "(II)Z"⟩
abbrev cX10_ring : ByteArray := prog_12_method_35_code
def yX10_ring : MethodName := ⟨RX10, "ring", "(I)I"⟩
abbrev cX10_sets : ByteArray := prog_12_method_36_code
def yX10_sets : MethodName := ⟨RX10, "sets", "(I)Z"⟩
abbrev cX10_isField : ByteArray := prog_12_method_37_code
def yX10_isField : MethodName := ⟨RX10, "isField", "()Z"⟩
abbrev cX10_square : ByteArray := prog_12_method_38_code
def yX10_square : MethodName := ⟨RX10, "square", "(III)J"⟩
abbrev cX10_fills : ByteArray := prog_12_method_39_code
def yX10_fills : MethodName := ⟨RX10, "fills", "(I)V"⟩
abbrev cX10_solved : ByteArray := prog_12_method_40_code
def yX10_solved : MethodName := ⟨RX10, "solved", "(II)J"⟩
abbrev cX10_field : ByteArray := prog_12_method_41_code
def yX10_field : MethodName := ⟨RX10, "field", "(III)J"⟩
abbrev cX10_mean : ByteArray := prog_12_method_42_code
def yX10_mean : MethodName := ⟨RX10, "mean", "(II)J"⟩
abbrev cX10_fourOf : ByteArray := prog_12_method_43_code
def yX10_fourOf : MethodName := ⟨RX10, "fourOf", "(I)I"⟩
abbrev cX10_within : ByteArray := prog_12_method_44_code
def yX10_within : MethodName := ⟨RX10, "within", "(III)I"⟩
abbrev cX10_endsBy : ByteArray := prog_12_method_45_code
def yX10_endsBy : MethodName := ⟨RX10, "endsBy", "(I)I"⟩
abbrev cX10_cast : ByteArray := prog_12_method_46_code
def yX10_cast : MethodName := ⟨RX10, "cast", "(I)I"⟩
abbrev cX10_drawn : ByteArray := prog_12_method_47_code
def yX10_drawn : MethodName := ⟨RX10, "drawn", "(I)I"⟩
abbrev cX10_casts : ByteArray := prog_12_method_48_code
def yX10_casts : MethodName := ⟨RX10, "casts", "(II)I"⟩
abbrev cX10_wipe : ByteArray := prog_12_method_49_code
def yX10_wipe : MethodName := ⟨RX10, "wipe", "()I"⟩
abbrev cX10_strip : ByteArray := prog_12_method_50_code
def yX10_strip : MethodName := ⟨RX10, "strip", "(I)I"⟩
abbrev cX10_endsAt : ByteArray := prog_12_method_51_code
def yX10_endsAt : MethodName := ⟨RX10, "endsAt", "(II)Z"⟩
abbrev cX10_ends : ByteArray := prog_12_method_52_code
def yX10_ends : MethodName := ⟨RX10, "ends", "(I)J"⟩
abbrev cX10_firstOf : ByteArray := prog_12_method_53_code
def yX10_firstOf : MethodName := ⟨RX10, "firstOf", "(I)I"⟩
abbrev cX10_matched : ByteArray := prog_12_method_54_code
def yX10_matched : MethodName := ⟨RX10, "matched", "(I)I"⟩
abbrev cX10_seen : ByteArray := prog_12_method_55_code
def yX10_seen : MethodName := ⟨RX10, "seen", "(II)I"⟩
abbrev cX10_who : ByteArray := prog_12_method_56_code
def yX10_who : MethodName := ⟨RX10, "who", "()I"⟩
abbrev cX10_were : ByteArray := prog_12_method_57_code
def yX10_were : MethodName := ⟨RX10, "were", "(II)I"⟩
abbrev cX10_player : ByteArray := prog_12_method_58_code
def yX10_player : MethodName := ⟨RX10, "player", "(II)I"⟩
abbrev cX10_isPlayer : ByteArray := prog_12_method_59_code
def yX10_isPlayer : MethodName := ⟨RX10, "isPlayer", "(I)Z"⟩
abbrev cX10_turned : ByteArray := prog_12_method_60_code
def yX10_turned : MethodName := ⟨RX10, "turned", "(I)I"⟩
abbrev cX10_shifted : ByteArray := prog_12_method_61_code
def yX10_shifted : MethodName := ⟨RX10, "shifted", "(I)I"⟩
abbrev cX10_ahead : ByteArray := prog_12_method_62_code
def yX10_ahead : MethodName := ⟨RX10, "ahead", "(II)I"⟩
abbrev cX10_picks : ByteArray := prog_12_method_63_code
def yX10_picks : MethodName := ⟨RX10, "picks", "(II)I"⟩
abbrev cX10_firstPick : ByteArray := prog_12_method_64_code
def yX10_firstPick : MethodName := ⟨RX10, "firstPick", "(I)I"⟩
abbrev cX10_wins : ByteArray := prog_12_method_65_code
def yX10_wins : MethodName := ⟨RX10, "wins", "(I)I"⟩
abbrev cX10_playerOf : ByteArray := prog_12_method_66_code
def yX10_playerOf : MethodName := ⟨RX10, "playerOf", "(II)I"⟩
abbrev cX10_areTwo : ByteArray := prog_12_method_67_code
def yX10_areTwo : MethodName := ⟨RX10, "areTwo", "(II)Z"⟩
abbrev cX10_pick : ByteArray := prog_12_method_68_code
def yX10_pick : MethodName := ⟨RX10, "pick", "(III)I"⟩
abbrev cX10_match : ByteArray := prog_12_method_69_code
def yX10_match : MethodName := ⟨RX10, "match", "(III)J"⟩
abbrev cX10_duels : ByteArray := prog_12_method_70_code
def yX10_duels : MethodName := ⟨RX10, "duels", "(III)I"⟩
abbrev cX10_duel : ByteArray := prog_12_method_71_code
def yX10_duel : MethodName := ⟨RX10, "duel", "(IIII)I"⟩
abbrev cX10_odds : ByteArray := prog_12_method_72_code
def yX10_odds : MethodName := ⟨RX10, "odds", "(IIIII)J"⟩
abbrev cX10_plan : ByteArray := prog_12_method_73_code
def yX10_plan : MethodName := ⟨RX10, "plan", "(II)I"⟩
abbrev cX10_does : ByteArray := prog_12_method_74_code
def yX10_does : MethodName := ⟨RX10, "does", "(II)V"⟩
abbrev cX10_behind : ByteArray := prog_12_method_75_code
def yX10_behind : MethodName := ⟨RX10, "behind", "(I)I"⟩
abbrev cX10_write : ByteArray := prog_12_method_76_code
def yX10_write : MethodName := ⟨RX10, "write", "(I)I"⟩
abbrev cX10_paper : ByteArray := prog_12_method_77_code
def yX10_paper : MethodName := ⟨RX10, "paper", "(I)I"⟩
abbrev cX10_judge : ByteArray := prog_12_method_78_code
def yX10_judge : MethodName := ⟨RX10, "judge", "(I)I"⟩
abbrev cX10_list : ByteArray := prog_12_method_79_code
def yX10_list : MethodName := ⟨RX10, "list", "(II)I"⟩
abbrev cX10_put : ByteArray := prog_12_method_80_code
def yX10_put : MethodName := ⟨RX10, "put", "(III)I"⟩
abbrev cX10_get : ByteArray := prog_12_method_81_code
def yX10_get : MethodName := ⟨RX10, "get", "(II)J"⟩
abbrev cX10_image : ByteArray := prog_12_method_82_code
def yX10_image : MethodName := ⟨RX10, "image", "()I"⟩
abbrev cX10_undo : ByteArray := prog_12_method_83_code
def yX10_undo : MethodName := ⟨RX10, "undo", "()I"⟩
abbrev cX10_count : ByteArray := prog_12_method_84_code
def yX10_count : MethodName := ⟨RX10, "count", "(I)I"⟩
def RJ6 : String := "java/lang/Integer"
def TJ6 : u_T := fun k => match k with
  | _ => ("", "", "", false)
def tyJ6 : Nat → FieldType := fun k => match k with
  | _ => .int
abbrev cJ6_bitCount_0f7a4 : ByteArray := prog_13_method_49_code
def yJ6_bitCount_0f7a4 : MethodName := ⟨RJ6, "bitCount", "(I)I"⟩
def RJ13 : String := "java/lang/Long"
def TJ13 : u_T := fun k => match k with
  | _ => ("", "", "", false)
def tyJ13 : Nat → FieldType := fun k => match k with
  | _ => .int
abbrev cJ13_bitCount_95d88 : ByteArray := prog_14_method_50_code
def yJ13_bitCount_95d88 : MethodName := ⟨RJ13, "bitCount", "(J)I"⟩
def RJ9 : String := "java/lang/Math"
def TJ9 : u_T := fun k => match k with
  | _ => ("", "", "", false)
def tyJ9 : Nat → FieldType := fun k => match k with
  | _ => .int
abbrev cJ9_max_7cf53 : ByteArray := prog_15_method_65_code
def yJ9_max_7cf53 : MethodName := ⟨RJ9, "max", "(II)I"⟩
abbrev cJ9_min_7cf53 : ByteArray := prog_15_method_69_code
def yJ9_min_7cf53 : MethodName := ⟨RJ9, "min", "(II)I"⟩
def RJ10 : String := "java/lang/System"
def TJ10 : u_T := fun k => match k with
  | _ => ("", "", "", false)
def tyJ10 : Nat → FieldType := fun k => match k with
  | _ => .int
def RJ7 : String := "java/util/Arrays"
def TJ7 : u_T := fun k => match k with
  | _ => ("", "", "", false)
def tyJ7 : Nat → FieldType := fun k => match k with
  | _ => .int
abbrev cJ7_fill_53178 : ByteArray := prog_17_method_103_code
def yJ7_fill_53178 : MethodName := ⟨RJ7, "fill", "([II)V"⟩
def RL : String := "WordRaceLaw"
abbrev cL_law : ByteArray := code
def yL_law : MethodName := ⟨RL, "law", "([I)Z"⟩
abbrev vwCl : List vw_C := [(RX0, TX0, 10), (RX1, TX1, 2), (RX2, TX2, 6), (RX5, TX5, 2), (RX6, TX6, 2), (RX7, TX7, 6), (RX9, TX9, 13), (RX10, TX10, 29)]
abbrev zm_WL : List Jvm.Cond := lw_tbl.filter goodWord
theorem zm_WL_in {w : Jvm.Cond} (n : Nat) (h : lw_tbl[n]? = some w) (hg : goodWord w = true) : w ∈ zm_WL := List.mem_filter.mpr ⟨List.mem_of_getElem? h, hg⟩
end
section
/-! A SMALL MACHINE: the bytecode's own steps over a picture of the cells. A reference is the number of a cell in the picture (below 1000 the class's, from 1000 on the reference's); 2000000 is the static row TENS, 2000001 the script. Every step is a function; 'none' is what has no answer. -/
abbrev zm_E : Type := vp_A ⊕ (Nat × List Value)
abbrev zm_H : Type := List zm_E × List zm_E
abbrev zm_L : Type := List (Option Value)
abbrev zm_R : Type := Option Value × zm_H
abbrev zm_I : Type := Instr × Nat × Nat × Nat × Nat × List (Int × Nat)
abbrev zm_T : Type := List (List (Nat × zm_I))
abbrev zm_S : Type := Option (Nat × (Nat → Int32))
abbrev zm_G : Type := Nat → zm_L → List Value → zm_H → Option zm_R
abbrev zm_C : Type := Nat → List Value → zm_H → Option zm_R
def zm_get (h : zm_H) (k : Nat) : Option zm_E := bif Nat.blt k 1000 then h.1[k]? else h.2[k - 1000]?
def zm_set (h : zm_H) (k : Nat) (e : zm_E) : zm_H := bif Nat.blt k 1000 then (h.1.set k e, h.2) else (h.1, h.2.set (k - 1000) e)
def zm_ten : Nat → Int32
  | 0 => 1
  | 1 => 10
  | 2 => 100
  | 3 => 1000
  | 4 => 10000
  | 5 => 100000
  | _ => 0
def zm_ro (sc : zm_S) (k : Nat) : zm_S := bif Nat.beq k 2000000 then some (6, zm_ten) else bif Nat.beq k 2000001 then sc else none
def zm_in (i : Int32) (n : Nat) : Bool := decide (¬ (i < 0 ∨ n ≤ i.toNatClampNeg))
def zm_drop (lv : zm_L) : Nat → zm_L
  | 0 => lv
  | j + 1 => match lv[j]? with
    | some (some v) => bif Nat.beq v.category 2 then lv.set j none else lv
    | _ => lv
def zm_st1 (lv : zm_L) (i : Nat) (v : Value) : zm_L := (zm_drop lv i).set i (some v)
def zm_st2 (lv : zm_L) (i : Nat) (v : Value) : zm_L := ((zm_drop lv i).set i (some v)).set (i + 1) none
def zm_args : Nat → List Value → List Value → Option (List Value × List Value)
  | 0, acc, st => some (acc, st)
  | _ + 1, _, [] => none
  | n + 1, acc, v :: st => zm_args n (v :: acc) st
def zm_c0 (r : Option zm_R) (k : zm_H → Option zm_R) : Option zm_R := match r with
  | some (none, h) => k h
  | _ => none
def zm_c1 (r : Option zm_R) (k : Int32 → zm_H → Option zm_R) : Option zm_R := match r with
  | some (some (.int x), h) => k x h
  | _ => none
def zm_c2 (r : Option zm_R) (k : Int64 → zm_H → Option zm_R) : Option zm_R := match r with
  | some (some (.long x), h) => k x h
  | _ => none
def zm_sw (x : Int32) (go : Nat → Option zm_R) (d : Nat) : List (Int × Nat) → Option zm_R
  | [] => go d
  | (k, t) :: r => bif decide (x.toInt = k) then go t else zm_sw x go d r
def zm_icmp (c : ClassFile.Cond) (x y : Int32) : Bool := match c with
  | .eq => decide (x = y)
  | .ne => decide (¬ x = y)
  | .lt => decide (x < y)
  | .ge => decide (y ≤ x)
  | .gt => decide (y < x)
  | .le => decide (x ≤ y)
def zm_iload (lv : zm_L) (i : Nat) (k : Int32 → Option zm_R) : Option zm_R := match lv[i]? with
  | some (some (.int x)) => k x
  | _ => none
def zm_lload (lv : zm_L) (i : Nat) (k : Int64 → Option zm_R) : Option zm_R := match lv[i]? with
  | some (some (.long x)) => k x
  | _ => none
def zm_aload (lv : zm_L) (i : Nat) (k : Nat → Option zm_R) : Option zm_R := match lv[i]? with
  | some (some (.ref x)) => k x
  | _ => none
def zm_p1 (st : List Value) (k : Int32 → List Value → Option zm_R) : Option zm_R := match st with
  | .int x :: r => k x r
  | _ => none
def zm_p2 (st : List Value) (k : Int32 → Int32 → List Value → Option zm_R) : Option zm_R := match st with
  | .int y :: .int x :: r => k x y r
  | _ => none
def zm_q1 (st : List Value) (k : Int64 → List Value → Option zm_R) : Option zm_R := match st with
  | .long x :: r => k x r
  | _ => none
def zm_q2 (st : List Value) (k : Int64 → Int64 → List Value → Option zm_R) : Option zm_R := match st with
  | .long y :: .long x :: r => k x y r
  | _ => none
def zm_qs (st : List Value) (k : Int64 → Int32 → List Value → Option zm_R) : Option zm_R := match st with
  | .int y :: .long x :: r => k x y r
  | _ => none
def zm_a1 (st : List Value) (k : Nat → List Value → Option zm_R) : Option zm_R := match st with
  | .ref x :: r => k x r
  | _ => none
def zm_ix (st : List Value) (k : Nat → Int32 → List Value → Option zm_R) : Option zm_R := match st with
  | .int i :: .ref a :: r => k a i r
  | _ => none
def zm_is (st : List Value) (k : Nat → Int32 → Int32 → List Value → Option zm_R) : Option zm_R := match st with
  | .int x :: .int i :: .ref a :: r => k a i x r
  | _ => none
def zm_js (st : List Value) (k : Nat → Int32 → Int64 → List Value → Option zm_R) : Option zm_R := match st with
  | .long x :: .int i :: .ref a :: r => k a i x r
  | _ => none
def zm_ps (st : List Value) (k : Nat → Int32 → List Value → Option zm_R) : Option zm_R := match st with
  | .int x :: .ref a :: r => k a x r
  | _ => none
def zm_cy (st : List Value) (k : Nat → Int32 → Nat → Int32 → Int32 → List Value → Option zm_R) : Option zm_R := match st with
  | .int n :: .int dp :: .ref b :: .int sp :: .ref a :: r => k a sp b dp n r
  | _ => none
def zm_ia (h : zm_H) (a : Nat) (k : Nat → (Nat → Int32) → Option zm_R) : Option zm_R := match zm_get h a with
  | some (.inl (n, .inl f)) => k n f
  | _ => none
def zm_ja (h : zm_H) (a : Nat) (k : Nat → (Nat → Int64) → Option zm_R) : Option zm_R := match zm_get h a with
  | some (.inl (n, .inr (.inl f))) => k n f
  | _ => none
def zm_aa (h : zm_H) (a : Nat) (k : Nat → (Nat → Option Nat) → Option zm_R) : Option zm_R := match zm_get h a with
  | some (.inl (n, .inr (.inr (.inr (.inr f))))) => k n f
  | _ => none
def zm_ob (h : zm_H) (a ci : Nat) (k : List Value → Option zm_R) : Option zm_R := match zm_get h a with
  | some (.inr (c, fs)) => bif Nat.beq c ci then k fs else none
  | _ => none
def zm_ov {α : Type} (o : Option α) (k : α → Option zm_R) : Option zm_R := match o with
  | some v => k v
  | none => none
def zm_01 (x : Int32) : Bool := decide (x = 0) || decide (x = 1)
def zm_ld (sc : zm_S) (h : zm_H) (a : Nat) (i : Int32) (k : Int32 → Option zm_R) : Option zm_R := match zm_ro sc a with
  | some (n, f) => bif zm_in i n then k (f i.toNatClampNeg) else none
  | none => zm_ia h a fun n f => bif zm_in i n then k (f i.toNatClampNeg) else none
/-- which cells are objects, and of which class -/
def zm_oc (k : Nat) : Nat := bif Nat.beq k 0 then 6 else bif Nat.beq k 1 || Nat.beq k 9 then 0 else bif Nat.beq k 3 || (Nat.beq k 11 || Nat.beq k 27) then 4 else bif Nat.beq k 17 then 5 else bif Nat.beq k 29 then 2 else bif Nat.beq k 41 then 3 else bif Nat.beq k 44 then 1 else bif Nat.beq k 1000 then 7 else 99
def zm_rc (ar : List Value) (ci : Nat) : Bool := match ar with
  | .ref k :: _ => Nat.beq (zm_oc k) ci
  | _ => false
/-- one instruction: pc, locals, operand stack, picture; G goes on, C calls -/
def zm_do (rb : Bool) (sc : zm_S) (C : zm_C) (G : zm_G) (i : zm_I) (pc : Nat) (lv : zm_L) (st : List Value) (h : zm_H) : Option zm_R := match i with
  | (ins, len, x1, x2, x3, ps) => match ins with
    | .iconst n => G (pc + 1) lv (.int (Int32.ofInt n) :: st) h
    | .bipush n => G (pc + 2) lv (.int (Int8.ofInt n).toInt32 :: st) h
    | .sipush n => G (pc + 3) lv (.int (Int16.ofInt n).toInt32 :: st) h
    | .lconst n => G (pc + 1) lv (.long (Int64.ofNat n) :: st) h
    | .ldc _ => zm_ov ps.head? fun q => G (pc + 2) lv (.int (Int32.ofInt q.1) :: st) h
    | .ldc_w _ => zm_ov ps.head? fun q => G (pc + 3) lv (.int (Int32.ofInt q.1) :: st) h
    | .ldc2_w _ => zm_ov ps.head? fun q => G (pc + 3) lv (.long (Int64.ofInt q.1) :: st) h
    | .iload_n k => zm_iload lv k fun x => G (pc + 1) lv (.int x :: st) h
    | .iload k => zm_iload lv k fun x => G (pc + 2) lv (.int x :: st) h
    | .lload_n k => zm_lload lv k fun x => G (pc + 1) lv (.long x :: st) h
    | .lload k => zm_lload lv k fun x => G (pc + 2) lv (.long x :: st) h
    | .aload_n k => zm_aload lv k fun x => G (pc + 1) lv (.ref x :: st) h
    | .aload k => zm_aload lv k fun x => G (pc + 2) lv (.ref x :: st) h
    | .istore_n k => zm_p1 st fun x r => bif Nat.blt k lv.length then G (pc + 1) (zm_st1 lv k (.int x)) r h else none
    | .istore k => zm_p1 st fun x r => bif Nat.blt k lv.length then G (pc + 2) (zm_st1 lv k (.int x)) r h else none
    | .astore_n k => zm_a1 st fun x r => bif Nat.blt k lv.length then G (pc + 1) (zm_st1 lv k (.ref x)) r h else none
    | .astore k => zm_a1 st fun x r => bif Nat.blt k lv.length then G (pc + 2) (zm_st1 lv k (.ref x)) r h else none
    | .lstore_n k => zm_q1 st fun x r => bif Nat.blt (k + 1) lv.length then G (pc + 1) (zm_st2 lv k (.long x)) r h else none
    | .lstore k => zm_q1 st fun x r => bif Nat.blt (k + 1) lv.length then G (pc + 2) (zm_st2 lv k (.long x)) r h else none
    | .iinc k n => zm_iload lv k fun x => bif Nat.blt k lv.length then G (pc + 3) (zm_st1 lv k (.int (x + Int32.ofInt n))) st h else none
    | .iadd => zm_p2 st fun x y r => G (pc + 1) lv (.int (x + y) :: r) h
    | .isub => zm_p2 st fun x y r => G (pc + 1) lv (.int (x - y) :: r) h
    | .imul => zm_p2 st fun x y r => G (pc + 1) lv (.int (x * y) :: r) h
    | .iand => zm_p2 st fun x y r => G (pc + 1) lv (.int (x &&& y) :: r) h
    | .ior => zm_p2 st fun x y r => G (pc + 1) lv (.int (x ||| y) :: r) h
    | .ixor => zm_p2 st fun x y r => G (pc + 1) lv (.int (x ^^^ y) :: r) h
    | .idiv => zm_p2 st fun x y r => bif decide (y = 0) then none else G (pc + 1) lv (.int (x / y) :: r) h
    | .irem => zm_p2 st fun x y r => bif decide (y = 0) then none else G (pc + 1) lv (.int (x - x / y * y) :: r) h
    | .ineg => zm_p1 st fun x r => G (pc + 1) lv (.int (-x) :: r) h
    | .ishl => zm_p2 st fun x y r => G (pc + 1) lv (.int (x <<< (y &&& 31)) :: r) h
    | .ishr => zm_p2 st fun x y r => G (pc + 1) lv (.int (x >>> (y &&& 31)) :: r) h
    | .iushr => zm_p2 st fun x y r => G (pc + 1) lv (.int (x.toUInt32 >>> (y.toUInt32 &&& Int32.toUInt32 31)).toInt32 :: r) h
    | .ladd => zm_q2 st fun x y r => G (pc + 1) lv (.long (x + y) :: r) h
    | .lsub => zm_q2 st fun x y r => G (pc + 1) lv (.long (x - y) :: r) h
    | .lmul => zm_q2 st fun x y r => G (pc + 1) lv (.long (x * y) :: r) h
    | .land => zm_q2 st fun x y r => G (pc + 1) lv (.long (x &&& y) :: r) h
    | .lor => zm_q2 st fun x y r => G (pc + 1) lv (.long (x ||| y) :: r) h
    | .ldiv => zm_q2 st fun x y r => bif decide (y = 0) then none else G (pc + 1) lv (.long (x / y) :: r) h
    | .lrem => zm_q2 st fun x y r => bif decide (y = 0) then none else G (pc + 1) lv (.long (x - x / y * y) :: r) h
    | .lneg => zm_q1 st fun x r => G (pc + 1) lv (.long (-x) :: r) h
    | .lshl => zm_qs st fun x y r => G (pc + 1) lv (.long (x <<< (y.toInt64 &&& 63)) :: r) h
    | .lushr => zm_qs st fun x y r => G (pc + 1) lv (.long (x.toUInt64 >>> (y.toInt64.toUInt64 &&& Int64.toUInt64 63)).toInt64 :: r) h
    | .lcmp => zm_q2 st fun x y r => G (pc + 1) lv (.int (lg_cmp x y) :: r) h
    | .i2l => zm_p1 st fun x r => G (pc + 1) lv (.long x.toInt64 :: r) h
    | .l2i => zm_q1 st fun x r => G (pc + 1) lv (.int x.toInt32 :: r) h
    | .dup => match st with
      | a :: r => bif Nat.beq a.category 1 then G (pc + 1) lv (a :: a :: r) h else none
      | _ => none
    | .pop => match st with
      | a :: r => bif Nat.beq a.category 1 then G (pc + 1) lv r h else none
      | _ => none
    | .dup_x1 => match st with
      | a :: b :: r => bif Nat.beq a.category 1 && Nat.beq b.category 1 then G (pc + 1) lv (a :: b :: a :: r) h else none
      | _ => none
    | .dup2 => match st with
      | a :: b :: r => bif Nat.beq a.category 1 && Nat.beq b.category 1 then G (pc + 1) lv (a :: b :: a :: b :: r) h else none
      | _ => none
    | .if_icmp c _ => zm_p2 st fun x y r => bif zm_icmp c x y then G x1 lv r h else G (pc + 3) lv r h
    | .ifCond c _ => zm_p1 st fun x r => bif zm_icmp c x 0 then G x1 lv r h else G (pc + 3) lv r h
    | .goto _ => G x1 lv st h
    | .tableswitch _ _ _ _ => zm_p1 st fun x r => zm_sw x (fun t => G t lv r h) x1 ps
    | .lookupswitch _ _ => zm_p1 st fun x r => zm_sw x (fun t => G t lv r h) x1 ps
    | .arraylength => zm_a1 st fun a r => match zm_ro sc a with
      | some (n, _) => G (pc + 1) lv (.int (Int32.ofNat n) :: r) h
      | none => zm_ia h a fun n _ => G (pc + 1) lv (.int (Int32.ofNat n) :: r) h
    | .iaload => zm_ix st fun a i r => zm_ld sc h a i fun v => G (pc + 1) lv (.int v :: r) h
    | .laload => zm_ix st fun a i r => zm_ja h a fun n f => bif zm_in i n then G (pc + 1) lv (.long (f i.toNatClampNeg) :: r) h else none
    | .aaload => zm_ix st fun a i r => zm_aa h a fun n f => bif zm_in i n then zm_ov (f i.toNatClampNeg) fun q => G (pc + 1) lv (.ref q :: r) h else none
    | .iastore => zm_is st fun a i x r => zm_ia h a fun n f => bif zm_in i n then G (pc + 1) lv r (zm_set h a (.inl (n, .inl (upd f i.toNatClampNeg x)))) else none
    | .lastore => zm_js st fun a i x r => zm_ja h a fun n f => bif zm_in i n then G (pc + 1) lv r (zm_set h a (.inl (n, .inr (.inl (vp_updL f i.toNatClampNeg x))))) else none
    | .getfield _ => zm_a1 st fun a r => zm_ob h a x1 fun fs => zm_ov fs[x2]? fun v => G (pc + 3) lv (v :: r) h
    | .putfield _ => zm_ps st fun a x r => zm_ob h a x1 fun fs => bif Nat.blt x2 fs.length && (Nat.beq x3 0 || zm_01 x) then G (pc + 3) lv r (zm_set h a (.inr (x1, fs.set x2 (.int x)))) else none
    | .getstatic _ => G (pc + 3) lv (.ref 2000000 :: st) h
    | .invokestatic _ => bif Nat.ble 9990 x1 then (bif Nat.beq x1 9999 then zm_cy st fun a sp b dp n r => bif Nat.ble (r.map fun v => v.category).sum 8 then zm_ia h a fun n0 f => zm_ia h b fun n1 g => bif decide (¬ sp < 0) && decide (¬ dp < 0) && decide (¬ n < 0) && Nat.ble (sp.toNatClampNeg + n.toNatClampNeg) n0 && Nat.ble (dp.toNatClampNeg + n.toNatClampNeg) n1 then G (pc + 3) lv r (zm_set h b (.inl (n1, .inl (va_cpy f g sp.toNatClampNeg dp.toNatClampNeg n.toNatClampNeg)))) else none else none
        else bif Nat.beq x1 9998 then zm_p2 st fun x y r => bif Nat.ble (r.map fun v => v.category).sum 8 then G (pc + 3) lv (.int (if y < x then y else x) :: r) h else none
        else zm_p2 st fun x y r => bif Nat.ble (r.map fun v => v.category).sum 8 then G (pc + 3) lv (.int (if x < y then y else x) :: r) h else none)
      else zm_ov (zm_args x2 [] st) fun ar => bif Nat.ble (ar.2.map fun v => v.category).sum 8 then (bif Nat.beq x3 0 then zm_c0 (C x1 ar.1 h) fun h2 => G (pc + 3) lv ar.2 h2 else bif Nat.beq x3 1 then zm_c1 (C x1 ar.1 h) fun x h2 => G (pc + 3) lv (.int x :: ar.2) h2 else zm_c2 (C x1 ar.1 h) fun x h2 => G (pc + 3) lv (.long x :: ar.2) h2) else none
    | .invokevirtual _ => zm_ov (zm_args x2 [] st) fun ar => bif Nat.ble (ar.2.map fun v => v.category).sum 8 && zm_rc ar.1 len then (bif Nat.ble 9990 x1 then none else bif Nat.beq x3 0 then zm_c0 (C x1 ar.1 h) fun h2 => G (pc + 3) lv ar.2 h2 else bif Nat.beq x3 1 then zm_c1 (C x1 ar.1 h) fun x h2 => G (pc + 3) lv (.int x :: ar.2) h2 else zm_c2 (C x1 ar.1 h) fun x h2 => G (pc + 3) lv (.long x :: ar.2) h2) else none
    | .ireturn => match st with
      | [.int x] => bif rb then (bif zm_01 x then some (some (.int x), h) else none) else some (some (.int x), h)
      | _ => none
    | .lreturn => match st with
      | [.long x] => some (some (.long x), h)
      | _ => none
    | .return_ => match st with
      | [] => some (none, h)
      | _ => none
    | _ => none
def zm_find (pc : Nat) : List (Nat × zm_I) → Option zm_I
  | [] => none
  | (p, i) :: r => bif Nat.beq p pc then some i else zm_find pc r
def zm_look (T : zm_T) (pc : Nat) : Option zm_I := match T[pc / 16]? with
  | some l => zm_find pc l
  | none => none
def zm_cut (cuts : List Nat) (pc : Nat) : Bool := match cuts with
  | [] => false
  | q :: r => bif Nat.beq q pc then true else zm_cut r pc
/-- a stretch: from pc to the next cut (K goes on there) -/
def zm_blk (T : zm_T) (cuts : List Nat) (rb : Bool) (sc : zm_S) (C : zm_C) (K : zm_G) : Nat → zm_G
  | 0 => fun _ _ _ _ => none
  | n + 1 => fun pc lv st h => match zm_look T pc with
    | none => none
    | some i => zm_do rb sc C (fun pc lv st h => bif zm_cut cuts pc then K pc lv st h else zm_blk T cuts rb sc C K n pc lv st h) i pc lv st h
/-- from a cut on -/
def zm_run (T : zm_T) (cuts : List Nat) (rb : Bool) (sc : zm_S) (C : zm_C) : Nat → zm_G
  | 0 => fun _ _ _ _ => none
  | f + 1 => fun pc lv st h => zm_blk T cuts rb sc C (zm_run T cuts rb sc C f) 3000 pc lv st h
def zm_ent : List Value → zm_L
  | [] => []
  | v :: r => bif Nat.beq v.category 2 then some v :: none :: zm_ent r else some v :: zm_ent r
def zm_pad (n : Nat) (l : zm_L) : zm_L := l ++ List.replicate (n - l.length) none
end
section
/-! the picture of the small machine against the heap; what its instructions' words are -/
def zm_v (ρ : Nat → Nat) : Value → Value
  | .ref k => .ref (ρ k)
  | v => v
def zm_A (ρ : Nat → Nat) (a : vp_A) : vp_A := match a with
  | (n, .inr (.inr (.inr (.inr f)))) => (n, .inr (.inr (.inr (.inr (fun j => (f j).map ρ)))))
  | a => a
def zm_k (dA : Nat → ClassId) (a : vp_A) : ClassId := match a.2 with
  | .inl _ => dA 0
  | .inr (.inl _) => dA 1
  | _ => dA 2
def zm_e (ρ : Nat → Nat) (dA : Nat → ClassId) : zm_E → va_E
  | .inl a => .inl (zm_k dA a, zm_A ρ a)
  | .inr (c, fs) => .inr (c, fs.map (zm_v ρ))
def zm_w (ρ : Nat → Nat) (dA : Nat → ClassId) (h : zm_H) : va_W := h.1.mapIdx (fun k e => (ρ k, zm_e ρ dA e)) ++ h.2.mapIdx (fun k e => (ρ (1000 + k), zm_e ρ dA e))
def zm_pos (h : zm_H) (k : Nat) : Nat := bif Nat.blt k 1000 then k else h.1.length + (k - 1000)
theorem zm_cat (ρ : Nat → Nat) (v : Value) : (zm_v ρ v).category = v.category := by cases v <;> rfl
theorem zm_w_get {ρ : Nat → Nat} {dA : Nat → ClassId} {h : zm_H} {k : Nat} {e : zm_E} (hg : zm_get h k = some e) : (zm_w ρ dA h)[zm_pos h k]? = some (ρ k, zm_e ρ dA e) := by
  unfold zm_get at hg
  unfold zm_w zm_pos
  cases hk : Nat.blt k 1000 with
  | true =>
    rw [hk] at hg
    simp only [cond_true] at hg ⊢
    have hlt : k < h.1.length := (List.getElem?_eq_some_iff.mp hg).1
    rw [List.getElem?_append_left (by simpa using hlt), List.getElem?_mapIdx, hg]
    rfl
  | false =>
    rw [hk] at hg
    simp only [cond_false] at hg ⊢
    have hge : 1000 ≤ k := by
      rcases Nat.lt_or_ge k 1000 with q | q
      · rw [show Nat.blt k 1000 = true from Nat.ble_eq_true_of_le q] at hk; cases hk
      · exact q
    rw [List.getElem?_append_right (by simp), List.getElem?_mapIdx]
    simp only [List.length_mapIdx, Nat.add_sub_cancel_left, hg]
    show some (ρ (1000 + (k - 1000)), _) = _
    rw [show 1000 + (k - 1000) = k by omega]
theorem zm_w_set {ρ : Nat → Nat} {dA : Nat → ClassId} {h : zm_H} {k : Nat} {e0 e : zm_E} (hg : zm_get h k = some e0) : zm_w ρ dA (zm_set h k e) = (zm_w ρ dA h).set (zm_pos h k) (ρ k, zm_e ρ dA e) := by
  unfold zm_get at hg
  unfold zm_w zm_pos zm_set
  cases hk : Nat.blt k 1000 with
  | true =>
    rw [hk] at hg
    simp only [cond_true] at hg ⊢
    have hlt : k < h.1.length := (List.getElem?_eq_some_iff.mp hg).1
    rw [List.mapIdx_set, List.set_append_left _ _ (by simpa using hlt)]
  | false =>
    rw [hk] at hg
    simp only [cond_false] at hg ⊢
    have hge : 1000 ≤ k := by
      rcases Nat.lt_or_ge k 1000 with q | q
      · rw [show Nat.blt k 1000 = true from Nat.ble_eq_true_of_le q] at hk; cases hk
      · exact q
    rw [List.mapIdx_set, List.set_append_right _ _ (by simp)]
    simp only [List.length_mapIdx, Nat.add_sub_cancel_left]
    rw [show 1000 + (k - 1000) = k by omega]
/-- the locals -/
def zm_has (ρ : Nat → Nat) (ls : Array Slot) (nL : Nat) (lv : zm_L) : Prop := ls.size = nL ∧ lv.length = nL ∧ lv_wf ls ∧ ∀ (i : Nat) (v : Value), lv[i]? = some (some v) → ls[i]? = some (.val (zm_v ρ v))
def zm_as (ρ : Nat → Nat) (lv : zm_L) : List (Nat × Value) := (List.range lv.length).filterMap (fun i => match lv[i]? with
  | some (some v) => some (i, zm_v ρ v)
  | _ => none)
theorem zm_as_mem {ρ : Nat → Nat} {lv : zm_L} {q : Nat × Value} : q ∈ zm_as ρ lv ↔ ∃ v, lv[q.1]? = some (some v) ∧ q.2 = zm_v ρ v := by
  unfold zm_as
  rw [List.mem_filterMap]
  constructor
  · rintro ⟨i, -, h⟩
    split at h
    · next v hv => cases h; exact ⟨v, hv, rfl⟩
    · cases h
  · rintro ⟨v, h1, h2⟩
    refine ⟨q.1, List.mem_range.mpr (List.getElem?_eq_some_iff.mp h1).1, ?_⟩
    rw [h1]
    simp only [← h2]
theorem zm_has_lv {ρ : Nat → Nat} {ls : Array Slot} {nL : Nat} {lv : zm_L} (h : zm_has ρ ls nL lv) : lv_has ls nL (zm_as ρ lv) := by
  refine ⟨h.1, h.2.2.1, fun q hq => ?_⟩
  obtain ⟨v, h1, h2⟩ := zm_as_mem.mp hq
  rw [h2]
  exact h.2.2.2 _ _ h1
theorem zm_drop_get {lv : zm_L} {i j : Nat} {v : Value} (h : (zm_drop lv i)[j]? = some (some v)) : lv[j]? = some (some v) ∧ ¬ (j + 1 = i ∧ v.category = 2) := by
  cases i with
  | zero => exact ⟨h, fun q => by omega⟩
  | succ i =>
    simp only [zm_drop] at h
    split at h
    · next w hw =>
      cases hc : Nat.beq w.category 2 with
      | true =>
        rw [hc] at h
        simp only [cond_true, List.getElem?_set] at h
        split at h
        · split at h <;> cases h
        · next hne => exact ⟨h, fun q => hne (by omega)⟩
      | false =>
        rw [hc] at h
        simp only [cond_false] at h
        refine ⟨h, fun q => ?_⟩
        have : j = i := by omega
        subst this
        rw [h] at hw
        cases hw
        rw [q.2] at hc
        cases hc
    · next hn =>
      refine ⟨h, fun q => ?_⟩
      have : j = i := by omega
      subst this
      exact hn v h
theorem zm_drop_len (lv : zm_L) (i : Nat) : (zm_drop lv i).length = lv.length := by
  cases i with
  | zero => rfl
  | succ i =>
    simp only [zm_drop]
    split
    · next w _ => cases Nat.beq w.category 2 <;> simp
    · rfl
theorem zm_has_st1 {ρ : Nat → Nat} {ls' : Array Slot} {nL i : Nat} {lv : zm_L} {v : Value} (hn : lv.length = nL) (h : lv_has ls' nL ((i, zm_v ρ v) :: (zm_as ρ lv).filter (fun q => !(q.1 == i) && !(q.1 + 1 == i && q.2.category == 2)))) : zm_has ρ ls' nL (zm_st1 lv i v) := by
  refine ⟨h.1, by unfold zm_st1; rw [List.length_set, zm_drop_len, hn], h.2.1, fun j w hw => ?_⟩
  unfold zm_st1 at hw
  rw [List.getElem?_set] at hw
  split at hw
  · next e =>
    subst e
    split at hw
    · cases hw; exact h.2.2 (i, zm_v ρ v) List.mem_cons_self
    · cases hw
  · next hne =>
    obtain ⟨h1, h2⟩ := zm_drop_get hw
    refine h.2.2 (j, zm_v ρ w) (List.mem_cons_of_mem _ (List.mem_filter.mpr ⟨zm_as_mem.mpr ⟨w, h1, rfl⟩, ?_⟩))
    simp only [zm_cat, Bool.and_eq_true, Bool.not_eq_true', beq_eq_false_iff_ne, Bool.and_eq_false_iff]
    refine ⟨fun q => hne q.symm, ?_⟩
    rcases Nat.decEq (j + 1) i with q | q
    · exact Or.inl q
    · exact Or.inr fun q2 => h2 ⟨q, q2⟩
theorem zm_has_st2 {ρ : Nat → Nat} {ls' : Array Slot} {nL i : Nat} {lv : zm_L} {v : Value} (hn : lv.length = nL) (h : lv_has ls' nL ((i, zm_v ρ v) :: (zm_as ρ lv).filter (fun q => !(q.1 == i) && (!(q.1 == i + 1) && !(q.1 + 1 == i && q.2.category == 2))))) : zm_has ρ ls' nL (zm_st2 lv i v) := by
  refine ⟨h.1, by unfold zm_st2; rw [List.length_set, List.length_set, zm_drop_len, hn], h.2.1, fun j w hw => ?_⟩
  unfold zm_st2 at hw
  rw [List.getElem?_set] at hw
  split at hw
  · split at hw <;> cases hw
  · next hne1 =>
    rw [List.getElem?_set] at hw
    split at hw
    · next e =>
      subst e
      split at hw
      · cases hw; exact h.2.2 (i, zm_v ρ v) List.mem_cons_self
      · cases hw
    · next hne =>
      obtain ⟨h1, h2⟩ := zm_drop_get hw
      refine h.2.2 (j, zm_v ρ w) (List.mem_cons_of_mem _ (List.mem_filter.mpr ⟨zm_as_mem.mpr ⟨w, h1, rfl⟩, ?_⟩))
      simp only [zm_cat, Bool.and_eq_true, Bool.not_eq_true', beq_eq_false_iff_ne, Bool.and_eq_false_iff]
      refine ⟨fun q => hne q.symm, fun q => hne1 q.symm, ?_⟩
      rcases Nat.decEq (j + 1) i with q | q
      · exact Or.inl q
      · exact Or.inr fun q2 => h2 ⟨q, q2⟩
theorem zm_args_eq : ∀ (n : Nat) (acc st : List Value) (ar : List Value × List Value), zm_args n acc st = some ar → ∃ t : List Value, t.length = n ∧ st = t ++ ar.2 ∧ ar.1 = t.reverse ++ acc
  | 0, acc, st, ar, h => by cases h; exact ⟨[], rfl, rfl, rfl⟩
  | n + 1, acc, [], ar, h => by cases h
  | n + 1, acc, v :: st, ar, h => by
    obtain ⟨t, h1, h2, h3⟩ := zm_args_eq n (v :: acc) st ar h
    exact ⟨v :: t, by simp [h1], by rw [h2]; rfl, by rw [h3]; simp⟩
end
section
/-! one instruction of the small machine is one of the machine -/
def zm_ln (ins : Instr) (len : Nat) : Nat := match ins with
  | .bipush _ | .iload _ | .lload _ | .aload _ | .istore _ | .lstore _ | .astore _ | .ldc _ => 2
  | .sipush _ | .ldc_w _ | .ldc2_w _ | .iinc _ _ | .if_icmp _ _ | .ifCond _ _ | .goto _ | .getfield _ | .putfield _ | .getstatic _ | .invokestatic _ | .invokevirtual _ => 3
  | .tableswitch _ _ _ _ | .lookupswitch _ _ => len
  | _ => 1
/-- where a switch goes: the pairs of the table, the default -/
def zm_tab (pc : Nat) (dflt lo hi : Int) (offs : List Int) (d : Nat) (ps : List (Int × Nat)) : Prop :=
  (pc : Int) + dflt = (d : Int) ∧ hi + 1 = lo + offs.length ∧ ps.length = offs.length ∧ ∀ (j : Nat) (k : Int) (t : Nat), ps[j]? = some (k, t) → k = lo + j ∧ ∃ off, offs[j]? = some off ∧ (pc : Int) + off = (t : Int)
def zm_tav (pc : Nat) (dflt : Int) (prs : List (Int × Int)) (d : Nat) (ps : List (Int × Nat)) : Prop :=
  (pc : Int) + dflt = (d : Int) ∧ (prs.zip (prs.drop 1)).all (fun (a, next) => a.1 < next.1) = true ∧ ps.map (fun q => (q.1, (q.2 : Int))) = prs.map (fun q => (q.1, (pc : Int) + q.2))
/-- the words of an instruction that the tables link -/
def zm_lk (own : String) (pc : Nat) (i : zm_I) : Prop := match i with
  | (ins, _, x1, x2, x3, ps) => match ins with
    | .getfield idx => ∃ (C : String) (T : u_T) (N : Nat), vwCl[x1]? = some (C, T, N) ∧ x2 < N ∧ (∀ w ∈ u_ws C T N, w ∈ zm_WL) ∧ Jvm.Cond.fieldLink own idx (T x2).1 (T x2).2.1 (T x2).2.2.1 ∈ zm_WL
    | .putfield idx => ∃ (C : String) (T : u_T) (N : Nat) (ty0 : Nat → FieldType), vwCl[x1]? = some (C, T, N) ∧ x2 < N ∧ (∀ w ∈ u_ws C T N, w ∈ zm_WL) ∧ Jvm.Cond.fieldLink own idx (T x2).1 (T x2).2.1 (T x2).2.2.1 ∈ zm_WL ∧ (∀ k, k < N → parseFieldDescriptor (T k).2.2.1 = some (ty0 k)) ∧ (∀ a, a < N → ∀ b, b < N → a ≠ b → (T a).2.1 ≠ (T b).2.1) ∧ (T x2).2.2.2 = false ∧ ((ty0 x2 = .int ∧ x3 = 0) ∨ (ty0 x2 = .boolean ∧ x3 = 1))
    | .getstatic idx => Jvm.Cond.fieldLink own idx "WordRace$Word" "TENS" "[I" ∈ zm_WL
    | .ldc idx => ∀ q, ps.head? = some q → Jvm.Cond.constant own idx (Int32.ofInt q.1) ∈ zm_WL
    | .ldc_w idx => ∀ q, ps.head? = some q → Jvm.Cond.constant own idx (Int32.ofInt q.1) ∈ zm_WL
    | .ldc2_w idx => ∀ q, ps.head? = some q → Jvm.Cond.constantLong own idx (Int64.ofInt q.1) ∈ zm_WL
    | .if_icmp _ off => (pc : Int) + off = (x1 : Int)
    | .ifCond _ off => (pc : Int) + off = (x1 : Int)
    | .goto off => (pc : Int) + off = (x1 : Int)
    | .tableswitch d lo hi offs => zm_tab pc d lo hi offs.toList x1 ps
    | .lookupswitch d prs => zm_tav pc d prs.toList x1 ps
    | .invokestatic idx => (9990 ≤ x1 → x1 = 9999 ∨ x1 = 9998 ∨ x1 = 9997) ∧ (x1 = 9999 → Jvm.Cond.methodLink own idx arraycopyName ∈ zm_WL ∧ Jvm.Cond.native arraycopyName ∈ zm_WL ∧ Jvm.Cond.static arraycopyName ∈ zm_WL ∧ Jvm.Cond.initialized "java/lang/System" ∈ zm_WL) ∧
      (x1 = 9998 → Jvm.Cond.methodLink own idx Lib.Math.min.name ∈ zm_WL ∧ Jvm.Cond.static Lib.Math.min.name ∈ zm_WL ∧ Jvm.Cond.initialized "java/lang/Math" ∈ zm_WL ∧ Jvm.Cond.code Lib.Math.min.name Lib.Math.min.code 2 (some .int) ∈ zm_WL) ∧
      (x1 = 9997 → Jvm.Cond.methodLink own idx Lib.Math.max.name ∈ zm_WL ∧ Jvm.Cond.static Lib.Math.max.name ∈ zm_WL ∧ Jvm.Cond.initialized "java/lang/Math" ∈ zm_WL ∧ Jvm.Cond.code Lib.Math.max.name Lib.Math.max.code 2 (some .int) ∈ zm_WL)
    | _ => True
abbrev zm_tys (dA : Nat → ClassId) : List (ClassId × FieldType) := [(dA 0, .int), (dA 1, .long), (dA 2, .array .int)]
/-- what stands fast while a body runs -/
def zm_Cx (p : Program) (R : Room) (s : State) (m : MethodId) (args : Array Value) (c : Code) (own : String) (cc : ByteArray) (nL : Nat) (sc : zm_S) (ρ : Nat → Nat) (dA : Nat → ClassId) (D : va_G) (A : Nat → Prop) : Prop :=
  p.tables.exec = Jvm.exec ∧ c.code = cc ∧ c.maxLocals = nL ∧ s.vm.findClass own = some m.cls ∧ (∀ w ∈ zm_WL, w.before args s = true) ∧ va_K D vwCl (zm_tys dA) s ∧ (∀ q, s.heap.size ≤ q → A q) ∧ va_Z "WordRace$Word" "TENS" "[I" (.ref (ρ 2000000)) A s s.heap ∧ (∀ (k n : Nat) (f : Nat → Int32), zm_ro sc k = some (n, f) → va_X (ρ k) n f s s.heap ∧ ρ k < s.heap.size ∧ ¬ A (ρ k)) ∧ 1 ≤ R.frames ∧ 60 ≤ R.locals
/-- the objects are there -/
def zm_ty (h : zm_H) : Prop := ∀ k : Nat, zm_oc k ≠ 99 → ∃ fs, zm_get h k = some (.inr (zm_oc k, fs))
theorem zm_get_set {h : zm_H} {k j : Nat} {e e0 : zm_E} (hk : zm_get h k = some e0) : zm_get (zm_set h k e) j = if j = k then some e else zm_get h j := by
  unfold zm_get at hk ⊢
  unfold zm_set
  have hb : ∀ a : Nat, Nat.blt a 1000 = decide (a < 1000) := fun a => by
    rcases Nat.lt_or_ge a 1000 with q | q
    · rw [show Nat.blt a 1000 = true from Nat.ble_eq_true_of_le q]; simp [q]
    · rw [show decide (a < 1000) = false from by simp; exact q]
      cases e : Nat.blt a 1000 with
      | false => rfl
      | true => exact absurd (Nat.le_of_ble_eq_true e) (by omega)
  rw [hb] at hk ⊢
  rw [hb]
  by_cases h1 : k < 1000
  · simp only [h1, decide_true, cond_true] at hk ⊢
    have hlt := (List.getElem?_eq_some_iff.mp hk).1
    by_cases h2 : j < 1000
    · simp only [h2, decide_true, cond_true, List.getElem?_set]
      by_cases h3 : k = j
      · subst h3; simp [hlt]
      · rw [if_neg h3, if_neg (fun q => h3 q.symm)]
    · simp only [h2, decide_false, cond_false]
      rw [if_neg (by omega)]
  · simp only [h1, decide_false, cond_false] at hk ⊢
    have hlt := (List.getElem?_eq_some_iff.mp hk).1
    by_cases h2 : j < 1000
    · simp only [h2, decide_true, cond_true]
      rw [if_neg (by omega)]
    · simp only [h2, decide_false, cond_false, List.getElem?_set]
      by_cases h3 : k = j
      · subst h3; simp [hlt]
      · rw [if_neg (by omega), if_neg (fun q => h3 q.symm)]
theorem zm_ty_arr {h : zm_H} {k : Nat} {a0 a : vp_A} (hk : zm_get h k = some (.inl a0)) (ht : zm_ty h) : zm_ty (zm_set h k (.inl a)) := by
  intro j hj
  obtain ⟨fs, hf⟩ := ht j hj
  refine ⟨fs, ?_⟩
  rw [zm_get_set hk, if_neg]
  · exact hf
  · rintro rfl
    rw [hf] at hk
    cases hk
theorem zm_ty_obj {h : zm_H} {k c : Nat} {f0 f : List Value} (hk : zm_get h k = some (.inr (c, f0))) (ht : zm_ty h) : zm_ty (zm_set h k (.inr (c, f))) := by
  intro j hj
  obtain ⟨fs, hf⟩ := ht j hj
  rw [zm_get_set hk]
  by_cases e : j = k
  · subst e
    rw [hf] at hk
    cases hk
    exact ⟨f, by rw [if_pos rfl]⟩
  · exact ⟨fs, by rw [if_neg e]; exact hf⟩
def zm_Rl (s : State) (ρ : Nat → Nat) (dA : Nat → ClassId) (D : va_G) (A : Nat → Prop) (h : zm_H) (H : Heap) (locs : List Loc) : Prop := zm_ty h ∧ va_P D vwCl (zm_w ρ dA h) H ∧ va_D A (zm_w ρ dA h) ∧ va_S A s.heap H locs
theorem zm_p1_of {st : List Value} {k : Int32 → List Value → Option zm_R} {r : zm_R} (h : zm_p1 st k = some r) : ∃ x t, st = .int x :: t ∧ k x t = some r := by
  unfold zm_p1 at h
  split at h
  · exact ⟨_, _, rfl, h⟩
  · cases h
theorem zm_p2_of {st : List Value} {k : Int32 → Int32 → List Value → Option zm_R} {r : zm_R} (h : zm_p2 st k = some r) : ∃ x y t, st = .int y :: .int x :: t ∧ k x y t = some r := by
  unfold zm_p2 at h
  split at h
  · exact ⟨_, _, _, rfl, h⟩
  · cases h
theorem zm_q1_of {st : List Value} {k : Int64 → List Value → Option zm_R} {r : zm_R} (h : zm_q1 st k = some r) : ∃ x t, st = .long x :: t ∧ k x t = some r := by
  unfold zm_q1 at h
  split at h
  · exact ⟨_, _, rfl, h⟩
  · cases h
theorem zm_q2_of {st : List Value} {k : Int64 → Int64 → List Value → Option zm_R} {r : zm_R} (h : zm_q2 st k = some r) : ∃ x y t, st = .long y :: .long x :: t ∧ k x y t = some r := by
  unfold zm_q2 at h
  split at h
  · exact ⟨_, _, _, rfl, h⟩
  · cases h
theorem zm_qs_of {st : List Value} {k : Int64 → Int32 → List Value → Option zm_R} {r : zm_R} (h : zm_qs st k = some r) : ∃ x y t, st = .int y :: .long x :: t ∧ k x y t = some r := by
  unfold zm_qs at h
  split at h
  · exact ⟨_, _, _, rfl, h⟩
  · cases h
theorem zm_a1_of {st : List Value} {k : Nat → List Value → Option zm_R} {r : zm_R} (h : zm_a1 st k = some r) : ∃ x t, st = .ref x :: t ∧ k x t = some r := by
  unfold zm_a1 at h
  split at h
  · exact ⟨_, _, rfl, h⟩
  · cases h
theorem zm_ix_of {st : List Value} {k : Nat → Int32 → List Value → Option zm_R} {r : zm_R} (h : zm_ix st k = some r) : ∃ a i t, st = .int i :: .ref a :: t ∧ k a i t = some r := by
  unfold zm_ix at h
  split at h
  · exact ⟨_, _, _, rfl, h⟩
  · cases h
theorem zm_is_of {st : List Value} {k : Nat → Int32 → Int32 → List Value → Option zm_R} {r : zm_R} (h : zm_is st k = some r) : ∃ a i x t, st = .int x :: .int i :: .ref a :: t ∧ k a i x t = some r := by
  unfold zm_is at h
  split at h
  · exact ⟨_, _, _, _, rfl, h⟩
  · cases h
theorem zm_js_of {st : List Value} {k : Nat → Int32 → Int64 → List Value → Option zm_R} {r : zm_R} (h : zm_js st k = some r) : ∃ a i x t, st = .long x :: .int i :: .ref a :: t ∧ k a i x t = some r := by
  unfold zm_js at h
  split at h
  · exact ⟨_, _, _, _, rfl, h⟩
  · cases h
theorem zm_ps_of {st : List Value} {k : Nat → Int32 → List Value → Option zm_R} {r : zm_R} (h : zm_ps st k = some r) : ∃ a x t, st = .int x :: .ref a :: t ∧ k a x t = some r := by
  unfold zm_ps at h
  split at h
  · exact ⟨_, _, _, rfl, h⟩
  · cases h
theorem zm_cy_of {st : List Value} {k : Nat → Int32 → Nat → Int32 → Int32 → List Value → Option zm_R} {r : zm_R} (h : zm_cy st k = some r) : ∃ a sp b dp n t, st = .int n :: .int dp :: .ref b :: .int sp :: .ref a :: t ∧ k a sp b dp n t = some r := by
  unfold zm_cy at h
  split at h
  · exact ⟨_, _, _, _, _, _, rfl, h⟩
  · cases h
theorem zm_iload_of {lv : zm_L} {i : Nat} {k : Int32 → Option zm_R} {r : zm_R} (h : zm_iload lv i k = some r) : ∃ x, lv[i]? = some (some (.int x)) ∧ k x = some r := by
  unfold zm_iload at h
  split at h
  · next q => exact ⟨_, q, h⟩
  · cases h
theorem zm_lload_of {lv : zm_L} {i : Nat} {k : Int64 → Option zm_R} {r : zm_R} (h : zm_lload lv i k = some r) : ∃ x, lv[i]? = some (some (.long x)) ∧ k x = some r := by
  unfold zm_lload at h
  split at h
  · next q => exact ⟨_, q, h⟩
  · cases h
theorem zm_aload_of {lv : zm_L} {i : Nat} {k : Nat → Option zm_R} {r : zm_R} (h : zm_aload lv i k = some r) : ∃ x, lv[i]? = some (some (.ref x)) ∧ k x = some r := by
  unfold zm_aload at h
  split at h
  · next q => exact ⟨_, q, h⟩
  · cases h
theorem zm_ia_of {h : zm_H} {a : Nat} {k : Nat → (Nat → Int32) → Option zm_R} {r : zm_R} (hh : zm_ia h a k = some r) : ∃ n f, zm_get h a = some (.inl (n, .inl f)) ∧ k n f = some r := by
  unfold zm_ia at hh
  split at hh
  · next q => exact ⟨_, _, q, hh⟩
  · cases hh
theorem zm_ja_of {h : zm_H} {a : Nat} {k : Nat → (Nat → Int64) → Option zm_R} {r : zm_R} (hh : zm_ja h a k = some r) : ∃ n f, zm_get h a = some (.inl (n, .inr (.inl f))) ∧ k n f = some r := by
  unfold zm_ja at hh
  split at hh
  · next q => exact ⟨_, _, q, hh⟩
  · cases hh
theorem zm_aa_of {h : zm_H} {a : Nat} {k : Nat → (Nat → Option Nat) → Option zm_R} {r : zm_R} (hh : zm_aa h a k = some r) : ∃ n f, zm_get h a = some (.inl (n, .inr (.inr (.inr (.inr f))))) ∧ k n f = some r := by
  unfold zm_aa at hh
  split at hh
  · next q => exact ⟨_, _, q, hh⟩
  · cases hh
theorem zm_ob_of {h : zm_H} {a ci : Nat} {k : List Value → Option zm_R} {r : zm_R} (hh : zm_ob h a ci k = some r) : ∃ fs, zm_get h a = some (.inr (ci, fs)) ∧ k fs = some r := by
  unfold zm_ob at hh
  split at hh
  · next cc fs q =>
    cases e : Nat.beq cc ci with
    | true => rw [e] at hh; rw [Nat.eq_of_beq_eq_true e] at q; exact ⟨_, q, hh⟩
    | false => rw [e] at hh; cases hh
  · cases hh
theorem zm_ov_of {α : Type} {o : Option α} {k : α → Option zm_R} {r : zm_R} (h : zm_ov o k = some r) : ∃ v, o = some v ∧ k v = some r := by
  unfold zm_ov at h
  split at h
  · exact ⟨_, rfl, h⟩
  · cases h
theorem zm_bif_of {b : Bool} {x : Option zm_R} {r : zm_R} (h : (bif b then x else none) = some r) : b = true ∧ x = some r := by
  cases b with
  | true => exact ⟨rfl, h⟩
  | false => cases h
theorem zm_bnf_of {b : Bool} {x : Option zm_R} {r : zm_R} (h : (bif b then none else x) = some r) : b = false ∧ x = some r := by
  cases b with
  | true => cases h
  | false => exact ⟨rfl, h⟩
theorem zm_in_of {i : Int32} {n : Nat} (h : zm_in i n = true) : vp_in i n := by
  unfold zm_in at h
  exact (of_decide_eq_true h : ¬ (i < 0 ∨ n ≤ i.toNatClampNeg))
theorem zm_bif2 {b : Bool} {x y : Option zm_R} {r : zm_R} (h : (bif b then x else y) = some r) : (b = true ∧ x = some r) ∨ (b = false ∧ y = some r) := by
  cases b with
  | true => exact Or.inl ⟨rfl, h⟩
  | false => exact Or.inr ⟨rfl, h⟩
end
section
theorem zm_sw_of {x : Int32} {go : Nat → Option zm_R} {d : Nat} {r : zm_R} : ∀ (ps : List (Int × Nat)), zm_sw x go d ps = some r → (∃ (j : Nat) (k : Int) (t : Nat), ps[j]? = some (k, t) ∧ x.toInt = k ∧ go t = some r) ∨ ((∀ (j : Nat) (k : Int) (t : Nat), ps[j]? = some (k, t) → x.toInt ≠ k) ∧ go d = some r)
  | [], h => Or.inr ⟨fun j k t q => by simp at q, h⟩
  | (k, t) :: ps, h => by
    unfold zm_sw at h
    rcases zm_bif2 h with ⟨h1, h2⟩ | ⟨h1, h2⟩
    · exact Or.inl ⟨0, k, t, rfl, of_decide_eq_true h1, h2⟩
    · rcases zm_sw_of ps h2 with ⟨j, k2, t2, a, b, c⟩ | ⟨a, b⟩
      · exact Or.inl ⟨j + 1, k2, t2, by simpa using a, b, c⟩
      · refine Or.inr ⟨fun j k2 t2 q => ?_, b⟩
        cases j with
        | zero =>
          simp only [List.getElem?_cons_zero, Option.some.injEq, Prod.mk.injEq] at q
          rw [← q.1]
          exact of_decide_eq_false h1
        | succ j => exact a j k2 t2 (by simpa using q)
theorem zm_tab_of {pc : Nat} {dflt lo hi : Int} {offs : List Int} {d : Nat} {ps : List (Int × Nat)} (h : zm_tab pc dflt lo hi offs d ps) {x : Int32} (hn : ∀ (j : Nat) (k : Int) (t : Nat), ps[j]? = some (k, t) → x.toInt ≠ k) : x.toInt < lo ∨ hi < x.toInt := by
  obtain ⟨-, h1, h2, h3⟩ := h
  rcases Int.lt_or_le x.toInt lo with q | q
  · exact Or.inl q
  · right
    rcases Int.lt_or_le hi x.toInt with q2 | q2
    · exact q2
    · exfalso
      have hj : (x.toInt - lo).toNat < ps.length := by omega
      rcases hp : ps[(x.toInt - lo).toNat] with ⟨k, t⟩
      have hq : ps[(x.toInt - lo).toNat]? = some (k, t) := by rw [List.getElem?_eq_getElem hj, hp]
      have := (h3 _ _ _ hq).1
      exact hn _ _ _ hq (by omega)
theorem zm_look_off {pc : Nat} {x : Int} : ∀ (prs : List (Int × Int)) (ps : List (Int × Nat)), ps.map (fun q => (q.1, (q.2 : Int))) = prs.map (fun q => (q.1, (pc : Int) + q.2)) → ∀ (dflt : Int) (go : Nat → Option zm_R) (d : Nat) (r : zm_R) (y : Int32), y.toInt = x → (pc : Int) + dflt = (d : Int) → zm_sw y go d ps = some r → ∃ t : Nat, (pc : Int) + Op.lookupswitch.offset prs dflt x = (t : Int) ∧ go t = some r
  | [], [], _, dflt, go, d, r, y, hy, hd, h => ⟨d, by rw [Op.lookupswitch.offset_nil]; exact hd, h⟩
  | [], _ :: _, hm, _, _, _, _, _, _, _, _ => by simp at hm
  | _ :: _, [], hm, _, _, _, _, _, _, _, _ => by simp at hm
  | (a, o) :: prs, (k, t) :: ps, hm, dflt, go, d, r, y, hy, hd, h => by
    simp only [List.map_cons, List.cons.injEq, Prod.mk.injEq] at hm
    unfold zm_sw at h
    rw [Op.lookupswitch.offset_cons]
    rcases zm_bif2 h with ⟨h1, h2⟩ | ⟨h1, h2⟩
    · have e := of_decide_eq_true h1
      refine ⟨t, ?_, h2⟩
      rw [if_pos (by rw [← hy, e, hm.1.1])]
      exact hm.1.2.symm
    · have e := of_decide_eq_false h1
      obtain ⟨t2, g1, g2⟩ := zm_look_off prs ps hm.2 dflt go d r y hy hd h2
      refine ⟨t2, ?_, g2⟩
      rw [if_neg (by rw [← hy, ← hm.1.1]; exact fun q => e q.symm)]
      exact g1
theorem zm_catsum (ρ : Nat → Nat) (st : List Value) : ((st.map (zm_v ρ)).map fun v => v.category).sum = (st.map fun v => v.category).sum := by
  rw [List.map_map]
  congr 1
  exact List.map_congr_left fun v _ => zm_cat ρ v
section ZMS
variable {p : Program} {l : Launch} {e : Env} {R : Room} {s : State} {m : MethodId} {args : Array Value} {below : List Frame} {meth : Method} {c : Code} {cells slots : Nat} {Q : State → Prop} {own : String} {cc : ByteArray} {nL : Nat} {rb : Bool} {sc : zm_S} {ρ : Nat → Nat} {dA : Nat → ClassId} {D : va_G} {A : Nat → Prop} {C : zm_C} {G : zm_G} {r : zm_R}
/-- how a body may end -/
def zm_end (rb : Bool) (ins : Instr) (v : Option Value) (st : List Value) : Prop :=
  (ins = .ireturn ∧ ∃ x : Int32, v = some (.int x) ∧ st = [.int x] ∧ (rb = true → x = 0 ∨ x = 1)) ∨ (ins = .lreturn ∧ ∃ x : Int64, v = some (.long x) ∧ st = [.long x]) ∨ (ins = .return_ ∧ v = none ∧ st = [])
theorem zm_01_of {x : Int32} (h : zm_01 x = true) : x = 0 ∨ x = 1 := by
  unfold zm_01 at h
  simpa using h
set_option maxHeartbeats 4000000 in
set_option maxRecDepth 100000 in
theorem zm_do_sound (X : zm_Cx p R s m args c own cc nL sc ρ dA D A) (hcs : cells ≤ R.cells ∧ slots ≤ R.slots) {i : zm_I} {pc : Nat} {lv : zm_L} {st : List Value} {h : zm_H} (hdg : decode cc pc = .ok (i.1, zm_ln i.1 i.2.1)) (hk : zm_lk own pc i) (hd : zm_do rb sc C G i pc lv st h = some r)
    (hCall : ∀ (idx x1 x2 x3 : Nat) (len : Nat) (ps : List (Int × Nat)) (vi : Bool) (ar : List Value × List Value) (v : Option Value) (h1 : zm_H) (ls : Array Slot) (H : Heap) (locs : List Loc), i = ((if vi then Instr.invokevirtual idx else Instr.invokestatic idx), len, x1, x2, x3, ps) → x1 < 9990 → zm_args x2 [] st = some ar → (ar.2.map fun v => v.category).sum ≤ 8 → (vi = true → zm_rc ar.1 len = true) → C x1 ar.1 h = some (v, h1) → zm_has ρ ls nL lv → zm_Rl s ρ dA D A h H locs →
      (∀ (H1 : Heap) (locs1 : List Loc), zm_Rl s ρ dA D A h1 H1 locs1 → W p l e R s m args below meth c H1 locs1 cells slots Q (F0 m (pc + 3) ls ((v.toList ++ ar.2).map (zm_v ρ)))) → W p l e R s m args below meth c H locs cells slots Q (F0 m pc ls (st.map (zm_v ρ))))
    (hret : ∀ (ins : Instr) (st : List Value) (ls : Array Slot) (H : Heap) (locs : List Loc), decode cc pc = .ok (ins, 1) → zm_end rb ins r.1 st → zm_Rl s ρ dA D A r.2 H locs → W p l e R s m args below meth c H locs cells slots Q (F0 m pc ls st))
    (hG : ∀ (pc : Nat) (lv : zm_L) (st : List Value) (h : zm_H) (ls : Array Slot) (H : Heap) (locs : List Loc), G pc lv st h = some r → zm_has ρ ls nL lv → zm_Rl s ρ dA D A h H locs → W p l e R s m args below meth c H locs cells slots Q (F0 m pc ls (st.map (zm_v ρ))))
    {ls : Array Slot} {H : Heap} {locs : List Loc} (hl : zm_has ρ ls nL lv) (hR : zm_Rl s ρ dA D A h H locs) : W p l e R s m args below meth c H locs cells slots Q (F0 m pc ls (st.map (zm_v ρ))) := by
  obtain ⟨hx, hb, hml, hown, hts, hK, hA, hZ, hX, hfr, hlo⟩ := X
  have hlv := zm_has_lv hl
  have hll := hl.2.1
  have hRr := hR
  obtain ⟨hT, hP, hD, hS⟩ := hRr
  obtain ⟨ins, len, x1, x2, x3, ps⟩ := i
  cases ins
  case iconst n => exact lv_iconst hx hb hdg rfl (hG _ _ _ _ _ _ _ hd hl hR)
  case bipush n => exact lv_bipush hx hb hdg rfl (hG _ _ _ _ _ _ _ hd hl hR)
  case sipush n => exact lv_sipush hx hb hdg rfl (hG _ _ _ _ _ _ _ hd hl hR)
  case lconst n => exact lv_lconst hx hb hdg rfl (hG _ _ _ _ _ _ _ hd hl hR)
  case ldc idx =>
    obtain ⟨q, h1, h2⟩ := zm_ov_of hd
    exact lv_ldc hx hb hown (hts _ (hk q h1)) hdg (hG _ _ _ _ _ _ _ h2 hl hR)
  case ldc_w idx =>
    obtain ⟨q, h1, h2⟩ := zm_ov_of hd
    exact lv_ldcw hx hb hown (hts _ (hk q h1)) hdg (hG _ _ _ _ _ _ _ h2 hl hR)
  case ldc2_w idx =>
    obtain ⟨q, h1, h2⟩ := zm_ov_of hd
    exact lv_ldc2 hx hb hown (hts _ (hk q h1)) hdg (hG _ _ _ _ _ _ _ h2 hl hR)
  case iload_n k =>
    obtain ⟨x, h1, h2⟩ := zm_iload_of hd
    exact lv_iload_n hx hb hdg rfl (hl.2.2.2 _ _ h1) (hG _ _ _ _ _ _ _ h2 hl hR)
  case iload k =>
    obtain ⟨x, h1, h2⟩ := zm_iload_of hd
    exact lv_iload hx hb hdg (hl.2.2.2 _ _ h1) (hG _ _ _ _ _ _ _ h2 hl hR)
  case lload_n k =>
    obtain ⟨x, h1, h2⟩ := zm_lload_of hd
    exact lv_lload_n hx hb hdg rfl (hl.2.2.2 _ _ h1) (hG _ _ _ _ _ _ _ h2 hl hR)
  case lload k =>
    obtain ⟨x, h1, h2⟩ := zm_lload_of hd
    exact lv_lload hx hb hdg (hl.2.2.2 _ _ h1) (hG _ _ _ _ _ _ _ h2 hl hR)
  case aload_n k =>
    obtain ⟨x, h1, h2⟩ := zm_aload_of hd
    exact lv_aload_n hx hb hdg rfl (hl.2.2.2 _ _ h1) (hG _ _ _ _ _ _ _ h2 hl hR)
  case aload k =>
    obtain ⟨x, h1, h2⟩ := zm_aload_of hd
    exact lv_aload hx hb hdg (hl.2.2.2 _ _ h1) (hG _ _ _ _ _ _ _ h2 hl hR)
  case istore_n k =>
    obtain ⟨x, t, rfl, h1⟩ := zm_p1_of hd
    obtain ⟨h1, h2⟩ := zm_bif_of h1
    exact lv_istore_n hx hb hdg rfl hlv (by rw [← hll]; exact Nat.le_of_ble_eq_true h1) rfl (fun ls' hl' => hG _ _ _ _ _ _ _ h2 (zm_has_st1 (v := .int x) hll hl') hR)
  case istore k =>
    obtain ⟨x, t, rfl, h1⟩ := zm_p1_of hd
    obtain ⟨h1, h2⟩ := zm_bif_of h1
    exact lv_istore hx hb hdg hlv (by rw [← hll]; exact Nat.le_of_ble_eq_true h1) rfl (fun ls' hl' => hG _ _ _ _ _ _ _ h2 (zm_has_st1 (v := .int x) hll hl') hR)
  case astore_n k =>
    obtain ⟨x, t, rfl, h1⟩ := zm_a1_of hd
    obtain ⟨h1, h2⟩ := zm_bif_of h1
    exact lv_astore_n hx hb hdg rfl hlv (by rw [← hll]; exact Nat.le_of_ble_eq_true h1) rfl (fun ls' hl' => hG _ _ _ _ _ _ _ h2 (zm_has_st1 (v := .ref x) hll hl') hR)
  case astore k =>
    obtain ⟨x, t, rfl, h1⟩ := zm_a1_of hd
    obtain ⟨h1, h2⟩ := zm_bif_of h1
    exact lv_astore hx hb hdg hlv (by rw [← hll]; exact Nat.le_of_ble_eq_true h1) rfl (fun ls' hl' => hG _ _ _ _ _ _ _ h2 (zm_has_st1 (v := .ref x) hll hl') hR)
  case lstore_n k =>
    obtain ⟨x, t, rfl, h1⟩ := zm_q1_of hd
    obtain ⟨h1, h2⟩ := zm_bif_of h1
    exact lv_lstore_n hx hb hdg rfl hlv (by rw [← hll]; exact Nat.le_of_ble_eq_true h1) rfl (fun ls' hl' => hG _ _ _ _ _ _ _ h2 (zm_has_st2 (v := .long x) hll hl') hR)
  case lstore k =>
    obtain ⟨x, t, rfl, h1⟩ := zm_q1_of hd
    obtain ⟨h1, h2⟩ := zm_bif_of h1
    exact lv_lstore hx hb hdg hlv (by rw [← hll]; exact Nat.le_of_ble_eq_true h1) rfl (fun ls' hl' => hG _ _ _ _ _ _ _ h2 (zm_has_st2 (v := .long x) hll hl') hR)
  case iinc k n =>
    obtain ⟨x, h0, h1⟩ := zm_iload_of hd
    obtain ⟨h1, h2⟩ := zm_bif_of h1
    have hm : (k, Value.int x) ∈ zm_as ρ lv := zm_as_mem.mpr ⟨.int x, h0, rfl⟩
    obtain ⟨j, hj⟩ := List.getElem?_of_mem hm
    exact lv_iinc hx hb hdg hlv hj rfl (by rw [← hll]; exact Nat.le_of_ble_eq_true h1) rfl (fun ls' hl' => hG _ _ _ _ _ _ _ h2 (zm_has_st1 (v := .int (x + Int32.ofInt n)) hll hl') hR)
  case iadd => obtain ⟨x, y, t, rfl, h1⟩ := zm_p2_of hd; exact lv_iadd hx hb hdg (hG _ _ _ _ _ _ _ h1 hl hR)
  case isub => obtain ⟨x, y, t, rfl, h1⟩ := zm_p2_of hd; exact lv_isub hx hb hdg (hG _ _ _ _ _ _ _ h1 hl hR)
  case imul => obtain ⟨x, y, t, rfl, h1⟩ := zm_p2_of hd; exact lv_imul hx hb hdg (hG _ _ _ _ _ _ _ h1 hl hR)
  case iand => obtain ⟨x, y, t, rfl, h1⟩ := zm_p2_of hd; exact lv_iand hx hb hdg (hG _ _ _ _ _ _ _ h1 hl hR)
  case ior => obtain ⟨x, y, t, rfl, h1⟩ := zm_p2_of hd; exact lv_ior hx hb hdg (hG _ _ _ _ _ _ _ h1 hl hR)
  case ixor => obtain ⟨x, y, t, rfl, h1⟩ := zm_p2_of hd; exact lv_ixor hx hb hdg (hG _ _ _ _ _ _ _ h1 hl hR)
  case idiv =>
    obtain ⟨x, y, t, rfl, h1⟩ := zm_p2_of hd
    obtain ⟨h1, h2⟩ := zm_bnf_of h1
    exact lv_idiv hx hb hdg (of_decide_eq_false h1) (hG _ _ _ _ _ _ _ h2 hl hR)
  case irem =>
    obtain ⟨x, y, t, rfl, h1⟩ := zm_p2_of hd
    obtain ⟨h1, h2⟩ := zm_bnf_of h1
    exact lv_irem hx hb hdg (of_decide_eq_false h1) (hG _ _ _ _ _ _ _ h2 hl hR)
  case ineg => obtain ⟨x, t, rfl, h1⟩ := zm_p1_of hd; exact lv_ineg hx hb hdg (hG _ _ _ _ _ _ _ h1 hl hR)
  case ishl => obtain ⟨x, y, t, rfl, h1⟩ := zm_p2_of hd; exact lv_ishl hx hb hdg (hG _ _ _ _ _ _ _ h1 hl hR)
  case ishr => obtain ⟨x, y, t, rfl, h1⟩ := zm_p2_of hd; exact lv_ishr hx hb hdg (hG _ _ _ _ _ _ _ h1 hl hR)
  case iushr => obtain ⟨x, y, t, rfl, h1⟩ := zm_p2_of hd; exact lv_iushr hx hb hdg rfl (hG _ _ _ _ _ _ _ h1 hl hR)
  case ladd => obtain ⟨x, y, t, rfl, h1⟩ := zm_q2_of hd; exact lv_ladd hx hb hdg (hG _ _ _ _ _ _ _ h1 hl hR)
  case lsub => obtain ⟨x, y, t, rfl, h1⟩ := zm_q2_of hd; exact lv_lsub hx hb hdg (hG _ _ _ _ _ _ _ h1 hl hR)
  case lmul => obtain ⟨x, y, t, rfl, h1⟩ := zm_q2_of hd; exact lv_lmul hx hb hdg (hG _ _ _ _ _ _ _ h1 hl hR)
  case land => obtain ⟨x, y, t, rfl, h1⟩ := zm_q2_of hd; exact lv_land hx hb hdg (hG _ _ _ _ _ _ _ h1 hl hR)
  case lor => obtain ⟨x, y, t, rfl, h1⟩ := zm_q2_of hd; exact lv_lor hx hb hdg (hG _ _ _ _ _ _ _ h1 hl hR)
  case ldiv =>
    obtain ⟨x, y, t, rfl, h1⟩ := zm_q2_of hd
    obtain ⟨h1, h2⟩ := zm_bnf_of h1
    exact lv_ldiv hx hb hdg (of_decide_eq_false h1) (hG _ _ _ _ _ _ _ h2 hl hR)
  case lrem =>
    obtain ⟨x, y, t, rfl, h1⟩ := zm_q2_of hd
    obtain ⟨h1, h2⟩ := zm_bnf_of h1
    exact lv_lrem hx hb hdg (of_decide_eq_false h1) (hG _ _ _ _ _ _ _ h2 hl hR)
  case lneg => obtain ⟨x, t, rfl, h1⟩ := zm_q1_of hd; exact lv_lneg hx hb hdg (hG _ _ _ _ _ _ _ h1 hl hR)
  case lshl => obtain ⟨x, y, t, rfl, h1⟩ := zm_qs_of hd; exact lv_lshl hx hb hdg rfl (hG _ _ _ _ _ _ _ h1 hl hR)
  case lushr => obtain ⟨x, y, t, rfl, h1⟩ := zm_qs_of hd; exact lv_lushr hx hb hdg rfl (hG _ _ _ _ _ _ _ h1 hl hR)
  case lcmp => obtain ⟨x, y, t, rfl, h1⟩ := zm_q2_of hd; exact W.lcmp hx hb hdg (hG _ _ _ _ _ _ _ h1 hl hR)
  case i2l => obtain ⟨x, t, rfl, h1⟩ := zm_p1_of hd; exact lv_i2l hx hb hdg rfl (hG _ _ _ _ _ _ _ h1 hl hR)
  case l2i => obtain ⟨x, t, rfl, h1⟩ := zm_q1_of hd; exact lv_l2i hx hb hdg rfl (hG _ _ _ _ _ _ _ h1 hl hR)
  case dup =>
    cases st with
    | nil => cases hd
    | cons a t =>
      obtain ⟨h1, h2⟩ := zm_bif_of hd
      exact lv_dup hx hb hdg (by rw [zm_cat]; exact Nat.eq_of_beq_eq_true h1) (hG _ _ _ _ _ _ _ h2 hl hR)
  case pop =>
    cases st with
    | nil => cases hd
    | cons a t =>
      obtain ⟨h1, h2⟩ := zm_bif_of hd
      exact lv_pop hx hb hdg (by rw [zm_cat]; exact Nat.eq_of_beq_eq_true h1) (hG _ _ _ _ _ _ _ h2 hl hR)
  case dup_x1 =>
    rcases st with - | ⟨a, - | ⟨b, t⟩⟩
    · cases hd
    · cases hd
    · obtain ⟨h1, h2⟩ := zm_bif_of hd
      obtain ⟨h1, h3⟩ := Bool.and_eq_true_iff.mp h1
      exact lv_dup_x1 hx hb hdg (by rw [zm_cat]; exact Nat.eq_of_beq_eq_true h1) (by rw [zm_cat]; exact Nat.eq_of_beq_eq_true h3) (hG _ _ _ _ _ _ _ h2 hl hR)
  case dup2 =>
    rcases st with - | ⟨a, - | ⟨b, t⟩⟩
    · cases hd
    · cases hd
    · obtain ⟨h1, h2⟩ := zm_bif_of hd
      obtain ⟨h1, h3⟩ := Bool.and_eq_true_iff.mp h1
      exact lv_dup2_11 hx hb hdg (by rw [zm_cat]; exact Nat.eq_of_beq_eq_true h1) (by rw [zm_cat]; exact Nat.eq_of_beq_eq_true h3) (hG _ _ _ _ _ _ _ h2 hl hR)
  case if_icmp cd off =>
    obtain ⟨x, y, t, rfl, h1⟩ := zm_p2_of hd
    rcases zm_bif2 h1 with ⟨h1, h2⟩ | ⟨h1, h2⟩
    · have kk := hG _ _ _ _ _ _ _ h2 hl hR
      cases cd
      · exact lv_icmp_eq hx hb hdg hk (fun _ => kk) (fun q => absurd (of_decide_eq_true h1) q)
      · exact lv_icmp_ne hx hb hdg hk (fun _ => kk) (fun q => absurd q (of_decide_eq_true h1))
      · exact lv_icmp_lt hx hb hdg hk (fun _ => kk) (fun q => absurd (of_decide_eq_true h1) q)
      · exact lv_icmp_ge hx hb hdg hk (fun _ => kk) (fun q => absurd (of_decide_eq_true h1) q)
      · exact lv_icmp_gt hx hb hdg hk (fun _ => kk) (fun q => absurd (of_decide_eq_true h1) q)
      · exact lv_icmp_le hx hb hdg hk (fun _ => kk) (fun q => absurd (of_decide_eq_true h1) q)
    · have kk := hG _ _ _ _ _ _ _ h2 hl hR
      cases cd
      · exact lv_icmp_eq hx hb hdg hk (fun q => absurd q (of_decide_eq_false h1)) (fun _ => kk)
      · exact lv_icmp_ne hx hb hdg hk (fun q => absurd q (of_decide_eq_false h1)) (fun _ => kk)
      · exact lv_icmp_lt hx hb hdg hk (fun q => absurd q (of_decide_eq_false h1)) (fun _ => kk)
      · exact lv_icmp_ge hx hb hdg hk (fun q => absurd q (of_decide_eq_false h1)) (fun _ => kk)
      · exact lv_icmp_gt hx hb hdg hk (fun q => absurd q (of_decide_eq_false h1)) (fun _ => kk)
      · exact lv_icmp_le hx hb hdg hk (fun q => absurd q (of_decide_eq_false h1)) (fun _ => kk)
  case ifCond cd off =>
    obtain ⟨x, t, rfl, h1⟩ := zm_p1_of hd
    rcases zm_bif2 h1 with ⟨h1, h2⟩ | ⟨h1, h2⟩
    · have kk := hG _ _ _ _ _ _ _ h2 hl hR
      cases cd
      · exact lv_if_eq hx hb hdg hk (fun _ => kk) (fun q => absurd (of_decide_eq_true h1) q)
      · exact lv_if_ne hx hb hdg hk (fun _ => kk) (fun q => absurd q (of_decide_eq_true h1))
      · exact lv_if_lt hx hb hdg hk (fun _ => kk) (fun q => absurd (of_decide_eq_true h1) q)
      · exact lv_if_ge hx hb hdg hk (fun _ => kk) (fun q => absurd (of_decide_eq_true h1) q)
      · exact lv_if_gt hx hb hdg hk (fun _ => kk) (fun q => absurd (of_decide_eq_true h1) q)
      · exact lv_if_le hx hb hdg hk (fun _ => kk) (fun q => absurd (of_decide_eq_true h1) q)
    · have kk := hG _ _ _ _ _ _ _ h2 hl hR
      cases cd
      · exact lv_if_eq hx hb hdg hk (fun q => absurd q (of_decide_eq_false h1)) (fun _ => kk)
      · exact lv_if_ne hx hb hdg hk (fun q => absurd q (of_decide_eq_false h1)) (fun _ => kk)
      · exact lv_if_lt hx hb hdg hk (fun q => absurd q (of_decide_eq_false h1)) (fun _ => kk)
      · exact lv_if_ge hx hb hdg hk (fun q => absurd q (of_decide_eq_false h1)) (fun _ => kk)
      · exact lv_if_gt hx hb hdg hk (fun q => absurd q (of_decide_eq_false h1)) (fun _ => kk)
      · exact lv_if_le hx hb hdg hk (fun q => absurd q (of_decide_eq_false h1)) (fun _ => kk)
  case goto off => exact lv_goto hx hb hdg hk (hG _ _ _ _ _ _ _ hd hl hR)
  case tableswitch d lo hi offs =>
    obtain ⟨x, t, rfl, h1⟩ := zm_p1_of hd
    rcases zm_sw_of ps h1 with ⟨j, k, tg, a1, a2, a3⟩ | ⟨a1, a2⟩
    · obtain ⟨-, b1, b2, b3⟩ := id hk
      obtain ⟨c1, off, c2, c3⟩ := b3 j k tg a1
      have hj : j < offs.toList.length := (List.getElem?_eq_some_iff.mp c2).1
      refine lv_tableIn (off := off) (tgt := tg) hx hb hdg (by omega) (by omega) ?_ c3 (hG _ _ _ _ _ _ _ a3 hl hR)
      rw [show (x.toInt - lo).toNat = j by omega, ← Array.getElem?_toList]
      exact c2
    · exact lv_tableOut hx hb hdg (zm_tab_of hk a1) hk.1 (hG _ _ _ _ _ _ _ a2 hl hR)
  case lookupswitch d prs =>
    obtain ⟨x, t, rfl, h1⟩ := zm_p1_of hd
    obtain ⟨tg, g1, g2⟩ := zm_look_off (pc := pc) (x := x.toInt) prs.toList ps hk.2.2 d _ x1 r x rfl hk.1 h1
    exact lv_lookup hx hb hdg hk.2.1 rfl g1 (hG _ _ _ _ _ _ _ g2 hl hR)
  case arraylength =>
    obtain ⟨a, t, rfl, h1⟩ := zm_a1_of hd
    cases hro : zm_ro sc a with
    | some nf =>
      obtain ⟨n, f⟩ := nf
      rw [hro] at h1
      obtain ⟨g1, g2, g3⟩ := hX a n f hro
      exact va_slen hx hb g1 g2 g3 hS hdg (hG _ _ _ _ _ _ _ h1 hl hR)
    | none =>
      rw [hro] at h1
      obtain ⟨n, f, g1, g2⟩ := zm_ia_of h1
      exact va_alen hx hb hK hP _ 0 (zm_w_get g1) rfl rfl hdg (hG _ _ _ _ _ _ _ g2 hl hR)
  case iaload =>
    obtain ⟨a, i, t, rfl, h1⟩ := zm_ix_of hd
    unfold zm_ld at h1
    cases hro : zm_ro sc a with
    | some nf =>
      obtain ⟨n, f⟩ := nf
      rw [hro] at h1
      obtain ⟨h1, h2⟩ := zm_bif_of h1
      obtain ⟨g1, g2, g3⟩ := hX a n f hro
      exact va_sld hx hb g1 g2 g3 hS (zm_in_of h1) hdg (hG _ _ _ _ _ _ _ h2 hl hR)
    | none =>
      rw [hro] at h1
      obtain ⟨n, f, g1, g2⟩ := zm_ia_of h1
      obtain ⟨h1, h2⟩ := zm_bif_of g2
      exact va_iald hx hb hK hP _ 0 (zm_w_get g1) rfl (zm_in_of h1) hdg (hG _ _ _ _ _ _ _ h2 hl hR)
  case laload =>
    obtain ⟨a, i, t, rfl, h1⟩ := zm_ix_of hd
    obtain ⟨n, f, g1, g2⟩ := zm_ja_of h1
    obtain ⟨h1, h2⟩ := zm_bif_of g2
    exact va_lald hx hb hK hP _ 1 (zm_w_get g1) rfl (zm_in_of h1) hdg (hG _ _ _ _ _ _ _ h2 hl hR)
  case aaload =>
    obtain ⟨a, i, t, rfl, h1⟩ := zm_ix_of hd
    obtain ⟨n, f, g1, g2⟩ := zm_aa_of h1
    obtain ⟨h1, h2⟩ := zm_bif_of g2
    obtain ⟨q, h3, h4⟩ := zm_ov_of h2
    have hin := zm_in_of h1
    have hlt : i.toNatClampNeg < n := Nat.not_le.mp fun q => hin (Or.inr q)
    have ha := zm_w_get (ρ := ρ) (dA := dA) g1
    exact W.aald (v := .ref (ρ q)) (ty := .array .int) hx hb (hP _ _ ha) ((hK.2 2 _ rfl).1 n (fun j => va_rf ((f j).map ρ))) rfl (fun q => by cases q) (by show ¬ (i < 0 ∨ (arrV _ _ _).slots.size ≤ _); rw [arrV_size]; exact hin) (by show (arrV (dA 2) n (fun j => va_rf ((f j).map ρ))).slots[i.toNatClampNeg]? = _; rw [arrV_read _ _ hlt, h3]; rfl) rfl rfl hdg (hG _ _ _ _ _ _ _ h4 hl hR)
  case iastore =>
    obtain ⟨a, i, x, t, rfl, h1⟩ := zm_is_of hd
    obtain ⟨n, f, g1, g2⟩ := zm_ia_of h1
    obtain ⟨h1, h2⟩ := zm_bif_of g2
    refine va_iast hx hb hK hP hD hS _ 0 (zm_w_get g1) rfl (zm_in_of h1) hdg (fun H1 locs1 hP1 hD1 hS1 => hG _ _ _ _ _ _ _ h2 hl ⟨zm_ty_arr g1 hT, ?_, ?_, hS1⟩)
    · rw [zm_w_set g1]; exact hP1
    · rw [zm_w_set g1]; exact hD1
  case lastore =>
    obtain ⟨a, i, x, t, rfl, h1⟩ := zm_js_of hd
    obtain ⟨n, f, g1, g2⟩ := zm_ja_of h1
    obtain ⟨h1, h2⟩ := zm_bif_of g2
    refine va_last hx hb hK hP hD hS _ 1 (zm_w_get g1) rfl (zm_in_of h1) hdg (fun H1 locs1 hP1 hD1 hS1 => hG _ _ _ _ _ _ _ h2 hl ⟨zm_ty_arr g1 hT, ?_, ?_, hS1⟩)
    · rw [zm_w_set g1]; exact hP1
    · rw [zm_w_set g1]; exact hD1
  case getfield idx =>
    obtain ⟨a, t, rfl, h1⟩ := zm_a1_of hd
    obtain ⟨fs, g1, g2⟩ := zm_ob_of h1
    obtain ⟨v, h3, h4⟩ := zm_ov_of g2
    obtain ⟨Cn, Tn, N, k1, k2, k3, k4⟩ := hk
    exact va_get hx hb hts k3 hown hK hP _ (zm_w_get g1) k1 x2 k2 (hts _ k4) (fun _ h9 => h9) (by rw [List.getElem?_map, h3]; rfl) hdg (hG _ _ _ _ _ _ _ h4 hl hR)
  case putfield idx =>
    obtain ⟨a, x, t, rfl, h1⟩ := zm_ps_of hd
    obtain ⟨fs, g1, g2⟩ := zm_ob_of h1
    obtain ⟨h1, h2⟩ := zm_bif_of g2
    obtain ⟨h3, h4⟩ := Bool.and_eq_true_iff.mp h1
    obtain ⟨Cn, Tn, N, ty0, k1, k2, k3, k4, k5, k6, k7, k8⟩ := hk
    have hfit : narrow (ty0 x2) (.int x) = .int x ∧ fits (ty0 x2) (.int x) = true := by
      rcases k8 with ⟨e1, e2⟩ | ⟨e1, e2⟩
      · rw [e1]; exact ⟨rfl, rfl⟩
      · rw [e1]
        rw [e2] at h4
        rcases zm_01_of (show zm_01 x = true from h4) with rfl | rfl <;> decide
    refine va_put hx hb hts k3 ty0 k5 k6 hown hK hP hD hS _ (zm_w_get g1) k1 x2 k2 (hts _ k4) (fun _ h9 => h9) k7 (k5 x2 k2) hfit.1 hfit.2 (by rw [List.length_map]; exact Nat.le_of_ble_eq_true h3) hdg (fun H1 locs1 hP1 hD1 hS1 => hG _ _ _ _ _ _ _ h2 hl ⟨zm_ty_obj g1 hT, ?_, ?_, hS1⟩)
    · rw [zm_w_set g1]; show va_P _ _ ((zm_w ρ dA h).set _ (ρ a, .inr (x1, (fs.set x2 (.int x)).map (zm_v ρ)))) H1; rw [List.map_set]; exact hP1
    · rw [zm_w_set g1]; show va_D _ ((zm_w ρ dA h).set _ (ρ a, .inr (x1, (fs.set x2 (.int x)).map (zm_v ρ)))); rw [List.map_set]; exact hD1
  case getstatic idx => exact va_gets hx hb hZ hS hown (hts _ hk) (fun _ h9 => h9) hdg (hG _ _ _ _ _ _ _ hd hl hR)
  case invokestatic idx =>
    rcases zm_bif2 hd with ⟨e, hd⟩ | ⟨e, hd⟩
    · rcases zm_bif2 hd with ⟨e1, hd⟩ | ⟨e1, hd⟩
      · obtain ⟨a, sp, b, dp, n, t, rfl, h1⟩ := zm_cy_of hd
        obtain ⟨h0, h1⟩ := zm_bif_of h1
        obtain ⟨n0, f, g1, h1⟩ := zm_ia_of h1
        obtain ⟨n1, g, g2, h1⟩ := zm_ia_of h1
        obtain ⟨h1, h2⟩ := zm_bif_of h1
        simp only [Bool.and_eq_true, decide_eq_true_eq] at h1
        obtain ⟨⟨⟨⟨u1, u2⟩, u3⟩, u4⟩, u5⟩ := h1
        obtain ⟨w1, w2, w3, w4⟩ := hk.2.1 (Nat.eq_of_beq_eq_true e1)
        refine va_copyi hx hb (hml.trans hl.1.symm) hown (hts _ w1) (hts _ w2) (hts _ w3) (hts _ w4) hK hP hD hS _ _ 0 0 (zm_w_get g1) (zm_w_get g2) rfl rfl rfl u1 u2 u3 (Nat.le_of_ble_eq_true u4) (Nat.le_of_ble_eq_true u5) (fun _ _ => rfl) hfr ?_ hdg (fun H1 locs1 hP1 hD1 hS1 => hG _ _ _ _ _ _ _ h2 hl ⟨zm_ty_arr g2 hT, ?_, ?_, hS1⟩)
        · have := Nat.le_of_ble_eq_true h0
          have h9 : nativeFrameWords "java/lang/System" "arraycopy" 5 + 11 ≤ 52 := by decide
          rw [show ((List.map (zm_v ρ) t).map fun v => v.category).sum = (t.map fun v => v.category).sum from zm_catsum ρ t]
          omega
        · rw [zm_w_set g2]; exact hP1
        · rw [zm_w_set g2]; exact hD1
      · rcases zm_bif2 hd with ⟨e2, hd⟩ | ⟨e2, hd⟩
        · obtain ⟨x, y, t, rfl, h1⟩ := zm_p2_of hd
          obtain ⟨h0, h2⟩ := zm_bif_of h1
          have h0 := Nat.le_of_ble_eq_true h0
          obtain ⟨w1, w2, w3, w4⟩ := hk.2.2.1 (Nat.eq_of_beq_eq_true e2)
          exact va_mmin hx hb (hml.trans hl.1.symm) hown (hts _ w1) (hts _ w2) (hts _ w3) (hts _ w4) hfr (by rw [show ((List.map (zm_v ρ) t).map fun v => v.category).sum = (t.map fun v => v.category).sum from zm_catsum ρ t]; omega) hcs.1 hcs.2 hdg (hG _ _ _ _ _ _ _ h2 hl hR)
        · obtain ⟨x, y, t, rfl, h1⟩ := zm_p2_of hd
          obtain ⟨h0, h2⟩ := zm_bif_of h1
          have h0 := Nat.le_of_ble_eq_true h0
          have n1 := Nat.ne_of_beq_eq_false e1
          have n2 := Nat.ne_of_beq_eq_false e2
          have n3 := hk.1 (Nat.le_of_ble_eq_true e)
          obtain ⟨w1, w2, w3, w4⟩ := hk.2.2.2 (by omega)
          exact va_mmax hx hb (hml.trans hl.1.symm) hown (hts _ w1) (hts _ w2) (hts _ w3) (hts _ w4) hfr (by rw [show ((List.map (zm_v ρ) t).map fun v => v.category).sum = (t.map fun v => v.category).sum from zm_catsum ρ t]; omega) hcs.1 hcs.2 hdg (hG _ _ _ _ _ _ _ h2 hl hR)
    · have hne : x1 < 9990 := Nat.lt_of_not_le (fun q => by rw [Nat.ble_eq_true_of_le q] at e; cases e)
      obtain ⟨ar, h1, h2⟩ := zm_ov_of hd
      obtain ⟨h3, h2⟩ := zm_bif_of h2
      have h3 := Nat.le_of_ble_eq_true h3
      rcases zm_bif2 h2 with ⟨-, h2⟩ | ⟨-, h2⟩
      · unfold zm_c0 at h2
        split at h2
        · next h1' hC => exact hCall idx x1 x2 x3 len ps false ar none h1' ls H locs rfl hne h1 h3 (fun q => by cases q) hC hl hR (fun H1 locs1 hR1 => hG _ _ _ _ _ _ _ h2 hl hR1)
        · cases h2
      rcases zm_bif2 h2 with ⟨-, h2⟩ | ⟨-, h2⟩
      · unfold zm_c1 at h2
        split at h2
        · next x h1' hC => exact hCall idx x1 x2 x3 len ps false ar (some (.int x)) h1' ls H locs rfl hne h1 h3 (fun q => by cases q) hC hl hR (fun H1 locs1 hR1 => hG _ _ _ _ _ _ _ h2 hl hR1)
        · cases h2
      · unfold zm_c2 at h2
        split at h2
        · next x h1' hC => exact hCall idx x1 x2 x3 len ps false ar (some (.long x)) h1' ls H locs rfl hne h1 h3 (fun q => by cases q) hC hl hR (fun H1 locs1 hR1 => hG _ _ _ _ _ _ _ h2 hl hR1)
        · cases h2
  case invokevirtual idx =>
    obtain ⟨ar, h1, h2⟩ := zm_ov_of hd
    obtain ⟨h3, h2⟩ := zm_bif_of h2
    obtain ⟨h3, h4⟩ := Bool.and_eq_true_iff.mp h3
    have h3 := Nat.le_of_ble_eq_true h3
    obtain ⟨hne, h2⟩ := zm_bnf_of h2
    have hne : x1 < 9990 := Nat.lt_of_not_le (fun q => by rw [Nat.ble_eq_true_of_le q] at hne; cases hne)
    rcases zm_bif2 h2 with ⟨-, h2⟩ | ⟨-, h2⟩
    · unfold zm_c0 at h2
      split at h2
      · next h1' hC => exact hCall idx x1 x2 x3 len ps true ar none h1' ls H locs rfl hne h1 h3 (fun _ => h4) hC hl hR (fun H1 locs1 hR1 => hG _ _ _ _ _ _ _ h2 hl hR1)
      · cases h2
    rcases zm_bif2 h2 with ⟨-, h2⟩ | ⟨-, h2⟩
    · unfold zm_c1 at h2
      split at h2
      · next x h1' hC => exact hCall idx x1 x2 x3 len ps true ar (some (.int x)) h1' ls H locs rfl hne h1 h3 (fun _ => h4) hC hl hR (fun H1 locs1 hR1 => hG _ _ _ _ _ _ _ h2 hl hR1)
      · cases h2
    · unfold zm_c2 at h2
      split at h2
      · next x h1' hC => exact hCall idx x1 x2 x3 len ps true ar (some (.long x)) h1' ls H locs rfl hne h1 h3 (fun _ => h4) hC hl hR (fun H1 locs1 hR1 => hG _ _ _ _ _ _ _ h2 hl hR1)
      · cases h2
  case ireturn =>
    rcases st with - | ⟨a, - | ⟨b, t⟩⟩
    · cases hd
    · cases a
      case int x =>
        rcases zm_bif2 hd with ⟨h1, h2⟩ | ⟨h1, h2⟩
        · obtain ⟨h3, h2⟩ := zm_bif_of h2
          cases h2
          exact hret .ireturn _ _ _ _ hdg (Or.inl ⟨rfl, x, rfl, rfl, fun _ => zm_01_of h3⟩) hR
        · cases h2
          exact hret .ireturn _ _ _ _ hdg (Or.inl ⟨rfl, x, rfl, rfl, fun q => by rw [h1] at q; cases q⟩) hR
      all_goals cases hd
    · cases a <;> cases hd
  case lreturn =>
    rcases st with - | ⟨a, - | ⟨b, t⟩⟩
    · cases hd
    · cases a
      case long x =>
        cases hd
        exact hret .lreturn _ _ _ _ hdg (Or.inr (Or.inl ⟨rfl, x, rfl, rfl⟩)) hR
      all_goals cases hd
    · cases a <;> cases hd
  case return_ =>
    cases st with
    | nil =>
      cases hd
      exact hret .return_ _ _ _ _ hdg (Or.inr (Or.inr ⟨rfl, rfl, rfl⟩)) hR
    | cons a t => cases hd
  all_goals exact absurd (show (none : Option zm_R) = some r from hd) (by simp)
end ZMS
end
section
/-! methods of the small machine, and that they are the machine's -/
abbrev zm_M : Type := String × MethodName × ByteArray × Nat × Option FieldType × Bool × Nat × Nat × Bool × List Nat × zm_T
def zm_meth (ms : Nat → Option zm_M) : Nat → zm_C
  | 0 => fun _ _ _ => none
  | d + 1 => fun μ args h => match ms μ with
    | none => none
    | some (_, _, _, nL, _, _, _, _, rb, cuts, T) => bif Nat.ble (zm_ent args).length nL then zm_blk T cuts rb none (zm_meth ms d) (zm_run T cuts rb none (zm_meth ms d) 10000000) 3000 0 (zm_pad nL (zm_ent args)) [] h else none
/-- the words of a call -/
def zm_lc (ms : Nat → Option zm_M) (own : String) (i : zm_I) : Prop := match i with
  | (ins, len, x1, x2, _, _) => match ins with
    | .invokestatic idx => x1 < 9990 → ∃ (own' : String) (y : MethodName) (cc : ByteArray) (nL : Nat) (ret : Option FieldType) (ci : Nat) (rb : Bool) (cuts : List Nat) (T : zm_T), ms x1 = some (own', y, cc, nL, ret, true, x2, ci, rb, cuts, T) ∧ Jvm.Cond.methodLink own idx y ∈ zm_WL
    | .invokevirtual idx => ∃ (own' : String) (y : MethodName) (cc : ByteArray) (nL : Nat) (ret : Option FieldType) (n : Nat) (rb : Bool) (cuts : List Nat) (T : zm_T), ms x1 = some (own', y, cc, nL, ret, false, n, len, rb, cuts, T) ∧ x2 = n + 1 ∧ Jvm.Cond.methodLink own idx y ∈ zm_WL
    | _ => True
def zm_le (rb : Bool) (ret : Option FieldType) (i : zm_I) : Prop := match i.1 with
  | .ireturn => (rb = true ∧ ret = some .boolean) ∨ (rb = false ∧ ret = some .int)
  | .lreturn => ret = some .long
  | .return_ => ret = none
  | _ => True
/-- a table is that of a code -/
def zm_tok (ms : Nat → Option zm_M) (own : String) (cc : ByteArray) (ret : Option FieldType) (rb : Bool) (T : zm_T) : Prop :=
  ∀ (pc : Nat) (i : zm_I), zm_look T pc = some i → decode cc pc = .ok (i.1, zm_ln i.1 i.2.1) ∧ zm_lk own pc i ∧ zm_lc ms own i ∧ zm_le rb ret i
def zm_mok (ms : Nat → Option zm_M) (M : zm_M) : Prop := match M with
  | (own, y, cc, nL, ret, stt, n, ci, rb, _, T) => y.cls = own ∧ plainName own = true ∧ (own ≠ "java/lang/invoke/MethodHandle" ∧ own ≠ "java/lang/invoke/VarHandle") ∧ Jvm.Cond.code y cc nL ret ∈ zm_WL ∧ Jvm.Cond.initialized own ∈ zm_WL ∧ (parseMethodDescriptor y.desc).map (fun d => d.parameters.length) = some n ∧
    (stt = true → Jvm.Cond.static y ∈ zm_WL) ∧ (stt = false → Jvm.Cond.instanceMethod y ∈ zm_WL ∧ Jvm.Cond.selects own y y ∈ zm_WL ∧ ∃ (T : u_T) (N : Nat), vwCl[ci]? = some (own, T, N)) ∧ nL ≤ 40 ∧ zm_tok ms own cc ret rb T
theorem zm_WL_good : ∀ w ∈ zm_WL, goodWord w = true := fun _ h => (List.mem_filter.mp h).2
section ZMB
variable {p : Program} {l : Launch} {e : Env} {R : Room} {s : State} {m : MethodId} {args : Array Value} {below : List Frame} {meth : Method} {c : Code} {cells slots : Nat} {Q : State → Prop} {own : String} {cc : ByteArray} {nL : Nat} {rb : Bool} {sc : zm_S} {ρ : Nat → Nat} {dA : Nat → ClassId} {D : va_G} {A : Nat → Prop} {C : zm_C} {r : zm_R}
/-- what a body asks of its calls -/
def zm_cok (p : Program) (l : Launch) (e : Env) (R : Room) (s : State) (m : MethodId) (args : Array Value) (below : List Frame) (meth : Method) (c : Code) (cells slots : Nat) (Q : State → Prop) (cc : ByteArray) (nL : Nat) (ρ : Nat → Nat) (dA : Nat → ClassId) (D : va_G) (A : Nat → Prop) (T : zm_T) (C : zm_C) : Prop :=
  ∀ (pc idx len x1 x2 x3 : Nat) (ps : List (Int × Nat)) (vi : Bool) (st : List Value) (ar : List Value × List Value) (v : Option Value) (h h1 : zm_H) (ls : Array Slot) (H : Heap) (locs : List Loc), zm_look T pc = some ((if vi then Instr.invokevirtual idx else Instr.invokestatic idx), len, x1, x2, x3, ps) → x1 < 9990 → zm_args x2 [] st = some ar → (ar.2.map fun v => v.category).sum ≤ 8 → (vi = true → zm_rc ar.1 len = true) → C x1 ar.1 h = some (v, h1) → ls.size = nL → zm_Rl s ρ dA D A h H locs →
    (∀ (H1 : Heap) (locs1 : List Loc), zm_Rl s ρ dA D A h1 H1 locs1 → W p l e R s m args below meth c H1 locs1 cells slots Q (F0 m (pc + 3) ls ((v.toList ++ ar.2).map (zm_v ρ)))) → W p l e R s m args below meth c H locs cells slots Q (F0 m pc ls (st.map (zm_v ρ)))
def zm_rok (p : Program) (l : Launch) (e : Env) (R : Room) (s : State) (m : MethodId) (args : Array Value) (below : List Frame) (meth : Method) (c : Code) (cells slots : Nat) (Q : State → Prop) (rb : Bool) (ρ : Nat → Nat) (dA : Nat → ClassId) (D : va_G) (A : Nat → Prop) (T : zm_T) (cc : ByteArray) (r : zm_R) : Prop :=
  ∀ (pc : Nat) (i : zm_I) (st : List Value) (ls : Array Slot) (H : Heap) (locs : List Loc), zm_look T pc = some i → decode cc pc = .ok (i.1, 1) → zm_end rb i.1 r.1 st → zm_Rl s ρ dA D A r.2 H locs → W p l e R s m args below meth c H locs cells slots Q (F0 m pc ls st)
theorem zm_blk_sound {T : zm_T} {cuts : List Nat} {K : zm_G} (X : zm_Cx p R s m args c own cc nL sc ρ dA D A) (hcs : cells ≤ R.cells ∧ slots ≤ R.slots) (hT : ∀ (pc : Nat) (i : zm_I), zm_look T pc = some i → decode cc pc = .ok (i.1, zm_ln i.1 i.2.1) ∧ zm_lk own pc i) (hC : zm_cok p l e R s m args below meth c cells slots Q cc nL ρ dA D A T C) (hr : zm_rok p l e R s m args below meth c cells slots Q rb ρ dA D A T cc r)
    (hK : ∀ (pc : Nat) (lv : zm_L) (st : List Value) (h : zm_H) (ls : Array Slot) (H : Heap) (locs : List Loc), K pc lv st h = some r → zm_has ρ ls nL lv → zm_Rl s ρ dA D A h H locs → W p l e R s m args below meth c H locs cells slots Q (F0 m pc ls (st.map (zm_v ρ)))) :
    ∀ (n pc : Nat) (lv : zm_L) (st : List Value) (h : zm_H) (ls : Array Slot) (H : Heap) (locs : List Loc), zm_blk T cuts rb sc C K n pc lv st h = some r → zm_has ρ ls nL lv → zm_Rl s ρ dA D A h H locs → W p l e R s m args below meth c H locs cells slots Q (F0 m pc ls (st.map (zm_v ρ))) := by
  intro n
  induction n with
  | zero => intro pc lv st h ls H locs hb; cases hb
  | succ n ih =>
    intro pc lv st h ls H locs hb hl hR
    simp only [zm_blk] at hb
    cases hlk : zm_look T pc with
    | none => rw [hlk] at hb; cases hb
    | some i =>
      rw [hlk] at hb
      obtain ⟨hdg, hk⟩ := hT pc i hlk
      refine zm_do_sound X hcs hdg hk hb ?_ ?_ ?_ hl hR
      · intro idx x1 x2 x3 len ps vi ar v h1 ls H locs ei h1 h2 h3 h4 h5 h6 h7 h8
        exact hC pc idx len x1 x2 x3 ps vi st ar v h _ ls H locs (by rw [hlk, ei]) h1 h2 h3 h4 h5 h6.1 h7 h8
      · intro ins st ls H locs hdr he hR
        have e : i.1 = ins := by
          rw [hdg] at hdr
          exact (Prod.mk.inj (Except.ok.inj hdr)).1
        subst e
        exact hr pc i st ls H locs hlk hdr he hR
      · intro pc lv st h ls H locs hG hl hR
        rcases zm_bif2 hG with ⟨-, h2⟩ | ⟨-, h2⟩
        · exact hK pc lv st h ls H locs h2 hl hR
        · exact ih pc lv st h ls H locs h2 hl hR
theorem zm_run_sound {T : zm_T} {cuts : List Nat} (X : zm_Cx p R s m args c own cc nL sc ρ dA D A) (hcs : cells ≤ R.cells ∧ slots ≤ R.slots) (hT : ∀ (pc : Nat) (i : zm_I), zm_look T pc = some i → decode cc pc = .ok (i.1, zm_ln i.1 i.2.1) ∧ zm_lk own pc i) (hC : zm_cok p l e R s m args below meth c cells slots Q cc nL ρ dA D A T C) (hr : zm_rok p l e R s m args below meth c cells slots Q rb ρ dA D A T cc r) :
    ∀ (f pc : Nat) (lv : zm_L) (st : List Value) (h : zm_H) (ls : Array Slot) (H : Heap) (locs : List Loc), zm_run T cuts rb sc C f pc lv st h = some r → zm_has ρ ls nL lv → zm_Rl s ρ dA D A h H locs → W p l e R s m args below meth c H locs cells slots Q (F0 m pc ls (st.map (zm_v ρ))) := by
  intro f
  induction f with
  | zero => intro pc lv st h ls H locs hb; cases hb
  | succ f ih =>
    intro pc lv st h ls H locs hb hl hR
    exact zm_blk_sound X hcs hT hC hr ih 3000 pc lv st h ls H locs hb hl hR
theorem zm_callW {v : Option Value} {B : State → Prop} {A0 A1 : Nat → Prop} {H0 H : Heap} {locs : List Loc} {free : Addr → Prop} {pc : Nat} {ls : Array Slot} {st0 rest : List Value} (hr : va_Run p l e R s m args below meth c H locs cells slots 0 0 (F0 m pc ls st0) rest (fun st oc t => (oc = .returned v ∧ B t) ∧ va_F A1 st t) free) (hS : va_S A0 H0 H locs) (hA : ∀ q, q < H.size → A1 q → A0 q) (hf : ∀ q, free q → A0 q)
    (kk : ∀ (t : State) (H1 : Heap) (locs1 : List Loc), t.heap = H1 → B t → va_S A0 H0 H1 locs1 → W p l e R s m args below meth c H1 locs1 cells slots Q (F0 m (pc + 3) ls (v.toList ++ rest))) : W p l e R s m args below meth c H locs cells slots Q (F0 m pc ls st0) := by
  intro T hT X
  obtain ⟨v', st₀, t, T', L, h0, X', hL, e1, e2, ⟨⟨hv, hb⟩, hz, hk⟩, st⟩ := hr T hT X
  cases hv
  rw [h0] at hz hk
  obtain ⟨t2, a1, b1⟩ := kk t T'.heap (locs ++ L) e1.symm hb
    ⟨Nat.le_trans hS.1 (by rw [e1]; exact hz), fun q h1 h2 => by rw [e1, hk q (Nat.lt_of_lt_of_le h1 hS.1) (fun z => h2 (hA q (Nat.lt_of_lt_of_le h1 hS.1) z))]; exact hS.2.1 q h1 h2, fun q hq => by
      rcases List.mem_append.mp hq with h | h
      · exact hS.2.2 q h
      · exact hf _ (hL q h)⟩ T' rfl X'
  exact ⟨t2, st t2 a1, b1⟩
end ZMB
def zm_TN (ρ : Nat → Nat) (A : Nat → Prop) (U : State) : Prop := va_Z "WordRace$Word" "TENS" "[I" (.ref (ρ 2000000)) A U U.heap ∧ va_X (ρ 2000000) 6 zm_ten U U.heap ∧ ρ 2000000 < U.heap.size ∧ ¬ A (ρ 2000000)
def zm_Pc (ρ : Nat → Nat) (dA : Nat → ClassId) (D : va_G) (sz : Nat) (as : List Value) (h : zm_H) : Array Value → State → Prop := va_Pc (as.map (zm_v ρ)) (fun U => U.heap.size = sz ∧ zm_ty h ∧ va_P D vwCl (zm_w ρ dA h) U.heap ∧ va_K D vwCl (zm_tys dA) U ∧ va_D (fun _ => True) (zm_w ρ dA h) ∧ zm_TN ρ (va_A (zm_w ρ dA h) sz) U)
def zm_Qc (ρ : Nat → Nat) (dA : Nat → ClassId) (D : va_G) (sz : Nat) (h : zm_H) (r : zm_R) : Array Value → State → Outcome → State → Prop := fun _ st oc t => (oc = .returned (r.1.map (zm_v ρ)) ∧ zm_ty r.2 ∧ va_P D vwCl (zm_w ρ dA r.2) t.heap ∧ va_D (va_A (zm_w ρ dA h) sz) (zm_w ρ dA r.2)) ∧ va_F (va_A (zm_w ρ dA h) sz) st t
abbrev zm_rm (d : Nat) : Room := { frames := d, cells := 0, slots := 0, locals := 60 * d }
theorem zm_blind (ρ : Nat → Nat) (dA : Nat → ClassId) (D : va_G) (sz : Nat) (as : List Value) (h : zm_H) : FrameBlind (zm_Pc ρ dA D sz as h) := by
  intro a U g mk q
  obtain ⟨q0, q1, qT, qP, qK, qD, z1, z2, z3, z4⟩ := q
  exact ⟨q0, q1, qT, qP, va_K.moved (u := U) (U := U.calling g mk a) (Vm.Alike.refl U.vm) qK, qD, va_Z.moved (u := U) (U := U.calling g mk a) (Vm.Alike.refl U.vm) z1, va_X.moved (u := U) (U := U.calling g mk a) (Vm.Alike.refl U.vm) z2, z3, z4⟩
theorem zm_ent_sl : ∀ (ρ : Nat → Nat) (as : List Value) (k : Nat) (i : Nat) (v : Value), (zm_ent as)[i]? = some (some v) → (i + k, zm_v ρ v) ∈ lv_args k (as.map (zm_v ρ))
  | ρ, [], k, i, v, h => by simp [zm_ent] at h
  | ρ, a :: as, k, i, v, h => by
    simp only [List.map_cons, lv_args, zm_cat]
    simp only [zm_ent] at h
    cases e : Nat.beq a.category 2 with
    | true =>
      rw [e] at h
      have e2 := Nat.eq_of_beq_eq_true e
      rw [if_pos e2]
      match i, h with
      | 0, h =>
        simp only [cond_true, List.getElem?_cons_zero, Option.some.injEq] at h
        subst h
        rw [Nat.zero_add]
        exact List.mem_cons_self
      | 1, h => simp at h
      | i + 2, h =>
        refine List.mem_cons_of_mem _ ?_
        have := zm_ent_sl ρ as (k + 2) i v (by simpa using h)
        rwa [show i + 2 + k = i + (k + 2) by omega]
    | false =>
      rw [e] at h
      have e2 := Nat.ne_of_beq_eq_false e
      rw [if_neg e2]
      match i, h with
      | 0, h =>
        simp only [cond_false, List.getElem?_cons_zero, Option.some.injEq] at h
        subst h
        rw [Nat.zero_add]
        exact List.mem_cons_self
      | i + 1, h =>
        refine List.mem_cons_of_mem _ ?_
        have := zm_ent_sl ρ as (k + 1) i v (by simpa using h)
        rwa [show i + 1 + k = i + (k + 1) by omega]
theorem zm_ent_len (ρ : Nat → Nat) : ∀ as : List Value, (zm_ent as).length = (lg_sl (as.map (zm_v ρ))).length
  | [] => rfl
  | a :: as => by
    have ih := zm_ent_len ρ as
    unfold lg_sl at ih ⊢
    simp only [zm_ent, List.map_cons, List.flatMap_cons, zm_cat]
    cases e : Nat.beq a.category 2 with
    | true =>
      rw [if_pos (Nat.eq_of_beq_eq_true e)]
      simp [ih, Nat.add_comm]
    | false =>
      rw [if_neg (Nat.ne_of_beq_eq_false e)]
      simp [ih, Nat.add_comm]
theorem zm_entry (ρ : Nat → Nat) (as : List Value) {n : Nat} (h : (zm_ent as).length ≤ n) : zm_has ρ ((lg_sl (as.map (zm_v ρ)) ++ List.replicate (n - (lg_sl (as.map (zm_v ρ))).length) Slot.unset).toArray) n (zm_pad n (zm_ent as)) := by
  have h1 := lv_entry (as.map (zm_v ρ)) (n := n) (by rw [← zm_ent_len ρ as]; exact h)
  refine ⟨h1.1, by simp [zm_pad]; omega, h1.2.1, fun i v hv => ?_⟩
  unfold zm_pad at hv
  rcases Nat.lt_or_ge i (zm_ent as).length with q | q
  · rw [List.getElem?_append_left q] at hv
    have := h1.2.2 _ (zm_ent_sl ρ as 0 i v hv)
    simpa using this
  · rw [List.getElem?_append_right q] at hv
    simp only [List.getElem?_replicate] at hv
    split at hv <;> cases hv
end
section
/-! the contract of every method of the small machine -/
section ZMC
variable {p : Program} {l : Launch} {e : Env} {R : Room} {s : State} {m : MethodId} {args : Array Value} {below : List Frame} {meth : Method} {c : Code} {cells slots : Nat} {Q : State → Prop} {own : String} {cc : ByteArray} {nL : Nat} {rb : Bool} {sc : zm_S} {ρ : Nat → Nat} {dA : Nat → ClassId} {D : va_G} {A : Nat → Prop}
def zm_IH (ms : Nat → Option zm_M) (l : Launch) (d : Nat) : Prop :=
  ∀ (μ : Nat) (as : List Value) (h : zm_H) (r : zm_R), zm_meth ms d μ as h = some r → ∀ (own : String) (y : MethodName) (cc : ByteArray) (nL : Nat) (ret : Option FieldType) (stt : Bool) (n ci : Nat) (rb : Bool) (cuts : List Nat) (T : zm_T), ms μ = some (own, y, cc, nL, ret, stt, n, ci, rb, cuts, T) → ∀ (ρ : Nat → Nat) (dA : Nat → ClassId) (D : va_G) (sz : Nat), Met l y (Jvm.Cond.code y cc nL ret :: zm_WL) (zm_rm d) (zm_Pc ρ dA D sz as h) (zm_Qc ρ dA D sz h r) 0 0 (va_A (zm_w ρ dA h) sz)
theorem zm_goodIn {y : MethodName} {cc : ByteArray} {nL : Nat} {ret : Option FieldType} (h : Jvm.Cond.code y cc nL ret ∈ zm_WL) : GoodIn zm_WL (Jvm.Cond.code y cc nL ret :: zm_WL) := by
  intro w hw
  have hm : w ∈ zm_WL := by
    rcases List.mem_cons.mp hw with q | q
    · rw [q]; exact h
    · exact q
  exact ⟨hm, good_of_word (zm_WL_good w hm)⟩
theorem zm_toList (f : Value → Value) (v : Option Value) (t : List Value) : (v.map f).toList ++ t.map f = (v.toList ++ t).map f := by
  cases v <;> simp
theorem zm_cok_of {ms : Nat → Option zm_M} (hms : ∀ μ M, ms μ = some M → zm_mok ms M) (X : zm_Cx p R s m args c own cc nL sc ρ dA D A) {T : zm_T} (hTk : ∀ (pc : Nat) (i : zm_I), zm_look T pc = some i → decode cc pc = .ok (i.1, zm_ln i.1 i.2.1) ∧ zm_lc ms own i) {d : Nat} (hRm : d + 1 ≤ R.frames ∧ 60 * (d + 1) ≤ R.locals) (hcs : cells ≤ R.cells ∧ slots ≤ R.slots) (IH : zm_IH ms l d) : zm_cok p l e R s m args below meth c cells slots Q cc nL ρ dA D A T (zm_meth ms d) := by
  obtain ⟨hx, hb, hml, hown, hts, hK, hA, hZ, hX, hfr, hlo⟩ := X
  intro pc idx len x1 x2 x3 ps vi st ar v h h1 ls H locs hlk hne har hcat hrc hC hls hR kk
  obtain ⟨hT, hP, hD, hS⟩ := hR
  obtain ⟨hdg, hlc⟩ := hTk pc _ hlk
  obtain ⟨t, ht1, ht2, ht3⟩ := zm_args_eq x2 [] st ar har
  rw [List.append_nil] at ht3
  have hfree : ∀ q, va_A (zm_w ρ dA h) H.size q → A q := by
    intro q hq
    rcases hq with ⟨k, e, hq⟩ | hq
    · exact hD.2 k _ hq
    · exact hA q (Nat.le_trans hS.1 hq)
  have hro := hX 2000000 6 zm_ten rfl
  have hPU : ∀ U : State, U.heap = H → s.WarmedH U.vm → zm_Pc ρ dA D H.size ar.1 h (ar.1.map (zm_v ρ)).toArray U := by
    intro U hU hW
    have hqH : H[ρ 2000000]? = s.heap[ρ 2000000]? := hS.2.1 _ hro.2.1 hro.2.2
    refine ⟨rfl, by rw [hU], hT, by rw [hU]; exact hP, va_K.moved hW.alike hK, hD.weaken (fun _ _ _ _ => trivial), ?_, ?_, ?_, ?_⟩
    · rw [hU]
      exact va_Z.moved hW.alike (va_Z.narrow (va_Z.kept hZ (fun a h1 h2 => hS.2.1 a h1 h2)) hfree)
    · rw [hU]
      exact va_X.moved hW.alike (va_X.kept hro.1 hqH)
    · rw [hU]; exact Nat.lt_of_lt_of_le hro.2.1 hS.1
    · exact fun q => hro.2.2 (hfree _ q)
  have hend : ∀ (tt : State) (H1 : Heap) (locs1 : List Loc), tt.heap = H1 → (zm_ty h1 ∧ va_P D vwCl (zm_w ρ dA h1) tt.heap ∧ va_D (va_A (zm_w ρ dA h) H.size) (zm_w ρ dA h1)) → va_S A s.heap H1 locs1 → W p l e R s m args below meth c H1 locs1 cells slots Q (F0 m (pc + 3) ls ((v.map (zm_v ρ)).toList ++ ar.2.map (zm_v ρ))) := by
    intro tt H1 locs1 e1 hB hS1
    rw [zm_toList]
    refine kk H1 locs1 ⟨hB.1, by rw [← e1]; exact hB.2.1, hB.2.2.weaken (fun _ q _ h => hfree q.1 h), hS1⟩
  cases vi with
  | false =>
    obtain ⟨own', y, cc', nL', ret, ci, rb', cuts, T', hM, hml'⟩ := hlc hne
    obtain ⟨k1, k2, k3, k4, k5, k6, k7, k8, k9, k10⟩ := hms _ _ hM
    have hMet := IH x1 ar.1 h (v, h1) hC _ _ _ _ _ _ _ _ _ _ _ hM ρ dA D H.size
    have hCB : CallB R s args own idx y cc' nL' ret (Jvm.Cond.code y cc' nL' ret :: zm_WL) (zm_rm d) 0 0 x2 := callB_of x2 hts (zm_goodIn k4) rfl rfl rfl (by rw [k1]; exact hts _ k5) (hts _ hml') ⟨by rw [k1]; exact k3.1, by rw [k1]; exact k3.2, k6⟩ ⟨hRm.1, by show 8 + (nL' + 11) + 60 * d ≤ R.locals; omega⟩
    have hrun := va_runS (p := p) (l := l) (e := e) (below := below) (meth := meth) (locs := locs) (cells := cells) (slots := slots) (g := F0 m pc ls (st.map (zm_v ρ))) (As := ar.1.map (zm_v ρ)) (rest := ar.2.map (zm_v ρ)) ⟨hx, hb, hml, hown, hts⟩ hMet ⟨hCB, hts _ (k7 rfl)⟩ ⟨zm_blind ρ dA D H.size ar.1 h, hPU⟩ rfl (by rw [List.length_map, ht3, List.length_reverse, ht1]) hls (by show st.map (zm_v ρ) = _; rw [ht2, ht3, List.map_append, List.map_reverse, List.reverse_reverse]) (by show 2 * (F0 m pc ls (st.map (zm_v ρ))).monitorRoom + _ ≤ 8; rw [show ((List.map (zm_v ρ) ar.2).map fun v => v.category).sum = (ar.2.map fun v => v.category).sum from zm_catsum ρ ar.2]; exact (Nat.zero_add _).symm ▸ hcat) hdg hcs
    exact zm_callW hrun hS (fun q _ h => hfree q h) hfree hend
  | true =>
    obtain ⟨own', y, cc', nL', ret, n, rb', cuts, T', hM, hx2, hml'⟩ := hlc
    obtain ⟨k1, k2, k3, k4, k5, k6, k7, k8, k9, k10⟩ := hms _ _ hM
    obtain ⟨k81, k82, TT, NN, k83⟩ := k8 rfl
    have hMet := IH x1 ar.1 h (v, h1) hC _ _ _ _ _ _ _ _ _ _ _ hM ρ dA D H.size
    have hrc := hrc rfl
    unfold zm_rc at hrc
    split at hrc
    · next k As hA1 =>
      have hoc := Nat.eq_of_beq_eq_true hrc
      have hlt : len < vwCl.length := (List.getElem?_eq_some_iff.mp k83).1
      have hlt8 : len < 8 := hlt
      obtain ⟨fs, hfs⟩ := hT k (by omega)
      rw [hoc] at hfs
      have hrecv := va_recv hK hP (ci := len) (q0 := zm_pos h k) k83 (zm_w_get (ρ := ρ) (dA := dA) hfs)
      have hPU2 : ∀ U : State, U.heap = H → s.WarmedH U.vm → zm_Pc ρ dA D H.size ar.1 h (Value.ref (ρ k) :: As.map (zm_v ρ)).toArray U := by
        intro U h1 h2
        have := hPU U h1 h2
        rw [hA1] at this ⊢
        exact this
      have hCB : CallB R s args own idx y cc' nL' ret (Jvm.Cond.code y cc' nL' ret :: zm_WL) (zm_rm d) 0 0 n := callB_of n hts (zm_goodIn k4) rfl rfl rfl (by rw [k1]; exact hts _ k5) (hts _ hml') ⟨by rw [k1]; exact k3.1, by rw [k1]; exact k3.2, k6⟩ ⟨hRm.1, by show 8 + (nL' + 11) + 60 * d ≤ R.locals; omega⟩
      have htr : t = As.reverse ++ [.ref k] := by
        have := congrArg List.reverse (ht3.symm.trans hA1)
        simpa using this
      have hrun := va_runV (p := p) (l := l) (e := e) (below := below) (meth := meth) (locs := locs) (cells := cells) (slots := slots) (g := F0 m pc ls (st.map (zm_v ρ))) (As := As.map (zm_v ρ)) (rest := ar.2.map (zm_v ρ)) (C := own') (b := ρ k) ⟨hx, hb, hml, hown, hts⟩ hMet ⟨hCB, hts _ k81, hts _ k82⟩ ⟨zm_blind ρ dA D H.size ar.1 h, hrecv, hPU2⟩ rfl (by
        have : ar.1.length = x2 := by rw [ht3, List.length_reverse, ht1]
        rw [hA1, hx2] at this
        rw [List.length_map]
        simpa using this) hls (by show st.map (zm_v ρ) = _; rw [ht2, htr]; simp [zm_v]) (by show 2 * (F0 m pc ls (st.map (zm_v ρ))).monitorRoom + _ ≤ 8; rw [show ((List.map (zm_v ρ) ar.2).map fun v => v.category).sum = (ar.2.map fun v => v.category).sum from zm_catsum ρ ar.2]; exact (Nat.zero_add _).symm ▸ hcat) hdg hcs
      exact zm_callW hrun hS (fun q _ h => hfree q h) hfree hend
    · cases hrc
end ZMC
set_option maxHeartbeats 1000000 in
theorem zm_met {ms : Nat → Option zm_M} (hms : ∀ μ M, ms μ = some M → zm_mok ms M) (l : Launch) : ∀ d : Nat, zm_IH ms l d := by
  intro d
  induction d with
  | zero => intro μ as h r hr; cases hr
  | succ d ih =>
    intro μ as h r hr own y cc nL ret stt n ci rb cuts T hM ρ dA D sz
    simp only [zm_meth] at hr
    rw [hM] at hr
    obtain ⟨hen, hr⟩ := zm_bif_of hr
    have hen := Nat.le_of_ble_eq_true hen
    obtain ⟨k1, k2, k3, k4, k5, k6, k7, k8, k9, k10⟩ := hms _ _ hM
    refine Met.ofW (cc := cc) (maxL := nL) (ret := ret) (by rw [k1]; exact k2) rfl ?_
    intro p e s m args below meth c s₁ B hml hv
    obtain ⟨rfl, hsz, hT, hP, hK, hD0, z1, z2, z3, z4⟩ := hv
    subst hsz
    have hx := B.exec
    have hb := B.bytes
    have hrt := B.returns
    have hts0 := atoms_spec (ws := Jvm.Cond.code y cc nL ret :: zm_WL) B.pre
    have hts : ∀ w ∈ zm_WL, w.before (as.map (zm_v ρ)).toArray s = true := fun w hw => hts0 w (List.mem_cons_of_mem _ hw)
    have hown : s.vm.findClass own = some m.cls := by rw [← k1]; exact findClass_of_methodNamed B.named
    have hlocks := B.notSynchronized
    have hD := hD0.self (sz := s.heap.size)
    have hA : ∀ q : Nat, s.heap.size ≤ q → va_A (zm_w ρ dA h) s.heap.size q := fun q h => Or.inr h
    have hS : va_S (va_A (zm_w ρ dA h) s.heap.size) s.heap s.heap [] := va_S.rf
    have X : zm_Cx p (zm_rm (d + 1)) s m (as.map (zm_v ρ)).toArray c own cc nL none ρ dA D (va_A (zm_w ρ dA h) s.heap.size) := by
      refine ⟨hx, hb, hml, hown, hts, hK, hA, z1, ?_, by show 1 ≤ d + 1; omega, by show 60 ≤ 60 * (d + 1); omega⟩
      intro k n f hk
      unfold zm_ro at hk
      cases e1 : Nat.beq k 2000000 with
      | true =>
        rw [e1] at hk
        cases hk
        rw [Nat.eq_of_beq_eq_true e1]
        exact ⟨z2, z3, z4⟩
      | false =>
        rw [e1] at hk
        simp at hk
    have hcok : zm_cok p l e (zm_rm (d + 1)) s m (as.map (zm_v ρ)).toArray below meth c 0 0 (MQ below (zm_Qc ρ dA D s.heap.size h r) (as.map (zm_v ρ)).toArray s 0 0 (va_A (zm_w ρ dA h) s.heap.size)) cc nL ρ dA D (va_A (zm_w ρ dA h) s.heap.size) T (zm_meth ms d) :=
      zm_cok_of hms X (fun pc i hi => ⟨(k10 pc i hi).1, (k10 pc i hi).2.2.1⟩) ⟨Nat.le_refl _, Nat.le_refl _⟩ ⟨Nat.le_refl _, Nat.le_refl _⟩ ih
    have hrok : zm_rok p l e (zm_rm (d + 1)) s m (as.map (zm_v ρ)).toArray below meth c 0 0 (MQ below (zm_Qc ρ dA D s.heap.size h r) (as.map (zm_v ρ)).toArray s 0 0 (va_A (zm_w ρ dA h) s.heap.size)) rb ρ dA D (va_A (zm_w ρ dA h) s.heap.size) T cc r := by
      intro pc i st ls H locs hlk hdg he hR
      have hle := (k10 pc i hlk).2.2.2
      obtain ⟨rT, rP, rD, rS⟩ := hR
      unfold zm_le at hle
      rcases he with ⟨e1, x, e2, rfl, e3⟩ | ⟨e1, x, e2, rfl⟩ | ⟨e1, e2, rfl⟩
      · rw [e1] at hle hdg
        rcases hle with ⟨f1, f2⟩ | ⟨f1, f2⟩
        · refine W.zret (ty := .boolean) hx hb (by rw [hrt, f2]) (by rcases e3 f1 with rfl | rfl <;> decide) (fun t ht hW => ⟨⟨by rw [e2]; rfl, rT, by rw [ht]; exact rP, rD⟩, rS.F ht⟩) rS.2.2 hdg
        · refine W.iret hx hb (by rw [hrt, f2]) (fun t ht hW => ⟨⟨by rw [e2]; rfl, rT, by rw [ht]; exact rP, rD⟩, rS.F ht⟩) rS.2.2 hdg
      · rw [e1] at hle hdg
        refine W.lret hx hb (by rw [hrt]; exact hle) (fun t ht hW => ⟨⟨by rw [e2]; rfl, rT, by rw [ht]; exact rP, rD⟩, rS.F ht⟩) rS.2.2 hdg
      · rw [e1] at hle hdg
        refine W.vret hx hb (by rw [hrt]; exact hle) (fun t ht hW => ⟨⟨by rw [e2]; rfl, rT, by rw [ht]; exact rP, rD⟩, rS.F ht⟩) rS.2.2 hdg
    have hTT : ∀ (pc : Nat) (i : zm_I), zm_look T pc = some i → decode cc pc = .ok (i.1, zm_ln i.1 i.2.1) ∧ zm_lk own pc i := fun pc i hi => ⟨(k10 pc i hi).1, (k10 pc i hi).2.1⟩
    rw [lg_entry_eq]
    exact zm_blk_sound X ⟨Nat.le_refl _, Nat.le_refl _⟩ hTT hcok hrok (fun pc lv st h ls H locs => zm_run_sound X ⟨Nat.le_refl _, Nat.le_refl _⟩ hTT hcok hrok 10000000 pc lv st h ls H locs) 3000 0 _ [] h _ s.heap [] hr (zm_entry ρ as hen) ⟨hT, hP, hD, hS⟩
end
section
/-! printed by wip/whole/emit.py: the tables of the methods -/
def zt_X0_copyFrom : zm_T := [[(0, (.aload_n 0, 1, 0, 0, 0, [])), (1, (.aload_n 1, 1, 0, 0, 0, [])), (2, (.getfield 9, 3, 0, 0, 0, [])), (5, (.putfield 9, 3, 0, 0, 0, [])), (8, (.aload_n 0, 1, 0, 0, 0, [])), (9, (.aload_n 1, 1, 0, 0, 0, [])), (10, (.getfield 38, 3, 0, 2, 0, [])), (13, (.putfield 38, 3, 0, 2, 0, []))],
  [(16, (.aload_n 0, 1, 0, 0, 0, [])), (17, (.aload_n 1, 1, 0, 0, 0, [])), (18, (.getfield 41, 3, 0, 6, 0, [])), (21, (.putfield 41, 3, 0, 6, 0, [])), (24, (.aload_n 0, 1, 0, 0, 0, [])), (25, (.aload_n 1, 1, 0, 0, 0, [])), (26, (.getfield 44, 3, 0, 9, 0, [])), (29, (.putfield 44, 3, 0, 9, 0, []))],
  [(32, (.aload_n 1, 1, 0, 0, 0, [])), (33, (.getfield 15, 3, 0, 1, 0, [])), (36, (.iconst 0, 1, 0, 0, 0, [])), (37, (.aload_n 0, 1, 0, 0, 0, [])), (38, (.getfield 15, 3, 0, 1, 0, [])), (41, (.iconst 0, 1, 0, 0, 0, [])), (42, (.bipush 6, 2, 0, 0, 0, [])), (44, (.invokestatic 47, 3, 9999, 5, 0, [])), (47, (.aload_n 1, 1, 0, 0, 0, []))],
  [(48, (.getfield 26, 3, 0, 4, 0, [])), (51, (.iconst 0, 1, 0, 0, 0, [])), (52, (.aload_n 0, 1, 0, 0, 0, [])), (53, (.getfield 26, 3, 0, 4, 0, [])), (56, (.iconst 0, 1, 0, 0, 0, [])), (57, (.iconst 4, 1, 0, 0, 0, [])), (58, (.invokestatic 47, 3, 9999, 5, 0, [])), (61, (.aload_n 1, 1, 0, 0, 0, [])), (62, (.getfield 29, 3, 0, 5, 0, []))],
  [(65, (.iconst 0, 1, 0, 0, 0, [])), (66, (.aload_n 0, 1, 0, 0, 0, [])), (67, (.getfield 29, 3, 0, 5, 0, [])), (70, (.iconst 0, 1, 0, 0, 0, [])), (71, (.iconst 4, 1, 0, 0, 0, [])), (72, (.invokestatic 47, 3, 9999, 5, 0, [])), (75, (.aload_n 1, 1, 0, 0, 0, [])), (76, (.getfield 32, 3, 0, 7, 0, [])), (79, (.iconst 0, 1, 0, 0, 0, []))],
  [(80, (.aload_n 0, 1, 0, 0, 0, [])), (81, (.getfield 32, 3, 0, 7, 0, [])), (84, (.iconst 0, 1, 0, 0, 0, [])), (85, (.bipush 8, 2, 0, 0, 0, [])), (87, (.invokestatic 47, 3, 9999, 5, 0, [])), (90, (.aload_n 1, 1, 0, 0, 0, [])), (91, (.getfield 35, 3, 0, 8, 0, [])), (94, (.iconst 0, 1, 0, 0, 0, [])), (95, (.aload_n 0, 1, 0, 0, 0, []))],
  [(96, (.getfield 35, 3, 0, 8, 0, [])), (99, (.iconst 0, 1, 0, 0, 0, [])), (100, (.bipush 8, 2, 0, 0, 0, [])), (102, (.invokestatic 47, 3, 9999, 5, 0, [])), (105, (.aload_n 0, 1, 0, 0, 0, [])), (106, (.getfield 22, 3, 0, 3, 0, [])), (109, (.aload_n 1, 1, 0, 0, 0, [])), (110, (.getfield 22, 3, 0, 3, 0, []))],
  [(113, (.invokevirtual 53, 4, 42, 2, 0, [])), (116, (.return_, 1, 0, 0, 0, []))]]
def zt_X0_hasWord : zm_T := [[(0, (.iload_n 1, 1, 0, 0, 0, [])), (1, (.ifCond .lt 21, 3, 22, 0, 0, [])), (4, (.iload_n 1, 1, 0, 0, 0, [])), (5, (.aload_n 0, 1, 0, 0, 0, [])), (6, (.getfield 38, 3, 0, 2, 0, [])), (9, (.if_icmp .ge 13, 3, 22, 0, 0, [])), (12, (.iload_n 1, 1, 0, 0, 0, [])), (13, (.bipush 6, 2, 0, 0, 0, [])), (15, (.if_icmp .ge 7, 3, 22, 0, 0, []))],
  [(18, (.iconst 1, 1, 0, 0, 0, [])), (19, (.goto 4, 3, 23, 0, 0, [])), (22, (.iconst 0, 1, 0, 0, 0, [])), (23, (.ireturn, 1, 0, 0, 0, []))]]
def zt_X0_areTwoWords : zm_T := [[(0, (.aload_n 0, 1, 0, 0, 0, [])), (1, (.iload_n 1, 1, 0, 0, 0, [])), (2, (.invokevirtual 57, 0, 1, 2, 1, [])), (5, (.ifCond .eq 20, 3, 25, 0, 0, [])), (8, (.aload_n 0, 1, 0, 0, 0, [])), (9, (.iload_n 2, 1, 0, 0, 0, [])), (10, (.invokevirtual 57, 0, 1, 2, 1, [])), (13, (.ifCond .eq 12, 3, 25, 0, 0, []))],
  [(16, (.iload_n 1, 1, 0, 0, 0, [])), (17, (.iload_n 2, 1, 0, 0, 0, [])), (18, (.if_icmp .eq 7, 3, 25, 0, 0, [])), (21, (.iconst 1, 1, 0, 0, 0, [])), (22, (.goto 4, 3, 26, 0, 0, [])), (25, (.iconst 0, 1, 0, 0, 0, [])), (26, (.ireturn, 1, 0, 0, 0, []))]]
def zt_X0_wordAt : zm_T := [[(0, (.aload_n 0, 1, 0, 0, 0, [])), (1, (.iload_n 1, 1, 0, 0, 0, [])), (2, (.invokevirtual 57, 0, 1, 2, 1, [])), (5, (.ifCond .eq 12, 3, 17, 0, 0, [])), (8, (.aload_n 0, 1, 0, 0, 0, [])), (9, (.getfield 15, 3, 0, 1, 0, [])), (12, (.iload_n 1, 1, 0, 0, 0, [])), (13, (.iaload, 1, 0, 0, 0, [])), (14, (.goto 4, 3, 18, 0, 0, []))],
  [(17, (.iconst 0, 1, 0, 0, 0, [])), (18, (.ireturn, 1, 0, 0, 0, []))]]
def zt_X0_addWord : zm_T := [[(0, (.aload_n 0, 1, 0, 0, 0, [])), (1, (.getfield 38, 3, 0, 2, 0, [])), (4, (.ifCond .lt 12, 3, 16, 0, 0, [])), (7, (.aload_n 0, 1, 0, 0, 0, [])), (8, (.getfield 38, 3, 0, 2, 0, [])), (11, (.bipush 6, 2, 0, 0, 0, [])), (13, (.if_icmp .lt 4, 3, 17, 0, 0, []))],
  [(16, (.return_, 1, 0, 0, 0, [])), (17, (.aload_n 0, 1, 0, 0, 0, [])), (18, (.getfield 15, 3, 0, 1, 0, [])), (21, (.aload_n 0, 1, 0, 0, 0, [])), (22, (.getfield 38, 3, 0, 2, 0, [])), (25, (.iload_n 1, 1, 0, 0, 0, [])), (26, (.iastore, 1, 0, 0, 0, [])), (27, (.aload_n 0, 1, 0, 0, 0, [])), (28, (.dup, 1, 0, 0, 0, [])), (29, (.getfield 38, 3, 0, 2, 0, []))],
  [(32, (.iconst 1, 1, 0, 0, 0, [])), (33, (.iadd, 1, 0, 0, 0, [])), (34, (.putfield 38, 3, 0, 2, 0, [])), (37, (.return_, 1, 0, 0, 0, []))]]
def zt_X0_hasThirdLetter : zm_T := [[(0, (.iconst 0, 1, 0, 0, 0, [])), (1, (.istore_n 1, 1, 0, 0, 0, [])), (2, (.iload_n 1, 1, 0, 0, 0, [])), (3, (.aload_n 0, 1, 0, 0, 0, [])), (4, (.getfield 38, 3, 0, 2, 0, [])), (7, (.if_icmp .ge 23, 3, 30, 0, 0, [])), (10, (.aload_n 0, 1, 0, 0, 0, [])), (11, (.iload_n 1, 1, 0, 0, 0, [])), (12, (.invokevirtual 61, 0, 3, 2, 1, [])), (15, (.iconst 2, 1, 0, 0, 0, []))],
  [(16, (.invokestatic 65, 3, 58, 2, 1, [])), (19, (.ifCond .ne 5, 3, 24, 0, 0, [])), (22, (.iconst 1, 1, 0, 0, 0, [])), (23, (.ireturn, 1, 0, 0, 0, [])), (24, (.iinc 1 1, 3, 0, 0, 0, [])), (27, (.goto (-25), 3, 2, 0, 0, [])), (30, (.iconst 0, 1, 0, 0, 0, [])), (31, (.istore_n 1, 1, 0, 0, 0, []))],
  [(32, (.iload_n 1, 1, 0, 0, 0, [])), (33, (.aload_n 0, 1, 0, 0, 0, [])), (34, (.getfield 22, 3, 0, 3, 0, [])), (37, (.getfield 71, 3, 4, 1, 0, [])), (40, (.if_icmp .ge 23, 3, 63, 0, 0, [])), (43, (.aload_n 0, 1, 0, 0, 0, [])), (44, (.getfield 22, 3, 0, 3, 0, [])), (47, (.iload_n 1, 1, 0, 0, 0, []))],
  [(48, (.invokevirtual 74, 4, 44, 2, 1, [])), (51, (.iconst 3, 1, 0, 0, 0, [])), (52, (.if_icmp .ne 5, 3, 57, 0, 0, [])), (55, (.iconst 1, 1, 0, 0, 0, [])), (56, (.ireturn, 1, 0, 0, 0, [])), (57, (.iinc 1 1, 3, 0, 0, 0, [])), (60, (.goto (-28), 3, 32, 0, 0, [])), (63, (.iconst 0, 1, 0, 0, 0, []))],
  [(64, (.ireturn, 1, 0, 0, 0, []))]]
def zt_X0_isSet : zm_T := [[(0, (.iload_n 1, 1, 0, 0, 0, [])), (1, (.ifCond .lt 17, 3, 18, 0, 0, [])), (4, (.iload_n 1, 1, 0, 0, 0, [])), (5, (.iconst 1, 1, 0, 0, 0, [])), (6, (.aload_n 0, 1, 0, 0, 0, [])), (7, (.getfield 38, 3, 0, 2, 0, [])), (10, (.ishl, 1, 0, 0, 0, [])), (11, (.if_icmp .ge 7, 3, 18, 0, 0, [])), (14, (.iconst 1, 1, 0, 0, 0, [])), (15, (.goto 4, 3, 19, 0, 0, []))],
  [(18, (.iconst 0, 1, 0, 0, 0, [])), (19, (.ireturn, 1, 0, 0, 0, []))]]
def zt_X0_isInSet : zm_T := [[(0, (.aload_n 0, 1, 0, 0, 0, [])), (1, (.iload_n 2, 1, 0, 0, 0, [])), (2, (.invokevirtual 57, 0, 1, 2, 1, [])), (5, (.ifCond .eq 16, 3, 21, 0, 0, [])), (8, (.iload_n 1, 1, 0, 0, 0, [])), (9, (.iload_n 2, 1, 0, 0, 0, [])), (10, (.ishr, 1, 0, 0, 0, [])), (11, (.iconst 1, 1, 0, 0, 0, [])), (12, (.iand, 1, 0, 0, 0, [])), (13, (.iconst 1, 1, 0, 0, 0, [])), (14, (.if_icmp .ne 7, 3, 21, 0, 0, []))],
  [(17, (.iconst 1, 1, 0, 0, 0, [])), (18, (.goto 4, 3, 22, 0, 0, [])), (21, (.iconst 0, 1, 0, 0, 0, [])), (22, (.ireturn, 1, 0, 0, 0, []))]]
def zt_X0_firstOn : zm_T := [[(0, (.bipush (-5), 2, 0, 0, 0, [])), (2, (.istore_n 2, 1, 0, 0, 0, [])), (3, (.bipush 40, 2, 0, 0, 0, [])), (5, (.istore_n 3, 1, 0, 0, 0, [])), (6, (.iconst 0, 1, 0, 0, 0, [])), (7, (.istore 4, 2, 0, 0, 0, [])), (9, (.iconst 0, 1, 0, 0, 0, [])), (10, (.istore 5, 2, 0, 0, 0, [])), (12, (.iload 5, 2, 0, 0, 0, [])), (14, (.aload_n 0, 1, 0, 0, 0, [])), (15, (.getfield 38, 3, 0, 2, 0, []))],
  [(18, (.if_icmp .ge 71, 3, 89, 0, 0, [])), (21, (.aload_n 1, 1, 0, 0, 0, [])), (22, (.aload_n 0, 1, 0, 0, 0, [])), (23, (.iload 5, 2, 0, 0, 0, [])), (25, (.invokevirtual 61, 0, 3, 2, 1, [])), (28, (.invokevirtual 77, 4, 49, 2, 1, [])), (31, (.istore 6, 2, 0, 0, 0, []))],
  [(33, (.aload_n 0, 1, 0, 0, 0, [])), (34, (.iload 5, 2, 0, 0, 0, [])), (36, (.invokevirtual 61, 0, 3, 2, 1, [])), (39, (.invokestatic 80, 3, 57, 1, 1, [])), (42, (.istore 7, 2, 0, 0, 0, [])), (44, (.iload 6, 2, 0, 0, 0, [])), (46, (.bipush (-5), 2, 0, 0, 0, []))],
  [(48, (.if_icmp .eq 35, 3, 83, 0, 0, [])), (51, (.iload 6, 2, 0, 0, 0, [])), (53, (.iload_n 3, 1, 0, 0, 0, [])), (54, (.if_icmp .le 6, 3, 60, 0, 0, [])), (57, (.goto 26, 3, 83, 0, 0, [])), (60, (.iload 6, 2, 0, 0, 0, [])), (62, (.iload_n 3, 1, 0, 0, 0, [])), (63, (.if_icmp .lt 10, 3, 73, 0, 0, []))],
  [(66, (.iload 7, 2, 0, 0, 0, [])), (68, (.iload 4, 2, 0, 0, 0, [])), (70, (.if_icmp .le 13, 3, 83, 0, 0, [])), (73, (.iload 5, 2, 0, 0, 0, [])), (75, (.istore_n 2, 1, 0, 0, 0, [])), (76, (.iload 6, 2, 0, 0, 0, [])), (78, (.istore_n 3, 1, 0, 0, 0, [])), (79, (.iload 7, 2, 0, 0, 0, []))],
  [(81, (.istore 4, 2, 0, 0, 0, [])), (83, (.iinc 5 1, 3, 0, 0, 0, [])), (86, (.goto (-74), 3, 12, 0, 0, [])), (89, (.iload_n 2, 1, 0, 0, 0, [])), (90, (.ireturn, 1, 0, 0, 0, []))]]
def zt_X0_hasPlayer : zm_T := [[(0, (.iload_n 1, 1, 0, 0, 0, [])), (1, (.ifCond .lt 20, 3, 21, 0, 0, [])), (4, (.iload_n 1, 1, 0, 0, 0, [])), (5, (.aload_n 0, 1, 0, 0, 0, [])), (6, (.getfield 41, 3, 0, 6, 0, [])), (9, (.if_icmp .ge 12, 3, 21, 0, 0, [])), (12, (.iload_n 1, 1, 0, 0, 0, [])), (13, (.iconst 4, 1, 0, 0, 0, [])), (14, (.if_icmp .ge 7, 3, 21, 0, 0, []))],
  [(17, (.iconst 1, 1, 0, 0, 0, [])), (18, (.goto 4, 3, 22, 0, 0, [])), (21, (.iconst 0, 1, 0, 0, 0, [])), (22, (.ireturn, 1, 0, 0, 0, []))]]
def zt_X0_areTwoPlayers : zm_T := [[(0, (.aload_n 0, 1, 0, 0, 0, [])), (1, (.iload_n 1, 1, 0, 0, 0, [])), (2, (.invokevirtual 83, 0, 9, 2, 1, [])), (5, (.ifCond .eq 20, 3, 25, 0, 0, [])), (8, (.aload_n 0, 1, 0, 0, 0, [])), (9, (.iload_n 2, 1, 0, 0, 0, [])), (10, (.invokevirtual 83, 0, 9, 2, 1, [])), (13, (.ifCond .eq 12, 3, 25, 0, 0, []))],
  [(16, (.iload_n 1, 1, 0, 0, 0, [])), (17, (.iload_n 2, 1, 0, 0, 0, [])), (18, (.if_icmp .eq 7, 3, 25, 0, 0, [])), (21, (.iconst 1, 1, 0, 0, 0, [])), (22, (.goto 4, 3, 26, 0, 0, [])), (25, (.iconst 0, 1, 0, 0, 0, [])), (26, (.ireturn, 1, 0, 0, 0, []))]]
def zt_X0_addPlayer : zm_T := [[(0, (.aload_n 0, 1, 0, 0, 0, [])), (1, (.getfield 41, 3, 0, 6, 0, [])), (4, (.ifCond .lt 11, 3, 15, 0, 0, [])), (7, (.aload_n 0, 1, 0, 0, 0, [])), (8, (.getfield 41, 3, 0, 6, 0, [])), (11, (.iconst 4, 1, 0, 0, 0, [])), (12, (.if_icmp .lt 5, 3, 17, 0, 0, [])), (15, (.iconst 0, 1, 0, 0, 0, []))],
  [(16, (.ireturn, 1, 0, 0, 0, [])), (17, (.aload_n 0, 1, 0, 0, 0, [])), (18, (.getfield 26, 3, 0, 4, 0, [])), (21, (.aload_n 0, 1, 0, 0, 0, [])), (22, (.getfield 41, 3, 0, 6, 0, [])), (25, (.iload_n 1, 1, 0, 0, 0, [])), (26, (.iastore, 1, 0, 0, 0, [])), (27, (.aload_n 0, 1, 0, 0, 0, [])), (28, (.getfield 29, 3, 0, 5, 0, [])), (31, (.aload_n 0, 1, 0, 0, 0, []))],
  [(32, (.getfield 41, 3, 0, 6, 0, [])), (35, (.iload_n 2, 1, 0, 0, 0, [])), (36, (.iastore, 1, 0, 0, 0, [])), (37, (.aload_n 0, 1, 0, 0, 0, [])), (38, (.dup, 1, 0, 0, 0, [])), (39, (.getfield 41, 3, 0, 6, 0, [])), (42, (.iconst 1, 1, 0, 0, 0, [])), (43, (.iadd, 1, 0, 0, 0, [])), (44, (.putfield 41, 3, 0, 6, 0, [])), (47, (.iconst 1, 1, 0, 0, 0, []))],
  [(48, (.ireturn, 1, 0, 0, 0, []))]]
def zt_X0_firstPick : zm_T := [[(0, (.aload_n 0, 1, 0, 0, 0, [])), (1, (.iload_n 1, 1, 0, 0, 0, [])), (2, (.invokevirtual 83, 0, 9, 2, 1, [])), (5, (.ifCond .eq 21, 3, 26, 0, 0, [])), (8, (.aload_n 0, 1, 0, 0, 0, [])), (9, (.iload_n 1, 1, 0, 0, 0, [])), (10, (.aload_n 0, 1, 0, 0, 0, [])), (11, (.aload_n 0, 1, 0, 0, 0, [])), (12, (.getfield 29, 3, 0, 5, 0, [])), (15, (.iload_n 1, 1, 0, 0, 0, []))],
  [(16, (.iaload, 1, 0, 0, 0, [])), (17, (.invokevirtual 61, 0, 3, 2, 1, [])), (20, (.invokevirtual 86, 0, 13, 3, 1, [])), (23, (.goto 4, 3, 27, 0, 0, [])), (26, (.iconst 0, 1, 0, 0, 0, [])), (27, (.ireturn, 1, 0, 0, 0, []))]]
def zt_X0_pickAgainst : zm_T := [[(0, (.aload_n 0, 1, 0, 0, 0, [])), (1, (.iload_n 1, 1, 0, 0, 0, [])), (2, (.invokevirtual 83, 0, 9, 2, 1, [])), (5, (.ifCond .ne 5, 3, 10, 0, 0, [])), (8, (.iconst 0, 1, 0, 0, 0, [])), (9, (.ireturn, 1, 0, 0, 0, [])), (10, (.aload_n 0, 1, 0, 0, 0, [])), (11, (.aload_n 0, 1, 0, 0, 0, [])), (12, (.getfield 29, 3, 0, 5, 0, [])), (15, (.iload_n 1, 1, 0, 0, 0, []))],
  [(16, (.iaload, 1, 0, 0, 0, [])), (17, (.invokevirtual 61, 0, 3, 2, 1, [])), (20, (.istore_n 3, 1, 0, 0, 0, [])), (21, (.aload_n 0, 1, 0, 0, 0, [])), (22, (.getfield 26, 3, 0, 4, 0, [])), (25, (.iload_n 1, 1, 0, 0, 0, [])), (26, (.iaload, 1, 0, 0, 0, [])), (27, (.tableswitch 83 1 5 #[33, 38, 47, 59, 68], 33, 110, 0, 0, [(1, 60), (2, 65), (3, 74), (4, 86), (5, 95)]))],
  [],
  [(60, (.iload_n 3, 1, 0, 0, 0, [])), (61, (.invokestatic 90, 3, 69, 1, 1, []))],
  [(64, (.ireturn, 1, 0, 0, 0, [])), (65, (.iload_n 2, 1, 0, 0, 0, [])), (66, (.aload_n 0, 1, 0, 0, 0, [])), (67, (.getfield 9, 3, 0, 0, 0, [])), (70, (.invokestatic 93, 3, 72, 2, 1, [])), (73, (.ireturn, 1, 0, 0, 0, [])), (74, (.iload_n 3, 1, 0, 0, 0, [])), (75, (.invokestatic 90, 3, 69, 1, 1, [])), (78, (.aload_n 0, 1, 0, 0, 0, [])), (79, (.getfield 9, 3, 0, 0, 0, []))],
  [(82, (.invokestatic 96, 3, 70, 2, 1, [])), (85, (.ireturn, 1, 0, 0, 0, [])), (86, (.iload_n 2, 1, 0, 0, 0, [])), (87, (.aload_n 0, 1, 0, 0, 0, [])), (88, (.getfield 9, 3, 0, 0, 0, [])), (91, (.invokestatic 99, 3, 37, 2, 1, [])), (94, (.ireturn, 1, 0, 0, 0, [])), (95, (.iload_n 3, 1, 0, 0, 0, []))],
  [(96, (.invokestatic 90, 3, 69, 1, 1, [])), (99, (.aload_n 0, 1, 0, 0, 0, [])), (100, (.getfield 9, 3, 0, 0, 0, [])), (103, (.invokestatic 96, 3, 70, 2, 1, [])), (106, (.invokestatic 104, 3, 71, 1, 1, [])), (109, (.ireturn, 1, 0, 0, 0, [])), (110, (.iload_n 3, 1, 0, 0, 0, [])), (111, (.ireturn, 1, 0, 0, 0, []))]]
def zt_X0_wins : zm_T := [[(0, (.aload_n 0, 1, 0, 0, 0, [])), (1, (.iload_n 1, 1, 0, 0, 0, [])), (2, (.invokevirtual 83, 0, 9, 2, 1, [])), (5, (.ifCond .ne 5, 3, 10, 0, 0, [])), (8, (.iconst 0, 1, 0, 0, 0, [])), (9, (.ireturn, 1, 0, 0, 0, [])), (10, (.aload_n 0, 1, 0, 0, 0, [])), (11, (.iload_n 1, 1, 0, 0, 0, [])), (12, (.aload_n 0, 1, 0, 0, 0, [])), (13, (.aload_n 0, 1, 0, 0, 0, [])), (14, (.getfield 29, 3, 0, 5, 0, []))],
  [(17, (.iload_n 1, 1, 0, 0, 0, [])), (18, (.iaload, 1, 0, 0, 0, [])), (19, (.invokevirtual 61, 0, 3, 2, 1, [])), (22, (.invokevirtual 86, 0, 13, 3, 1, [])), (25, (.istore_n 2, 1, 0, 0, 0, [])), (26, (.iconst 0, 1, 0, 0, 0, [])), (27, (.istore_n 3, 1, 0, 0, 0, [])), (28, (.iconst 0, 1, 0, 0, 0, [])), (29, (.istore 4, 2, 0, 0, 0, [])), (31, (.iload 4, 2, 0, 0, 0, []))],
  [(33, (.aload_n 0, 1, 0, 0, 0, [])), (34, (.getfield 41, 3, 0, 6, 0, [])), (37, (.if_icmp .ge 36, 3, 73, 0, 0, [])), (40, (.iload 4, 2, 0, 0, 0, [])), (42, (.iload_n 1, 1, 0, 0, 0, [])), (43, (.if_icmp .eq 24, 3, 67, 0, 0, [])), (46, (.iload_n 2, 1, 0, 0, 0, [])), (47, (.aload_n 0, 1, 0, 0, 0, []))],
  [(48, (.iload 4, 2, 0, 0, 0, [])), (50, (.iload_n 2, 1, 0, 0, 0, [])), (51, (.invokevirtual 86, 0, 13, 3, 1, [])), (54, (.aload_n 0, 1, 0, 0, 0, [])), (55, (.getfield 9, 3, 0, 0, 0, [])), (58, (.invokestatic 107, 3, 36, 3, 1, [])), (61, (.ifCond .eq 6, 3, 67, 0, 0, []))],
  [(64, (.iinc 3 1, 3, 0, 0, 0, [])), (67, (.iinc 4 1, 3, 0, 0, 0, [])), (70, (.goto (-39), 3, 31, 0, 0, [])), (73, (.iload_n 3, 1, 0, 0, 0, [])), (74, (.ireturn, 1, 0, 0, 0, []))]]
def zt_X0_addRow : zm_T := [[(0, (.aload_n 0, 1, 0, 0, 0, [])), (1, (.getfield 44, 3, 0, 9, 0, [])), (4, (.ifCond .lt 12, 3, 16, 0, 0, [])), (7, (.aload_n 0, 1, 0, 0, 0, [])), (8, (.getfield 44, 3, 0, 9, 0, [])), (11, (.bipush 8, 2, 0, 0, 0, [])), (13, (.if_icmp .lt 5, 3, 18, 0, 0, []))],
  [(16, (.iconst 0, 1, 0, 0, 0, [])), (17, (.ireturn, 1, 0, 0, 0, [])), (18, (.aload_n 0, 1, 0, 0, 0, [])), (19, (.getfield 32, 3, 0, 7, 0, [])), (22, (.aload_n 0, 1, 0, 0, 0, [])), (23, (.getfield 44, 3, 0, 9, 0, [])), (26, (.iload_n 1, 1, 0, 0, 0, [])), (27, (.iastore, 1, 0, 0, 0, [])), (28, (.aload_n 0, 1, 0, 0, 0, [])), (29, (.getfield 35, 3, 0, 8, 0, []))],
  [(32, (.aload_n 0, 1, 0, 0, 0, [])), (33, (.getfield 44, 3, 0, 9, 0, [])), (36, (.iload_n 2, 1, 0, 0, 0, [])), (37, (.iastore, 1, 0, 0, 0, [])), (38, (.aload_n 0, 1, 0, 0, 0, [])), (39, (.dup, 1, 0, 0, 0, [])), (40, (.getfield 44, 3, 0, 9, 0, [])), (43, (.iconst 1, 1, 0, 0, 0, [])), (44, (.iadd, 1, 0, 0, 0, [])), (45, (.putfield 44, 3, 0, 9, 0, []))],
  [(48, (.iconst 1, 1, 0, 0, 0, [])), (49, (.ireturn, 1, 0, 0, 0, []))]]
def zt_X0_followPlan : zm_T := [[(0, (.iconst 0, 1, 0, 0, 0, [])), (1, (.istore_n 2, 1, 0, 0, 0, [])), (2, (.iload_n 2, 1, 0, 0, 0, [])), (3, (.aload_n 0, 1, 0, 0, 0, [])), (4, (.getfield 44, 3, 0, 9, 0, [])), (7, (.if_icmp .ge 90, 3, 97, 0, 0, [])), (10, (.iload_n 2, 1, 0, 0, 0, [])), (11, (.bipush 8, 2, 0, 0, 0, [])), (13, (.if_icmp .ge 84, 3, 97, 0, 0, []))],
  [(16, (.aload_n 0, 1, 0, 0, 0, [])), (17, (.getfield 35, 3, 0, 8, 0, [])), (20, (.iload_n 2, 1, 0, 0, 0, [])), (21, (.iaload, 1, 0, 0, 0, [])), (22, (.istore_n 3, 1, 0, 0, 0, [])), (23, (.aload_n 0, 1, 0, 0, 0, [])), (24, (.getfield 32, 3, 0, 7, 0, [])), (27, (.iload_n 2, 1, 0, 0, 0, [])), (28, (.iaload, 1, 0, 0, 0, [])), (29, (.iconst 1, 1, 0, 0, 0, [])), (30, (.if_icmp .ne 11, 3, 41, 0, 0, []))],
  [(33, (.aload_n 1, 1, 0, 0, 0, [])), (34, (.iload_n 3, 1, 0, 0, 0, [])), (35, (.invokevirtual 111, 4, 46, 2, 0, [])), (38, (.goto 53, 3, 91, 0, 0, [])), (41, (.aload_n 0, 1, 0, 0, 0, [])), (42, (.getfield 32, 3, 0, 7, 0, [])), (45, (.iload_n 2, 1, 0, 0, 0, [])), (46, (.iaload, 1, 0, 0, 0, [])), (47, (.iconst 2, 1, 0, 0, 0, []))],
  [(48, (.if_icmp .ne 29, 3, 77, 0, 0, [])), (51, (.iconst 0, 1, 0, 0, 0, [])), (52, (.istore 4, 2, 0, 0, 0, [])), (54, (.iload 4, 2, 0, 0, 0, [])), (56, (.iload_n 3, 1, 0, 0, 0, [])), (57, (.if_icmp .ge 17, 3, 74, 0, 0, [])), (60, (.aload_n 1, 1, 0, 0, 0, [])), (61, (.aload_n 0, 1, 0, 0, 0, [])), (62, (.getfield 9, 3, 0, 0, 0, []))],
  [(65, (.invokevirtual 115, 4, 47, 2, 0, [])), (68, (.iinc 4 1, 3, 0, 0, 0, [])), (71, (.goto (-17), 3, 54, 0, 0, [])), (74, (.goto 17, 3, 91, 0, 0, [])), (77, (.iload_n 3, 1, 0, 0, 0, [])), (78, (.aload_n 0, 1, 0, 0, 0, [])), (79, (.getfield 9, 3, 0, 0, 0, []))],
  [(82, (.if_icmp .gt 9, 3, 91, 0, 0, [])), (85, (.aload_n 1, 1, 0, 0, 0, [])), (86, (.iload_n 3, 1, 0, 0, 0, [])), (87, (.invokevirtual 118, 4, 45, 2, 1, [])), (90, (.pop, 1, 0, 0, 0, [])), (91, (.iinc 2 1, 3, 0, 0, 0, [])), (94, (.goto (-92), 3, 2, 0, 0, []))],
  [(97, (.return_, 1, 0, 0, 0, []))]]
def zt_X1_nextSeed : zm_T := [[(0, (.iload_n 0, 1, 0, 0, 0, [])), (1, (.ldc 9, 0, 0, 0, 0, [(1103515245, 0)])), (3, (.imul, 1, 0, 0, 0, [])), (4, (.sipush 12345, 3, 0, 0, 0, [])), (7, (.iadd, 1, 0, 0, 0, [])), (8, (.ireturn, 1, 0, 0, 0, []))]]
def zt_X1_drawn : zm_T := [[(0, (.iconst 1, 1, 0, 0, 0, [])), (1, (.iload_n 1, 1, 0, 0, 0, [])), (2, (.iconst 3, 1, 0, 0, 0, [])), (3, (.if_icmp .ne 12, 3, 15, 0, 0, [])), (6, (.iload_n 0, 1, 0, 0, 0, [])), (7, (.bipush 16, 2, 0, 0, 0, [])), (9, (.iushr, 1, 0, 0, 0, [])), (10, (.iconst 3, 1, 0, 0, 0, [])), (11, (.irem, 1, 0, 0, 0, [])), (12, (.goto 9, 3, 21, 0, 0, [])), (15, (.iload_n 0, 1, 0, 0, 0, []))],
  [(16, (.bipush 16, 2, 0, 0, 0, [])), (18, (.iushr, 1, 0, 0, 0, [])), (19, (.iconst 2, 1, 0, 0, 0, [])), (20, (.irem, 1, 0, 0, 0, [])), (21, (.iadd, 1, 0, 0, 0, [])), (22, (.ireturn, 1, 0, 0, 0, []))]]
def zt_X1_run : zm_T := [[(0, (.iload_n 3, 1, 0, 0, 0, [])), (1, (.istore 5, 2, 0, 0, 0, [])), (3, (.iconst 0, 1, 0, 0, 0, [])), (4, (.istore 6, 2, 0, 0, 0, [])), (6, (.aload_n 0, 1, 0, 0, 0, [])), (7, (.bipush (-5), 2, 0, 0, 0, [])), (9, (.putfield 10, 3, 1, 0, 0, [])), (12, (.aload_n 0, 1, 0, 0, 0, [])), (13, (.iconst 0, 1, 0, 0, 0, [])), (14, (.putfield 16, 3, 1, 1, 0, []))],
  [(17, (.aload_n 0, 1, 0, 0, 0, [])), (18, (.getfield 16, 3, 1, 1, 0, [])), (21, (.bipush 60, 2, 0, 0, 0, [])), (23, (.if_icmp .ge 77, 3, 100, 0, 0, [])), (26, (.aload_n 0, 1, 0, 0, 0, [])), (27, (.getfield 10, 3, 1, 0, 0, [])), (30, (.bipush (-5), 2, 0, 0, 0, []))],
  [(32, (.if_icmp .ne 68, 3, 100, 0, 0, [])), (35, (.iload 5, 2, 0, 0, 0, [])), (37, (.invokestatic 19, 3, 17, 1, 1, [])), (40, (.istore 5, 2, 0, 0, 0, [])), (42, (.iload 6, 2, 0, 0, 0, [])), (44, (.iload 5, 2, 0, 0, 0, [])), (46, (.iload 4, 2, 0, 0, 0, []))],
  [(48, (.invokestatic 23, 3, 18, 2, 1, [])), (51, (.invokestatic 27, 3, 62, 2, 1, [])), (54, (.istore 6, 2, 0, 0, 0, [])), (56, (.aload_n 0, 1, 0, 0, 0, [])), (57, (.dup, 1, 0, 0, 0, [])), (58, (.getfield 16, 3, 1, 1, 0, [])), (61, (.iconst 1, 1, 0, 0, 0, [])), (62, (.iadd, 1, 0, 0, 0, [])), (63, (.putfield 16, 3, 1, 1, 0, []))],
  [(66, (.iload 6, 2, 0, 0, 0, [])), (68, (.iload_n 1, 1, 0, 0, 0, [])), (69, (.invokestatic 32, 3, 63, 2, 1, [])), (72, (.ifCond .eq 11, 3, 83, 0, 0, [])), (75, (.aload_n 0, 1, 0, 0, 0, [])), (76, (.iconst 0, 1, 0, 0, 0, [])), (77, (.putfield 10, 3, 1, 0, 0, []))],
  [(80, (.goto (-63), 3, 17, 0, 0, [])), (83, (.iload 6, 2, 0, 0, 0, [])), (85, (.iload_n 2, 1, 0, 0, 0, [])), (86, (.invokestatic 32, 3, 63, 2, 1, [])), (89, (.ifCond .eq (-72), 3, 17, 0, 0, [])), (92, (.aload_n 0, 1, 0, 0, 0, [])), (93, (.iconst 1, 1, 0, 0, 0, [])), (94, (.putfield 10, 3, 1, 0, 0, []))],
  [(97, (.goto (-80), 3, 17, 0, 0, [])), (100, (.return_, 1, 0, 0, 0, []))]]
def zt_X2_fill : zm_T := [[(0, (.aload_n 0, 1, 0, 0, 0, [])), (1, (.aload_n 1, 1, 0, 0, 0, [])), (2, (.getfield 26, 3, 0, 0, 0, [])), (5, (.putfield 32, 3, 2, 2, 0, [])), (8, (.aload_n 0, 1, 0, 0, 0, [])), (9, (.iconst 0, 1, 0, 0, 0, [])), (10, (.putfield 33, 3, 2, 1, 0, [])), (13, (.iconst 0, 1, 0, 0, 0, [])), (14, (.istore_n 3, 1, 0, 0, 0, [])), (15, (.iload_n 3, 1, 0, 0, 0, []))],
  [(16, (.aload_n 1, 1, 0, 0, 0, [])), (17, (.getfield 36, 3, 0, 2, 0, [])), (20, (.if_icmp .ge 50, 3, 70, 0, 0, [])), (23, (.aload_n 0, 1, 0, 0, 0, [])), (24, (.getfield 33, 3, 2, 1, 0, [])), (27, (.iconst 4, 1, 0, 0, 0, [])), (28, (.if_icmp .ge 42, 3, 70, 0, 0, [])), (31, (.aload_n 1, 1, 0, 0, 0, []))],
  [(32, (.iload_n 2, 1, 0, 0, 0, [])), (33, (.iload_n 3, 1, 0, 0, 0, [])), (34, (.invokevirtual 39, 0, 7, 3, 1, [])), (37, (.ifCond .eq 27, 3, 64, 0, 0, [])), (40, (.aload_n 0, 1, 0, 0, 0, [])), (41, (.getfield 9, 3, 2, 0, 0, [])), (44, (.aload_n 0, 1, 0, 0, 0, [])), (45, (.getfield 33, 3, 2, 1, 0, []))],
  [(48, (.aload_n 1, 1, 0, 0, 0, [])), (49, (.iload_n 3, 1, 0, 0, 0, [])), (50, (.invokevirtual 43, 0, 3, 2, 1, [])), (53, (.iastore, 1, 0, 0, 0, [])), (54, (.aload_n 0, 1, 0, 0, 0, [])), (55, (.dup, 1, 0, 0, 0, [])), (56, (.getfield 33, 3, 2, 1, 0, [])), (59, (.iconst 1, 1, 0, 0, 0, [])), (60, (.iadd, 1, 0, 0, 0, [])), (61, (.putfield 33, 3, 2, 1, 0, []))],
  [(64, (.iinc 3 1, 3, 0, 0, 0, [])), (67, (.goto (-52), 3, 15, 0, 0, [])), (70, (.return_, 1, 0, 0, 0, []))]]
def zt_X2_hasOneInAnother : zm_T := [[(0, (.iconst 0, 1, 0, 0, 0, [])), (1, (.istore_n 1, 1, 0, 0, 0, [])), (2, (.iload_n 1, 1, 0, 0, 0, [])), (3, (.aload_n 0, 1, 0, 0, 0, [])), (4, (.getfield 33, 3, 2, 1, 0, [])), (7, (.if_icmp .ge 42, 3, 49, 0, 0, [])), (10, (.iconst 0, 1, 0, 0, 0, [])), (11, (.istore_n 2, 1, 0, 0, 0, [])), (12, (.iload_n 2, 1, 0, 0, 0, [])), (13, (.iload_n 1, 1, 0, 0, 0, [])), (14, (.if_icmp .ge 29, 3, 43, 0, 0, []))],
  [(17, (.aload_n 0, 1, 0, 0, 0, [])), (18, (.getfield 9, 3, 2, 0, 0, [])), (21, (.iload_n 1, 1, 0, 0, 0, [])), (22, (.iaload, 1, 0, 0, 0, [])), (23, (.aload_n 0, 1, 0, 0, 0, [])), (24, (.getfield 9, 3, 2, 0, 0, [])), (27, (.iload_n 2, 1, 0, 0, 0, [])), (28, (.iaload, 1, 0, 0, 0, [])), (29, (.invokestatic 47, 3, 67, 2, 1, []))],
  [(32, (.ifCond .eq 5, 3, 37, 0, 0, [])), (35, (.iconst 1, 1, 0, 0, 0, [])), (36, (.ireturn, 1, 0, 0, 0, [])), (37, (.iinc 2 1, 3, 0, 0, 0, [])), (40, (.goto (-28), 3, 12, 0, 0, [])), (43, (.iinc 1 1, 3, 0, 0, 0, [])), (46, (.goto (-44), 3, 2, 0, 0, []))],
  [(49, (.iconst 0, 1, 0, 0, 0, [])), (50, (.ireturn, 1, 0, 0, 0, []))]]
def zt_X2_chancePart : zm_T := [[(0, (.iload_n 1, 1, 0, 0, 0, [])), (1, (.ifCond .lt 11, 3, 12, 0, 0, [])), (4, (.iload_n 1, 1, 0, 0, 0, [])), (5, (.aload_n 0, 1, 0, 0, 0, [])), (6, (.getfield 33, 3, 2, 1, 0, [])), (9, (.if_icmp .lt 7, 3, 16, 0, 0, [])), (12, (.ldc2_w 52, 0, 0, 0, 0, [(-9223372036854775808, 0)])), (15, (.lreturn, 1, 0, 0, 0, []))],
  [(16, (.aload_n 0, 1, 0, 0, 0, [])), (17, (.invokevirtual 54, 2, 24, 1, 0, [])), (20, (.aload_n 0, 1, 0, 0, 0, [])), (21, (.iload_n 1, 1, 0, 0, 0, [])), (22, (.invokevirtual 57, 2, 25, 2, 2, [])), (25, (.aload_n 0, 1, 0, 0, 0, [])), (26, (.invokevirtual 61, 2, 26, 1, 2, [])), (29, (.iload_n 2, 1, 0, 0, 0, [])), (30, (.invokestatic 65, 3, 32, 3, 2, []))],
  [(33, (.lreturn, 1, 0, 0, 0, []))]]
def zt_X2_meanPart : zm_T := [[(0, (.aload_n 0, 1, 0, 0, 0, [])), (1, (.invokevirtual 54, 2, 24, 1, 0, [])), (4, (.lconst 0, 1, 0, 0, 0, [])), (5, (.lstore_n 2, 1, 0, 0, 0, [])), (6, (.iconst 0, 1, 0, 0, 0, [])), (7, (.istore 4, 2, 0, 0, 0, [])), (9, (.iload 4, 2, 0, 0, 0, [])), (11, (.aload_n 0, 1, 0, 0, 0, [])), (12, (.getfield 33, 3, 2, 1, 0, [])), (15, (.if_icmp .ge 40, 3, 55, 0, 0, []))],
  [(18, (.lload_n 2, 1, 0, 0, 0, [])), (19, (.aload_n 0, 1, 0, 0, 0, [])), (20, (.iload 4, 2, 0, 0, 0, [])), (22, (.invokevirtual 57, 2, 25, 2, 2, [])), (25, (.aload_n 0, 1, 0, 0, 0, [])), (26, (.getfield 9, 3, 2, 0, 0, [])), (29, (.iload 4, 2, 0, 0, 0, [])), (31, (.iaload, 1, 0, 0, 0, []))],
  [(32, (.aload_n 0, 1, 0, 0, 0, [])), (33, (.getfield 9, 3, 2, 0, 0, [])), (36, (.iconst 0, 1, 0, 0, 0, [])), (37, (.iaload, 1, 0, 0, 0, [])), (38, (.aload_n 0, 1, 0, 0, 0, [])), (39, (.getfield 32, 3, 2, 2, 0, [])), (42, (.invokestatic 71, 3, 65, 3, 1, [])), (45, (.i2l, 1, 0, 0, 0, [])), (46, (.lmul, 1, 0, 0, 0, [])), (47, (.ladd, 1, 0, 0, 0, []))],
  [(48, (.lstore_n 2, 1, 0, 0, 0, [])), (49, (.iinc 4 1, 3, 0, 0, 0, [])), (52, (.goto (-43), 3, 9, 0, 0, [])), (55, (.lload_n 2, 1, 0, 0, 0, [])), (56, (.aload_n 0, 1, 0, 0, 0, [])), (57, (.invokevirtual 61, 2, 26, 1, 2, [])), (60, (.iload_n 1, 1, 0, 0, 0, [])), (61, (.invokestatic 65, 3, 32, 3, 2, []))],
  [(64, (.lreturn, 1, 0, 0, 0, []))]]
def zt_X2_setApart : zm_T := [[(0, (.iconst 0, 1, 0, 0, 0, [])), (1, (.istore_n 1, 1, 0, 0, 0, [])), (2, (.iload_n 1, 1, 0, 0, 0, [])), (3, (.aload_n 0, 1, 0, 0, 0, [])), (4, (.getfield 33, 3, 2, 1, 0, [])), (7, (.iconst 1, 1, 0, 0, 0, [])), (8, (.isub, 1, 0, 0, 0, [])), (9, (.if_icmp .ge 74, 3, 83, 0, 0, [])), (12, (.iconst 0, 1, 0, 0, 0, [])), (13, (.istore_n 2, 1, 0, 0, 0, [])), (14, (.iload_n 2, 1, 0, 0, 0, [])), (15, (.aload_n 0, 1, 0, 0, 0, []))],
  [(16, (.getfield 33, 3, 2, 1, 0, [])), (19, (.if_icmp .ge 58, 3, 77, 0, 0, [])), (22, (.aload_n 0, 1, 0, 0, 0, [])), (23, (.getfield 17, 3, 2, 3, 0, [])), (26, (.iload_n 1, 1, 0, 0, 0, [])), (27, (.aaload, 1, 0, 0, 0, [])), (28, (.iload_n 2, 1, 0, 0, 0, [])), (29, (.aload_n 0, 1, 0, 0, 0, [])), (30, (.getfield 9, 3, 2, 0, 0, []))],
  [(33, (.iload_n 2, 1, 0, 0, 0, [])), (34, (.iaload, 1, 0, 0, 0, [])), (35, (.aload_n 0, 1, 0, 0, 0, [])), (36, (.getfield 9, 3, 2, 0, 0, [])), (39, (.iload_n 1, 1, 0, 0, 0, [])), (40, (.iconst 1, 1, 0, 0, 0, [])), (41, (.iadd, 1, 0, 0, 0, [])), (42, (.iaload, 1, 0, 0, 0, [])), (43, (.aload_n 0, 1, 0, 0, 0, [])), (44, (.getfield 32, 3, 2, 2, 0, [])), (47, (.invokestatic 71, 3, 65, 3, 1, []))],
  [(50, (.aload_n 0, 1, 0, 0, 0, [])), (51, (.getfield 9, 3, 2, 0, 0, [])), (54, (.iload_n 2, 1, 0, 0, 0, [])), (55, (.iaload, 1, 0, 0, 0, [])), (56, (.aload_n 0, 1, 0, 0, 0, [])), (57, (.getfield 9, 3, 2, 0, 0, [])), (60, (.iconst 0, 1, 0, 0, 0, [])), (61, (.iaload, 1, 0, 0, 0, [])), (62, (.aload_n 0, 1, 0, 0, 0, [])), (63, (.getfield 32, 3, 2, 2, 0, []))],
  [(66, (.invokestatic 71, 3, 65, 3, 1, [])), (69, (.isub, 1, 0, 0, 0, [])), (70, (.iastore, 1, 0, 0, 0, [])), (71, (.iinc 2 1, 3, 0, 0, 0, [])), (74, (.goto (-60), 3, 14, 0, 0, [])), (77, (.iinc 1 1, 3, 0, 0, 0, []))],
  [(80, (.goto (-78), 3, 2, 0, 0, [])), (83, (.return_, 1, 0, 0, 0, []))]]
def zt_X2_weight : zm_T := [[(0, (.aload_n 0, 1, 0, 0, 0, [])), (1, (.getfield 17, 3, 2, 3, 0, [])), (4, (.aload_n 0, 1, 0, 0, 0, [])), (5, (.getfield 33, 3, 2, 1, 0, [])), (8, (.iconst 0, 1, 0, 0, 0, [])), (9, (.iconst 1, 1, 0, 0, 0, [])), (10, (.iload_n 1, 1, 0, 0, 0, [])), (11, (.ishl, 1, 0, 0, 0, [])), (12, (.invokestatic 75, 3, 27, 4, 2, [])), (15, (.lstore_n 2, 1, 0, 0, 0, []))],
  [(16, (.iload_n 1, 1, 0, 0, 0, [])), (17, (.iconst 1, 1, 0, 0, 0, [])), (18, (.iand, 1, 0, 0, 0, [])), (19, (.ifCond .ne 7, 3, 26, 0, 0, [])), (22, (.lload_n 2, 1, 0, 0, 0, [])), (23, (.goto 5, 3, 28, 0, 0, [])), (26, (.lload_n 2, 1, 0, 0, 0, [])), (27, (.lneg, 1, 0, 0, 0, [])), (28, (.lreturn, 1, 0, 0, 0, []))]]
def zt_X2_wholeWeight : zm_T := [[(0, (.lconst 0, 1, 0, 0, 0, [])), (1, (.lstore_n 1, 1, 0, 0, 0, [])), (2, (.iconst 0, 1, 0, 0, 0, [])), (3, (.istore_n 3, 1, 0, 0, 0, [])), (4, (.iload_n 3, 1, 0, 0, 0, [])), (5, (.aload_n 0, 1, 0, 0, 0, [])), (6, (.getfield 33, 3, 2, 1, 0, [])), (9, (.if_icmp .ge 17, 3, 26, 0, 0, [])), (12, (.lload_n 1, 1, 0, 0, 0, [])), (13, (.aload_n 0, 1, 0, 0, 0, [])), (14, (.iload_n 3, 1, 0, 0, 0, [])), (15, (.invokevirtual 57, 2, 25, 2, 2, []))],
  [(18, (.ladd, 1, 0, 0, 0, [])), (19, (.lstore_n 1, 1, 0, 0, 0, [])), (20, (.iinc 3 1, 3, 0, 0, 0, [])), (23, (.goto (-19), 3, 4, 0, 0, [])), (26, (.lload_n 1, 1, 0, 0, 0, [])), (27, (.lreturn, 1, 0, 0, 0, []))]]
def zt_X2_minor : zm_T := [[(0, (.iload_n 2, 1, 0, 0, 0, [])), (1, (.ifCond .lt 15, 3, 16, 0, 0, [])), (4, (.iload_n 2, 1, 0, 0, 0, [])), (5, (.iload_n 1, 1, 0, 0, 0, [])), (6, (.iconst 1, 1, 0, 0, 0, [])), (7, (.isub, 1, 0, 0, 0, [])), (8, (.if_icmp .ge 8, 3, 16, 0, 0, [])), (11, (.iload_n 2, 1, 0, 0, 0, [])), (12, (.iconst 3, 1, 0, 0, 0, [])), (13, (.if_icmp .lt 5, 3, 18, 0, 0, []))],
  [(16, (.lconst 1, 1, 0, 0, 0, [])), (17, (.lreturn, 1, 0, 0, 0, [])), (18, (.lconst 0, 1, 0, 0, 0, [])), (19, (.lstore 4, 2, 0, 0, 0, [])), (21, (.iconst 1, 1, 0, 0, 0, [])), (22, (.istore 6, 2, 0, 0, 0, [])), (24, (.iconst 0, 1, 0, 0, 0, [])), (25, (.istore 7, 2, 0, 0, 0, [])), (27, (.iload 7, 2, 0, 0, 0, [])), (29, (.iload_n 1, 1, 0, 0, 0, [])), (30, (.if_icmp .ge 59, 3, 89, 0, 0, []))],
  [(33, (.iload 7, 2, 0, 0, 0, [])), (35, (.iconst 4, 1, 0, 0, 0, [])), (36, (.if_icmp .ge 53, 3, 89, 0, 0, [])), (39, (.iload_n 3, 1, 0, 0, 0, [])), (40, (.iload 7, 2, 0, 0, 0, [])), (42, (.ishr, 1, 0, 0, 0, [])), (43, (.iconst 1, 1, 0, 0, 0, [])), (44, (.iand, 1, 0, 0, 0, [])), (45, (.ifCond .ne 38, 3, 83, 0, 0, []))],
  [(48, (.lload 4, 2, 0, 0, 0, [])), (50, (.iload 6, 2, 0, 0, 0, [])), (52, (.aload_n 0, 1, 0, 0, 0, [])), (53, (.iload_n 2, 1, 0, 0, 0, [])), (54, (.aaload, 1, 0, 0, 0, [])), (55, (.iload 7, 2, 0, 0, 0, [])), (57, (.iaload, 1, 0, 0, 0, [])), (58, (.imul, 1, 0, 0, 0, [])), (59, (.i2l, 1, 0, 0, 0, [])), (60, (.aload_n 0, 1, 0, 0, 0, [])), (61, (.iload_n 1, 1, 0, 0, 0, [])), (62, (.iload_n 2, 1, 0, 0, 0, [])), (63, (.iconst 1, 1, 0, 0, 0, []))],
  [(64, (.iadd, 1, 0, 0, 0, [])), (65, (.iload_n 3, 1, 0, 0, 0, [])), (66, (.iconst 1, 1, 0, 0, 0, [])), (67, (.iload 7, 2, 0, 0, 0, [])), (69, (.ishl, 1, 0, 0, 0, [])), (70, (.ior, 1, 0, 0, 0, [])), (71, (.invokestatic 75, 3, 27, 4, 2, [])), (74, (.lmul, 1, 0, 0, 0, [])), (75, (.ladd, 1, 0, 0, 0, [])), (76, (.lstore 4, 2, 0, 0, 0, [])), (78, (.iload 6, 2, 0, 0, 0, []))],
  [(80, (.ineg, 1, 0, 0, 0, [])), (81, (.istore 6, 2, 0, 0, 0, [])), (83, (.iinc 7 1, 3, 0, 0, 0, [])), (86, (.goto (-59), 3, 27, 0, 0, [])), (89, (.lload 4, 2, 0, 0, 0, [])), (91, (.lreturn, 1, 0, 0, 0, []))]]
def zt_X2_rowsWithin : zm_T := [[(0, (.iload_n 1, 1, 0, 0, 0, [])), (1, (.ifCond .lt 11, 3, 12, 0, 0, [])), (4, (.iload_n 1, 1, 0, 0, 0, [])), (5, (.aload_n 0, 1, 0, 0, 0, [])), (6, (.getfield 33, 3, 2, 1, 0, [])), (9, (.if_icmp .lt 5, 3, 14, 0, 0, [])), (12, (.iconst 0, 1, 0, 0, 0, [])), (13, (.ireturn, 1, 0, 0, 0, [])), (14, (.aload_n 0, 1, 0, 0, 0, [])), (15, (.iload_n 2, 1, 0, 0, 0, []))],
  [(16, (.invokevirtual 79, 2, 29, 2, 0, [])), (19, (.iconst 0, 1, 0, 0, 0, [])), (20, (.istore_n 3, 1, 0, 0, 0, [])), (21, (.iconst 1, 1, 0, 0, 0, [])), (22, (.istore 4, 2, 0, 0, 0, [])), (24, (.iload 4, 2, 0, 0, 0, [])), (26, (.iload_n 2, 1, 0, 0, 0, [])), (27, (.if_icmp .gt 33, 3, 60, 0, 0, [])), (30, (.iload 4, 2, 0, 0, 0, []))],
  [(32, (.bipush 12, 2, 0, 0, 0, [])), (34, (.if_icmp .gt 26, 3, 60, 0, 0, [])), (37, (.iload_n 3, 1, 0, 0, 0, [])), (38, (.aload_n 0, 1, 0, 0, 0, [])), (39, (.getfield 32, 3, 2, 2, 0, [])), (42, (.imul, 1, 0, 0, 0, [])), (43, (.aload_n 0, 1, 0, 0, 0, [])), (44, (.getfield 20, 3, 2, 4, 0, [])), (47, (.iload_n 1, 1, 0, 0, 0, []))],
  [(48, (.aaload, 1, 0, 0, 0, [])), (49, (.iload 4, 2, 0, 0, 0, [])), (51, (.iaload, 1, 0, 0, 0, [])), (52, (.iadd, 1, 0, 0, 0, [])), (53, (.istore_n 3, 1, 0, 0, 0, [])), (54, (.iinc 4 1, 3, 0, 0, 0, [])), (57, (.goto (-33), 3, 24, 0, 0, [])), (60, (.iload_n 3, 1, 0, 0, 0, [])), (61, (.ireturn, 1, 0, 0, 0, []))]]
def zt_X2_countEndings : zm_T := [[(0, (.aload_n 0, 1, 0, 0, 0, [])), (1, (.getfield 23, 3, 2, 5, 0, [])), (4, (.iconst 0, 1, 0, 0, 0, [])), (5, (.iconst 1, 1, 0, 0, 0, [])), (6, (.iastore, 1, 0, 0, 0, [])), (7, (.iconst 1, 1, 0, 0, 0, [])), (8, (.istore_n 2, 1, 0, 0, 0, [])), (9, (.iload_n 2, 1, 0, 0, 0, [])), (10, (.iload_n 1, 1, 0, 0, 0, [])), (11, (.if_icmp .gt 81, 3, 92, 0, 0, [])), (14, (.iload_n 2, 1, 0, 0, 0, [])), (15, (.bipush 12, 2, 0, 0, 0, []))],
  [(17, (.if_icmp .gt 75, 3, 92, 0, 0, [])), (20, (.aload_n 0, 1, 0, 0, 0, [])), (21, (.getfield 23, 3, 2, 5, 0, [])), (24, (.iload_n 2, 1, 0, 0, 0, [])), (25, (.aload_n 0, 1, 0, 0, 0, [])), (26, (.getfield 23, 3, 2, 5, 0, [])), (29, (.iload_n 2, 1, 0, 0, 0, [])), (30, (.iconst 1, 1, 0, 0, 0, [])), (31, (.isub, 1, 0, 0, 0, []))],
  [(32, (.iaload, 1, 0, 0, 0, [])), (33, (.aload_n 0, 1, 0, 0, 0, [])), (34, (.getfield 32, 3, 2, 2, 0, [])), (37, (.imul, 1, 0, 0, 0, [])), (38, (.iastore, 1, 0, 0, 0, [])), (39, (.iconst 0, 1, 0, 0, 0, [])), (40, (.istore_n 3, 1, 0, 0, 0, [])), (41, (.iload_n 3, 1, 0, 0, 0, [])), (42, (.aload_n 0, 1, 0, 0, 0, [])), (43, (.getfield 33, 3, 2, 1, 0, [])), (46, (.if_icmp .ge 40, 3, 86, 0, 0, []))],
  [(49, (.aload_n 0, 1, 0, 0, 0, [])), (50, (.getfield 20, 3, 2, 4, 0, [])), (53, (.iload_n 3, 1, 0, 0, 0, [])), (54, (.aaload, 1, 0, 0, 0, [])), (55, (.iload_n 2, 1, 0, 0, 0, [])), (56, (.aload_n 0, 1, 0, 0, 0, [])), (57, (.iload_n 3, 1, 0, 0, 0, [])), (58, (.iload_n 2, 1, 0, 0, 0, [])), (59, (.invokevirtual 83, 2, 30, 3, 1, [])), (62, (.iastore, 1, 0, 0, 0, [])), (63, (.aload_n 0, 1, 0, 0, 0, []))],
  [(64, (.getfield 23, 3, 2, 5, 0, [])), (67, (.iload_n 2, 1, 0, 0, 0, [])), (68, (.dup2, 1, 0, 0, 0, [])), (69, (.iaload, 1, 0, 0, 0, [])), (70, (.aload_n 0, 1, 0, 0, 0, [])), (71, (.getfield 20, 3, 2, 4, 0, [])), (74, (.iload_n 3, 1, 0, 0, 0, [])), (75, (.aaload, 1, 0, 0, 0, [])), (76, (.iload_n 2, 1, 0, 0, 0, [])), (77, (.iaload, 1, 0, 0, 0, [])), (78, (.isub, 1, 0, 0, 0, [])), (79, (.iastore, 1, 0, 0, 0, []))],
  [(80, (.iinc 3 1, 3, 0, 0, 0, [])), (83, (.goto (-42), 3, 41, 0, 0, [])), (86, (.iinc 2 1, 3, 0, 0, 0, [])), (89, (.goto (-80), 3, 9, 0, 0, [])), (92, (.return_, 1, 0, 0, 0, []))]]
def zt_X2_endingsAt : zm_T := [[(0, (.iload_n 2, 1, 0, 0, 0, [])), (1, (.aload_n 0, 1, 0, 0, 0, [])), (2, (.getfield 9, 3, 2, 0, 0, [])), (5, (.iload_n 1, 1, 0, 0, 0, [])), (6, (.iaload, 1, 0, 0, 0, [])), (7, (.invokestatic 87, 3, 57, 1, 1, [])), (10, (.isub, 1, 0, 0, 0, [])), (11, (.istore_n 3, 1, 0, 0, 0, [])), (12, (.iload_n 3, 1, 0, 0, 0, [])), (13, (.ifCond .ge 5, 3, 18, 0, 0, []))],
  [(16, (.iconst 0, 1, 0, 0, 0, [])), (17, (.ireturn, 1, 0, 0, 0, [])), (18, (.aload_n 0, 1, 0, 0, 0, [])), (19, (.getfield 23, 3, 2, 5, 0, [])), (22, (.iload_n 3, 1, 0, 0, 0, [])), (23, (.iaload, 1, 0, 0, 0, [])), (24, (.istore 4, 2, 0, 0, 0, [])), (26, (.iconst 0, 1, 0, 0, 0, [])), (27, (.istore 5, 2, 0, 0, 0, [])), (29, (.iload 5, 2, 0, 0, 0, [])), (31, (.aload_n 0, 1, 0, 0, 0, []))],
  [(32, (.getfield 33, 3, 2, 1, 0, [])), (35, (.if_icmp .ge 74, 3, 109, 0, 0, [])), (38, (.aload_n 0, 1, 0, 0, 0, [])), (39, (.getfield 9, 3, 2, 0, 0, [])), (42, (.iload 5, 2, 0, 0, 0, [])), (44, (.iaload, 1, 0, 0, 0, [])), (45, (.aload_n 0, 1, 0, 0, 0, [])), (46, (.getfield 9, 3, 2, 0, 0, []))],
  [(49, (.iload_n 1, 1, 0, 0, 0, [])), (50, (.iaload, 1, 0, 0, 0, [])), (51, (.invokestatic 90, 3, 64, 2, 1, [])), (54, (.istore 6, 2, 0, 0, 0, [])), (56, (.iconst 1, 1, 0, 0, 0, [])), (57, (.istore 7, 2, 0, 0, 0, [])), (59, (.iload_n 3, 1, 0, 0, 0, [])), (60, (.iload 7, 2, 0, 0, 0, [])), (62, (.iadd, 1, 0, 0, 0, [])), (63, (.iload_n 2, 1, 0, 0, 0, []))],
  [(64, (.if_icmp .ge 39, 3, 103, 0, 0, [])), (67, (.iload 6, 2, 0, 0, 0, [])), (69, (.iload 7, 2, 0, 0, 0, [])), (71, (.iconst 1, 1, 0, 0, 0, [])), (72, (.isub, 1, 0, 0, 0, [])), (73, (.ishr, 1, 0, 0, 0, [])), (74, (.iconst 1, 1, 0, 0, 0, [])), (75, (.iand, 1, 0, 0, 0, [])), (76, (.iconst 1, 1, 0, 0, 0, [])), (77, (.if_icmp .ne 20, 3, 97, 0, 0, []))],
  [(80, (.iload 4, 2, 0, 0, 0, [])), (82, (.aload_n 0, 1, 0, 0, 0, [])), (83, (.getfield 20, 3, 2, 4, 0, [])), (86, (.iload 5, 2, 0, 0, 0, [])), (88, (.aaload, 1, 0, 0, 0, [])), (89, (.iload_n 3, 1, 0, 0, 0, [])), (90, (.iload 7, 2, 0, 0, 0, [])), (92, (.iadd, 1, 0, 0, 0, [])), (93, (.iaload, 1, 0, 0, 0, [])), (94, (.isub, 1, 0, 0, 0, [])), (95, (.istore 4, 2, 0, 0, 0, []))],
  [(97, (.iinc 7 1, 3, 0, 0, 0, [])), (100, (.goto (-41), 3, 59, 0, 0, [])), (103, (.iinc 5 1, 3, 0, 0, 0, [])), (106, (.goto (-77), 3, 29, 0, 0, [])), (109, (.iload 4, 2, 0, 0, 0, [])), (111, (.ireturn, 1, 0, 0, 0, []))]]
def zt_X3_isPart : zm_T := [[(0, (.iload_n 0, 1, 0, 0, 0, [])), (1, (.ifCond .eq 8, 3, 9, 0, 0, [])), (4, (.iload_n 0, 1, 0, 0, 0, [])), (5, (.iconst 1, 1, 0, 0, 0, [])), (6, (.if_icmp .ne 7, 3, 13, 0, 0, [])), (9, (.iconst 1, 1, 0, 0, 0, [])), (10, (.goto 4, 3, 14, 0, 0, [])), (13, (.iconst 0, 1, 0, 0, 0, [])), (14, (.ireturn, 1, 0, 0, 0, []))]]
def zt_X3_partOf : zm_T := [[(0, (.lload_n 0, 1, 0, 0, 0, [])), (1, (.lload_n 2, 1, 0, 0, 0, [])), (2, (.invokestatic 9, 3, 33, 2, 2, [])), (5, (.lstore 5, 2, 0, 0, 0, [])), (7, (.lload_n 2, 1, 0, 0, 0, [])), (8, (.lconst 0, 1, 0, 0, 0, [])), (9, (.lcmp, 1, 0, 0, 0, [])), (10, (.ifCond .eq 10, 3, 20, 0, 0, [])), (13, (.lload 5, 2, 0, 0, 0, [])), (15, (.lconst 0, 1, 0, 0, 0, []))],
  [(16, (.lcmp, 1, 0, 0, 0, [])), (17, (.ifCond .ne 7, 3, 24, 0, 0, [])), (20, (.ldc2_w 15, 0, 0, 0, 0, [(-9223372036854775808, 0)])), (23, (.lreturn, 1, 0, 0, 0, [])), (24, (.iload 4, 2, 0, 0, 0, [])), (26, (.ifCond .ne 7, 3, 33, 0, 0, [])), (29, (.lload_n 0, 1, 0, 0, 0, [])), (30, (.goto 4, 3, 34, 0, 0, []))],
  [(33, (.lload_n 2, 1, 0, 0, 0, [])), (34, (.lload 5, 2, 0, 0, 0, [])), (36, (.ldiv, 1, 0, 0, 0, [])), (37, (.lstore 7, 2, 0, 0, 0, [])), (39, (.lload_n 2, 1, 0, 0, 0, [])), (40, (.lload 5, 2, 0, 0, 0, [])), (42, (.ldiv, 1, 0, 0, 0, [])), (43, (.lconst 0, 1, 0, 0, 0, [])), (44, (.lcmp, 1, 0, 0, 0, [])), (45, (.ifCond .ge 9, 3, 54, 0, 0, []))],
  [(48, (.lload 7, 2, 0, 0, 0, [])), (50, (.lneg, 1, 0, 0, 0, [])), (51, (.goto 5, 3, 56, 0, 0, [])), (54, (.lload 7, 2, 0, 0, 0, [])), (56, (.lreturn, 1, 0, 0, 0, []))]]
def zt_X3_commonDivisor : zm_T := [[(0, (.lload_n 0, 1, 0, 0, 0, [])), (1, (.lstore 4, 2, 0, 0, 0, [])), (3, (.lload_n 2, 1, 0, 0, 0, [])), (4, (.lstore 6, 2, 0, 0, 0, [])), (6, (.iconst 0, 1, 0, 0, 0, [])), (7, (.istore 8, 2, 0, 0, 0, [])), (9, (.iload 8, 2, 0, 0, 0, [])), (11, (.bipush 100, 2, 0, 0, 0, [])), (13, (.if_icmp .ge 31, 3, 44, 0, 0, []))],
  [(16, (.lload 6, 2, 0, 0, 0, [])), (18, (.lconst 0, 1, 0, 0, 0, [])), (19, (.lcmp, 1, 0, 0, 0, [])), (20, (.ifCond .eq 24, 3, 44, 0, 0, [])), (23, (.lload 4, 2, 0, 0, 0, [])), (25, (.lload 6, 2, 0, 0, 0, [])), (27, (.lrem, 1, 0, 0, 0, [])), (28, (.lstore 9, 2, 0, 0, 0, [])), (30, (.lload 6, 2, 0, 0, 0, []))],
  [(32, (.lstore 4, 2, 0, 0, 0, [])), (34, (.lload 9, 2, 0, 0, 0, [])), (36, (.lstore 6, 2, 0, 0, 0, [])), (38, (.iinc 8 1, 3, 0, 0, 0, [])), (41, (.goto (-32), 3, 9, 0, 0, [])), (44, (.lload 4, 2, 0, 0, 0, [])), (46, (.lreturn, 1, 0, 0, 0, []))]]
def zt_X4_share : zm_T := [[(0, (.iload_n 1, 1, 0, 0, 0, [])), (1, (.iload_n 1, 1, 0, 0, 0, [])), (2, (.iload_n 2, 1, 0, 0, 0, [])), (3, (.invokestatic 9, 3, 65, 3, 1, [])), (6, (.iload_n 1, 1, 0, 0, 0, [])), (7, (.iload_n 0, 1, 0, 0, 0, [])), (8, (.iload_n 2, 1, 0, 0, 0, [])), (9, (.invokestatic 9, 3, 65, 3, 1, [])), (12, (.isub, 1, 0, 0, 0, [])), (13, (.ireturn, 1, 0, 0, 0, []))]]
def zt_X4_chancePart : zm_T := [[(0, (.iload_n 0, 1, 0, 0, 0, [])), (1, (.iload_n 1, 1, 0, 0, 0, [])), (2, (.invokestatic 15, 3, 67, 2, 1, [])), (5, (.ifCond .eq 7, 3, 12, 0, 0, [])), (8, (.ldc2_w 19, 0, 0, 0, 0, [(-9223372036854775808, 0)])), (11, (.lreturn, 1, 0, 0, 0, [])), (12, (.iload_n 0, 1, 0, 0, 0, [])), (13, (.iload_n 1, 1, 0, 0, 0, [])), (14, (.iload_n 2, 1, 0, 0, 0, [])), (15, (.invokestatic 21, 3, 34, 3, 1, []))],
  [(18, (.istore 4, 2, 0, 0, 0, [])), (20, (.iload 4, 2, 0, 0, 0, [])), (22, (.i2l, 1, 0, 0, 0, [])), (23, (.iload 4, 2, 0, 0, 0, [])), (25, (.iload_n 1, 1, 0, 0, 0, [])), (26, (.iload_n 0, 1, 0, 0, 0, [])), (27, (.iload_n 2, 1, 0, 0, 0, [])), (28, (.invokestatic 21, 3, 34, 3, 1, [])), (31, (.iadd, 1, 0, 0, 0, []))],
  [(32, (.i2l, 1, 0, 0, 0, [])), (33, (.iload_n 3, 1, 0, 0, 0, [])), (34, (.invokestatic 26, 3, 32, 3, 2, [])), (37, (.lreturn, 1, 0, 0, 0, []))]]
def zt_X4_beats : zm_T := [[(0, (.iload_n 0, 1, 0, 0, 0, [])), (1, (.iload_n 1, 1, 0, 0, 0, [])), (2, (.invokestatic 15, 3, 67, 2, 1, [])), (5, (.ifCond .ne 22, 3, 27, 0, 0, [])), (8, (.iload_n 0, 1, 0, 0, 0, [])), (9, (.iload_n 1, 1, 0, 0, 0, [])), (10, (.iload_n 2, 1, 0, 0, 0, [])), (11, (.invokestatic 21, 3, 34, 3, 1, [])), (14, (.iload_n 1, 1, 0, 0, 0, [])), (15, (.iload_n 0, 1, 0, 0, 0, []))],
  [(16, (.iload_n 2, 1, 0, 0, 0, [])), (17, (.invokestatic 21, 3, 34, 3, 1, [])), (20, (.if_icmp .le 7, 3, 27, 0, 0, [])), (23, (.iconst 1, 1, 0, 0, 0, [])), (24, (.goto 4, 3, 28, 0, 0, [])), (27, (.iconst 0, 1, 0, 0, 0, [])), (28, (.ireturn, 1, 0, 0, 0, []))]]
def zt_X4_bestAnswer : zm_T := [[(0, (.iload_n 0, 1, 0, 0, 0, [])), (1, (.iload_n 0, 1, 0, 0, 0, [])), (2, (.iload_n 1, 1, 0, 0, 0, [])), (3, (.invokestatic 9, 3, 65, 3, 1, [])), (6, (.istore_n 2, 1, 0, 0, 0, [])), (7, (.iconst 0, 1, 0, 0, 0, [])), (8, (.istore_n 3, 1, 0, 0, 0, [])), (9, (.iconst 0, 1, 0, 0, 0, [])), (10, (.istore 4, 2, 0, 0, 0, [])), (12, (.iconst 1, 1, 0, 0, 0, [])), (13, (.istore 5, 2, 0, 0, 0, [])), (15, (.iload_n 0, 1, 0, 0, 0, []))],
  [(16, (.invokestatic 32, 3, 57, 1, 1, [])), (19, (.invokestatic 36, 3, 74, 1, 1, [])), (22, (.istore 6, 2, 0, 0, 0, [])), (24, (.iconst 0, 1, 0, 0, 0, [])), (25, (.istore 7, 2, 0, 0, 0, [])), (27, (.iload 7, 2, 0, 0, 0, [])), (29, (.sipush 243, 3, 0, 0, 0, []))],
  [(32, (.if_icmp .ge 81, 3, 113, 0, 0, [])), (35, (.iload 6, 2, 0, 0, 0, [])), (37, (.ifCond .le 76, 3, 113, 0, 0, [])), (40, (.iload 6, 2, 0, 0, 0, [])), (42, (.iload_n 0, 1, 0, 0, 0, [])), (43, (.if_icmp .eq 56, 3, 99, 0, 0, [])), (46, (.iload_n 2, 1, 0, 0, 0, [])), (47, (.iload_n 0, 1, 0, 0, 0, []))],
  [(48, (.iload 6, 2, 0, 0, 0, [])), (50, (.iload_n 1, 1, 0, 0, 0, [])), (51, (.invokestatic 9, 3, 65, 3, 1, [])), (54, (.isub, 1, 0, 0, 0, [])), (55, (.istore 8, 2, 0, 0, 0, [])), (57, (.iload 6, 2, 0, 0, 0, [])), (59, (.iload 6, 2, 0, 0, 0, [])), (61, (.iload_n 1, 1, 0, 0, 0, [])), (62, (.invokestatic 9, 3, 65, 3, 1, []))],
  [(65, (.iload 6, 2, 0, 0, 0, [])), (67, (.iload_n 0, 1, 0, 0, 0, [])), (68, (.iload_n 1, 1, 0, 0, 0, [])), (69, (.invokestatic 9, 3, 65, 3, 1, [])), (72, (.isub, 1, 0, 0, 0, [])), (73, (.istore 9, 2, 0, 0, 0, [])), (75, (.iload 8, 2, 0, 0, 0, [])), (77, (.iload 5, 2, 0, 0, 0, [])), (79, (.imul, 1, 0, 0, 0, []))],
  [(80, (.iload 4, 2, 0, 0, 0, [])), (82, (.iload 9, 2, 0, 0, 0, [])), (84, (.imul, 1, 0, 0, 0, [])), (85, (.if_icmp .le 14, 3, 99, 0, 0, [])), (88, (.iload 6, 2, 0, 0, 0, [])), (90, (.istore_n 3, 1, 0, 0, 0, [])), (91, (.iload 8, 2, 0, 0, 0, [])), (93, (.istore 4, 2, 0, 0, 0, [])), (95, (.iload 9, 2, 0, 0, 0, []))],
  [(97, (.istore 5, 2, 0, 0, 0, [])), (99, (.iload 6, 2, 0, 0, 0, [])), (101, (.iload_n 1, 1, 0, 0, 0, [])), (102, (.invokestatic 39, 3, 75, 2, 1, [])), (105, (.istore 6, 2, 0, 0, 0, [])), (107, (.iinc 7 1, 3, 0, 0, 0, [])), (110, (.goto (-83), 3, 27, 0, 0, []))],
  [(113, (.iload_n 3, 1, 0, 0, 0, [])), (114, (.ireturn, 1, 0, 0, 0, []))]]
def zt_X5_wordAt : zm_T := [[(0, (.iload_n 1, 1, 0, 0, 0, [])), (1, (.ifCond .lt 18, 3, 19, 0, 0, [])), (4, (.iload_n 1, 1, 0, 0, 0, [])), (5, (.bipush 6, 2, 0, 0, 0, [])), (7, (.if_icmp .ge 12, 3, 19, 0, 0, [])), (10, (.aload_n 0, 1, 0, 0, 0, [])), (11, (.getfield 9, 3, 3, 0, 0, [])), (14, (.iload_n 1, 1, 0, 0, 0, [])), (15, (.iaload, 1, 0, 0, 0, []))],
  [(16, (.goto 5, 3, 21, 0, 0, [])), (19, (.bipush (-5), 2, 0, 0, 0, [])), (21, (.ireturn, 1, 0, 0, 0, []))]]
def zt_X5_find : zm_T := [[(0, (.aload_n 1, 1, 0, 0, 0, [])), (1, (.getfield 18, 3, 0, 2, 0, [])), (4, (.bipush 6, 2, 0, 0, 0, [])), (6, (.invokestatic 24, 3, 9998, 2, 1, [])), (9, (.istore_n 2, 1, 0, 0, 0, [])), (10, (.iconst 0, 1, 0, 0, 0, [])), (11, (.istore_n 3, 1, 0, 0, 0, [])), (12, (.iload_n 3, 1, 0, 0, 0, [])), (13, (.iload_n 2, 1, 0, 0, 0, [])), (14, (.if_icmp .ge 65, 3, 79, 0, 0, []))],
  [(17, (.aload_n 0, 1, 0, 0, 0, [])), (18, (.getfield 15, 3, 3, 1, 0, [])), (21, (.iload_n 3, 1, 0, 0, 0, [])), (22, (.iconst 0, 1, 0, 0, 0, [])), (23, (.iastore, 1, 0, 0, 0, [])), (24, (.iconst 0, 1, 0, 0, 0, [])), (25, (.istore 4, 2, 0, 0, 0, [])), (27, (.iload 4, 2, 0, 0, 0, [])), (29, (.iload_n 2, 1, 0, 0, 0, [])), (30, (.if_icmp .ge 43, 3, 73, 0, 0, []))],
  [(33, (.aload_n 1, 1, 0, 0, 0, [])), (34, (.iload_n 3, 1, 0, 0, 0, [])), (35, (.invokevirtual 30, 0, 3, 2, 1, [])), (38, (.aload_n 1, 1, 0, 0, 0, [])), (39, (.iload 4, 2, 0, 0, 0, [])), (41, (.invokevirtual 30, 0, 3, 2, 1, [])), (44, (.aload_n 1, 1, 0, 0, 0, [])), (45, (.getfield 34, 3, 0, 0, 0, []))],
  [(48, (.invokestatic 37, 3, 36, 3, 1, [])), (51, (.ifCond .eq 16, 3, 67, 0, 0, [])), (54, (.aload_n 0, 1, 0, 0, 0, [])), (55, (.getfield 15, 3, 3, 1, 0, [])), (58, (.iload_n 3, 1, 0, 0, 0, [])), (59, (.dup2, 1, 0, 0, 0, [])), (60, (.iaload, 1, 0, 0, 0, [])), (61, (.iconst 1, 1, 0, 0, 0, [])), (62, (.iload 4, 2, 0, 0, 0, []))],
  [(64, (.ishl, 1, 0, 0, 0, [])), (65, (.ior, 1, 0, 0, 0, [])), (66, (.iastore, 1, 0, 0, 0, [])), (67, (.iinc 4 1, 3, 0, 0, 0, [])), (70, (.goto (-43), 3, 27, 0, 0, [])), (73, (.iinc 3 1, 3, 0, 0, 0, [])), (76, (.goto (-64), 3, 12, 0, 0, [])), (79, (.iconst 3, 1, 0, 0, 0, []))],
  [(80, (.istore_n 3, 1, 0, 0, 0, [])), (81, (.iload_n 3, 1, 0, 0, 0, [])), (82, (.iload_n 2, 1, 0, 0, 0, [])), (83, (.if_icmp .gt 25, 3, 108, 0, 0, [])), (86, (.aload_n 0, 1, 0, 0, 0, [])), (87, (.iconst 1, 1, 0, 0, 0, [])), (88, (.iload_n 2, 1, 0, 0, 0, [])), (89, (.ishl, 1, 0, 0, 0, [])), (90, (.iconst 1, 1, 0, 0, 0, [])), (91, (.isub, 1, 0, 0, 0, [])), (92, (.iconst 0, 1, 0, 0, 0, [])), (93, (.iload_n 3, 1, 0, 0, 0, [])), (94, (.invokestatic 43, 3, 40, 4, 1, []))],
  [(97, (.ifCond .eq 5, 3, 102, 0, 0, [])), (100, (.iload_n 3, 1, 0, 0, 0, [])), (101, (.ireturn, 1, 0, 0, 0, [])), (102, (.iinc 3 1, 3, 0, 0, 0, [])), (105, (.goto (-24), 3, 81, 0, 0, [])), (108, (.iconst 0, 1, 0, 0, 0, [])), (109, (.ireturn, 1, 0, 0, 0, []))]]
def zt_X5_closes : zm_T := [[(0, (.iload_n 2, 1, 0, 0, 0, [])), (1, (.ifCond .ge 5, 3, 6, 0, 0, [])), (4, (.iconst 0, 1, 0, 0, 0, [])), (5, (.ireturn, 1, 0, 0, 0, [])), (6, (.iload_n 2, 1, 0, 0, 0, [])), (7, (.iload_n 3, 1, 0, 0, 0, [])), (8, (.if_icmp .ge 9, 3, 17, 0, 0, [])), (11, (.iload_n 2, 1, 0, 0, 0, [])), (12, (.bipush 6, 2, 0, 0, 0, [])), (14, (.if_icmp .lt 17, 3, 31, 0, 0, []))],
  [(17, (.aload_n 0, 1, 0, 0, 0, [])), (18, (.iload_n 2, 1, 0, 0, 0, [])), (19, (.iconst 1, 1, 0, 0, 0, [])), (20, (.isub, 1, 0, 0, 0, [])), (21, (.aload_n 0, 1, 0, 0, 0, [])), (22, (.getfield 9, 3, 3, 0, 0, [])), (25, (.iconst 0, 1, 0, 0, 0, [])), (26, (.iaload, 1, 0, 0, 0, [])), (27, (.invokevirtual 47, 3, 41, 3, 1, [])), (30, (.ireturn, 1, 0, 0, 0, [])), (31, (.iconst 0, 1, 0, 0, 0, []))],
  [(32, (.istore 4, 2, 0, 0, 0, [])), (34, (.iload 4, 2, 0, 0, 0, [])), (36, (.bipush 6, 2, 0, 0, 0, [])), (38, (.if_icmp .ge 64, 3, 102, 0, 0, [])), (41, (.iload_n 1, 1, 0, 0, 0, [])), (42, (.iload 4, 2, 0, 0, 0, [])), (44, (.ishr, 1, 0, 0, 0, [])), (45, (.iconst 1, 1, 0, 0, 0, [])), (46, (.iand, 1, 0, 0, 0, [])), (47, (.iconst 1, 1, 0, 0, 0, []))],
  [(48, (.if_icmp .ne 48, 3, 96, 0, 0, [])), (51, (.iload_n 2, 1, 0, 0, 0, [])), (52, (.ifCond .eq 15, 3, 67, 0, 0, [])), (55, (.aload_n 0, 1, 0, 0, 0, [])), (56, (.iload_n 2, 1, 0, 0, 0, [])), (57, (.iconst 1, 1, 0, 0, 0, [])), (58, (.isub, 1, 0, 0, 0, [])), (59, (.iload 4, 2, 0, 0, 0, [])), (61, (.invokevirtual 47, 3, 41, 3, 1, []))],
  [(64, (.ifCond .eq 32, 3, 96, 0, 0, [])), (67, (.aload_n 0, 1, 0, 0, 0, [])), (68, (.getfield 9, 3, 3, 0, 0, [])), (71, (.iload_n 2, 1, 0, 0, 0, [])), (72, (.iload 4, 2, 0, 0, 0, [])), (74, (.iastore, 1, 0, 0, 0, [])), (75, (.aload_n 0, 1, 0, 0, 0, [])), (76, (.iload_n 1, 1, 0, 0, 0, [])), (77, (.iconst 1, 1, 0, 0, 0, [])), (78, (.iload 4, 2, 0, 0, 0, []))],
  [(80, (.ishl, 1, 0, 0, 0, [])), (81, (.iconst (-1), 1, 0, 0, 0, [])), (82, (.ixor, 1, 0, 0, 0, [])), (83, (.iand, 1, 0, 0, 0, [])), (84, (.iload_n 2, 1, 0, 0, 0, [])), (85, (.iconst 1, 1, 0, 0, 0, [])), (86, (.iadd, 1, 0, 0, 0, [])), (87, (.iload_n 3, 1, 0, 0, 0, [])), (88, (.invokestatic 43, 3, 40, 4, 1, [])), (91, (.ifCond .eq 5, 3, 96, 0, 0, [])), (94, (.iconst 1, 1, 0, 0, 0, [])), (95, (.ireturn, 1, 0, 0, 0, []))],
  [(96, (.iinc 4 1, 3, 0, 0, 0, [])), (99, (.goto (-65), 3, 34, 0, 0, [])), (102, (.iconst 0, 1, 0, 0, 0, [])), (103, (.ireturn, 1, 0, 0, 0, []))]]
def zt_X5_isBeaten : zm_T := [[(0, (.iload_n 1, 1, 0, 0, 0, [])), (1, (.ifCond .lt 32, 3, 33, 0, 0, [])), (4, (.iload_n 1, 1, 0, 0, 0, [])), (5, (.bipush 6, 2, 0, 0, 0, [])), (7, (.if_icmp .ge 26, 3, 33, 0, 0, [])), (10, (.aload_n 0, 1, 0, 0, 0, [])), (11, (.getfield 15, 3, 3, 1, 0, [])), (14, (.aload_n 0, 1, 0, 0, 0, [])), (15, (.getfield 9, 3, 3, 0, 0, []))],
  [(18, (.iload_n 1, 1, 0, 0, 0, [])), (19, (.iaload, 1, 0, 0, 0, [])), (20, (.iaload, 1, 0, 0, 0, [])), (21, (.iload_n 2, 1, 0, 0, 0, [])), (22, (.ishr, 1, 0, 0, 0, [])), (23, (.iconst 1, 1, 0, 0, 0, [])), (24, (.iand, 1, 0, 0, 0, [])), (25, (.iconst 1, 1, 0, 0, 0, [])), (26, (.if_icmp .ne 7, 3, 33, 0, 0, [])), (29, (.iconst 1, 1, 0, 0, 0, [])), (30, (.goto 4, 3, 34, 0, 0, []))],
  [(33, (.iconst 0, 1, 0, 0, 0, [])), (34, (.ireturn, 1, 0, 0, 0, []))]]
def zt_X6_copyFrom : zm_T := [[(0, (.aload_n 0, 1, 0, 0, 0, [])), (1, (.aload_n 1, 1, 0, 0, 0, [])), (2, (.getfield 15, 3, 4, 1, 0, [])), (5, (.putfield 15, 3, 4, 1, 0, [])), (8, (.aload_n 1, 1, 0, 0, 0, [])), (9, (.getfield 9, 3, 4, 0, 0, [])), (12, (.iconst 0, 1, 0, 0, 0, [])), (13, (.aload_n 0, 1, 0, 0, 0, [])), (14, (.getfield 9, 3, 4, 0, 0, []))],
  [(17, (.iconst 0, 1, 0, 0, 0, [])), (18, (.bipush 40, 2, 0, 0, 0, [])), (20, (.invokestatic 19, 3, 9999, 5, 0, [])), (23, (.return_, 1, 0, 0, 0, []))]]
def zt_X6_hasPlace : zm_T := [[(0, (.iload_n 1, 1, 0, 0, 0, [])), (1, (.ifCond .lt 21, 3, 22, 0, 0, [])), (4, (.iload_n 1, 1, 0, 0, 0, [])), (5, (.aload_n 0, 1, 0, 0, 0, [])), (6, (.getfield 15, 3, 4, 1, 0, [])), (9, (.if_icmp .ge 13, 3, 22, 0, 0, [])), (12, (.iload_n 1, 1, 0, 0, 0, [])), (13, (.bipush 40, 2, 0, 0, 0, [])), (15, (.if_icmp .ge 7, 3, 22, 0, 0, []))],
  [(18, (.iconst 1, 1, 0, 0, 0, [])), (19, (.goto 4, 3, 23, 0, 0, [])), (22, (.iconst 0, 1, 0, 0, 0, [])), (23, (.ireturn, 1, 0, 0, 0, []))]]
def zt_X6_letterAt : zm_T := [[(0, (.aload_n 0, 1, 0, 0, 0, [])), (1, (.iload_n 1, 1, 0, 0, 0, [])), (2, (.invokevirtual 25, 4, 43, 2, 1, [])), (5, (.ifCond .eq 12, 3, 17, 0, 0, [])), (8, (.aload_n 0, 1, 0, 0, 0, [])), (9, (.getfield 9, 3, 4, 0, 0, [])), (12, (.iload_n 1, 1, 0, 0, 0, [])), (13, (.iaload, 1, 0, 0, 0, [])), (14, (.goto 4, 3, 18, 0, 0, []))],
  [(17, (.iconst 0, 1, 0, 0, 0, [])), (18, (.ireturn, 1, 0, 0, 0, []))]]
def zt_X6_append : zm_T := [[(0, (.aload_n 0, 1, 0, 0, 0, [])), (1, (.getfield 15, 3, 4, 1, 0, [])), (4, (.ifCond .lt 12, 3, 16, 0, 0, [])), (7, (.aload_n 0, 1, 0, 0, 0, [])), (8, (.getfield 15, 3, 4, 1, 0, [])), (11, (.bipush 40, 2, 0, 0, 0, [])), (13, (.if_icmp .lt 5, 3, 18, 0, 0, []))],
  [(16, (.iconst 0, 1, 0, 0, 0, [])), (17, (.ireturn, 1, 0, 0, 0, [])), (18, (.aload_n 0, 1, 0, 0, 0, [])), (19, (.getfield 9, 3, 4, 0, 0, [])), (22, (.aload_n 0, 1, 0, 0, 0, [])), (23, (.getfield 15, 3, 4, 1, 0, [])), (26, (.iload_n 1, 1, 0, 0, 0, [])), (27, (.iastore, 1, 0, 0, 0, [])), (28, (.aload_n 0, 1, 0, 0, 0, [])), (29, (.dup, 1, 0, 0, 0, [])), (30, (.getfield 15, 3, 4, 1, 0, []))],
  [(33, (.iconst 1, 1, 0, 0, 0, [])), (34, (.iadd, 1, 0, 0, 0, [])), (35, (.putfield 15, 3, 4, 1, 0, [])), (38, (.iconst 1, 1, 0, 0, 0, [])), (39, (.ireturn, 1, 0, 0, 0, []))]]
def zt_X6_dropLast : zm_T := [[(0, (.aload_n 0, 1, 0, 0, 0, [])), (1, (.iconst 0, 1, 0, 0, 0, [])), (2, (.aload_n 0, 1, 0, 0, 0, [])), (3, (.getfield 15, 3, 4, 1, 0, [])), (6, (.iload_n 1, 1, 0, 0, 0, [])), (7, (.isub, 1, 0, 0, 0, [])), (8, (.invokestatic 29, 3, 9997, 2, 1, [])), (11, (.putfield 15, 3, 4, 1, 0, [])), (14, (.return_, 1, 0, 0, 0, []))]]
def zt_X6_putOneOn : zm_T := [[(0, (.iconst 0, 1, 0, 0, 0, [])), (1, (.istore_n 2, 1, 0, 0, 0, [])), (2, (.iload_n 2, 1, 0, 0, 0, [])), (3, (.aload_n 0, 1, 0, 0, 0, [])), (4, (.getfield 15, 3, 4, 1, 0, [])), (7, (.if_icmp .ge 31, 3, 38, 0, 0, [])), (10, (.iload_n 2, 1, 0, 0, 0, [])), (11, (.bipush 40, 2, 0, 0, 0, [])), (13, (.if_icmp .ge 25, 3, 38, 0, 0, []))],
  [(16, (.aload_n 0, 1, 0, 0, 0, [])), (17, (.getfield 9, 3, 4, 0, 0, [])), (20, (.iload_n 2, 1, 0, 0, 0, [])), (21, (.aload_n 0, 1, 0, 0, 0, [])), (22, (.getfield 9, 3, 4, 0, 0, [])), (25, (.iload_n 2, 1, 0, 0, 0, [])), (26, (.iaload, 1, 0, 0, 0, [])), (27, (.iload_n 1, 1, 0, 0, 0, [])), (28, (.invokestatic 35, 3, 68, 2, 1, [])), (31, (.iastore, 1, 0, 0, 0, []))],
  [(32, (.iinc 2 1, 3, 0, 0, 0, [])), (35, (.goto (-33), 3, 2, 0, 0, [])), (38, (.return_, 1, 0, 0, 0, []))]]
def zt_X6_endBits : zm_T := [[(0, (.lconst 0, 1, 0, 0, 0, [])), (1, (.lstore_n 2, 1, 0, 0, 0, [])), (2, (.iconst 0, 1, 0, 0, 0, [])), (3, (.istore 4, 2, 0, 0, 0, [])), (5, (.iconst 0, 1, 0, 0, 0, [])), (6, (.istore 5, 2, 0, 0, 0, [])), (8, (.iload 5, 2, 0, 0, 0, [])), (10, (.aload_n 0, 1, 0, 0, 0, [])), (11, (.getfield 15, 3, 4, 1, 0, [])), (14, (.if_icmp .ge 38, 3, 52, 0, 0, []))],
  [(17, (.iload 4, 2, 0, 0, 0, [])), (19, (.aload_n 0, 1, 0, 0, 0, [])), (20, (.iload 5, 2, 0, 0, 0, [])), (22, (.invokevirtual 40, 4, 44, 2, 1, [])), (25, (.invokestatic 44, 3, 62, 2, 1, [])), (28, (.istore 4, 2, 0, 0, 0, [])), (30, (.iload 4, 2, 0, 0, 0, []))],
  [(32, (.iload_n 1, 1, 0, 0, 0, [])), (33, (.invokestatic 47, 3, 63, 2, 1, [])), (36, (.ifCond .eq 10, 3, 46, 0, 0, [])), (39, (.lload_n 2, 1, 0, 0, 0, [])), (40, (.lconst 1, 1, 0, 0, 0, [])), (41, (.iload 5, 2, 0, 0, 0, [])), (43, (.lshl, 1, 0, 0, 0, [])), (44, (.lor, 1, 0, 0, 0, [])), (45, (.lstore_n 2, 1, 0, 0, 0, [])), (46, (.iinc 5 1, 3, 0, 0, 0, []))],
  [(49, (.goto (-41), 3, 8, 0, 0, [])), (52, (.lload_n 2, 1, 0, 0, 0, [])), (53, (.lreturn, 1, 0, 0, 0, []))]]
def zt_X6_firstEnd : zm_T := [[(0, (.iconst 0, 1, 0, 0, 0, [])), (1, (.istore_n 2, 1, 0, 0, 0, [])), (2, (.iconst 0, 1, 0, 0, 0, [])), (3, (.istore_n 3, 1, 0, 0, 0, [])), (4, (.iload_n 3, 1, 0, 0, 0, [])), (5, (.aload_n 0, 1, 0, 0, 0, [])), (6, (.getfield 15, 3, 4, 1, 0, [])), (9, (.if_icmp .ge 29, 3, 38, 0, 0, [])), (12, (.iload_n 2, 1, 0, 0, 0, [])), (13, (.aload_n 0, 1, 0, 0, 0, [])), (14, (.iload_n 3, 1, 0, 0, 0, [])), (15, (.invokevirtual 40, 4, 44, 2, 1, []))],
  [(18, (.invokestatic 44, 3, 62, 2, 1, [])), (21, (.istore_n 2, 1, 0, 0, 0, [])), (22, (.iload_n 2, 1, 0, 0, 0, [])), (23, (.iload_n 1, 1, 0, 0, 0, [])), (24, (.invokestatic 47, 3, 63, 2, 1, [])), (27, (.ifCond .eq 5, 3, 32, 0, 0, [])), (30, (.iload_n 3, 1, 0, 0, 0, [])), (31, (.ireturn, 1, 0, 0, 0, []))],
  [(32, (.iinc 3 1, 3, 0, 0, 0, [])), (35, (.goto (-31), 3, 4, 0, 0, [])), (38, (.bipush (-5), 2, 0, 0, 0, [])), (40, (.ireturn, 1, 0, 0, 0, []))]]
def zt_X6_matched : zm_T := [[(0, (.iconst 0, 1, 0, 0, 0, [])), (1, (.istore_n 2, 1, 0, 0, 0, [])), (2, (.aload_n 0, 1, 0, 0, 0, [])), (3, (.getfield 15, 3, 4, 1, 0, [])), (6, (.iconst 5, 1, 0, 0, 0, [])), (7, (.isub, 1, 0, 0, 0, [])), (8, (.istore_n 3, 1, 0, 0, 0, [])), (9, (.iload_n 3, 1, 0, 0, 0, [])), (10, (.aload_n 0, 1, 0, 0, 0, [])), (11, (.getfield 15, 3, 4, 1, 0, [])), (14, (.if_icmp .ge 19, 3, 33, 0, 0, []))],
  [(17, (.iload_n 2, 1, 0, 0, 0, [])), (18, (.aload_n 0, 1, 0, 0, 0, [])), (19, (.iload_n 3, 1, 0, 0, 0, [])), (20, (.invokevirtual 40, 4, 44, 2, 1, [])), (23, (.invokestatic 44, 3, 62, 2, 1, [])), (26, (.istore_n 2, 1, 0, 0, 0, [])), (27, (.iinc 3 1, 3, 0, 0, 0, [])), (30, (.goto (-21), 3, 9, 0, 0, []))],
  [(33, (.iload_n 1, 1, 0, 0, 0, [])), (34, (.invokestatic 51, 3, 57, 1, 1, [])), (37, (.istore_n 3, 1, 0, 0, 0, [])), (38, (.iload_n 3, 1, 0, 0, 0, [])), (39, (.ifCond .le 24, 3, 63, 0, 0, [])), (42, (.iload_n 1, 1, 0, 0, 0, [])), (43, (.iload_n 3, 1, 0, 0, 0, [])), (44, (.invokestatic 54, 3, 60, 2, 1, [])), (47, (.iload_n 2, 1, 0, 0, 0, []))],
  [(48, (.iload_n 3, 1, 0, 0, 0, [])), (49, (.invokestatic 57, 3, 61, 2, 1, [])), (52, (.if_icmp .ne 5, 3, 57, 0, 0, [])), (55, (.iload_n 3, 1, 0, 0, 0, [])), (56, (.ireturn, 1, 0, 0, 0, [])), (57, (.iinc 3 (-1), 3, 0, 0, 0, [])), (60, (.goto (-22), 3, 38, 0, 0, [])), (63, (.iconst 0, 1, 0, 0, 0, []))],
  [(64, (.ireturn, 1, 0, 0, 0, []))]]
def zt_X7_append : zm_T := [[(0, (.aload_n 0, 1, 0, 0, 0, [])), (1, (.getfield 18, 3, 5, 1, 0, [])), (4, (.ifCond .lt 12, 3, 16, 0, 0, [])), (7, (.aload_n 0, 1, 0, 0, 0, [])), (8, (.getfield 18, 3, 5, 1, 0, [])), (11, (.bipush 60, 2, 0, 0, 0, [])), (13, (.if_icmp .lt 5, 3, 18, 0, 0, []))],
  [(16, (.iconst 0, 1, 0, 0, 0, [])), (17, (.ireturn, 1, 0, 0, 0, [])), (18, (.aload_n 0, 1, 0, 0, 0, [])), (19, (.getfield 9, 3, 5, 0, 0, [])), (22, (.aload_n 0, 1, 0, 0, 0, [])), (23, (.getfield 18, 3, 5, 1, 0, [])), (26, (.iload_n 1, 1, 0, 0, 0, [])), (27, (.iastore, 1, 0, 0, 0, [])), (28, (.aload_n 0, 1, 0, 0, 0, [])), (29, (.dup, 1, 0, 0, 0, [])), (30, (.getfield 18, 3, 5, 1, 0, []))],
  [(33, (.iconst 1, 1, 0, 0, 0, [])), (34, (.iadd, 1, 0, 0, 0, [])), (35, (.putfield 18, 3, 5, 1, 0, [])), (38, (.iconst 1, 1, 0, 0, 0, [])), (39, (.ireturn, 1, 0, 0, 0, []))]]
def zt_X7_read : zm_T := [[(0, (.aload_n 0, 1, 0, 0, 0, [])), (1, (.iconst 0, 1, 0, 0, 0, [])), (2, (.putfield 22, 3, 5, 3, 0, [])), (5, (.aload_n 0, 1, 0, 0, 0, [])), (6, (.iconst 0, 1, 0, 0, 0, [])), (7, (.putfield 25, 3, 5, 4, 0, [])), (10, (.aload_n 0, 1, 0, 0, 0, [])), (11, (.iconst 0, 1, 0, 0, 0, [])), (12, (.putfield 28, 3, 5, 5, 0, [])), (15, (.iconst 0, 1, 0, 0, 0, []))],
  [(16, (.istore_n 2, 1, 0, 0, 0, [])), (17, (.iload_n 2, 1, 0, 0, 0, [])), (18, (.aload_n 0, 1, 0, 0, 0, [])), (19, (.getfield 18, 3, 5, 1, 0, [])), (22, (.if_icmp .ge 31, 3, 53, 0, 0, [])), (25, (.iload_n 2, 1, 0, 0, 0, [])), (26, (.bipush 60, 2, 0, 0, 0, [])), (28, (.if_icmp .ge 25, 3, 53, 0, 0, [])), (31, (.aload_n 0, 1, 0, 0, 0, []))],
  [(32, (.aload_n 0, 1, 0, 0, 0, [])), (33, (.getfield 9, 3, 5, 0, 0, [])), (36, (.iload_n 2, 1, 0, 0, 0, [])), (37, (.iaload, 1, 0, 0, 0, [])), (38, (.iload_n 1, 1, 0, 0, 0, [])), (39, (.invokevirtual 31, 5, 53, 3, 1, [])), (42, (.ifCond .ne 5, 3, 47, 0, 0, [])), (45, (.iload_n 2, 1, 0, 0, 0, [])), (46, (.ireturn, 1, 0, 0, 0, [])), (47, (.iinc 2 1, 3, 0, 0, 0, []))],
  [(50, (.goto (-33), 3, 17, 0, 0, [])), (53, (.aload_n 0, 1, 0, 0, 0, [])), (54, (.invokevirtual 35, 5, 55, 1, 1, [])), (57, (.ifCond .eq 7, 3, 64, 0, 0, [])), (60, (.iconst (-1), 1, 0, 0, 0, [])), (61, (.goto 7, 3, 68, 0, 0, []))],
  [(64, (.aload_n 0, 1, 0, 0, 0, [])), (65, (.getfield 18, 3, 5, 1, 0, [])), (68, (.ireturn, 1, 0, 0, 0, []))]]
def zt_X7_goesOn : zm_T := [[(0, (.iload_n 1, 1, 0, 0, 0, [])), (1, (.bipush 59, 2, 0, 0, 0, [])), (3, (.if_icmp .ne 8, 3, 11, 0, 0, [])), (6, (.aload_n 0, 1, 0, 0, 0, [])), (7, (.invokevirtual 35, 5, 55, 1, 1, [])), (10, (.ireturn, 1, 0, 0, 0, [])), (11, (.iload_n 1, 1, 0, 0, 0, [])), (12, (.bipush 50, 2, 0, 0, 0, [])), (14, (.if_icmp .lt 41, 3, 55, 0, 0, []))],
  [(17, (.iload_n 1, 1, 0, 0, 0, [])), (18, (.bipush 53, 2, 0, 0, 0, [])), (20, (.if_icmp .gt 35, 3, 55, 0, 0, [])), (23, (.aload_n 0, 1, 0, 0, 0, [])), (24, (.getfield 28, 3, 5, 5, 0, [])), (27, (.istore_n 3, 1, 0, 0, 0, [])), (28, (.aload_n 0, 1, 0, 0, 0, [])), (29, (.iconst 0, 1, 0, 0, 0, [])), (30, (.putfield 28, 3, 5, 5, 0, []))],
  [(33, (.iload_n 3, 1, 0, 0, 0, [])), (34, (.ifCond .eq 19, 3, 53, 0, 0, [])), (37, (.aload_n 0, 1, 0, 0, 0, [])), (38, (.iload_n 3, 1, 0, 0, 0, [])), (39, (.iload_n 1, 1, 0, 0, 0, [])), (40, (.bipush 49, 2, 0, 0, 0, [])), (42, (.isub, 1, 0, 0, 0, [])), (43, (.invokevirtual 39, 5, 54, 3, 1, [])), (46, (.ifCond .eq 7, 3, 53, 0, 0, []))],
  [(49, (.iconst 1, 1, 0, 0, 0, [])), (50, (.goto 4, 3, 54, 0, 0, [])), (53, (.iconst 0, 1, 0, 0, 0, [])), (54, (.ireturn, 1, 0, 0, 0, [])), (55, (.iload_n 1, 1, 0, 0, 0, [])), (56, (.bipush 97, 2, 0, 0, 0, [])), (58, (.if_icmp .lt 11, 3, 69, 0, 0, [])), (61, (.iload_n 1, 1, 0, 0, 0, [])), (62, (.bipush 97, 2, 0, 0, 0, []))],
  [(64, (.iload_n 2, 1, 0, 0, 0, [])), (65, (.iadd, 1, 0, 0, 0, [])), (66, (.if_icmp .lt 5, 3, 71, 0, 0, [])), (69, (.iconst 0, 1, 0, 0, 0, [])), (70, (.ireturn, 1, 0, 0, 0, [])), (71, (.aload_n 0, 1, 0, 0, 0, [])), (72, (.iload_n 1, 1, 0, 0, 0, [])), (73, (.bipush 97, 2, 0, 0, 0, [])), (75, (.isub, 1, 0, 0, 0, [])), (76, (.iconst 1, 1, 0, 0, 0, [])), (77, (.iadd, 1, 0, 0, 0, [])), (78, (.putfield 28, 3, 5, 5, 0, []))],
  [(81, (.aload_n 0, 1, 0, 0, 0, [])), (82, (.aload_n 0, 1, 0, 0, 0, [])), (83, (.getfield 28, 3, 5, 5, 0, [])), (86, (.iconst 1, 1, 0, 0, 0, [])), (87, (.invokevirtual 39, 5, 54, 3, 1, [])), (90, (.ireturn, 1, 0, 0, 0, []))]]
def zt_X7_addLetters : zm_T := [[(0, (.aload_n 0, 1, 0, 0, 0, [])), (1, (.getfield 25, 3, 5, 4, 0, [])), (4, (.invokestatic 42, 3, 57, 1, 1, [])), (7, (.iload_n 2, 1, 0, 0, 0, [])), (8, (.iadd, 1, 0, 0, 0, [])), (9, (.iconst 5, 1, 0, 0, 0, [])), (10, (.if_icmp .le 5, 3, 15, 0, 0, [])), (13, (.iconst 0, 1, 0, 0, 0, [])), (14, (.ireturn, 1, 0, 0, 0, [])), (15, (.iconst 0, 1, 0, 0, 0, []))],
  [(16, (.istore_n 3, 1, 0, 0, 0, [])), (17, (.iload_n 3, 1, 0, 0, 0, [])), (18, (.iload_n 2, 1, 0, 0, 0, [])), (19, (.if_icmp .ge 22, 3, 41, 0, 0, [])), (22, (.aload_n 0, 1, 0, 0, 0, [])), (23, (.aload_n 0, 1, 0, 0, 0, [])), (24, (.getfield 25, 3, 5, 4, 0, [])), (27, (.bipush 10, 2, 0, 0, 0, [])), (29, (.imul, 1, 0, 0, 0, [])), (30, (.iload_n 1, 1, 0, 0, 0, [])), (31, (.iadd, 1, 0, 0, 0, []))],
  [(32, (.putfield 25, 3, 5, 4, 0, [])), (35, (.iinc 3 1, 3, 0, 0, 0, [])), (38, (.goto (-21), 3, 17, 0, 0, [])), (41, (.iconst 1, 1, 0, 0, 0, [])), (42, (.ireturn, 1, 0, 0, 0, []))]]
def zt_X7_endClause : zm_T := [[(0, (.aload_n 0, 1, 0, 0, 0, [])), (1, (.getfield 25, 3, 5, 4, 0, [])), (4, (.ifCond .ne 5, 3, 9, 0, 0, [])), (7, (.iconst 0, 1, 0, 0, 0, [])), (8, (.ireturn, 1, 0, 0, 0, [])), (9, (.aload_n 0, 1, 0, 0, 0, [])), (10, (.getfield 22, 3, 5, 3, 0, [])), (13, (.ifCond .lt 25, 3, 38, 0, 0, []))],
  [(16, (.aload_n 0, 1, 0, 0, 0, [])), (17, (.getfield 22, 3, 5, 3, 0, [])), (20, (.bipush 6, 2, 0, 0, 0, [])), (22, (.if_icmp .ge 16, 3, 38, 0, 0, [])), (25, (.aload_n 0, 1, 0, 0, 0, [])), (26, (.getfield 15, 3, 5, 2, 0, [])), (29, (.aload_n 0, 1, 0, 0, 0, [])), (30, (.getfield 22, 3, 5, 3, 0, []))],
  [(33, (.aload_n 0, 1, 0, 0, 0, [])), (34, (.getfield 25, 3, 5, 4, 0, [])), (37, (.iastore, 1, 0, 0, 0, [])), (38, (.aload_n 0, 1, 0, 0, 0, [])), (39, (.dup, 1, 0, 0, 0, [])), (40, (.getfield 22, 3, 5, 3, 0, [])), (43, (.iconst 1, 1, 0, 0, 0, [])), (44, (.iadd, 1, 0, 0, 0, [])), (45, (.putfield 22, 3, 5, 3, 0, []))],
  [(48, (.aload_n 0, 1, 0, 0, 0, [])), (49, (.iconst 0, 1, 0, 0, 0, [])), (50, (.putfield 25, 3, 5, 4, 0, [])), (53, (.aload_n 0, 1, 0, 0, 0, [])), (54, (.iconst 0, 1, 0, 0, 0, [])), (55, (.putfield 28, 3, 5, 5, 0, [])), (58, (.iconst 1, 1, 0, 0, 0, [])), (59, (.ireturn, 1, 0, 0, 0, []))]]
def zt_X8_tens : zm_T := [[(0, (.iload_n 0, 1, 0, 0, 0, [])), (1, (.ifCond .lt 19, 3, 20, 0, 0, [])), (4, (.iload_n 0, 1, 0, 0, 0, [])), (5, (.getstatic 9, 3, 0, 0, 0, [])), (8, (.arraylength, 1, 0, 0, 0, [])), (9, (.if_icmp .ge 11, 3, 20, 0, 0, [])), (12, (.getstatic 9, 3, 0, 0, 0, [])), (15, (.iload_n 0, 1, 0, 0, 0, []))],
  [(16, (.iaload, 1, 0, 0, 0, [])), (17, (.goto 4, 3, 21, 0, 0, [])), (20, (.iconst 1, 1, 0, 0, 0, [])), (21, (.ireturn, 1, 0, 0, 0, []))]]
def zt_X8_length : zm_T := [[(0, (.iload_n 0, 1, 0, 0, 0, [])), (1, (.sipush 1000, 3, 0, 0, 0, [])), (4, (.if_icmp .lt 16, 3, 20, 0, 0, [])), (7, (.iload_n 0, 1, 0, 0, 0, [])), (8, (.sipush 10000, 3, 0, 0, 0, [])), (11, (.if_icmp .lt 7, 3, 18, 0, 0, [])), (14, (.iconst 5, 1, 0, 0, 0, [])), (15, (.goto 4, 3, 19, 0, 0, []))],
  [(18, (.iconst 4, 1, 0, 0, 0, [])), (19, (.ireturn, 1, 0, 0, 0, [])), (20, (.iload_n 0, 1, 0, 0, 0, [])), (21, (.bipush 10, 2, 0, 0, 0, [])), (23, (.if_icmp .lt 15, 3, 38, 0, 0, [])), (26, (.iload_n 0, 1, 0, 0, 0, [])), (27, (.bipush 100, 2, 0, 0, 0, [])), (29, (.if_icmp .lt 7, 3, 36, 0, 0, []))],
  [(32, (.iconst 3, 1, 0, 0, 0, [])), (33, (.goto 4, 3, 37, 0, 0, [])), (36, (.iconst 2, 1, 0, 0, 0, [])), (37, (.ireturn, 1, 0, 0, 0, [])), (38, (.iload_n 0, 1, 0, 0, 0, [])), (39, (.iconst 1, 1, 0, 0, 0, [])), (40, (.if_icmp .lt 7, 3, 47, 0, 0, [])), (43, (.iconst 1, 1, 0, 0, 0, [])), (44, (.goto 4, 3, 48, 0, 0, [])), (47, (.iconst 0, 1, 0, 0, 0, []))],
  [(48, (.ireturn, 1, 0, 0, 0, []))]]
def zt_X8_isWord : zm_T := [[(0, (.iload_n 0, 1, 0, 0, 0, [])), (1, (.iconst 1, 1, 0, 0, 0, [])), (2, (.if_icmp .lt 11, 3, 13, 0, 0, [])), (5, (.iload_n 0, 1, 0, 0, 0, [])), (6, (.iconst 5, 1, 0, 0, 0, [])), (7, (.invokestatic 15, 3, 56, 1, 1, [])), (10, (.if_icmp .lt 5, 3, 15, 0, 0, [])), (13, (.iconst 0, 1, 0, 0, 0, [])), (14, (.ireturn, 1, 0, 0, 0, [])), (15, (.iload_n 0, 1, 0, 0, 0, []))],
  [(16, (.invokestatic 19, 3, 57, 1, 1, [])), (19, (.istore_n 2, 1, 0, 0, 0, [])), (20, (.iload_n 2, 1, 0, 0, 0, [])), (21, (.ifCond .le 30, 3, 51, 0, 0, [])), (24, (.iload_n 0, 1, 0, 0, 0, [])), (25, (.iload_n 2, 1, 0, 0, 0, [])), (26, (.invokestatic 22, 3, 60, 2, 1, [])), (29, (.bipush 10, 2, 0, 0, 0, [])), (31, (.irem, 1, 0, 0, 0, []))],
  [(32, (.istore_n 3, 1, 0, 0, 0, [])), (33, (.iload_n 3, 1, 0, 0, 0, [])), (34, (.iconst 1, 1, 0, 0, 0, [])), (35, (.if_icmp .lt 8, 3, 43, 0, 0, [])), (38, (.iload_n 3, 1, 0, 0, 0, [])), (39, (.iload_n 1, 1, 0, 0, 0, [])), (40, (.if_icmp .le 5, 3, 45, 0, 0, [])), (43, (.iconst 0, 1, 0, 0, 0, [])), (44, (.ireturn, 1, 0, 0, 0, [])), (45, (.iinc 2 (-1), 3, 0, 0, 0, []))],
  [(48, (.goto (-28), 3, 20, 0, 0, [])), (51, (.iconst 1, 1, 0, 0, 0, [])), (52, (.ireturn, 1, 0, 0, 0, []))]]
def zt_X8_letterAt : zm_T := [[(0, (.iload_n 0, 1, 0, 0, 0, [])), (1, (.iload_n 1, 1, 0, 0, 0, [])), (2, (.iconst 1, 1, 0, 0, 0, [])), (3, (.iadd, 1, 0, 0, 0, [])), (4, (.invokestatic 22, 3, 60, 2, 1, [])), (7, (.bipush 10, 2, 0, 0, 0, [])), (9, (.irem, 1, 0, 0, 0, [])), (10, (.ireturn, 1, 0, 0, 0, []))]]
def zt_X8_firstLetters : zm_T := [[(0, (.iload_n 0, 1, 0, 0, 0, [])), (1, (.iload_n 0, 1, 0, 0, 0, [])), (2, (.invokestatic 19, 3, 57, 1, 1, [])), (5, (.iload_n 1, 1, 0, 0, 0, [])), (6, (.isub, 1, 0, 0, 0, [])), (7, (.invokestatic 15, 3, 56, 1, 1, [])), (10, (.idiv, 1, 0, 0, 0, [])), (11, (.ireturn, 1, 0, 0, 0, []))]]
def zt_X8_lastLetters : zm_T := [[(0, (.iload_n 0, 1, 0, 0, 0, [])), (1, (.iload_n 1, 1, 0, 0, 0, [])), (2, (.invokestatic 15, 3, 56, 1, 1, [])), (5, (.irem, 1, 0, 0, 0, [])), (6, (.ireturn, 1, 0, 0, 0, []))]]
def zt_X8_grown : zm_T := [[(0, (.iload_n 0, 1, 0, 0, 0, [])), (1, (.sipush 10000, 3, 0, 0, 0, [])), (4, (.irem, 1, 0, 0, 0, [])), (5, (.bipush 10, 2, 0, 0, 0, [])), (7, (.imul, 1, 0, 0, 0, [])), (8, (.iload_n 1, 1, 0, 0, 0, [])), (9, (.iadd, 1, 0, 0, 0, [])), (10, (.ireturn, 1, 0, 0, 0, []))]]
def zt_X8_endsWith : zm_T := [[(0, (.iload_n 1, 1, 0, 0, 0, [])), (1, (.ifCond .le 19, 3, 20, 0, 0, [])), (4, (.iload_n 0, 1, 0, 0, 0, [])), (5, (.iload_n 1, 1, 0, 0, 0, [])), (6, (.invokestatic 19, 3, 57, 1, 1, [])), (9, (.invokestatic 26, 3, 61, 2, 1, [])), (12, (.iload_n 1, 1, 0, 0, 0, [])), (13, (.if_icmp .ne 7, 3, 20, 0, 0, []))],
  [(16, (.iconst 1, 1, 0, 0, 0, [])), (17, (.goto 4, 3, 21, 0, 0, [])), (20, (.iconst 0, 1, 0, 0, 0, [])), (21, (.ireturn, 1, 0, 0, 0, []))]]
def zt_X8_overlapBits : zm_T := [[(0, (.iload_n 1, 1, 0, 0, 0, [])), (1, (.invokestatic 19, 3, 57, 1, 1, [])), (4, (.istore_n 2, 1, 0, 0, 0, [])), (5, (.iload_n 0, 1, 0, 0, 0, [])), (6, (.invokestatic 19, 3, 57, 1, 1, [])), (9, (.iload_n 2, 1, 0, 0, 0, [])), (10, (.invokestatic 29, 3, 9998, 2, 1, [])), (13, (.istore_n 3, 1, 0, 0, 0, [])), (14, (.iconst 0, 1, 0, 0, 0, [])), (15, (.istore 4, 2, 0, 0, 0, []))],
  [(17, (.iconst 1, 1, 0, 0, 0, [])), (18, (.istore 5, 2, 0, 0, 0, [])), (20, (.iload 5, 2, 0, 0, 0, [])), (22, (.iload_n 3, 1, 0, 0, 0, [])), (23, (.if_icmp .gt 39, 3, 62, 0, 0, [])), (26, (.iload_n 0, 1, 0, 0, 0, [])), (27, (.iload 5, 2, 0, 0, 0, [])), (29, (.invokestatic 15, 3, 56, 1, 1, []))],
  [(32, (.irem, 1, 0, 0, 0, [])), (33, (.iload_n 1, 1, 0, 0, 0, [])), (34, (.iload_n 2, 1, 0, 0, 0, [])), (35, (.iload 5, 2, 0, 0, 0, [])), (37, (.isub, 1, 0, 0, 0, [])), (38, (.invokestatic 15, 3, 56, 1, 1, [])), (41, (.idiv, 1, 0, 0, 0, [])), (42, (.if_icmp .ne 14, 3, 56, 0, 0, [])), (45, (.iload 4, 2, 0, 0, 0, [])), (47, (.iconst 1, 1, 0, 0, 0, []))],
  [(48, (.iload 5, 2, 0, 0, 0, [])), (50, (.iconst 1, 1, 0, 0, 0, [])), (51, (.isub, 1, 0, 0, 0, [])), (52, (.ishl, 1, 0, 0, 0, [])), (53, (.ior, 1, 0, 0, 0, [])), (54, (.istore 4, 2, 0, 0, 0, [])), (56, (.iinc 5 1, 3, 0, 0, 0, [])), (59, (.goto (-39), 3, 20, 0, 0, [])), (62, (.iload 4, 2, 0, 0, 0, []))],
  [(64, (.ireturn, 1, 0, 0, 0, []))]]
def zt_X8_numberOn : zm_T := [[(0, (.iload_n 0, 1, 0, 0, 0, [])), (1, (.iload_n 1, 1, 0, 0, 0, [])), (2, (.invokestatic 34, 3, 64, 2, 1, [])), (5, (.istore_n 3, 1, 0, 0, 0, [])), (6, (.iconst 1, 1, 0, 0, 0, [])), (7, (.istore 4, 2, 0, 0, 0, [])), (9, (.iconst 0, 1, 0, 0, 0, [])), (10, (.istore 5, 2, 0, 0, 0, [])), (12, (.iconst 0, 1, 0, 0, 0, [])), (13, (.istore 6, 2, 0, 0, 0, [])), (15, (.iload 6, 2, 0, 0, 0, []))],
  [(17, (.iconst 5, 1, 0, 0, 0, [])), (18, (.if_icmp .ge 32, 3, 50, 0, 0, [])), (21, (.iload 4, 2, 0, 0, 0, [])), (23, (.iload_n 2, 1, 0, 0, 0, [])), (24, (.imul, 1, 0, 0, 0, [])), (25, (.istore 4, 2, 0, 0, 0, [])), (27, (.iload_n 3, 1, 0, 0, 0, [])), (28, (.iload 6, 2, 0, 0, 0, [])), (30, (.ishr, 1, 0, 0, 0, [])), (31, (.iconst 1, 1, 0, 0, 0, []))],
  [(32, (.iand, 1, 0, 0, 0, [])), (33, (.iconst 1, 1, 0, 0, 0, [])), (34, (.if_icmp .ne 10, 3, 44, 0, 0, [])), (37, (.iload 5, 2, 0, 0, 0, [])), (39, (.iload 4, 2, 0, 0, 0, [])), (41, (.iadd, 1, 0, 0, 0, [])), (42, (.istore 5, 2, 0, 0, 0, [])), (44, (.iinc 6 1, 3, 0, 0, 0, [])), (47, (.goto (-32), 3, 15, 0, 0, []))],
  [(50, (.iload 5, 2, 0, 0, 0, [])), (52, (.ireturn, 1, 0, 0, 0, []))]]
def zt_X8_standsIn : zm_T := [[(0, (.iload_n 0, 1, 0, 0, 0, [])), (1, (.invokestatic 19, 3, 57, 1, 1, [])), (4, (.invokestatic 15, 3, 56, 1, 1, [])), (7, (.istore_n 2, 1, 0, 0, 0, [])), (8, (.iload_n 1, 1, 0, 0, 0, [])), (9, (.invokestatic 19, 3, 57, 1, 1, [])), (12, (.iload_n 0, 1, 0, 0, 0, [])), (13, (.invokestatic 19, 3, 57, 1, 1, []))],
  [(16, (.isub, 1, 0, 0, 0, [])), (17, (.istore_n 3, 1, 0, 0, 0, [])), (18, (.iconst 0, 1, 0, 0, 0, [])), (19, (.istore 4, 2, 0, 0, 0, [])), (21, (.iload 4, 2, 0, 0, 0, [])), (23, (.iload_n 3, 1, 0, 0, 0, [])), (24, (.if_icmp .gt 24, 3, 48, 0, 0, [])), (27, (.iload_n 1, 1, 0, 0, 0, [])), (28, (.iload 4, 2, 0, 0, 0, [])), (30, (.invokestatic 15, 3, 56, 1, 1, []))],
  [(33, (.idiv, 1, 0, 0, 0, [])), (34, (.iload_n 2, 1, 0, 0, 0, [])), (35, (.irem, 1, 0, 0, 0, [])), (36, (.iload_n 0, 1, 0, 0, 0, [])), (37, (.if_icmp .ne 5, 3, 42, 0, 0, [])), (40, (.iconst 1, 1, 0, 0, 0, [])), (41, (.ireturn, 1, 0, 0, 0, [])), (42, (.iinc 4 1, 3, 0, 0, 0, [])), (45, (.goto (-24), 3, 21, 0, 0, []))],
  [(48, (.iconst 0, 1, 0, 0, 0, [])), (49, (.ireturn, 1, 0, 0, 0, []))]]
def zt_X8_clash : zm_T := [[(0, (.iload_n 0, 1, 0, 0, 0, [])), (1, (.iload_n 1, 1, 0, 0, 0, [])), (2, (.invokestatic 37, 3, 66, 2, 1, [])), (5, (.ifCond .ne 11, 3, 16, 0, 0, [])), (8, (.iload_n 1, 1, 0, 0, 0, [])), (9, (.iload_n 0, 1, 0, 0, 0, [])), (10, (.invokestatic 37, 3, 66, 2, 1, [])), (13, (.ifCond .eq 7, 3, 20, 0, 0, []))],
  [(16, (.iconst 1, 1, 0, 0, 0, [])), (17, (.goto 4, 3, 21, 0, 0, [])), (20, (.iconst 0, 1, 0, 0, 0, [])), (21, (.ireturn, 1, 0, 0, 0, []))]]
def zt_X8_oneOn : zm_T := [[(0, (.iload_n 0, 1, 0, 0, 0, [])), (1, (.iload_n 1, 1, 0, 0, 0, [])), (2, (.if_icmp .ge 9, 3, 11, 0, 0, [])), (5, (.iload_n 0, 1, 0, 0, 0, [])), (6, (.iconst 1, 1, 0, 0, 0, [])), (7, (.iadd, 1, 0, 0, 0, [])), (8, (.goto 4, 3, 12, 0, 0, [])), (11, (.iconst 1, 1, 0, 0, 0, [])), (12, (.ireturn, 1, 0, 0, 0, []))]]
def zt_X8_turned : zm_T := [[(0, (.iconst 0, 1, 0, 0, 0, [])), (1, (.istore_n 1, 1, 0, 0, 0, [])), (2, (.iload_n 0, 1, 0, 0, 0, [])), (3, (.invokestatic 19, 3, 57, 1, 1, [])), (6, (.iconst 1, 1, 0, 0, 0, [])), (7, (.isub, 1, 0, 0, 0, [])), (8, (.istore_n 2, 1, 0, 0, 0, [])), (9, (.iload_n 2, 1, 0, 0, 0, [])), (10, (.ifCond .lt 20, 3, 30, 0, 0, [])), (13, (.iload_n 1, 1, 0, 0, 0, [])), (14, (.bipush 10, 2, 0, 0, 0, []))],
  [(16, (.imul, 1, 0, 0, 0, [])), (17, (.iload_n 0, 1, 0, 0, 0, [])), (18, (.iload_n 2, 1, 0, 0, 0, [])), (19, (.invokestatic 41, 3, 59, 2, 1, [])), (22, (.iadd, 1, 0, 0, 0, [])), (23, (.istore_n 1, 1, 0, 0, 0, [])), (24, (.iinc 2 (-1), 3, 0, 0, 0, [])), (27, (.goto (-18), 3, 9, 0, 0, [])), (30, (.iload_n 1, 1, 0, 0, 0, [])), (31, (.ireturn, 1, 0, 0, 0, []))]]
def zt_X8_shifted : zm_T := [[(0, (.iconst 0, 1, 0, 0, 0, [])), (1, (.istore_n 2, 1, 0, 0, 0, [])), (2, (.iload_n 0, 1, 0, 0, 0, [])), (3, (.invokestatic 19, 3, 57, 1, 1, [])), (6, (.istore_n 3, 1, 0, 0, 0, [])), (7, (.iconst 0, 1, 0, 0, 0, [])), (8, (.istore 4, 2, 0, 0, 0, [])), (10, (.iload 4, 2, 0, 0, 0, [])), (12, (.iload_n 3, 1, 0, 0, 0, [])), (13, (.if_icmp .ge 25, 3, 38, 0, 0, []))],
  [(16, (.iload_n 2, 1, 0, 0, 0, [])), (17, (.bipush 10, 2, 0, 0, 0, [])), (19, (.imul, 1, 0, 0, 0, [])), (20, (.iload_n 0, 1, 0, 0, 0, [])), (21, (.iload 4, 2, 0, 0, 0, [])), (23, (.invokestatic 41, 3, 59, 2, 1, [])), (26, (.iload_n 1, 1, 0, 0, 0, [])), (27, (.invokestatic 44, 3, 68, 2, 1, [])), (30, (.iadd, 1, 0, 0, 0, [])), (31, (.istore_n 2, 1, 0, 0, 0, []))],
  [(32, (.iinc 4 1, 3, 0, 0, 0, [])), (35, (.goto (-25), 3, 10, 0, 0, [])), (38, (.iload_n 2, 1, 0, 0, 0, [])), (39, (.ireturn, 1, 0, 0, 0, []))]]
def zt_X8_doubled : zm_T := [[(0, (.iload_n 0, 1, 0, 0, 0, [])), (1, (.iconst 0, 1, 0, 0, 0, [])), (2, (.invokestatic 41, 3, 59, 2, 1, [])), (5, (.iload_n 0, 1, 0, 0, 0, [])), (6, (.invokestatic 47, 3, 73, 2, 1, [])), (9, (.ireturn, 1, 0, 0, 0, []))]]
def zt_X8_answering : zm_T := [[(0, (.iload_n 0, 1, 0, 0, 0, [])), (1, (.invokestatic 19, 3, 57, 1, 1, [])), (4, (.iconst 1, 1, 0, 0, 0, [])), (5, (.if_icmp .le 11, 3, 16, 0, 0, [])), (8, (.iload_n 0, 1, 0, 0, 0, [])), (9, (.iconst 1, 1, 0, 0, 0, [])), (10, (.invokestatic 41, 3, 59, 2, 1, [])), (13, (.goto 4, 3, 17, 0, 0, []))],
  [(16, (.iload_n 0, 1, 0, 0, 0, [])), (17, (.istore_n 2, 1, 0, 0, 0, [])), (18, (.iload_n 2, 1, 0, 0, 0, [])), (19, (.iload_n 1, 1, 0, 0, 0, [])), (20, (.invokestatic 44, 3, 68, 2, 1, [])), (23, (.iload_n 0, 1, 0, 0, 0, [])), (24, (.invokestatic 47, 3, 73, 2, 1, [])), (27, (.ireturn, 1, 0, 0, 0, []))]]
def zt_X8_ledBy : zm_T := [[(0, (.iload_n 0, 1, 0, 0, 0, [])), (1, (.iload_n 1, 1, 0, 0, 0, [])), (2, (.invokestatic 19, 3, 57, 1, 1, [])), (5, (.iconst 1, 1, 0, 0, 0, [])), (6, (.isub, 1, 0, 0, 0, [])), (7, (.invokestatic 15, 3, 56, 1, 1, [])), (10, (.imul, 1, 0, 0, 0, [])), (11, (.iload_n 1, 1, 0, 0, 0, [])), (12, (.bipush 10, 2, 0, 0, 0, [])), (14, (.idiv, 1, 0, 0, 0, [])), (15, (.iadd, 1, 0, 0, 0, []))],
  [(16, (.ireturn, 1, 0, 0, 0, []))]]
def zt_X8_least : zm_T := [[(0, (.iload_n 0, 1, 0, 0, 0, [])), (1, (.invokestatic 15, 3, 56, 1, 1, [])), (4, (.bipush 9, 2, 0, 0, 0, [])), (6, (.idiv, 1, 0, 0, 0, [])), (7, (.ireturn, 1, 0, 0, 0, []))]]
def zt_X8_following : zm_T := [[(0, (.iload_n 0, 1, 0, 0, 0, [])), (1, (.istore_n 2, 1, 0, 0, 0, [])), (2, (.iload_n 0, 1, 0, 0, 0, [])), (3, (.invokestatic 19, 3, 57, 1, 1, [])), (6, (.istore_n 3, 1, 0, 0, 0, [])), (7, (.iconst 0, 1, 0, 0, 0, [])), (8, (.istore 4, 2, 0, 0, 0, [])), (10, (.iload 4, 2, 0, 0, 0, [])), (12, (.iload_n 3, 1, 0, 0, 0, [])), (13, (.if_icmp .ge 48, 3, 61, 0, 0, []))],
  [(16, (.iload_n 2, 1, 0, 0, 0, [])), (17, (.iload 4, 2, 0, 0, 0, [])), (19, (.invokestatic 15, 3, 56, 1, 1, [])), (22, (.idiv, 1, 0, 0, 0, [])), (23, (.bipush 10, 2, 0, 0, 0, [])), (25, (.irem, 1, 0, 0, 0, [])), (26, (.istore 5, 2, 0, 0, 0, [])), (28, (.iload 5, 2, 0, 0, 0, [])), (30, (.iload_n 1, 1, 0, 0, 0, [])), (31, (.if_icmp .ge 11, 3, 42, 0, 0, []))],
  [(34, (.iload_n 2, 1, 0, 0, 0, [])), (35, (.iload 4, 2, 0, 0, 0, [])), (37, (.invokestatic 15, 3, 56, 1, 1, [])), (40, (.iadd, 1, 0, 0, 0, [])), (41, (.ireturn, 1, 0, 0, 0, [])), (42, (.iload_n 2, 1, 0, 0, 0, [])), (43, (.iload 5, 2, 0, 0, 0, [])), (45, (.iconst 1, 1, 0, 0, 0, [])), (46, (.isub, 1, 0, 0, 0, [])), (47, (.iload 4, 2, 0, 0, 0, []))],
  [(49, (.invokestatic 15, 3, 56, 1, 1, [])), (52, (.imul, 1, 0, 0, 0, [])), (53, (.isub, 1, 0, 0, 0, [])), (54, (.istore_n 2, 1, 0, 0, 0, [])), (55, (.iinc 4 1, 3, 0, 0, 0, [])), (58, (.goto (-48), 3, 10, 0, 0, [])), (61, (.iconst 0, 1, 0, 0, 0, [])), (62, (.ireturn, 1, 0, 0, 0, []))]]
def zt_X9_sides : zm_T := [[(0, (.iload_n 1, 1, 0, 0, 0, [])), (1, (.iconst 2, 1, 0, 0, 0, [])), (2, (.if_icmp .eq 11, 3, 13, 0, 0, [])), (5, (.iload_n 1, 1, 0, 0, 0, [])), (6, (.iconst 3, 1, 0, 0, 0, [])), (7, (.if_icmp .eq 6, 3, 13, 0, 0, [])), (10, (.bipush (-2), 2, 0, 0, 0, [])), (12, (.ireturn, 1, 0, 0, 0, [])), (13, (.iload_n 1, 1, 0, 0, 0, [])), (14, (.iconst 2, 1, 0, 0, 0, [])), (15, (.if_icmp .ne 16, 3, 31, 0, 0, []))],
  [(18, (.aload_n 0, 1, 0, 0, 0, [])), (19, (.getfield 12, 3, 6, 0, 0, [])), (22, (.invokevirtual 77, 0, 5, 1, 1, [])), (25, (.ifCond .eq 6, 3, 31, 0, 0, [])), (28, (.bipush (-3), 2, 0, 0, 0, [])), (30, (.ireturn, 1, 0, 0, 0, [])), (31, (.aload_n 0, 1, 0, 0, 0, []))],
  [(32, (.getfield 12, 3, 6, 0, 0, [])), (35, (.getfield 81, 3, 0, 0, 0, [])), (38, (.istore_n 2, 1, 0, 0, 0, [])), (39, (.aload_n 0, 1, 0, 0, 0, [])), (40, (.getfield 12, 3, 6, 0, 0, [])), (43, (.iload_n 1, 1, 0, 0, 0, [])), (44, (.putfield 81, 3, 0, 0, 0, [])), (47, (.iload_n 2, 1, 0, 0, 0, []))],
  [(48, (.ireturn, 1, 0, 0, 0, []))]]
def zt_X9_feed : zm_T := [[(0, (.iload_n 1, 1, 0, 0, 0, [])), (1, (.iconst 1, 1, 0, 0, 0, [])), (2, (.if_icmp .lt 9, 3, 11, 0, 0, [])), (5, (.iload_n 1, 1, 0, 0, 0, [])), (6, (.bipush 127, 2, 0, 0, 0, [])), (8, (.if_icmp .le 6, 3, 14, 0, 0, [])), (11, (.bipush (-2), 2, 0, 0, 0, [])), (13, (.ireturn, 1, 0, 0, 0, [])), (14, (.aload_n 0, 1, 0, 0, 0, [])), (15, (.getfield 24, 3, 6, 3, 0, []))],
  [(18, (.iload_n 1, 1, 0, 0, 0, [])), (19, (.invokevirtual 85, 5, 51, 2, 1, [])), (22, (.ifCond .eq 13, 3, 35, 0, 0, [])), (25, (.aload_n 0, 1, 0, 0, 0, [])), (26, (.getfield 24, 3, 6, 3, 0, [])), (29, (.getfield 89, 3, 5, 1, 0, []))],
  [(32, (.goto 5, 3, 37, 0, 0, [])), (35, (.bipush (-4), 2, 0, 0, 0, [])), (37, (.ireturn, 1, 0, 0, 0, []))]]
def zt_X9_words : zm_T := [[(0, (.aload_n 0, 1, 0, 0, 0, [])), (1, (.getfield 24, 3, 6, 3, 0, [])), (4, (.aload_n 0, 1, 0, 0, 0, [])), (5, (.getfield 12, 3, 6, 0, 0, [])), (8, (.getfield 81, 3, 0, 0, 0, [])), (11, (.invokevirtual 92, 5, 52, 2, 1, [])), (14, (.istore_n 1, 1, 0, 0, 0, [])), (15, (.aload_n 0, 1, 0, 0, 0, []))],
  [(16, (.getfield 24, 3, 6, 3, 0, [])), (19, (.iconst 0, 1, 0, 0, 0, [])), (20, (.putfield 89, 3, 5, 1, 0, [])), (23, (.iload_n 1, 1, 0, 0, 0, [])), (24, (.iconst (-1), 1, 0, 0, 0, [])), (25, (.if_icmp .eq 8, 3, 33, 0, 0, [])), (28, (.bipush (-100), 2, 0, 0, 0, [])), (30, (.iload_n 1, 1, 0, 0, 0, [])), (31, (.isub, 1, 0, 0, 0, []))],
  [(32, (.ireturn, 1, 0, 0, 0, [])), (33, (.aload_n 0, 1, 0, 0, 0, [])), (34, (.getfield 12, 3, 6, 0, 0, [])), (37, (.getfield 96, 3, 0, 2, 0, [])), (40, (.aload_n 0, 1, 0, 0, 0, [])), (41, (.getfield 24, 3, 6, 3, 0, [])), (44, (.getfield 99, 3, 5, 3, 0, [])), (47, (.iadd, 1, 0, 0, 0, []))],
  [(48, (.bipush 6, 2, 0, 0, 0, [])), (50, (.if_icmp .le 6, 3, 56, 0, 0, [])), (53, (.bipush (-4), 2, 0, 0, 0, [])), (55, (.ireturn, 1, 0, 0, 0, [])), (56, (.iconst 0, 1, 0, 0, 0, [])), (57, (.istore_n 2, 1, 0, 0, 0, [])), (58, (.iload_n 2, 1, 0, 0, 0, [])), (59, (.aload_n 0, 1, 0, 0, 0, [])), (60, (.getfield 24, 3, 6, 3, 0, [])), (63, (.getfield 99, 3, 5, 3, 0, []))],
  [(66, (.if_icmp .ge 31, 3, 97, 0, 0, [])), (69, (.iload_n 2, 1, 0, 0, 0, [])), (70, (.bipush 6, 2, 0, 0, 0, [])), (72, (.if_icmp .ge 25, 3, 97, 0, 0, [])), (75, (.aload_n 0, 1, 0, 0, 0, [])), (76, (.getfield 12, 3, 6, 0, 0, [])), (79, (.aload_n 0, 1, 0, 0, 0, []))],
  [(80, (.getfield 24, 3, 6, 3, 0, [])), (83, (.getfield 102, 3, 5, 2, 0, [])), (86, (.iload_n 2, 1, 0, 0, 0, [])), (87, (.iaload, 1, 0, 0, 0, [])), (88, (.invokevirtual 105, 0, 4, 2, 0, [])), (91, (.iinc 2 1, 3, 0, 0, 0, [])), (94, (.goto (-36), 3, 58, 0, 0, []))],
  [(97, (.aload_n 0, 1, 0, 0, 0, [])), (98, (.getfield 12, 3, 6, 0, 0, [])), (101, (.getfield 96, 3, 0, 2, 0, [])), (104, (.ireturn, 1, 0, 0, 0, []))]]
def zt_X9_becomes : zm_T := [[(0, (.aload_n 0, 1, 0, 0, 0, [])), (1, (.getfield 12, 3, 6, 0, 0, [])), (4, (.iload_n 1, 1, 0, 0, 0, [])), (5, (.invokevirtual 109, 0, 1, 2, 1, [])), (8, (.ifCond .ne 5, 3, 13, 0, 0, [])), (11, (.iconst (-1), 1, 0, 0, 0, [])), (12, (.ireturn, 1, 0, 0, 0, [])), (13, (.iload_n 2, 1, 0, 0, 0, [])), (14, (.aload_n 0, 1, 0, 0, 0, [])), (15, (.getfield 12, 3, 6, 0, 0, []))],
  [(18, (.getfield 81, 3, 0, 0, 0, [])), (21, (.invokestatic 112, 3, 58, 2, 1, [])), (24, (.ifCond .ne 6, 3, 30, 0, 0, [])), (27, (.bipush (-2), 2, 0, 0, 0, [])), (29, (.ireturn, 1, 0, 0, 0, [])), (30, (.aload_n 0, 1, 0, 0, 0, [])), (31, (.getfield 12, 3, 6, 0, 0, []))],
  [(34, (.getfield 118, 3, 0, 1, 0, [])), (37, (.iload_n 1, 1, 0, 0, 0, [])), (38, (.iaload, 1, 0, 0, 0, [])), (39, (.istore_n 3, 1, 0, 0, 0, [])), (40, (.aload_n 0, 1, 0, 0, 0, [])), (41, (.getfield 12, 3, 6, 0, 0, [])), (44, (.getfield 118, 3, 0, 1, 0, [])), (47, (.iload_n 1, 1, 0, 0, 0, []))],
  [(48, (.iload_n 2, 1, 0, 0, 0, [])), (49, (.iastore, 1, 0, 0, 0, [])), (50, (.iload_n 3, 1, 0, 0, 0, [])), (51, (.ireturn, 1, 0, 0, 0, []))]]
def zt_X9_of : zm_T := [[(0, (.aload_n 0, 1, 0, 0, 0, [])), (1, (.getfield 12, 3, 6, 0, 0, [])), (4, (.iload_n 1, 1, 0, 0, 0, [])), (5, (.invokevirtual 109, 0, 1, 2, 1, [])), (8, (.ifCond .ne 5, 3, 13, 0, 0, [])), (11, (.iconst (-1), 1, 0, 0, 0, [])), (12, (.ireturn, 1, 0, 0, 0, [])), (13, (.aload_n 0, 1, 0, 0, 0, [])), (14, (.getfield 12, 3, 6, 0, 0, []))],
  [(17, (.iload_n 1, 1, 0, 0, 0, [])), (18, (.invokevirtual 121, 0, 3, 2, 1, [])), (21, (.istore_n 3, 1, 0, 0, 0, [])), (22, (.iload_n 2, 1, 0, 0, 0, [])), (23, (.tableswitch 61 0 3 #[29, 31, 36, 49], 29, 84, 0, 0, [(0, 52), (1, 54), (2, 59), (3, 72)]))],
  [],
  [(52, (.iload_n 3, 1, 0, 0, 0, [])), (53, (.ireturn, 1, 0, 0, 0, [])), (54, (.iload_n 3, 1, 0, 0, 0, [])), (55, (.invokestatic 124, 3, 57, 1, 1, [])), (58, (.ireturn, 1, 0, 0, 0, [])), (59, (.iload_n 3, 1, 0, 0, 0, [])), (60, (.iload_n 3, 1, 0, 0, 0, [])), (61, (.aload_n 0, 1, 0, 0, 0, [])), (62, (.getfield 12, 3, 6, 0, 0, []))],
  [(65, (.getfield 81, 3, 0, 0, 0, [])), (68, (.invokestatic 127, 3, 65, 3, 1, [])), (71, (.ireturn, 1, 0, 0, 0, [])), (72, (.iload_n 3, 1, 0, 0, 0, [])), (73, (.aload_n 0, 1, 0, 0, 0, [])), (74, (.getfield 12, 3, 6, 0, 0, [])), (77, (.getfield 81, 3, 0, 0, 0, []))],
  [(80, (.invokestatic 131, 3, 37, 2, 1, [])), (83, (.ireturn, 1, 0, 0, 0, [])), (84, (.iconst (-1), 1, 0, 0, 0, [])), (85, (.ireturn, 1, 0, 0, 0, []))]]
def zt_X9_overlaps : zm_T := [[(0, (.aload_n 0, 1, 0, 0, 0, [])), (1, (.getfield 12, 3, 6, 0, 0, [])), (4, (.iload_n 1, 1, 0, 0, 0, [])), (5, (.invokevirtual 109, 0, 1, 2, 1, [])), (8, (.ifCond .eq 14, 3, 22, 0, 0, [])), (11, (.aload_n 0, 1, 0, 0, 0, [])), (12, (.getfield 12, 3, 6, 0, 0, [])), (15, (.iload_n 2, 1, 0, 0, 0, []))],
  [(16, (.invokevirtual 109, 0, 1, 2, 1, [])), (19, (.ifCond .ne 5, 3, 24, 0, 0, [])), (22, (.iconst (-1), 1, 0, 0, 0, [])), (23, (.ireturn, 1, 0, 0, 0, [])), (24, (.aload_n 0, 1, 0, 0, 0, [])), (25, (.getfield 12, 3, 6, 0, 0, [])), (28, (.iload_n 1, 1, 0, 0, 0, [])), (29, (.invokevirtual 121, 0, 3, 2, 1, []))],
  [(32, (.aload_n 0, 1, 0, 0, 0, [])), (33, (.getfield 12, 3, 6, 0, 0, [])), (36, (.iload_n 2, 1, 0, 0, 0, [])), (37, (.invokevirtual 121, 0, 3, 2, 1, [])), (40, (.invokestatic 137, 3, 64, 2, 1, [])), (43, (.ireturn, 1, 0, 0, 0, []))]]
def zt_X9_number : zm_T := [[(0, (.aload_n 0, 1, 0, 0, 0, [])), (1, (.getfield 12, 3, 6, 0, 0, [])), (4, (.iload_n 1, 1, 0, 0, 0, [])), (5, (.invokevirtual 109, 0, 1, 2, 1, [])), (8, (.ifCond .eq 14, 3, 22, 0, 0, [])), (11, (.aload_n 0, 1, 0, 0, 0, [])), (12, (.getfield 12, 3, 6, 0, 0, [])), (15, (.iload_n 2, 1, 0, 0, 0, []))],
  [(16, (.invokevirtual 109, 0, 1, 2, 1, [])), (19, (.ifCond .ne 5, 3, 24, 0, 0, [])), (22, (.iconst (-1), 1, 0, 0, 0, [])), (23, (.ireturn, 1, 0, 0, 0, [])), (24, (.aload_n 0, 1, 0, 0, 0, [])), (25, (.getfield 12, 3, 6, 0, 0, [])), (28, (.iload_n 1, 1, 0, 0, 0, [])), (29, (.invokevirtual 121, 0, 3, 2, 1, []))],
  [(32, (.aload_n 0, 1, 0, 0, 0, [])), (33, (.getfield 12, 3, 6, 0, 0, [])), (36, (.iload_n 2, 1, 0, 0, 0, [])), (37, (.invokevirtual 121, 0, 3, 2, 1, [])), (40, (.aload_n 0, 1, 0, 0, 0, [])), (41, (.getfield 12, 3, 6, 0, 0, [])), (44, (.getfield 81, 3, 0, 0, 0, [])), (47, (.invokestatic 127, 3, 65, 3, 1, []))],
  [(50, (.ireturn, 1, 0, 0, 0, []))]]
def zt_X9_isIn : zm_T := [[(0, (.aload_n 0, 1, 0, 0, 0, [])), (1, (.getfield 12, 3, 6, 0, 0, [])), (4, (.iload_n 1, 1, 0, 0, 0, [])), (5, (.invokevirtual 109, 0, 1, 2, 1, [])), (8, (.ifCond .eq 14, 3, 22, 0, 0, [])), (11, (.aload_n 0, 1, 0, 0, 0, [])), (12, (.getfield 12, 3, 6, 0, 0, [])), (15, (.iload_n 2, 1, 0, 0, 0, []))],
  [(16, (.invokevirtual 109, 0, 1, 2, 1, [])), (19, (.ifCond .ne 5, 3, 24, 0, 0, [])), (22, (.iconst (-1), 1, 0, 0, 0, [])), (23, (.ireturn, 1, 0, 0, 0, [])), (24, (.aload_n 0, 1, 0, 0, 0, [])), (25, (.getfield 12, 3, 6, 0, 0, [])), (28, (.iload_n 1, 1, 0, 0, 0, [])), (29, (.invokevirtual 121, 0, 3, 2, 1, []))],
  [(32, (.aload_n 0, 1, 0, 0, 0, [])), (33, (.getfield 12, 3, 6, 0, 0, [])), (36, (.iload_n 2, 1, 0, 0, 0, [])), (37, (.invokevirtual 121, 0, 3, 2, 1, [])), (40, (.invokestatic 140, 3, 66, 2, 1, [])), (43, (.ifCond .eq 7, 3, 50, 0, 0, [])), (46, (.iconst 1, 1, 0, 0, 0, [])), (47, (.goto 4, 3, 51, 0, 0, []))],
  [(50, (.iconst 0, 1, 0, 0, 0, [])), (51, (.ireturn, 1, 0, 0, 0, []))]]
def zt_X9_chance : zm_T := [[(0, (.aload_n 0, 1, 0, 0, 0, [])), (1, (.getfield 12, 3, 6, 0, 0, [])), (4, (.iload_n 1, 1, 0, 0, 0, [])), (5, (.invokevirtual 109, 0, 1, 2, 1, [])), (8, (.ifCond .eq 21, 3, 29, 0, 0, [])), (11, (.aload_n 0, 1, 0, 0, 0, [])), (12, (.getfield 12, 3, 6, 0, 0, [])), (15, (.iload_n 2, 1, 0, 0, 0, []))],
  [(16, (.invokevirtual 109, 0, 1, 2, 1, [])), (19, (.ifCond .eq 10, 3, 29, 0, 0, [])), (22, (.iload_n 3, 1, 0, 0, 0, [])), (23, (.invokestatic 143, 3, 31, 1, 1, [])), (26, (.ifCond .ne 7, 3, 33, 0, 0, [])), (29, (.ldc2_w 148, 0, 0, 0, 0, [(-9223372036854775808, 0)]))],
  [(32, (.lreturn, 1, 0, 0, 0, [])), (33, (.aload_n 0, 1, 0, 0, 0, [])), (34, (.getfield 12, 3, 6, 0, 0, [])), (37, (.iload_n 1, 1, 0, 0, 0, [])), (38, (.invokevirtual 121, 0, 3, 2, 1, [])), (41, (.aload_n 0, 1, 0, 0, 0, [])), (42, (.getfield 12, 3, 6, 0, 0, [])), (45, (.iload_n 2, 1, 0, 0, 0, [])), (46, (.invokevirtual 121, 0, 3, 2, 1, []))],
  [(49, (.aload_n 0, 1, 0, 0, 0, [])), (50, (.getfield 12, 3, 6, 0, 0, [])), (53, (.getfield 81, 3, 0, 0, 0, [])), (56, (.iload_n 3, 1, 0, 0, 0, [])), (57, (.invokestatic 150, 3, 35, 4, 2, [])), (60, (.lreturn, 1, 0, 0, 0, []))]]
def zt_X9_answered : zm_T := [[(0, (.aload_n 0, 1, 0, 0, 0, [])), (1, (.getfield 12, 3, 6, 0, 0, [])), (4, (.iload_n 1, 1, 0, 0, 0, [])), (5, (.invokevirtual 109, 0, 1, 2, 1, [])), (8, (.ifCond .eq 10, 3, 18, 0, 0, [])), (11, (.iload_n 2, 1, 0, 0, 0, [])), (12, (.invokestatic 143, 3, 31, 1, 1, [])), (15, (.ifCond .ne 7, 3, 22, 0, 0, []))],
  [(18, (.ldc2_w 148, 0, 0, 0, 0, [(-9223372036854775808, 0)])), (21, (.lreturn, 1, 0, 0, 0, [])), (22, (.aload_n 0, 1, 0, 0, 0, [])), (23, (.getfield 12, 3, 6, 0, 0, [])), (26, (.iload_n 1, 1, 0, 0, 0, [])), (27, (.invokevirtual 121, 0, 3, 2, 1, [])), (30, (.istore_n 3, 1, 0, 0, 0, [])), (31, (.iload_n 3, 1, 0, 0, 0, []))],
  [(32, (.aload_n 0, 1, 0, 0, 0, [])), (33, (.getfield 12, 3, 6, 0, 0, [])), (36, (.getfield 81, 3, 0, 0, 0, [])), (39, (.invokestatic 131, 3, 37, 2, 1, [])), (42, (.iload_n 3, 1, 0, 0, 0, [])), (43, (.aload_n 0, 1, 0, 0, 0, [])), (44, (.getfield 12, 3, 6, 0, 0, [])), (47, (.getfield 81, 3, 0, 0, 0, []))],
  [(50, (.iload_n 2, 1, 0, 0, 0, [])), (51, (.invokestatic 150, 3, 35, 4, 2, [])), (54, (.lreturn, 1, 0, 0, 0, []))]]
def zt_X9_trail : zm_T := [[(0, (.aload_n 0, 1, 0, 0, 0, [])), (1, (.getfield 12, 3, 6, 0, 0, [])), (4, (.iload_n 1, 1, 0, 0, 0, [])), (5, (.invokevirtual 109, 0, 1, 2, 1, [])), (8, (.ifCond .eq 12, 3, 20, 0, 0, [])), (11, (.iload_n 2, 1, 0, 0, 0, [])), (12, (.ifCond .lt 8, 3, 20, 0, 0, [])), (15, (.iload_n 2, 1, 0, 0, 0, []))],
  [(16, (.iconst 1, 1, 0, 0, 0, [])), (17, (.if_icmp .le 5, 3, 22, 0, 0, [])), (20, (.iconst (-1), 1, 0, 0, 0, [])), (21, (.ireturn, 1, 0, 0, 0, [])), (22, (.aload_n 0, 1, 0, 0, 0, [])), (23, (.aload_n 0, 1, 0, 0, 0, [])), (24, (.getfield 12, 3, 6, 0, 0, [])), (27, (.iload_n 1, 1, 0, 0, 0, [])), (28, (.invokevirtual 121, 0, 3, 2, 1, [])), (31, (.iload_n 2, 1, 0, 0, 0, []))],
  [(32, (.iconst 1, 1, 0, 0, 0, [])), (33, (.if_icmp .ne 7, 3, 40, 0, 0, [])), (36, (.iconst 1, 1, 0, 0, 0, [])), (37, (.goto 4, 3, 41, 0, 0, [])), (40, (.iconst 0, 1, 0, 0, 0, [])), (41, (.invokevirtual 154, 6, 116, 3, 1, [])), (44, (.ireturn, 1, 0, 0, 0, []))]]
def zt_X9_ring : zm_T := [[(0, (.aload_n 0, 1, 0, 0, 0, [])), (1, (.getfield 57, 3, 6, 10, 0, [])), (4, (.aload_n 0, 1, 0, 0, 0, [])), (5, (.getfield 12, 3, 6, 0, 0, [])), (8, (.invokevirtual 158, 3, 39, 2, 1, [])), (11, (.istore_n 2, 1, 0, 0, 0, [])), (12, (.iload_n 2, 1, 0, 0, 0, [])), (13, (.ifCond .eq 13, 3, 26, 0, 0, []))],
  [(16, (.iload_n 1, 1, 0, 0, 0, [])), (17, (.iconst (-1), 1, 0, 0, 0, [])), (18, (.if_icmp .lt 8, 3, 26, 0, 0, [])), (21, (.iload_n 1, 1, 0, 0, 0, [])), (22, (.iload_n 2, 1, 0, 0, 0, [])), (23, (.if_icmp .lt 6, 3, 29, 0, 0, [])), (26, (.bipush (-5), 2, 0, 0, 0, [])), (28, (.ireturn, 1, 0, 0, 0, [])), (29, (.iload_n 1, 1, 0, 0, 0, [])), (30, (.iconst (-1), 1, 0, 0, 0, [])), (31, (.if_icmp .ne 7, 3, 38, 0, 0, []))],
  [(34, (.iload_n 2, 1, 0, 0, 0, [])), (35, (.goto 11, 3, 46, 0, 0, [])), (38, (.aload_n 0, 1, 0, 0, 0, [])), (39, (.getfield 57, 3, 6, 10, 0, [])), (42, (.iload_n 1, 1, 0, 0, 0, [])), (43, (.invokevirtual 162, 3, 38, 2, 1, [])), (46, (.ireturn, 1, 0, 0, 0, []))]]
def zt_X9_field : zm_T := [[(0, (.aload_n 0, 1, 0, 0, 0, [])), (1, (.iload_n 1, 1, 0, 0, 0, [])), (2, (.invokevirtual 163, 6, 117, 2, 1, [])), (5, (.ifCond .eq 22, 3, 27, 0, 0, [])), (8, (.aload_n 0, 1, 0, 0, 0, [])), (9, (.getfield 12, 3, 6, 0, 0, [])), (12, (.iload_n 1, 1, 0, 0, 0, [])), (13, (.iload_n 2, 1, 0, 0, 0, [])), (14, (.invokevirtual 166, 0, 7, 3, 1, []))],
  [(17, (.ifCond .eq 10, 3, 27, 0, 0, [])), (20, (.iload_n 3, 1, 0, 0, 0, [])), (21, (.invokestatic 143, 3, 31, 1, 1, [])), (24, (.ifCond .ne 7, 3, 31, 0, 0, [])), (27, (.ldc2_w 148, 0, 0, 0, 0, [(-9223372036854775808, 0)])), (30, (.lreturn, 1, 0, 0, 0, [])), (31, (.aload_n 0, 1, 0, 0, 0, []))],
  [(32, (.getfield 50, 3, 6, 9, 0, [])), (35, (.iload_n 1, 1, 0, 0, 0, [])), (36, (.iload_n 2, 1, 0, 0, 0, [])), (37, (.invokestatic 169, 3, 118, 2, 1, [])), (40, (.iload_n 3, 1, 0, 0, 0, [])), (41, (.invokevirtual 172, 2, 22, 3, 2, [])), (44, (.lreturn, 1, 0, 0, 0, []))]]
def zt_X9_mean : zm_T := [[(0, (.aload_n 0, 1, 0, 0, 0, [])), (1, (.iload_n 1, 1, 0, 0, 0, [])), (2, (.invokevirtual 163, 6, 117, 2, 1, [])), (5, (.ifCond .eq 10, 3, 15, 0, 0, [])), (8, (.iload_n 2, 1, 0, 0, 0, [])), (9, (.invokestatic 143, 3, 31, 1, 1, [])), (12, (.ifCond .ne 7, 3, 19, 0, 0, [])), (15, (.ldc2_w 148, 0, 0, 0, 0, [(-9223372036854775808, 0)]))],
  [(18, (.lreturn, 1, 0, 0, 0, [])), (19, (.aload_n 0, 1, 0, 0, 0, [])), (20, (.getfield 50, 3, 6, 9, 0, [])), (23, (.iload_n 2, 1, 0, 0, 0, [])), (24, (.invokevirtual 175, 2, 23, 2, 2, [])), (27, (.lreturn, 1, 0, 0, 0, []))]]
def zt_X9_within : zm_T := [[(0, (.aload_n 0, 1, 0, 0, 0, [])), (1, (.getfield 12, 3, 6, 0, 0, [])), (4, (.iload_n 1, 1, 0, 0, 0, [])), (5, (.invokevirtual 179, 0, 6, 2, 1, [])), (8, (.ifCond .eq 15, 3, 23, 0, 0, [])), (11, (.aload_n 0, 1, 0, 0, 0, [])), (12, (.getfield 12, 3, 6, 0, 0, [])), (15, (.iload_n 1, 1, 0, 0, 0, []))],
  [(16, (.iload_n 2, 1, 0, 0, 0, [])), (17, (.invokevirtual 166, 0, 7, 3, 1, [])), (20, (.ifCond .ne 5, 3, 25, 0, 0, [])), (23, (.iconst (-1), 1, 0, 0, 0, [])), (24, (.ireturn, 1, 0, 0, 0, [])), (25, (.iload_n 1, 1, 0, 0, 0, [])), (26, (.invokestatic 182, 3, 208, 1, 1, [])), (29, (.iconst 4, 1, 0, 0, 0, [])), (30, (.if_icmp .gt 13, 3, 43, 0, 0, []))],
  [(33, (.iload_n 3, 1, 0, 0, 0, [])), (34, (.ifCond .lt 9, 3, 43, 0, 0, [])), (37, (.iload_n 3, 1, 0, 0, 0, [])), (38, (.bipush 12, 2, 0, 0, 0, [])), (40, (.if_icmp .le 6, 3, 46, 0, 0, [])), (43, (.bipush (-2), 2, 0, 0, 0, [])), (45, (.ireturn, 1, 0, 0, 0, [])), (46, (.aload_n 0, 1, 0, 0, 0, [])), (47, (.getfield 50, 3, 6, 9, 0, []))],
  [(50, (.aload_n 0, 1, 0, 0, 0, [])), (51, (.getfield 12, 3, 6, 0, 0, [])), (54, (.iload_n 1, 1, 0, 0, 0, [])), (55, (.invokevirtual 187, 2, 20, 3, 0, [])), (58, (.aload_n 0, 1, 0, 0, 0, [])), (59, (.getfield 50, 3, 6, 9, 0, [])), (62, (.invokevirtual 190, 2, 21, 1, 1, []))],
  [(65, (.ifCond .eq 6, 3, 71, 0, 0, [])), (68, (.bipush (-3), 2, 0, 0, 0, [])), (70, (.ireturn, 1, 0, 0, 0, [])), (71, (.aload_n 0, 1, 0, 0, 0, [])), (72, (.getfield 50, 3, 6, 9, 0, [])), (75, (.iload_n 1, 1, 0, 0, 0, [])), (76, (.iload_n 2, 1, 0, 0, 0, [])), (77, (.invokestatic 169, 3, 118, 2, 1, []))],
  [(80, (.iload_n 3, 1, 0, 0, 0, [])), (81, (.invokevirtual 193, 2, 28, 3, 1, [])), (84, (.ireturn, 1, 0, 0, 0, []))]]
def zt_X9_cast : zm_T := [[(0, (.iload_n 1, 1, 0, 0, 0, [])), (1, (.iconst 1, 1, 0, 0, 0, [])), (2, (.if_icmp .lt 14, 3, 16, 0, 0, [])), (5, (.iload_n 1, 1, 0, 0, 0, [])), (6, (.aload_n 0, 1, 0, 0, 0, [])), (7, (.getfield 12, 3, 6, 0, 0, [])), (10, (.getfield 81, 3, 0, 0, 0, [])), (13, (.if_icmp .le 6, 3, 19, 0, 0, []))],
  [(16, (.bipush (-2), 2, 0, 0, 0, [])), (18, (.ireturn, 1, 0, 0, 0, [])), (19, (.aload_n 0, 1, 0, 0, 0, [])), (20, (.getfield 12, 3, 6, 0, 0, [])), (23, (.getfield 196, 3, 0, 3, 0, [])), (26, (.iload_n 1, 1, 0, 0, 0, [])), (27, (.invokevirtual 199, 4, 45, 2, 1, [])), (30, (.ifCond .eq 16, 3, 46, 0, 0, []))],
  [(33, (.aload_n 0, 1, 0, 0, 0, [])), (34, (.getfield 12, 3, 6, 0, 0, [])), (37, (.getfield 196, 3, 0, 3, 0, [])), (40, (.getfield 200, 3, 4, 1, 0, [])), (43, (.goto 5, 3, 48, 0, 0, [])), (46, (.bipush (-4), 2, 0, 0, 0, []))],
  [(48, (.ireturn, 1, 0, 0, 0, []))]]
def zt_X9_casts : zm_T := [[(0, (.iload_n 1, 1, 0, 0, 0, [])), (1, (.iconst 1, 1, 0, 0, 0, [])), (2, (.if_icmp .lt 9, 3, 11, 0, 0, [])), (5, (.iload_n 1, 1, 0, 0, 0, [])), (6, (.bipush 40, 2, 0, 0, 0, [])), (8, (.if_icmp .le 6, 3, 14, 0, 0, [])), (11, (.bipush (-2), 2, 0, 0, 0, [])), (13, (.ireturn, 1, 0, 0, 0, [])), (14, (.iload_n 2, 1, 0, 0, 0, [])), (15, (.istore_n 3, 1, 0, 0, 0, []))],
  [(16, (.iconst 0, 1, 0, 0, 0, [])), (17, (.istore 4, 2, 0, 0, 0, [])), (19, (.iload 4, 2, 0, 0, 0, [])), (21, (.iload_n 1, 1, 0, 0, 0, [])), (22, (.if_icmp .ge 36, 3, 58, 0, 0, [])), (25, (.iload_n 3, 1, 0, 0, 0, [])), (26, (.invokestatic 201, 3, 17, 1, 1, [])), (29, (.istore_n 3, 1, 0, 0, 0, [])), (30, (.aload_n 0, 1, 0, 0, 0, [])), (31, (.getfield 12, 3, 6, 0, 0, []))],
  [(34, (.getfield 196, 3, 0, 3, 0, [])), (37, (.iload_n 3, 1, 0, 0, 0, [])), (38, (.aload_n 0, 1, 0, 0, 0, [])), (39, (.getfield 12, 3, 6, 0, 0, [])), (42, (.getfield 81, 3, 0, 0, 0, [])), (45, (.invokestatic 204, 3, 18, 2, 1, []))],
  [(48, (.invokevirtual 199, 4, 45, 2, 1, [])), (51, (.pop, 1, 0, 0, 0, [])), (52, (.iinc 4 1, 3, 0, 0, 0, [])), (55, (.goto (-36), 3, 19, 0, 0, [])), (58, (.aload_n 0, 1, 0, 0, 0, [])), (59, (.getfield 12, 3, 6, 0, 0, [])), (62, (.getfield 196, 3, 0, 3, 0, []))],
  [(65, (.getfield 200, 3, 4, 1, 0, [])), (68, (.ireturn, 1, 0, 0, 0, []))]]
def zt_X9_wipe : zm_T := [[(0, (.aload_n 0, 1, 0, 0, 0, [])), (1, (.getfield 12, 3, 6, 0, 0, [])), (4, (.getfield 196, 3, 0, 3, 0, [])), (7, (.getfield 200, 3, 4, 1, 0, [])), (10, (.istore_n 1, 1, 0, 0, 0, [])), (11, (.aload_n 0, 1, 0, 0, 0, [])), (12, (.getfield 12, 3, 6, 0, 0, [])), (15, (.getfield 196, 3, 0, 3, 0, []))],
  [(18, (.iconst 0, 1, 0, 0, 0, [])), (19, (.putfield 200, 3, 4, 1, 0, [])), (22, (.iload_n 1, 1, 0, 0, 0, [])), (23, (.ireturn, 1, 0, 0, 0, []))]]
def zt_X9_strip : zm_T := [[(0, (.aload_n 0, 1, 0, 0, 0, [])), (1, (.getfield 12, 3, 6, 0, 0, [])), (4, (.getfield 196, 3, 0, 3, 0, [])), (7, (.iload_n 1, 1, 0, 0, 0, [])), (8, (.invokevirtual 207, 4, 43, 2, 1, [])), (11, (.ifCond .eq 18, 3, 29, 0, 0, [])), (14, (.aload_n 0, 1, 0, 0, 0, [])), (15, (.getfield 12, 3, 6, 0, 0, []))],
  [(18, (.getfield 196, 3, 0, 3, 0, [])), (21, (.getfield 210, 3, 4, 0, 0, [])), (24, (.iload_n 1, 1, 0, 0, 0, [])), (25, (.iaload, 1, 0, 0, 0, [])), (26, (.goto 4, 3, 30, 0, 0, [])), (29, (.iconst (-1), 1, 0, 0, 0, [])), (30, (.ireturn, 1, 0, 0, 0, []))]]
def zt_X9_ends : zm_T := [[(0, (.aload_n 0, 1, 0, 0, 0, [])), (1, (.getfield 12, 3, 6, 0, 0, [])), (4, (.iload_n 1, 1, 0, 0, 0, [])), (5, (.invokevirtual 109, 0, 1, 2, 1, [])), (8, (.ifCond .eq 24, 3, 32, 0, 0, [])), (11, (.aload_n 0, 1, 0, 0, 0, [])), (12, (.getfield 12, 3, 6, 0, 0, [])), (15, (.getfield 196, 3, 0, 3, 0, []))],
  [(18, (.aload_n 0, 1, 0, 0, 0, [])), (19, (.getfield 12, 3, 6, 0, 0, [])), (22, (.iload_n 1, 1, 0, 0, 0, [])), (23, (.invokevirtual 121, 0, 3, 2, 1, [])), (26, (.invokevirtual 213, 4, 48, 2, 2, [])), (29, (.goto 6, 3, 35, 0, 0, []))],
  [(32, (.ldc2_w 148, 0, 0, 0, 0, [(-9223372036854775808, 0)])), (35, (.lreturn, 1, 0, 0, 0, []))]]
def zt_X9_seen : zm_T := [[(0, (.aload_n 0, 1, 0, 0, 0, [])), (1, (.getfield 12, 3, 6, 0, 0, [])), (4, (.iload_n 1, 1, 0, 0, 0, [])), (5, (.invokevirtual 109, 0, 1, 2, 1, [])), (8, (.ifCond .ne 5, 3, 13, 0, 0, [])), (11, (.iconst (-1), 1, 0, 0, 0, [])), (12, (.ireturn, 1, 0, 0, 0, [])), (13, (.aload_n 0, 1, 0, 0, 0, [])), (14, (.getfield 12, 3, 6, 0, 0, []))],
  [(17, (.iload_n 1, 1, 0, 0, 0, [])), (18, (.invokevirtual 121, 0, 3, 2, 1, [])), (21, (.istore_n 3, 1, 0, 0, 0, [])), (22, (.iload_n 2, 1, 0, 0, 0, [])), (23, (.tableswitch 64 0 2 #[25, 37, 52], 25, 87, 0, 0, [(0, 48), (1, 60), (2, 75)]))],
  [],
  [(48, (.aload_n 0, 1, 0, 0, 0, [])), (49, (.getfield 12, 3, 6, 0, 0, [])), (52, (.getfield 196, 3, 0, 3, 0, [])), (55, (.iload_n 3, 1, 0, 0, 0, [])), (56, (.invokevirtual 216, 4, 49, 2, 1, [])), (59, (.ireturn, 1, 0, 0, 0, [])), (60, (.aload_n 0, 1, 0, 0, 0, [])), (61, (.getfield 12, 3, 6, 0, 0, []))],
  [(64, (.getfield 196, 3, 0, 3, 0, [])), (67, (.iload_n 3, 1, 0, 0, 0, [])), (68, (.invokevirtual 213, 4, 48, 2, 2, [])), (71, (.invokestatic 219, 3, 209, 1, 1, [])), (74, (.ireturn, 1, 0, 0, 0, [])), (75, (.aload_n 0, 1, 0, 0, 0, [])), (76, (.getfield 12, 3, 6, 0, 0, [])), (79, (.getfield 196, 3, 0, 3, 0, []))],
  [(82, (.iload_n 3, 1, 0, 0, 0, [])), (83, (.invokevirtual 222, 4, 50, 2, 1, [])), (86, (.ireturn, 1, 0, 0, 0, [])), (87, (.iconst (-1), 1, 0, 0, 0, [])), (88, (.ireturn, 1, 0, 0, 0, []))]]
def zt_X9_who : zm_T := [[(0, (.aload_n 0, 1, 0, 0, 0, [])), (1, (.getfield 12, 3, 6, 0, 0, [])), (4, (.aload_n 0, 1, 0, 0, 0, [])), (5, (.getfield 12, 3, 6, 0, 0, [])), (8, (.getfield 196, 3, 0, 3, 0, [])), (11, (.invokevirtual 225, 0, 8, 2, 1, [])), (14, (.ireturn, 1, 0, 0, 0, []))]]
def zt_X9_were : zm_T := [[(0, (.aload_n 0, 1, 0, 0, 0, [])), (1, (.getfield 12, 3, 6, 0, 0, [])), (4, (.getfield 196, 3, 0, 3, 0, [])), (7, (.iload_n 1, 1, 0, 0, 0, [])), (8, (.invokevirtual 207, 4, 43, 2, 1, [])), (11, (.ifCond .eq 14, 3, 25, 0, 0, [])), (14, (.aload_n 0, 1, 0, 0, 0, [])), (15, (.getfield 12, 3, 6, 0, 0, []))],
  [(18, (.iload_n 2, 1, 0, 0, 0, [])), (19, (.invokevirtual 109, 0, 1, 2, 1, [])), (22, (.ifCond .ne 5, 3, 27, 0, 0, [])), (25, (.iconst (-1), 1, 0, 0, 0, [])), (26, (.ireturn, 1, 0, 0, 0, [])), (27, (.aload_n 0, 1, 0, 0, 0, [])), (28, (.getfield 43, 3, 6, 8, 0, [])), (31, (.aload_n 0, 1, 0, 0, 0, []))],
  [(32, (.getfield 12, 3, 6, 0, 0, [])), (35, (.getfield 196, 3, 0, 3, 0, [])), (38, (.invokevirtual 229, 4, 42, 2, 0, [])), (41, (.iconst 0, 1, 0, 0, 0, [])), (42, (.istore_n 3, 1, 0, 0, 0, [])), (43, (.iconst 1, 1, 0, 0, 0, [])), (44, (.istore 4, 2, 0, 0, 0, [])), (46, (.iload 4, 2, 0, 0, 0, []))],
  [(48, (.aload_n 0, 1, 0, 0, 0, [])), (49, (.getfield 12, 3, 6, 0, 0, [])), (52, (.getfield 81, 3, 0, 0, 0, [])), (55, (.if_icmp .gt 44, 3, 99, 0, 0, [])), (58, (.aload_n 0, 1, 0, 0, 0, [])), (59, (.getfield 43, 3, 6, 8, 0, [])), (62, (.getfield 210, 3, 4, 0, 0, []))],
  [(65, (.iload_n 1, 1, 0, 0, 0, [])), (66, (.iload 4, 2, 0, 0, 0, [])), (68, (.iastore, 1, 0, 0, 0, [])), (69, (.aload_n 0, 1, 0, 0, 0, [])), (70, (.getfield 12, 3, 6, 0, 0, [])), (73, (.aload_n 0, 1, 0, 0, 0, [])), (74, (.getfield 43, 3, 6, 8, 0, [])), (77, (.invokevirtual 225, 0, 8, 2, 1, []))],
  [(80, (.iload_n 2, 1, 0, 0, 0, [])), (81, (.if_icmp .ne 12, 3, 93, 0, 0, [])), (84, (.iload_n 3, 1, 0, 0, 0, [])), (85, (.iconst 1, 1, 0, 0, 0, [])), (86, (.iload 4, 2, 0, 0, 0, [])), (88, (.iconst 1, 1, 0, 0, 0, [])), (89, (.isub, 1, 0, 0, 0, [])), (90, (.ishl, 1, 0, 0, 0, [])), (91, (.ior, 1, 0, 0, 0, [])), (92, (.istore_n 3, 1, 0, 0, 0, [])), (93, (.iinc 4 1, 3, 0, 0, 0, []))],
  [(96, (.goto (-50), 3, 46, 0, 0, [])), (99, (.iload_n 3, 1, 0, 0, 0, [])), (100, (.ireturn, 1, 0, 0, 0, []))]]
def zt_X9_player : zm_T := [[(0, (.iload_n 1, 1, 0, 0, 0, [])), (1, (.ifCond .lt 20, 3, 21, 0, 0, [])), (4, (.iload_n 1, 1, 0, 0, 0, [])), (5, (.bipush 6, 2, 0, 0, 0, [])), (7, (.if_icmp .ge 14, 3, 21, 0, 0, [])), (10, (.aload_n 0, 1, 0, 0, 0, [])), (11, (.getfield 12, 3, 6, 0, 0, [])), (14, (.iload_n 2, 1, 0, 0, 0, [])), (15, (.invokevirtual 109, 0, 1, 2, 1, []))],
  [(18, (.ifCond .ne 5, 3, 23, 0, 0, [])), (21, (.iconst (-1), 1, 0, 0, 0, [])), (22, (.ireturn, 1, 0, 0, 0, [])), (23, (.aload_n 0, 1, 0, 0, 0, [])), (24, (.getfield 12, 3, 6, 0, 0, [])), (27, (.iload_n 1, 1, 0, 0, 0, [])), (28, (.iload_n 2, 1, 0, 0, 0, [])), (29, (.invokevirtual 233, 0, 11, 3, 1, []))],
  [(32, (.ifCond .eq 15, 3, 47, 0, 0, [])), (35, (.aload_n 0, 1, 0, 0, 0, [])), (36, (.getfield 12, 3, 6, 0, 0, [])), (39, (.getfield 236, 3, 0, 6, 0, [])), (42, (.iconst 1, 1, 0, 0, 0, [])), (43, (.isub, 1, 0, 0, 0, [])), (44, (.goto 5, 3, 49, 0, 0, [])), (47, (.bipush (-4), 2, 0, 0, 0, []))],
  [(49, (.ireturn, 1, 0, 0, 0, []))]]
def zt_X9_playerOf : zm_T := [[(0, (.aload_n 0, 1, 0, 0, 0, [])), (1, (.getfield 12, 3, 6, 0, 0, [])), (4, (.iload_n 1, 1, 0, 0, 0, [])), (5, (.invokevirtual 239, 0, 9, 2, 1, [])), (8, (.ifCond .ne 5, 3, 13, 0, 0, [])), (11, (.iconst (-1), 1, 0, 0, 0, [])), (12, (.ireturn, 1, 0, 0, 0, [])), (13, (.iload_n 2, 1, 0, 0, 0, [])), (14, (.tableswitch 55 0 2 #[26, 36, 46], 26, 69, 0, 0, [(0, 40), (1, 50), (2, 60)]))],
  [],
  [(40, (.aload_n 0, 1, 0, 0, 0, [])), (41, (.getfield 12, 3, 6, 0, 0, [])), (44, (.getfield 242, 3, 0, 4, 0, [])), (47, (.iload_n 1, 1, 0, 0, 0, []))],
  [(48, (.iaload, 1, 0, 0, 0, [])), (49, (.ireturn, 1, 0, 0, 0, [])), (50, (.aload_n 0, 1, 0, 0, 0, [])), (51, (.getfield 12, 3, 6, 0, 0, [])), (54, (.getfield 245, 3, 0, 5, 0, [])), (57, (.iload_n 1, 1, 0, 0, 0, [])), (58, (.iaload, 1, 0, 0, 0, [])), (59, (.ireturn, 1, 0, 0, 0, [])), (60, (.aload_n 0, 1, 0, 0, 0, [])), (61, (.getfield 12, 3, 6, 0, 0, []))],
  [(64, (.iload_n 1, 1, 0, 0, 0, [])), (65, (.invokevirtual 248, 0, 14, 2, 1, [])), (68, (.ireturn, 1, 0, 0, 0, [])), (69, (.iconst (-1), 1, 0, 0, 0, [])), (70, (.ireturn, 1, 0, 0, 0, []))]]
def zt_X9_pick : zm_T := [[(0, (.aload_n 0, 1, 0, 0, 0, [])), (1, (.getfield 12, 3, 6, 0, 0, [])), (4, (.iload_n 1, 1, 0, 0, 0, [])), (5, (.iload_n 2, 1, 0, 0, 0, [])), (6, (.invokevirtual 251, 0, 10, 3, 1, [])), (9, (.ifCond .eq 12, 3, 21, 0, 0, [])), (12, (.iload_n 3, 1, 0, 0, 0, [])), (13, (.ifCond .lt 8, 3, 21, 0, 0, []))],
  [(16, (.iload_n 3, 1, 0, 0, 0, [])), (17, (.iconst 1, 1, 0, 0, 0, [])), (18, (.if_icmp .le 5, 3, 23, 0, 0, [])), (21, (.iconst (-1), 1, 0, 0, 0, [])), (22, (.ireturn, 1, 0, 0, 0, [])), (23, (.iload_n 3, 1, 0, 0, 0, [])), (24, (.ifCond .ne 14, 3, 38, 0, 0, [])), (27, (.aload_n 0, 1, 0, 0, 0, [])), (28, (.getfield 12, 3, 6, 0, 0, [])), (31, (.iload_n 1, 1, 0, 0, 0, []))],
  [(32, (.invokevirtual 254, 0, 12, 2, 1, [])), (35, (.goto 19, 3, 54, 0, 0, [])), (38, (.aload_n 0, 1, 0, 0, 0, [])), (39, (.getfield 12, 3, 6, 0, 0, [])), (42, (.iload_n 2, 1, 0, 0, 0, [])), (43, (.aload_n 0, 1, 0, 0, 0, [])), (44, (.getfield 12, 3, 6, 0, 0, [])), (47, (.iload_n 1, 1, 0, 0, 0, []))],
  [(48, (.invokevirtual 254, 0, 12, 2, 1, [])), (51, (.invokevirtual 257, 0, 13, 3, 1, [])), (54, (.ireturn, 1, 0, 0, 0, []))]]
def zt_X9_match : zm_T := [[(0, (.aload_n 0, 1, 0, 0, 0, [])), (1, (.getfield 12, 3, 6, 0, 0, [])), (4, (.iload_n 1, 1, 0, 0, 0, [])), (5, (.iload_n 2, 1, 0, 0, 0, [])), (6, (.invokevirtual 251, 0, 10, 3, 1, [])), (9, (.ifCond .eq 10, 3, 19, 0, 0, [])), (12, (.iload_n 3, 1, 0, 0, 0, [])), (13, (.invokestatic 143, 3, 31, 1, 1, []))],
  [(16, (.ifCond .ne 7, 3, 23, 0, 0, [])), (19, (.ldc2_w 148, 0, 0, 0, 0, [(-9223372036854775808, 0)])), (22, (.lreturn, 1, 0, 0, 0, [])), (23, (.aload_n 0, 1, 0, 0, 0, [])), (24, (.getfield 12, 3, 6, 0, 0, [])), (27, (.iload_n 1, 1, 0, 0, 0, [])), (28, (.invokevirtual 254, 0, 12, 2, 1, [])), (31, (.istore 4, 2, 0, 0, 0, []))],
  [(33, (.iload 4, 2, 0, 0, 0, [])), (35, (.aload_n 0, 1, 0, 0, 0, [])), (36, (.getfield 12, 3, 6, 0, 0, [])), (39, (.iload_n 2, 1, 0, 0, 0, [])), (40, (.iload 4, 2, 0, 0, 0, [])), (42, (.invokevirtual 257, 0, 13, 3, 1, [])), (45, (.aload_n 0, 1, 0, 0, 0, [])), (46, (.getfield 12, 3, 6, 0, 0, []))],
  [(49, (.getfield 81, 3, 0, 0, 0, [])), (52, (.iload_n 3, 1, 0, 0, 0, [])), (53, (.invokestatic 150, 3, 35, 4, 2, [])), (56, (.lreturn, 1, 0, 0, 0, []))]]
def zt_X9_duel : zm_T := [[(0, (.aload_n 0, 1, 0, 0, 0, [])), (1, (.getfield 12, 3, 6, 0, 0, [])), (4, (.iload_n 1, 1, 0, 0, 0, [])), (5, (.iload_n 2, 1, 0, 0, 0, [])), (6, (.invokevirtual 260, 0, 2, 3, 1, [])), (9, (.ifCond .eq 14, 3, 23, 0, 0, [])), (12, (.iload 4, 2, 0, 0, 0, [])), (14, (.ifCond .lt 9, 3, 23, 0, 0, []))],
  [(17, (.iload 4, 2, 0, 0, 0, [])), (19, (.iconst 1, 1, 0, 0, 0, [])), (20, (.if_icmp .le 5, 3, 25, 0, 0, [])), (23, (.iconst (-1), 1, 0, 0, 0, [])), (24, (.ireturn, 1, 0, 0, 0, [])), (25, (.aload_n 0, 1, 0, 0, 0, [])), (26, (.getfield 12, 3, 6, 0, 0, [])), (29, (.iload_n 1, 1, 0, 0, 0, [])), (30, (.invokevirtual 121, 0, 3, 2, 1, []))],
  [(33, (.istore 5, 2, 0, 0, 0, [])), (35, (.aload_n 0, 1, 0, 0, 0, [])), (36, (.getfield 12, 3, 6, 0, 0, [])), (39, (.iload_n 2, 1, 0, 0, 0, [])), (40, (.invokevirtual 121, 0, 3, 2, 1, [])), (43, (.istore 6, 2, 0, 0, 0, [])), (45, (.iload 5, 2, 0, 0, 0, [])), (47, (.iload 6, 2, 0, 0, 0, []))],
  [(49, (.invokestatic 263, 3, 67, 2, 1, [])), (52, (.ifCond .eq 6, 3, 58, 0, 0, [])), (55, (.bipush (-3), 2, 0, 0, 0, [])), (57, (.ireturn, 1, 0, 0, 0, [])), (58, (.aload_n 0, 1, 0, 0, 0, [])), (59, (.getfield 64, 3, 6, 11, 0, [])), (62, (.iload 5, 2, 0, 0, 0, []))],
  [(64, (.iload 6, 2, 0, 0, 0, [])), (66, (.iload_n 3, 1, 0, 0, 0, [])), (67, (.aload_n 0, 1, 0, 0, 0, [])), (68, (.getfield 12, 3, 6, 0, 0, [])), (71, (.getfield 81, 3, 0, 0, 0, [])), (74, (.invokevirtual 266, 1, 19, 5, 0, [])), (77, (.iload 4, 2, 0, 0, 0, [])), (79, (.ifCond .ne 13, 3, 92, 0, 0, []))],
  [(82, (.aload_n 0, 1, 0, 0, 0, [])), (83, (.getfield 64, 3, 6, 11, 0, [])), (86, (.getfield 270, 3, 1, 0, 0, [])), (89, (.goto 10, 3, 99, 0, 0, [])), (92, (.aload_n 0, 1, 0, 0, 0, [])), (93, (.getfield 64, 3, 6, 11, 0, []))],
  [(96, (.getfield 273, 3, 1, 1, 0, [])), (99, (.ireturn, 1, 0, 0, 0, []))]]
def zt_X9_odds : zm_T := [[(0, (.aload_n 0, 1, 0, 0, 0, [])), (1, (.getfield 12, 3, 6, 0, 0, [])), (4, (.iload_n 1, 1, 0, 0, 0, [])), (5, (.iload_n 2, 1, 0, 0, 0, [])), (6, (.invokevirtual 260, 0, 2, 3, 1, [])), (9, (.ifCond .eq 24, 3, 33, 0, 0, [])), (12, (.iload 4, 2, 0, 0, 0, [])), (14, (.iconst 1, 1, 0, 0, 0, [])), (15, (.if_icmp .lt 18, 3, 33, 0, 0, []))],
  [(18, (.iload 4, 2, 0, 0, 0, [])), (20, (.bipush 30, 2, 0, 0, 0, [])), (22, (.if_icmp .gt 11, 3, 33, 0, 0, [])), (25, (.iload 5, 2, 0, 0, 0, [])), (27, (.invokestatic 143, 3, 31, 1, 1, [])), (30, (.ifCond .ne 7, 3, 37, 0, 0, []))],
  [(33, (.ldc2_w 148, 0, 0, 0, 0, [(-9223372036854775808, 0)])), (36, (.lreturn, 1, 0, 0, 0, [])), (37, (.aload_n 0, 1, 0, 0, 0, [])), (38, (.getfield 12, 3, 6, 0, 0, [])), (41, (.iload_n 1, 1, 0, 0, 0, [])), (42, (.invokevirtual 121, 0, 3, 2, 1, [])), (45, (.istore 6, 2, 0, 0, 0, [])), (47, (.aload_n 0, 1, 0, 0, 0, []))],
  [(48, (.getfield 12, 3, 6, 0, 0, [])), (51, (.iload_n 2, 1, 0, 0, 0, [])), (52, (.invokevirtual 121, 0, 3, 2, 1, [])), (55, (.istore 7, 2, 0, 0, 0, [])), (57, (.iload 6, 2, 0, 0, 0, [])), (59, (.iload 7, 2, 0, 0, 0, [])), (61, (.invokestatic 263, 3, 67, 2, 1, []))],
  [(64, (.ifCond .eq 7, 3, 71, 0, 0, [])), (67, (.ldc2_w 148, 0, 0, 0, 0, [(-9223372036854775808, 0)])), (70, (.lreturn, 1, 0, 0, 0, [])), (71, (.iconst 0, 1, 0, 0, 0, [])), (72, (.istore 8, 2, 0, 0, 0, [])), (74, (.iconst 0, 1, 0, 0, 0, [])), (75, (.istore 9, 2, 0, 0, 0, [])), (77, (.iload 9, 2, 0, 0, 0, [])), (79, (.iload 4, 2, 0, 0, 0, []))],
  [(81, (.if_icmp .ge 44, 3, 125, 0, 0, [])), (84, (.aload_n 0, 1, 0, 0, 0, [])), (85, (.getfield 64, 3, 6, 11, 0, [])), (88, (.iload 6, 2, 0, 0, 0, [])), (90, (.iload 7, 2, 0, 0, 0, [])), (92, (.iload_n 3, 1, 0, 0, 0, [])), (93, (.iload 9, 2, 0, 0, 0, [])), (95, (.iadd, 1, 0, 0, 0, []))],
  [(96, (.aload_n 0, 1, 0, 0, 0, [])), (97, (.getfield 12, 3, 6, 0, 0, [])), (100, (.getfield 81, 3, 0, 0, 0, [])), (103, (.invokevirtual 266, 1, 19, 5, 0, [])), (106, (.aload_n 0, 1, 0, 0, 0, [])), (107, (.getfield 64, 3, 6, 11, 0, [])), (110, (.getfield 270, 3, 1, 0, 0, []))],
  [(113, (.ifCond .ne 6, 3, 119, 0, 0, [])), (116, (.iinc 8 1, 3, 0, 0, 0, [])), (119, (.iinc 9 1, 3, 0, 0, 0, [])), (122, (.goto (-45), 3, 77, 0, 0, [])), (125, (.iload 8, 2, 0, 0, 0, [])), (127, (.i2l, 1, 0, 0, 0, []))],
  [(128, (.iload 4, 2, 0, 0, 0, [])), (130, (.i2l, 1, 0, 0, 0, [])), (131, (.iload 5, 2, 0, 0, 0, [])), (133, (.invokestatic 276, 3, 32, 3, 2, [])), (136, (.lreturn, 1, 0, 0, 0, []))]]
def zt_X9_plan : zm_T := [[(0, (.iload_n 1, 1, 0, 0, 0, [])), (1, (.iconst (-1), 1, 0, 0, 0, [])), (2, (.if_icmp .lt 8, 3, 10, 0, 0, [])), (5, (.iload_n 1, 1, 0, 0, 0, [])), (6, (.iconst 2, 1, 0, 0, 0, [])), (7, (.if_icmp .le 5, 3, 12, 0, 0, [])), (10, (.iconst (-1), 1, 0, 0, 0, [])), (11, (.ireturn, 1, 0, 0, 0, [])), (12, (.iload_n 1, 1, 0, 0, 0, [])), (13, (.iconst (-1), 1, 0, 0, 0, [])), (14, (.if_icmp .ne 13, 3, 27, 0, 0, []))],
  [(17, (.aload_n 0, 1, 0, 0, 0, [])), (18, (.getfield 12, 3, 6, 0, 0, [])), (21, (.iconst 0, 1, 0, 0, 0, [])), (22, (.putfield 280, 3, 0, 9, 0, [])), (25, (.iconst 0, 1, 0, 0, 0, [])), (26, (.ireturn, 1, 0, 0, 0, [])), (27, (.iload_n 2, 1, 0, 0, 0, [])), (28, (.iconst 1, 1, 0, 0, 0, [])), (29, (.if_icmp .lt 11, 3, 40, 0, 0, []))],
  [(32, (.iload_n 2, 1, 0, 0, 0, [])), (33, (.iload_n 1, 1, 0, 0, 0, [])), (34, (.invokestatic 283, 3, 119, 1, 1, [])), (37, (.if_icmp .le 6, 3, 43, 0, 0, [])), (40, (.bipush (-2), 2, 0, 0, 0, [])), (42, (.ireturn, 1, 0, 0, 0, [])), (43, (.aload_n 0, 1, 0, 0, 0, [])), (44, (.getfield 12, 3, 6, 0, 0, [])), (47, (.iload_n 1, 1, 0, 0, 0, []))],
  [(48, (.iload_n 2, 1, 0, 0, 0, [])), (49, (.invokevirtual 286, 0, 15, 3, 1, [])), (52, (.ifCond .eq 13, 3, 65, 0, 0, [])), (55, (.aload_n 0, 1, 0, 0, 0, [])), (56, (.getfield 12, 3, 6, 0, 0, [])), (59, (.getfield 280, 3, 0, 9, 0, [])), (62, (.goto 5, 3, 67, 0, 0, []))],
  [(65, (.bipush (-4), 2, 0, 0, 0, [])), (67, (.ireturn, 1, 0, 0, 0, []))]]
def zt_X9_behind : zm_T := [[(0, (.aload_n 0, 1, 0, 0, 0, [])), (1, (.getfield 12, 3, 6, 0, 0, [])), (4, (.iload_n 1, 1, 0, 0, 0, [])), (5, (.bipush 10, 2, 0, 0, 0, [])), (7, (.isub, 1, 0, 0, 0, [])), (8, (.invokevirtual 109, 0, 1, 2, 1, [])), (11, (.istore_n 2, 1, 0, 0, 0, [])), (12, (.iload_n 1, 1, 0, 0, 0, [])), (13, (.ifCond .eq 14, 3, 27, 0, 0, []))],
  [(16, (.iload_n 1, 1, 0, 0, 0, [])), (17, (.iconst 1, 1, 0, 0, 0, [])), (18, (.if_icmp .eq 9, 3, 27, 0, 0, [])), (21, (.iload_n 2, 1, 0, 0, 0, [])), (22, (.ifCond .ne 5, 3, 27, 0, 0, [])), (25, (.iconst (-1), 1, 0, 0, 0, [])), (26, (.ireturn, 1, 0, 0, 0, [])), (27, (.aload_n 0, 1, 0, 0, 0, [])), (28, (.getfield 43, 3, 6, 8, 0, [])), (31, (.aload_n 0, 1, 0, 0, 0, []))],
  [(32, (.getfield 12, 3, 6, 0, 0, [])), (35, (.getfield 196, 3, 0, 3, 0, [])), (38, (.invokevirtual 229, 4, 42, 2, 0, [])), (41, (.aload_n 0, 1, 0, 0, 0, [])), (42, (.getfield 12, 3, 6, 0, 0, [])), (45, (.aload_n 0, 1, 0, 0, 0, [])), (46, (.getfield 43, 3, 6, 8, 0, []))],
  [(49, (.invokevirtual 289, 0, 16, 2, 0, [])), (52, (.iload_n 2, 1, 0, 0, 0, [])), (53, (.ifCond .eq 22, 3, 75, 0, 0, [])), (56, (.aload_n 0, 1, 0, 0, 0, [])), (57, (.getfield 43, 3, 6, 8, 0, [])), (60, (.aload_n 0, 1, 0, 0, 0, [])), (61, (.getfield 12, 3, 6, 0, 0, []))],
  [(64, (.iload_n 1, 1, 0, 0, 0, [])), (65, (.bipush 10, 2, 0, 0, 0, [])), (67, (.isub, 1, 0, 0, 0, [])), (68, (.invokevirtual 121, 0, 3, 2, 1, [])), (71, (.invokevirtual 216, 4, 49, 2, 1, [])), (74, (.ireturn, 1, 0, 0, 0, [])), (75, (.iload_n 1, 1, 0, 0, 0, [])), (76, (.ifCond .ne 13, 3, 89, 0, 0, [])), (79, (.aload_n 0, 1, 0, 0, 0, []))],
  [(80, (.getfield 43, 3, 6, 8, 0, [])), (83, (.getfield 200, 3, 4, 1, 0, [])), (86, (.goto 14, 3, 100, 0, 0, [])), (89, (.aload_n 0, 1, 0, 0, 0, [])), (90, (.getfield 12, 3, 6, 0, 0, [])), (93, (.aload_n 0, 1, 0, 0, 0, [])), (94, (.getfield 43, 3, 6, 8, 0, []))],
  [(97, (.invokevirtual 225, 0, 8, 2, 1, [])), (100, (.ireturn, 1, 0, 0, 0, []))]]
def zt_X9_write : zm_T := [[(0, (.iload_n 1, 1, 0, 0, 0, [])), (1, (.iconst (-1), 1, 0, 0, 0, [])), (2, (.if_icmp .ne 8, 3, 10, 0, 0, [])), (5, (.aload_n 0, 1, 0, 0, 0, [])), (6, (.invokevirtual 292, 6, 120, 1, 1, [])), (9, (.ireturn, 1, 0, 0, 0, [])), (10, (.aload_n 0, 1, 0, 0, 0, [])), (11, (.getfield 12, 3, 6, 0, 0, [])), (14, (.iload_n 1, 1, 0, 0, 0, [])), (15, (.invokevirtual 109, 0, 1, 2, 1, []))],
  [(18, (.ifCond .ne 5, 3, 23, 0, 0, [])), (21, (.iconst (-1), 1, 0, 0, 0, [])), (22, (.ireturn, 1, 0, 0, 0, [])), (23, (.aload_n 0, 1, 0, 0, 0, [])), (24, (.aload_n 0, 1, 0, 0, 0, [])), (25, (.getfield 12, 3, 6, 0, 0, [])), (28, (.iload_n 1, 1, 0, 0, 0, [])), (29, (.invokevirtual 121, 0, 3, 2, 1, []))],
  [(32, (.invokevirtual 296, 6, 121, 2, 1, [])), (35, (.ireturn, 1, 0, 0, 0, []))]]
def zt_X9_paper : zm_T := [[(0, (.iload_n 1, 1, 0, 0, 0, [])), (1, (.ifCond .lt 26, 3, 27, 0, 0, [])), (4, (.iload_n 1, 1, 0, 0, 0, [])), (5, (.aload_n 0, 1, 0, 0, 0, [])), (6, (.getfield 299, 3, 6, 5, 0, [])), (9, (.if_icmp .ge 18, 3, 27, 0, 0, [])), (12, (.iload_n 1, 1, 0, 0, 0, [])), (13, (.bipush 40, 2, 0, 0, 0, [])), (15, (.if_icmp .ge 12, 3, 27, 0, 0, []))],
  [(18, (.aload_n 0, 1, 0, 0, 0, [])), (19, (.getfield 28, 3, 6, 4, 0, [])), (22, (.iload_n 1, 1, 0, 0, 0, [])), (23, (.iaload, 1, 0, 0, 0, [])), (24, (.goto 4, 3, 28, 0, 0, [])), (27, (.iconst (-1), 1, 0, 0, 0, [])), (28, (.ireturn, 1, 0, 0, 0, []))]]
def zt_X9_judge : zm_T := [[(0, (.iload_n 1, 1, 0, 0, 0, [])), (1, (.invokestatic 302, 3, 123, 1, 1, [])), (4, (.ifCond .ne 5, 3, 9, 0, 0, [])), (7, (.iconst (-1), 1, 0, 0, 0, [])), (8, (.ireturn, 1, 0, 0, 0, [])), (9, (.aload_n 0, 1, 0, 0, 0, [])), (10, (.getfield 37, 3, 6, 7, 0, [])), (13, (.iload_n 1, 1, 0, 0, 0, [])), (14, (.iaload, 1, 0, 0, 0, [])), (15, (.ifCond .ge 6, 3, 21, 0, 0, []))],
  [(18, (.bipush (-11), 2, 0, 0, 0, [])), (20, (.ireturn, 1, 0, 0, 0, [])), (21, (.iconst 0, 1, 0, 0, 0, [])), (22, (.istore_n 2, 1, 0, 0, 0, [])), (23, (.iload_n 2, 1, 0, 0, 0, [])), (24, (.aload_n 0, 1, 0, 0, 0, [])), (25, (.getfield 37, 3, 6, 7, 0, [])), (28, (.iload_n 1, 1, 0, 0, 0, [])), (29, (.iaload, 1, 0, 0, 0, [])), (30, (.if_icmp .ge 64, 3, 94, 0, 0, []))],
  [(33, (.iload_n 2, 1, 0, 0, 0, [])), (34, (.bipush 12, 2, 0, 0, 0, [])), (36, (.if_icmp .ge 58, 3, 94, 0, 0, [])), (39, (.aload_n 0, 1, 0, 0, 0, [])), (40, (.getfield 12, 3, 6, 0, 0, [])), (43, (.iload_n 2, 1, 0, 0, 0, [])), (44, (.invokevirtual 109, 0, 1, 2, 1, [])), (47, (.ifCond .eq 24, 3, 71, 0, 0, []))],
  [(50, (.aload_n 0, 1, 0, 0, 0, [])), (51, (.getfield 12, 3, 6, 0, 0, [])), (54, (.getfield 196, 3, 0, 3, 0, [])), (57, (.aload_n 0, 1, 0, 0, 0, [])), (58, (.getfield 12, 3, 6, 0, 0, [])), (61, (.iload_n 2, 1, 0, 0, 0, [])), (62, (.invokevirtual 121, 0, 3, 2, 1, []))],
  [(65, (.invokevirtual 216, 4, 49, 2, 1, [])), (68, (.goto 5, 3, 73, 0, 0, [])), (71, (.bipush (-5), 2, 0, 0, 0, [])), (73, (.istore_n 3, 1, 0, 0, 0, [])), (74, (.aload_n 0, 1, 0, 0, 0, [])), (75, (.getfield 34, 3, 6, 6, 0, [])), (78, (.iload_n 1, 1, 0, 0, 0, [])), (79, (.aaload, 1, 0, 0, 0, []))],
  [(80, (.iload_n 2, 1, 0, 0, 0, [])), (81, (.iaload, 1, 0, 0, 0, [])), (82, (.iload_n 3, 1, 0, 0, 0, [])), (83, (.if_icmp .eq 5, 3, 88, 0, 0, [])), (86, (.iload_n 2, 1, 0, 0, 0, [])), (87, (.ireturn, 1, 0, 0, 0, [])), (88, (.iinc 2 1, 3, 0, 0, 0, [])), (91, (.goto (-68), 3, 23, 0, 0, [])), (94, (.bipush (-5), 2, 0, 0, 0, []))],
  [(96, (.ireturn, 1, 0, 0, 0, []))]]
def zt_X9_list : zm_T := [[(0, (.iload_n 1, 1, 0, 0, 0, [])), (1, (.invokestatic 302, 3, 123, 1, 1, [])), (4, (.ifCond .ne 5, 3, 9, 0, 0, [])), (7, (.iconst (-1), 1, 0, 0, 0, [])), (8, (.ireturn, 1, 0, 0, 0, [])), (9, (.iload_n 2, 1, 0, 0, 0, [])), (10, (.bipush 12, 2, 0, 0, 0, [])), (12, (.if_icmp .le 6, 3, 18, 0, 0, [])), (15, (.bipush (-2), 2, 0, 0, 0, []))],
  [(17, (.ireturn, 1, 0, 0, 0, [])), (18, (.iload_n 2, 1, 0, 0, 0, [])), (19, (.ifCond .ge 6, 3, 25, 0, 0, [])), (22, (.bipush (-14), 2, 0, 0, 0, [])), (24, (.ireturn, 1, 0, 0, 0, [])), (25, (.aload_n 0, 1, 0, 0, 0, [])), (26, (.getfield 37, 3, 6, 7, 0, [])), (29, (.iload_n 1, 1, 0, 0, 0, [])), (30, (.iload_n 2, 1, 0, 0, 0, [])), (31, (.iastore, 1, 0, 0, 0, []))],
  [(32, (.aload_n 0, 1, 0, 0, 0, [])), (33, (.getfield 34, 3, 6, 6, 0, [])), (36, (.iload_n 1, 1, 0, 0, 0, [])), (37, (.aaload, 1, 0, 0, 0, [])), (38, (.iconst 0, 1, 0, 0, 0, [])), (39, (.invokestatic 71, 3, 210, 2, 0, [])), (42, (.iconst 1, 1, 0, 0, 0, [])), (43, (.ireturn, 1, 0, 0, 0, []))]]
def zt_X9_put : zm_T := [[(0, (.iload_n 1, 1, 0, 0, 0, [])), (1, (.invokestatic 302, 3, 123, 1, 1, [])), (4, (.ifCond .ne 5, 3, 9, 0, 0, [])), (7, (.iconst (-1), 1, 0, 0, 0, [])), (8, (.ireturn, 1, 0, 0, 0, [])), (9, (.aload_n 0, 1, 0, 0, 0, [])), (10, (.getfield 37, 3, 6, 7, 0, [])), (13, (.iload_n 1, 1, 0, 0, 0, [])), (14, (.iaload, 1, 0, 0, 0, [])), (15, (.ifCond .ge 6, 3, 21, 0, 0, []))],
  [(18, (.bipush (-11), 2, 0, 0, 0, [])), (20, (.ireturn, 1, 0, 0, 0, [])), (21, (.aload_n 0, 1, 0, 0, 0, [])), (22, (.iload_n 1, 1, 0, 0, 0, [])), (23, (.iload_n 2, 1, 0, 0, 0, [])), (24, (.invokevirtual 305, 6, 124, 3, 1, [])), (27, (.ifCond .ne 6, 3, 33, 0, 0, [])), (30, (.bipush (-13), 2, 0, 0, 0, []))],
  [(32, (.ireturn, 1, 0, 0, 0, [])), (33, (.aload_n 0, 1, 0, 0, 0, [])), (34, (.getfield 34, 3, 6, 6, 0, [])), (37, (.iload_n 1, 1, 0, 0, 0, [])), (38, (.aaload, 1, 0, 0, 0, [])), (39, (.iload_n 2, 1, 0, 0, 0, [])), (40, (.iload_n 3, 1, 0, 0, 0, [])), (41, (.iastore, 1, 0, 0, 0, [])), (42, (.iconst 1, 1, 0, 0, 0, [])), (43, (.ireturn, 1, 0, 0, 0, []))]]
def zt_X9_get : zm_T := [[(0, (.iload_n 1, 1, 0, 0, 0, [])), (1, (.invokestatic 302, 3, 123, 1, 1, [])), (4, (.ifCond .eq 24, 3, 28, 0, 0, [])), (7, (.aload_n 0, 1, 0, 0, 0, [])), (8, (.iload_n 1, 1, 0, 0, 0, [])), (9, (.iload_n 2, 1, 0, 0, 0, [])), (10, (.invokevirtual 305, 6, 124, 3, 1, [])), (13, (.ifCond .eq 15, 3, 28, 0, 0, []))],
  [(16, (.aload_n 0, 1, 0, 0, 0, [])), (17, (.getfield 34, 3, 6, 6, 0, [])), (20, (.iload_n 1, 1, 0, 0, 0, [])), (21, (.aaload, 1, 0, 0, 0, [])), (22, (.iload_n 2, 1, 0, 0, 0, [])), (23, (.iaload, 1, 0, 0, 0, [])), (24, (.i2l, 1, 0, 0, 0, [])), (25, (.goto 6, 3, 31, 0, 0, [])), (28, (.ldc2_w 148, 0, 0, 0, 0, [(-9223372036854775808, 0)])), (31, (.lreturn, 1, 0, 0, 0, []))]]
def zt_X9_image : zm_T := [[(0, (.aload_n 0, 1, 0, 0, 0, [])), (1, (.getfield 18, 3, 6, 1, 0, [])), (4, (.aload_n 0, 1, 0, 0, 0, [])), (5, (.getfield 12, 3, 6, 0, 0, [])), (8, (.invokevirtual 308, 0, 0, 2, 0, [])), (11, (.aload_n 0, 1, 0, 0, 0, [])), (12, (.iconst 1, 1, 0, 0, 0, [])), (13, (.putfield 311, 3, 6, 2, 1, []))],
  [(16, (.aload_n 0, 1, 0, 0, 0, [])), (17, (.getfield 12, 3, 6, 0, 0, [])), (20, (.getfield 96, 3, 0, 2, 0, [])), (23, (.ireturn, 1, 0, 0, 0, []))]]
def zt_X9_undo : zm_T := [[(0, (.aload_n 0, 1, 0, 0, 0, [])), (1, (.getfield 311, 3, 6, 2, 0, [])), (4, (.ifCond .ne 6, 3, 10, 0, 0, [])), (7, (.bipush (-3), 2, 0, 0, 0, [])), (9, (.ireturn, 1, 0, 0, 0, [])), (10, (.aload_n 0, 1, 0, 0, 0, [])), (11, (.getfield 12, 3, 6, 0, 0, [])), (14, (.aload_n 0, 1, 0, 0, 0, [])), (15, (.getfield 18, 3, 6, 1, 0, []))],
  [(18, (.invokevirtual 308, 0, 0, 2, 0, [])), (21, (.aload_n 0, 1, 0, 0, 0, [])), (22, (.getfield 12, 3, 6, 0, 0, [])), (25, (.getfield 96, 3, 0, 2, 0, [])), (28, (.ireturn, 1, 0, 0, 0, []))]]
def zt_X9_count : zm_T := [[(0, (.iload_n 1, 1, 0, 0, 0, [])), (1, (.tableswitch 99 0 6 #[43, 51, 62, 70, 78, 86, 91], 43, 100, 0, 0, [(0, 44), (1, 52), (2, 63), (3, 71), (4, 79), (5, 87), (6, 92)]))],
  [],
  [(44, (.aload_n 0, 1, 0, 0, 0, [])), (45, (.getfield 12, 3, 6, 0, 0, []))],
  [(48, (.getfield 96, 3, 0, 2, 0, [])), (51, (.ireturn, 1, 0, 0, 0, [])), (52, (.aload_n 0, 1, 0, 0, 0, [])), (53, (.getfield 12, 3, 6, 0, 0, [])), (56, (.getfield 196, 3, 0, 3, 0, [])), (59, (.getfield 200, 3, 4, 1, 0, [])), (62, (.ireturn, 1, 0, 0, 0, [])), (63, (.aload_n 0, 1, 0, 0, 0, []))],
  [(64, (.getfield 12, 3, 6, 0, 0, [])), (67, (.getfield 236, 3, 0, 6, 0, [])), (70, (.ireturn, 1, 0, 0, 0, [])), (71, (.aload_n 0, 1, 0, 0, 0, [])), (72, (.getfield 12, 3, 6, 0, 0, [])), (75, (.getfield 81, 3, 0, 0, 0, [])), (78, (.ireturn, 1, 0, 0, 0, [])), (79, (.aload_n 0, 1, 0, 0, 0, []))],
  [(80, (.getfield 24, 3, 6, 3, 0, [])), (83, (.getfield 89, 3, 5, 1, 0, [])), (86, (.ireturn, 1, 0, 0, 0, [])), (87, (.aload_n 0, 1, 0, 0, 0, [])), (88, (.getfield 299, 3, 6, 5, 0, [])), (91, (.ireturn, 1, 0, 0, 0, [])), (92, (.aload_n 0, 1, 0, 0, 0, [])), (93, (.getfield 12, 3, 6, 0, 0, []))],
  [(96, (.getfield 280, 3, 0, 9, 0, [])), (99, (.ireturn, 1, 0, 0, 0, [])), (100, (.bipush (-2), 2, 0, 0, 0, [])), (102, (.ireturn, 1, 0, 0, 0, []))]]
def zt_X9_trailLength : zm_T := [[(0, (.aload_n 0, 1, 0, 0, 0, [])), (1, (.getfield 68, 3, 6, 12, 0, [])), (4, (.iconst 0, 1, 0, 0, 0, [])), (5, (.iload_n 1, 1, 0, 0, 0, [])), (6, (.iastore, 1, 0, 0, 0, [])), (7, (.iconst 1, 1, 0, 0, 0, [])), (8, (.istore_n 3, 1, 0, 0, 0, [])), (9, (.iload_n 3, 1, 0, 0, 0, [])), (10, (.sipush 243, 3, 0, 0, 0, [])), (13, (.if_icmp .gt 84, 3, 97, 0, 0, []))],
  [(16, (.aload_n 0, 1, 0, 0, 0, [])), (17, (.getfield 68, 3, 6, 12, 0, [])), (20, (.iload_n 3, 1, 0, 0, 0, [])), (21, (.iconst 1, 1, 0, 0, 0, [])), (22, (.isub, 1, 0, 0, 0, [])), (23, (.iaload, 1, 0, 0, 0, [])), (24, (.aload_n 0, 1, 0, 0, 0, [])), (25, (.getfield 12, 3, 6, 0, 0, [])), (28, (.getfield 81, 3, 0, 0, 0, [])), (31, (.invokestatic 131, 3, 37, 2, 1, []))],
  [(34, (.istore 4, 2, 0, 0, 0, [])), (36, (.iconst 0, 1, 0, 0, 0, [])), (37, (.istore 5, 2, 0, 0, 0, [])), (39, (.iload 5, 2, 0, 0, 0, [])), (41, (.iload_n 3, 1, 0, 0, 0, [])), (42, (.if_icmp .ge 34, 3, 76, 0, 0, [])), (45, (.aload_n 0, 1, 0, 0, 0, [])), (46, (.getfield 68, 3, 6, 12, 0, []))],
  [(49, (.iload 5, 2, 0, 0, 0, [])), (51, (.iaload, 1, 0, 0, 0, [])), (52, (.iload 4, 2, 0, 0, 0, [])), (54, (.if_icmp .ne 16, 3, 70, 0, 0, [])), (57, (.iload_n 2, 1, 0, 0, 0, [])), (58, (.ifCond .eq 10, 3, 68, 0, 0, [])), (61, (.iload_n 3, 1, 0, 0, 0, [])), (62, (.iload 5, 2, 0, 0, 0, []))],
  [(64, (.isub, 1, 0, 0, 0, [])), (65, (.goto 4, 3, 69, 0, 0, [])), (68, (.iload_n 3, 1, 0, 0, 0, [])), (69, (.ireturn, 1, 0, 0, 0, [])), (70, (.iinc 5 1, 3, 0, 0, 0, [])), (73, (.goto (-34), 3, 39, 0, 0, [])), (76, (.iload_n 3, 1, 0, 0, 0, [])), (77, (.sipush 243, 3, 0, 0, 0, []))],
  [(80, (.if_icmp .ge 11, 3, 91, 0, 0, [])), (83, (.aload_n 0, 1, 0, 0, 0, [])), (84, (.getfield 68, 3, 6, 12, 0, [])), (87, (.iload_n 3, 1, 0, 0, 0, [])), (88, (.iload 4, 2, 0, 0, 0, [])), (90, (.iastore, 1, 0, 0, 0, [])), (91, (.iinc 3 1, 3, 0, 0, 0, [])), (94, (.goto (-85), 3, 9, 0, 0, []))],
  [(97, (.iconst (-1), 1, 0, 0, 0, [])), (98, (.ireturn, 1, 0, 0, 0, []))]]
def zt_X9_isRacingField : zm_T := [[(0, (.aload_n 0, 1, 0, 0, 0, [])), (1, (.getfield 12, 3, 6, 0, 0, [])), (4, (.iload_n 1, 1, 0, 0, 0, [])), (5, (.invokevirtual 179, 0, 6, 2, 1, [])), (8, (.ifCond .ne 5, 3, 13, 0, 0, [])), (11, (.iconst 0, 1, 0, 0, 0, [])), (12, (.ireturn, 1, 0, 0, 0, [])), (13, (.iload_n 1, 1, 0, 0, 0, [])), (14, (.invokestatic 182, 3, 208, 1, 1, []))],
  [(17, (.istore_n 2, 1, 0, 0, 0, [])), (18, (.iload_n 2, 1, 0, 0, 0, [])), (19, (.iconst 2, 1, 0, 0, 0, [])), (20, (.if_icmp .lt 8, 3, 28, 0, 0, [])), (23, (.iload_n 2, 1, 0, 0, 0, [])), (24, (.iconst 4, 1, 0, 0, 0, [])), (25, (.if_icmp .le 5, 3, 30, 0, 0, [])), (28, (.iconst 0, 1, 0, 0, 0, [])), (29, (.ireturn, 1, 0, 0, 0, [])), (30, (.aload_n 0, 1, 0, 0, 0, [])), (31, (.getfield 50, 3, 6, 9, 0, []))],
  [(34, (.aload_n 0, 1, 0, 0, 0, [])), (35, (.getfield 12, 3, 6, 0, 0, [])), (38, (.iload_n 1, 1, 0, 0, 0, [])), (39, (.invokevirtual 187, 2, 20, 3, 0, [])), (42, (.aload_n 0, 1, 0, 0, 0, [])), (43, (.getfield 50, 3, 6, 9, 0, [])), (46, (.invokevirtual 190, 2, 21, 1, 1, []))],
  [(49, (.ifCond .ne 7, 3, 56, 0, 0, [])), (52, (.iconst 1, 1, 0, 0, 0, [])), (53, (.goto 4, 3, 57, 0, 0, [])), (56, (.iconst 0, 1, 0, 0, 0, [])), (57, (.ireturn, 1, 0, 0, 0, []))]]
def zt_X9_placeInSet : zm_T := [[(0, (.iload_n 0, 1, 0, 0, 0, [])), (1, (.iconst 1, 1, 0, 0, 0, [])), (2, (.iload_n 1, 1, 0, 0, 0, [])), (3, (.ishl, 1, 0, 0, 0, [])), (4, (.iconst 1, 1, 0, 0, 0, [])), (5, (.isub, 1, 0, 0, 0, [])), (6, (.iand, 1, 0, 0, 0, [])), (7, (.invokestatic 182, 3, 208, 1, 1, [])), (10, (.ireturn, 1, 0, 0, 0, []))]]
def zt_X9_mostOfRow : zm_T := [[(0, (.iload_n 0, 1, 0, 0, 0, [])), (1, (.ifCond .ne 5, 3, 6, 0, 0, [])), (4, (.iconst 3, 1, 0, 0, 0, [])), (5, (.ireturn, 1, 0, 0, 0, [])), (6, (.iload_n 0, 1, 0, 0, 0, [])), (7, (.iconst 1, 1, 0, 0, 0, [])), (8, (.if_icmp .ne 8, 3, 16, 0, 0, [])), (11, (.bipush 9, 2, 0, 0, 0, [])), (13, (.goto 4, 3, 17, 0, 0, []))],
  [(16, (.iconst 2, 1, 0, 0, 0, [])), (17, (.ireturn, 1, 0, 0, 0, []))]]
def zt_X9_writeStrip : zm_T := [[(0, (.aload_n 0, 1, 0, 0, 0, [])), (1, (.aload_n 0, 1, 0, 0, 0, [])), (2, (.getfield 12, 3, 6, 0, 0, [])), (5, (.getfield 196, 3, 0, 3, 0, [])), (8, (.getfield 200, 3, 4, 1, 0, [])), (11, (.putfield 299, 3, 6, 5, 0, [])), (14, (.iconst 0, 1, 0, 0, 0, [])), (15, (.istore_n 1, 1, 0, 0, 0, []))],
  [(16, (.iload_n 1, 1, 0, 0, 0, [])), (17, (.aload_n 0, 1, 0, 0, 0, [])), (18, (.getfield 299, 3, 6, 5, 0, [])), (21, (.if_icmp .ge 36, 3, 57, 0, 0, [])), (24, (.iload_n 1, 1, 0, 0, 0, [])), (25, (.bipush 40, 2, 0, 0, 0, [])), (27, (.if_icmp .ge 30, 3, 57, 0, 0, [])), (30, (.aload_n 0, 1, 0, 0, 0, [])), (31, (.getfield 28, 3, 6, 4, 0, []))],
  [(34, (.iload_n 1, 1, 0, 0, 0, [])), (35, (.aload_n 0, 1, 0, 0, 0, [])), (36, (.getfield 12, 3, 6, 0, 0, [])), (39, (.getfield 196, 3, 0, 3, 0, [])), (42, (.getfield 210, 3, 4, 0, 0, [])), (45, (.iload_n 1, 1, 0, 0, 0, [])), (46, (.iaload, 1, 0, 0, 0, [])), (47, (.invokestatic 315, 3, 122, 1, 1, []))],
  [(50, (.iastore, 1, 0, 0, 0, [])), (51, (.iinc 1 1, 3, 0, 0, 0, [])), (54, (.goto (-38), 3, 16, 0, 0, [])), (57, (.aload_n 0, 1, 0, 0, 0, [])), (58, (.getfield 299, 3, 6, 5, 0, [])), (61, (.ireturn, 1, 0, 0, 0, []))]]
def zt_X9_writeWord : zm_T := [[(0, (.aload_n 0, 1, 0, 0, 0, [])), (1, (.iload_n 1, 1, 0, 0, 0, [])), (2, (.invokestatic 124, 3, 57, 1, 1, [])), (5, (.putfield 299, 3, 6, 5, 0, [])), (8, (.iconst 0, 1, 0, 0, 0, [])), (9, (.istore_n 2, 1, 0, 0, 0, [])), (10, (.iload_n 2, 1, 0, 0, 0, [])), (11, (.aload_n 0, 1, 0, 0, 0, [])), (12, (.getfield 299, 3, 6, 5, 0, [])), (15, (.if_icmp .ge 29, 3, 44, 0, 0, []))],
  [(18, (.iload_n 2, 1, 0, 0, 0, [])), (19, (.bipush 40, 2, 0, 0, 0, [])), (21, (.if_icmp .ge 23, 3, 44, 0, 0, [])), (24, (.aload_n 0, 1, 0, 0, 0, [])), (25, (.getfield 28, 3, 6, 4, 0, [])), (28, (.iload_n 2, 1, 0, 0, 0, [])), (29, (.iload_n 1, 1, 0, 0, 0, [])), (30, (.iload_n 2, 1, 0, 0, 0, [])), (31, (.invokestatic 318, 3, 59, 2, 1, []))],
  [(34, (.invokestatic 315, 3, 122, 1, 1, [])), (37, (.iastore, 1, 0, 0, 0, [])), (38, (.iinc 2 1, 3, 0, 0, 0, [])), (41, (.goto (-31), 3, 10, 0, 0, [])), (44, (.aload_n 0, 1, 0, 0, 0, [])), (45, (.getfield 299, 3, 6, 5, 0, []))],
  [(48, (.ireturn, 1, 0, 0, 0, []))]]
def zt_X9_signOf : zm_T := [[(0, (.bipush 97, 2, 0, 0, 0, [])), (2, (.iload_n 0, 1, 0, 0, 0, [])), (3, (.iadd, 1, 0, 0, 0, [])), (4, (.iconst 1, 1, 0, 0, 0, [])), (5, (.isub, 1, 0, 0, 0, [])), (6, (.ireturn, 1, 0, 0, 0, []))]]
def zt_X9_hasList : zm_T := [[(0, (.iload_n 0, 1, 0, 0, 0, [])), (1, (.ifCond .lt 12, 3, 13, 0, 0, [])), (4, (.iload_n 0, 1, 0, 0, 0, [])), (5, (.iconst 4, 1, 0, 0, 0, [])), (6, (.if_icmp .ge 7, 3, 13, 0, 0, [])), (9, (.iconst 1, 1, 0, 0, 0, [])), (10, (.goto 4, 3, 14, 0, 0, [])), (13, (.iconst 0, 1, 0, 0, 0, [])), (14, (.ireturn, 1, 0, 0, 0, []))]]
def zt_X9_hasListPlace : zm_T := [[(0, (.iload_n 2, 1, 0, 0, 0, [])), (1, (.ifCond .lt 23, 3, 24, 0, 0, [])), (4, (.iload_n 2, 1, 0, 0, 0, [])), (5, (.aload_n 0, 1, 0, 0, 0, [])), (6, (.getfield 37, 3, 6, 7, 0, [])), (9, (.iload_n 1, 1, 0, 0, 0, [])), (10, (.iaload, 1, 0, 0, 0, [])), (11, (.if_icmp .ge 13, 3, 24, 0, 0, [])), (14, (.iload_n 2, 1, 0, 0, 0, [])), (15, (.bipush 12, 2, 0, 0, 0, []))],
  [(17, (.if_icmp .ge 7, 3, 24, 0, 0, [])), (20, (.iconst 1, 1, 0, 0, 0, [])), (21, (.goto 4, 3, 25, 0, 0, [])), (24, (.iconst 0, 1, 0, 0, 0, [])), (25, (.ireturn, 1, 0, 0, 0, []))]]
def zt_X10_in : zm_T := [[(0, (.iload_n 0, 1, 0, 0, 0, [])), (1, (.iload_n 1, 1, 0, 0, 0, [])), (2, (.if_icmp .lt 12, 3, 14, 0, 0, [])), (5, (.iload_n 0, 1, 0, 0, 0, [])), (6, (.iload_n 2, 1, 0, 0, 0, [])), (7, (.if_icmp .gt 7, 3, 14, 0, 0, [])), (10, (.iconst 1, 1, 0, 0, 0, [])), (11, (.goto 4, 3, 15, 0, 0, [])), (14, (.iconst 0, 1, 0, 0, 0, [])), (15, (.ireturn, 1, 0, 0, 0, []))]]
def zt_X10_isWord : zm_T := [[(0, (.iload_n 1, 1, 0, 0, 0, [])), (1, (.iconst 0, 1, 0, 0, 0, [])), (2, (.aload_n 0, 1, 0, 0, 0, [])), (3, (.getfield 74, 3, 7, 2, 0, [])), (6, (.iconst 1, 1, 0, 0, 0, [])), (7, (.isub, 1, 0, 0, 0, [])), (8, (.invokestatic 77, 3, 125, 3, 1, [])), (11, (.ireturn, 1, 0, 0, 0, []))]]
def zt_X10_isPart : zm_T := [[(0, (.iload_n 0, 1, 0, 0, 0, [])), (1, (.ifCond .eq 8, 3, 9, 0, 0, [])), (4, (.iload_n 0, 1, 0, 0, 0, [])), (5, (.iconst 1, 1, 0, 0, 0, [])), (6, (.if_icmp .ne 7, 3, 13, 0, 0, [])), (9, (.iconst 1, 1, 0, 0, 0, [])), (10, (.goto 4, 3, 14, 0, 0, [])), (13, (.iconst 0, 1, 0, 0, 0, [])), (14, (.ireturn, 1, 0, 0, 0, []))]]
def zt_X10_isList : zm_T := [[(0, (.iload_n 0, 1, 0, 0, 0, [])), (1, (.iconst 0, 1, 0, 0, 0, [])), (2, (.iconst 3, 1, 0, 0, 0, [])), (3, (.invokestatic 77, 3, 125, 3, 1, [])), (6, (.ireturn, 1, 0, 0, 0, []))]]
def zt_X10_ten : zm_T := [[(0, (.iconst 1, 1, 0, 0, 0, [])), (1, (.istore_n 1, 1, 0, 0, 0, [])), (2, (.iconst 0, 1, 0, 0, 0, [])), (3, (.istore_n 2, 1, 0, 0, 0, [])), (4, (.iload_n 2, 1, 0, 0, 0, [])), (5, (.iload_n 0, 1, 0, 0, 0, [])), (6, (.if_icmp .ge 14, 3, 20, 0, 0, [])), (9, (.iload_n 1, 1, 0, 0, 0, [])), (10, (.bipush 10, 2, 0, 0, 0, [])), (12, (.imul, 1, 0, 0, 0, [])), (13, (.istore_n 1, 1, 0, 0, 0, [])), (14, (.iinc 2 1, 3, 0, 0, 0, []))],
  [(17, (.goto (-13), 3, 4, 0, 0, [])), (20, (.iload_n 1, 1, 0, 0, 0, [])), (21, (.ireturn, 1, 0, 0, 0, []))]]
def zt_X10_sizeOf : zm_T := [[(0, (.iconst 0, 1, 0, 0, 0, [])), (1, (.istore_n 1, 1, 0, 0, 0, [])), (2, (.iload_n 0, 1, 0, 0, 0, [])), (3, (.istore_n 2, 1, 0, 0, 0, [])), (4, (.iload_n 2, 1, 0, 0, 0, [])), (5, (.ifCond .le 14, 3, 19, 0, 0, [])), (8, (.iinc 1 1, 3, 0, 0, 0, [])), (11, (.iload_n 2, 1, 0, 0, 0, [])), (12, (.bipush 10, 2, 0, 0, 0, [])), (14, (.idiv, 1, 0, 0, 0, [])), (15, (.istore_n 2, 1, 0, 0, 0, []))],
  [(16, (.goto (-12), 3, 4, 0, 0, [])), (19, (.iload_n 1, 1, 0, 0, 0, [])), (20, (.ireturn, 1, 0, 0, 0, []))]]
def zt_X10_letterOf : zm_T := [[(0, (.iload_n 0, 1, 0, 0, 0, [])), (1, (.iload_n 0, 1, 0, 0, 0, [])), (2, (.invokestatic 81, 3, 130, 1, 1, [])), (5, (.iconst 1, 1, 0, 0, 0, [])), (6, (.isub, 1, 0, 0, 0, [])), (7, (.iload_n 1, 1, 0, 0, 0, [])), (8, (.isub, 1, 0, 0, 0, [])), (9, (.invokestatic 85, 3, 129, 1, 1, [])), (12, (.idiv, 1, 0, 0, 0, [])), (13, (.bipush 10, 2, 0, 0, 0, [])), (15, (.irem, 1, 0, 0, 0, []))],
  [(16, (.ireturn, 1, 0, 0, 0, []))]]
def zt_X10_hasThird : zm_T := [[(0, (.iload_n 0, 1, 0, 0, 0, [])), (1, (.istore_n 1, 1, 0, 0, 0, [])), (2, (.iload_n 1, 1, 0, 0, 0, [])), (3, (.ifCond .le 21, 3, 24, 0, 0, [])), (6, (.iload_n 1, 1, 0, 0, 0, [])), (7, (.bipush 10, 2, 0, 0, 0, [])), (9, (.irem, 1, 0, 0, 0, [])), (10, (.iconst 3, 1, 0, 0, 0, [])), (11, (.if_icmp .ne 5, 3, 16, 0, 0, [])), (14, (.iconst 1, 1, 0, 0, 0, [])), (15, (.ireturn, 1, 0, 0, 0, []))],
  [(16, (.iload_n 1, 1, 0, 0, 0, [])), (17, (.bipush 10, 2, 0, 0, 0, [])), (19, (.idiv, 1, 0, 0, 0, [])), (20, (.istore_n 1, 1, 0, 0, 0, [])), (21, (.goto (-19), 3, 2, 0, 0, [])), (24, (.iconst 0, 1, 0, 0, 0, [])), (25, (.ireturn, 1, 0, 0, 0, []))]]
def zt_X10_isSuch : zm_T := [[(0, (.iload_n 1, 1, 0, 0, 0, [])), (1, (.iconst 1, 1, 0, 0, 0, [])), (2, (.if_icmp .lt 11, 3, 13, 0, 0, [])), (5, (.iload_n 1, 1, 0, 0, 0, [])), (6, (.invokestatic 81, 3, 130, 1, 1, [])), (9, (.iconst 5, 1, 0, 0, 0, [])), (10, (.if_icmp .le 5, 3, 15, 0, 0, [])), (13, (.iconst 0, 1, 0, 0, 0, [])), (14, (.ireturn, 1, 0, 0, 0, [])), (15, (.iload_n 1, 1, 0, 0, 0, []))],
  [(16, (.istore_n 2, 1, 0, 0, 0, [])), (17, (.iload_n 2, 1, 0, 0, 0, [])), (18, (.ifCond .le 28, 3, 46, 0, 0, [])), (21, (.iload_n 2, 1, 0, 0, 0, [])), (22, (.bipush 10, 2, 0, 0, 0, [])), (24, (.irem, 1, 0, 0, 0, [])), (25, (.iconst 1, 1, 0, 0, 0, [])), (26, (.aload_n 0, 1, 0, 0, 0, [])), (27, (.getfield 9, 3, 7, 0, 0, [])), (30, (.invokestatic 77, 3, 125, 3, 1, []))],
  [(33, (.ifCond .ne 5, 3, 38, 0, 0, [])), (36, (.iconst 0, 1, 0, 0, 0, [])), (37, (.ireturn, 1, 0, 0, 0, [])), (38, (.iload_n 2, 1, 0, 0, 0, [])), (39, (.bipush 10, 2, 0, 0, 0, [])), (41, (.idiv, 1, 0, 0, 0, [])), (42, (.istore_n 2, 1, 0, 0, 0, [])), (43, (.goto (-26), 3, 17, 0, 0, [])), (46, (.iconst 1, 1, 0, 0, 0, [])), (47, (.ireturn, 1, 0, 0, 0, []))]]
def zt_X10_on : zm_T := [[(0, (.iload_n 1, 1, 0, 0, 0, [])), (1, (.aload_n 0, 1, 0, 0, 0, [])), (2, (.getfield 9, 3, 7, 0, 0, [])), (5, (.if_icmp .ne 7, 3, 12, 0, 0, [])), (8, (.iconst 1, 1, 0, 0, 0, [])), (9, (.goto 6, 3, 15, 0, 0, [])), (12, (.iload_n 1, 1, 0, 0, 0, [])), (13, (.iconst 1, 1, 0, 0, 0, [])), (14, (.iadd, 1, 0, 0, 0, [])), (15, (.ireturn, 1, 0, 0, 0, []))]]
def zt_X10_overlap : zm_T := [[(0, (.iconst 0, 1, 0, 0, 0, [])), (1, (.istore_n 2, 1, 0, 0, 0, [])), (2, (.iload_n 1, 1, 0, 0, 0, [])), (3, (.invokestatic 81, 3, 130, 1, 1, [])), (6, (.istore_n 3, 1, 0, 0, 0, [])), (7, (.iload_n 0, 1, 0, 0, 0, [])), (8, (.invokestatic 81, 3, 130, 1, 1, [])), (11, (.iload_n 3, 1, 0, 0, 0, [])), (12, (.invokestatic 88, 3, 9998, 2, 1, [])), (15, (.istore 4, 2, 0, 0, 0, []))],
  [(17, (.iconst 1, 1, 0, 0, 0, [])), (18, (.istore 5, 2, 0, 0, 0, [])), (20, (.iload 5, 2, 0, 0, 0, [])), (22, (.iload 4, 2, 0, 0, 0, [])), (24, (.if_icmp .gt 37, 3, 61, 0, 0, [])), (27, (.iload_n 0, 1, 0, 0, 0, [])), (28, (.iload 5, 2, 0, 0, 0, [])), (30, (.invokestatic 85, 3, 129, 1, 1, []))],
  [(33, (.irem, 1, 0, 0, 0, [])), (34, (.iload_n 1, 1, 0, 0, 0, [])), (35, (.iload_n 3, 1, 0, 0, 0, [])), (36, (.iload 5, 2, 0, 0, 0, [])), (38, (.isub, 1, 0, 0, 0, [])), (39, (.invokestatic 85, 3, 129, 1, 1, [])), (42, (.idiv, 1, 0, 0, 0, [])), (43, (.if_icmp .ne 12, 3, 55, 0, 0, [])), (46, (.iload_n 2, 1, 0, 0, 0, [])), (47, (.iconst 1, 1, 0, 0, 0, []))],
  [(48, (.iload 5, 2, 0, 0, 0, [])), (50, (.iconst 1, 1, 0, 0, 0, [])), (51, (.isub, 1, 0, 0, 0, [])), (52, (.ishl, 1, 0, 0, 0, [])), (53, (.ior, 1, 0, 0, 0, [])), (54, (.istore_n 2, 1, 0, 0, 0, [])), (55, (.iinc 5 1, 3, 0, 0, 0, [])), (58, (.goto (-38), 3, 20, 0, 0, [])), (61, (.iload_n 2, 1, 0, 0, 0, [])), (62, (.ireturn, 1, 0, 0, 0, []))]]
def zt_X10_numberOf : zm_T := [[(0, (.iload_n 1, 1, 0, 0, 0, [])), (1, (.iload_n 2, 1, 0, 0, 0, [])), (2, (.invokestatic 94, 3, 135, 2, 1, [])), (5, (.istore_n 3, 1, 0, 0, 0, [])), (6, (.iconst 0, 1, 0, 0, 0, [])), (7, (.istore 4, 2, 0, 0, 0, [])), (9, (.iconst 1, 1, 0, 0, 0, [])), (10, (.istore 5, 2, 0, 0, 0, [])), (12, (.iconst 0, 1, 0, 0, 0, [])), (13, (.istore 6, 2, 0, 0, 0, [])), (15, (.iload 6, 2, 0, 0, 0, []))],
  [(17, (.iconst 5, 1, 0, 0, 0, [])), (18, (.if_icmp .ge 35, 3, 53, 0, 0, [])), (21, (.iload 5, 2, 0, 0, 0, [])), (23, (.aload_n 0, 1, 0, 0, 0, [])), (24, (.getfield 9, 3, 7, 0, 0, [])), (27, (.imul, 1, 0, 0, 0, [])), (28, (.istore 5, 2, 0, 0, 0, [])), (30, (.iload_n 3, 1, 0, 0, 0, [])), (31, (.iload 6, 2, 0, 0, 0, []))],
  [(33, (.ishr, 1, 0, 0, 0, [])), (34, (.iconst 1, 1, 0, 0, 0, [])), (35, (.iand, 1, 0, 0, 0, [])), (36, (.iconst 1, 1, 0, 0, 0, [])), (37, (.if_icmp .ne 10, 3, 47, 0, 0, [])), (40, (.iload 4, 2, 0, 0, 0, [])), (42, (.iload 5, 2, 0, 0, 0, [])), (44, (.iadd, 1, 0, 0, 0, [])), (45, (.istore 4, 2, 0, 0, 0, [])), (47, (.iinc 6 1, 3, 0, 0, 0, []))],
  [(50, (.goto (-35), 3, 15, 0, 0, [])), (53, (.iload 4, 2, 0, 0, 0, [])), (55, (.ireturn, 1, 0, 0, 0, []))]]
def zt_X10_stands : zm_T := [[(0, (.iload_n 0, 1, 0, 0, 0, [])), (1, (.invokestatic 81, 3, 130, 1, 1, [])), (4, (.invokestatic 85, 3, 129, 1, 1, [])), (7, (.istore_n 2, 1, 0, 0, 0, [])), (8, (.iload_n 1, 1, 0, 0, 0, [])), (9, (.istore_n 3, 1, 0, 0, 0, [])), (10, (.iload_n 3, 1, 0, 0, 0, [])), (11, (.ifCond .le 20, 3, 31, 0, 0, [])), (14, (.iload_n 3, 1, 0, 0, 0, [])), (15, (.iload_n 2, 1, 0, 0, 0, []))],
  [(16, (.irem, 1, 0, 0, 0, [])), (17, (.iload_n 0, 1, 0, 0, 0, [])), (18, (.if_icmp .ne 5, 3, 23, 0, 0, [])), (21, (.iconst 1, 1, 0, 0, 0, [])), (22, (.ireturn, 1, 0, 0, 0, [])), (23, (.iload_n 3, 1, 0, 0, 0, [])), (24, (.bipush 10, 2, 0, 0, 0, [])), (26, (.idiv, 1, 0, 0, 0, [])), (27, (.istore_n 3, 1, 0, 0, 0, [])), (28, (.goto (-18), 3, 10, 0, 0, [])), (31, (.iconst 0, 1, 0, 0, 0, []))],
  [(32, (.ireturn, 1, 0, 0, 0, []))]]
def zt_X10_areApart : zm_T := [[(0, (.iload_n 0, 1, 0, 0, 0, [])), (1, (.iload_n 1, 1, 0, 0, 0, [])), (2, (.invokestatic 97, 3, 137, 2, 1, [])), (5, (.ifCond .ne 15, 3, 20, 0, 0, [])), (8, (.iload_n 1, 1, 0, 0, 0, [])), (9, (.iload_n 0, 1, 0, 0, 0, [])), (10, (.invokestatic 97, 3, 137, 2, 1, [])), (13, (.ifCond .ne 7, 3, 20, 0, 0, []))],
  [(16, (.iconst 1, 1, 0, 0, 0, [])), (17, (.goto 4, 3, 21, 0, 0, [])), (20, (.iconst 0, 1, 0, 0, 0, [])), (21, (.ireturn, 1, 0, 0, 0, []))]]
def zt_X10_weight : zm_T := [[(0, (.aload_n 0, 1, 0, 0, 0, [])), (1, (.iload_n 2, 1, 0, 0, 0, [])), (2, (.iload_n 2, 1, 0, 0, 0, [])), (3, (.invokevirtual 101, 7, 136, 3, 1, [])), (6, (.aload_n 0, 1, 0, 0, 0, [])), (7, (.iload_n 2, 1, 0, 0, 0, [])), (8, (.iload_n 1, 1, 0, 0, 0, [])), (9, (.invokevirtual 101, 7, 136, 3, 1, [])), (12, (.isub, 1, 0, 0, 0, [])), (13, (.ireturn, 1, 0, 0, 0, []))]]
def zt_X10_beats : zm_T := [[(0, (.iload_n 1, 1, 0, 0, 0, [])), (1, (.iload_n 2, 1, 0, 0, 0, [])), (2, (.invokestatic 104, 3, 138, 2, 1, [])), (5, (.ifCond .eq 22, 3, 27, 0, 0, [])), (8, (.aload_n 0, 1, 0, 0, 0, [])), (9, (.iload_n 1, 1, 0, 0, 0, [])), (10, (.iload_n 2, 1, 0, 0, 0, [])), (11, (.invokevirtual 107, 7, 139, 3, 1, [])), (14, (.aload_n 0, 1, 0, 0, 0, [])), (15, (.iload_n 2, 1, 0, 0, 0, []))],
  [(16, (.iload_n 1, 1, 0, 0, 0, [])), (17, (.invokevirtual 107, 7, 139, 3, 1, [])), (20, (.if_icmp .le 7, 3, 27, 0, 0, [])), (23, (.iconst 1, 1, 0, 0, 0, [])), (24, (.goto 4, 3, 28, 0, 0, [])), (27, (.iconst 0, 1, 0, 0, 0, [])), (28, (.ireturn, 1, 0, 0, 0, []))]]
def zt_X10_bestAnswer : zm_T := [[(0, (.iload_n 1, 1, 0, 0, 0, [])), (1, (.invokestatic 81, 3, 130, 1, 1, [])), (4, (.istore_n 2, 1, 0, 0, 0, [])), (5, (.iconst 0, 1, 0, 0, 0, [])), (6, (.istore_n 3, 1, 0, 0, 0, [])), (7, (.iconst 0, 1, 0, 0, 0, [])), (8, (.istore 4, 2, 0, 0, 0, [])), (10, (.iconst 1, 1, 0, 0, 0, [])), (11, (.istore 5, 2, 0, 0, 0, [])), (13, (.iconst 1, 1, 0, 0, 0, [])), (14, (.istore 6, 2, 0, 0, 0, []))],
  [(16, (.iload 6, 2, 0, 0, 0, [])), (18, (.iload_n 2, 1, 0, 0, 0, [])), (19, (.invokestatic 85, 3, 129, 1, 1, [])), (22, (.if_icmp .ge 85, 3, 107, 0, 0, [])), (25, (.iload 6, 2, 0, 0, 0, [])), (27, (.invokestatic 81, 3, 130, 1, 1, [])), (30, (.iload_n 2, 1, 0, 0, 0, [])), (31, (.if_icmp .ne 70, 3, 101, 0, 0, []))],
  [(34, (.aload_n 0, 1, 0, 0, 0, [])), (35, (.iload 6, 2, 0, 0, 0, [])), (37, (.invokevirtual 110, 7, 133, 2, 1, [])), (40, (.ifCond .eq 61, 3, 101, 0, 0, [])), (43, (.iload 6, 2, 0, 0, 0, [])), (45, (.iload_n 1, 1, 0, 0, 0, [])), (46, (.if_icmp .ne 6, 3, 52, 0, 0, []))],
  [(49, (.goto 52, 3, 101, 0, 0, [])), (52, (.aload_n 0, 1, 0, 0, 0, [])), (53, (.iload 6, 2, 0, 0, 0, [])), (55, (.iload_n 1, 1, 0, 0, 0, [])), (56, (.invokevirtual 107, 7, 139, 3, 1, [])), (59, (.istore 7, 2, 0, 0, 0, [])), (61, (.aload_n 0, 1, 0, 0, 0, [])), (62, (.iload_n 1, 1, 0, 0, 0, [])), (63, (.iload 6, 2, 0, 0, 0, []))],
  [(65, (.invokevirtual 107, 7, 139, 3, 1, [])), (68, (.istore 8, 2, 0, 0, 0, [])), (70, (.iload_n 3, 1, 0, 0, 0, [])), (71, (.ifCond .eq 19, 3, 90, 0, 0, [])), (74, (.iload 7, 2, 0, 0, 0, [])), (76, (.iload 5, 2, 0, 0, 0, [])), (78, (.imul, 1, 0, 0, 0, [])), (79, (.iload 4, 2, 0, 0, 0, []))],
  [(81, (.iload 8, 2, 0, 0, 0, [])), (83, (.imul, 1, 0, 0, 0, [])), (84, (.if_icmp .gt 6, 3, 90, 0, 0, [])), (87, (.goto 14, 3, 101, 0, 0, [])), (90, (.iload 6, 2, 0, 0, 0, [])), (92, (.istore_n 3, 1, 0, 0, 0, [])), (93, (.iload 7, 2, 0, 0, 0, [])), (95, (.istore 4, 2, 0, 0, 0, []))],
  [(97, (.iload 8, 2, 0, 0, 0, [])), (99, (.istore 5, 2, 0, 0, 0, [])), (101, (.iinc 6 1, 3, 0, 0, 0, [])), (104, (.goto (-88), 3, 16, 0, 0, [])), (107, (.iload_n 3, 1, 0, 0, 0, [])), (108, (.ireturn, 1, 0, 0, 0, []))]]
def zt_X10_lowest : zm_T := [[(0, (.lload_n 0, 1, 0, 0, 0, [])), (1, (.lconst 0, 1, 0, 0, 0, [])), (2, (.lcmp, 1, 0, 0, 0, [])), (3, (.ifCond .ge 8, 3, 11, 0, 0, [])), (6, (.lload_n 0, 1, 0, 0, 0, [])), (7, (.lneg, 1, 0, 0, 0, [])), (8, (.goto 4, 3, 12, 0, 0, [])), (11, (.lload_n 0, 1, 0, 0, 0, [])), (12, (.lstore 5, 2, 0, 0, 0, [])), (14, (.lload_n 2, 1, 0, 0, 0, [])), (15, (.lconst 0, 1, 0, 0, 0, []))],
  [(16, (.lcmp, 1, 0, 0, 0, [])), (17, (.ifCond .ge 8, 3, 25, 0, 0, [])), (20, (.lload_n 2, 1, 0, 0, 0, [])), (21, (.lneg, 1, 0, 0, 0, [])), (22, (.goto 4, 3, 26, 0, 0, [])), (25, (.lload_n 2, 1, 0, 0, 0, [])), (26, (.lstore 7, 2, 0, 0, 0, [])), (28, (.lload 7, 2, 0, 0, 0, [])), (30, (.lconst 0, 1, 0, 0, 0, [])), (31, (.lcmp, 1, 0, 0, 0, []))],
  [(32, (.ifCond .eq 21, 3, 53, 0, 0, [])), (35, (.lload 5, 2, 0, 0, 0, [])), (37, (.lload 7, 2, 0, 0, 0, [])), (39, (.lrem, 1, 0, 0, 0, [])), (40, (.lstore 9, 2, 0, 0, 0, [])), (42, (.lload 7, 2, 0, 0, 0, [])), (44, (.lstore 5, 2, 0, 0, 0, [])), (46, (.lload 9, 2, 0, 0, 0, []))],
  [(48, (.lstore 7, 2, 0, 0, 0, [])), (50, (.goto (-22), 3, 28, 0, 0, [])), (53, (.lload_n 2, 1, 0, 0, 0, [])), (54, (.lconst 0, 1, 0, 0, 0, [])), (55, (.lcmp, 1, 0, 0, 0, [])), (56, (.ifCond .ge 8, 3, 64, 0, 0, [])), (59, (.lload 5, 2, 0, 0, 0, [])), (61, (.lneg, 1, 0, 0, 0, [])), (62, (.lstore 5, 2, 0, 0, 0, []))],
  [(64, (.iload 4, 2, 0, 0, 0, [])), (66, (.ifCond .ne 10, 3, 76, 0, 0, [])), (69, (.lload_n 0, 1, 0, 0, 0, [])), (70, (.lload 5, 2, 0, 0, 0, [])), (72, (.ldiv, 1, 0, 0, 0, [])), (73, (.goto 7, 3, 80, 0, 0, [])), (76, (.lload_n 2, 1, 0, 0, 0, [])), (77, (.lload 5, 2, 0, 0, 0, [])), (79, (.ldiv, 1, 0, 0, 0, []))],
  [(80, (.lreturn, 1, 0, 0, 0, []))]]
def zt_X10_chanceOf : zm_T := [[(0, (.aload_n 0, 1, 0, 0, 0, [])), (1, (.iload_n 1, 1, 0, 0, 0, [])), (2, (.iload_n 2, 1, 0, 0, 0, [])), (3, (.invokevirtual 107, 7, 139, 3, 1, [])), (6, (.istore 4, 2, 0, 0, 0, [])), (8, (.iload 4, 2, 0, 0, 0, [])), (10, (.i2l, 1, 0, 0, 0, [])), (11, (.iload 4, 2, 0, 0, 0, [])), (13, (.aload_n 0, 1, 0, 0, 0, [])), (14, (.iload_n 2, 1, 0, 0, 0, [])), (15, (.iload_n 1, 1, 0, 0, 0, []))],
  [(16, (.invokevirtual 107, 7, 139, 3, 1, [])), (19, (.iadd, 1, 0, 0, 0, [])), (20, (.i2l, 1, 0, 0, 0, [])), (21, (.iload_n 3, 1, 0, 0, 0, [])), (22, (.invokestatic 114, 3, 142, 3, 2, [])), (25, (.lreturn, 1, 0, 0, 0, []))]]
def zt_X10_sides : zm_T := [[(0, (.iload_n 1, 1, 0, 0, 0, [])), (1, (.iconst 2, 1, 0, 0, 0, [])), (2, (.iconst 3, 1, 0, 0, 0, [])), (3, (.invokestatic 77, 3, 125, 3, 1, [])), (6, (.ifCond .ne 6, 3, 12, 0, 0, [])), (9, (.bipush (-2), 2, 0, 0, 0, [])), (11, (.ireturn, 1, 0, 0, 0, [])), (12, (.iload_n 1, 1, 0, 0, 0, [])), (13, (.iconst 2, 1, 0, 0, 0, [])), (14, (.if_icmp .ne 63, 3, 77, 0, 0, []))],
  [(17, (.iconst 0, 1, 0, 0, 0, [])), (18, (.istore_n 2, 1, 0, 0, 0, [])), (19, (.iload_n 2, 1, 0, 0, 0, [])), (20, (.aload_n 0, 1, 0, 0, 0, [])), (21, (.getfield 74, 3, 7, 2, 0, [])), (24, (.if_icmp .ge 24, 3, 48, 0, 0, [])), (27, (.aload_n 0, 1, 0, 0, 0, [])), (28, (.getfield 15, 3, 7, 1, 0, [])), (31, (.iload_n 2, 1, 0, 0, 0, []))],
  [(32, (.iaload, 1, 0, 0, 0, [])), (33, (.invokestatic 118, 3, 132, 1, 1, [])), (36, (.ifCond .eq 6, 3, 42, 0, 0, [])), (39, (.bipush (-3), 2, 0, 0, 0, [])), (41, (.ireturn, 1, 0, 0, 0, [])), (42, (.iinc 2 1, 3, 0, 0, 0, [])), (45, (.goto (-26), 3, 19, 0, 0, []))],
  [(48, (.iconst 0, 1, 0, 0, 0, [])), (49, (.istore_n 2, 1, 0, 0, 0, [])), (50, (.iload_n 2, 1, 0, 0, 0, [])), (51, (.aload_n 0, 1, 0, 0, 0, [])), (52, (.getfield 121, 3, 7, 4, 0, [])), (55, (.if_icmp .ge 22, 3, 77, 0, 0, [])), (58, (.aload_n 0, 1, 0, 0, 0, [])), (59, (.getfield 19, 3, 7, 3, 0, [])), (62, (.iload_n 2, 1, 0, 0, 0, [])), (63, (.iaload, 1, 0, 0, 0, []))],
  [(64, (.iconst 3, 1, 0, 0, 0, [])), (65, (.if_icmp .ne 6, 3, 71, 0, 0, [])), (68, (.bipush (-3), 2, 0, 0, 0, [])), (70, (.ireturn, 1, 0, 0, 0, [])), (71, (.iinc 2 1, 3, 0, 0, 0, [])), (74, (.goto (-24), 3, 50, 0, 0, [])), (77, (.aload_n 0, 1, 0, 0, 0, [])), (78, (.getfield 9, 3, 7, 0, 0, []))],
  [(81, (.istore_n 2, 1, 0, 0, 0, [])), (82, (.aload_n 0, 1, 0, 0, 0, [])), (83, (.iload_n 1, 1, 0, 0, 0, [])), (84, (.putfield 9, 3, 7, 0, 0, [])), (87, (.iload_n 2, 1, 0, 0, 0, [])), (88, (.ireturn, 1, 0, 0, 0, []))]]
def zt_X10_feed : zm_T := [[(0, (.iload_n 1, 1, 0, 0, 0, [])), (1, (.iconst 1, 1, 0, 0, 0, [])), (2, (.bipush 127, 2, 0, 0, 0, [])), (4, (.invokestatic 77, 3, 125, 3, 1, [])), (7, (.ifCond .ne 6, 3, 13, 0, 0, [])), (10, (.bipush (-2), 2, 0, 0, 0, [])), (12, (.ireturn, 1, 0, 0, 0, [])), (13, (.aload_n 0, 1, 0, 0, 0, [])), (14, (.getfield 124, 3, 7, 12, 0, []))],
  [(17, (.bipush 60, 2, 0, 0, 0, [])), (19, (.if_icmp .ne 6, 3, 25, 0, 0, [])), (22, (.bipush (-4), 2, 0, 0, 0, [])), (24, (.ireturn, 1, 0, 0, 0, [])), (25, (.aload_n 0, 1, 0, 0, 0, [])), (26, (.getfield 34, 3, 7, 11, 0, [])), (29, (.aload_n 0, 1, 0, 0, 0, [])), (30, (.dup, 1, 0, 0, 0, [])), (31, (.getfield 124, 3, 7, 12, 0, []))],
  [(34, (.dup_x1, 1, 0, 0, 0, [])), (35, (.iconst 1, 1, 0, 0, 0, [])), (36, (.iadd, 1, 0, 0, 0, [])), (37, (.putfield 124, 3, 7, 12, 0, [])), (40, (.iload_n 1, 1, 0, 0, 0, [])), (41, (.iastore, 1, 0, 0, 0, [])), (42, (.aload_n 0, 1, 0, 0, 0, [])), (43, (.getfield 124, 3, 7, 12, 0, [])), (46, (.ireturn, 1, 0, 0, 0, []))]]
def zt_X10_sign : zm_T := [[(0, (.iload_n 1, 1, 0, 0, 0, [])), (1, (.aload_n 0, 1, 0, 0, 0, [])), (2, (.getfield 124, 3, 7, 12, 0, [])), (5, (.if_icmp .ge 12, 3, 17, 0, 0, [])), (8, (.aload_n 0, 1, 0, 0, 0, [])), (9, (.getfield 34, 3, 7, 11, 0, [])), (12, (.iload_n 1, 1, 0, 0, 0, [])), (13, (.iaload, 1, 0, 0, 0, [])), (14, (.goto 4, 3, 18, 0, 0, []))],
  [(17, (.iconst 0, 1, 0, 0, 0, [])), (18, (.ireturn, 1, 0, 0, 0, []))]]
def zt_X10_reads : zm_T := [[(0, (.iconst 0, 1, 0, 0, 0, [])), (1, (.istore_n 1, 1, 0, 0, 0, [])), (2, (.iconst 0, 1, 0, 0, 0, [])), (3, (.istore_n 2, 1, 0, 0, 0, [])), (4, (.iconst 0, 1, 0, 0, 0, [])), (5, (.istore_n 3, 1, 0, 0, 0, [])), (6, (.iconst 0, 1, 0, 0, 0, [])), (7, (.istore 4, 2, 0, 0, 0, [])), (9, (.aload_n 0, 1, 0, 0, 0, [])), (10, (.iload_n 2, 1, 0, 0, 0, [])), (11, (.invokevirtual 127, 7, 146, 2, 1, [])), (14, (.bipush 97, 2, 0, 0, 0, []))],
  [(16, (.bipush 97, 2, 0, 0, 0, [])), (18, (.aload_n 0, 1, 0, 0, 0, [])), (19, (.getfield 9, 3, 7, 0, 0, [])), (22, (.iadd, 1, 0, 0, 0, [])), (23, (.iconst 1, 1, 0, 0, 0, [])), (24, (.isub, 1, 0, 0, 0, [])), (25, (.invokestatic 77, 3, 125, 3, 1, [])), (28, (.ifCond .eq 108, 3, 136, 0, 0, [])), (31, (.iload 4, 2, 0, 0, 0, []))],
  [(33, (.iconst 5, 1, 0, 0, 0, [])), (34, (.if_icmp .ne 8, 3, 42, 0, 0, [])), (37, (.bipush (-100), 2, 0, 0, 0, [])), (39, (.iload_n 2, 1, 0, 0, 0, [])), (40, (.isub, 1, 0, 0, 0, [])), (41, (.ireturn, 1, 0, 0, 0, [])), (42, (.aload_n 0, 1, 0, 0, 0, [])), (43, (.iload_n 2, 1, 0, 0, 0, [])), (44, (.invokevirtual 127, 7, 146, 2, 1, [])), (47, (.bipush 97, 2, 0, 0, 0, []))],
  [(49, (.isub, 1, 0, 0, 0, [])), (50, (.iconst 1, 1, 0, 0, 0, [])), (51, (.iadd, 1, 0, 0, 0, [])), (52, (.istore 5, 2, 0, 0, 0, [])), (54, (.iinc 2 1, 3, 0, 0, 0, [])), (57, (.iconst 1, 1, 0, 0, 0, [])), (58, (.istore 6, 2, 0, 0, 0, [])), (60, (.aload_n 0, 1, 0, 0, 0, [])), (61, (.iload_n 2, 1, 0, 0, 0, [])), (62, (.invokevirtual 127, 7, 146, 2, 1, []))],
  [(65, (.bipush 50, 2, 0, 0, 0, [])), (67, (.bipush 53, 2, 0, 0, 0, [])), (69, (.invokestatic 77, 3, 125, 3, 1, [])), (72, (.ifCond .eq 30, 3, 102, 0, 0, [])), (75, (.aload_n 0, 1, 0, 0, 0, [])), (76, (.iload_n 2, 1, 0, 0, 0, [])), (77, (.invokevirtual 127, 7, 146, 2, 1, []))],
  [(80, (.bipush 48, 2, 0, 0, 0, [])), (82, (.isub, 1, 0, 0, 0, [])), (83, (.istore 6, 2, 0, 0, 0, [])), (85, (.iload 4, 2, 0, 0, 0, [])), (87, (.iload 6, 2, 0, 0, 0, [])), (89, (.iadd, 1, 0, 0, 0, [])), (90, (.iconst 5, 1, 0, 0, 0, [])), (91, (.if_icmp .le 8, 3, 99, 0, 0, [])), (94, (.bipush (-100), 2, 0, 0, 0, []))],
  [(96, (.iload_n 2, 1, 0, 0, 0, [])), (97, (.isub, 1, 0, 0, 0, [])), (98, (.ireturn, 1, 0, 0, 0, [])), (99, (.iinc 2 1, 3, 0, 0, 0, [])), (102, (.iconst 0, 1, 0, 0, 0, [])), (103, (.istore 7, 2, 0, 0, 0, [])), (105, (.iload 7, 2, 0, 0, 0, [])), (107, (.iload 6, 2, 0, 0, 0, [])), (109, (.if_icmp .ge 17, 3, 126, 0, 0, []))],
  [(112, (.bipush 10, 2, 0, 0, 0, [])), (114, (.iload_n 3, 1, 0, 0, 0, [])), (115, (.imul, 1, 0, 0, 0, [])), (116, (.iload 5, 2, 0, 0, 0, [])), (118, (.iadd, 1, 0, 0, 0, [])), (119, (.istore_n 3, 1, 0, 0, 0, [])), (120, (.iinc 7 1, 3, 0, 0, 0, [])), (123, (.goto (-18), 3, 105, 0, 0, [])), (126, (.iload 4, 2, 0, 0, 0, []))],
  [(128, (.iload 6, 2, 0, 0, 0, [])), (130, (.iadd, 1, 0, 0, 0, [])), (131, (.istore 4, 2, 0, 0, 0, [])), (133, (.goto (-124), 3, 9, 0, 0, [])), (136, (.iload 4, 2, 0, 0, 0, [])), (138, (.ifCond .ne 8, 3, 146, 0, 0, [])), (141, (.bipush (-100), 2, 0, 0, 0, [])), (143, (.iload_n 2, 1, 0, 0, 0, []))],
  [(144, (.isub, 1, 0, 0, 0, [])), (145, (.ireturn, 1, 0, 0, 0, [])), (146, (.iload_n 1, 1, 0, 0, 0, [])), (147, (.bipush 6, 2, 0, 0, 0, [])), (149, (.if_icmp .ge 10, 3, 159, 0, 0, [])), (152, (.aload_n 0, 1, 0, 0, 0, [])), (153, (.getfield 49, 3, 7, 19, 0, [])), (156, (.iload_n 1, 1, 0, 0, 0, [])), (157, (.iload_n 3, 1, 0, 0, 0, [])), (158, (.iastore, 1, 0, 0, 0, [])), (159, (.iinc 1 1, 3, 0, 0, 0, []))],
  [(162, (.iload_n 2, 1, 0, 0, 0, [])), (163, (.aload_n 0, 1, 0, 0, 0, [])), (164, (.getfield 124, 3, 7, 12, 0, [])), (167, (.if_icmp .ne 5, 3, 172, 0, 0, [])), (170, (.iload_n 1, 1, 0, 0, 0, [])), (171, (.ireturn, 1, 0, 0, 0, [])), (172, (.aload_n 0, 1, 0, 0, 0, [])), (173, (.iload_n 2, 1, 0, 0, 0, [])), (174, (.invokevirtual 127, 7, 146, 2, 1, []))],
  [(177, (.bipush 59, 2, 0, 0, 0, [])), (179, (.if_icmp .eq 8, 3, 187, 0, 0, [])), (182, (.bipush (-100), 2, 0, 0, 0, [])), (184, (.iload_n 2, 1, 0, 0, 0, [])), (185, (.isub, 1, 0, 0, 0, [])), (186, (.ireturn, 1, 0, 0, 0, [])), (187, (.iinc 2 1, 3, 0, 0, 0, [])), (190, (.goto (-186), 3, 4, 0, 0, []))]]
def zt_X10_words : zm_T := [[(0, (.aload_n 0, 1, 0, 0, 0, [])), (1, (.invokevirtual 130, 7, 147, 1, 1, [])), (4, (.istore_n 1, 1, 0, 0, 0, [])), (5, (.aload_n 0, 1, 0, 0, 0, [])), (6, (.iconst 0, 1, 0, 0, 0, [])), (7, (.putfield 124, 3, 7, 12, 0, [])), (10, (.iload_n 1, 1, 0, 0, 0, [])), (11, (.ifCond .ge 5, 3, 16, 0, 0, [])), (14, (.iload_n 1, 1, 0, 0, 0, [])), (15, (.ireturn, 1, 0, 0, 0, []))],
  [(16, (.aload_n 0, 1, 0, 0, 0, [])), (17, (.getfield 74, 3, 7, 2, 0, [])), (20, (.iload_n 1, 1, 0, 0, 0, [])), (21, (.iadd, 1, 0, 0, 0, [])), (22, (.bipush 6, 2, 0, 0, 0, [])), (24, (.if_icmp .le 6, 3, 30, 0, 0, [])), (27, (.bipush (-4), 2, 0, 0, 0, [])), (29, (.ireturn, 1, 0, 0, 0, [])), (30, (.iconst 0, 1, 0, 0, 0, [])), (31, (.istore_n 2, 1, 0, 0, 0, []))],
  [(32, (.iload_n 2, 1, 0, 0, 0, [])), (33, (.iload_n 1, 1, 0, 0, 0, [])), (34, (.if_icmp .ge 31, 3, 65, 0, 0, [])), (37, (.aload_n 0, 1, 0, 0, 0, [])), (38, (.getfield 15, 3, 7, 1, 0, [])), (41, (.aload_n 0, 1, 0, 0, 0, [])), (42, (.dup, 1, 0, 0, 0, [])), (43, (.getfield 74, 3, 7, 2, 0, [])), (46, (.dup_x1, 1, 0, 0, 0, [])), (47, (.iconst 1, 1, 0, 0, 0, []))],
  [(48, (.iadd, 1, 0, 0, 0, [])), (49, (.putfield 74, 3, 7, 2, 0, [])), (52, (.aload_n 0, 1, 0, 0, 0, [])), (53, (.getfield 49, 3, 7, 19, 0, [])), (56, (.iload_n 2, 1, 0, 0, 0, [])), (57, (.iaload, 1, 0, 0, 0, [])), (58, (.iastore, 1, 0, 0, 0, [])), (59, (.iinc 2 1, 3, 0, 0, 0, [])), (62, (.goto (-30), 3, 32, 0, 0, []))],
  [(65, (.aload_n 0, 1, 0, 0, 0, [])), (66, (.getfield 74, 3, 7, 2, 0, [])), (69, (.ireturn, 1, 0, 0, 0, []))]]
def zt_X10_becomes : zm_T := [[(0, (.aload_n 0, 1, 0, 0, 0, [])), (1, (.iload_n 1, 1, 0, 0, 0, [])), (2, (.invokevirtual 134, 7, 126, 2, 1, [])), (5, (.ifCond .ne 5, 3, 10, 0, 0, [])), (8, (.iconst (-1), 1, 0, 0, 0, [])), (9, (.ireturn, 1, 0, 0, 0, [])), (10, (.aload_n 0, 1, 0, 0, 0, [])), (11, (.iload_n 2, 1, 0, 0, 0, [])), (12, (.invokevirtual 110, 7, 133, 2, 1, [])), (15, (.ifCond .ne 6, 3, 21, 0, 0, []))],
  [(18, (.bipush (-2), 2, 0, 0, 0, [])), (20, (.ireturn, 1, 0, 0, 0, [])), (21, (.aload_n 0, 1, 0, 0, 0, [])), (22, (.getfield 15, 3, 7, 1, 0, [])), (25, (.iload_n 1, 1, 0, 0, 0, [])), (26, (.iaload, 1, 0, 0, 0, [])), (27, (.istore_n 3, 1, 0, 0, 0, [])), (28, (.aload_n 0, 1, 0, 0, 0, [])), (29, (.getfield 15, 3, 7, 1, 0, []))],
  [(32, (.iload_n 1, 1, 0, 0, 0, [])), (33, (.iload_n 2, 1, 0, 0, 0, [])), (34, (.iastore, 1, 0, 0, 0, [])), (35, (.iload_n 3, 1, 0, 0, 0, [])), (36, (.ireturn, 1, 0, 0, 0, []))]]
def zt_X10_of : zm_T := [[(0, (.aload_n 0, 1, 0, 0, 0, [])), (1, (.iload_n 1, 1, 0, 0, 0, [])), (2, (.invokevirtual 134, 7, 126, 2, 1, [])), (5, (.ifCond .ne 5, 3, 10, 0, 0, [])), (8, (.iconst (-1), 1, 0, 0, 0, [])), (9, (.ireturn, 1, 0, 0, 0, [])), (10, (.aload_n 0, 1, 0, 0, 0, [])), (11, (.getfield 15, 3, 7, 1, 0, [])), (14, (.iload_n 1, 1, 0, 0, 0, [])), (15, (.iaload, 1, 0, 0, 0, []))],
  [(16, (.istore_n 3, 1, 0, 0, 0, [])), (17, (.iload_n 2, 1, 0, 0, 0, [])), (18, (.tableswitch 50 0 3 #[30, 32, 37, 44], 30, 68, 0, 0, [(0, 48), (1, 50), (2, 55), (3, 62)]))],
  [],
  [(48, (.iload_n 3, 1, 0, 0, 0, [])), (49, (.ireturn, 1, 0, 0, 0, [])), (50, (.iload_n 3, 1, 0, 0, 0, [])), (51, (.invokestatic 81, 3, 130, 1, 1, [])), (54, (.ireturn, 1, 0, 0, 0, [])), (55, (.aload_n 0, 1, 0, 0, 0, [])), (56, (.iload_n 3, 1, 0, 0, 0, [])), (57, (.iload_n 3, 1, 0, 0, 0, [])), (58, (.invokevirtual 101, 7, 136, 3, 1, [])), (61, (.ireturn, 1, 0, 0, 0, [])), (62, (.aload_n 0, 1, 0, 0, 0, [])), (63, (.iload_n 3, 1, 0, 0, 0, []))],
  [(64, (.invokevirtual 137, 7, 141, 2, 1, [])), (67, (.ireturn, 1, 0, 0, 0, [])), (68, (.iconst (-1), 1, 0, 0, 0, [])), (69, (.ireturn, 1, 0, 0, 0, []))]]
def zt_X10_overlaps : zm_T := [[(0, (.aload_n 0, 1, 0, 0, 0, [])), (1, (.iload_n 1, 1, 0, 0, 0, [])), (2, (.invokevirtual 134, 7, 126, 2, 1, [])), (5, (.ifCond .eq 29, 3, 34, 0, 0, [])), (8, (.aload_n 0, 1, 0, 0, 0, [])), (9, (.iload_n 2, 1, 0, 0, 0, [])), (10, (.invokevirtual 134, 7, 126, 2, 1, [])), (13, (.ifCond .eq 21, 3, 34, 0, 0, []))],
  [(16, (.aload_n 0, 1, 0, 0, 0, [])), (17, (.getfield 15, 3, 7, 1, 0, [])), (20, (.iload_n 1, 1, 0, 0, 0, [])), (21, (.iaload, 1, 0, 0, 0, [])), (22, (.aload_n 0, 1, 0, 0, 0, [])), (23, (.getfield 15, 3, 7, 1, 0, [])), (26, (.iload_n 2, 1, 0, 0, 0, [])), (27, (.iaload, 1, 0, 0, 0, [])), (28, (.invokestatic 94, 3, 135, 2, 1, [])), (31, (.goto 4, 3, 35, 0, 0, []))],
  [(34, (.iconst (-1), 1, 0, 0, 0, [])), (35, (.ireturn, 1, 0, 0, 0, []))]]
def zt_X10_number : zm_T := [[(0, (.aload_n 0, 1, 0, 0, 0, [])), (1, (.iload_n 1, 1, 0, 0, 0, [])), (2, (.invokevirtual 134, 7, 126, 2, 1, [])), (5, (.ifCond .eq 30, 3, 35, 0, 0, [])), (8, (.aload_n 0, 1, 0, 0, 0, [])), (9, (.iload_n 2, 1, 0, 0, 0, [])), (10, (.invokevirtual 134, 7, 126, 2, 1, [])), (13, (.ifCond .eq 22, 3, 35, 0, 0, []))],
  [(16, (.aload_n 0, 1, 0, 0, 0, [])), (17, (.aload_n 0, 1, 0, 0, 0, [])), (18, (.getfield 15, 3, 7, 1, 0, [])), (21, (.iload_n 1, 1, 0, 0, 0, [])), (22, (.iaload, 1, 0, 0, 0, [])), (23, (.aload_n 0, 1, 0, 0, 0, [])), (24, (.getfield 15, 3, 7, 1, 0, [])), (27, (.iload_n 2, 1, 0, 0, 0, [])), (28, (.iaload, 1, 0, 0, 0, [])), (29, (.invokevirtual 101, 7, 136, 3, 1, []))],
  [(32, (.goto 4, 3, 36, 0, 0, [])), (35, (.iconst (-1), 1, 0, 0, 0, [])), (36, (.ireturn, 1, 0, 0, 0, []))]]
def zt_X10_isIn : zm_T := [[(0, (.aload_n 0, 1, 0, 0, 0, [])), (1, (.iload_n 1, 1, 0, 0, 0, [])), (2, (.invokevirtual 134, 7, 126, 2, 1, [])), (5, (.ifCond .eq 11, 3, 16, 0, 0, [])), (8, (.aload_n 0, 1, 0, 0, 0, [])), (9, (.iload_n 2, 1, 0, 0, 0, [])), (10, (.invokevirtual 134, 7, 126, 2, 1, [])), (13, (.ifCond .ne 5, 3, 18, 0, 0, []))],
  [(16, (.iconst (-1), 1, 0, 0, 0, [])), (17, (.ireturn, 1, 0, 0, 0, [])), (18, (.aload_n 0, 1, 0, 0, 0, [])), (19, (.getfield 15, 3, 7, 1, 0, [])), (22, (.iload_n 1, 1, 0, 0, 0, [])), (23, (.iaload, 1, 0, 0, 0, [])), (24, (.aload_n 0, 1, 0, 0, 0, [])), (25, (.getfield 15, 3, 7, 1, 0, [])), (28, (.iload_n 2, 1, 0, 0, 0, [])), (29, (.iaload, 1, 0, 0, 0, [])), (30, (.invokestatic 97, 3, 137, 2, 1, []))],
  [(33, (.ifCond .eq 7, 3, 40, 0, 0, [])), (36, (.iconst 1, 1, 0, 0, 0, [])), (37, (.goto 4, 3, 41, 0, 0, [])), (40, (.iconst 0, 1, 0, 0, 0, [])), (41, (.ireturn, 1, 0, 0, 0, []))]]
def zt_X10_chance : zm_T := [[(0, (.aload_n 0, 1, 0, 0, 0, [])), (1, (.iload_n 1, 1, 0, 0, 0, [])), (2, (.invokevirtual 134, 7, 126, 2, 1, [])), (5, (.ifCond .eq 36, 3, 41, 0, 0, [])), (8, (.aload_n 0, 1, 0, 0, 0, [])), (9, (.iload_n 2, 1, 0, 0, 0, [])), (10, (.invokevirtual 134, 7, 126, 2, 1, [])), (13, (.ifCond .eq 28, 3, 41, 0, 0, []))],
  [(16, (.iload_n 3, 1, 0, 0, 0, [])), (17, (.invokestatic 140, 3, 127, 1, 1, [])), (20, (.ifCond .eq 21, 3, 41, 0, 0, [])), (23, (.aload_n 0, 1, 0, 0, 0, [])), (24, (.getfield 15, 3, 7, 1, 0, [])), (27, (.iload_n 1, 1, 0, 0, 0, [])), (28, (.iaload, 1, 0, 0, 0, [])), (29, (.aload_n 0, 1, 0, 0, 0, [])), (30, (.getfield 15, 3, 7, 1, 0, []))],
  [(33, (.iload_n 2, 1, 0, 0, 0, [])), (34, (.iaload, 1, 0, 0, 0, [])), (35, (.invokestatic 104, 3, 138, 2, 1, [])), (38, (.ifCond .ne 7, 3, 45, 0, 0, [])), (41, (.ldc2_w 143, 0, 0, 0, 0, [(-9223372036854775808, 0)])), (44, (.lreturn, 1, 0, 0, 0, [])), (45, (.aload_n 0, 1, 0, 0, 0, [])), (46, (.aload_n 0, 1, 0, 0, 0, [])), (47, (.getfield 15, 3, 7, 1, 0, []))],
  [(50, (.iload_n 1, 1, 0, 0, 0, [])), (51, (.iaload, 1, 0, 0, 0, [])), (52, (.aload_n 0, 1, 0, 0, 0, [])), (53, (.getfield 15, 3, 7, 1, 0, [])), (56, (.iload_n 2, 1, 0, 0, 0, [])), (57, (.iaload, 1, 0, 0, 0, [])), (58, (.iload_n 3, 1, 0, 0, 0, [])), (59, (.invokevirtual 145, 7, 143, 4, 2, [])), (62, (.lreturn, 1, 0, 0, 0, []))]]
def zt_X10_answered : zm_T := [[(0, (.aload_n 0, 1, 0, 0, 0, [])), (1, (.iload_n 1, 1, 0, 0, 0, [])), (2, (.invokevirtual 134, 7, 126, 2, 1, [])), (5, (.ifCond .eq 10, 3, 15, 0, 0, [])), (8, (.iload_n 2, 1, 0, 0, 0, [])), (9, (.invokestatic 140, 3, 127, 1, 1, [])), (12, (.ifCond .ne 7, 3, 19, 0, 0, [])), (15, (.ldc2_w 143, 0, 0, 0, 0, [(-9223372036854775808, 0)]))],
  [(18, (.lreturn, 1, 0, 0, 0, [])), (19, (.aload_n 0, 1, 0, 0, 0, [])), (20, (.getfield 15, 3, 7, 1, 0, [])), (23, (.iload_n 1, 1, 0, 0, 0, [])), (24, (.iaload, 1, 0, 0, 0, [])), (25, (.istore_n 3, 1, 0, 0, 0, [])), (26, (.aload_n 0, 1, 0, 0, 0, [])), (27, (.aload_n 0, 1, 0, 0, 0, [])), (28, (.iload_n 3, 1, 0, 0, 0, [])), (29, (.invokevirtual 137, 7, 141, 2, 1, []))],
  [(32, (.iload_n 3, 1, 0, 0, 0, [])), (33, (.iload_n 2, 1, 0, 0, 0, [])), (34, (.invokevirtual 145, 7, 143, 4, 2, [])), (37, (.lreturn, 1, 0, 0, 0, []))]]
def zt_X10_trail : zm_T := [[(0, (.aload_n 0, 1, 0, 0, 0, [])), (1, (.iload_n 1, 1, 0, 0, 0, [])), (2, (.invokevirtual 134, 7, 126, 2, 1, [])), (5, (.ifCond .eq 12, 3, 17, 0, 0, [])), (8, (.iload_n 2, 1, 0, 0, 0, [])), (9, (.iconst 0, 1, 0, 0, 0, [])), (10, (.iconst 1, 1, 0, 0, 0, [])), (11, (.invokestatic 77, 3, 125, 3, 1, [])), (14, (.ifCond .ne 5, 3, 19, 0, 0, []))],
  [(17, (.iconst (-1), 1, 0, 0, 0, [])), (18, (.ireturn, 1, 0, 0, 0, [])), (19, (.iconst 0, 1, 0, 0, 0, [])), (20, (.istore_n 3, 1, 0, 0, 0, [])), (21, (.aload_n 0, 1, 0, 0, 0, [])), (22, (.getfield 15, 3, 7, 1, 0, [])), (25, (.iload_n 1, 1, 0, 0, 0, [])), (26, (.iaload, 1, 0, 0, 0, [])), (27, (.istore 4, 2, 0, 0, 0, [])), (29, (.iconst 0, 1, 0, 0, 0, [])), (30, (.istore 5, 2, 0, 0, 0, []))],
  [(32, (.iload 5, 2, 0, 0, 0, [])), (34, (.iload_n 3, 1, 0, 0, 0, [])), (35, (.if_icmp .ge 34, 3, 69, 0, 0, [])), (38, (.aload_n 0, 1, 0, 0, 0, [])), (39, (.getfield 71, 3, 7, 28, 0, [])), (42, (.iload 5, 2, 0, 0, 0, [])), (44, (.iaload, 1, 0, 0, 0, [])), (45, (.iload 4, 2, 0, 0, 0, [])), (47, (.if_icmp .ne 16, 3, 63, 0, 0, []))],
  [(50, (.iload_n 2, 1, 0, 0, 0, [])), (51, (.ifCond .ne 7, 3, 58, 0, 0, [])), (54, (.iload_n 3, 1, 0, 0, 0, [])), (55, (.goto 7, 3, 62, 0, 0, [])), (58, (.iload_n 3, 1, 0, 0, 0, [])), (59, (.iload 5, 2, 0, 0, 0, [])), (61, (.isub, 1, 0, 0, 0, [])), (62, (.ireturn, 1, 0, 0, 0, [])), (63, (.iinc 5 1, 3, 0, 0, 0, []))],
  [(66, (.goto (-34), 3, 32, 0, 0, [])), (69, (.aload_n 0, 1, 0, 0, 0, [])), (70, (.getfield 71, 3, 7, 28, 0, [])), (73, (.iload_n 3, 1, 0, 0, 0, [])), (74, (.iinc 3 1, 3, 0, 0, 0, [])), (77, (.iload 4, 2, 0, 0, 0, [])), (79, (.iastore, 1, 0, 0, 0, []))],
  [(80, (.aload_n 0, 1, 0, 0, 0, [])), (81, (.iload 4, 2, 0, 0, 0, [])), (83, (.invokevirtual 137, 7, 141, 2, 1, [])), (86, (.istore 4, 2, 0, 0, 0, [])), (88, (.goto (-59), 3, 29, 0, 0, []))]]
def zt_X10_rings : zm_T := [[(0, (.iload_n 1, 1, 0, 0, 0, [])), (1, (.iload_n 2, 1, 0, 0, 0, [])), (2, (.if_icmp .ne 32, 3, 34, 0, 0, [])), (5, (.aload_n 0, 1, 0, 0, 0, [])), (6, (.aload_n 0, 1, 0, 0, 0, [])), (7, (.getfield 15, 3, 7, 1, 0, [])), (10, (.aload_n 0, 1, 0, 0, 0, [])), (11, (.getfield 55, 3, 7, 22, 0, [])), (14, (.iload_n 2, 1, 0, 0, 0, [])), (15, (.iconst 1, 1, 0, 0, 0, []))],
  [(16, (.isub, 1, 0, 0, 0, [])), (17, (.iaload, 1, 0, 0, 0, [])), (18, (.iaload, 1, 0, 0, 0, [])), (19, (.aload_n 0, 1, 0, 0, 0, [])), (20, (.getfield 15, 3, 7, 1, 0, [])), (23, (.aload_n 0, 1, 0, 0, 0, [])), (24, (.getfield 55, 3, 7, 22, 0, [])), (27, (.iconst 0, 1, 0, 0, 0, [])), (28, (.iaload, 1, 0, 0, 0, [])), (29, (.iaload, 1, 0, 0, 0, [])), (30, (.invokevirtual 149, 7, 140, 3, 1, []))],
  [(33, (.ireturn, 1, 0, 0, 0, [])), (34, (.iconst 0, 1, 0, 0, 0, [])), (35, (.istore_n 3, 1, 0, 0, 0, [])), (36, (.iload_n 3, 1, 0, 0, 0, [])), (37, (.aload_n 0, 1, 0, 0, 0, [])), (38, (.getfield 74, 3, 7, 2, 0, [])), (41, (.if_icmp .ge 110, 3, 151, 0, 0, [])), (44, (.iload_n 1, 1, 0, 0, 0, [])), (45, (.ifCond .eq 29, 3, 74, 0, 0, []))],
  [(48, (.aload_n 0, 1, 0, 0, 0, [])), (49, (.aload_n 0, 1, 0, 0, 0, [])), (50, (.getfield 15, 3, 7, 1, 0, [])), (53, (.aload_n 0, 1, 0, 0, 0, [])), (54, (.getfield 55, 3, 7, 22, 0, [])), (57, (.iload_n 1, 1, 0, 0, 0, [])), (58, (.iconst 1, 1, 0, 0, 0, [])), (59, (.isub, 1, 0, 0, 0, [])), (60, (.iaload, 1, 0, 0, 0, [])), (61, (.iaload, 1, 0, 0, 0, [])), (62, (.aload_n 0, 1, 0, 0, 0, [])), (63, (.getfield 15, 3, 7, 1, 0, []))],
  [(66, (.iload_n 3, 1, 0, 0, 0, [])), (67, (.iaload, 1, 0, 0, 0, [])), (68, (.invokevirtual 149, 7, 140, 3, 1, [])), (71, (.ifCond .eq 7, 3, 78, 0, 0, [])), (74, (.iconst 1, 1, 0, 0, 0, [])), (75, (.goto 4, 3, 79, 0, 0, [])), (78, (.iconst 0, 1, 0, 0, 0, [])), (79, (.istore 4, 2, 0, 0, 0, []))],
  [(81, (.iconst 0, 1, 0, 0, 0, [])), (82, (.istore 5, 2, 0, 0, 0, [])), (84, (.iload 5, 2, 0, 0, 0, [])), (86, (.iload_n 1, 1, 0, 0, 0, [])), (87, (.if_icmp .ge 30, 3, 117, 0, 0, [])), (90, (.iload 4, 2, 0, 0, 0, [])), (92, (.aload_n 0, 1, 0, 0, 0, [])), (93, (.getfield 55, 3, 7, 22, 0, []))],
  [(96, (.iload 5, 2, 0, 0, 0, [])), (98, (.iaload, 1, 0, 0, 0, [])), (99, (.iload_n 3, 1, 0, 0, 0, [])), (100, (.if_icmp .eq 7, 3, 107, 0, 0, [])), (103, (.iconst 1, 1, 0, 0, 0, [])), (104, (.goto 4, 3, 108, 0, 0, [])), (107, (.iconst 0, 1, 0, 0, 0, [])), (108, (.iand, 1, 0, 0, 0, [])), (109, (.istore 4, 2, 0, 0, 0, [])), (111, (.iinc 5 1, 3, 0, 0, 0, []))],
  [(114, (.goto (-30), 3, 84, 0, 0, [])), (117, (.iload 4, 2, 0, 0, 0, [])), (119, (.ifCond .ne 6, 3, 125, 0, 0, [])), (122, (.goto 23, 3, 145, 0, 0, [])), (125, (.aload_n 0, 1, 0, 0, 0, [])), (126, (.getfield 55, 3, 7, 22, 0, []))],
  [(129, (.iload_n 1, 1, 0, 0, 0, [])), (130, (.iload_n 3, 1, 0, 0, 0, [])), (131, (.iastore, 1, 0, 0, 0, [])), (132, (.aload_n 0, 1, 0, 0, 0, [])), (133, (.iload_n 1, 1, 0, 0, 0, [])), (134, (.iconst 1, 1, 0, 0, 0, [])), (135, (.iadd, 1, 0, 0, 0, [])), (136, (.iload_n 2, 1, 0, 0, 0, [])), (137, (.invokevirtual 152, 7, 157, 3, 1, [])), (140, (.ifCond .eq 5, 3, 145, 0, 0, [])), (143, (.iconst 1, 1, 0, 0, 0, []))],
  [(144, (.ireturn, 1, 0, 0, 0, [])), (145, (.iinc 3 1, 3, 0, 0, 0, [])), (148, (.goto (-112), 3, 36, 0, 0, [])), (151, (.iconst 0, 1, 0, 0, 0, [])), (152, (.ireturn, 1, 0, 0, 0, []))]]
def zt_X10_ring : zm_T := [[(0, (.iconst 3, 1, 0, 0, 0, [])), (1, (.istore_n 2, 1, 0, 0, 0, [])), (2, (.iload_n 2, 1, 0, 0, 0, [])), (3, (.aload_n 0, 1, 0, 0, 0, [])), (4, (.getfield 74, 3, 7, 2, 0, [])), (7, (.if_icmp .gt 53, 3, 60, 0, 0, [])), (10, (.aload_n 0, 1, 0, 0, 0, [])), (11, (.iconst 0, 1, 0, 0, 0, [])), (12, (.iload_n 2, 1, 0, 0, 0, [])), (13, (.invokevirtual 152, 7, 157, 3, 1, []))],
  [(16, (.ifCond .ne 6, 3, 22, 0, 0, [])), (19, (.goto 35, 3, 54, 0, 0, [])), (22, (.iload_n 1, 1, 0, 0, 0, [])), (23, (.iconst (-1), 1, 0, 0, 0, [])), (24, (.if_icmp .ne 7, 3, 31, 0, 0, [])), (27, (.iload_n 2, 1, 0, 0, 0, [])), (28, (.goto 25, 3, 53, 0, 0, [])), (31, (.iload_n 1, 1, 0, 0, 0, []))],
  [(32, (.iconst 0, 1, 0, 0, 0, [])), (33, (.iload_n 2, 1, 0, 0, 0, [])), (34, (.iconst 1, 1, 0, 0, 0, [])), (35, (.isub, 1, 0, 0, 0, [])), (36, (.invokestatic 77, 3, 125, 3, 1, [])), (39, (.ifCond .eq 12, 3, 51, 0, 0, [])), (42, (.aload_n 0, 1, 0, 0, 0, [])), (43, (.getfield 55, 3, 7, 22, 0, [])), (46, (.iload_n 1, 1, 0, 0, 0, [])), (47, (.iaload, 1, 0, 0, 0, []))],
  [(48, (.goto 5, 3, 53, 0, 0, [])), (51, (.bipush (-5), 2, 0, 0, 0, [])), (53, (.ireturn, 1, 0, 0, 0, [])), (54, (.iinc 2 1, 3, 0, 0, 0, [])), (57, (.goto (-55), 3, 2, 0, 0, [])), (60, (.bipush (-5), 2, 0, 0, 0, [])), (62, (.ireturn, 1, 0, 0, 0, []))]]
def zt_X10_sets : zm_T := [[(0, (.iload_n 1, 1, 0, 0, 0, [])), (1, (.iconst 0, 1, 0, 0, 0, [])), (2, (.iconst 1, 1, 0, 0, 0, [])), (3, (.aload_n 0, 1, 0, 0, 0, [])), (4, (.getfield 74, 3, 7, 2, 0, [])), (7, (.ishl, 1, 0, 0, 0, [])), (8, (.iconst 1, 1, 0, 0, 0, [])), (9, (.isub, 1, 0, 0, 0, [])), (10, (.invokestatic 77, 3, 125, 3, 1, [])), (13, (.ifCond .ne 5, 3, 18, 0, 0, []))],
  [(16, (.iconst 0, 1, 0, 0, 0, [])), (17, (.ireturn, 1, 0, 0, 0, [])), (18, (.aload_n 0, 1, 0, 0, 0, [])), (19, (.iload_n 1, 1, 0, 0, 0, [])), (20, (.invokestatic 155, 3, 208, 1, 1, [])), (23, (.putfield 160, 3, 7, 26, 0, [])), (26, (.iconst 0, 1, 0, 0, 0, [])), (27, (.istore_n 2, 1, 0, 0, 0, [])), (28, (.iconst 0, 1, 0, 0, 0, [])), (29, (.istore_n 3, 1, 0, 0, 0, [])), (30, (.iload_n 3, 1, 0, 0, 0, [])), (31, (.aload_n 0, 1, 0, 0, 0, []))],
  [(32, (.getfield 74, 3, 7, 2, 0, [])), (35, (.if_icmp .ge 36, 3, 71, 0, 0, [])), (38, (.aload_n 0, 1, 0, 0, 0, [])), (39, (.getfield 160, 3, 7, 26, 0, [])), (42, (.iconst 4, 1, 0, 0, 0, [])), (43, (.if_icmp .gt 28, 3, 71, 0, 0, [])), (46, (.iload_n 1, 1, 0, 0, 0, [])), (47, (.iload_n 3, 1, 0, 0, 0, []))],
  [(48, (.ishr, 1, 0, 0, 0, [])), (49, (.iconst 1, 1, 0, 0, 0, [])), (50, (.iand, 1, 0, 0, 0, [])), (51, (.iconst 1, 1, 0, 0, 0, [])), (52, (.if_icmp .ne 13, 3, 65, 0, 0, [])), (55, (.aload_n 0, 1, 0, 0, 0, [])), (56, (.getfield 65, 3, 7, 25, 0, [])), (59, (.iload_n 2, 1, 0, 0, 0, [])), (60, (.iinc 2 1, 3, 0, 0, 0, [])), (63, (.iload_n 3, 1, 0, 0, 0, []))],
  [(64, (.iastore, 1, 0, 0, 0, [])), (65, (.iinc 3 1, 3, 0, 0, 0, [])), (68, (.goto (-38), 3, 30, 0, 0, [])), (71, (.iconst 1, 1, 0, 0, 0, [])), (72, (.ireturn, 1, 0, 0, 0, []))]]
def zt_X10_isField : zm_T := [[(0, (.iconst 0, 1, 0, 0, 0, [])), (1, (.istore_n 1, 1, 0, 0, 0, [])), (2, (.iload_n 1, 1, 0, 0, 0, [])), (3, (.aload_n 0, 1, 0, 0, 0, [])), (4, (.getfield 160, 3, 7, 26, 0, [])), (7, (.if_icmp .ge 52, 3, 59, 0, 0, [])), (10, (.iconst 0, 1, 0, 0, 0, [])), (11, (.istore_n 2, 1, 0, 0, 0, [])), (12, (.iload_n 2, 1, 0, 0, 0, [])), (13, (.iload_n 1, 1, 0, 0, 0, [])), (14, (.if_icmp .ge 39, 3, 53, 0, 0, []))],
  [(17, (.aload_n 0, 1, 0, 0, 0, [])), (18, (.getfield 15, 3, 7, 1, 0, [])), (21, (.aload_n 0, 1, 0, 0, 0, [])), (22, (.getfield 65, 3, 7, 25, 0, [])), (25, (.iload_n 1, 1, 0, 0, 0, [])), (26, (.iaload, 1, 0, 0, 0, [])), (27, (.iaload, 1, 0, 0, 0, [])), (28, (.aload_n 0, 1, 0, 0, 0, [])), (29, (.getfield 15, 3, 7, 1, 0, []))],
  [(32, (.aload_n 0, 1, 0, 0, 0, [])), (33, (.getfield 65, 3, 7, 25, 0, [])), (36, (.iload_n 2, 1, 0, 0, 0, [])), (37, (.iaload, 1, 0, 0, 0, [])), (38, (.iaload, 1, 0, 0, 0, [])), (39, (.invokestatic 104, 3, 138, 2, 1, [])), (42, (.ifCond .ne 5, 3, 47, 0, 0, [])), (45, (.iconst 0, 1, 0, 0, 0, [])), (46, (.ireturn, 1, 0, 0, 0, [])), (47, (.iinc 2 1, 3, 0, 0, 0, []))],
  [(50, (.goto (-38), 3, 12, 0, 0, [])), (53, (.iinc 1 1, 3, 0, 0, 0, [])), (56, (.goto (-54), 3, 2, 0, 0, [])), (59, (.iconst 1, 1, 0, 0, 0, [])), (60, (.ireturn, 1, 0, 0, 0, []))]]
def zt_X10_square : zm_T := [[(0, (.iload_n 1, 1, 0, 0, 0, [])), (1, (.iload_n 3, 1, 0, 0, 0, [])), (2, (.if_icmp .ne 5, 3, 7, 0, 0, [])), (5, (.lconst 1, 1, 0, 0, 0, [])), (6, (.lreturn, 1, 0, 0, 0, [])), (7, (.lconst 0, 1, 0, 0, 0, [])), (8, (.lstore 4, 2, 0, 0, 0, [])), (10, (.lconst 1, 1, 0, 0, 0, [])), (11, (.lstore 6, 2, 0, 0, 0, [])), (13, (.iconst 0, 1, 0, 0, 0, [])), (14, (.istore 8, 2, 0, 0, 0, []))],
  [(16, (.iload 8, 2, 0, 0, 0, [])), (18, (.iload_n 3, 1, 0, 0, 0, [])), (19, (.if_icmp .ge 79, 3, 98, 0, 0, [])), (22, (.iload_n 2, 1, 0, 0, 0, [])), (23, (.iload 8, 2, 0, 0, 0, [])), (25, (.ishr, 1, 0, 0, 0, [])), (26, (.iconst 1, 1, 0, 0, 0, [])), (27, (.iand, 1, 0, 0, 0, [])), (28, (.iconst 1, 1, 0, 0, 0, [])), (29, (.if_icmp .ne 6, 3, 35, 0, 0, []))],
  [(32, (.goto 60, 3, 92, 0, 0, [])), (35, (.aload_n 0, 1, 0, 0, 0, [])), (36, (.getfield 68, 3, 7, 27, 0, [])), (39, (.bipush 6, 2, 0, 0, 0, [])), (41, (.iload_n 1, 1, 0, 0, 0, [])), (42, (.imul, 1, 0, 0, 0, [])), (43, (.iload 8, 2, 0, 0, 0, [])), (45, (.iadd, 1, 0, 0, 0, [])), (46, (.laload, 1, 0, 0, 0, [])), (47, (.lconst 0, 1, 0, 0, 0, []))],
  [(48, (.lcmp, 1, 0, 0, 0, [])), (49, (.ifCond .eq 38, 3, 87, 0, 0, [])), (52, (.lload 4, 2, 0, 0, 0, [])), (54, (.lload 6, 2, 0, 0, 0, [])), (56, (.aload_n 0, 1, 0, 0, 0, [])), (57, (.getfield 68, 3, 7, 27, 0, [])), (60, (.bipush 6, 2, 0, 0, 0, [])), (62, (.iload_n 1, 1, 0, 0, 0, [])), (63, (.imul, 1, 0, 0, 0, []))],
  [(64, (.iload 8, 2, 0, 0, 0, [])), (66, (.iadd, 1, 0, 0, 0, [])), (67, (.laload, 1, 0, 0, 0, [])), (68, (.lmul, 1, 0, 0, 0, [])), (69, (.aload_n 0, 1, 0, 0, 0, [])), (70, (.iload_n 1, 1, 0, 0, 0, [])), (71, (.iconst 1, 1, 0, 0, 0, [])), (72, (.iadd, 1, 0, 0, 0, [])), (73, (.iload_n 2, 1, 0, 0, 0, [])), (74, (.iconst 1, 1, 0, 0, 0, [])), (75, (.iload 8, 2, 0, 0, 0, [])), (77, (.ishl, 1, 0, 0, 0, [])), (78, (.ior, 1, 0, 0, 0, [])), (79, (.iload_n 3, 1, 0, 0, 0, []))],
  [(80, (.invokevirtual 163, 7, 161, 4, 2, [])), (83, (.lmul, 1, 0, 0, 0, [])), (84, (.ladd, 1, 0, 0, 0, [])), (85, (.lstore 4, 2, 0, 0, 0, [])), (87, (.lload 6, 2, 0, 0, 0, [])), (89, (.lneg, 1, 0, 0, 0, [])), (90, (.lstore 6, 2, 0, 0, 0, [])), (92, (.iinc 8 1, 3, 0, 0, 0, [])), (95, (.goto (-79), 3, 16, 0, 0, []))],
  [(98, (.lload 4, 2, 0, 0, 0, [])), (100, (.lreturn, 1, 0, 0, 0, []))]]
def zt_X10_fills : zm_T := [[(0, (.aload_n 0, 1, 0, 0, 0, [])), (1, (.getfield 160, 3, 7, 26, 0, [])), (4, (.istore_n 2, 1, 0, 0, 0, [])), (5, (.iconst 0, 1, 0, 0, 0, [])), (6, (.istore_n 3, 1, 0, 0, 0, [])), (7, (.iload_n 3, 1, 0, 0, 0, [])), (8, (.iload_n 2, 1, 0, 0, 0, [])), (9, (.if_icmp .gt 118, 3, 127, 0, 0, [])), (12, (.iconst 0, 1, 0, 0, 0, [])), (13, (.istore 4, 2, 0, 0, 0, [])), (15, (.iload 4, 2, 0, 0, 0, []))],
  [(17, (.iload_n 2, 1, 0, 0, 0, [])), (18, (.if_icmp .gt 103, 3, 121, 0, 0, [])), (21, (.iload_n 3, 1, 0, 0, 0, [])), (22, (.ifCond .ne 17, 3, 39, 0, 0, [])), (25, (.iload 4, 2, 0, 0, 0, [])), (27, (.iload_n 2, 1, 0, 0, 0, [])), (28, (.if_icmp .ge 7, 3, 35, 0, 0, [])), (31, (.lconst 1, 1, 0, 0, 0, []))],
  [(32, (.goto 49, 3, 81, 0, 0, [])), (35, (.lconst 0, 1, 0, 0, 0, [])), (36, (.goto 45, 3, 81, 0, 0, [])), (39, (.iload 4, 2, 0, 0, 0, [])), (41, (.iload_n 2, 1, 0, 0, 0, [])), (42, (.if_icmp .ge 36, 3, 78, 0, 0, [])), (45, (.aload_n 0, 1, 0, 0, 0, [])), (46, (.aload_n 0, 1, 0, 0, 0, [])), (47, (.getfield 15, 3, 7, 1, 0, []))],
  [(50, (.aload_n 0, 1, 0, 0, 0, [])), (51, (.getfield 65, 3, 7, 25, 0, [])), (54, (.iload 4, 2, 0, 0, 0, [])), (56, (.iaload, 1, 0, 0, 0, [])), (57, (.iaload, 1, 0, 0, 0, [])), (58, (.aload_n 0, 1, 0, 0, 0, [])), (59, (.getfield 15, 3, 7, 1, 0, [])), (62, (.aload_n 0, 1, 0, 0, 0, [])), (63, (.getfield 65, 3, 7, 25, 0, []))],
  [(66, (.iload_n 3, 1, 0, 0, 0, [])), (67, (.iconst 1, 1, 0, 0, 0, [])), (68, (.isub, 1, 0, 0, 0, [])), (69, (.iaload, 1, 0, 0, 0, [])), (70, (.iaload, 1, 0, 0, 0, [])), (71, (.invokevirtual 101, 7, 136, 3, 1, [])), (74, (.i2l, 1, 0, 0, 0, [])), (75, (.goto 6, 3, 81, 0, 0, [])), (78, (.ldc2_w 166, 0, 0, 0, 0, [(-1, 0)]))],
  [(81, (.lstore 5, 2, 0, 0, 0, [])), (83, (.aload_n 0, 1, 0, 0, 0, [])), (84, (.getfield 68, 3, 7, 27, 0, [])), (87, (.bipush 6, 2, 0, 0, 0, [])), (89, (.iload_n 3, 1, 0, 0, 0, [])), (90, (.imul, 1, 0, 0, 0, [])), (91, (.iload 4, 2, 0, 0, 0, [])), (93, (.iadd, 1, 0, 0, 0, [])), (94, (.iload 4, 2, 0, 0, 0, []))],
  [(96, (.iload_n 1, 1, 0, 0, 0, [])), (97, (.if_icmp .ne 15, 3, 112, 0, 0, [])), (100, (.iload_n 3, 1, 0, 0, 0, [])), (101, (.ifCond .ne 7, 3, 108, 0, 0, [])), (104, (.lconst 1, 1, 0, 0, 0, [])), (105, (.goto 9, 3, 114, 0, 0, [])), (108, (.lconst 0, 1, 0, 0, 0, [])), (109, (.goto 5, 3, 114, 0, 0, []))],
  [(112, (.lload 5, 2, 0, 0, 0, [])), (114, (.lastore, 1, 0, 0, 0, [])), (115, (.iinc 4 1, 3, 0, 0, 0, [])), (118, (.goto (-103), 3, 15, 0, 0, [])), (121, (.iinc 3 1, 3, 0, 0, 0, [])), (124, (.goto (-117), 3, 7, 0, 0, [])), (127, (.return_, 1, 0, 0, 0, []))]]
def zt_X10_solved : zm_T := [[(0, (.aload_n 0, 1, 0, 0, 0, [])), (1, (.iload_n 1, 1, 0, 0, 0, [])), (2, (.invokevirtual 168, 7, 162, 2, 0, [])), (5, (.aload_n 0, 1, 0, 0, 0, [])), (6, (.iconst 0, 1, 0, 0, 0, [])), (7, (.iconst 0, 1, 0, 0, 0, [])), (8, (.aload_n 0, 1, 0, 0, 0, [])), (9, (.getfield 160, 3, 7, 26, 0, [])), (12, (.iconst 1, 1, 0, 0, 0, [])), (13, (.iadd, 1, 0, 0, 0, [])), (14, (.invokevirtual 163, 7, 161, 4, 2, []))],
  [(17, (.lstore_n 3, 1, 0, 0, 0, [])), (18, (.aload_n 0, 1, 0, 0, 0, [])), (19, (.iconst (-1), 1, 0, 0, 0, [])), (20, (.invokevirtual 168, 7, 162, 2, 0, [])), (23, (.lload_n 3, 1, 0, 0, 0, [])), (24, (.aload_n 0, 1, 0, 0, 0, [])), (25, (.iconst 0, 1, 0, 0, 0, [])), (26, (.iconst 0, 1, 0, 0, 0, [])), (27, (.aload_n 0, 1, 0, 0, 0, [])), (28, (.getfield 160, 3, 7, 26, 0, [])), (31, (.iconst 1, 1, 0, 0, 0, []))],
  [(32, (.iadd, 1, 0, 0, 0, [])), (33, (.invokevirtual 163, 7, 161, 4, 2, [])), (36, (.iload_n 2, 1, 0, 0, 0, [])), (37, (.invokestatic 114, 3, 142, 3, 2, [])), (40, (.lreturn, 1, 0, 0, 0, []))]]
def zt_X10_field : zm_T := [[(0, (.aload_n 0, 1, 0, 0, 0, [])), (1, (.iload_n 1, 1, 0, 0, 0, [])), (2, (.invokevirtual 172, 7, 159, 2, 1, [])), (5, (.ifCond .eq 45, 3, 50, 0, 0, [])), (8, (.aload_n 0, 1, 0, 0, 0, [])), (9, (.getfield 160, 3, 7, 26, 0, [])), (12, (.iconst 2, 1, 0, 0, 0, [])), (13, (.iconst 4, 1, 0, 0, 0, [])), (14, (.invokestatic 77, 3, 125, 3, 1, []))],
  [(17, (.ifCond .eq 33, 3, 50, 0, 0, [])), (20, (.aload_n 0, 1, 0, 0, 0, [])), (21, (.iload_n 2, 1, 0, 0, 0, [])), (22, (.invokevirtual 134, 7, 126, 2, 1, [])), (25, (.ifCond .eq 25, 3, 50, 0, 0, [])), (28, (.iload_n 1, 1, 0, 0, 0, [])), (29, (.iload_n 2, 1, 0, 0, 0, [])), (30, (.ishr, 1, 0, 0, 0, [])), (31, (.iconst 1, 1, 0, 0, 0, []))],
  [(32, (.iand, 1, 0, 0, 0, [])), (33, (.ifCond .eq 17, 3, 50, 0, 0, [])), (36, (.iload_n 3, 1, 0, 0, 0, [])), (37, (.invokestatic 140, 3, 127, 1, 1, [])), (40, (.ifCond .eq 10, 3, 50, 0, 0, [])), (43, (.aload_n 0, 1, 0, 0, 0, [])), (44, (.invokevirtual 175, 7, 160, 1, 1, [])), (47, (.ifCond .ne 7, 3, 54, 0, 0, []))],
  [(50, (.ldc2_w 143, 0, 0, 0, 0, [(-9223372036854775808, 0)])), (53, (.lreturn, 1, 0, 0, 0, [])), (54, (.iconst 0, 1, 0, 0, 0, [])), (55, (.istore 4, 2, 0, 0, 0, [])), (57, (.aload_n 0, 1, 0, 0, 0, [])), (58, (.getfield 65, 3, 7, 25, 0, [])), (61, (.iload 4, 2, 0, 0, 0, [])), (63, (.iaload, 1, 0, 0, 0, []))],
  [(64, (.iload_n 2, 1, 0, 0, 0, [])), (65, (.if_icmp .eq 9, 3, 74, 0, 0, [])), (68, (.iinc 4 1, 3, 0, 0, 0, [])), (71, (.goto (-14), 3, 57, 0, 0, [])), (74, (.aload_n 0, 1, 0, 0, 0, [])), (75, (.iload 4, 2, 0, 0, 0, [])), (77, (.iload_n 3, 1, 0, 0, 0, [])), (78, (.invokevirtual 179, 7, 163, 3, 2, []))],
  [(81, (.lreturn, 1, 0, 0, 0, []))]]
def zt_X10_mean : zm_T := [[(0, (.aload_n 0, 1, 0, 0, 0, [])), (1, (.iload_n 1, 1, 0, 0, 0, [])), (2, (.invokevirtual 172, 7, 159, 2, 1, [])), (5, (.ifCond .eq 29, 3, 34, 0, 0, [])), (8, (.aload_n 0, 1, 0, 0, 0, [])), (9, (.getfield 160, 3, 7, 26, 0, [])), (12, (.iconst 2, 1, 0, 0, 0, [])), (13, (.iconst 4, 1, 0, 0, 0, [])), (14, (.invokestatic 77, 3, 125, 3, 1, []))],
  [(17, (.ifCond .eq 17, 3, 34, 0, 0, [])), (20, (.iload_n 2, 1, 0, 0, 0, [])), (21, (.invokestatic 140, 3, 127, 1, 1, [])), (24, (.ifCond .eq 10, 3, 34, 0, 0, [])), (27, (.aload_n 0, 1, 0, 0, 0, [])), (28, (.invokevirtual 175, 7, 160, 1, 1, [])), (31, (.ifCond .ne 7, 3, 38, 0, 0, []))],
  [(34, (.ldc2_w 143, 0, 0, 0, 0, [(-9223372036854775808, 0)])), (37, (.lreturn, 1, 0, 0, 0, [])), (38, (.aload_n 0, 1, 0, 0, 0, [])), (39, (.aload_n 0, 1, 0, 0, 0, [])), (40, (.getfield 160, 3, 7, 26, 0, [])), (43, (.iload_n 2, 1, 0, 0, 0, [])), (44, (.invokevirtual 179, 7, 163, 3, 2, [])), (47, (.lreturn, 1, 0, 0, 0, []))]]
def zt_X10_fourOf : zm_T := [[(0, (.iconst 0, 1, 0, 0, 0, [])), (1, (.istore_n 1, 1, 0, 0, 0, [])), (2, (.iconst 0, 1, 0, 0, 0, [])), (3, (.istore_n 2, 1, 0, 0, 0, [])), (4, (.iload_n 2, 1, 0, 0, 0, [])), (5, (.iload_n 0, 1, 0, 0, 0, [])), (6, (.invokestatic 81, 3, 130, 1, 1, [])), (9, (.if_icmp .ge 19, 3, 28, 0, 0, [])), (12, (.iconst 4, 1, 0, 0, 0, [])), (13, (.iload_n 1, 1, 0, 0, 0, [])), (14, (.imul, 1, 0, 0, 0, [])), (15, (.iload_n 0, 1, 0, 0, 0, []))],
  [(16, (.iload_n 2, 1, 0, 0, 0, [])), (17, (.invokestatic 183, 3, 131, 2, 1, [])), (20, (.iadd, 1, 0, 0, 0, [])), (21, (.istore_n 1, 1, 0, 0, 0, [])), (22, (.iinc 2 1, 3, 0, 0, 0, [])), (25, (.goto (-21), 3, 4, 0, 0, [])), (28, (.iload_n 1, 1, 0, 0, 0, [])), (29, (.ireturn, 1, 0, 0, 0, []))]]
def zt_X10_within : zm_T := [[(0, (.aload_n 0, 1, 0, 0, 0, [])), (1, (.iload_n 1, 1, 0, 0, 0, [])), (2, (.invokevirtual 172, 7, 159, 2, 1, [])), (5, (.ifCond .eq 19, 3, 24, 0, 0, [])), (8, (.aload_n 0, 1, 0, 0, 0, [])), (9, (.iload_n 2, 1, 0, 0, 0, [])), (10, (.invokevirtual 134, 7, 126, 2, 1, [])), (13, (.ifCond .eq 11, 3, 24, 0, 0, []))],
  [(16, (.iload_n 1, 1, 0, 0, 0, [])), (17, (.iload_n 2, 1, 0, 0, 0, [])), (18, (.ishr, 1, 0, 0, 0, [])), (19, (.iconst 1, 1, 0, 0, 0, [])), (20, (.iand, 1, 0, 0, 0, [])), (21, (.ifCond .ne 5, 3, 26, 0, 0, [])), (24, (.iconst (-1), 1, 0, 0, 0, [])), (25, (.ireturn, 1, 0, 0, 0, [])), (26, (.aload_n 0, 1, 0, 0, 0, [])), (27, (.getfield 160, 3, 7, 26, 0, [])), (30, (.iconst 4, 1, 0, 0, 0, [])), (31, (.if_icmp .gt 13, 3, 44, 0, 0, []))],
  [(34, (.iload_n 3, 1, 0, 0, 0, [])), (35, (.iconst 0, 1, 0, 0, 0, [])), (36, (.bipush 12, 2, 0, 0, 0, [])), (38, (.invokestatic 77, 3, 125, 3, 1, [])), (41, (.ifCond .ne 6, 3, 47, 0, 0, [])), (44, (.bipush (-2), 2, 0, 0, 0, [])), (46, (.ireturn, 1, 0, 0, 0, [])), (47, (.aload_n 0, 1, 0, 0, 0, []))],
  [(48, (.invokevirtual 175, 7, 160, 1, 1, [])), (51, (.ifCond .ne 6, 3, 57, 0, 0, [])), (54, (.bipush (-3), 2, 0, 0, 0, [])), (56, (.ireturn, 1, 0, 0, 0, [])), (57, (.iconst 0, 1, 0, 0, 0, [])), (58, (.istore 4, 2, 0, 0, 0, [])), (60, (.iload 4, 2, 0, 0, 0, [])), (62, (.sipush 256, 3, 0, 0, 0, []))],
  [(65, (.if_icmp .ge 17, 3, 82, 0, 0, [])), (68, (.aload_n 0, 1, 0, 0, 0, [])), (69, (.getfield 58, 3, 7, 23, 0, [])), (72, (.iload 4, 2, 0, 0, 0, [])), (74, (.lconst 0, 1, 0, 0, 0, [])), (75, (.lastore, 1, 0, 0, 0, [])), (76, (.iinc 4 1, 3, 0, 0, 0, [])), (79, (.goto (-19), 3, 60, 0, 0, []))],
  [(82, (.aload_n 0, 1, 0, 0, 0, [])), (83, (.getfield 58, 3, 7, 23, 0, [])), (86, (.iconst 0, 1, 0, 0, 0, [])), (87, (.lconst 1, 1, 0, 0, 0, [])), (88, (.lastore, 1, 0, 0, 0, [])), (89, (.lconst 0, 1, 0, 0, 0, [])), (90, (.lstore 4, 2, 0, 0, 0, [])), (92, (.iconst 0, 1, 0, 0, 0, [])), (93, (.istore 6, 2, 0, 0, 0, [])), (95, (.iload 6, 2, 0, 0, 0, []))],
  [(97, (.iload_n 3, 1, 0, 0, 0, [])), (98, (.if_icmp .ge 187, 3, 285, 0, 0, [])), (101, (.lload 4, 2, 0, 0, 0, [])), (103, (.aload_n 0, 1, 0, 0, 0, [])), (104, (.getfield 9, 3, 7, 0, 0, [])), (107, (.i2l, 1, 0, 0, 0, [])), (108, (.lmul, 1, 0, 0, 0, [])), (109, (.lstore 4, 2, 0, 0, 0, [])), (111, (.iconst 0, 1, 0, 0, 0, []))],
  [(112, (.istore 7, 2, 0, 0, 0, [])), (114, (.iload 7, 2, 0, 0, 0, [])), (116, (.sipush 256, 3, 0, 0, 0, [])), (119, (.if_icmp .ge 17, 3, 136, 0, 0, [])), (122, (.aload_n 0, 1, 0, 0, 0, [])), (123, (.getfield 62, 3, 7, 24, 0, [])), (126, (.iload 7, 2, 0, 0, 0, []))],
  [(128, (.lconst 0, 1, 0, 0, 0, [])), (129, (.lastore, 1, 0, 0, 0, [])), (130, (.iinc 7 1, 3, 0, 0, 0, [])), (133, (.goto (-19), 3, 114, 0, 0, [])), (136, (.iconst 0, 1, 0, 0, 0, [])), (137, (.istore 7, 2, 0, 0, 0, [])), (139, (.iload 7, 2, 0, 0, 0, [])), (141, (.sipush 256, 3, 0, 0, 0, []))],
  [(144, (.if_icmp .ge 104, 3, 248, 0, 0, [])), (147, (.aload_n 0, 1, 0, 0, 0, [])), (148, (.getfield 58, 3, 7, 23, 0, [])), (151, (.iload 7, 2, 0, 0, 0, [])), (153, (.laload, 1, 0, 0, 0, [])), (154, (.lconst 0, 1, 0, 0, 0, [])), (155, (.lcmp, 1, 0, 0, 0, [])), (156, (.ifCond .ne 6, 3, 162, 0, 0, [])), (159, (.goto 83, 3, 242, 0, 0, []))],
  [(162, (.iconst 1, 1, 0, 0, 0, [])), (163, (.istore 8, 2, 0, 0, 0, [])), (165, (.iload 8, 2, 0, 0, 0, [])), (167, (.aload_n 0, 1, 0, 0, 0, [])), (168, (.getfield 9, 3, 7, 0, 0, [])), (171, (.if_icmp .gt 71, 3, 242, 0, 0, [])), (174, (.aload_n 0, 1, 0, 0, 0, [])), (175, (.iconst 4, 1, 0, 0, 0, []))],
  [(176, (.iload 7, 2, 0, 0, 0, [])), (178, (.imul, 1, 0, 0, 0, [])), (179, (.iload 8, 2, 0, 0, 0, [])), (181, (.iadd, 1, 0, 0, 0, [])), (182, (.invokevirtual 186, 7, 168, 2, 1, [])), (185, (.istore 9, 2, 0, 0, 0, [])), (187, (.iload 9, 2, 0, 0, 0, [])), (189, (.iload_n 2, 1, 0, 0, 0, [])), (190, (.if_icmp .ne 15, 3, 205, 0, 0, []))],
  [(193, (.lload 4, 2, 0, 0, 0, [])), (195, (.aload_n 0, 1, 0, 0, 0, [])), (196, (.getfield 58, 3, 7, 23, 0, [])), (199, (.iload 7, 2, 0, 0, 0, [])), (201, (.laload, 1, 0, 0, 0, [])), (202, (.ladd, 1, 0, 0, 0, [])), (203, (.lstore 4, 2, 0, 0, 0, [])), (205, (.iload 9, 2, 0, 0, 0, [])), (207, (.ifCond .ge 29, 3, 236, 0, 0, []))],
  [(210, (.aload_n 0, 1, 0, 0, 0, [])), (211, (.getfield 62, 3, 7, 24, 0, [])), (214, (.iconst 4, 1, 0, 0, 0, [])), (215, (.iload 7, 2, 0, 0, 0, [])), (217, (.imul, 1, 0, 0, 0, [])), (218, (.iload 8, 2, 0, 0, 0, [])), (220, (.iadd, 1, 0, 0, 0, [])), (221, (.sipush 256, 3, 0, 0, 0, []))],
  [(224, (.irem, 1, 0, 0, 0, [])), (225, (.dup2, 1, 0, 0, 0, [])), (226, (.laload, 1, 0, 0, 0, [])), (227, (.aload_n 0, 1, 0, 0, 0, [])), (228, (.getfield 58, 3, 7, 23, 0, [])), (231, (.iload 7, 2, 0, 0, 0, [])), (233, (.laload, 1, 0, 0, 0, [])), (234, (.ladd, 1, 0, 0, 0, [])), (235, (.lastore, 1, 0, 0, 0, [])), (236, (.iinc 8 1, 3, 0, 0, 0, [])), (239, (.goto (-74), 3, 165, 0, 0, []))],
  [(242, (.iinc 7 1, 3, 0, 0, 0, [])), (245, (.goto (-106), 3, 139, 0, 0, [])), (248, (.iconst 0, 1, 0, 0, 0, [])), (249, (.istore 7, 2, 0, 0, 0, [])), (251, (.iload 7, 2, 0, 0, 0, [])), (253, (.sipush 256, 3, 0, 0, 0, []))],
  [(256, (.if_icmp .ge 23, 3, 279, 0, 0, [])), (259, (.aload_n 0, 1, 0, 0, 0, [])), (260, (.getfield 58, 3, 7, 23, 0, [])), (263, (.iload 7, 2, 0, 0, 0, [])), (265, (.aload_n 0, 1, 0, 0, 0, [])), (266, (.getfield 62, 3, 7, 24, 0, [])), (269, (.iload 7, 2, 0, 0, 0, [])), (271, (.laload, 1, 0, 0, 0, []))],
  [(272, (.lastore, 1, 0, 0, 0, [])), (273, (.iinc 7 1, 3, 0, 0, 0, [])), (276, (.goto (-25), 3, 251, 0, 0, [])), (279, (.iinc 6 1, 3, 0, 0, 0, [])), (282, (.goto (-187), 3, 95, 0, 0, [])), (285, (.lload 4, 2, 0, 0, 0, [])), (287, (.l2i, 1, 0, 0, 0, []))],
  [(288, (.ireturn, 1, 0, 0, 0, []))]]
def zt_X10_endsBy : zm_T := [[(0, (.iconst 0, 1, 0, 0, 0, [])), (1, (.istore_n 2, 1, 0, 0, 0, [])), (2, (.iload_n 2, 1, 0, 0, 0, [])), (3, (.aload_n 0, 1, 0, 0, 0, [])), (4, (.getfield 160, 3, 7, 26, 0, [])), (7, (.if_icmp .ge 45, 3, 52, 0, 0, [])), (10, (.aload_n 0, 1, 0, 0, 0, [])), (11, (.getfield 15, 3, 7, 1, 0, [])), (14, (.aload_n 0, 1, 0, 0, 0, [])), (15, (.getfield 65, 3, 7, 25, 0, []))],
  [(18, (.iload_n 2, 1, 0, 0, 0, [])), (19, (.iaload, 1, 0, 0, 0, [])), (20, (.iaload, 1, 0, 0, 0, [])), (21, (.istore_n 3, 1, 0, 0, 0, [])), (22, (.iload_n 1, 1, 0, 0, 0, [])), (23, (.iconst 1, 1, 0, 0, 0, [])), (24, (.iconst 2, 1, 0, 0, 0, [])), (25, (.iload_n 3, 1, 0, 0, 0, [])), (26, (.invokestatic 81, 3, 130, 1, 1, [])), (29, (.imul, 1, 0, 0, 0, [])), (30, (.ishl, 1, 0, 0, 0, [])), (31, (.irem, 1, 0, 0, 0, []))],
  [(32, (.iload_n 3, 1, 0, 0, 0, [])), (33, (.invokestatic 189, 3, 166, 1, 1, [])), (36, (.if_icmp .ne 10, 3, 46, 0, 0, [])), (39, (.aload_n 0, 1, 0, 0, 0, [])), (40, (.getfield 65, 3, 7, 25, 0, [])), (43, (.iload_n 2, 1, 0, 0, 0, [])), (44, (.iaload, 1, 0, 0, 0, [])), (45, (.ireturn, 1, 0, 0, 0, [])), (46, (.iinc 2 1, 3, 0, 0, 0, []))],
  [(49, (.goto (-47), 3, 2, 0, 0, [])), (52, (.iconst (-1), 1, 0, 0, 0, [])), (53, (.ireturn, 1, 0, 0, 0, []))]]
def zt_X10_cast : zm_T := [[(0, (.iload_n 1, 1, 0, 0, 0, [])), (1, (.iconst 1, 1, 0, 0, 0, [])), (2, (.aload_n 0, 1, 0, 0, 0, [])), (3, (.getfield 9, 3, 7, 0, 0, [])), (6, (.invokestatic 77, 3, 125, 3, 1, [])), (9, (.ifCond .ne 6, 3, 15, 0, 0, [])), (12, (.bipush (-2), 2, 0, 0, 0, [])), (14, (.ireturn, 1, 0, 0, 0, [])), (15, (.aload_n 0, 1, 0, 0, 0, []))],
  [(16, (.getfield 121, 3, 7, 4, 0, [])), (19, (.bipush 40, 2, 0, 0, 0, [])), (21, (.if_icmp .ne 6, 3, 27, 0, 0, [])), (24, (.bipush (-4), 2, 0, 0, 0, [])), (26, (.ireturn, 1, 0, 0, 0, [])), (27, (.aload_n 0, 1, 0, 0, 0, [])), (28, (.getfield 19, 3, 7, 3, 0, [])), (31, (.aload_n 0, 1, 0, 0, 0, []))],
  [(32, (.dup, 1, 0, 0, 0, [])), (33, (.getfield 121, 3, 7, 4, 0, [])), (36, (.dup_x1, 1, 0, 0, 0, [])), (37, (.iconst 1, 1, 0, 0, 0, [])), (38, (.iadd, 1, 0, 0, 0, [])), (39, (.putfield 121, 3, 7, 4, 0, [])), (42, (.iload_n 1, 1, 0, 0, 0, [])), (43, (.iastore, 1, 0, 0, 0, [])), (44, (.aload_n 0, 1, 0, 0, 0, [])), (45, (.getfield 121, 3, 7, 4, 0, []))],
  [(48, (.ireturn, 1, 0, 0, 0, []))]]
def zt_X10_drawn : zm_T := [[(0, (.iload_n 1, 1, 0, 0, 0, [])), (1, (.bipush 16, 2, 0, 0, 0, [])), (3, (.iushr, 1, 0, 0, 0, [])), (4, (.aload_n 0, 1, 0, 0, 0, [])), (5, (.getfield 9, 3, 7, 0, 0, [])), (8, (.irem, 1, 0, 0, 0, [])), (9, (.iconst 1, 1, 0, 0, 0, [])), (10, (.iadd, 1, 0, 0, 0, [])), (11, (.ireturn, 1, 0, 0, 0, []))]]
def zt_X10_casts : zm_T := [[(0, (.iload_n 1, 1, 0, 0, 0, [])), (1, (.iconst 1, 1, 0, 0, 0, [])), (2, (.bipush 40, 2, 0, 0, 0, [])), (4, (.invokestatic 77, 3, 125, 3, 1, [])), (7, (.ifCond .ne 6, 3, 13, 0, 0, [])), (10, (.bipush (-2), 2, 0, 0, 0, [])), (12, (.ireturn, 1, 0, 0, 0, [])), (13, (.iload_n 2, 1, 0, 0, 0, [])), (14, (.istore_n 3, 1, 0, 0, 0, [])), (15, (.iconst 0, 1, 0, 0, 0, []))],
  [(16, (.istore 4, 2, 0, 0, 0, [])), (18, (.iload 4, 2, 0, 0, 0, [])), (20, (.iload_n 1, 1, 0, 0, 0, [])), (21, (.if_icmp .ge 48, 3, 69, 0, 0, [])), (24, (.aload_n 0, 1, 0, 0, 0, [])), (25, (.getfield 121, 3, 7, 4, 0, [])), (28, (.bipush 40, 2, 0, 0, 0, [])), (30, (.if_icmp .ge 39, 3, 69, 0, 0, []))],
  [(33, (.iload_n 3, 1, 0, 0, 0, [])), (34, (.ldc 192, 0, 0, 0, 0, [(1103515245, 0)])), (36, (.imul, 1, 0, 0, 0, [])), (37, (.sipush 12345, 3, 0, 0, 0, [])), (40, (.iadd, 1, 0, 0, 0, [])), (41, (.istore_n 3, 1, 0, 0, 0, [])), (42, (.aload_n 0, 1, 0, 0, 0, [])), (43, (.getfield 19, 3, 7, 3, 0, [])), (46, (.aload_n 0, 1, 0, 0, 0, [])), (47, (.dup, 1, 0, 0, 0, []))],
  [(48, (.getfield 121, 3, 7, 4, 0, [])), (51, (.dup_x1, 1, 0, 0, 0, [])), (52, (.iconst 1, 1, 0, 0, 0, [])), (53, (.iadd, 1, 0, 0, 0, [])), (54, (.putfield 121, 3, 7, 4, 0, [])), (57, (.aload_n 0, 1, 0, 0, 0, [])), (58, (.iload_n 3, 1, 0, 0, 0, [])), (59, (.invokevirtual 193, 7, 170, 2, 1, [])), (62, (.iastore, 1, 0, 0, 0, [])), (63, (.iinc 4 1, 3, 0, 0, 0, []))],
  [(66, (.goto (-48), 3, 18, 0, 0, [])), (69, (.aload_n 0, 1, 0, 0, 0, [])), (70, (.getfield 121, 3, 7, 4, 0, [])), (73, (.ireturn, 1, 0, 0, 0, []))]]
def zt_X10_wipe : zm_T := [[(0, (.aload_n 0, 1, 0, 0, 0, [])), (1, (.getfield 121, 3, 7, 4, 0, [])), (4, (.istore_n 1, 1, 0, 0, 0, [])), (5, (.aload_n 0, 1, 0, 0, 0, [])), (6, (.iconst 0, 1, 0, 0, 0, [])), (7, (.putfield 121, 3, 7, 4, 0, [])), (10, (.iload_n 1, 1, 0, 0, 0, [])), (11, (.ireturn, 1, 0, 0, 0, []))]]
def zt_X10_strip : zm_T := [[(0, (.iload_n 1, 1, 0, 0, 0, [])), (1, (.iconst 0, 1, 0, 0, 0, [])), (2, (.aload_n 0, 1, 0, 0, 0, [])), (3, (.getfield 121, 3, 7, 4, 0, [])), (6, (.iconst 1, 1, 0, 0, 0, [])), (7, (.isub, 1, 0, 0, 0, [])), (8, (.invokestatic 77, 3, 125, 3, 1, [])), (11, (.ifCond .eq 12, 3, 23, 0, 0, [])), (14, (.aload_n 0, 1, 0, 0, 0, [])), (15, (.getfield 19, 3, 7, 3, 0, []))],
  [(18, (.iload_n 1, 1, 0, 0, 0, [])), (19, (.iaload, 1, 0, 0, 0, [])), (20, (.goto 4, 3, 24, 0, 0, [])), (23, (.iconst (-1), 1, 0, 0, 0, [])), (24, (.ireturn, 1, 0, 0, 0, []))]]
def zt_X10_endsAt : zm_T := [[(0, (.iload_n 1, 1, 0, 0, 0, [])), (1, (.invokestatic 81, 3, 130, 1, 1, [])), (4, (.istore_n 3, 1, 0, 0, 0, [])), (5, (.iload_n 2, 1, 0, 0, 0, [])), (6, (.iconst 1, 1, 0, 0, 0, [])), (7, (.iadd, 1, 0, 0, 0, [])), (8, (.iload_n 3, 1, 0, 0, 0, [])), (9, (.if_icmp .ge 5, 3, 14, 0, 0, [])), (12, (.iconst 0, 1, 0, 0, 0, [])), (13, (.ireturn, 1, 0, 0, 0, [])), (14, (.iconst 0, 1, 0, 0, 0, [])), (15, (.istore 4, 2, 0, 0, 0, []))],
  [(17, (.iload 4, 2, 0, 0, 0, [])), (19, (.iload_n 3, 1, 0, 0, 0, [])), (20, (.if_icmp .ge 33, 3, 53, 0, 0, [])), (23, (.aload_n 0, 1, 0, 0, 0, [])), (24, (.getfield 19, 3, 7, 3, 0, [])), (27, (.iload_n 2, 1, 0, 0, 0, [])), (28, (.iconst 1, 1, 0, 0, 0, [])), (29, (.iadd, 1, 0, 0, 0, [])), (30, (.iload_n 3, 1, 0, 0, 0, [])), (31, (.isub, 1, 0, 0, 0, []))],
  [(32, (.iload 4, 2, 0, 0, 0, [])), (34, (.iadd, 1, 0, 0, 0, [])), (35, (.iaload, 1, 0, 0, 0, [])), (36, (.iload_n 1, 1, 0, 0, 0, [])), (37, (.iload 4, 2, 0, 0, 0, [])), (39, (.invokestatic 183, 3, 131, 2, 1, [])), (42, (.if_icmp .eq 5, 3, 47, 0, 0, [])), (45, (.iconst 0, 1, 0, 0, 0, [])), (46, (.ireturn, 1, 0, 0, 0, [])), (47, (.iinc 4 1, 3, 0, 0, 0, []))],
  [(50, (.goto (-33), 3, 17, 0, 0, [])), (53, (.iconst 1, 1, 0, 0, 0, [])), (54, (.ireturn, 1, 0, 0, 0, []))]]
def zt_X10_ends : zm_T := [[(0, (.aload_n 0, 1, 0, 0, 0, [])), (1, (.iload_n 1, 1, 0, 0, 0, [])), (2, (.invokevirtual 134, 7, 126, 2, 1, [])), (5, (.ifCond .ne 7, 3, 12, 0, 0, [])), (8, (.ldc2_w 143, 0, 0, 0, 0, [(-9223372036854775808, 0)])), (11, (.lreturn, 1, 0, 0, 0, [])), (12, (.lconst 0, 1, 0, 0, 0, [])), (13, (.lstore_n 2, 1, 0, 0, 0, [])), (14, (.iconst 0, 1, 0, 0, 0, [])), (15, (.istore 4, 2, 0, 0, 0, []))],
  [(17, (.iload 4, 2, 0, 0, 0, [])), (19, (.aload_n 0, 1, 0, 0, 0, [])), (20, (.getfield 121, 3, 7, 4, 0, [])), (23, (.if_icmp .ge 31, 3, 54, 0, 0, [])), (26, (.aload_n 0, 1, 0, 0, 0, [])), (27, (.aload_n 0, 1, 0, 0, 0, [])), (28, (.getfield 15, 3, 7, 1, 0, [])), (31, (.iload_n 1, 1, 0, 0, 0, []))],
  [(32, (.iaload, 1, 0, 0, 0, [])), (33, (.iload 4, 2, 0, 0, 0, [])), (35, (.invokevirtual 196, 7, 174, 3, 1, [])), (38, (.ifCond .eq 10, 3, 48, 0, 0, [])), (41, (.lload_n 2, 1, 0, 0, 0, [])), (42, (.lconst 1, 1, 0, 0, 0, [])), (43, (.iload 4, 2, 0, 0, 0, [])), (45, (.lshl, 1, 0, 0, 0, [])), (46, (.lor, 1, 0, 0, 0, [])), (47, (.lstore_n 2, 1, 0, 0, 0, []))],
  [(48, (.iinc 4 1, 3, 0, 0, 0, [])), (51, (.goto (-34), 3, 17, 0, 0, [])), (54, (.lload_n 2, 1, 0, 0, 0, [])), (55, (.lreturn, 1, 0, 0, 0, []))]]
def zt_X10_firstOf : zm_T := [[(0, (.iconst 0, 1, 0, 0, 0, [])), (1, (.istore_n 2, 1, 0, 0, 0, [])), (2, (.iload_n 2, 1, 0, 0, 0, [])), (3, (.aload_n 0, 1, 0, 0, 0, [])), (4, (.getfield 121, 3, 7, 4, 0, [])), (7, (.if_icmp .ge 25, 3, 32, 0, 0, [])), (10, (.aload_n 0, 1, 0, 0, 0, [])), (11, (.aload_n 0, 1, 0, 0, 0, [])), (12, (.getfield 15, 3, 7, 1, 0, [])), (15, (.iload_n 1, 1, 0, 0, 0, []))],
  [(16, (.iaload, 1, 0, 0, 0, [])), (17, (.iload_n 2, 1, 0, 0, 0, [])), (18, (.invokevirtual 196, 7, 174, 3, 1, [])), (21, (.ifCond .eq 5, 3, 26, 0, 0, [])), (24, (.iload_n 2, 1, 0, 0, 0, [])), (25, (.ireturn, 1, 0, 0, 0, [])), (26, (.iinc 2 1, 3, 0, 0, 0, [])), (29, (.goto (-27), 3, 2, 0, 0, []))],
  [(32, (.bipush (-5), 2, 0, 0, 0, [])), (34, (.ireturn, 1, 0, 0, 0, []))]]
def zt_X10_matched : zm_T := [[(0, (.iload_n 1, 1, 0, 0, 0, [])), (1, (.invokestatic 81, 3, 130, 1, 1, [])), (4, (.aload_n 0, 1, 0, 0, 0, [])), (5, (.getfield 121, 3, 7, 4, 0, [])), (8, (.invokestatic 88, 3, 9998, 2, 1, [])), (11, (.istore_n 2, 1, 0, 0, 0, [])), (12, (.iload_n 2, 1, 0, 0, 0, [])), (13, (.ifCond .le 63, 3, 76, 0, 0, []))],
  [(16, (.iconst 1, 1, 0, 0, 0, [])), (17, (.istore_n 3, 1, 0, 0, 0, [])), (18, (.iconst 0, 1, 0, 0, 0, [])), (19, (.istore 4, 2, 0, 0, 0, [])), (21, (.iload 4, 2, 0, 0, 0, [])), (23, (.iload_n 2, 1, 0, 0, 0, [])), (24, (.if_icmp .ge 40, 3, 64, 0, 0, [])), (27, (.iload_n 3, 1, 0, 0, 0, [])), (28, (.aload_n 0, 1, 0, 0, 0, [])), (29, (.getfield 19, 3, 7, 3, 0, []))],
  [(32, (.aload_n 0, 1, 0, 0, 0, [])), (33, (.getfield 121, 3, 7, 4, 0, [])), (36, (.iload_n 2, 1, 0, 0, 0, [])), (37, (.isub, 1, 0, 0, 0, [])), (38, (.iload 4, 2, 0, 0, 0, [])), (40, (.iadd, 1, 0, 0, 0, [])), (41, (.iaload, 1, 0, 0, 0, [])), (42, (.iload_n 1, 1, 0, 0, 0, [])), (43, (.iload 4, 2, 0, 0, 0, [])), (45, (.invokestatic 183, 3, 131, 2, 1, []))],
  [(48, (.if_icmp .ne 7, 3, 55, 0, 0, [])), (51, (.iconst 1, 1, 0, 0, 0, [])), (52, (.goto 4, 3, 56, 0, 0, [])), (55, (.iconst 0, 1, 0, 0, 0, [])), (56, (.iand, 1, 0, 0, 0, [])), (57, (.istore_n 3, 1, 0, 0, 0, [])), (58, (.iinc 4 1, 3, 0, 0, 0, [])), (61, (.goto (-40), 3, 21, 0, 0, []))],
  [(64, (.iload_n 3, 1, 0, 0, 0, [])), (65, (.ifCond .eq 5, 3, 70, 0, 0, [])), (68, (.iload_n 2, 1, 0, 0, 0, [])), (69, (.ireturn, 1, 0, 0, 0, [])), (70, (.iinc 2 (-1), 3, 0, 0, 0, [])), (73, (.goto (-61), 3, 12, 0, 0, [])), (76, (.iconst 0, 1, 0, 0, 0, [])), (77, (.ireturn, 1, 0, 0, 0, []))]]
def zt_X10_seen : zm_T := [[(0, (.aload_n 0, 1, 0, 0, 0, [])), (1, (.iload_n 1, 1, 0, 0, 0, [])), (2, (.invokevirtual 134, 7, 126, 2, 1, [])), (5, (.ifCond .eq 12, 3, 17, 0, 0, [])), (8, (.iload_n 2, 1, 0, 0, 0, [])), (9, (.iconst 0, 1, 0, 0, 0, [])), (10, (.iconst 2, 1, 0, 0, 0, [])), (11, (.invokestatic 77, 3, 125, 3, 1, [])), (14, (.ifCond .ne 5, 3, 19, 0, 0, []))],
  [(17, (.iconst (-1), 1, 0, 0, 0, [])), (18, (.ireturn, 1, 0, 0, 0, [])), (19, (.iload_n 2, 1, 0, 0, 0, [])), (20, (.ifCond .ne 9, 3, 29, 0, 0, [])), (23, (.aload_n 0, 1, 0, 0, 0, [])), (24, (.iload_n 1, 1, 0, 0, 0, [])), (25, (.invokevirtual 199, 7, 176, 2, 1, [])), (28, (.ireturn, 1, 0, 0, 0, [])), (29, (.iload_n 2, 1, 0, 0, 0, [])), (30, (.iconst 1, 1, 0, 0, 0, [])), (31, (.if_icmp .ne 14, 3, 45, 0, 0, []))],
  [(34, (.aload_n 0, 1, 0, 0, 0, [])), (35, (.iload_n 1, 1, 0, 0, 0, [])), (36, (.invokevirtual 202, 7, 175, 2, 2, [])), (39, (.invokestatic 206, 3, 209, 1, 1, [])), (42, (.goto 13, 3, 55, 0, 0, [])), (45, (.aload_n 0, 1, 0, 0, 0, [])), (46, (.aload_n 0, 1, 0, 0, 0, [])), (47, (.getfield 15, 3, 7, 1, 0, []))],
  [(50, (.iload_n 1, 1, 0, 0, 0, [])), (51, (.iaload, 1, 0, 0, 0, [])), (52, (.invokevirtual 209, 7, 177, 2, 1, [])), (55, (.ireturn, 1, 0, 0, 0, []))]]
def zt_X10_who : zm_T := [[(0, (.bipush (-5), 2, 0, 0, 0, [])), (2, (.istore_n 1, 1, 0, 0, 0, [])), (3, (.bipush 40, 2, 0, 0, 0, [])), (5, (.istore_n 2, 1, 0, 0, 0, [])), (6, (.iconst 0, 1, 0, 0, 0, [])), (7, (.istore_n 3, 1, 0, 0, 0, [])), (8, (.iload_n 3, 1, 0, 0, 0, [])), (9, (.aload_n 0, 1, 0, 0, 0, [])), (10, (.getfield 74, 3, 7, 2, 0, [])), (13, (.if_icmp .ge 64, 3, 77, 0, 0, []))],
  [(16, (.aload_n 0, 1, 0, 0, 0, [])), (17, (.iload_n 3, 1, 0, 0, 0, [])), (18, (.invokevirtual 199, 7, 176, 2, 1, [])), (21, (.istore 4, 2, 0, 0, 0, [])), (23, (.iload 4, 2, 0, 0, 0, [])), (25, (.bipush (-5), 2, 0, 0, 0, [])), (27, (.if_icmp .eq 44, 3, 71, 0, 0, [])), (30, (.iload 4, 2, 0, 0, 0, []))],
  [(32, (.iload_n 2, 1, 0, 0, 0, [])), (33, (.if_icmp .gt 38, 3, 71, 0, 0, [])), (36, (.iload 4, 2, 0, 0, 0, [])), (38, (.iload_n 2, 1, 0, 0, 0, [])), (39, (.if_icmp .ne 27, 3, 66, 0, 0, [])), (42, (.aload_n 0, 1, 0, 0, 0, [])), (43, (.getfield 15, 3, 7, 1, 0, [])), (46, (.iload_n 3, 1, 0, 0, 0, [])), (47, (.iaload, 1, 0, 0, 0, []))],
  [(48, (.invokestatic 81, 3, 130, 1, 1, [])), (51, (.aload_n 0, 1, 0, 0, 0, [])), (52, (.getfield 15, 3, 7, 1, 0, [])), (55, (.iload_n 1, 1, 0, 0, 0, [])), (56, (.iaload, 1, 0, 0, 0, [])), (57, (.invokestatic 81, 3, 130, 1, 1, [])), (60, (.if_icmp .gt 6, 3, 66, 0, 0, [])), (63, (.goto 8, 3, 71, 0, 0, []))],
  [(66, (.iload_n 3, 1, 0, 0, 0, [])), (67, (.istore_n 1, 1, 0, 0, 0, [])), (68, (.iload 4, 2, 0, 0, 0, [])), (70, (.istore_n 2, 1, 0, 0, 0, [])), (71, (.iinc 3 1, 3, 0, 0, 0, [])), (74, (.goto (-66), 3, 8, 0, 0, [])), (77, (.iload_n 1, 1, 0, 0, 0, [])), (78, (.ireturn, 1, 0, 0, 0, []))]]
def zt_X10_were : zm_T := [[(0, (.iload_n 1, 1, 0, 0, 0, [])), (1, (.iconst 0, 1, 0, 0, 0, [])), (2, (.aload_n 0, 1, 0, 0, 0, [])), (3, (.getfield 121, 3, 7, 4, 0, [])), (6, (.iconst 1, 1, 0, 0, 0, [])), (7, (.isub, 1, 0, 0, 0, [])), (8, (.invokestatic 77, 3, 125, 3, 1, [])), (11, (.ifCond .eq 11, 3, 22, 0, 0, [])), (14, (.aload_n 0, 1, 0, 0, 0, [])), (15, (.iload_n 2, 1, 0, 0, 0, []))],
  [(16, (.invokevirtual 134, 7, 126, 2, 1, [])), (19, (.ifCond .ne 5, 3, 24, 0, 0, [])), (22, (.iconst (-1), 1, 0, 0, 0, [])), (23, (.ireturn, 1, 0, 0, 0, [])), (24, (.aload_n 0, 1, 0, 0, 0, [])), (25, (.getfield 19, 3, 7, 3, 0, [])), (28, (.iload_n 1, 1, 0, 0, 0, [])), (29, (.iaload, 1, 0, 0, 0, [])), (30, (.istore_n 3, 1, 0, 0, 0, [])), (31, (.iconst 0, 1, 0, 0, 0, []))],
  [(32, (.istore 4, 2, 0, 0, 0, [])), (34, (.iconst 1, 1, 0, 0, 0, [])), (35, (.istore 5, 2, 0, 0, 0, [])), (37, (.iload 5, 2, 0, 0, 0, [])), (39, (.aload_n 0, 1, 0, 0, 0, [])), (40, (.getfield 9, 3, 7, 0, 0, [])), (43, (.if_icmp .gt 36, 3, 79, 0, 0, [])), (46, (.aload_n 0, 1, 0, 0, 0, [])), (47, (.getfield 19, 3, 7, 3, 0, []))],
  [(50, (.iload_n 1, 1, 0, 0, 0, [])), (51, (.iload 5, 2, 0, 0, 0, [])), (53, (.iastore, 1, 0, 0, 0, [])), (54, (.aload_n 0, 1, 0, 0, 0, [])), (55, (.invokevirtual 212, 7, 179, 1, 1, [])), (58, (.iload_n 2, 1, 0, 0, 0, [])), (59, (.if_icmp .ne 14, 3, 73, 0, 0, [])), (62, (.iload 4, 2, 0, 0, 0, []))],
  [(64, (.iconst 1, 1, 0, 0, 0, [])), (65, (.iload 5, 2, 0, 0, 0, [])), (67, (.iconst 1, 1, 0, 0, 0, [])), (68, (.isub, 1, 0, 0, 0, [])), (69, (.ishl, 1, 0, 0, 0, [])), (70, (.ior, 1, 0, 0, 0, [])), (71, (.istore 4, 2, 0, 0, 0, [])), (73, (.iinc 5 1, 3, 0, 0, 0, [])), (76, (.goto (-39), 3, 37, 0, 0, [])), (79, (.aload_n 0, 1, 0, 0, 0, []))],
  [(80, (.getfield 19, 3, 7, 3, 0, [])), (83, (.iload_n 1, 1, 0, 0, 0, [])), (84, (.iload_n 3, 1, 0, 0, 0, [])), (85, (.iastore, 1, 0, 0, 0, [])), (86, (.iload 4, 2, 0, 0, 0, [])), (88, (.ireturn, 1, 0, 0, 0, []))]]
def zt_X10_player : zm_T := [[(0, (.iload_n 1, 1, 0, 0, 0, [])), (1, (.iconst 0, 1, 0, 0, 0, [])), (2, (.iconst 5, 1, 0, 0, 0, [])), (3, (.invokestatic 77, 3, 125, 3, 1, [])), (6, (.ifCond .eq 11, 3, 17, 0, 0, [])), (9, (.aload_n 0, 1, 0, 0, 0, [])), (10, (.iload_n 2, 1, 0, 0, 0, [])), (11, (.invokevirtual 134, 7, 126, 2, 1, [])), (14, (.ifCond .ne 5, 3, 19, 0, 0, []))],
  [(17, (.iconst (-1), 1, 0, 0, 0, [])), (18, (.ireturn, 1, 0, 0, 0, [])), (19, (.aload_n 0, 1, 0, 0, 0, [])), (20, (.getfield 215, 3, 7, 7, 0, [])), (23, (.iconst 4, 1, 0, 0, 0, [])), (24, (.if_icmp .ne 6, 3, 30, 0, 0, [])), (27, (.bipush (-4), 2, 0, 0, 0, [])), (29, (.ireturn, 1, 0, 0, 0, [])), (30, (.aload_n 0, 1, 0, 0, 0, [])), (31, (.getfield 22, 3, 7, 5, 0, []))],
  [(34, (.aload_n 0, 1, 0, 0, 0, [])), (35, (.getfield 215, 3, 7, 7, 0, [])), (38, (.iload_n 1, 1, 0, 0, 0, [])), (39, (.iastore, 1, 0, 0, 0, [])), (40, (.aload_n 0, 1, 0, 0, 0, [])), (41, (.getfield 25, 3, 7, 6, 0, [])), (44, (.aload_n 0, 1, 0, 0, 0, [])), (45, (.getfield 215, 3, 7, 7, 0, []))],
  [(48, (.iload_n 2, 1, 0, 0, 0, [])), (49, (.iastore, 1, 0, 0, 0, [])), (50, (.aload_n 0, 1, 0, 0, 0, [])), (51, (.dup, 1, 0, 0, 0, [])), (52, (.getfield 215, 3, 7, 7, 0, [])), (55, (.iconst 1, 1, 0, 0, 0, [])), (56, (.iadd, 1, 0, 0, 0, [])), (57, (.putfield 215, 3, 7, 7, 0, [])), (60, (.aload_n 0, 1, 0, 0, 0, [])), (61, (.getfield 215, 3, 7, 7, 0, []))],
  [(64, (.iconst 1, 1, 0, 0, 0, [])), (65, (.isub, 1, 0, 0, 0, [])), (66, (.ireturn, 1, 0, 0, 0, []))]]
def zt_X10_isPlayer : zm_T := [[(0, (.iload_n 1, 1, 0, 0, 0, [])), (1, (.iconst 0, 1, 0, 0, 0, [])), (2, (.aload_n 0, 1, 0, 0, 0, [])), (3, (.getfield 215, 3, 7, 7, 0, [])), (6, (.iconst 1, 1, 0, 0, 0, [])), (7, (.isub, 1, 0, 0, 0, [])), (8, (.invokestatic 77, 3, 125, 3, 1, [])), (11, (.ireturn, 1, 0, 0, 0, []))]]
def zt_X10_turned : zm_T := [[(0, (.iconst 0, 1, 0, 0, 0, [])), (1, (.istore_n 1, 1, 0, 0, 0, [])), (2, (.iload_n 0, 1, 0, 0, 0, [])), (3, (.istore_n 2, 1, 0, 0, 0, [])), (4, (.iload_n 2, 1, 0, 0, 0, [])), (5, (.ifCond .le 21, 3, 26, 0, 0, [])), (8, (.bipush 10, 2, 0, 0, 0, [])), (10, (.iload_n 1, 1, 0, 0, 0, [])), (11, (.imul, 1, 0, 0, 0, [])), (12, (.iload_n 2, 1, 0, 0, 0, [])), (13, (.bipush 10, 2, 0, 0, 0, [])), (15, (.irem, 1, 0, 0, 0, []))],
  [(16, (.iadd, 1, 0, 0, 0, [])), (17, (.istore_n 1, 1, 0, 0, 0, [])), (18, (.iload_n 2, 1, 0, 0, 0, [])), (19, (.bipush 10, 2, 0, 0, 0, [])), (21, (.idiv, 1, 0, 0, 0, [])), (22, (.istore_n 2, 1, 0, 0, 0, [])), (23, (.goto (-19), 3, 4, 0, 0, [])), (26, (.iload_n 1, 1, 0, 0, 0, [])), (27, (.ireturn, 1, 0, 0, 0, []))]]
def zt_X10_shifted : zm_T := [[(0, (.iconst 0, 1, 0, 0, 0, [])), (1, (.istore_n 2, 1, 0, 0, 0, [])), (2, (.iconst 0, 1, 0, 0, 0, [])), (3, (.istore_n 3, 1, 0, 0, 0, [])), (4, (.iload_n 3, 1, 0, 0, 0, [])), (5, (.iload_n 1, 1, 0, 0, 0, [])), (6, (.invokestatic 81, 3, 130, 1, 1, [])), (9, (.if_icmp .ge 24, 3, 33, 0, 0, [])), (12, (.bipush 10, 2, 0, 0, 0, [])), (14, (.iload_n 2, 1, 0, 0, 0, [])), (15, (.imul, 1, 0, 0, 0, []))],
  [(16, (.aload_n 0, 1, 0, 0, 0, [])), (17, (.iload_n 1, 1, 0, 0, 0, [])), (18, (.iload_n 3, 1, 0, 0, 0, [])), (19, (.invokestatic 183, 3, 131, 2, 1, [])), (22, (.invokevirtual 218, 7, 134, 2, 1, [])), (25, (.iadd, 1, 0, 0, 0, [])), (26, (.istore_n 2, 1, 0, 0, 0, [])), (27, (.iinc 3 1, 3, 0, 0, 0, [])), (30, (.goto (-26), 3, 4, 0, 0, []))],
  [(33, (.iload_n 2, 1, 0, 0, 0, [])), (34, (.ireturn, 1, 0, 0, 0, []))]]
def zt_X10_ahead : zm_T := [[(0, (.iload_n 0, 1, 0, 0, 0, [])), (1, (.iload_n 1, 1, 0, 0, 0, [])), (2, (.invokestatic 81, 3, 130, 1, 1, [])), (5, (.iconst 1, 1, 0, 0, 0, [])), (6, (.isub, 1, 0, 0, 0, [])), (7, (.invokestatic 85, 3, 129, 1, 1, [])), (10, (.imul, 1, 0, 0, 0, [])), (11, (.iload_n 1, 1, 0, 0, 0, [])), (12, (.bipush 10, 2, 0, 0, 0, [])), (14, (.idiv, 1, 0, 0, 0, [])), (15, (.iadd, 1, 0, 0, 0, []))],
  [(16, (.ireturn, 1, 0, 0, 0, []))]]
def zt_X10_picks : zm_T := [[(0, (.aload_n 0, 1, 0, 0, 0, [])), (1, (.getfield 15, 3, 7, 1, 0, [])), (4, (.aload_n 0, 1, 0, 0, 0, [])), (5, (.getfield 25, 3, 7, 6, 0, [])), (8, (.iload_n 1, 1, 0, 0, 0, [])), (9, (.iaload, 1, 0, 0, 0, [])), (10, (.iaload, 1, 0, 0, 0, [])), (11, (.istore_n 3, 1, 0, 0, 0, [])), (12, (.aload_n 0, 1, 0, 0, 0, [])), (13, (.getfield 22, 3, 7, 5, 0, []))],
  [(16, (.iload_n 1, 1, 0, 0, 0, [])), (17, (.iaload, 1, 0, 0, 0, [])), (18, (.tableswitch 82 0 4 #[34, 36, 41, 67, 76], 34, 100, 0, 0, [(0, 52), (1, 54), (2, 59), (3, 85), (4, 94)]))],
  [],
  [(52, (.iload_n 3, 1, 0, 0, 0, [])), (53, (.ireturn, 1, 0, 0, 0, [])), (54, (.iload_n 3, 1, 0, 0, 0, [])), (55, (.invokestatic 221, 3, 183, 1, 1, [])), (58, (.ireturn, 1, 0, 0, 0, [])), (59, (.aload_n 0, 1, 0, 0, 0, [])), (60, (.iload_n 2, 1, 0, 0, 0, [])), (61, (.iload_n 2, 1, 0, 0, 0, [])), (62, (.invokestatic 81, 3, 130, 1, 1, []))],
  [(65, (.iconst 1, 1, 0, 0, 0, [])), (66, (.if_icmp .le 7, 3, 73, 0, 0, [])), (69, (.iconst 1, 1, 0, 0, 0, [])), (70, (.goto 4, 3, 74, 0, 0, [])), (73, (.iconst 0, 1, 0, 0, 0, [])), (74, (.invokestatic 183, 3, 131, 2, 1, [])), (77, (.invokevirtual 218, 7, 134, 2, 1, []))],
  [(80, (.iload_n 2, 1, 0, 0, 0, [])), (81, (.invokestatic 224, 3, 185, 2, 1, [])), (84, (.ireturn, 1, 0, 0, 0, [])), (85, (.aload_n 0, 1, 0, 0, 0, [])), (86, (.iload_n 3, 1, 0, 0, 0, [])), (87, (.invokestatic 221, 3, 183, 1, 1, [])), (90, (.invokevirtual 227, 7, 184, 2, 1, [])), (93, (.ireturn, 1, 0, 0, 0, [])), (94, (.aload_n 0, 1, 0, 0, 0, [])), (95, (.iload_n 2, 1, 0, 0, 0, []))],
  [(96, (.invokevirtual 137, 7, 141, 2, 1, [])), (99, (.ireturn, 1, 0, 0, 0, [])), (100, (.aload_n 0, 1, 0, 0, 0, [])), (101, (.iload_n 3, 1, 0, 0, 0, [])), (102, (.invokestatic 221, 3, 183, 1, 1, [])), (105, (.invokevirtual 227, 7, 184, 2, 1, [])), (108, (.istore 4, 2, 0, 0, 0, [])), (110, (.iload 4, 2, 0, 0, 0, []))],
  [(112, (.iconst 0, 1, 0, 0, 0, [])), (113, (.invokestatic 183, 3, 131, 2, 1, [])), (116, (.iload 4, 2, 0, 0, 0, [])), (118, (.invokestatic 224, 3, 185, 2, 1, [])), (121, (.ireturn, 1, 0, 0, 0, []))]]
def zt_X10_firstPick : zm_T := [[(0, (.aload_n 0, 1, 0, 0, 0, [])), (1, (.iload_n 1, 1, 0, 0, 0, [])), (2, (.aload_n 0, 1, 0, 0, 0, [])), (3, (.getfield 15, 3, 7, 1, 0, [])), (6, (.aload_n 0, 1, 0, 0, 0, [])), (7, (.getfield 25, 3, 7, 6, 0, [])), (10, (.iload_n 1, 1, 0, 0, 0, [])), (11, (.iaload, 1, 0, 0, 0, [])), (12, (.iaload, 1, 0, 0, 0, [])), (13, (.invokevirtual 230, 7, 186, 3, 1, []))],
  [(16, (.ireturn, 1, 0, 0, 0, []))]]
def zt_X10_wins : zm_T := [[(0, (.iconst 0, 1, 0, 0, 0, [])), (1, (.istore_n 2, 1, 0, 0, 0, [])), (2, (.aload_n 0, 1, 0, 0, 0, [])), (3, (.iload_n 1, 1, 0, 0, 0, [])), (4, (.invokevirtual 233, 7, 187, 2, 1, [])), (7, (.istore_n 3, 1, 0, 0, 0, [])), (8, (.iconst 0, 1, 0, 0, 0, [])), (9, (.istore 4, 2, 0, 0, 0, [])), (11, (.iload 4, 2, 0, 0, 0, [])), (13, (.aload_n 0, 1, 0, 0, 0, [])), (14, (.getfield 215, 3, 7, 7, 0, []))],
  [(17, (.if_icmp .ge 33, 3, 50, 0, 0, [])), (20, (.iload 4, 2, 0, 0, 0, [])), (22, (.iload_n 1, 1, 0, 0, 0, [])), (23, (.if_icmp .eq 21, 3, 44, 0, 0, [])), (26, (.aload_n 0, 1, 0, 0, 0, [])), (27, (.iload_n 3, 1, 0, 0, 0, [])), (28, (.aload_n 0, 1, 0, 0, 0, [])), (29, (.iload 4, 2, 0, 0, 0, [])), (31, (.iload_n 3, 1, 0, 0, 0, []))],
  [(32, (.invokevirtual 230, 7, 186, 3, 1, [])), (35, (.invokevirtual 149, 7, 140, 3, 1, [])), (38, (.ifCond .eq 6, 3, 44, 0, 0, [])), (41, (.iinc 2 1, 3, 0, 0, 0, [])), (44, (.iinc 4 1, 3, 0, 0, 0, [])), (47, (.goto (-36), 3, 11, 0, 0, []))],
  [(50, (.iload_n 2, 1, 0, 0, 0, [])), (51, (.ireturn, 1, 0, 0, 0, []))]]
def zt_X10_playerOf : zm_T := [[(0, (.aload_n 0, 1, 0, 0, 0, [])), (1, (.iload_n 1, 1, 0, 0, 0, [])), (2, (.invokevirtual 236, 7, 182, 2, 1, [])), (5, (.ifCond .eq 12, 3, 17, 0, 0, [])), (8, (.iload_n 2, 1, 0, 0, 0, [])), (9, (.iconst 0, 1, 0, 0, 0, [])), (10, (.iconst 2, 1, 0, 0, 0, [])), (11, (.invokestatic 77, 3, 125, 3, 1, [])), (14, (.ifCond .ne 5, 3, 19, 0, 0, []))],
  [(17, (.iconst (-1), 1, 0, 0, 0, [])), (18, (.ireturn, 1, 0, 0, 0, [])), (19, (.iload_n 2, 1, 0, 0, 0, [])), (20, (.ifCond .ne 12, 3, 32, 0, 0, [])), (23, (.aload_n 0, 1, 0, 0, 0, [])), (24, (.getfield 22, 3, 7, 5, 0, [])), (27, (.iload_n 1, 1, 0, 0, 0, [])), (28, (.iaload, 1, 0, 0, 0, [])), (29, (.goto 22, 3, 51, 0, 0, []))],
  [(32, (.iload_n 2, 1, 0, 0, 0, [])), (33, (.iconst 1, 1, 0, 0, 0, [])), (34, (.if_icmp .ne 12, 3, 46, 0, 0, [])), (37, (.aload_n 0, 1, 0, 0, 0, [])), (38, (.getfield 25, 3, 7, 6, 0, [])), (41, (.iload_n 1, 1, 0, 0, 0, [])), (42, (.iaload, 1, 0, 0, 0, [])), (43, (.goto 8, 3, 51, 0, 0, [])), (46, (.aload_n 0, 1, 0, 0, 0, [])), (47, (.iload_n 1, 1, 0, 0, 0, []))],
  [(48, (.invokevirtual 239, 7, 188, 2, 1, [])), (51, (.ireturn, 1, 0, 0, 0, []))]]
def zt_X10_areTwo : zm_T := [[(0, (.aload_n 0, 1, 0, 0, 0, [])), (1, (.iload_n 1, 1, 0, 0, 0, [])), (2, (.invokevirtual 236, 7, 182, 2, 1, [])), (5, (.ifCond .eq 20, 3, 25, 0, 0, [])), (8, (.aload_n 0, 1, 0, 0, 0, [])), (9, (.iload_n 2, 1, 0, 0, 0, [])), (10, (.invokevirtual 236, 7, 182, 2, 1, [])), (13, (.ifCond .eq 12, 3, 25, 0, 0, []))],
  [(16, (.iload_n 1, 1, 0, 0, 0, [])), (17, (.iload_n 2, 1, 0, 0, 0, [])), (18, (.if_icmp .eq 7, 3, 25, 0, 0, [])), (21, (.iconst 1, 1, 0, 0, 0, [])), (22, (.goto 4, 3, 26, 0, 0, [])), (25, (.iconst 0, 1, 0, 0, 0, [])), (26, (.ireturn, 1, 0, 0, 0, []))]]
def zt_X10_pick : zm_T := [[(0, (.aload_n 0, 1, 0, 0, 0, [])), (1, (.iload_n 1, 1, 0, 0, 0, [])), (2, (.iload_n 2, 1, 0, 0, 0, [])), (3, (.invokevirtual 242, 7, 190, 3, 1, [])), (6, (.ifCond .eq 12, 3, 18, 0, 0, [])), (9, (.iload_n 3, 1, 0, 0, 0, [])), (10, (.iconst 0, 1, 0, 0, 0, [])), (11, (.iconst 1, 1, 0, 0, 0, [])), (12, (.invokestatic 77, 3, 125, 3, 1, [])), (15, (.ifCond .ne 5, 3, 20, 0, 0, []))],
  [(18, (.iconst (-1), 1, 0, 0, 0, [])), (19, (.ireturn, 1, 0, 0, 0, [])), (20, (.aload_n 0, 1, 0, 0, 0, [])), (21, (.iload_n 1, 1, 0, 0, 0, [])), (22, (.invokevirtual 233, 7, 187, 2, 1, [])), (25, (.istore 4, 2, 0, 0, 0, [])), (27, (.iload_n 3, 1, 0, 0, 0, [])), (28, (.ifCond .ne 8, 3, 36, 0, 0, [])), (31, (.iload 4, 2, 0, 0, 0, []))],
  [(33, (.goto 10, 3, 43, 0, 0, [])), (36, (.aload_n 0, 1, 0, 0, 0, [])), (37, (.iload_n 2, 1, 0, 0, 0, [])), (38, (.iload 4, 2, 0, 0, 0, [])), (40, (.invokevirtual 230, 7, 186, 3, 1, [])), (43, (.ireturn, 1, 0, 0, 0, []))]]
def zt_X10_match : zm_T := [[(0, (.aload_n 0, 1, 0, 0, 0, [])), (1, (.iload_n 1, 1, 0, 0, 0, [])), (2, (.iload_n 2, 1, 0, 0, 0, [])), (3, (.invokevirtual 242, 7, 190, 3, 1, [])), (6, (.ifCond .eq 10, 3, 16, 0, 0, [])), (9, (.iload_n 3, 1, 0, 0, 0, [])), (10, (.invokestatic 140, 3, 127, 1, 1, [])), (13, (.ifCond .ne 7, 3, 20, 0, 0, []))],
  [(16, (.ldc2_w 143, 0, 0, 0, 0, [(-9223372036854775808, 0)])), (19, (.lreturn, 1, 0, 0, 0, [])), (20, (.aload_n 0, 1, 0, 0, 0, [])), (21, (.iload_n 1, 1, 0, 0, 0, [])), (22, (.invokevirtual 233, 7, 187, 2, 1, [])), (25, (.istore 4, 2, 0, 0, 0, [])), (27, (.aload_n 0, 1, 0, 0, 0, [])), (28, (.iload_n 2, 1, 0, 0, 0, [])), (29, (.iload 4, 2, 0, 0, 0, [])), (31, (.invokevirtual 230, 7, 186, 3, 1, []))],
  [(34, (.istore 5, 2, 0, 0, 0, [])), (36, (.iload 4, 2, 0, 0, 0, [])), (38, (.iload 5, 2, 0, 0, 0, [])), (40, (.invokestatic 104, 3, 138, 2, 1, [])), (43, (.ifCond .eq 15, 3, 58, 0, 0, [])), (46, (.aload_n 0, 1, 0, 0, 0, [])), (47, (.iload 4, 2, 0, 0, 0, []))],
  [(49, (.iload 5, 2, 0, 0, 0, [])), (51, (.iload_n 3, 1, 0, 0, 0, [])), (52, (.invokevirtual 145, 7, 143, 4, 2, [])), (55, (.goto 6, 3, 61, 0, 0, [])), (58, (.ldc2_w 143, 0, 0, 0, 0, [(-9223372036854775808, 0)])), (61, (.lreturn, 1, 0, 0, 0, []))]]
def zt_X10_duels : zm_T := [[(0, (.iload_n 3, 1, 0, 0, 0, [])), (1, (.istore 4, 2, 0, 0, 0, [])), (3, (.iconst 0, 1, 0, 0, 0, [])), (4, (.istore 5, 2, 0, 0, 0, [])), (6, (.iconst 1, 1, 0, 0, 0, [])), (7, (.istore 6, 2, 0, 0, 0, [])), (9, (.iload 6, 2, 0, 0, 0, [])), (11, (.bipush 60, 2, 0, 0, 0, [])), (13, (.if_icmp .gt 74, 3, 87, 0, 0, []))],
  [(16, (.iload 4, 2, 0, 0, 0, [])), (18, (.ldc 192, 0, 0, 0, 0, [(1103515245, 0)])), (20, (.imul, 1, 0, 0, 0, [])), (21, (.sipush 12345, 3, 0, 0, 0, [])), (24, (.iadd, 1, 0, 0, 0, [])), (25, (.istore 4, 2, 0, 0, 0, [])), (27, (.bipush 10, 2, 0, 0, 0, [])), (29, (.iload 5, 2, 0, 0, 0, [])), (31, (.imul, 1, 0, 0, 0, []))],
  [(32, (.aload_n 0, 1, 0, 0, 0, [])), (33, (.iload 4, 2, 0, 0, 0, [])), (35, (.invokevirtual 193, 7, 170, 2, 1, [])), (38, (.iadd, 1, 0, 0, 0, [])), (39, (.ldc 245, 0, 0, 0, 0, [(100000, 0)])), (41, (.irem, 1, 0, 0, 0, [])), (42, (.istore 5, 2, 0, 0, 0, [])), (44, (.iload 5, 2, 0, 0, 0, [])), (46, (.iload_n 1, 1, 0, 0, 0, [])), (47, (.invokestatic 81, 3, 130, 1, 1, []))],
  [(50, (.invokestatic 85, 3, 129, 1, 1, [])), (53, (.irem, 1, 0, 0, 0, [])), (54, (.iload_n 1, 1, 0, 0, 0, [])), (55, (.if_icmp .ne 6, 3, 61, 0, 0, [])), (58, (.iload 6, 2, 0, 0, 0, [])), (60, (.ireturn, 1, 0, 0, 0, [])), (61, (.iload 5, 2, 0, 0, 0, [])), (63, (.iload_n 2, 1, 0, 0, 0, []))],
  [(64, (.invokestatic 81, 3, 130, 1, 1, [])), (67, (.invokestatic 85, 3, 129, 1, 1, [])), (70, (.irem, 1, 0, 0, 0, [])), (71, (.iload_n 2, 1, 0, 0, 0, [])), (72, (.if_icmp .ne 9, 3, 81, 0, 0, [])), (75, (.bipush 100, 2, 0, 0, 0, [])), (77, (.iload 6, 2, 0, 0, 0, [])), (79, (.iadd, 1, 0, 0, 0, []))],
  [(80, (.ireturn, 1, 0, 0, 0, [])), (81, (.iinc 6 1, 3, 0, 0, 0, [])), (84, (.goto (-75), 3, 9, 0, 0, [])), (87, (.sipush 260, 3, 0, 0, 0, [])), (90, (.ireturn, 1, 0, 0, 0, []))]]
def zt_X10_duel : zm_T := [[(0, (.aload_n 0, 1, 0, 0, 0, [])), (1, (.iload_n 1, 1, 0, 0, 0, [])), (2, (.invokevirtual 134, 7, 126, 2, 1, [])), (5, (.ifCond .eq 26, 3, 31, 0, 0, [])), (8, (.aload_n 0, 1, 0, 0, 0, [])), (9, (.iload_n 2, 1, 0, 0, 0, [])), (10, (.invokevirtual 134, 7, 126, 2, 1, [])), (13, (.ifCond .eq 18, 3, 31, 0, 0, []))],
  [(16, (.iload_n 1, 1, 0, 0, 0, [])), (17, (.iload_n 2, 1, 0, 0, 0, [])), (18, (.if_icmp .eq 13, 3, 31, 0, 0, [])), (21, (.iload 4, 2, 0, 0, 0, [])), (23, (.iconst 0, 1, 0, 0, 0, [])), (24, (.iconst 1, 1, 0, 0, 0, [])), (25, (.invokestatic 77, 3, 125, 3, 1, [])), (28, (.ifCond .ne 5, 3, 33, 0, 0, [])), (31, (.iconst (-1), 1, 0, 0, 0, []))],
  [(32, (.ireturn, 1, 0, 0, 0, [])), (33, (.aload_n 0, 1, 0, 0, 0, [])), (34, (.getfield 15, 3, 7, 1, 0, [])), (37, (.iload_n 1, 1, 0, 0, 0, [])), (38, (.iaload, 1, 0, 0, 0, [])), (39, (.aload_n 0, 1, 0, 0, 0, [])), (40, (.getfield 15, 3, 7, 1, 0, [])), (43, (.iload_n 2, 1, 0, 0, 0, [])), (44, (.iaload, 1, 0, 0, 0, [])), (45, (.invokestatic 104, 3, 138, 2, 1, []))],
  [(48, (.ifCond .ne 6, 3, 54, 0, 0, [])), (51, (.bipush (-3), 2, 0, 0, 0, [])), (53, (.ireturn, 1, 0, 0, 0, [])), (54, (.aload_n 0, 1, 0, 0, 0, [])), (55, (.aload_n 0, 1, 0, 0, 0, [])), (56, (.getfield 15, 3, 7, 1, 0, [])), (59, (.iload_n 1, 1, 0, 0, 0, [])), (60, (.iaload, 1, 0, 0, 0, [])), (61, (.aload_n 0, 1, 0, 0, 0, [])), (62, (.getfield 15, 3, 7, 1, 0, []))],
  [(65, (.iload_n 2, 1, 0, 0, 0, [])), (66, (.iaload, 1, 0, 0, 0, [])), (67, (.iload_n 3, 1, 0, 0, 0, [])), (68, (.invokevirtual 246, 7, 193, 4, 1, [])), (71, (.istore 5, 2, 0, 0, 0, [])), (73, (.iload 4, 2, 0, 0, 0, [])), (75, (.iconst 1, 1, 0, 0, 0, [])), (76, (.if_icmp .ne 9, 3, 85, 0, 0, [])), (79, (.iload 5, 2, 0, 0, 0, []))],
  [(81, (.bipush 100, 2, 0, 0, 0, [])), (83, (.irem, 1, 0, 0, 0, [])), (84, (.ireturn, 1, 0, 0, 0, [])), (85, (.iload 5, 2, 0, 0, 0, [])), (87, (.sipush 200, 3, 0, 0, 0, [])), (90, (.if_icmp .lt 8, 3, 98, 0, 0, [])), (93, (.bipush (-5), 2, 0, 0, 0, [])), (95, (.goto 8, 3, 103, 0, 0, []))],
  [(98, (.iload 5, 2, 0, 0, 0, [])), (100, (.bipush 100, 2, 0, 0, 0, [])), (102, (.idiv, 1, 0, 0, 0, [])), (103, (.ireturn, 1, 0, 0, 0, []))]]
def zt_X10_odds : zm_T := [[(0, (.aload_n 0, 1, 0, 0, 0, [])), (1, (.iload_n 1, 1, 0, 0, 0, [])), (2, (.invokevirtual 134, 7, 126, 2, 1, [])), (5, (.ifCond .eq 53, 3, 58, 0, 0, [])), (8, (.aload_n 0, 1, 0, 0, 0, [])), (9, (.iload_n 2, 1, 0, 0, 0, [])), (10, (.invokevirtual 134, 7, 126, 2, 1, [])), (13, (.ifCond .eq 45, 3, 58, 0, 0, []))],
  [(16, (.iload_n 1, 1, 0, 0, 0, [])), (17, (.iload_n 2, 1, 0, 0, 0, [])), (18, (.if_icmp .eq 40, 3, 58, 0, 0, [])), (21, (.iload 4, 2, 0, 0, 0, [])), (23, (.iconst 1, 1, 0, 0, 0, [])), (24, (.bipush 30, 2, 0, 0, 0, [])), (26, (.invokestatic 77, 3, 125, 3, 1, [])), (29, (.ifCond .eq 29, 3, 58, 0, 0, []))],
  [(32, (.iload 5, 2, 0, 0, 0, [])), (34, (.invokestatic 140, 3, 127, 1, 1, [])), (37, (.ifCond .eq 21, 3, 58, 0, 0, [])), (40, (.aload_n 0, 1, 0, 0, 0, [])), (41, (.getfield 15, 3, 7, 1, 0, [])), (44, (.iload_n 1, 1, 0, 0, 0, [])), (45, (.iaload, 1, 0, 0, 0, [])), (46, (.aload_n 0, 1, 0, 0, 0, [])), (47, (.getfield 15, 3, 7, 1, 0, []))],
  [(50, (.iload_n 2, 1, 0, 0, 0, [])), (51, (.iaload, 1, 0, 0, 0, [])), (52, (.invokestatic 104, 3, 138, 2, 1, [])), (55, (.ifCond .ne 7, 3, 62, 0, 0, [])), (58, (.ldc2_w 143, 0, 0, 0, 0, [(-9223372036854775808, 0)])), (61, (.lreturn, 1, 0, 0, 0, [])), (62, (.iconst 0, 1, 0, 0, 0, [])), (63, (.istore 6, 2, 0, 0, 0, []))],
  [(65, (.iconst 0, 1, 0, 0, 0, [])), (66, (.istore 7, 2, 0, 0, 0, [])), (68, (.iload 7, 2, 0, 0, 0, [])), (70, (.iload 4, 2, 0, 0, 0, [])), (72, (.if_icmp .ge 37, 3, 109, 0, 0, [])), (75, (.aload_n 0, 1, 0, 0, 0, [])), (76, (.aload_n 0, 1, 0, 0, 0, [])), (77, (.getfield 15, 3, 7, 1, 0, []))],
  [(80, (.iload_n 1, 1, 0, 0, 0, [])), (81, (.iaload, 1, 0, 0, 0, [])), (82, (.aload_n 0, 1, 0, 0, 0, [])), (83, (.getfield 15, 3, 7, 1, 0, [])), (86, (.iload_n 2, 1, 0, 0, 0, [])), (87, (.iaload, 1, 0, 0, 0, [])), (88, (.iload_n 3, 1, 0, 0, 0, [])), (89, (.iload 7, 2, 0, 0, 0, [])), (91, (.iadd, 1, 0, 0, 0, [])), (92, (.invokevirtual 246, 7, 193, 4, 1, [])), (95, (.bipush 100, 2, 0, 0, 0, []))],
  [(97, (.if_icmp .ge 6, 3, 103, 0, 0, [])), (100, (.iinc 6 1, 3, 0, 0, 0, [])), (103, (.iinc 7 1, 3, 0, 0, 0, [])), (106, (.goto (-38), 3, 68, 0, 0, [])), (109, (.iload 6, 2, 0, 0, 0, [])), (111, (.i2l, 1, 0, 0, 0, []))],
  [(112, (.iload 4, 2, 0, 0, 0, [])), (114, (.i2l, 1, 0, 0, 0, [])), (115, (.iload 5, 2, 0, 0, 0, [])), (117, (.invokestatic 114, 3, 142, 3, 2, [])), (120, (.lreturn, 1, 0, 0, 0, []))]]
def zt_X10_plan : zm_T := [[(0, (.iload_n 1, 1, 0, 0, 0, [])), (1, (.iconst (-1), 1, 0, 0, 0, [])), (2, (.if_icmp .ne 10, 3, 12, 0, 0, [])), (5, (.aload_n 0, 1, 0, 0, 0, [])), (6, (.iconst 0, 1, 0, 0, 0, [])), (7, (.putfield 250, 3, 7, 10, 0, [])), (10, (.iconst 0, 1, 0, 0, 0, [])), (11, (.ireturn, 1, 0, 0, 0, [])), (12, (.iload_n 1, 1, 0, 0, 0, [])), (13, (.iconst 0, 1, 0, 0, 0, [])), (14, (.iconst 2, 1, 0, 0, 0, [])), (15, (.invokestatic 77, 3, 125, 3, 1, []))],
  [(18, (.ifCond .ne 5, 3, 23, 0, 0, [])), (21, (.iconst (-1), 1, 0, 0, 0, [])), (22, (.ireturn, 1, 0, 0, 0, [])), (23, (.iload_n 2, 1, 0, 0, 0, [])), (24, (.iconst 1, 1, 0, 0, 0, [])), (25, (.iload_n 1, 1, 0, 0, 0, [])), (26, (.ifCond .ne 7, 3, 33, 0, 0, [])), (29, (.iconst 3, 1, 0, 0, 0, [])), (30, (.goto 14, 3, 44, 0, 0, []))],
  [(33, (.iload_n 1, 1, 0, 0, 0, [])), (34, (.iconst 1, 1, 0, 0, 0, [])), (35, (.if_icmp .ne 8, 3, 43, 0, 0, [])), (38, (.bipush 9, 2, 0, 0, 0, [])), (40, (.goto 4, 3, 44, 0, 0, [])), (43, (.iconst 2, 1, 0, 0, 0, [])), (44, (.invokestatic 77, 3, 125, 3, 1, [])), (47, (.ifCond .ne 6, 3, 53, 0, 0, []))],
  [(50, (.bipush (-2), 2, 0, 0, 0, [])), (52, (.ireturn, 1, 0, 0, 0, [])), (53, (.aload_n 0, 1, 0, 0, 0, [])), (54, (.getfield 250, 3, 7, 10, 0, [])), (57, (.bipush 8, 2, 0, 0, 0, [])), (59, (.if_icmp .ne 6, 3, 65, 0, 0, [])), (62, (.bipush (-4), 2, 0, 0, 0, []))],
  [(64, (.ireturn, 1, 0, 0, 0, [])), (65, (.aload_n 0, 1, 0, 0, 0, [])), (66, (.getfield 28, 3, 7, 8, 0, [])), (69, (.aload_n 0, 1, 0, 0, 0, [])), (70, (.getfield 250, 3, 7, 10, 0, [])), (73, (.iload_n 1, 1, 0, 0, 0, [])), (74, (.iastore, 1, 0, 0, 0, [])), (75, (.aload_n 0, 1, 0, 0, 0, [])), (76, (.getfield 31, 3, 7, 9, 0, [])), (79, (.aload_n 0, 1, 0, 0, 0, []))],
  [(80, (.getfield 250, 3, 7, 10, 0, [])), (83, (.iload_n 2, 1, 0, 0, 0, [])), (84, (.iastore, 1, 0, 0, 0, [])), (85, (.aload_n 0, 1, 0, 0, 0, [])), (86, (.dup, 1, 0, 0, 0, [])), (87, (.getfield 250, 3, 7, 10, 0, [])), (90, (.iconst 1, 1, 0, 0, 0, [])), (91, (.iadd, 1, 0, 0, 0, [])), (92, (.putfield 250, 3, 7, 10, 0, [])), (95, (.aload_n 0, 1, 0, 0, 0, []))],
  [(96, (.getfield 250, 3, 7, 10, 0, [])), (99, (.ireturn, 1, 0, 0, 0, []))]]
def zt_X10_does : zm_T := [[(0, (.iload_n 1, 1, 0, 0, 0, [])), (1, (.lookupswitch 77 #[(0, 27), (1, 62)], 27, 78, 0, 0, [(0, 28), (1, 63)]))],
  [(28, (.iload_n 2, 1, 0, 0, 0, [])), (29, (.aload_n 0, 1, 0, 0, 0, [])), (30, (.getfield 9, 3, 7, 0, 0, []))],
  [(33, (.if_icmp .gt 29, 3, 62, 0, 0, [])), (36, (.aload_n 0, 1, 0, 0, 0, [])), (37, (.getfield 121, 3, 7, 4, 0, [])), (40, (.bipush 40, 2, 0, 0, 0, [])), (42, (.if_icmp .ge 20, 3, 62, 0, 0, [])), (45, (.aload_n 0, 1, 0, 0, 0, [])), (46, (.getfield 19, 3, 7, 3, 0, []))],
  [(49, (.aload_n 0, 1, 0, 0, 0, [])), (50, (.dup, 1, 0, 0, 0, [])), (51, (.getfield 121, 3, 7, 4, 0, [])), (54, (.dup_x1, 1, 0, 0, 0, [])), (55, (.iconst 1, 1, 0, 0, 0, [])), (56, (.iadd, 1, 0, 0, 0, [])), (57, (.putfield 121, 3, 7, 4, 0, [])), (60, (.iload_n 2, 1, 0, 0, 0, [])), (61, (.iastore, 1, 0, 0, 0, [])), (62, (.return_, 1, 0, 0, 0, [])), (63, (.aload_n 0, 1, 0, 0, 0, []))],
  [(64, (.iconst 0, 1, 0, 0, 0, [])), (65, (.aload_n 0, 1, 0, 0, 0, [])), (66, (.getfield 121, 3, 7, 4, 0, [])), (69, (.iload_n 2, 1, 0, 0, 0, [])), (70, (.isub, 1, 0, 0, 0, [])), (71, (.invokestatic 253, 3, 9997, 2, 1, [])), (74, (.putfield 121, 3, 7, 4, 0, [])), (77, (.return_, 1, 0, 0, 0, [])), (78, (.iconst 0, 1, 0, 0, 0, [])), (79, (.istore_n 3, 1, 0, 0, 0, []))],
  [(80, (.iload_n 3, 1, 0, 0, 0, [])), (81, (.iload_n 2, 1, 0, 0, 0, [])), (82, (.if_icmp .ge 45, 3, 127, 0, 0, [])), (85, (.iconst 0, 1, 0, 0, 0, [])), (86, (.istore 4, 2, 0, 0, 0, [])), (88, (.iload 4, 2, 0, 0, 0, [])), (90, (.aload_n 0, 1, 0, 0, 0, [])), (91, (.getfield 121, 3, 7, 4, 0, [])), (94, (.if_icmp .ge 27, 3, 121, 0, 0, []))],
  [(97, (.aload_n 0, 1, 0, 0, 0, [])), (98, (.getfield 19, 3, 7, 3, 0, [])), (101, (.iload 4, 2, 0, 0, 0, [])), (103, (.aload_n 0, 1, 0, 0, 0, [])), (104, (.aload_n 0, 1, 0, 0, 0, [])), (105, (.getfield 19, 3, 7, 3, 0, [])), (108, (.iload 4, 2, 0, 0, 0, [])), (110, (.iaload, 1, 0, 0, 0, [])), (111, (.invokevirtual 218, 7, 134, 2, 1, []))],
  [(114, (.iastore, 1, 0, 0, 0, [])), (115, (.iinc 4 1, 3, 0, 0, 0, [])), (118, (.goto (-30), 3, 88, 0, 0, [])), (121, (.iinc 3 1, 3, 0, 0, 0, [])), (124, (.goto (-44), 3, 80, 0, 0, [])), (127, (.return_, 1, 0, 0, 0, []))]]
def zt_X10_behind : zm_T := [[(0, (.iload_n 1, 1, 0, 0, 0, [])), (1, (.iconst 0, 1, 0, 0, 0, [])), (2, (.iconst 1, 1, 0, 0, 0, [])), (3, (.invokestatic 77, 3, 125, 3, 1, [])), (6, (.ifCond .ne 27, 3, 33, 0, 0, [])), (9, (.iload_n 1, 1, 0, 0, 0, [])), (10, (.bipush 10, 2, 0, 0, 0, [])), (12, (.bipush 15, 2, 0, 0, 0, [])), (14, (.invokestatic 77, 3, 125, 3, 1, []))],
  [(17, (.ifCond .eq 14, 3, 31, 0, 0, [])), (20, (.aload_n 0, 1, 0, 0, 0, [])), (21, (.iload_n 1, 1, 0, 0, 0, [])), (22, (.bipush 10, 2, 0, 0, 0, [])), (24, (.isub, 1, 0, 0, 0, [])), (25, (.invokevirtual 134, 7, 126, 2, 1, [])), (28, (.ifCond .ne 5, 3, 33, 0, 0, [])), (31, (.iconst (-1), 1, 0, 0, 0, []))],
  [(32, (.ireturn, 1, 0, 0, 0, [])), (33, (.aload_n 0, 1, 0, 0, 0, [])), (34, (.aload_n 0, 1, 0, 0, 0, [])), (35, (.getfield 121, 3, 7, 4, 0, [])), (38, (.putfield 256, 3, 7, 21, 0, [])), (41, (.iconst 0, 1, 0, 0, 0, [])), (42, (.istore_n 2, 1, 0, 0, 0, [])), (43, (.iload_n 2, 1, 0, 0, 0, [])), (44, (.bipush 40, 2, 0, 0, 0, [])), (46, (.if_icmp .ge 21, 3, 67, 0, 0, []))],
  [(49, (.aload_n 0, 1, 0, 0, 0, [])), (50, (.getfield 52, 3, 7, 20, 0, [])), (53, (.iload_n 2, 1, 0, 0, 0, [])), (54, (.aload_n 0, 1, 0, 0, 0, [])), (55, (.getfield 19, 3, 7, 3, 0, [])), (58, (.iload_n 2, 1, 0, 0, 0, [])), (59, (.iaload, 1, 0, 0, 0, [])), (60, (.iastore, 1, 0, 0, 0, [])), (61, (.iinc 2 1, 3, 0, 0, 0, []))],
  [(64, (.goto (-21), 3, 43, 0, 0, [])), (67, (.iconst 0, 1, 0, 0, 0, [])), (68, (.istore_n 2, 1, 0, 0, 0, [])), (69, (.iload_n 2, 1, 0, 0, 0, [])), (70, (.aload_n 0, 1, 0, 0, 0, [])), (71, (.getfield 250, 3, 7, 10, 0, [])), (74, (.if_icmp .ge 25, 3, 99, 0, 0, [])), (77, (.aload_n 0, 1, 0, 0, 0, [])), (78, (.aload_n 0, 1, 0, 0, 0, [])), (79, (.getfield 28, 3, 7, 8, 0, []))],
  [(82, (.iload_n 2, 1, 0, 0, 0, [])), (83, (.iaload, 1, 0, 0, 0, [])), (84, (.aload_n 0, 1, 0, 0, 0, [])), (85, (.getfield 31, 3, 7, 9, 0, [])), (88, (.iload_n 2, 1, 0, 0, 0, [])), (89, (.iaload, 1, 0, 0, 0, [])), (90, (.invokevirtual 259, 7, 197, 3, 0, [])), (93, (.iinc 2 1, 3, 0, 0, 0, []))],
  [(96, (.goto (-27), 3, 69, 0, 0, [])), (99, (.iload_n 1, 1, 0, 0, 0, [])), (100, (.ifCond .ne 10, 3, 110, 0, 0, [])), (103, (.aload_n 0, 1, 0, 0, 0, [])), (104, (.getfield 121, 3, 7, 4, 0, [])), (107, (.goto 23, 3, 130, 0, 0, [])), (110, (.iload_n 1, 1, 0, 0, 0, [])), (111, (.iconst 1, 1, 0, 0, 0, []))],
  [(112, (.if_icmp .ne 10, 3, 122, 0, 0, [])), (115, (.aload_n 0, 1, 0, 0, 0, [])), (116, (.invokevirtual 212, 7, 179, 1, 1, [])), (119, (.goto 11, 3, 130, 0, 0, [])), (122, (.aload_n 0, 1, 0, 0, 0, [])), (123, (.iload_n 1, 1, 0, 0, 0, [])), (124, (.bipush 10, 2, 0, 0, 0, [])), (126, (.isub, 1, 0, 0, 0, [])), (127, (.invokevirtual 199, 7, 176, 2, 1, []))],
  [(130, (.istore_n 2, 1, 0, 0, 0, [])), (131, (.aload_n 0, 1, 0, 0, 0, [])), (132, (.aload_n 0, 1, 0, 0, 0, [])), (133, (.getfield 256, 3, 7, 21, 0, [])), (136, (.putfield 121, 3, 7, 4, 0, [])), (139, (.iconst 0, 1, 0, 0, 0, [])), (140, (.istore_n 3, 1, 0, 0, 0, [])), (141, (.iload_n 3, 1, 0, 0, 0, [])), (142, (.bipush 40, 2, 0, 0, 0, []))],
  [(144, (.if_icmp .ge 21, 3, 165, 0, 0, [])), (147, (.aload_n 0, 1, 0, 0, 0, [])), (148, (.getfield 19, 3, 7, 3, 0, [])), (151, (.iload_n 3, 1, 0, 0, 0, [])), (152, (.aload_n 0, 1, 0, 0, 0, [])), (153, (.getfield 52, 3, 7, 20, 0, [])), (156, (.iload_n 3, 1, 0, 0, 0, [])), (157, (.iaload, 1, 0, 0, 0, [])), (158, (.iastore, 1, 0, 0, 0, [])), (159, (.iinc 3 1, 3, 0, 0, 0, []))],
  [(162, (.goto (-21), 3, 141, 0, 0, [])), (165, (.iload_n 2, 1, 0, 0, 0, [])), (166, (.ireturn, 1, 0, 0, 0, []))]]
def zt_X10_write : zm_T := [[(0, (.iload_n 1, 1, 0, 0, 0, [])), (1, (.iconst (-1), 1, 0, 0, 0, [])), (2, (.if_icmp .eq 13, 3, 15, 0, 0, [])), (5, (.aload_n 0, 1, 0, 0, 0, [])), (6, (.iload_n 1, 1, 0, 0, 0, [])), (7, (.invokevirtual 134, 7, 126, 2, 1, [])), (10, (.ifCond .ne 5, 3, 15, 0, 0, [])), (13, (.iconst (-1), 1, 0, 0, 0, [])), (14, (.ireturn, 1, 0, 0, 0, [])), (15, (.aload_n 0, 1, 0, 0, 0, []))],
  [(16, (.iload_n 1, 1, 0, 0, 0, [])), (17, (.iconst (-1), 1, 0, 0, 0, [])), (18, (.if_icmp .ne 10, 3, 28, 0, 0, [])), (21, (.aload_n 0, 1, 0, 0, 0, [])), (22, (.getfield 121, 3, 7, 4, 0, [])), (25, (.goto 12, 3, 37, 0, 0, [])), (28, (.aload_n 0, 1, 0, 0, 0, [])), (29, (.getfield 15, 3, 7, 1, 0, []))],
  [(32, (.iload_n 1, 1, 0, 0, 0, [])), (33, (.iaload, 1, 0, 0, 0, [])), (34, (.invokestatic 81, 3, 130, 1, 1, [])), (37, (.putfield 263, 3, 7, 14, 0, [])), (40, (.iconst 0, 1, 0, 0, 0, [])), (41, (.istore_n 2, 1, 0, 0, 0, [])), (42, (.iload_n 2, 1, 0, 0, 0, [])), (43, (.aload_n 0, 1, 0, 0, 0, [])), (44, (.getfield 263, 3, 7, 14, 0, [])), (47, (.if_icmp .ge 42, 3, 89, 0, 0, []))],
  [(50, (.aload_n 0, 1, 0, 0, 0, [])), (51, (.getfield 37, 3, 7, 13, 0, [])), (54, (.iload_n 2, 1, 0, 0, 0, [])), (55, (.bipush 96, 2, 0, 0, 0, [])), (57, (.iload_n 1, 1, 0, 0, 0, [])), (58, (.iconst (-1), 1, 0, 0, 0, [])), (59, (.if_icmp .ne 12, 3, 71, 0, 0, [])), (62, (.aload_n 0, 1, 0, 0, 0, [])), (63, (.getfield 19, 3, 7, 3, 0, []))],
  [(66, (.iload_n 2, 1, 0, 0, 0, [])), (67, (.iaload, 1, 0, 0, 0, [])), (68, (.goto 13, 3, 81, 0, 0, [])), (71, (.aload_n 0, 1, 0, 0, 0, [])), (72, (.getfield 15, 3, 7, 1, 0, [])), (75, (.iload_n 1, 1, 0, 0, 0, [])), (76, (.iaload, 1, 0, 0, 0, [])), (77, (.iload_n 2, 1, 0, 0, 0, [])), (78, (.invokestatic 183, 3, 131, 2, 1, []))],
  [(81, (.iadd, 1, 0, 0, 0, [])), (82, (.iastore, 1, 0, 0, 0, [])), (83, (.iinc 2 1, 3, 0, 0, 0, [])), (86, (.goto (-44), 3, 42, 0, 0, [])), (89, (.aload_n 0, 1, 0, 0, 0, [])), (90, (.getfield 263, 3, 7, 14, 0, [])), (93, (.ireturn, 1, 0, 0, 0, []))]]
def zt_X10_paper : zm_T := [[(0, (.iload_n 1, 1, 0, 0, 0, [])), (1, (.iconst 0, 1, 0, 0, 0, [])), (2, (.aload_n 0, 1, 0, 0, 0, [])), (3, (.getfield 263, 3, 7, 14, 0, [])), (6, (.iconst 1, 1, 0, 0, 0, [])), (7, (.isub, 1, 0, 0, 0, [])), (8, (.invokestatic 77, 3, 125, 3, 1, [])), (11, (.ifCond .eq 12, 3, 23, 0, 0, [])), (14, (.aload_n 0, 1, 0, 0, 0, [])), (15, (.getfield 37, 3, 7, 13, 0, []))],
  [(18, (.iload_n 1, 1, 0, 0, 0, [])), (19, (.iaload, 1, 0, 0, 0, [])), (20, (.goto 4, 3, 24, 0, 0, [])), (23, (.iconst (-1), 1, 0, 0, 0, [])), (24, (.ireturn, 1, 0, 0, 0, []))]]
def zt_X10_judge : zm_T := [[(0, (.iload_n 1, 1, 0, 0, 0, [])), (1, (.invokestatic 266, 3, 128, 1, 1, [])), (4, (.ifCond .ne 5, 3, 9, 0, 0, [])), (7, (.iconst (-1), 1, 0, 0, 0, [])), (8, (.ireturn, 1, 0, 0, 0, [])), (9, (.aload_n 0, 1, 0, 0, 0, [])), (10, (.getfield 43, 3, 7, 16, 0, [])), (13, (.iload_n 1, 1, 0, 0, 0, [])), (14, (.iaload, 1, 0, 0, 0, [])), (15, (.ifCond .ge 6, 3, 21, 0, 0, []))],
  [(18, (.bipush (-11), 2, 0, 0, 0, [])), (20, (.ireturn, 1, 0, 0, 0, [])), (21, (.iconst 0, 1, 0, 0, 0, [])), (22, (.istore_n 2, 1, 0, 0, 0, [])), (23, (.iload_n 2, 1, 0, 0, 0, [])), (24, (.aload_n 0, 1, 0, 0, 0, [])), (25, (.getfield 43, 3, 7, 16, 0, [])), (28, (.iload_n 1, 1, 0, 0, 0, [])), (29, (.iaload, 1, 0, 0, 0, [])), (30, (.if_icmp .ge 43, 3, 73, 0, 0, []))],
  [(33, (.aload_n 0, 1, 0, 0, 0, [])), (34, (.getfield 40, 3, 7, 15, 0, [])), (37, (.bipush 12, 2, 0, 0, 0, [])), (39, (.iload_n 1, 1, 0, 0, 0, [])), (40, (.imul, 1, 0, 0, 0, [])), (41, (.iload_n 2, 1, 0, 0, 0, [])), (42, (.iadd, 1, 0, 0, 0, [])), (43, (.iaload, 1, 0, 0, 0, [])), (44, (.aload_n 0, 1, 0, 0, 0, [])), (45, (.iload_n 2, 1, 0, 0, 0, [])), (46, (.invokevirtual 134, 7, 126, 2, 1, []))],
  [(49, (.ifCond .eq 11, 3, 60, 0, 0, [])), (52, (.aload_n 0, 1, 0, 0, 0, [])), (53, (.iload_n 2, 1, 0, 0, 0, [])), (54, (.invokevirtual 199, 7, 176, 2, 1, [])), (57, (.goto 5, 3, 62, 0, 0, [])), (60, (.bipush (-5), 2, 0, 0, 0, [])), (62, (.if_icmp .eq 5, 3, 67, 0, 0, []))],
  [(65, (.iload_n 2, 1, 0, 0, 0, [])), (66, (.ireturn, 1, 0, 0, 0, [])), (67, (.iinc 2 1, 3, 0, 0, 0, [])), (70, (.goto (-47), 3, 23, 0, 0, [])), (73, (.bipush (-5), 2, 0, 0, 0, [])), (75, (.ireturn, 1, 0, 0, 0, []))]]
def zt_X10_list : zm_T := [[(0, (.iload_n 1, 1, 0, 0, 0, [])), (1, (.invokestatic 266, 3, 128, 1, 1, [])), (4, (.ifCond .ne 5, 3, 9, 0, 0, [])), (7, (.iconst (-1), 1, 0, 0, 0, [])), (8, (.ireturn, 1, 0, 0, 0, [])), (9, (.iload_n 2, 1, 0, 0, 0, [])), (10, (.bipush 12, 2, 0, 0, 0, [])), (12, (.if_icmp .le 6, 3, 18, 0, 0, [])), (15, (.bipush (-2), 2, 0, 0, 0, []))],
  [(17, (.ireturn, 1, 0, 0, 0, [])), (18, (.iload_n 2, 1, 0, 0, 0, [])), (19, (.ifCond .ge 6, 3, 25, 0, 0, [])), (22, (.bipush (-14), 2, 0, 0, 0, [])), (24, (.ireturn, 1, 0, 0, 0, [])), (25, (.aload_n 0, 1, 0, 0, 0, [])), (26, (.getfield 43, 3, 7, 16, 0, [])), (29, (.iload_n 1, 1, 0, 0, 0, [])), (30, (.iload_n 2, 1, 0, 0, 0, [])), (31, (.iastore, 1, 0, 0, 0, []))],
  [(32, (.iconst 0, 1, 0, 0, 0, [])), (33, (.istore_n 3, 1, 0, 0, 0, [])), (34, (.iload_n 3, 1, 0, 0, 0, [])), (35, (.bipush 12, 2, 0, 0, 0, [])), (37, (.if_icmp .ge 21, 3, 58, 0, 0, [])), (40, (.aload_n 0, 1, 0, 0, 0, [])), (41, (.getfield 40, 3, 7, 15, 0, [])), (44, (.bipush 12, 2, 0, 0, 0, [])), (46, (.iload_n 1, 1, 0, 0, 0, [])), (47, (.imul, 1, 0, 0, 0, []))],
  [(48, (.iload_n 3, 1, 0, 0, 0, [])), (49, (.iadd, 1, 0, 0, 0, [])), (50, (.iconst 0, 1, 0, 0, 0, [])), (51, (.iastore, 1, 0, 0, 0, [])), (52, (.iinc 3 1, 3, 0, 0, 0, [])), (55, (.goto (-21), 3, 34, 0, 0, [])), (58, (.iconst 1, 1, 0, 0, 0, [])), (59, (.ireturn, 1, 0, 0, 0, []))]]
def zt_X10_put : zm_T := [[(0, (.iload_n 1, 1, 0, 0, 0, [])), (1, (.invokestatic 266, 3, 128, 1, 1, [])), (4, (.ifCond .ne 5, 3, 9, 0, 0, [])), (7, (.iconst (-1), 1, 0, 0, 0, [])), (8, (.ireturn, 1, 0, 0, 0, [])), (9, (.aload_n 0, 1, 0, 0, 0, [])), (10, (.getfield 43, 3, 7, 16, 0, [])), (13, (.iload_n 1, 1, 0, 0, 0, [])), (14, (.iaload, 1, 0, 0, 0, [])), (15, (.ifCond .ge 6, 3, 21, 0, 0, []))],
  [(18, (.bipush (-11), 2, 0, 0, 0, [])), (20, (.ireturn, 1, 0, 0, 0, [])), (21, (.iload_n 2, 1, 0, 0, 0, [])), (22, (.iconst 0, 1, 0, 0, 0, [])), (23, (.aload_n 0, 1, 0, 0, 0, [])), (24, (.getfield 43, 3, 7, 16, 0, [])), (27, (.iload_n 1, 1, 0, 0, 0, [])), (28, (.iaload, 1, 0, 0, 0, [])), (29, (.iconst 1, 1, 0, 0, 0, [])), (30, (.isub, 1, 0, 0, 0, [])), (31, (.invokestatic 77, 3, 125, 3, 1, []))],
  [(34, (.ifCond .ne 6, 3, 40, 0, 0, [])), (37, (.bipush (-13), 2, 0, 0, 0, [])), (39, (.ireturn, 1, 0, 0, 0, [])), (40, (.aload_n 0, 1, 0, 0, 0, [])), (41, (.getfield 40, 3, 7, 15, 0, [])), (44, (.bipush 12, 2, 0, 0, 0, [])), (46, (.iload_n 1, 1, 0, 0, 0, [])), (47, (.imul, 1, 0, 0, 0, []))],
  [(48, (.iload_n 2, 1, 0, 0, 0, [])), (49, (.iadd, 1, 0, 0, 0, [])), (50, (.iload_n 3, 1, 0, 0, 0, [])), (51, (.iastore, 1, 0, 0, 0, [])), (52, (.iconst 1, 1, 0, 0, 0, [])), (53, (.ireturn, 1, 0, 0, 0, []))]]
def zt_X10_get : zm_T := [[(0, (.iload_n 1, 1, 0, 0, 0, [])), (1, (.invokestatic 266, 3, 128, 1, 1, [])), (4, (.ifCond .eq 19, 3, 23, 0, 0, [])), (7, (.iload_n 2, 1, 0, 0, 0, [])), (8, (.iconst 0, 1, 0, 0, 0, [])), (9, (.aload_n 0, 1, 0, 0, 0, [])), (10, (.getfield 43, 3, 7, 16, 0, [])), (13, (.iload_n 1, 1, 0, 0, 0, [])), (14, (.iaload, 1, 0, 0, 0, [])), (15, (.iconst 1, 1, 0, 0, 0, []))],
  [(16, (.isub, 1, 0, 0, 0, [])), (17, (.invokestatic 77, 3, 125, 3, 1, [])), (20, (.ifCond .ne 7, 3, 27, 0, 0, [])), (23, (.ldc2_w 143, 0, 0, 0, 0, [(-9223372036854775808, 0)])), (26, (.lreturn, 1, 0, 0, 0, [])), (27, (.aload_n 0, 1, 0, 0, 0, [])), (28, (.getfield 40, 3, 7, 15, 0, [])), (31, (.bipush 12, 2, 0, 0, 0, []))],
  [(33, (.iload_n 1, 1, 0, 0, 0, [])), (34, (.imul, 1, 0, 0, 0, [])), (35, (.iload_n 2, 1, 0, 0, 0, [])), (36, (.iadd, 1, 0, 0, 0, [])), (37, (.iaload, 1, 0, 0, 0, [])), (38, (.i2l, 1, 0, 0, 0, [])), (39, (.lreturn, 1, 0, 0, 0, []))]]
def zt_X10_image : zm_T := [[(0, (.aload_n 0, 1, 0, 0, 0, [])), (1, (.iconst 1, 1, 0, 0, 0, [])), (2, (.putfield 269, 3, 7, 18, 1, [])), (5, (.aload_n 0, 1, 0, 0, 0, [])), (6, (.getfield 46, 3, 7, 17, 0, [])), (9, (.iconst 0, 1, 0, 0, 0, [])), (10, (.aload_n 0, 1, 0, 0, 0, [])), (11, (.getfield 9, 3, 7, 0, 0, [])), (14, (.iastore, 1, 0, 0, 0, [])), (15, (.aload_n 0, 1, 0, 0, 0, []))],
  [(16, (.getfield 46, 3, 7, 17, 0, [])), (19, (.iconst 1, 1, 0, 0, 0, [])), (20, (.aload_n 0, 1, 0, 0, 0, [])), (21, (.getfield 74, 3, 7, 2, 0, [])), (24, (.iastore, 1, 0, 0, 0, [])), (25, (.aload_n 0, 1, 0, 0, 0, [])), (26, (.getfield 46, 3, 7, 17, 0, [])), (29, (.iconst 2, 1, 0, 0, 0, [])), (30, (.aload_n 0, 1, 0, 0, 0, [])), (31, (.getfield 121, 3, 7, 4, 0, []))],
  [(34, (.iastore, 1, 0, 0, 0, [])), (35, (.aload_n 0, 1, 0, 0, 0, [])), (36, (.getfield 46, 3, 7, 17, 0, [])), (39, (.iconst 3, 1, 0, 0, 0, [])), (40, (.aload_n 0, 1, 0, 0, 0, [])), (41, (.getfield 215, 3, 7, 7, 0, [])), (44, (.iastore, 1, 0, 0, 0, [])), (45, (.aload_n 0, 1, 0, 0, 0, [])), (46, (.getfield 46, 3, 7, 17, 0, []))],
  [(49, (.iconst 4, 1, 0, 0, 0, [])), (50, (.aload_n 0, 1, 0, 0, 0, [])), (51, (.getfield 250, 3, 7, 10, 0, [])), (54, (.iastore, 1, 0, 0, 0, [])), (55, (.iconst 0, 1, 0, 0, 0, [])), (56, (.istore_n 1, 1, 0, 0, 0, [])), (57, (.iload_n 1, 1, 0, 0, 0, [])), (58, (.bipush 6, 2, 0, 0, 0, [])), (60, (.if_icmp .ge 23, 3, 83, 0, 0, [])), (63, (.aload_n 0, 1, 0, 0, 0, []))],
  [(64, (.getfield 46, 3, 7, 17, 0, [])), (67, (.iconst 5, 1, 0, 0, 0, [])), (68, (.iload_n 1, 1, 0, 0, 0, [])), (69, (.iadd, 1, 0, 0, 0, [])), (70, (.aload_n 0, 1, 0, 0, 0, [])), (71, (.getfield 15, 3, 7, 1, 0, [])), (74, (.iload_n 1, 1, 0, 0, 0, [])), (75, (.iaload, 1, 0, 0, 0, [])), (76, (.iastore, 1, 0, 0, 0, [])), (77, (.iinc 1 1, 3, 0, 0, 0, []))],
  [(80, (.goto (-23), 3, 57, 0, 0, [])), (83, (.iconst 0, 1, 0, 0, 0, [])), (84, (.istore_n 1, 1, 0, 0, 0, [])), (85, (.iload_n 1, 1, 0, 0, 0, [])), (86, (.bipush 40, 2, 0, 0, 0, [])), (88, (.if_icmp .ge 24, 3, 112, 0, 0, [])), (91, (.aload_n 0, 1, 0, 0, 0, [])), (92, (.getfield 46, 3, 7, 17, 0, [])), (95, (.bipush 11, 2, 0, 0, 0, []))],
  [(97, (.iload_n 1, 1, 0, 0, 0, [])), (98, (.iadd, 1, 0, 0, 0, [])), (99, (.aload_n 0, 1, 0, 0, 0, [])), (100, (.getfield 19, 3, 7, 3, 0, [])), (103, (.iload_n 1, 1, 0, 0, 0, [])), (104, (.iaload, 1, 0, 0, 0, [])), (105, (.iastore, 1, 0, 0, 0, [])), (106, (.iinc 1 1, 3, 0, 0, 0, [])), (109, (.goto (-24), 3, 85, 0, 0, []))],
  [(112, (.iconst 0, 1, 0, 0, 0, [])), (113, (.istore_n 1, 1, 0, 0, 0, [])), (114, (.iload_n 1, 1, 0, 0, 0, [])), (115, (.iconst 4, 1, 0, 0, 0, [])), (116, (.if_icmp .ge 39, 3, 155, 0, 0, [])), (119, (.aload_n 0, 1, 0, 0, 0, [])), (120, (.getfield 46, 3, 7, 17, 0, [])), (123, (.bipush 51, 2, 0, 0, 0, [])), (125, (.iload_n 1, 1, 0, 0, 0, [])), (126, (.iadd, 1, 0, 0, 0, [])), (127, (.aload_n 0, 1, 0, 0, 0, []))],
  [(128, (.getfield 22, 3, 7, 5, 0, [])), (131, (.iload_n 1, 1, 0, 0, 0, [])), (132, (.iaload, 1, 0, 0, 0, [])), (133, (.iastore, 1, 0, 0, 0, [])), (134, (.aload_n 0, 1, 0, 0, 0, [])), (135, (.getfield 46, 3, 7, 17, 0, [])), (138, (.bipush 55, 2, 0, 0, 0, [])), (140, (.iload_n 1, 1, 0, 0, 0, [])), (141, (.iadd, 1, 0, 0, 0, [])), (142, (.aload_n 0, 1, 0, 0, 0, [])), (143, (.getfield 25, 3, 7, 6, 0, []))],
  [(146, (.iload_n 1, 1, 0, 0, 0, [])), (147, (.iaload, 1, 0, 0, 0, [])), (148, (.iastore, 1, 0, 0, 0, [])), (149, (.iinc 1 1, 3, 0, 0, 0, [])), (152, (.goto (-38), 3, 114, 0, 0, [])), (155, (.iconst 0, 1, 0, 0, 0, [])), (156, (.istore_n 1, 1, 0, 0, 0, [])), (157, (.iload_n 1, 1, 0, 0, 0, [])), (158, (.bipush 8, 2, 0, 0, 0, []))],
  [(160, (.if_icmp .ge 39, 3, 199, 0, 0, [])), (163, (.aload_n 0, 1, 0, 0, 0, [])), (164, (.getfield 46, 3, 7, 17, 0, [])), (167, (.bipush 59, 2, 0, 0, 0, [])), (169, (.iload_n 1, 1, 0, 0, 0, [])), (170, (.iadd, 1, 0, 0, 0, [])), (171, (.aload_n 0, 1, 0, 0, 0, [])), (172, (.getfield 28, 3, 7, 8, 0, [])), (175, (.iload_n 1, 1, 0, 0, 0, []))],
  [(176, (.iaload, 1, 0, 0, 0, [])), (177, (.iastore, 1, 0, 0, 0, [])), (178, (.aload_n 0, 1, 0, 0, 0, [])), (179, (.getfield 46, 3, 7, 17, 0, [])), (182, (.bipush 67, 2, 0, 0, 0, [])), (184, (.iload_n 1, 1, 0, 0, 0, [])), (185, (.iadd, 1, 0, 0, 0, [])), (186, (.aload_n 0, 1, 0, 0, 0, [])), (187, (.getfield 31, 3, 7, 9, 0, [])), (190, (.iload_n 1, 1, 0, 0, 0, [])), (191, (.iaload, 1, 0, 0, 0, []))],
  [(192, (.iastore, 1, 0, 0, 0, [])), (193, (.iinc 1 1, 3, 0, 0, 0, [])), (196, (.goto (-39), 3, 157, 0, 0, [])), (199, (.aload_n 0, 1, 0, 0, 0, [])), (200, (.getfield 74, 3, 7, 2, 0, [])), (203, (.ireturn, 1, 0, 0, 0, []))]]
def zt_X10_undo : zm_T := [[(0, (.aload_n 0, 1, 0, 0, 0, [])), (1, (.getfield 269, 3, 7, 18, 0, [])), (4, (.ifCond .ne 6, 3, 10, 0, 0, [])), (7, (.bipush (-3), 2, 0, 0, 0, [])), (9, (.ireturn, 1, 0, 0, 0, [])), (10, (.aload_n 0, 1, 0, 0, 0, [])), (11, (.aload_n 0, 1, 0, 0, 0, [])), (12, (.getfield 46, 3, 7, 17, 0, [])), (15, (.iconst 0, 1, 0, 0, 0, []))],
  [(16, (.iaload, 1, 0, 0, 0, [])), (17, (.putfield 9, 3, 7, 0, 0, [])), (20, (.aload_n 0, 1, 0, 0, 0, [])), (21, (.aload_n 0, 1, 0, 0, 0, [])), (22, (.getfield 46, 3, 7, 17, 0, [])), (25, (.iconst 1, 1, 0, 0, 0, [])), (26, (.iaload, 1, 0, 0, 0, [])), (27, (.putfield 74, 3, 7, 2, 0, [])), (30, (.aload_n 0, 1, 0, 0, 0, [])), (31, (.aload_n 0, 1, 0, 0, 0, []))],
  [(32, (.getfield 46, 3, 7, 17, 0, [])), (35, (.iconst 2, 1, 0, 0, 0, [])), (36, (.iaload, 1, 0, 0, 0, [])), (37, (.putfield 121, 3, 7, 4, 0, [])), (40, (.aload_n 0, 1, 0, 0, 0, [])), (41, (.aload_n 0, 1, 0, 0, 0, [])), (42, (.getfield 46, 3, 7, 17, 0, [])), (45, (.iconst 3, 1, 0, 0, 0, [])), (46, (.iaload, 1, 0, 0, 0, [])), (47, (.putfield 215, 3, 7, 7, 0, []))],
  [(50, (.aload_n 0, 1, 0, 0, 0, [])), (51, (.aload_n 0, 1, 0, 0, 0, [])), (52, (.getfield 46, 3, 7, 17, 0, [])), (55, (.iconst 4, 1, 0, 0, 0, [])), (56, (.iaload, 1, 0, 0, 0, [])), (57, (.putfield 250, 3, 7, 10, 0, [])), (60, (.iconst 0, 1, 0, 0, 0, [])), (61, (.istore_n 1, 1, 0, 0, 0, [])), (62, (.iload_n 1, 1, 0, 0, 0, [])), (63, (.bipush 6, 2, 0, 0, 0, []))],
  [(65, (.if_icmp .ge 23, 3, 88, 0, 0, [])), (68, (.aload_n 0, 1, 0, 0, 0, [])), (69, (.getfield 15, 3, 7, 1, 0, [])), (72, (.iload_n 1, 1, 0, 0, 0, [])), (73, (.aload_n 0, 1, 0, 0, 0, [])), (74, (.getfield 46, 3, 7, 17, 0, [])), (77, (.iconst 5, 1, 0, 0, 0, [])), (78, (.iload_n 1, 1, 0, 0, 0, [])), (79, (.iadd, 1, 0, 0, 0, []))],
  [(80, (.iaload, 1, 0, 0, 0, [])), (81, (.iastore, 1, 0, 0, 0, [])), (82, (.iinc 1 1, 3, 0, 0, 0, [])), (85, (.goto (-23), 3, 62, 0, 0, [])), (88, (.iconst 0, 1, 0, 0, 0, [])), (89, (.istore_n 1, 1, 0, 0, 0, [])), (90, (.iload_n 1, 1, 0, 0, 0, [])), (91, (.bipush 40, 2, 0, 0, 0, [])), (93, (.if_icmp .ge 24, 3, 117, 0, 0, []))],
  [(96, (.aload_n 0, 1, 0, 0, 0, [])), (97, (.getfield 19, 3, 7, 3, 0, [])), (100, (.iload_n 1, 1, 0, 0, 0, [])), (101, (.aload_n 0, 1, 0, 0, 0, [])), (102, (.getfield 46, 3, 7, 17, 0, [])), (105, (.bipush 11, 2, 0, 0, 0, [])), (107, (.iload_n 1, 1, 0, 0, 0, [])), (108, (.iadd, 1, 0, 0, 0, [])), (109, (.iaload, 1, 0, 0, 0, [])), (110, (.iastore, 1, 0, 0, 0, [])), (111, (.iinc 1 1, 3, 0, 0, 0, []))],
  [(114, (.goto (-24), 3, 90, 0, 0, [])), (117, (.iconst 0, 1, 0, 0, 0, [])), (118, (.istore_n 1, 1, 0, 0, 0, [])), (119, (.iload_n 1, 1, 0, 0, 0, [])), (120, (.iconst 4, 1, 0, 0, 0, [])), (121, (.if_icmp .ge 39, 3, 160, 0, 0, [])), (124, (.aload_n 0, 1, 0, 0, 0, [])), (125, (.getfield 22, 3, 7, 5, 0, []))],
  [(128, (.iload_n 1, 1, 0, 0, 0, [])), (129, (.aload_n 0, 1, 0, 0, 0, [])), (130, (.getfield 46, 3, 7, 17, 0, [])), (133, (.bipush 51, 2, 0, 0, 0, [])), (135, (.iload_n 1, 1, 0, 0, 0, [])), (136, (.iadd, 1, 0, 0, 0, [])), (137, (.iaload, 1, 0, 0, 0, [])), (138, (.iastore, 1, 0, 0, 0, [])), (139, (.aload_n 0, 1, 0, 0, 0, [])), (140, (.getfield 25, 3, 7, 6, 0, [])), (143, (.iload_n 1, 1, 0, 0, 0, []))],
  [(144, (.aload_n 0, 1, 0, 0, 0, [])), (145, (.getfield 46, 3, 7, 17, 0, [])), (148, (.bipush 55, 2, 0, 0, 0, [])), (150, (.iload_n 1, 1, 0, 0, 0, [])), (151, (.iadd, 1, 0, 0, 0, [])), (152, (.iaload, 1, 0, 0, 0, [])), (153, (.iastore, 1, 0, 0, 0, [])), (154, (.iinc 1 1, 3, 0, 0, 0, [])), (157, (.goto (-38), 3, 119, 0, 0, []))],
  [(160, (.iconst 0, 1, 0, 0, 0, [])), (161, (.istore_n 1, 1, 0, 0, 0, [])), (162, (.iload_n 1, 1, 0, 0, 0, [])), (163, (.bipush 8, 2, 0, 0, 0, [])), (165, (.if_icmp .ge 39, 3, 204, 0, 0, [])), (168, (.aload_n 0, 1, 0, 0, 0, [])), (169, (.getfield 28, 3, 7, 8, 0, [])), (172, (.iload_n 1, 1, 0, 0, 0, [])), (173, (.aload_n 0, 1, 0, 0, 0, [])), (174, (.getfield 46, 3, 7, 17, 0, []))],
  [(177, (.bipush 59, 2, 0, 0, 0, [])), (179, (.iload_n 1, 1, 0, 0, 0, [])), (180, (.iadd, 1, 0, 0, 0, [])), (181, (.iaload, 1, 0, 0, 0, [])), (182, (.iastore, 1, 0, 0, 0, [])), (183, (.aload_n 0, 1, 0, 0, 0, [])), (184, (.getfield 31, 3, 7, 9, 0, [])), (187, (.iload_n 1, 1, 0, 0, 0, [])), (188, (.aload_n 0, 1, 0, 0, 0, [])), (189, (.getfield 46, 3, 7, 17, 0, []))],
  [(192, (.bipush 67, 2, 0, 0, 0, [])), (194, (.iload_n 1, 1, 0, 0, 0, [])), (195, (.iadd, 1, 0, 0, 0, [])), (196, (.iaload, 1, 0, 0, 0, [])), (197, (.iastore, 1, 0, 0, 0, [])), (198, (.iinc 1 1, 3, 0, 0, 0, [])), (201, (.goto (-39), 3, 162, 0, 0, [])), (204, (.aload_n 0, 1, 0, 0, 0, [])), (205, (.getfield 74, 3, 7, 2, 0, []))],
  [(208, (.ireturn, 1, 0, 0, 0, []))]]
def zt_X10_count : zm_T := [[(0, (.iload_n 1, 1, 0, 0, 0, [])), (1, (.tableswitch 78 0 6 #[43, 48, 53, 58, 63, 68, 73], 43, 79, 0, 0, [(0, 44), (1, 49), (2, 54), (3, 59), (4, 64), (5, 69), (6, 74)]))],
  [],
  [(44, (.aload_n 0, 1, 0, 0, 0, [])), (45, (.getfield 74, 3, 7, 2, 0, []))],
  [(48, (.ireturn, 1, 0, 0, 0, [])), (49, (.aload_n 0, 1, 0, 0, 0, [])), (50, (.getfield 121, 3, 7, 4, 0, [])), (53, (.ireturn, 1, 0, 0, 0, [])), (54, (.aload_n 0, 1, 0, 0, 0, [])), (55, (.getfield 215, 3, 7, 7, 0, [])), (58, (.ireturn, 1, 0, 0, 0, [])), (59, (.aload_n 0, 1, 0, 0, 0, [])), (60, (.getfield 9, 3, 7, 0, 0, [])), (63, (.ireturn, 1, 0, 0, 0, []))],
  [(64, (.aload_n 0, 1, 0, 0, 0, [])), (65, (.getfield 124, 3, 7, 12, 0, [])), (68, (.ireturn, 1, 0, 0, 0, [])), (69, (.aload_n 0, 1, 0, 0, 0, [])), (70, (.getfield 263, 3, 7, 14, 0, [])), (73, (.ireturn, 1, 0, 0, 0, [])), (74, (.aload_n 0, 1, 0, 0, 0, [])), (75, (.getfield 250, 3, 7, 10, 0, [])), (78, (.ireturn, 1, 0, 0, 0, [])), (79, (.bipush (-2), 2, 0, 0, 0, []))],
  [(81, (.ireturn, 1, 0, 0, 0, []))]]
def zt_J6_bitCount_0f7a4 : zm_T := [[(0, (.iload_n 0, 1, 0, 0, 0, [])), (1, (.iload_n 0, 1, 0, 0, 0, [])), (2, (.iconst 1, 1, 0, 0, 0, [])), (3, (.iushr, 1, 0, 0, 0, [])), (4, (.ldc_w 265, 0, 0, 0, 0, [(1431655765, 0)])), (7, (.iand, 1, 0, 0, 0, [])), (8, (.isub, 1, 0, 0, 0, [])), (9, (.istore_n 0, 1, 0, 0, 0, [])), (10, (.iload_n 0, 1, 0, 0, 0, [])), (11, (.ldc_w 266, 0, 0, 0, 0, [(858993459, 0)])), (14, (.iand, 1, 0, 0, 0, [])), (15, (.iload_n 0, 1, 0, 0, 0, []))],
  [(16, (.iconst 2, 1, 0, 0, 0, [])), (17, (.iushr, 1, 0, 0, 0, [])), (18, (.ldc_w 266, 0, 0, 0, 0, [(858993459, 0)])), (21, (.iand, 1, 0, 0, 0, [])), (22, (.iadd, 1, 0, 0, 0, [])), (23, (.istore_n 0, 1, 0, 0, 0, [])), (24, (.iload_n 0, 1, 0, 0, 0, [])), (25, (.iload_n 0, 1, 0, 0, 0, [])), (26, (.iconst 4, 1, 0, 0, 0, [])), (27, (.iushr, 1, 0, 0, 0, [])), (28, (.iadd, 1, 0, 0, 0, [])), (29, (.ldc_w 267, 0, 0, 0, 0, [(252645135, 0)]))],
  [(32, (.iand, 1, 0, 0, 0, [])), (33, (.istore_n 0, 1, 0, 0, 0, [])), (34, (.iload_n 0, 1, 0, 0, 0, [])), (35, (.iload_n 0, 1, 0, 0, 0, [])), (36, (.bipush 8, 2, 0, 0, 0, [])), (38, (.iushr, 1, 0, 0, 0, [])), (39, (.iadd, 1, 0, 0, 0, [])), (40, (.istore_n 0, 1, 0, 0, 0, [])), (41, (.iload_n 0, 1, 0, 0, 0, [])), (42, (.iload_n 0, 1, 0, 0, 0, [])), (43, (.bipush 16, 2, 0, 0, 0, [])), (45, (.iushr, 1, 0, 0, 0, [])), (46, (.iadd, 1, 0, 0, 0, [])), (47, (.istore_n 0, 1, 0, 0, 0, []))],
  [(48, (.iload_n 0, 1, 0, 0, 0, [])), (49, (.bipush 63, 2, 0, 0, 0, [])), (51, (.iand, 1, 0, 0, 0, [])), (52, (.ireturn, 1, 0, 0, 0, []))]]
def zt_J13_bitCount_95d88 : zm_T := [[(0, (.lload_n 0, 1, 0, 0, 0, [])), (1, (.lload_n 0, 1, 0, 0, 0, [])), (2, (.iconst 1, 1, 0, 0, 0, [])), (3, (.lushr, 1, 0, 0, 0, [])), (4, (.ldc2_w 314, 0, 0, 0, 0, [(6148914691236517205, 0)])), (7, (.land, 1, 0, 0, 0, [])), (8, (.lsub, 1, 0, 0, 0, [])), (9, (.lstore_n 0, 1, 0, 0, 0, [])), (10, (.lload_n 0, 1, 0, 0, 0, [])), (11, (.ldc2_w 316, 0, 0, 0, 0, [(3689348814741910323, 0)])), (14, (.land, 1, 0, 0, 0, [])), (15, (.lload_n 0, 1, 0, 0, 0, []))],
  [(16, (.iconst 2, 1, 0, 0, 0, [])), (17, (.lushr, 1, 0, 0, 0, [])), (18, (.ldc2_w 316, 0, 0, 0, 0, [(3689348814741910323, 0)])), (21, (.land, 1, 0, 0, 0, [])), (22, (.ladd, 1, 0, 0, 0, [])), (23, (.lstore_n 0, 1, 0, 0, 0, [])), (24, (.lload_n 0, 1, 0, 0, 0, [])), (25, (.lload_n 0, 1, 0, 0, 0, [])), (26, (.iconst 4, 1, 0, 0, 0, [])), (27, (.lushr, 1, 0, 0, 0, [])), (28, (.ladd, 1, 0, 0, 0, [])), (29, (.ldc2_w 318, 0, 0, 0, 0, [(1085102592571150095, 0)]))],
  [(32, (.land, 1, 0, 0, 0, [])), (33, (.lstore_n 0, 1, 0, 0, 0, [])), (34, (.lload_n 0, 1, 0, 0, 0, [])), (35, (.lload_n 0, 1, 0, 0, 0, [])), (36, (.bipush 8, 2, 0, 0, 0, [])), (38, (.lushr, 1, 0, 0, 0, [])), (39, (.ladd, 1, 0, 0, 0, [])), (40, (.lstore_n 0, 1, 0, 0, 0, [])), (41, (.lload_n 0, 1, 0, 0, 0, [])), (42, (.lload_n 0, 1, 0, 0, 0, [])), (43, (.bipush 16, 2, 0, 0, 0, [])), (45, (.lushr, 1, 0, 0, 0, [])), (46, (.ladd, 1, 0, 0, 0, [])), (47, (.lstore_n 0, 1, 0, 0, 0, []))],
  [(48, (.lload_n 0, 1, 0, 0, 0, [])), (49, (.lload_n 0, 1, 0, 0, 0, [])), (50, (.bipush 32, 2, 0, 0, 0, [])), (52, (.lushr, 1, 0, 0, 0, [])), (53, (.ladd, 1, 0, 0, 0, [])), (54, (.lstore_n 0, 1, 0, 0, 0, [])), (55, (.lload_n 0, 1, 0, 0, 0, [])), (56, (.l2i, 1, 0, 0, 0, [])), (57, (.bipush 127, 2, 0, 0, 0, [])), (59, (.iand, 1, 0, 0, 0, [])), (60, (.ireturn, 1, 0, 0, 0, []))]]
def zt_J7_fill_53178 : zm_T := [[(0, (.iconst 0, 1, 0, 0, 0, [])), (1, (.istore_n 2, 1, 0, 0, 0, [])), (2, (.aload_n 0, 1, 0, 0, 0, [])), (3, (.arraylength, 1, 0, 0, 0, [])), (4, (.istore_n 3, 1, 0, 0, 0, [])), (5, (.iload_n 2, 1, 0, 0, 0, [])), (6, (.iload_n 3, 1, 0, 0, 0, [])), (7, (.if_icmp .ge 13, 3, 20, 0, 0, [])), (10, (.aload_n 0, 1, 0, 0, 0, [])), (11, (.iload_n 2, 1, 0, 0, 0, [])), (12, (.iload_n 1, 1, 0, 0, 0, [])), (13, (.iastore, 1, 0, 0, 0, [])), (14, (.iinc 2 1, 3, 0, 0, 0, []))],
  [(17, (.goto (-12), 3, 5, 0, 0, [])), (20, (.return_, 1, 0, 0, 0, []))]]
def zt_L_law : zm_T := [[],
  [(16, (.iconst 0, 1, 0, 0, 0, [])), (17, (.istore_n 3, 1, 0, 0, 0, [])), (18, (.iload_n 3, 1, 0, 0, 0, [])), (19, (.aload_n 0, 1, 0, 0, 0, [])), (20, (.arraylength, 1, 0, 0, 0, [])), (21, (.bipush 6, 2, 0, 0, 0, [])), (23, (.isub, 1, 0, 0, 0, [])), (24, (.if_icmp .gt 1418, 3, 1442, 0, 0, [])), (27, (.aload_n 0, 1, 0, 0, 0, [])), (28, (.iload_n 3, 1, 0, 0, 0, [])), (29, (.iaload, 1, 0, 0, 0, [])), (30, (.bipush 63, 2, 0, 0, 0, []))],
  [(32, (.iand, 1, 0, 0, 0, [])), (33, (.tableswitch 1403 0 39 #[175, 198, 221, 234, 267, 300, 333, 366, 399, 443, 477, 510, 533, 577, 611, 654, 677, 710, 723, 746, 770, 803, 816, 849, 882, 915, 958, 1002, 1055, 1119, 1152, 1175, 1198, 1221, 1244, 1277, 1320, 1354, 1367, 1380], 175, 1436, 0, 0, [(0, 208), (1, 231), (2, 254), (3, 267), (4, 300), (5, 333), (6, 366), (7, 399), (8, 432), (9, 476), (10, 510), (11, 543), (12, 566), (13, 610), (14, 644), (15, 687), (16, 710), (17, 743), (18, 756), (19, 779), (20, 803), (21, 836), (22, 849), (23, 882), (24, 915), (25, 948), (26, 991), (27, 1035), (28, 1088), (29, 1152), (30, 1185), (31, 1208), (32, 1231), (33, 1254), (34, 1277), (35, 1310), (36, 1353), (37, 1387), (38, 1400), (39, 1413)]))],
  [],
  [],
  [],
  [],
  [],
  [],
  [],
  [],
  [],
  [],
  [(208, (.aload_n 1, 1, 0, 0, 0, [])), (209, (.aload_n 0, 1, 0, 0, 0, [])), (210, (.iload_n 3, 1, 0, 0, 0, [])), (211, (.iconst 1, 1, 0, 0, 0, [])), (212, (.iadd, 1, 0, 0, 0, [])), (213, (.iaload, 1, 0, 0, 0, [])), (214, (.invokevirtual 13, 6, 76, 2, 1, [])), (217, (.aload_n 2, 1, 0, 0, 0, [])), (218, (.aload_n 0, 1, 0, 0, 0, [])), (219, (.iload_n 3, 1, 0, 0, 0, [])), (220, (.iconst 1, 1, 0, 0, 0, [])), (221, (.iadd, 1, 0, 0, 0, [])), (222, (.iaload, 1, 0, 0, 0, [])), (223, (.invokevirtual 17, 7, 144, 2, 1, []))],
  [(226, (.if_icmp .eq 1210, 3, 1436, 0, 0, [])), (229, (.iconst 0, 1, 0, 0, 0, [])), (230, (.ireturn, 1, 0, 0, 0, [])), (231, (.aload_n 1, 1, 0, 0, 0, [])), (232, (.aload_n 0, 1, 0, 0, 0, [])), (233, (.iload_n 3, 1, 0, 0, 0, [])), (234, (.iconst 1, 1, 0, 0, 0, [])), (235, (.iadd, 1, 0, 0, 0, [])), (236, (.iaload, 1, 0, 0, 0, [])), (237, (.invokevirtual 18, 6, 77, 2, 1, []))],
  [(240, (.aload_n 2, 1, 0, 0, 0, [])), (241, (.aload_n 0, 1, 0, 0, 0, [])), (242, (.iload_n 3, 1, 0, 0, 0, [])), (243, (.iconst 1, 1, 0, 0, 0, [])), (244, (.iadd, 1, 0, 0, 0, [])), (245, (.iaload, 1, 0, 0, 0, [])), (246, (.invokevirtual 21, 7, 145, 2, 1, [])), (249, (.if_icmp .eq 1187, 3, 1436, 0, 0, [])), (252, (.iconst 0, 1, 0, 0, 0, [])), (253, (.ireturn, 1, 0, 0, 0, [])), (254, (.aload_n 1, 1, 0, 0, 0, [])), (255, (.invokevirtual 22, 6, 78, 1, 1, []))],
  [(258, (.aload_n 2, 1, 0, 0, 0, [])), (259, (.invokevirtual 26, 7, 148, 1, 1, [])), (262, (.if_icmp .eq 1174, 3, 1436, 0, 0, [])), (265, (.iconst 0, 1, 0, 0, 0, [])), (266, (.ireturn, 1, 0, 0, 0, [])), (267, (.aload_n 1, 1, 0, 0, 0, [])), (268, (.aload_n 0, 1, 0, 0, 0, [])), (269, (.iload_n 3, 1, 0, 0, 0, [])), (270, (.iconst 1, 1, 0, 0, 0, [])), (271, (.iadd, 1, 0, 0, 0, []))],
  [(272, (.iaload, 1, 0, 0, 0, [])), (273, (.aload_n 0, 1, 0, 0, 0, [])), (274, (.iload_n 3, 1, 0, 0, 0, [])), (275, (.iconst 2, 1, 0, 0, 0, [])), (276, (.iadd, 1, 0, 0, 0, [])), (277, (.iaload, 1, 0, 0, 0, [])), (278, (.invokevirtual 27, 6, 79, 3, 1, [])), (281, (.aload_n 2, 1, 0, 0, 0, [])), (282, (.aload_n 0, 1, 0, 0, 0, [])), (283, (.iload_n 3, 1, 0, 0, 0, [])), (284, (.iconst 1, 1, 0, 0, 0, [])), (285, (.iadd, 1, 0, 0, 0, [])), (286, (.iaload, 1, 0, 0, 0, [])), (287, (.aload_n 0, 1, 0, 0, 0, []))],
  [(288, (.iload_n 3, 1, 0, 0, 0, [])), (289, (.iconst 2, 1, 0, 0, 0, [])), (290, (.iadd, 1, 0, 0, 0, [])), (291, (.iaload, 1, 0, 0, 0, [])), (292, (.invokevirtual 31, 7, 149, 3, 1, [])), (295, (.if_icmp .eq 1141, 3, 1436, 0, 0, [])), (298, (.iconst 0, 1, 0, 0, 0, [])), (299, (.ireturn, 1, 0, 0, 0, [])), (300, (.aload_n 1, 1, 0, 0, 0, [])), (301, (.aload_n 0, 1, 0, 0, 0, [])), (302, (.iload_n 3, 1, 0, 0, 0, [])), (303, (.iconst 1, 1, 0, 0, 0, []))],
  [(304, (.iadd, 1, 0, 0, 0, [])), (305, (.iaload, 1, 0, 0, 0, [])), (306, (.aload_n 0, 1, 0, 0, 0, [])), (307, (.iload_n 3, 1, 0, 0, 0, [])), (308, (.iconst 2, 1, 0, 0, 0, [])), (309, (.iadd, 1, 0, 0, 0, [])), (310, (.iaload, 1, 0, 0, 0, [])), (311, (.invokevirtual 32, 6, 80, 3, 1, [])), (314, (.aload_n 2, 1, 0, 0, 0, [])), (315, (.aload_n 0, 1, 0, 0, 0, [])), (316, (.iload_n 3, 1, 0, 0, 0, [])), (317, (.iconst 1, 1, 0, 0, 0, [])), (318, (.iadd, 1, 0, 0, 0, [])), (319, (.iaload, 1, 0, 0, 0, []))],
  [(320, (.aload_n 0, 1, 0, 0, 0, [])), (321, (.iload_n 3, 1, 0, 0, 0, [])), (322, (.iconst 2, 1, 0, 0, 0, [])), (323, (.iadd, 1, 0, 0, 0, [])), (324, (.iaload, 1, 0, 0, 0, [])), (325, (.invokevirtual 35, 7, 150, 3, 1, [])), (328, (.if_icmp .eq 1108, 3, 1436, 0, 0, [])), (331, (.iconst 0, 1, 0, 0, 0, [])), (332, (.ireturn, 1, 0, 0, 0, [])), (333, (.aload_n 1, 1, 0, 0, 0, [])), (334, (.aload_n 0, 1, 0, 0, 0, [])), (335, (.iload_n 3, 1, 0, 0, 0, []))],
  [(336, (.iconst 1, 1, 0, 0, 0, [])), (337, (.iadd, 1, 0, 0, 0, [])), (338, (.iaload, 1, 0, 0, 0, [])), (339, (.aload_n 0, 1, 0, 0, 0, [])), (340, (.iload_n 3, 1, 0, 0, 0, [])), (341, (.iconst 2, 1, 0, 0, 0, [])), (342, (.iadd, 1, 0, 0, 0, [])), (343, (.iaload, 1, 0, 0, 0, [])), (344, (.invokevirtual 36, 6, 81, 3, 1, [])), (347, (.aload_n 2, 1, 0, 0, 0, [])), (348, (.aload_n 0, 1, 0, 0, 0, [])), (349, (.iload_n 3, 1, 0, 0, 0, [])), (350, (.iconst 1, 1, 0, 0, 0, [])), (351, (.iadd, 1, 0, 0, 0, []))],
  [(352, (.iaload, 1, 0, 0, 0, [])), (353, (.aload_n 0, 1, 0, 0, 0, [])), (354, (.iload_n 3, 1, 0, 0, 0, [])), (355, (.iconst 2, 1, 0, 0, 0, [])), (356, (.iadd, 1, 0, 0, 0, [])), (357, (.iaload, 1, 0, 0, 0, [])), (358, (.invokevirtual 39, 7, 151, 3, 1, [])), (361, (.if_icmp .eq 1075, 3, 1436, 0, 0, [])), (364, (.iconst 0, 1, 0, 0, 0, [])), (365, (.ireturn, 1, 0, 0, 0, [])), (366, (.aload_n 1, 1, 0, 0, 0, [])), (367, (.aload_n 0, 1, 0, 0, 0, []))],
  [(368, (.iload_n 3, 1, 0, 0, 0, [])), (369, (.iconst 1, 1, 0, 0, 0, [])), (370, (.iadd, 1, 0, 0, 0, [])), (371, (.iaload, 1, 0, 0, 0, [])), (372, (.aload_n 0, 1, 0, 0, 0, [])), (373, (.iload_n 3, 1, 0, 0, 0, [])), (374, (.iconst 2, 1, 0, 0, 0, [])), (375, (.iadd, 1, 0, 0, 0, [])), (376, (.iaload, 1, 0, 0, 0, [])), (377, (.invokevirtual 40, 6, 82, 3, 1, [])), (380, (.aload_n 2, 1, 0, 0, 0, [])), (381, (.aload_n 0, 1, 0, 0, 0, [])), (382, (.iload_n 3, 1, 0, 0, 0, [])), (383, (.iconst 1, 1, 0, 0, 0, []))],
  [(384, (.iadd, 1, 0, 0, 0, [])), (385, (.iaload, 1, 0, 0, 0, [])), (386, (.aload_n 0, 1, 0, 0, 0, [])), (387, (.iload_n 3, 1, 0, 0, 0, [])), (388, (.iconst 2, 1, 0, 0, 0, [])), (389, (.iadd, 1, 0, 0, 0, [])), (390, (.iaload, 1, 0, 0, 0, [])), (391, (.invokevirtual 43, 7, 152, 3, 1, [])), (394, (.if_icmp .eq 1042, 3, 1436, 0, 0, [])), (397, (.iconst 0, 1, 0, 0, 0, [])), (398, (.ireturn, 1, 0, 0, 0, [])), (399, (.aload_n 1, 1, 0, 0, 0, []))],
  [(400, (.aload_n 0, 1, 0, 0, 0, [])), (401, (.iload_n 3, 1, 0, 0, 0, [])), (402, (.iconst 1, 1, 0, 0, 0, [])), (403, (.iadd, 1, 0, 0, 0, [])), (404, (.iaload, 1, 0, 0, 0, [])), (405, (.aload_n 0, 1, 0, 0, 0, [])), (406, (.iload_n 3, 1, 0, 0, 0, [])), (407, (.iconst 2, 1, 0, 0, 0, [])), (408, (.iadd, 1, 0, 0, 0, [])), (409, (.iaload, 1, 0, 0, 0, [])), (410, (.invokevirtual 44, 6, 83, 3, 1, [])), (413, (.aload_n 2, 1, 0, 0, 0, [])), (414, (.aload_n 0, 1, 0, 0, 0, [])), (415, (.iload_n 3, 1, 0, 0, 0, []))],
  [(416, (.iconst 1, 1, 0, 0, 0, [])), (417, (.iadd, 1, 0, 0, 0, [])), (418, (.iaload, 1, 0, 0, 0, [])), (419, (.aload_n 0, 1, 0, 0, 0, [])), (420, (.iload_n 3, 1, 0, 0, 0, [])), (421, (.iconst 2, 1, 0, 0, 0, [])), (422, (.iadd, 1, 0, 0, 0, [])), (423, (.iaload, 1, 0, 0, 0, [])), (424, (.invokevirtual 47, 7, 153, 3, 1, [])), (427, (.if_icmp .eq 1009, 3, 1436, 0, 0, [])), (430, (.iconst 0, 1, 0, 0, 0, [])), (431, (.ireturn, 1, 0, 0, 0, []))],
  [(432, (.aload_n 1, 1, 0, 0, 0, [])), (433, (.aload_n 0, 1, 0, 0, 0, [])), (434, (.iload_n 3, 1, 0, 0, 0, [])), (435, (.iconst 1, 1, 0, 0, 0, [])), (436, (.iadd, 1, 0, 0, 0, [])), (437, (.iaload, 1, 0, 0, 0, [])), (438, (.aload_n 0, 1, 0, 0, 0, [])), (439, (.iload_n 3, 1, 0, 0, 0, [])), (440, (.iconst 2, 1, 0, 0, 0, [])), (441, (.iadd, 1, 0, 0, 0, [])), (442, (.iaload, 1, 0, 0, 0, [])), (443, (.aload_n 0, 1, 0, 0, 0, [])), (444, (.iload_n 3, 1, 0, 0, 0, [])), (445, (.iconst 3, 1, 0, 0, 0, [])), (446, (.iadd, 1, 0, 0, 0, [])), (447, (.iaload, 1, 0, 0, 0, []))],
  [(448, (.invokevirtual 48, 6, 84, 4, 2, [])), (451, (.aload_n 2, 1, 0, 0, 0, [])), (452, (.aload_n 0, 1, 0, 0, 0, [])), (453, (.iload_n 3, 1, 0, 0, 0, [])), (454, (.iconst 1, 1, 0, 0, 0, [])), (455, (.iadd, 1, 0, 0, 0, [])), (456, (.iaload, 1, 0, 0, 0, [])), (457, (.aload_n 0, 1, 0, 0, 0, [])), (458, (.iload_n 3, 1, 0, 0, 0, [])), (459, (.iconst 2, 1, 0, 0, 0, [])), (460, (.iadd, 1, 0, 0, 0, [])), (461, (.iaload, 1, 0, 0, 0, [])), (462, (.aload_n 0, 1, 0, 0, 0, [])), (463, (.iload_n 3, 1, 0, 0, 0, []))],
  [(464, (.iconst 3, 1, 0, 0, 0, [])), (465, (.iadd, 1, 0, 0, 0, [])), (466, (.iaload, 1, 0, 0, 0, [])), (467, (.invokevirtual 52, 7, 154, 4, 2, [])), (470, (.lcmp, 1, 0, 0, 0, [])), (471, (.ifCond .eq 965, 3, 1436, 0, 0, [])), (474, (.iconst 0, 1, 0, 0, 0, [])), (475, (.ireturn, 1, 0, 0, 0, [])), (476, (.aload_n 1, 1, 0, 0, 0, [])), (477, (.aload_n 0, 1, 0, 0, 0, [])), (478, (.iload_n 3, 1, 0, 0, 0, [])), (479, (.iconst 1, 1, 0, 0, 0, []))],
  [(480, (.iadd, 1, 0, 0, 0, [])), (481, (.iaload, 1, 0, 0, 0, [])), (482, (.aload_n 0, 1, 0, 0, 0, [])), (483, (.iload_n 3, 1, 0, 0, 0, [])), (484, (.iconst 2, 1, 0, 0, 0, [])), (485, (.iadd, 1, 0, 0, 0, [])), (486, (.iaload, 1, 0, 0, 0, [])), (487, (.invokevirtual 53, 6, 85, 3, 2, [])), (490, (.aload_n 2, 1, 0, 0, 0, [])), (491, (.aload_n 0, 1, 0, 0, 0, [])), (492, (.iload_n 3, 1, 0, 0, 0, [])), (493, (.iconst 1, 1, 0, 0, 0, [])), (494, (.iadd, 1, 0, 0, 0, [])), (495, (.iaload, 1, 0, 0, 0, []))],
  [(496, (.aload_n 0, 1, 0, 0, 0, [])), (497, (.iload_n 3, 1, 0, 0, 0, [])), (498, (.iconst 2, 1, 0, 0, 0, [])), (499, (.iadd, 1, 0, 0, 0, [])), (500, (.iaload, 1, 0, 0, 0, [])), (501, (.invokevirtual 57, 7, 155, 3, 2, [])), (504, (.lcmp, 1, 0, 0, 0, [])), (505, (.ifCond .eq 931, 3, 1436, 0, 0, [])), (508, (.iconst 0, 1, 0, 0, 0, [])), (509, (.ireturn, 1, 0, 0, 0, [])), (510, (.aload_n 1, 1, 0, 0, 0, [])), (511, (.aload_n 0, 1, 0, 0, 0, []))],
  [(512, (.iload_n 3, 1, 0, 0, 0, [])), (513, (.iconst 1, 1, 0, 0, 0, [])), (514, (.iadd, 1, 0, 0, 0, [])), (515, (.iaload, 1, 0, 0, 0, [])), (516, (.aload_n 0, 1, 0, 0, 0, [])), (517, (.iload_n 3, 1, 0, 0, 0, [])), (518, (.iconst 2, 1, 0, 0, 0, [])), (519, (.iadd, 1, 0, 0, 0, [])), (520, (.iaload, 1, 0, 0, 0, [])), (521, (.invokevirtual 58, 6, 86, 3, 1, [])), (524, (.aload_n 2, 1, 0, 0, 0, [])), (525, (.aload_n 0, 1, 0, 0, 0, [])), (526, (.iload_n 3, 1, 0, 0, 0, [])), (527, (.iconst 1, 1, 0, 0, 0, []))],
  [(528, (.iadd, 1, 0, 0, 0, [])), (529, (.iaload, 1, 0, 0, 0, [])), (530, (.aload_n 0, 1, 0, 0, 0, [])), (531, (.iload_n 3, 1, 0, 0, 0, [])), (532, (.iconst 2, 1, 0, 0, 0, [])), (533, (.iadd, 1, 0, 0, 0, [])), (534, (.iaload, 1, 0, 0, 0, [])), (535, (.invokevirtual 61, 7, 156, 3, 1, [])), (538, (.if_icmp .eq 898, 3, 1436, 0, 0, [])), (541, (.iconst 0, 1, 0, 0, 0, [])), (542, (.ireturn, 1, 0, 0, 0, [])), (543, (.aload_n 1, 1, 0, 0, 0, []))],
  [(544, (.aload_n 0, 1, 0, 0, 0, [])), (545, (.iload_n 3, 1, 0, 0, 0, [])), (546, (.iconst 1, 1, 0, 0, 0, [])), (547, (.iadd, 1, 0, 0, 0, [])), (548, (.iaload, 1, 0, 0, 0, [])), (549, (.invokevirtual 62, 6, 87, 2, 1, [])), (552, (.aload_n 2, 1, 0, 0, 0, [])), (553, (.aload_n 0, 1, 0, 0, 0, [])), (554, (.iload_n 3, 1, 0, 0, 0, [])), (555, (.iconst 1, 1, 0, 0, 0, [])), (556, (.iadd, 1, 0, 0, 0, [])), (557, (.iaload, 1, 0, 0, 0, [])), (558, (.invokevirtual 65, 7, 158, 2, 1, []))],
  [(561, (.if_icmp .eq 875, 3, 1436, 0, 0, [])), (564, (.iconst 0, 1, 0, 0, 0, [])), (565, (.ireturn, 1, 0, 0, 0, [])), (566, (.aload_n 1, 1, 0, 0, 0, [])), (567, (.aload_n 0, 1, 0, 0, 0, [])), (568, (.iload_n 3, 1, 0, 0, 0, [])), (569, (.iconst 1, 1, 0, 0, 0, [])), (570, (.iadd, 1, 0, 0, 0, [])), (571, (.iaload, 1, 0, 0, 0, [])), (572, (.aload_n 0, 1, 0, 0, 0, [])), (573, (.iload_n 3, 1, 0, 0, 0, [])), (574, (.iconst 2, 1, 0, 0, 0, [])), (575, (.iadd, 1, 0, 0, 0, []))],
  [(576, (.iaload, 1, 0, 0, 0, [])), (577, (.aload_n 0, 1, 0, 0, 0, [])), (578, (.iload_n 3, 1, 0, 0, 0, [])), (579, (.iconst 3, 1, 0, 0, 0, [])), (580, (.iadd, 1, 0, 0, 0, [])), (581, (.iaload, 1, 0, 0, 0, [])), (582, (.invokevirtual 66, 6, 88, 4, 2, [])), (585, (.aload_n 2, 1, 0, 0, 0, [])), (586, (.aload_n 0, 1, 0, 0, 0, [])), (587, (.iload_n 3, 1, 0, 0, 0, [])), (588, (.iconst 1, 1, 0, 0, 0, [])), (589, (.iadd, 1, 0, 0, 0, [])), (590, (.iaload, 1, 0, 0, 0, [])), (591, (.aload_n 0, 1, 0, 0, 0, []))],
  [(592, (.iload_n 3, 1, 0, 0, 0, [])), (593, (.iconst 2, 1, 0, 0, 0, [])), (594, (.iadd, 1, 0, 0, 0, [])), (595, (.iaload, 1, 0, 0, 0, [])), (596, (.aload_n 0, 1, 0, 0, 0, [])), (597, (.iload_n 3, 1, 0, 0, 0, [])), (598, (.iconst 3, 1, 0, 0, 0, [])), (599, (.iadd, 1, 0, 0, 0, [])), (600, (.iaload, 1, 0, 0, 0, [])), (601, (.invokevirtual 69, 7, 164, 4, 2, [])), (604, (.lcmp, 1, 0, 0, 0, [])), (605, (.ifCond .eq 831, 3, 1436, 0, 0, []))],
  [(608, (.iconst 0, 1, 0, 0, 0, [])), (609, (.ireturn, 1, 0, 0, 0, [])), (610, (.aload_n 1, 1, 0, 0, 0, [])), (611, (.aload_n 0, 1, 0, 0, 0, [])), (612, (.iload_n 3, 1, 0, 0, 0, [])), (613, (.iconst 1, 1, 0, 0, 0, [])), (614, (.iadd, 1, 0, 0, 0, [])), (615, (.iaload, 1, 0, 0, 0, [])), (616, (.aload_n 0, 1, 0, 0, 0, [])), (617, (.iload_n 3, 1, 0, 0, 0, [])), (618, (.iconst 2, 1, 0, 0, 0, [])), (619, (.iadd, 1, 0, 0, 0, [])), (620, (.iaload, 1, 0, 0, 0, [])), (621, (.invokevirtual 70, 6, 89, 3, 2, []))],
  [(624, (.aload_n 2, 1, 0, 0, 0, [])), (625, (.aload_n 0, 1, 0, 0, 0, [])), (626, (.iload_n 3, 1, 0, 0, 0, [])), (627, (.iconst 1, 1, 0, 0, 0, [])), (628, (.iadd, 1, 0, 0, 0, [])), (629, (.iaload, 1, 0, 0, 0, [])), (630, (.aload_n 0, 1, 0, 0, 0, [])), (631, (.iload_n 3, 1, 0, 0, 0, [])), (632, (.iconst 2, 1, 0, 0, 0, [])), (633, (.iadd, 1, 0, 0, 0, [])), (634, (.iaload, 1, 0, 0, 0, [])), (635, (.invokevirtual 73, 7, 165, 3, 2, [])), (638, (.lcmp, 1, 0, 0, 0, [])), (639, (.ifCond .eq 797, 3, 1436, 0, 0, []))],
  [(642, (.iconst 0, 1, 0, 0, 0, [])), (643, (.ireturn, 1, 0, 0, 0, [])), (644, (.aload_n 1, 1, 0, 0, 0, [])), (645, (.aload_n 0, 1, 0, 0, 0, [])), (646, (.iload_n 3, 1, 0, 0, 0, [])), (647, (.iconst 1, 1, 0, 0, 0, [])), (648, (.iadd, 1, 0, 0, 0, [])), (649, (.iaload, 1, 0, 0, 0, [])), (650, (.aload_n 0, 1, 0, 0, 0, [])), (651, (.iload_n 3, 1, 0, 0, 0, [])), (652, (.iconst 2, 1, 0, 0, 0, [])), (653, (.iadd, 1, 0, 0, 0, [])), (654, (.iaload, 1, 0, 0, 0, [])), (655, (.aload_n 0, 1, 0, 0, 0, []))],
  [(656, (.iload_n 3, 1, 0, 0, 0, [])), (657, (.iconst 3, 1, 0, 0, 0, [])), (658, (.iadd, 1, 0, 0, 0, [])), (659, (.iaload, 1, 0, 0, 0, [])), (660, (.invokevirtual 74, 6, 90, 4, 1, [])), (663, (.aload_n 2, 1, 0, 0, 0, [])), (664, (.aload_n 0, 1, 0, 0, 0, [])), (665, (.iload_n 3, 1, 0, 0, 0, [])), (666, (.iconst 1, 1, 0, 0, 0, [])), (667, (.iadd, 1, 0, 0, 0, [])), (668, (.iaload, 1, 0, 0, 0, [])), (669, (.aload_n 0, 1, 0, 0, 0, [])), (670, (.iload_n 3, 1, 0, 0, 0, [])), (671, (.iconst 2, 1, 0, 0, 0, []))],
  [(672, (.iadd, 1, 0, 0, 0, [])), (673, (.iaload, 1, 0, 0, 0, [])), (674, (.aload_n 0, 1, 0, 0, 0, [])), (675, (.iload_n 3, 1, 0, 0, 0, [])), (676, (.iconst 3, 1, 0, 0, 0, [])), (677, (.iadd, 1, 0, 0, 0, [])), (678, (.iaload, 1, 0, 0, 0, [])), (679, (.invokevirtual 78, 7, 167, 4, 1, [])), (682, (.if_icmp .eq 754, 3, 1436, 0, 0, [])), (685, (.iconst 0, 1, 0, 0, 0, [])), (686, (.ireturn, 1, 0, 0, 0, [])), (687, (.aload_n 1, 1, 0, 0, 0, []))],
  [(688, (.aload_n 0, 1, 0, 0, 0, [])), (689, (.iload_n 3, 1, 0, 0, 0, [])), (690, (.iconst 1, 1, 0, 0, 0, [])), (691, (.iadd, 1, 0, 0, 0, [])), (692, (.iaload, 1, 0, 0, 0, [])), (693, (.invokevirtual 79, 6, 91, 2, 1, [])), (696, (.aload_n 2, 1, 0, 0, 0, [])), (697, (.aload_n 0, 1, 0, 0, 0, [])), (698, (.iload_n 3, 1, 0, 0, 0, [])), (699, (.iconst 1, 1, 0, 0, 0, [])), (700, (.iadd, 1, 0, 0, 0, [])), (701, (.iaload, 1, 0, 0, 0, [])), (702, (.invokevirtual 82, 7, 169, 2, 1, []))],
  [(705, (.if_icmp .eq 731, 3, 1436, 0, 0, [])), (708, (.iconst 0, 1, 0, 0, 0, [])), (709, (.ireturn, 1, 0, 0, 0, [])), (710, (.aload_n 1, 1, 0, 0, 0, [])), (711, (.aload_n 0, 1, 0, 0, 0, [])), (712, (.iload_n 3, 1, 0, 0, 0, [])), (713, (.iconst 1, 1, 0, 0, 0, [])), (714, (.iadd, 1, 0, 0, 0, [])), (715, (.iaload, 1, 0, 0, 0, [])), (716, (.aload_n 0, 1, 0, 0, 0, [])), (717, (.iload_n 3, 1, 0, 0, 0, [])), (718, (.iconst 2, 1, 0, 0, 0, [])), (719, (.iadd, 1, 0, 0, 0, []))],
  [(720, (.iaload, 1, 0, 0, 0, [])), (721, (.invokevirtual 83, 6, 92, 3, 1, [])), (724, (.aload_n 2, 1, 0, 0, 0, [])), (725, (.aload_n 0, 1, 0, 0, 0, [])), (726, (.iload_n 3, 1, 0, 0, 0, [])), (727, (.iconst 1, 1, 0, 0, 0, [])), (728, (.iadd, 1, 0, 0, 0, [])), (729, (.iaload, 1, 0, 0, 0, [])), (730, (.aload_n 0, 1, 0, 0, 0, [])), (731, (.iload_n 3, 1, 0, 0, 0, [])), (732, (.iconst 2, 1, 0, 0, 0, [])), (733, (.iadd, 1, 0, 0, 0, [])), (734, (.iaload, 1, 0, 0, 0, [])), (735, (.invokevirtual 86, 7, 171, 3, 1, []))],
  [(738, (.if_icmp .eq 698, 3, 1436, 0, 0, [])), (741, (.iconst 0, 1, 0, 0, 0, [])), (742, (.ireturn, 1, 0, 0, 0, [])), (743, (.aload_n 1, 1, 0, 0, 0, [])), (744, (.invokevirtual 87, 6, 93, 1, 1, [])), (747, (.aload_n 2, 1, 0, 0, 0, [])), (748, (.invokevirtual 90, 7, 172, 1, 1, [])), (751, (.if_icmp .eq 685, 3, 1436, 0, 0, []))],
  [(754, (.iconst 0, 1, 0, 0, 0, [])), (755, (.ireturn, 1, 0, 0, 0, [])), (756, (.aload_n 1, 1, 0, 0, 0, [])), (757, (.aload_n 0, 1, 0, 0, 0, [])), (758, (.iload_n 3, 1, 0, 0, 0, [])), (759, (.iconst 1, 1, 0, 0, 0, [])), (760, (.iadd, 1, 0, 0, 0, [])), (761, (.iaload, 1, 0, 0, 0, [])), (762, (.invokevirtual 91, 6, 94, 2, 1, [])), (765, (.aload_n 2, 1, 0, 0, 0, [])), (766, (.aload_n 0, 1, 0, 0, 0, [])), (767, (.iload_n 3, 1, 0, 0, 0, []))],
  [(768, (.iconst 1, 1, 0, 0, 0, [])), (769, (.iadd, 1, 0, 0, 0, [])), (770, (.iaload, 1, 0, 0, 0, [])), (771, (.invokevirtual 94, 7, 173, 2, 1, [])), (774, (.if_icmp .eq 662, 3, 1436, 0, 0, [])), (777, (.iconst 0, 1, 0, 0, 0, [])), (778, (.ireturn, 1, 0, 0, 0, [])), (779, (.aload_n 1, 1, 0, 0, 0, [])), (780, (.aload_n 0, 1, 0, 0, 0, [])), (781, (.iload_n 3, 1, 0, 0, 0, [])), (782, (.iconst 1, 1, 0, 0, 0, [])), (783, (.iadd, 1, 0, 0, 0, []))],
  [(784, (.iaload, 1, 0, 0, 0, [])), (785, (.invokevirtual 95, 6, 95, 2, 2, [])), (788, (.aload_n 2, 1, 0, 0, 0, [])), (789, (.aload_n 0, 1, 0, 0, 0, [])), (790, (.iload_n 3, 1, 0, 0, 0, [])), (791, (.iconst 1, 1, 0, 0, 0, [])), (792, (.iadd, 1, 0, 0, 0, [])), (793, (.iaload, 1, 0, 0, 0, [])), (794, (.invokevirtual 99, 7, 175, 2, 2, [])), (797, (.lcmp, 1, 0, 0, 0, [])), (798, (.ifCond .eq 638, 3, 1436, 0, 0, []))],
  [(801, (.iconst 0, 1, 0, 0, 0, [])), (802, (.ireturn, 1, 0, 0, 0, [])), (803, (.aload_n 1, 1, 0, 0, 0, [])), (804, (.aload_n 0, 1, 0, 0, 0, [])), (805, (.iload_n 3, 1, 0, 0, 0, [])), (806, (.iconst 1, 1, 0, 0, 0, [])), (807, (.iadd, 1, 0, 0, 0, [])), (808, (.iaload, 1, 0, 0, 0, [])), (809, (.aload_n 0, 1, 0, 0, 0, [])), (810, (.iload_n 3, 1, 0, 0, 0, [])), (811, (.iconst 2, 1, 0, 0, 0, [])), (812, (.iadd, 1, 0, 0, 0, [])), (813, (.iaload, 1, 0, 0, 0, [])), (814, (.invokevirtual 100, 6, 96, 3, 1, []))],
  [(817, (.aload_n 2, 1, 0, 0, 0, [])), (818, (.aload_n 0, 1, 0, 0, 0, [])), (819, (.iload_n 3, 1, 0, 0, 0, [])), (820, (.iconst 1, 1, 0, 0, 0, [])), (821, (.iadd, 1, 0, 0, 0, [])), (822, (.iaload, 1, 0, 0, 0, [])), (823, (.aload_n 0, 1, 0, 0, 0, [])), (824, (.iload_n 3, 1, 0, 0, 0, [])), (825, (.iconst 2, 1, 0, 0, 0, [])), (826, (.iadd, 1, 0, 0, 0, [])), (827, (.iaload, 1, 0, 0, 0, [])), (828, (.invokevirtual 103, 7, 178, 3, 1, [])), (831, (.if_icmp .eq 605, 3, 1436, 0, 0, []))],
  [(834, (.iconst 0, 1, 0, 0, 0, [])), (835, (.ireturn, 1, 0, 0, 0, [])), (836, (.aload_n 1, 1, 0, 0, 0, [])), (837, (.invokevirtual 104, 6, 97, 1, 1, [])), (840, (.aload_n 2, 1, 0, 0, 0, [])), (841, (.invokevirtual 107, 7, 179, 1, 1, [])), (844, (.if_icmp .eq 592, 3, 1436, 0, 0, [])), (847, (.iconst 0, 1, 0, 0, 0, []))],
  [(848, (.ireturn, 1, 0, 0, 0, [])), (849, (.aload_n 1, 1, 0, 0, 0, [])), (850, (.aload_n 0, 1, 0, 0, 0, [])), (851, (.iload_n 3, 1, 0, 0, 0, [])), (852, (.iconst 1, 1, 0, 0, 0, [])), (853, (.iadd, 1, 0, 0, 0, [])), (854, (.iaload, 1, 0, 0, 0, [])), (855, (.aload_n 0, 1, 0, 0, 0, [])), (856, (.iload_n 3, 1, 0, 0, 0, [])), (857, (.iconst 2, 1, 0, 0, 0, [])), (858, (.iadd, 1, 0, 0, 0, [])), (859, (.iaload, 1, 0, 0, 0, [])), (860, (.invokevirtual 108, 6, 98, 3, 1, [])), (863, (.aload_n 2, 1, 0, 0, 0, []))],
  [(864, (.aload_n 0, 1, 0, 0, 0, [])), (865, (.iload_n 3, 1, 0, 0, 0, [])), (866, (.iconst 1, 1, 0, 0, 0, [])), (867, (.iadd, 1, 0, 0, 0, [])), (868, (.iaload, 1, 0, 0, 0, [])), (869, (.aload_n 0, 1, 0, 0, 0, [])), (870, (.iload_n 3, 1, 0, 0, 0, [])), (871, (.iconst 2, 1, 0, 0, 0, [])), (872, (.iadd, 1, 0, 0, 0, [])), (873, (.iaload, 1, 0, 0, 0, [])), (874, (.invokevirtual 111, 7, 180, 3, 1, [])), (877, (.if_icmp .eq 559, 3, 1436, 0, 0, []))],
  [(880, (.iconst 0, 1, 0, 0, 0, [])), (881, (.ireturn, 1, 0, 0, 0, [])), (882, (.aload_n 1, 1, 0, 0, 0, [])), (883, (.aload_n 0, 1, 0, 0, 0, [])), (884, (.iload_n 3, 1, 0, 0, 0, [])), (885, (.iconst 1, 1, 0, 0, 0, [])), (886, (.iadd, 1, 0, 0, 0, [])), (887, (.iaload, 1, 0, 0, 0, [])), (888, (.aload_n 0, 1, 0, 0, 0, [])), (889, (.iload_n 3, 1, 0, 0, 0, [])), (890, (.iconst 2, 1, 0, 0, 0, [])), (891, (.iadd, 1, 0, 0, 0, [])), (892, (.iaload, 1, 0, 0, 0, [])), (893, (.invokevirtual 112, 6, 99, 3, 1, []))],
  [(896, (.aload_n 2, 1, 0, 0, 0, [])), (897, (.aload_n 0, 1, 0, 0, 0, [])), (898, (.iload_n 3, 1, 0, 0, 0, [])), (899, (.iconst 1, 1, 0, 0, 0, [])), (900, (.iadd, 1, 0, 0, 0, [])), (901, (.iaload, 1, 0, 0, 0, [])), (902, (.aload_n 0, 1, 0, 0, 0, [])), (903, (.iload_n 3, 1, 0, 0, 0, [])), (904, (.iconst 2, 1, 0, 0, 0, [])), (905, (.iadd, 1, 0, 0, 0, [])), (906, (.iaload, 1, 0, 0, 0, [])), (907, (.invokevirtual 115, 7, 181, 3, 1, [])), (910, (.if_icmp .eq 526, 3, 1436, 0, 0, []))],
  [(913, (.iconst 0, 1, 0, 0, 0, [])), (914, (.ireturn, 1, 0, 0, 0, [])), (915, (.aload_n 1, 1, 0, 0, 0, [])), (916, (.aload_n 0, 1, 0, 0, 0, [])), (917, (.iload_n 3, 1, 0, 0, 0, [])), (918, (.iconst 1, 1, 0, 0, 0, [])), (919, (.iadd, 1, 0, 0, 0, [])), (920, (.iaload, 1, 0, 0, 0, [])), (921, (.aload_n 0, 1, 0, 0, 0, [])), (922, (.iload_n 3, 1, 0, 0, 0, [])), (923, (.iconst 2, 1, 0, 0, 0, [])), (924, (.iadd, 1, 0, 0, 0, [])), (925, (.iaload, 1, 0, 0, 0, [])), (926, (.invokevirtual 116, 6, 100, 3, 1, []))],
  [(929, (.aload_n 2, 1, 0, 0, 0, [])), (930, (.aload_n 0, 1, 0, 0, 0, [])), (931, (.iload_n 3, 1, 0, 0, 0, [])), (932, (.iconst 1, 1, 0, 0, 0, [])), (933, (.iadd, 1, 0, 0, 0, [])), (934, (.iaload, 1, 0, 0, 0, [])), (935, (.aload_n 0, 1, 0, 0, 0, [])), (936, (.iload_n 3, 1, 0, 0, 0, [])), (937, (.iconst 2, 1, 0, 0, 0, [])), (938, (.iadd, 1, 0, 0, 0, [])), (939, (.iaload, 1, 0, 0, 0, [])), (940, (.invokevirtual 119, 7, 189, 3, 1, [])), (943, (.if_icmp .eq 493, 3, 1436, 0, 0, []))],
  [(946, (.iconst 0, 1, 0, 0, 0, [])), (947, (.ireturn, 1, 0, 0, 0, [])), (948, (.aload_n 1, 1, 0, 0, 0, [])), (949, (.aload_n 0, 1, 0, 0, 0, [])), (950, (.iload_n 3, 1, 0, 0, 0, [])), (951, (.iconst 1, 1, 0, 0, 0, [])), (952, (.iadd, 1, 0, 0, 0, [])), (953, (.iaload, 1, 0, 0, 0, [])), (954, (.aload_n 0, 1, 0, 0, 0, [])), (955, (.iload_n 3, 1, 0, 0, 0, [])), (956, (.iconst 2, 1, 0, 0, 0, [])), (957, (.iadd, 1, 0, 0, 0, [])), (958, (.iaload, 1, 0, 0, 0, [])), (959, (.aload_n 0, 1, 0, 0, 0, []))],
  [(960, (.iload_n 3, 1, 0, 0, 0, [])), (961, (.iconst 3, 1, 0, 0, 0, [])), (962, (.iadd, 1, 0, 0, 0, [])), (963, (.iaload, 1, 0, 0, 0, [])), (964, (.invokevirtual 120, 6, 101, 4, 1, [])), (967, (.aload_n 2, 1, 0, 0, 0, [])), (968, (.aload_n 0, 1, 0, 0, 0, [])), (969, (.iload_n 3, 1, 0, 0, 0, [])), (970, (.iconst 1, 1, 0, 0, 0, [])), (971, (.iadd, 1, 0, 0, 0, [])), (972, (.iaload, 1, 0, 0, 0, [])), (973, (.aload_n 0, 1, 0, 0, 0, [])), (974, (.iload_n 3, 1, 0, 0, 0, [])), (975, (.iconst 2, 1, 0, 0, 0, []))],
  [(976, (.iadd, 1, 0, 0, 0, [])), (977, (.iaload, 1, 0, 0, 0, [])), (978, (.aload_n 0, 1, 0, 0, 0, [])), (979, (.iload_n 3, 1, 0, 0, 0, [])), (980, (.iconst 3, 1, 0, 0, 0, [])), (981, (.iadd, 1, 0, 0, 0, [])), (982, (.iaload, 1, 0, 0, 0, [])), (983, (.invokevirtual 123, 7, 191, 4, 1, [])), (986, (.if_icmp .eq 450, 3, 1436, 0, 0, [])), (989, (.iconst 0, 1, 0, 0, 0, [])), (990, (.ireturn, 1, 0, 0, 0, [])), (991, (.aload_n 1, 1, 0, 0, 0, []))],
  [(992, (.aload_n 0, 1, 0, 0, 0, [])), (993, (.iload_n 3, 1, 0, 0, 0, [])), (994, (.iconst 1, 1, 0, 0, 0, [])), (995, (.iadd, 1, 0, 0, 0, [])), (996, (.iaload, 1, 0, 0, 0, [])), (997, (.aload_n 0, 1, 0, 0, 0, [])), (998, (.iload_n 3, 1, 0, 0, 0, [])), (999, (.iconst 2, 1, 0, 0, 0, [])), (1000, (.iadd, 1, 0, 0, 0, [])), (1001, (.iaload, 1, 0, 0, 0, [])), (1002, (.aload_n 0, 1, 0, 0, 0, [])), (1003, (.iload_n 3, 1, 0, 0, 0, [])), (1004, (.iconst 3, 1, 0, 0, 0, [])), (1005, (.iadd, 1, 0, 0, 0, [])), (1006, (.iaload, 1, 0, 0, 0, [])), (1007, (.invokevirtual 124, 6, 102, 4, 2, []))],
  [(1010, (.aload_n 2, 1, 0, 0, 0, [])), (1011, (.aload_n 0, 1, 0, 0, 0, [])), (1012, (.iload_n 3, 1, 0, 0, 0, [])), (1013, (.iconst 1, 1, 0, 0, 0, [])), (1014, (.iadd, 1, 0, 0, 0, [])), (1015, (.iaload, 1, 0, 0, 0, [])), (1016, (.aload_n 0, 1, 0, 0, 0, [])), (1017, (.iload_n 3, 1, 0, 0, 0, [])), (1018, (.iconst 2, 1, 0, 0, 0, [])), (1019, (.iadd, 1, 0, 0, 0, [])), (1020, (.iaload, 1, 0, 0, 0, [])), (1021, (.aload_n 0, 1, 0, 0, 0, [])), (1022, (.iload_n 3, 1, 0, 0, 0, [])), (1023, (.iconst 3, 1, 0, 0, 0, []))],
  [(1024, (.iadd, 1, 0, 0, 0, [])), (1025, (.iaload, 1, 0, 0, 0, [])), (1026, (.invokevirtual 127, 7, 192, 4, 2, [])), (1029, (.lcmp, 1, 0, 0, 0, [])), (1030, (.ifCond .eq 406, 3, 1436, 0, 0, [])), (1033, (.iconst 0, 1, 0, 0, 0, [])), (1034, (.ireturn, 1, 0, 0, 0, [])), (1035, (.aload_n 1, 1, 0, 0, 0, [])), (1036, (.aload_n 0, 1, 0, 0, 0, [])), (1037, (.iload_n 3, 1, 0, 0, 0, [])), (1038, (.iconst 1, 1, 0, 0, 0, [])), (1039, (.iadd, 1, 0, 0, 0, []))],
  [(1040, (.iaload, 1, 0, 0, 0, [])), (1041, (.aload_n 0, 1, 0, 0, 0, [])), (1042, (.iload_n 3, 1, 0, 0, 0, [])), (1043, (.iconst 2, 1, 0, 0, 0, [])), (1044, (.iadd, 1, 0, 0, 0, [])), (1045, (.iaload, 1, 0, 0, 0, [])), (1046, (.aload_n 0, 1, 0, 0, 0, [])), (1047, (.iload_n 3, 1, 0, 0, 0, [])), (1048, (.iconst 3, 1, 0, 0, 0, [])), (1049, (.iadd, 1, 0, 0, 0, [])), (1050, (.iaload, 1, 0, 0, 0, [])), (1051, (.aload_n 0, 1, 0, 0, 0, [])), (1052, (.iload_n 3, 1, 0, 0, 0, [])), (1053, (.iconst 4, 1, 0, 0, 0, [])), (1054, (.iadd, 1, 0, 0, 0, [])), (1055, (.iaload, 1, 0, 0, 0, []))],
  [(1056, (.invokevirtual 128, 6, 103, 5, 1, [])), (1059, (.aload_n 2, 1, 0, 0, 0, [])), (1060, (.aload_n 0, 1, 0, 0, 0, [])), (1061, (.iload_n 3, 1, 0, 0, 0, [])), (1062, (.iconst 1, 1, 0, 0, 0, [])), (1063, (.iadd, 1, 0, 0, 0, [])), (1064, (.iaload, 1, 0, 0, 0, [])), (1065, (.aload_n 0, 1, 0, 0, 0, [])), (1066, (.iload_n 3, 1, 0, 0, 0, [])), (1067, (.iconst 2, 1, 0, 0, 0, [])), (1068, (.iadd, 1, 0, 0, 0, [])), (1069, (.iaload, 1, 0, 0, 0, [])), (1070, (.aload_n 0, 1, 0, 0, 0, [])), (1071, (.iload_n 3, 1, 0, 0, 0, []))],
  [(1072, (.iconst 3, 1, 0, 0, 0, [])), (1073, (.iadd, 1, 0, 0, 0, [])), (1074, (.iaload, 1, 0, 0, 0, [])), (1075, (.aload_n 0, 1, 0, 0, 0, [])), (1076, (.iload_n 3, 1, 0, 0, 0, [])), (1077, (.iconst 4, 1, 0, 0, 0, [])), (1078, (.iadd, 1, 0, 0, 0, [])), (1079, (.iaload, 1, 0, 0, 0, [])), (1080, (.invokevirtual 132, 7, 194, 5, 1, [])), (1083, (.if_icmp .eq 353, 3, 1436, 0, 0, [])), (1086, (.iconst 0, 1, 0, 0, 0, [])), (1087, (.ireturn, 1, 0, 0, 0, []))],
  [(1088, (.aload_n 1, 1, 0, 0, 0, [])), (1089, (.aload_n 0, 1, 0, 0, 0, [])), (1090, (.iload_n 3, 1, 0, 0, 0, [])), (1091, (.iconst 1, 1, 0, 0, 0, [])), (1092, (.iadd, 1, 0, 0, 0, [])), (1093, (.iaload, 1, 0, 0, 0, [])), (1094, (.aload_n 0, 1, 0, 0, 0, [])), (1095, (.iload_n 3, 1, 0, 0, 0, [])), (1096, (.iconst 2, 1, 0, 0, 0, [])), (1097, (.iadd, 1, 0, 0, 0, [])), (1098, (.iaload, 1, 0, 0, 0, [])), (1099, (.aload_n 0, 1, 0, 0, 0, [])), (1100, (.iload_n 3, 1, 0, 0, 0, [])), (1101, (.iconst 3, 1, 0, 0, 0, [])), (1102, (.iadd, 1, 0, 0, 0, [])), (1103, (.iaload, 1, 0, 0, 0, []))],
  [(1104, (.aload_n 0, 1, 0, 0, 0, [])), (1105, (.iload_n 3, 1, 0, 0, 0, [])), (1106, (.iconst 4, 1, 0, 0, 0, [])), (1107, (.iadd, 1, 0, 0, 0, [])), (1108, (.iaload, 1, 0, 0, 0, [])), (1109, (.aload_n 0, 1, 0, 0, 0, [])), (1110, (.iload_n 3, 1, 0, 0, 0, [])), (1111, (.iconst 5, 1, 0, 0, 0, [])), (1112, (.iadd, 1, 0, 0, 0, [])), (1113, (.iaload, 1, 0, 0, 0, [])), (1114, (.invokevirtual 133, 6, 104, 6, 2, [])), (1117, (.aload_n 2, 1, 0, 0, 0, [])), (1118, (.aload_n 0, 1, 0, 0, 0, [])), (1119, (.iload_n 3, 1, 0, 0, 0, []))],
  [(1120, (.iconst 1, 1, 0, 0, 0, [])), (1121, (.iadd, 1, 0, 0, 0, [])), (1122, (.iaload, 1, 0, 0, 0, [])), (1123, (.aload_n 0, 1, 0, 0, 0, [])), (1124, (.iload_n 3, 1, 0, 0, 0, [])), (1125, (.iconst 2, 1, 0, 0, 0, [])), (1126, (.iadd, 1, 0, 0, 0, [])), (1127, (.iaload, 1, 0, 0, 0, [])), (1128, (.aload_n 0, 1, 0, 0, 0, [])), (1129, (.iload_n 3, 1, 0, 0, 0, [])), (1130, (.iconst 3, 1, 0, 0, 0, [])), (1131, (.iadd, 1, 0, 0, 0, [])), (1132, (.iaload, 1, 0, 0, 0, [])), (1133, (.aload_n 0, 1, 0, 0, 0, [])), (1134, (.iload_n 3, 1, 0, 0, 0, [])), (1135, (.iconst 4, 1, 0, 0, 0, []))],
  [(1136, (.iadd, 1, 0, 0, 0, [])), (1137, (.iaload, 1, 0, 0, 0, [])), (1138, (.aload_n 0, 1, 0, 0, 0, [])), (1139, (.iload_n 3, 1, 0, 0, 0, [])), (1140, (.iconst 5, 1, 0, 0, 0, [])), (1141, (.iadd, 1, 0, 0, 0, [])), (1142, (.iaload, 1, 0, 0, 0, [])), (1143, (.invokevirtual 137, 7, 195, 6, 2, [])), (1146, (.lcmp, 1, 0, 0, 0, [])), (1147, (.ifCond .eq 289, 3, 1436, 0, 0, [])), (1150, (.iconst 0, 1, 0, 0, 0, [])), (1151, (.ireturn, 1, 0, 0, 0, []))],
  [(1152, (.aload_n 1, 1, 0, 0, 0, [])), (1153, (.aload_n 0, 1, 0, 0, 0, [])), (1154, (.iload_n 3, 1, 0, 0, 0, [])), (1155, (.iconst 1, 1, 0, 0, 0, [])), (1156, (.iadd, 1, 0, 0, 0, [])), (1157, (.iaload, 1, 0, 0, 0, [])), (1158, (.aload_n 0, 1, 0, 0, 0, [])), (1159, (.iload_n 3, 1, 0, 0, 0, [])), (1160, (.iconst 2, 1, 0, 0, 0, [])), (1161, (.iadd, 1, 0, 0, 0, [])), (1162, (.iaload, 1, 0, 0, 0, [])), (1163, (.invokevirtual 138, 6, 105, 3, 1, [])), (1166, (.aload_n 2, 1, 0, 0, 0, [])), (1167, (.aload_n 0, 1, 0, 0, 0, []))],
  [(1168, (.iload_n 3, 1, 0, 0, 0, [])), (1169, (.iconst 1, 1, 0, 0, 0, [])), (1170, (.iadd, 1, 0, 0, 0, [])), (1171, (.iaload, 1, 0, 0, 0, [])), (1172, (.aload_n 0, 1, 0, 0, 0, [])), (1173, (.iload_n 3, 1, 0, 0, 0, [])), (1174, (.iconst 2, 1, 0, 0, 0, [])), (1175, (.iadd, 1, 0, 0, 0, [])), (1176, (.iaload, 1, 0, 0, 0, [])), (1177, (.invokevirtual 141, 7, 196, 3, 1, [])), (1180, (.if_icmp .eq 256, 3, 1436, 0, 0, [])), (1183, (.iconst 0, 1, 0, 0, 0, []))],
  [(1184, (.ireturn, 1, 0, 0, 0, [])), (1185, (.aload_n 1, 1, 0, 0, 0, [])), (1186, (.aload_n 0, 1, 0, 0, 0, [])), (1187, (.iload_n 3, 1, 0, 0, 0, [])), (1188, (.iconst 1, 1, 0, 0, 0, [])), (1189, (.iadd, 1, 0, 0, 0, [])), (1190, (.iaload, 1, 0, 0, 0, [])), (1191, (.invokevirtual 142, 6, 106, 2, 1, [])), (1194, (.aload_n 2, 1, 0, 0, 0, [])), (1195, (.aload_n 0, 1, 0, 0, 0, [])), (1196, (.iload_n 3, 1, 0, 0, 0, [])), (1197, (.iconst 1, 1, 0, 0, 0, [])), (1198, (.iadd, 1, 0, 0, 0, [])), (1199, (.iaload, 1, 0, 0, 0, []))],
  [(1200, (.invokevirtual 145, 7, 198, 2, 1, [])), (1203, (.if_icmp .eq 233, 3, 1436, 0, 0, [])), (1206, (.iconst 0, 1, 0, 0, 0, [])), (1207, (.ireturn, 1, 0, 0, 0, [])), (1208, (.aload_n 1, 1, 0, 0, 0, [])), (1209, (.aload_n 0, 1, 0, 0, 0, [])), (1210, (.iload_n 3, 1, 0, 0, 0, [])), (1211, (.iconst 1, 1, 0, 0, 0, [])), (1212, (.iadd, 1, 0, 0, 0, [])), (1213, (.iaload, 1, 0, 0, 0, [])), (1214, (.invokevirtual 146, 6, 107, 2, 1, []))],
  [(1217, (.aload_n 2, 1, 0, 0, 0, [])), (1218, (.aload_n 0, 1, 0, 0, 0, [])), (1219, (.iload_n 3, 1, 0, 0, 0, [])), (1220, (.iconst 1, 1, 0, 0, 0, [])), (1221, (.iadd, 1, 0, 0, 0, [])), (1222, (.iaload, 1, 0, 0, 0, [])), (1223, (.invokevirtual 149, 7, 199, 2, 1, [])), (1226, (.if_icmp .eq 210, 3, 1436, 0, 0, [])), (1229, (.iconst 0, 1, 0, 0, 0, [])), (1230, (.ireturn, 1, 0, 0, 0, [])), (1231, (.aload_n 1, 1, 0, 0, 0, []))],
  [(1232, (.aload_n 0, 1, 0, 0, 0, [])), (1233, (.iload_n 3, 1, 0, 0, 0, [])), (1234, (.iconst 1, 1, 0, 0, 0, [])), (1235, (.iadd, 1, 0, 0, 0, [])), (1236, (.iaload, 1, 0, 0, 0, [])), (1237, (.invokevirtual 150, 6, 108, 2, 1, [])), (1240, (.aload_n 2, 1, 0, 0, 0, [])), (1241, (.aload_n 0, 1, 0, 0, 0, [])), (1242, (.iload_n 3, 1, 0, 0, 0, [])), (1243, (.iconst 1, 1, 0, 0, 0, [])), (1244, (.iadd, 1, 0, 0, 0, [])), (1245, (.iaload, 1, 0, 0, 0, [])), (1246, (.invokevirtual 153, 7, 200, 2, 1, []))],
  [(1249, (.if_icmp .eq 187, 3, 1436, 0, 0, [])), (1252, (.iconst 0, 1, 0, 0, 0, [])), (1253, (.ireturn, 1, 0, 0, 0, [])), (1254, (.aload_n 1, 1, 0, 0, 0, [])), (1255, (.aload_n 0, 1, 0, 0, 0, [])), (1256, (.iload_n 3, 1, 0, 0, 0, [])), (1257, (.iconst 1, 1, 0, 0, 0, [])), (1258, (.iadd, 1, 0, 0, 0, [])), (1259, (.iaload, 1, 0, 0, 0, [])), (1260, (.invokevirtual 154, 6, 109, 2, 1, [])), (1263, (.aload_n 2, 1, 0, 0, 0, []))],
  [(1264, (.aload_n 0, 1, 0, 0, 0, [])), (1265, (.iload_n 3, 1, 0, 0, 0, [])), (1266, (.iconst 1, 1, 0, 0, 0, [])), (1267, (.iadd, 1, 0, 0, 0, [])), (1268, (.iaload, 1, 0, 0, 0, [])), (1269, (.invokevirtual 157, 7, 201, 2, 1, [])), (1272, (.if_icmp .eq 164, 3, 1436, 0, 0, [])), (1275, (.iconst 0, 1, 0, 0, 0, [])), (1276, (.ireturn, 1, 0, 0, 0, [])), (1277, (.aload_n 1, 1, 0, 0, 0, [])), (1278, (.aload_n 0, 1, 0, 0, 0, [])), (1279, (.iload_n 3, 1, 0, 0, 0, []))],
  [(1280, (.iconst 1, 1, 0, 0, 0, [])), (1281, (.iadd, 1, 0, 0, 0, [])), (1282, (.iaload, 1, 0, 0, 0, [])), (1283, (.aload_n 0, 1, 0, 0, 0, [])), (1284, (.iload_n 3, 1, 0, 0, 0, [])), (1285, (.iconst 2, 1, 0, 0, 0, [])), (1286, (.iadd, 1, 0, 0, 0, [])), (1287, (.iaload, 1, 0, 0, 0, [])), (1288, (.invokevirtual 158, 6, 110, 3, 1, [])), (1291, (.aload_n 2, 1, 0, 0, 0, [])), (1292, (.aload_n 0, 1, 0, 0, 0, [])), (1293, (.iload_n 3, 1, 0, 0, 0, [])), (1294, (.iconst 1, 1, 0, 0, 0, [])), (1295, (.iadd, 1, 0, 0, 0, []))],
  [(1296, (.iaload, 1, 0, 0, 0, [])), (1297, (.aload_n 0, 1, 0, 0, 0, [])), (1298, (.iload_n 3, 1, 0, 0, 0, [])), (1299, (.iconst 2, 1, 0, 0, 0, [])), (1300, (.iadd, 1, 0, 0, 0, [])), (1301, (.iaload, 1, 0, 0, 0, [])), (1302, (.invokevirtual 161, 7, 202, 3, 1, [])), (1305, (.if_icmp .eq 131, 3, 1436, 0, 0, [])), (1308, (.iconst 0, 1, 0, 0, 0, [])), (1309, (.ireturn, 1, 0, 0, 0, [])), (1310, (.aload_n 1, 1, 0, 0, 0, [])), (1311, (.aload_n 0, 1, 0, 0, 0, []))],
  [(1312, (.iload_n 3, 1, 0, 0, 0, [])), (1313, (.iconst 1, 1, 0, 0, 0, [])), (1314, (.iadd, 1, 0, 0, 0, [])), (1315, (.iaload, 1, 0, 0, 0, [])), (1316, (.aload_n 0, 1, 0, 0, 0, [])), (1317, (.iload_n 3, 1, 0, 0, 0, [])), (1318, (.iconst 2, 1, 0, 0, 0, [])), (1319, (.iadd, 1, 0, 0, 0, [])), (1320, (.iaload, 1, 0, 0, 0, [])), (1321, (.aload_n 0, 1, 0, 0, 0, [])), (1322, (.iload_n 3, 1, 0, 0, 0, [])), (1323, (.iconst 3, 1, 0, 0, 0, [])), (1324, (.iadd, 1, 0, 0, 0, [])), (1325, (.iaload, 1, 0, 0, 0, [])), (1326, (.invokevirtual 162, 6, 111, 4, 1, []))],
  [(1329, (.aload_n 2, 1, 0, 0, 0, [])), (1330, (.aload_n 0, 1, 0, 0, 0, [])), (1331, (.iload_n 3, 1, 0, 0, 0, [])), (1332, (.iconst 1, 1, 0, 0, 0, [])), (1333, (.iadd, 1, 0, 0, 0, [])), (1334, (.iaload, 1, 0, 0, 0, [])), (1335, (.aload_n 0, 1, 0, 0, 0, [])), (1336, (.iload_n 3, 1, 0, 0, 0, [])), (1337, (.iconst 2, 1, 0, 0, 0, [])), (1338, (.iadd, 1, 0, 0, 0, [])), (1339, (.iaload, 1, 0, 0, 0, [])), (1340, (.aload_n 0, 1, 0, 0, 0, [])), (1341, (.iload_n 3, 1, 0, 0, 0, [])), (1342, (.iconst 3, 1, 0, 0, 0, [])), (1343, (.iadd, 1, 0, 0, 0, []))],
  [(1344, (.iaload, 1, 0, 0, 0, [])), (1345, (.invokevirtual 165, 7, 203, 4, 1, [])), (1348, (.if_icmp .eq 88, 3, 1436, 0, 0, [])), (1351, (.iconst 0, 1, 0, 0, 0, [])), (1352, (.ireturn, 1, 0, 0, 0, [])), (1353, (.aload_n 1, 1, 0, 0, 0, [])), (1354, (.aload_n 0, 1, 0, 0, 0, [])), (1355, (.iload_n 3, 1, 0, 0, 0, [])), (1356, (.iconst 1, 1, 0, 0, 0, [])), (1357, (.iadd, 1, 0, 0, 0, [])), (1358, (.iaload, 1, 0, 0, 0, [])), (1359, (.aload_n 0, 1, 0, 0, 0, []))],
  [(1360, (.iload_n 3, 1, 0, 0, 0, [])), (1361, (.iconst 2, 1, 0, 0, 0, [])), (1362, (.iadd, 1, 0, 0, 0, [])), (1363, (.iaload, 1, 0, 0, 0, [])), (1364, (.invokevirtual 166, 6, 112, 3, 2, [])), (1367, (.aload_n 2, 1, 0, 0, 0, [])), (1368, (.aload_n 0, 1, 0, 0, 0, [])), (1369, (.iload_n 3, 1, 0, 0, 0, [])), (1370, (.iconst 1, 1, 0, 0, 0, [])), (1371, (.iadd, 1, 0, 0, 0, [])), (1372, (.iaload, 1, 0, 0, 0, [])), (1373, (.aload_n 0, 1, 0, 0, 0, [])), (1374, (.iload_n 3, 1, 0, 0, 0, [])), (1375, (.iconst 2, 1, 0, 0, 0, []))],
  [(1376, (.iadd, 1, 0, 0, 0, [])), (1377, (.iaload, 1, 0, 0, 0, [])), (1378, (.invokevirtual 169, 7, 204, 3, 2, [])), (1381, (.lcmp, 1, 0, 0, 0, [])), (1382, (.ifCond .eq 54, 3, 1436, 0, 0, [])), (1385, (.iconst 0, 1, 0, 0, 0, [])), (1386, (.ireturn, 1, 0, 0, 0, [])), (1387, (.aload_n 1, 1, 0, 0, 0, [])), (1388, (.invokevirtual 170, 6, 113, 1, 1, [])), (1391, (.aload_n 2, 1, 0, 0, 0, []))],
  [(1392, (.invokevirtual 173, 7, 205, 1, 1, [])), (1395, (.if_icmp .eq 41, 3, 1436, 0, 0, [])), (1398, (.iconst 0, 1, 0, 0, 0, [])), (1399, (.ireturn, 1, 0, 0, 0, [])), (1400, (.aload_n 1, 1, 0, 0, 0, [])), (1401, (.invokevirtual 174, 6, 114, 1, 1, [])), (1404, (.aload_n 2, 1, 0, 0, 0, [])), (1405, (.invokevirtual 177, 7, 206, 1, 1, []))],
  [(1408, (.if_icmp .eq 28, 3, 1436, 0, 0, [])), (1411, (.iconst 0, 1, 0, 0, 0, [])), (1412, (.ireturn, 1, 0, 0, 0, [])), (1413, (.aload_n 1, 1, 0, 0, 0, [])), (1414, (.aload_n 0, 1, 0, 0, 0, [])), (1415, (.iload_n 3, 1, 0, 0, 0, [])), (1416, (.iconst 1, 1, 0, 0, 0, [])), (1417, (.iadd, 1, 0, 0, 0, [])), (1418, (.iaload, 1, 0, 0, 0, [])), (1419, (.invokevirtual 178, 6, 115, 2, 1, [])), (1422, (.aload_n 2, 1, 0, 0, 0, [])), (1423, (.aload_n 0, 1, 0, 0, 0, []))],
  [(1424, (.iload_n 3, 1, 0, 0, 0, [])), (1425, (.iconst 1, 1, 0, 0, 0, [])), (1426, (.iadd, 1, 0, 0, 0, [])), (1427, (.iaload, 1, 0, 0, 0, [])), (1428, (.invokevirtual 181, 7, 207, 2, 1, [])), (1431, (.if_icmp .eq 5, 3, 1436, 0, 0, [])), (1434, (.iconst 0, 1, 0, 0, 0, [])), (1435, (.ireturn, 1, 0, 0, 0, [])), (1436, (.iinc 3 6, 3, 0, 0, 0, [])), (1439, (.goto (-1421), 3, 18, 0, 0, []))],
  [(1442, (.iconst 1, 1, 0, 0, 0, [])), (1443, (.ireturn, 1, 0, 0, 0, []))]]
def zm_msl0 : List zm_M := [(RX0, yX0_copyFrom, cX0_copyFrom, 2, none, false, 1, 0, false, [], zt_X0_copyFrom),
  (RX0, yX0_hasWord, cX0_hasWord, 2, (some .boolean), false, 1, 0, true, [], zt_X0_hasWord),
  (RX0, yX0_areTwoWords, cX0_areTwoWords, 3, (some .boolean), false, 2, 0, true, [], zt_X0_areTwoWords),
  (RX0, yX0_wordAt, cX0_wordAt, 2, (some .int), false, 1, 0, false, [5], zt_X0_wordAt),
  (RX0, yX0_addWord, cX0_addWord, 2, none, false, 1, 0, false, [], zt_X0_addWord),
  (RX0, yX0_hasThirdLetter, cX0_hasThirdLetter, 2, (some .boolean), false, 0, 0, true, [2, 32], zt_X0_hasThirdLetter),
  (RX0, yX0_isSet, cX0_isSet, 2, (some .boolean), false, 1, 0, true, [], zt_X0_isSet),
  (RX0, yX0_isInSet, cX0_isInSet, 3, (some .boolean), false, 2, 0, true, [], zt_X0_isInSet),
  (RX0, yX0_firstOn, cX0_firstOn, 8, (some .int), false, 1, 0, false, [12], zt_X0_firstOn),
  (RX0, yX0_hasPlayer, cX0_hasPlayer, 2, (some .boolean), false, 1, 0, true, [], zt_X0_hasPlayer),
  (RX0, yX0_areTwoPlayers, cX0_areTwoPlayers, 3, (some .boolean), false, 2, 0, true, [], zt_X0_areTwoPlayers),
  (RX0, yX0_addPlayer, cX0_addPlayer, 3, (some .boolean), false, 2, 0, true, [], zt_X0_addPlayer),
  (RX0, yX0_firstPick, cX0_firstPick, 2, (some .int), false, 1, 0, false, [5], zt_X0_firstPick),
  (RX0, yX0_pickAgainst, cX0_pickAgainst, 4, (some .int), false, 2, 0, false, [5, 20, 78, 99], zt_X0_pickAgainst),
  (RX0, yX0_wins, cX0_wins, 5, (some .int), false, 1, 0, false, [5, 31, 54], zt_X0_wins),
  (RX0, yX0_addRow, cX0_addRow, 3, (some .boolean), false, 2, 0, true, [], zt_X0_addRow)]
def zm_msl1 : List zm_M := [(RX0, yX0_followPlan, cX0_followPlan, 5, none, false, 1, 0, false, [2, 54], zt_X0_followPlan),
  (RX1, yX1_nextSeed, cX1_nextSeed, 1, (some .int), true, 1, 0, false, [], zt_X1_nextSeed),
  (RX1, yX1_drawn, cX1_drawn, 2, (some .int), true, 2, 0, false, [], zt_X1_drawn),
  (RX1, yX1_run, cX1_run, 7, none, false, 4, 1, false, [17, 54, 72, 89], zt_X1_run),
  (RX2, yX2_fill, cX2_fill, 4, none, false, 2, 2, false, [15, 37, 53], zt_X2_fill),
  (RX2, yX2_hasOneInAnother, cX2_hasOneInAnother, 3, (some .boolean), false, 0, 2, true, [2, 12], zt_X2_hasOneInAnother),
  (RX2, yX2_chancePart, cX2_chancePart, 3, (some .long), false, 2, 2, false, [], zt_X2_chancePart),
  (RX2, yX2_meanPart, cX2_meanPart, 5, (some .long), false, 1, 2, false, [9, 25], zt_X2_meanPart),
  (RX2, yX2_setApart, cX2_setApart, 3, none, false, 0, 2, false, [2, 14, 50, 69], zt_X2_setApart),
  (RX2, yX2_weight, cX2_weight, 4, (some .long), false, 1, 2, false, [], zt_X2_weight),
  (RX2, yX2_wholeWeight, cX2_wholeWeight, 4, (some .long), false, 0, 2, false, [4], zt_X2_wholeWeight),
  (RX2, yX2_minor, cX2_minor, 8, (some .long), true, 4, 0, false, [27], zt_X2_minor),
  (RX2, yX2_rowsWithin, cX2_rowsWithin, 5, (some .int), false, 2, 2, false, [24], zt_X2_rowsWithin),
  (RX2, yX2_countEndings, cX2_countEndings, 4, none, false, 1, 2, false, [9, 41, 62], zt_X2_countEndings),
  (RX2, yX2_endingsAt, cX2_endingsAt, 8, (some .int), false, 2, 2, false, [10, 29, 59], zt_X2_endingsAt),
  (RX3, yX3_isPart, cX3_isPart, 1, (some .boolean), true, 1, 0, true, [], zt_X3_isPart)]
def zm_msl2 : List zm_M := [(RX3, yX3_partOf, cX3_partOf, 9, (some .long), true, 3, 0, false, [], zt_X3_partOf),
  (RX3, yX3_commonDivisor, cX3_commonDivisor, 11, (some .long), true, 2, 0, false, [9], zt_X3_commonDivisor),
  (RX4, yX4_share, cX4_share, 3, (some .int), true, 3, 0, false, [], zt_X4_share),
  (RX4, yX4_chancePart, cX4_chancePart, 5, (some .long), true, 4, 0, false, [], zt_X4_chancePart),
  (RX4, yX4_beats, cX4_beats, 3, (some .boolean), true, 3, 0, true, [], zt_X4_beats),
  (RX4, yX4_bestAnswer, cX4_bestAnswer, 10, (some .int), true, 2, 0, false, [27, 99], zt_X4_bestAnswer),
  (RX5, yX5_wordAt, cX5_wordAt, 2, (some .int), false, 1, 3, false, [], zt_X5_wordAt),
  (RX5, yX5_find, cX5_find, 5, (some .int), false, 1, 3, false, [12, 27, 44, 51, 81], zt_X5_find),
  (RX5, yX5_closes, cX5_closes, 5, (some .boolean), true, 4, 0, true, [34, 64], zt_X5_closes),
  (RX5, yX5_isBeaten, cX5_isBeaten, 3, (some .boolean), false, 2, 3, true, [], zt_X5_isBeaten),
  (RX6, yX6_copyFrom, cX6_copyFrom, 2, none, false, 1, 4, false, [], zt_X6_copyFrom),
  (RX6, yX6_hasPlace, cX6_hasPlace, 2, (some .boolean), false, 1, 4, true, [], zt_X6_hasPlace),
  (RX6, yX6_letterAt, cX6_letterAt, 2, (some .int), false, 1, 4, false, [5], zt_X6_letterAt),
  (RX6, yX6_append, cX6_append, 2, (some .boolean), false, 1, 4, true, [], zt_X6_append),
  (RX6, yX6_dropLast, cX6_dropLast, 2, none, false, 1, 4, false, [], zt_X6_dropLast),
  (RX6, yX6_putOneOn, cX6_putOneOn, 3, none, false, 1, 4, false, [2, 31], zt_X6_putOneOn)]
def zm_msl3 : List zm_M := [(RX6, yX6_endBits, cX6_endBits, 6, (some .long), false, 1, 4, false, [8], zt_X6_endBits),
  (RX6, yX6_firstEnd, cX6_firstEnd, 4, (some .int), false, 1, 4, false, [4], zt_X6_firstEnd),
  (RX6, yX6_matched, cX6_matched, 4, (some .int), false, 1, 4, false, [9, 38], zt_X6_matched),
  (RX7, yX7_append, cX7_append, 2, (some .boolean), false, 1, 5, true, [], zt_X7_append),
  (RX7, yX7_read, cX7_read, 3, (some .int), false, 1, 5, false, [17, 57], zt_X7_read),
  (RX7, yX7_goesOn, cX7_goesOn, 4, (some .boolean), false, 2, 5, true, [], zt_X7_goesOn),
  (RX7, yX7_addLetters, cX7_addLetters, 4, (some .boolean), false, 2, 5, true, [17], zt_X7_addLetters),
  (RX7, yX7_endClause, cX7_endClause, 1, (some .boolean), false, 0, 5, true, [], zt_X7_endClause),
  (RX8, yX8_tens, cX8_tens, 1, (some .int), true, 1, 0, false, [], zt_X8_tens),
  (RX8, yX8_length, cX8_length, 1, (some .int), true, 1, 0, false, [], zt_X8_length),
  (RX8, yX8_isWord, cX8_isWord, 4, (some .boolean), true, 2, 0, true, [20], zt_X8_isWord),
  (RX8, yX8_letterAt, cX8_letterAt, 2, (some .int), true, 2, 0, false, [], zt_X8_letterAt),
  (RX8, yX8_firstLetters, cX8_firstLetters, 2, (some .int), true, 2, 0, false, [], zt_X8_firstLetters),
  (RX8, yX8_lastLetters, cX8_lastLetters, 2, (some .int), true, 2, 0, false, [], zt_X8_lastLetters),
  (RX8, yX8_grown, cX8_grown, 2, (some .int), true, 2, 0, false, [], zt_X8_grown),
  (RX8, yX8_endsWith, cX8_endsWith, 2, (some .boolean), true, 2, 0, true, [], zt_X8_endsWith)]
def zm_msl4 : List zm_M := [(RX8, yX8_overlapBits, cX8_overlapBits, 6, (some .int), true, 2, 0, false, [20], zt_X8_overlapBits),
  (RX8, yX8_numberOn, cX8_numberOn, 7, (some .int), true, 3, 0, false, [15], zt_X8_numberOn),
  (RX8, yX8_standsIn, cX8_standsIn, 5, (some .boolean), true, 2, 0, true, [21], zt_X8_standsIn),
  (RX8, yX8_clash, cX8_clash, 2, (some .boolean), true, 2, 0, true, [], zt_X8_clash),
  (RX8, yX8_oneOn, cX8_oneOn, 2, (some .int), true, 2, 0, false, [], zt_X8_oneOn),
  (RX8, yX8_turned, cX8_turned, 3, (some .int), true, 1, 0, false, [9], zt_X8_turned),
  (RX8, yX8_shifted, cX8_shifted, 5, (some .int), true, 2, 0, false, [10], zt_X8_shifted),
  (RX8, yX8_doubled, cX8_doubled, 1, (some .int), true, 1, 0, false, [], zt_X8_doubled),
  (RX8, yX8_answering, cX8_answering, 3, (some .int), true, 2, 0, false, [], zt_X8_answering),
  (RX8, yX8_ledBy, cX8_ledBy, 2, (some .int), true, 2, 0, false, [], zt_X8_ledBy),
  (RX8, yX8_least, cX8_least, 1, (some .int), true, 1, 0, false, [], zt_X8_least),
  (RX8, yX8_following, cX8_following, 6, (some .int), true, 2, 0, false, [10], zt_X8_following),
  (RX9, yX9_sides, cX9_sides, 3, (some .int), false, 1, 6, false, [25], zt_X9_sides),
  (RX9, yX9_feed, cX9_feed, 2, (some .int), false, 1, 6, false, [22], zt_X9_feed),
  (RX9, yX9_words, cX9_words, 3, (some .int), false, 0, 6, false, [14, 58], zt_X9_words),
  (RX9, yX9_becomes, cX9_becomes, 4, (some .int), false, 2, 6, false, [8, 24], zt_X9_becomes)]
def zm_msl5 : List zm_M := [(RX9, yX9_of, cX9_of, 4, (some .int), false, 2, 6, false, [8, 21], zt_X9_of),
  (RX9, yX9_overlaps, cX9_overlaps, 3, (some .int), false, 2, 6, false, [8, 19, 32], zt_X9_overlaps),
  (RX9, yX9_number, cX9_number, 3, (some .int), false, 2, 6, false, [8, 19, 32, 40], zt_X9_number),
  (RX9, yX9_isIn, cX9_isIn, 3, (some .int), false, 2, 6, false, [8, 19, 32], zt_X9_isIn),
  (RX9, yX9_chance, cX9_chance, 4, (some .long), false, 3, 6, false, [8, 26, 41, 49], zt_X9_chance),
  (RX9, yX9_answered, cX9_answered, 4, (some .long), false, 2, 6, false, [15, 30, 42], zt_X9_answered),
  (RX9, yX9_trail, cX9_trail, 3, (some .int), false, 2, 6, false, [8], zt_X9_trail),
  (RX9, yX9_ring, cX9_ring, 3, (some .int), false, 1, 6, false, [11], zt_X9_ring),
  (RX9, yX9_field, cX9_field, 4, (some .long), false, 3, 6, false, [5, 24], zt_X9_field),
  (RX9, yX9_mean, cX9_mean, 3, (some .long), false, 2, 6, false, [12], zt_X9_mean),
  (RX9, yX9_within, cX9_within, 4, (some .int), false, 3, 6, false, [8, 29, 58, 65], zt_X9_within),
  (RX9, yX9_cast, cX9_cast, 2, (some .int), false, 1, 6, false, [30], zt_X9_cast),
  (RX9, yX9_casts, cX9_casts, 5, (some .int), false, 2, 6, false, [19, 29], zt_X9_casts),
  (RX9, yX9_wipe, cX9_wipe, 2, (some .int), false, 0, 6, false, [], zt_X9_wipe),
  (RX9, yX9_strip, cX9_strip, 2, (some .int), false, 1, 6, false, [11], zt_X9_strip),
  (RX9, yX9_ends, cX9_ends, 2, (some .long), false, 1, 6, false, [8], zt_X9_ends)]
def zm_msl6 : List zm_M := [(RX9, yX9_seen, cX9_seen, 4, (some .int), false, 2, 6, false, [8, 21], zt_X9_seen),
  (RX9, yX9_who, cX9_who, 1, (some .int), false, 0, 6, false, [], zt_X9_who),
  (RX9, yX9_were, cX9_were, 5, (some .int), false, 2, 6, false, [11, 22, 46], zt_X9_were),
  (RX9, yX9_player, cX9_player, 3, (some .int), false, 2, 6, false, [18, 32], zt_X9_player),
  (RX9, yX9_playerOf, cX9_playerOf, 3, (some .int), false, 2, 6, false, [8], zt_X9_playerOf),
  (RX9, yX9_pick, cX9_pick, 4, (some .int), false, 3, 6, false, [9], zt_X9_pick),
  (RX9, yX9_match, cX9_match, 5, (some .long), false, 3, 6, false, [16, 31, 45], zt_X9_match),
  (RX9, yX9_duel, cX9_duel, 7, (some .int), false, 4, 6, false, [9, 33, 52, 77], zt_X9_duel),
  (RX9, yX9_odds, cX9_odds, 10, (some .long), false, 5, 6, false, [30, 45, 77, 106], zt_X9_odds),
  (RX9, yX9_plan, cX9_plan, 3, (some .int), false, 2, 6, false, [37, 52], zt_X9_plan),
  (RX9, yX9_behind, cX9_behind, 3, (some .int), false, 1, 6, false, [11, 41, 52], zt_X9_behind),
  (RX9, yX9_write, cX9_write, 2, (some .int), false, 1, 6, false, [18], zt_X9_write),
  (RX9, yX9_paper, cX9_paper, 2, (some .int), false, 1, 6, false, [], zt_X9_paper),
  (RX9, yX9_judge, cX9_judge, 4, (some .int), false, 1, 6, false, [4, 23, 47, 68], zt_X9_judge),
  (RX9, yX9_list, cX9_list, 3, (some .int), false, 2, 6, false, [4], zt_X9_list),
  (RX9, yX9_put, cX9_put, 4, (some .int), false, 3, 6, false, [4, 27], zt_X9_put)]
def zm_msl7 : List zm_M := [(RX9, yX9_get, cX9_get, 3, (some .long), false, 2, 6, false, [13], zt_X9_get),
  (RX9, yX9_image, cX9_image, 1, (some .int), false, 0, 6, false, [11], zt_X9_image),
  (RX9, yX9_undo, cX9_undo, 1, (some .int), false, 0, 6, false, [21], zt_X9_undo),
  (RX9, yX9_count, cX9_count, 2, (some .int), false, 1, 6, false, [], zt_X9_count),
  (RX9, yX9_trailLength, cX9_trailLength, 6, (some .int), false, 2, 6, false, [9, 39], zt_X9_trailLength),
  (RX9, yX9_isRacingField, cX9_isRacingField, 3, (some .boolean), false, 1, 6, true, [17, 42], zt_X9_isRacingField),
  (RX9, yX9_placeInSet, cX9_placeInSet, 2, (some .int), true, 2, 0, false, [], zt_X9_placeInSet),
  (RX9, yX9_mostOfRow, cX9_mostOfRow, 1, (some .int), true, 1, 0, false, [], zt_X9_mostOfRow),
  (RX9, yX9_writeStrip, cX9_writeStrip, 2, (some .int), false, 0, 6, false, [16, 50], zt_X9_writeStrip),
  (RX9, yX9_writeWord, cX9_writeWord, 3, (some .int), false, 1, 6, false, [5, 10, 37], zt_X9_writeWord),
  (RX9, yX9_signOf, cX9_signOf, 1, (some .int), true, 1, 0, false, [], zt_X9_signOf),
  (RX9, yX9_hasList, cX9_hasList, 1, (some .boolean), true, 1, 0, true, [], zt_X9_hasList),
  (RX9, yX9_hasListPlace, cX9_hasListPlace, 3, (some .boolean), false, 2, 6, true, [], zt_X9_hasListPlace),
  (RX10, yX10_in, cX10_in, 3, (some .boolean), true, 3, 0, true, [], zt_X10_in),
  (RX10, yX10_isWord, cX10_isWord, 2, (some .boolean), false, 1, 7, true, [], zt_X10_isWord),
  (RX10, yX10_isPart, cX10_isPart, 1, (some .boolean), true, 1, 0, true, [], zt_X10_isPart)]
def zm_msl8 : List zm_M := [(RX10, yX10_isList, cX10_isList, 1, (some .boolean), true, 1, 0, true, [], zt_X10_isList),
  (RX10, yX10_ten, cX10_ten, 3, (some .int), true, 1, 0, false, [4], zt_X10_ten),
  (RX10, yX10_sizeOf, cX10_sizeOf, 3, (some .int), true, 1, 0, false, [4], zt_X10_sizeOf),
  (RX10, yX10_letterOf, cX10_letterOf, 2, (some .int), true, 2, 0, false, [], zt_X10_letterOf),
  (RX10, yX10_hasThird, cX10_hasThird, 2, (some .boolean), true, 1, 0, true, [2], zt_X10_hasThird),
  (RX10, yX10_isSuch, cX10_isSuch, 3, (some .boolean), false, 1, 7, true, [17], zt_X10_isSuch),
  (RX10, yX10_on, cX10_on, 2, (some .int), false, 1, 7, false, [], zt_X10_on),
  (RX10, yX10_overlap, cX10_overlap, 6, (some .int), true, 2, 0, false, [20], zt_X10_overlap),
  (RX10, yX10_numberOf, cX10_numberOf, 7, (some .int), false, 2, 7, false, [15], zt_X10_numberOf),
  (RX10, yX10_stands, cX10_stands, 4, (some .boolean), true, 2, 0, true, [10], zt_X10_stands),
  (RX10, yX10_areApart, cX10_areApart, 2, (some .boolean), true, 2, 0, true, [], zt_X10_areApart),
  (RX10, yX10_weight, cX10_weight, 3, (some .int), false, 2, 7, false, [], zt_X10_weight),
  (RX10, yX10_beats, cX10_beats, 3, (some .boolean), false, 2, 7, true, [], zt_X10_beats),
  (RX10, yX10_bestAnswer, cX10_bestAnswer, 9, (some .int), false, 1, 7, false, [16], zt_X10_bestAnswer),
  (RX10, yX10_lowest, cX10_lowest, 11, (some .long), true, 3, 0, false, [28], zt_X10_lowest),
  (RX10, yX10_chanceOf, cX10_chanceOf, 5, (some .long), false, 3, 7, false, [], zt_X10_chanceOf)]
def zm_msl9 : List zm_M := [(RX10, yX10_sides, cX10_sides, 3, (some .int), false, 1, 7, false, [6, 19, 50], zt_X10_sides),
  (RX10, yX10_feed, cX10_feed, 2, (some .int), false, 1, 7, false, [7], zt_X10_feed),
  (RX10, yX10_sign, cX10_sign, 2, (some .int), false, 1, 7, false, [], zt_X10_sign),
  (RX10, yX10_reads, cX10_reads, 8, (some .int), false, 0, 7, false, [4, 9, 14, 28, 105], zt_X10_reads),
  (RX10, yX10_words, cX10_words, 3, (some .int), false, 0, 7, false, [4, 32], zt_X10_words),
  (RX10, yX10_becomes, cX10_becomes, 4, (some .int), false, 2, 7, false, [15], zt_X10_becomes),
  (RX10, yX10_of, cX10_of, 4, (some .int), false, 2, 7, false, [5], zt_X10_of),
  (RX10, yX10_overlaps, cX10_overlaps, 3, (some .int), false, 2, 7, false, [13], zt_X10_overlaps),
  (RX10, yX10_number, cX10_number, 3, (some .int), false, 2, 7, false, [13], zt_X10_number),
  (RX10, yX10_isIn, cX10_isIn, 3, (some .int), false, 2, 7, false, [13], zt_X10_isIn),
  (RX10, yX10_chance, cX10_chance, 4, (some .long), false, 3, 7, false, [20, 38], zt_X10_chance),
  (RX10, yX10_answered, cX10_answered, 4, (some .long), false, 2, 7, false, [12], zt_X10_answered),
  (RX10, yX10_trail, cX10_trail, 6, (some .int), false, 2, 7, false, [14, 29, 32], zt_X10_trail),
  (RX10, yX10_rings, cX10_rings, 6, (some .boolean), false, 2, 7, true, [36, 84], zt_X10_rings),
  (RX10, yX10_ring, cX10_ring, 3, (some .int), false, 1, 7, false, [2, 39], zt_X10_ring),
  (RX10, yX10_sets, cX10_sets, 4, (some .boolean), false, 1, 7, true, [23, 30], zt_X10_sets)]
def zm_msl10 : List zm_M := [(RX10, yX10_isField, cX10_isField, 3, (some .boolean), false, 0, 7, true, [2, 12], zt_X10_isField),
  (RX10, yX10_square, cX10_square, 9, (some .long), false, 3, 7, false, [16], zt_X10_square),
  (RX10, yX10_fills, cX10_fills, 7, none, false, 1, 7, false, [7, 15, 74], zt_X10_fills),
  (RX10, yX10_solved, cX10_solved, 5, (some .long), false, 2, 7, false, [5, 23], zt_X10_solved),
  (RX10, yX10_field, cX10_field, 5, (some .long), false, 3, 7, false, [5, 57], zt_X10_field),
  (RX10, yX10_mean, cX10_mean, 3, (some .long), false, 2, 7, false, [5, 31], zt_X10_mean),
  (RX10, yX10_fourOf, cX10_fourOf, 3, (some .int), true, 1, 0, false, [4], zt_X10_fourOf),
  (RX10, yX10_within, cX10_within, 10, (some .int), false, 3, 7, false, [13, 60, 95, 114, 139, 165, 185, 251], zt_X10_within),
  (RX10, yX10_endsBy, cX10_endsBy, 4, (some .int), false, 1, 7, false, [2, 36], zt_X10_endsBy),
  (RX10, yX10_cast, cX10_cast, 2, (some .int), false, 1, 7, false, [9], zt_X10_cast),
  (RX10, yX10_drawn, cX10_drawn, 2, (some .int), false, 1, 7, false, [], zt_X10_drawn),
  (RX10, yX10_casts, cX10_casts, 5, (some .int), false, 2, 7, false, [18, 62], zt_X10_casts),
  (RX10, yX10_wipe, cX10_wipe, 2, (some .int), false, 0, 7, false, [], zt_X10_wipe),
  (RX10, yX10_strip, cX10_strip, 2, (some .int), false, 1, 7, false, [11], zt_X10_strip),
  (RX10, yX10_endsAt, cX10_endsAt, 5, (some .boolean), false, 2, 7, true, [17], zt_X10_endsAt),
  (RX10, yX10_ends, cX10_ends, 5, (some .long), false, 1, 7, false, [17], zt_X10_ends)]
def zm_msl11 : List zm_M := [(RX10, yX10_firstOf, cX10_firstOf, 3, (some .int), false, 1, 7, false, [2], zt_X10_firstOf),
  (RX10, yX10_matched, cX10_matched, 5, (some .int), false, 1, 7, false, [4, 12, 21], zt_X10_matched),
  (RX10, yX10_seen, cX10_seen, 3, (some .int), false, 2, 7, false, [14], zt_X10_seen),
  (RX10, yX10_who, cX10_who, 5, (some .int), false, 0, 7, false, [8, 21, 51], zt_X10_who),
  (RX10, yX10_were, cX10_were, 6, (some .int), false, 2, 7, false, [19, 37], zt_X10_were),
  (RX10, yX10_player, cX10_player, 3, (some .int), false, 2, 7, false, [14], zt_X10_player),
  (RX10, yX10_isPlayer, cX10_isPlayer, 2, (some .boolean), false, 1, 7, true, [], zt_X10_isPlayer),
  (RX10, yX10_turned, cX10_turned, 3, (some .int), true, 1, 0, false, [4], zt_X10_turned),
  (RX10, yX10_shifted, cX10_shifted, 4, (some .int), false, 1, 7, false, [4], zt_X10_shifted),
  (RX10, yX10_ahead, cX10_ahead, 2, (some .int), true, 2, 0, false, [], zt_X10_ahead),
  (RX10, yX10_picks, cX10_picks, 5, (some .int), false, 2, 7, false, [], zt_X10_picks),
  (RX10, yX10_firstPick, cX10_firstPick, 2, (some .int), false, 1, 7, false, [], zt_X10_firstPick),
  (RX10, yX10_wins, cX10_wins, 5, (some .int), false, 1, 7, false, [11], zt_X10_wins),
  (RX10, yX10_playerOf, cX10_playerOf, 3, (some .int), false, 2, 7, false, [14], zt_X10_playerOf),
  (RX10, yX10_areTwo, cX10_areTwo, 3, (some .boolean), false, 2, 7, true, [], zt_X10_areTwo),
  (RX10, yX10_pick, cX10_pick, 5, (some .int), false, 3, 7, false, [], zt_X10_pick)]
def zm_msl12 : List zm_M := [(RX10, yX10_match, cX10_match, 6, (some .long), false, 3, 7, false, [], zt_X10_match),
  (RX10, yX10_duels, cX10_duels, 7, (some .int), false, 3, 7, false, [9], zt_X10_duels),
  (RX10, yX10_duel, cX10_duel, 6, (some .int), false, 4, 7, false, [28, 48], zt_X10_duel),
  (RX10, yX10_odds, cX10_odds, 8, (some .long), false, 5, 7, false, [37, 68], zt_X10_odds),
  (RX10, yX10_plan, cX10_plan, 3, (some .int), false, 2, 7, false, [47], zt_X10_plan),
  (RX10, yX10_does, cX10_does, 5, none, false, 2, 7, false, [80, 88, 114], zt_X10_does),
  (RX10, yX10_behind, cX10_behind, 4, (some .int), false, 1, 7, false, [6, 28, 43, 69, 130, 141], zt_X10_behind),
  (RX10, yX10_write, cX10_write, 3, (some .int), false, 1, 7, false, [10, 37, 42, 81], zt_X10_write),
  (RX10, yX10_paper, cX10_paper, 2, (some .int), false, 1, 7, false, [11], zt_X10_paper),
  (RX10, yX10_judge, cX10_judge, 3, (some .int), false, 1, 7, false, [4, 23], zt_X10_judge),
  (RX10, yX10_list, cX10_list, 4, (some .int), false, 2, 7, false, [4, 34], zt_X10_list),
  (RX10, yX10_put, cX10_put, 4, (some .int), false, 3, 7, false, [4, 34], zt_X10_put),
  (RX10, yX10_get, cX10_get, 3, (some .long), false, 2, 7, false, [4, 20], zt_X10_get),
  (RX10, yX10_image, cX10_image, 2, (some .int), false, 0, 7, false, [57, 85, 114, 157], zt_X10_image),
  (RX10, yX10_undo, cX10_undo, 2, (some .int), false, 0, 7, false, [62, 90, 119, 162], zt_X10_undo),
  (RX10, yX10_count, cX10_count, 2, (some .int), false, 1, 7, false, [], zt_X10_count)]
def zm_msl13 : List zm_M := [(RJ6, yJ6_bitCount_0f7a4, cJ6_bitCount_0f7a4, 1, (some .int), true, 1, 0, false, [], zt_J6_bitCount_0f7a4),
  (RJ13, yJ13_bitCount_95d88, cJ13_bitCount_95d88, 2, (some .int), true, 1, 0, false, [], zt_J13_bitCount_95d88),
  (RJ7, yJ7_fill_53178, cJ7_fill_53178, 4, none, true, 2, 0, false, [5], zt_J7_fill_53178)]
def zm_msl : List (List zm_M) := [zm_msl0, zm_msl1, zm_msl2, zm_msl3, zm_msl4, zm_msl5, zm_msl6, zm_msl7, zm_msl8, zm_msl9, zm_msl10, zm_msl11, zm_msl12, zm_msl13]
def zm_ms (μ : Nat) : Option zm_M := match zm_msl[μ / 16]? with
  | some l => l[μ % 16]?
  | none => none
abbrev zC (d : Nat) : zm_C := zm_meth zm_ms d
def zR (d f μ : Nat) : zm_G := match zm_ms μ with
  | none => fun _ _ _ _ => none
  | some (_, _, _, _, _, _, _, _, rb, cuts, T) => zm_run T cuts rb none (zm_meth zm_ms d) f
/-- the class's cells: its ints I (100 times the cell, and the field), its rows A -/
def hC (I : Nat → Int32) (A : Nat → Nat → Int32) : List zm_E := [.inr (6, [.ref 1, .ref 9, .int (I 2), .ref 17, .ref 20, .int (I 5), .ref 21, .ref 26, .ref 27, .ref 29, .ref 41, .ref 44, .ref 45]),
  .inr (0, [.int (I 100), .ref 2, .int (I 102), .ref 3, .ref 5, .ref 6, .int (I 106), .ref 7, .ref 8, .int (I 109)]),
  .inl (6, .inl (A 2)),
  .inr (4, [.ref 4, .int (I 301)]),
  .inl (40, .inl (A 4)),
  .inl (4, .inl (A 5)),
  .inl (4, .inl (A 6)),
  .inl (8, .inl (A 7)),
  .inl (8, .inl (A 8)),
  .inr (0, [.int (I 900), .ref 10, .int (I 902), .ref 11, .ref 13, .ref 14, .int (I 906), .ref 15, .ref 16, .int (I 909)]),
  .inl (6, .inl (A 10)),
  .inr (4, [.ref 12, .int (I 1101)]),
  .inl (40, .inl (A 12)),
  .inl (4, .inl (A 13)),
  .inl (4, .inl (A 14)),
  .inl (8, .inl (A 15)),
  .inl (8, .inl (A 16)),
  .inr (5, [.ref 18, .int (I 1701), .ref 19, .int (I 1703), .int (I 1704), .int (I 1705)]),
  .inl (60, .inl (A 18)),
  .inl (6, .inl (A 19)),
  .inl (40, .inl (A 20)),
  .inl (4, .inr (.inr (.inr (.inr (fun j => some (22 + j)))))),
  .inl (12, .inl (A 22)),
  .inl (12, .inl (A 23)),
  .inl (12, .inl (A 24)),
  .inl (12, .inl (A 25)),
  .inl (4, .inl (A 26)),
  .inr (4, [.ref 28, .int (I 2701)]),
  .inl (40, .inl (A 28)),
  .inr (2, [.ref 30, .int (I 2901), .int (I 2902), .ref 31, .ref 35, .ref 40]),
  .inl (4, .inl (A 30)),
  .inl (3, .inr (.inr (.inr (.inr (fun j => some (32 + j)))))),
  .inl (4, .inl (A 32)),
  .inl (4, .inl (A 33)),
  .inl (4, .inl (A 34)),
  .inl (4, .inr (.inr (.inr (.inr (fun j => some (36 + j)))))),
  .inl (13, .inl (A 36)),
  .inl (13, .inl (A 37)),
  .inl (13, .inl (A 38)),
  .inl (13, .inl (A 39)),
  .inl (13, .inl (A 40)),
  .inr (3, [.ref 42, .ref 43]),
  .inl (6, .inl (A 42)),
  .inl (6, .inl (A 43)),
  .inr (1, [.int (I 4400), .int (I 4401)]),
  .inl (243, .inl (A 45))]
/-- the reference's cells: its ints J, its rows B, its rows of longs L -/
def hM (J : Nat → Int32) (B : Nat → Nat → Int32) (L : Nat → Nat → Int64) : List zm_E := [.inr (7, [.int (J 0), .ref 1001, .int (J 2), .ref 1002, .int (J 4), .ref 1003, .ref 1004, .int (J 7), .ref 1005, .ref 1006, .int (J 10), .ref 1007, .int (J 12), .ref 1008, .int (J 14), .ref 1009, .ref 1010, .ref 1011, .int (J 18), .ref 1012, .ref 1013, .int (J 21), .ref 1014, .ref 1015, .ref 1016, .ref 1017, .int (J 26), .ref 1018, .ref 1019]),
  .inl (6, .inl (B 1)),
  .inl (40, .inl (B 2)),
  .inl (4, .inl (B 3)),
  .inl (4, .inl (B 4)),
  .inl (8, .inl (B 5)),
  .inl (8, .inl (B 6)),
  .inl (60, .inl (B 7)),
  .inl (40, .inl (B 8)),
  .inl (48, .inl (B 9)),
  .inl (4, .inl (B 10)),
  .inl (80, .inl (B 11)),
  .inl (6, .inl (B 12)),
  .inl (40, .inl (B 13)),
  .inl (6, .inl (B 14)),
  .inl (256, .inr (.inl (L 15))),
  .inl (256, .inr (.inl (L 16))),
  .inl (4, .inl (B 17)),
  .inl (36, .inr (.inl (L 18))),
  .inl (244, .inl (B 19))]
end
section
/-! printed by wip/whole/emit.py: the methods by their numbers -/
theorem m_X0_copyFrom : zm_ms 0 = some (RX0, yX0_copyFrom, cX0_copyFrom, 2, none, false, 1, 0, false, [], zt_X0_copyFrom) := rfl
theorem m_X0_hasWord : zm_ms 1 = some (RX0, yX0_hasWord, cX0_hasWord, 2, (some .boolean), false, 1, 0, true, [], zt_X0_hasWord) := rfl
theorem m_X0_areTwoWords : zm_ms 2 = some (RX0, yX0_areTwoWords, cX0_areTwoWords, 3, (some .boolean), false, 2, 0, true, [], zt_X0_areTwoWords) := rfl
theorem m_X0_wordAt : zm_ms 3 = some (RX0, yX0_wordAt, cX0_wordAt, 2, (some .int), false, 1, 0, false, [5], zt_X0_wordAt) := rfl
theorem m_X0_addWord : zm_ms 4 = some (RX0, yX0_addWord, cX0_addWord, 2, none, false, 1, 0, false, [], zt_X0_addWord) := rfl
theorem m_X0_hasThirdLetter : zm_ms 5 = some (RX0, yX0_hasThirdLetter, cX0_hasThirdLetter, 2, (some .boolean), false, 0, 0, true, [2, 32], zt_X0_hasThirdLetter) := rfl
theorem m_X0_isSet : zm_ms 6 = some (RX0, yX0_isSet, cX0_isSet, 2, (some .boolean), false, 1, 0, true, [], zt_X0_isSet) := rfl
theorem m_X0_isInSet : zm_ms 7 = some (RX0, yX0_isInSet, cX0_isInSet, 3, (some .boolean), false, 2, 0, true, [], zt_X0_isInSet) := rfl
theorem m_X0_firstOn : zm_ms 8 = some (RX0, yX0_firstOn, cX0_firstOn, 8, (some .int), false, 1, 0, false, [12], zt_X0_firstOn) := rfl
theorem m_X0_hasPlayer : zm_ms 9 = some (RX0, yX0_hasPlayer, cX0_hasPlayer, 2, (some .boolean), false, 1, 0, true, [], zt_X0_hasPlayer) := rfl
theorem m_X0_areTwoPlayers : zm_ms 10 = some (RX0, yX0_areTwoPlayers, cX0_areTwoPlayers, 3, (some .boolean), false, 2, 0, true, [], zt_X0_areTwoPlayers) := rfl
theorem m_X0_addPlayer : zm_ms 11 = some (RX0, yX0_addPlayer, cX0_addPlayer, 3, (some .boolean), false, 2, 0, true, [], zt_X0_addPlayer) := rfl
theorem m_X0_firstPick : zm_ms 12 = some (RX0, yX0_firstPick, cX0_firstPick, 2, (some .int), false, 1, 0, false, [5], zt_X0_firstPick) := rfl
theorem m_X0_pickAgainst : zm_ms 13 = some (RX0, yX0_pickAgainst, cX0_pickAgainst, 4, (some .int), false, 2, 0, false, [5, 20, 78, 99], zt_X0_pickAgainst) := rfl
theorem m_X0_wins : zm_ms 14 = some (RX0, yX0_wins, cX0_wins, 5, (some .int), false, 1, 0, false, [5, 31, 54], zt_X0_wins) := rfl
theorem m_X0_addRow : zm_ms 15 = some (RX0, yX0_addRow, cX0_addRow, 3, (some .boolean), false, 2, 0, true, [], zt_X0_addRow) := rfl
theorem m_X0_followPlan : zm_ms 16 = some (RX0, yX0_followPlan, cX0_followPlan, 5, none, false, 1, 0, false, [2, 54], zt_X0_followPlan) := rfl
theorem m_X1_nextSeed : zm_ms 17 = some (RX1, yX1_nextSeed, cX1_nextSeed, 1, (some .int), true, 1, 0, false, [], zt_X1_nextSeed) := rfl
theorem m_X1_drawn : zm_ms 18 = some (RX1, yX1_drawn, cX1_drawn, 2, (some .int), true, 2, 0, false, [], zt_X1_drawn) := rfl
theorem m_X1_run : zm_ms 19 = some (RX1, yX1_run, cX1_run, 7, none, false, 4, 1, false, [17, 54, 72, 89], zt_X1_run) := rfl
theorem m_X2_fill : zm_ms 20 = some (RX2, yX2_fill, cX2_fill, 4, none, false, 2, 2, false, [15, 37, 53], zt_X2_fill) := rfl
theorem m_X2_hasOneInAnother : zm_ms 21 = some (RX2, yX2_hasOneInAnother, cX2_hasOneInAnother, 3, (some .boolean), false, 0, 2, true, [2, 12], zt_X2_hasOneInAnother) := rfl
theorem m_X2_chancePart : zm_ms 22 = some (RX2, yX2_chancePart, cX2_chancePart, 3, (some .long), false, 2, 2, false, [], zt_X2_chancePart) := rfl
theorem m_X2_meanPart : zm_ms 23 = some (RX2, yX2_meanPart, cX2_meanPart, 5, (some .long), false, 1, 2, false, [9, 25], zt_X2_meanPart) := rfl
theorem m_X2_setApart : zm_ms 24 = some (RX2, yX2_setApart, cX2_setApart, 3, none, false, 0, 2, false, [2, 14, 50, 69], zt_X2_setApart) := rfl
theorem m_X2_weight : zm_ms 25 = some (RX2, yX2_weight, cX2_weight, 4, (some .long), false, 1, 2, false, [], zt_X2_weight) := rfl
theorem m_X2_wholeWeight : zm_ms 26 = some (RX2, yX2_wholeWeight, cX2_wholeWeight, 4, (some .long), false, 0, 2, false, [4], zt_X2_wholeWeight) := rfl
theorem m_X2_minor : zm_ms 27 = some (RX2, yX2_minor, cX2_minor, 8, (some .long), true, 4, 0, false, [27], zt_X2_minor) := rfl
theorem m_X2_rowsWithin : zm_ms 28 = some (RX2, yX2_rowsWithin, cX2_rowsWithin, 5, (some .int), false, 2, 2, false, [24], zt_X2_rowsWithin) := rfl
theorem m_X2_countEndings : zm_ms 29 = some (RX2, yX2_countEndings, cX2_countEndings, 4, none, false, 1, 2, false, [9, 41, 62], zt_X2_countEndings) := rfl
theorem m_X2_endingsAt : zm_ms 30 = some (RX2, yX2_endingsAt, cX2_endingsAt, 8, (some .int), false, 2, 2, false, [10, 29, 59], zt_X2_endingsAt) := rfl
theorem m_X3_isPart : zm_ms 31 = some (RX3, yX3_isPart, cX3_isPart, 1, (some .boolean), true, 1, 0, true, [], zt_X3_isPart) := rfl
theorem m_X3_partOf : zm_ms 32 = some (RX3, yX3_partOf, cX3_partOf, 9, (some .long), true, 3, 0, false, [], zt_X3_partOf) := rfl
theorem m_X3_commonDivisor : zm_ms 33 = some (RX3, yX3_commonDivisor, cX3_commonDivisor, 11, (some .long), true, 2, 0, false, [9], zt_X3_commonDivisor) := rfl
theorem m_X4_share : zm_ms 34 = some (RX4, yX4_share, cX4_share, 3, (some .int), true, 3, 0, false, [], zt_X4_share) := rfl
theorem m_X4_chancePart : zm_ms 35 = some (RX4, yX4_chancePart, cX4_chancePart, 5, (some .long), true, 4, 0, false, [], zt_X4_chancePart) := rfl
theorem m_X4_beats : zm_ms 36 = some (RX4, yX4_beats, cX4_beats, 3, (some .boolean), true, 3, 0, true, [], zt_X4_beats) := rfl
theorem m_X4_bestAnswer : zm_ms 37 = some (RX4, yX4_bestAnswer, cX4_bestAnswer, 10, (some .int), true, 2, 0, false, [27, 99], zt_X4_bestAnswer) := rfl
theorem m_X5_wordAt : zm_ms 38 = some (RX5, yX5_wordAt, cX5_wordAt, 2, (some .int), false, 1, 3, false, [], zt_X5_wordAt) := rfl
theorem m_X5_find : zm_ms 39 = some (RX5, yX5_find, cX5_find, 5, (some .int), false, 1, 3, false, [12, 27, 44, 51, 81], zt_X5_find) := rfl
theorem m_X5_closes : zm_ms 40 = some (RX5, yX5_closes, cX5_closes, 5, (some .boolean), true, 4, 0, true, [34, 64], zt_X5_closes) := rfl
theorem m_X5_isBeaten : zm_ms 41 = some (RX5, yX5_isBeaten, cX5_isBeaten, 3, (some .boolean), false, 2, 3, true, [], zt_X5_isBeaten) := rfl
theorem m_X6_copyFrom : zm_ms 42 = some (RX6, yX6_copyFrom, cX6_copyFrom, 2, none, false, 1, 4, false, [], zt_X6_copyFrom) := rfl
theorem m_X6_hasPlace : zm_ms 43 = some (RX6, yX6_hasPlace, cX6_hasPlace, 2, (some .boolean), false, 1, 4, true, [], zt_X6_hasPlace) := rfl
theorem m_X6_letterAt : zm_ms 44 = some (RX6, yX6_letterAt, cX6_letterAt, 2, (some .int), false, 1, 4, false, [5], zt_X6_letterAt) := rfl
theorem m_X6_append : zm_ms 45 = some (RX6, yX6_append, cX6_append, 2, (some .boolean), false, 1, 4, true, [], zt_X6_append) := rfl
theorem m_X6_dropLast : zm_ms 46 = some (RX6, yX6_dropLast, cX6_dropLast, 2, none, false, 1, 4, false, [], zt_X6_dropLast) := rfl
theorem m_X6_putOneOn : zm_ms 47 = some (RX6, yX6_putOneOn, cX6_putOneOn, 3, none, false, 1, 4, false, [2, 31], zt_X6_putOneOn) := rfl
theorem m_X6_endBits : zm_ms 48 = some (RX6, yX6_endBits, cX6_endBits, 6, (some .long), false, 1, 4, false, [8], zt_X6_endBits) := rfl
theorem m_X6_firstEnd : zm_ms 49 = some (RX6, yX6_firstEnd, cX6_firstEnd, 4, (some .int), false, 1, 4, false, [4], zt_X6_firstEnd) := rfl
theorem m_X6_matched : zm_ms 50 = some (RX6, yX6_matched, cX6_matched, 4, (some .int), false, 1, 4, false, [9, 38], zt_X6_matched) := rfl
theorem m_X7_append : zm_ms 51 = some (RX7, yX7_append, cX7_append, 2, (some .boolean), false, 1, 5, true, [], zt_X7_append) := rfl
theorem m_X7_read : zm_ms 52 = some (RX7, yX7_read, cX7_read, 3, (some .int), false, 1, 5, false, [17, 57], zt_X7_read) := rfl
theorem m_X7_goesOn : zm_ms 53 = some (RX7, yX7_goesOn, cX7_goesOn, 4, (some .boolean), false, 2, 5, true, [], zt_X7_goesOn) := rfl
theorem m_X7_addLetters : zm_ms 54 = some (RX7, yX7_addLetters, cX7_addLetters, 4, (some .boolean), false, 2, 5, true, [17], zt_X7_addLetters) := rfl
theorem m_X7_endClause : zm_ms 55 = some (RX7, yX7_endClause, cX7_endClause, 1, (some .boolean), false, 0, 5, true, [], zt_X7_endClause) := rfl
theorem m_X8_tens : zm_ms 56 = some (RX8, yX8_tens, cX8_tens, 1, (some .int), true, 1, 0, false, [], zt_X8_tens) := rfl
theorem m_X8_length : zm_ms 57 = some (RX8, yX8_length, cX8_length, 1, (some .int), true, 1, 0, false, [], zt_X8_length) := rfl
theorem m_X8_isWord : zm_ms 58 = some (RX8, yX8_isWord, cX8_isWord, 4, (some .boolean), true, 2, 0, true, [20], zt_X8_isWord) := rfl
theorem m_X8_letterAt : zm_ms 59 = some (RX8, yX8_letterAt, cX8_letterAt, 2, (some .int), true, 2, 0, false, [], zt_X8_letterAt) := rfl
theorem m_X8_firstLetters : zm_ms 60 = some (RX8, yX8_firstLetters, cX8_firstLetters, 2, (some .int), true, 2, 0, false, [], zt_X8_firstLetters) := rfl
theorem m_X8_lastLetters : zm_ms 61 = some (RX8, yX8_lastLetters, cX8_lastLetters, 2, (some .int), true, 2, 0, false, [], zt_X8_lastLetters) := rfl
theorem m_X8_grown : zm_ms 62 = some (RX8, yX8_grown, cX8_grown, 2, (some .int), true, 2, 0, false, [], zt_X8_grown) := rfl
theorem m_X8_endsWith : zm_ms 63 = some (RX8, yX8_endsWith, cX8_endsWith, 2, (some .boolean), true, 2, 0, true, [], zt_X8_endsWith) := rfl
theorem m_X8_overlapBits : zm_ms 64 = some (RX8, yX8_overlapBits, cX8_overlapBits, 6, (some .int), true, 2, 0, false, [20], zt_X8_overlapBits) := rfl
theorem m_X8_numberOn : zm_ms 65 = some (RX8, yX8_numberOn, cX8_numberOn, 7, (some .int), true, 3, 0, false, [15], zt_X8_numberOn) := rfl
theorem m_X8_standsIn : zm_ms 66 = some (RX8, yX8_standsIn, cX8_standsIn, 5, (some .boolean), true, 2, 0, true, [21], zt_X8_standsIn) := rfl
theorem m_X8_clash : zm_ms 67 = some (RX8, yX8_clash, cX8_clash, 2, (some .boolean), true, 2, 0, true, [], zt_X8_clash) := rfl
theorem m_X8_oneOn : zm_ms 68 = some (RX8, yX8_oneOn, cX8_oneOn, 2, (some .int), true, 2, 0, false, [], zt_X8_oneOn) := rfl
theorem m_X8_turned : zm_ms 69 = some (RX8, yX8_turned, cX8_turned, 3, (some .int), true, 1, 0, false, [9], zt_X8_turned) := rfl
theorem m_X8_shifted : zm_ms 70 = some (RX8, yX8_shifted, cX8_shifted, 5, (some .int), true, 2, 0, false, [10], zt_X8_shifted) := rfl
theorem m_X8_doubled : zm_ms 71 = some (RX8, yX8_doubled, cX8_doubled, 1, (some .int), true, 1, 0, false, [], zt_X8_doubled) := rfl
theorem m_X8_answering : zm_ms 72 = some (RX8, yX8_answering, cX8_answering, 3, (some .int), true, 2, 0, false, [], zt_X8_answering) := rfl
theorem m_X8_ledBy : zm_ms 73 = some (RX8, yX8_ledBy, cX8_ledBy, 2, (some .int), true, 2, 0, false, [], zt_X8_ledBy) := rfl
theorem m_X8_least : zm_ms 74 = some (RX8, yX8_least, cX8_least, 1, (some .int), true, 1, 0, false, [], zt_X8_least) := rfl
theorem m_X8_following : zm_ms 75 = some (RX8, yX8_following, cX8_following, 6, (some .int), true, 2, 0, false, [10], zt_X8_following) := rfl
theorem m_X9_sides : zm_ms 76 = some (RX9, yX9_sides, cX9_sides, 3, (some .int), false, 1, 6, false, [25], zt_X9_sides) := rfl
theorem m_X9_feed : zm_ms 77 = some (RX9, yX9_feed, cX9_feed, 2, (some .int), false, 1, 6, false, [22], zt_X9_feed) := rfl
theorem m_X9_words : zm_ms 78 = some (RX9, yX9_words, cX9_words, 3, (some .int), false, 0, 6, false, [14, 58], zt_X9_words) := rfl
theorem m_X9_becomes : zm_ms 79 = some (RX9, yX9_becomes, cX9_becomes, 4, (some .int), false, 2, 6, false, [8, 24], zt_X9_becomes) := rfl
theorem m_X9_of : zm_ms 80 = some (RX9, yX9_of, cX9_of, 4, (some .int), false, 2, 6, false, [8, 21], zt_X9_of) := rfl
theorem m_X9_overlaps : zm_ms 81 = some (RX9, yX9_overlaps, cX9_overlaps, 3, (some .int), false, 2, 6, false, [8, 19, 32], zt_X9_overlaps) := rfl
theorem m_X9_number : zm_ms 82 = some (RX9, yX9_number, cX9_number, 3, (some .int), false, 2, 6, false, [8, 19, 32, 40], zt_X9_number) := rfl
theorem m_X9_isIn : zm_ms 83 = some (RX9, yX9_isIn, cX9_isIn, 3, (some .int), false, 2, 6, false, [8, 19, 32], zt_X9_isIn) := rfl
theorem m_X9_chance : zm_ms 84 = some (RX9, yX9_chance, cX9_chance, 4, (some .long), false, 3, 6, false, [8, 26, 41, 49], zt_X9_chance) := rfl
theorem m_X9_answered : zm_ms 85 = some (RX9, yX9_answered, cX9_answered, 4, (some .long), false, 2, 6, false, [15, 30, 42], zt_X9_answered) := rfl
theorem m_X9_trail : zm_ms 86 = some (RX9, yX9_trail, cX9_trail, 3, (some .int), false, 2, 6, false, [8], zt_X9_trail) := rfl
theorem m_X9_ring : zm_ms 87 = some (RX9, yX9_ring, cX9_ring, 3, (some .int), false, 1, 6, false, [11], zt_X9_ring) := rfl
theorem m_X9_field : zm_ms 88 = some (RX9, yX9_field, cX9_field, 4, (some .long), false, 3, 6, false, [5, 24], zt_X9_field) := rfl
theorem m_X9_mean : zm_ms 89 = some (RX9, yX9_mean, cX9_mean, 3, (some .long), false, 2, 6, false, [12], zt_X9_mean) := rfl
theorem m_X9_within : zm_ms 90 = some (RX9, yX9_within, cX9_within, 4, (some .int), false, 3, 6, false, [8, 29, 58, 65], zt_X9_within) := rfl
theorem m_X9_cast : zm_ms 91 = some (RX9, yX9_cast, cX9_cast, 2, (some .int), false, 1, 6, false, [30], zt_X9_cast) := rfl
theorem m_X9_casts : zm_ms 92 = some (RX9, yX9_casts, cX9_casts, 5, (some .int), false, 2, 6, false, [19, 29], zt_X9_casts) := rfl
theorem m_X9_wipe : zm_ms 93 = some (RX9, yX9_wipe, cX9_wipe, 2, (some .int), false, 0, 6, false, [], zt_X9_wipe) := rfl
theorem m_X9_strip : zm_ms 94 = some (RX9, yX9_strip, cX9_strip, 2, (some .int), false, 1, 6, false, [11], zt_X9_strip) := rfl
theorem m_X9_ends : zm_ms 95 = some (RX9, yX9_ends, cX9_ends, 2, (some .long), false, 1, 6, false, [8], zt_X9_ends) := rfl
theorem m_X9_seen : zm_ms 96 = some (RX9, yX9_seen, cX9_seen, 4, (some .int), false, 2, 6, false, [8, 21], zt_X9_seen) := rfl
theorem m_X9_who : zm_ms 97 = some (RX9, yX9_who, cX9_who, 1, (some .int), false, 0, 6, false, [], zt_X9_who) := rfl
theorem m_X9_were : zm_ms 98 = some (RX9, yX9_were, cX9_were, 5, (some .int), false, 2, 6, false, [11, 22, 46], zt_X9_were) := rfl
theorem m_X9_player : zm_ms 99 = some (RX9, yX9_player, cX9_player, 3, (some .int), false, 2, 6, false, [18, 32], zt_X9_player) := rfl
theorem m_X9_playerOf : zm_ms 100 = some (RX9, yX9_playerOf, cX9_playerOf, 3, (some .int), false, 2, 6, false, [8], zt_X9_playerOf) := rfl
theorem m_X9_pick : zm_ms 101 = some (RX9, yX9_pick, cX9_pick, 4, (some .int), false, 3, 6, false, [9], zt_X9_pick) := rfl
theorem m_X9_match : zm_ms 102 = some (RX9, yX9_match, cX9_match, 5, (some .long), false, 3, 6, false, [16, 31, 45], zt_X9_match) := rfl
theorem m_X9_duel : zm_ms 103 = some (RX9, yX9_duel, cX9_duel, 7, (some .int), false, 4, 6, false, [9, 33, 52, 77], zt_X9_duel) := rfl
theorem m_X9_odds : zm_ms 104 = some (RX9, yX9_odds, cX9_odds, 10, (some .long), false, 5, 6, false, [30, 45, 77, 106], zt_X9_odds) := rfl
theorem m_X9_plan : zm_ms 105 = some (RX9, yX9_plan, cX9_plan, 3, (some .int), false, 2, 6, false, [37, 52], zt_X9_plan) := rfl
theorem m_X9_behind : zm_ms 106 = some (RX9, yX9_behind, cX9_behind, 3, (some .int), false, 1, 6, false, [11, 41, 52], zt_X9_behind) := rfl
theorem m_X9_write : zm_ms 107 = some (RX9, yX9_write, cX9_write, 2, (some .int), false, 1, 6, false, [18], zt_X9_write) := rfl
theorem m_X9_paper : zm_ms 108 = some (RX9, yX9_paper, cX9_paper, 2, (some .int), false, 1, 6, false, [], zt_X9_paper) := rfl
theorem m_X9_judge : zm_ms 109 = some (RX9, yX9_judge, cX9_judge, 4, (some .int), false, 1, 6, false, [4, 23, 47, 68], zt_X9_judge) := rfl
theorem m_X9_list : zm_ms 110 = some (RX9, yX9_list, cX9_list, 3, (some .int), false, 2, 6, false, [4], zt_X9_list) := rfl
theorem m_X9_put : zm_ms 111 = some (RX9, yX9_put, cX9_put, 4, (some .int), false, 3, 6, false, [4, 27], zt_X9_put) := rfl
theorem m_X9_get : zm_ms 112 = some (RX9, yX9_get, cX9_get, 3, (some .long), false, 2, 6, false, [13], zt_X9_get) := rfl
theorem m_X9_image : zm_ms 113 = some (RX9, yX9_image, cX9_image, 1, (some .int), false, 0, 6, false, [11], zt_X9_image) := rfl
theorem m_X9_undo : zm_ms 114 = some (RX9, yX9_undo, cX9_undo, 1, (some .int), false, 0, 6, false, [21], zt_X9_undo) := rfl
theorem m_X9_count : zm_ms 115 = some (RX9, yX9_count, cX9_count, 2, (some .int), false, 1, 6, false, [], zt_X9_count) := rfl
theorem m_X9_trailLength : zm_ms 116 = some (RX9, yX9_trailLength, cX9_trailLength, 6, (some .int), false, 2, 6, false, [9, 39], zt_X9_trailLength) := rfl
theorem m_X9_isRacingField : zm_ms 117 = some (RX9, yX9_isRacingField, cX9_isRacingField, 3, (some .boolean), false, 1, 6, true, [17, 42], zt_X9_isRacingField) := rfl
theorem m_X9_placeInSet : zm_ms 118 = some (RX9, yX9_placeInSet, cX9_placeInSet, 2, (some .int), true, 2, 0, false, [], zt_X9_placeInSet) := rfl
theorem m_X9_mostOfRow : zm_ms 119 = some (RX9, yX9_mostOfRow, cX9_mostOfRow, 1, (some .int), true, 1, 0, false, [], zt_X9_mostOfRow) := rfl
theorem m_X9_writeStrip : zm_ms 120 = some (RX9, yX9_writeStrip, cX9_writeStrip, 2, (some .int), false, 0, 6, false, [16, 50], zt_X9_writeStrip) := rfl
theorem m_X9_writeWord : zm_ms 121 = some (RX9, yX9_writeWord, cX9_writeWord, 3, (some .int), false, 1, 6, false, [5, 10, 37], zt_X9_writeWord) := rfl
theorem m_X9_signOf : zm_ms 122 = some (RX9, yX9_signOf, cX9_signOf, 1, (some .int), true, 1, 0, false, [], zt_X9_signOf) := rfl
theorem m_X9_hasList : zm_ms 123 = some (RX9, yX9_hasList, cX9_hasList, 1, (some .boolean), true, 1, 0, true, [], zt_X9_hasList) := rfl
theorem m_X9_hasListPlace : zm_ms 124 = some (RX9, yX9_hasListPlace, cX9_hasListPlace, 3, (some .boolean), false, 2, 6, true, [], zt_X9_hasListPlace) := rfl
theorem m_X10_in : zm_ms 125 = some (RX10, yX10_in, cX10_in, 3, (some .boolean), true, 3, 0, true, [], zt_X10_in) := rfl
theorem m_X10_isWord : zm_ms 126 = some (RX10, yX10_isWord, cX10_isWord, 2, (some .boolean), false, 1, 7, true, [], zt_X10_isWord) := rfl
theorem m_X10_isPart : zm_ms 127 = some (RX10, yX10_isPart, cX10_isPart, 1, (some .boolean), true, 1, 0, true, [], zt_X10_isPart) := rfl
theorem m_X10_isList : zm_ms 128 = some (RX10, yX10_isList, cX10_isList, 1, (some .boolean), true, 1, 0, true, [], zt_X10_isList) := rfl
theorem m_X10_ten : zm_ms 129 = some (RX10, yX10_ten, cX10_ten, 3, (some .int), true, 1, 0, false, [4], zt_X10_ten) := rfl
theorem m_X10_sizeOf : zm_ms 130 = some (RX10, yX10_sizeOf, cX10_sizeOf, 3, (some .int), true, 1, 0, false, [4], zt_X10_sizeOf) := rfl
theorem m_X10_letterOf : zm_ms 131 = some (RX10, yX10_letterOf, cX10_letterOf, 2, (some .int), true, 2, 0, false, [], zt_X10_letterOf) := rfl
theorem m_X10_hasThird : zm_ms 132 = some (RX10, yX10_hasThird, cX10_hasThird, 2, (some .boolean), true, 1, 0, true, [2], zt_X10_hasThird) := rfl
theorem m_X10_isSuch : zm_ms 133 = some (RX10, yX10_isSuch, cX10_isSuch, 3, (some .boolean), false, 1, 7, true, [17], zt_X10_isSuch) := rfl
theorem m_X10_on : zm_ms 134 = some (RX10, yX10_on, cX10_on, 2, (some .int), false, 1, 7, false, [], zt_X10_on) := rfl
theorem m_X10_overlap : zm_ms 135 = some (RX10, yX10_overlap, cX10_overlap, 6, (some .int), true, 2, 0, false, [20], zt_X10_overlap) := rfl
theorem m_X10_numberOf : zm_ms 136 = some (RX10, yX10_numberOf, cX10_numberOf, 7, (some .int), false, 2, 7, false, [15], zt_X10_numberOf) := rfl
theorem m_X10_stands : zm_ms 137 = some (RX10, yX10_stands, cX10_stands, 4, (some .boolean), true, 2, 0, true, [10], zt_X10_stands) := rfl
theorem m_X10_areApart : zm_ms 138 = some (RX10, yX10_areApart, cX10_areApart, 2, (some .boolean), true, 2, 0, true, [], zt_X10_areApart) := rfl
theorem m_X10_weight : zm_ms 139 = some (RX10, yX10_weight, cX10_weight, 3, (some .int), false, 2, 7, false, [], zt_X10_weight) := rfl
theorem m_X10_beats : zm_ms 140 = some (RX10, yX10_beats, cX10_beats, 3, (some .boolean), false, 2, 7, true, [], zt_X10_beats) := rfl
theorem m_X10_bestAnswer : zm_ms 141 = some (RX10, yX10_bestAnswer, cX10_bestAnswer, 9, (some .int), false, 1, 7, false, [16], zt_X10_bestAnswer) := rfl
theorem m_X10_lowest : zm_ms 142 = some (RX10, yX10_lowest, cX10_lowest, 11, (some .long), true, 3, 0, false, [28], zt_X10_lowest) := rfl
theorem m_X10_chanceOf : zm_ms 143 = some (RX10, yX10_chanceOf, cX10_chanceOf, 5, (some .long), false, 3, 7, false, [], zt_X10_chanceOf) := rfl
theorem m_X10_sides : zm_ms 144 = some (RX10, yX10_sides, cX10_sides, 3, (some .int), false, 1, 7, false, [6, 19, 50], zt_X10_sides) := rfl
theorem m_X10_feed : zm_ms 145 = some (RX10, yX10_feed, cX10_feed, 2, (some .int), false, 1, 7, false, [7], zt_X10_feed) := rfl
theorem m_X10_sign : zm_ms 146 = some (RX10, yX10_sign, cX10_sign, 2, (some .int), false, 1, 7, false, [], zt_X10_sign) := rfl
theorem m_X10_reads : zm_ms 147 = some (RX10, yX10_reads, cX10_reads, 8, (some .int), false, 0, 7, false, [4, 9, 14, 28, 105], zt_X10_reads) := rfl
theorem m_X10_words : zm_ms 148 = some (RX10, yX10_words, cX10_words, 3, (some .int), false, 0, 7, false, [4, 32], zt_X10_words) := rfl
theorem m_X10_becomes : zm_ms 149 = some (RX10, yX10_becomes, cX10_becomes, 4, (some .int), false, 2, 7, false, [15], zt_X10_becomes) := rfl
theorem m_X10_of : zm_ms 150 = some (RX10, yX10_of, cX10_of, 4, (some .int), false, 2, 7, false, [5], zt_X10_of) := rfl
theorem m_X10_overlaps : zm_ms 151 = some (RX10, yX10_overlaps, cX10_overlaps, 3, (some .int), false, 2, 7, false, [13], zt_X10_overlaps) := rfl
theorem m_X10_number : zm_ms 152 = some (RX10, yX10_number, cX10_number, 3, (some .int), false, 2, 7, false, [13], zt_X10_number) := rfl
theorem m_X10_isIn : zm_ms 153 = some (RX10, yX10_isIn, cX10_isIn, 3, (some .int), false, 2, 7, false, [13], zt_X10_isIn) := rfl
theorem m_X10_chance : zm_ms 154 = some (RX10, yX10_chance, cX10_chance, 4, (some .long), false, 3, 7, false, [20, 38], zt_X10_chance) := rfl
theorem m_X10_answered : zm_ms 155 = some (RX10, yX10_answered, cX10_answered, 4, (some .long), false, 2, 7, false, [12], zt_X10_answered) := rfl
theorem m_X10_trail : zm_ms 156 = some (RX10, yX10_trail, cX10_trail, 6, (some .int), false, 2, 7, false, [14, 29, 32], zt_X10_trail) := rfl
theorem m_X10_rings : zm_ms 157 = some (RX10, yX10_rings, cX10_rings, 6, (some .boolean), false, 2, 7, true, [36, 84], zt_X10_rings) := rfl
theorem m_X10_ring : zm_ms 158 = some (RX10, yX10_ring, cX10_ring, 3, (some .int), false, 1, 7, false, [2, 39], zt_X10_ring) := rfl
theorem m_X10_sets : zm_ms 159 = some (RX10, yX10_sets, cX10_sets, 4, (some .boolean), false, 1, 7, true, [23, 30], zt_X10_sets) := rfl
theorem m_X10_isField : zm_ms 160 = some (RX10, yX10_isField, cX10_isField, 3, (some .boolean), false, 0, 7, true, [2, 12], zt_X10_isField) := rfl
theorem m_X10_square : zm_ms 161 = some (RX10, yX10_square, cX10_square, 9, (some .long), false, 3, 7, false, [16], zt_X10_square) := rfl
theorem m_X10_fills : zm_ms 162 = some (RX10, yX10_fills, cX10_fills, 7, none, false, 1, 7, false, [7, 15, 74], zt_X10_fills) := rfl
theorem m_X10_solved : zm_ms 163 = some (RX10, yX10_solved, cX10_solved, 5, (some .long), false, 2, 7, false, [5, 23], zt_X10_solved) := rfl
theorem m_X10_field : zm_ms 164 = some (RX10, yX10_field, cX10_field, 5, (some .long), false, 3, 7, false, [5, 57], zt_X10_field) := rfl
theorem m_X10_mean : zm_ms 165 = some (RX10, yX10_mean, cX10_mean, 3, (some .long), false, 2, 7, false, [5, 31], zt_X10_mean) := rfl
theorem m_X10_fourOf : zm_ms 166 = some (RX10, yX10_fourOf, cX10_fourOf, 3, (some .int), true, 1, 0, false, [4], zt_X10_fourOf) := rfl
theorem m_X10_within : zm_ms 167 = some (RX10, yX10_within, cX10_within, 10, (some .int), false, 3, 7, false, [13, 60, 95, 114, 139, 165, 185, 251], zt_X10_within) := rfl
theorem m_X10_endsBy : zm_ms 168 = some (RX10, yX10_endsBy, cX10_endsBy, 4, (some .int), false, 1, 7, false, [2, 36], zt_X10_endsBy) := rfl
theorem m_X10_cast : zm_ms 169 = some (RX10, yX10_cast, cX10_cast, 2, (some .int), false, 1, 7, false, [9], zt_X10_cast) := rfl
theorem m_X10_drawn : zm_ms 170 = some (RX10, yX10_drawn, cX10_drawn, 2, (some .int), false, 1, 7, false, [], zt_X10_drawn) := rfl
theorem m_X10_casts : zm_ms 171 = some (RX10, yX10_casts, cX10_casts, 5, (some .int), false, 2, 7, false, [18, 62], zt_X10_casts) := rfl
theorem m_X10_wipe : zm_ms 172 = some (RX10, yX10_wipe, cX10_wipe, 2, (some .int), false, 0, 7, false, [], zt_X10_wipe) := rfl
theorem m_X10_strip : zm_ms 173 = some (RX10, yX10_strip, cX10_strip, 2, (some .int), false, 1, 7, false, [11], zt_X10_strip) := rfl
theorem m_X10_endsAt : zm_ms 174 = some (RX10, yX10_endsAt, cX10_endsAt, 5, (some .boolean), false, 2, 7, true, [17], zt_X10_endsAt) := rfl
theorem m_X10_ends : zm_ms 175 = some (RX10, yX10_ends, cX10_ends, 5, (some .long), false, 1, 7, false, [17], zt_X10_ends) := rfl
theorem m_X10_firstOf : zm_ms 176 = some (RX10, yX10_firstOf, cX10_firstOf, 3, (some .int), false, 1, 7, false, [2], zt_X10_firstOf) := rfl
theorem m_X10_matched : zm_ms 177 = some (RX10, yX10_matched, cX10_matched, 5, (some .int), false, 1, 7, false, [4, 12, 21], zt_X10_matched) := rfl
theorem m_X10_seen : zm_ms 178 = some (RX10, yX10_seen, cX10_seen, 3, (some .int), false, 2, 7, false, [14], zt_X10_seen) := rfl
theorem m_X10_who : zm_ms 179 = some (RX10, yX10_who, cX10_who, 5, (some .int), false, 0, 7, false, [8, 21, 51], zt_X10_who) := rfl
theorem m_X10_were : zm_ms 180 = some (RX10, yX10_were, cX10_were, 6, (some .int), false, 2, 7, false, [19, 37], zt_X10_were) := rfl
theorem m_X10_player : zm_ms 181 = some (RX10, yX10_player, cX10_player, 3, (some .int), false, 2, 7, false, [14], zt_X10_player) := rfl
theorem m_X10_isPlayer : zm_ms 182 = some (RX10, yX10_isPlayer, cX10_isPlayer, 2, (some .boolean), false, 1, 7, true, [], zt_X10_isPlayer) := rfl
theorem m_X10_turned : zm_ms 183 = some (RX10, yX10_turned, cX10_turned, 3, (some .int), true, 1, 0, false, [4], zt_X10_turned) := rfl
theorem m_X10_shifted : zm_ms 184 = some (RX10, yX10_shifted, cX10_shifted, 4, (some .int), false, 1, 7, false, [4], zt_X10_shifted) := rfl
theorem m_X10_ahead : zm_ms 185 = some (RX10, yX10_ahead, cX10_ahead, 2, (some .int), true, 2, 0, false, [], zt_X10_ahead) := rfl
theorem m_X10_picks : zm_ms 186 = some (RX10, yX10_picks, cX10_picks, 5, (some .int), false, 2, 7, false, [], zt_X10_picks) := rfl
theorem m_X10_firstPick : zm_ms 187 = some (RX10, yX10_firstPick, cX10_firstPick, 2, (some .int), false, 1, 7, false, [], zt_X10_firstPick) := rfl
theorem m_X10_wins : zm_ms 188 = some (RX10, yX10_wins, cX10_wins, 5, (some .int), false, 1, 7, false, [11], zt_X10_wins) := rfl
theorem m_X10_playerOf : zm_ms 189 = some (RX10, yX10_playerOf, cX10_playerOf, 3, (some .int), false, 2, 7, false, [14], zt_X10_playerOf) := rfl
theorem m_X10_areTwo : zm_ms 190 = some (RX10, yX10_areTwo, cX10_areTwo, 3, (some .boolean), false, 2, 7, true, [], zt_X10_areTwo) := rfl
theorem m_X10_pick : zm_ms 191 = some (RX10, yX10_pick, cX10_pick, 5, (some .int), false, 3, 7, false, [], zt_X10_pick) := rfl
theorem m_X10_match : zm_ms 192 = some (RX10, yX10_match, cX10_match, 6, (some .long), false, 3, 7, false, [], zt_X10_match) := rfl
theorem m_X10_duels : zm_ms 193 = some (RX10, yX10_duels, cX10_duels, 7, (some .int), false, 3, 7, false, [9], zt_X10_duels) := rfl
theorem m_X10_duel : zm_ms 194 = some (RX10, yX10_duel, cX10_duel, 6, (some .int), false, 4, 7, false, [28, 48], zt_X10_duel) := rfl
theorem m_X10_odds : zm_ms 195 = some (RX10, yX10_odds, cX10_odds, 8, (some .long), false, 5, 7, false, [37, 68], zt_X10_odds) := rfl
theorem m_X10_plan : zm_ms 196 = some (RX10, yX10_plan, cX10_plan, 3, (some .int), false, 2, 7, false, [47], zt_X10_plan) := rfl
theorem m_X10_does : zm_ms 197 = some (RX10, yX10_does, cX10_does, 5, none, false, 2, 7, false, [80, 88, 114], zt_X10_does) := rfl
theorem m_X10_behind : zm_ms 198 = some (RX10, yX10_behind, cX10_behind, 4, (some .int), false, 1, 7, false, [6, 28, 43, 69, 130, 141], zt_X10_behind) := rfl
theorem m_X10_write : zm_ms 199 = some (RX10, yX10_write, cX10_write, 3, (some .int), false, 1, 7, false, [10, 37, 42, 81], zt_X10_write) := rfl
theorem m_X10_paper : zm_ms 200 = some (RX10, yX10_paper, cX10_paper, 2, (some .int), false, 1, 7, false, [11], zt_X10_paper) := rfl
theorem m_X10_judge : zm_ms 201 = some (RX10, yX10_judge, cX10_judge, 3, (some .int), false, 1, 7, false, [4, 23], zt_X10_judge) := rfl
theorem m_X10_list : zm_ms 202 = some (RX10, yX10_list, cX10_list, 4, (some .int), false, 2, 7, false, [4, 34], zt_X10_list) := rfl
theorem m_X10_put : zm_ms 203 = some (RX10, yX10_put, cX10_put, 4, (some .int), false, 3, 7, false, [4, 34], zt_X10_put) := rfl
theorem m_X10_get : zm_ms 204 = some (RX10, yX10_get, cX10_get, 3, (some .long), false, 2, 7, false, [4, 20], zt_X10_get) := rfl
theorem m_X10_image : zm_ms 205 = some (RX10, yX10_image, cX10_image, 2, (some .int), false, 0, 7, false, [57, 85, 114, 157], zt_X10_image) := rfl
theorem m_X10_undo : zm_ms 206 = some (RX10, yX10_undo, cX10_undo, 2, (some .int), false, 0, 7, false, [62, 90, 119, 162], zt_X10_undo) := rfl
theorem m_X10_count : zm_ms 207 = some (RX10, yX10_count, cX10_count, 2, (some .int), false, 1, 7, false, [], zt_X10_count) := rfl
theorem m_J6_bitCount_0f7a4 : zm_ms 208 = some (RJ6, yJ6_bitCount_0f7a4, cJ6_bitCount_0f7a4, 1, (some .int), true, 1, 0, false, [], zt_J6_bitCount_0f7a4) := rfl
theorem m_J13_bitCount_95d88 : zm_ms 209 = some (RJ13, yJ13_bitCount_95d88, cJ13_bitCount_95d88, 2, (some .int), true, 1, 0, false, [], zt_J13_bitCount_95d88) := rfl
theorem m_J7_fill_53178 : zm_ms 210 = some (RJ7, yJ7_fill_53178, cJ7_fill_53178, 4, none, true, 2, 0, false, [5], zt_J7_fill_53178) := rfl
theorem zm_C_eq {μ : Nat} {own : String} {y : MethodName} {cc : ByteArray} {nL : Nat} {ret : Option FieldType} {stt : Bool} {n ci : Nat} {rb : Bool} {cuts : List Nat} {T : zm_T} (hm : zm_ms μ = some (own, y, cc, nL, ret, stt, n, ci, rb, cuts, T)) (d : Nat) (as : List Value) (h : zm_H) (hl : Nat.ble (zm_ent as).length nL = true) : zC (d + 1) μ as h = zm_blk T cuts rb none (zC d) (zR d 10000000 μ) 3000 0 (zm_pad nL (zm_ent as)) [] h := by
  have hk : zR d 10000000 μ = zm_run T cuts rb none (zm_meth zm_ms d) 10000000 := by
    unfold zR
    rw [hm]
  rw [hk]
  show zm_meth zm_ms (d + 1) μ as h = _
  rw [zm_meth]
  simp only [hm, hl, cond_true]
theorem zm_R_eq {μ : Nat} {own : String} {y : MethodName} {cc : ByteArray} {nL : Nat} {ret : Option FieldType} {stt : Bool} {n ci : Nat} {rb : Bool} {cuts : List Nat} {T : zm_T} (hm : zm_ms μ = some (own, y, cc, nL, ret, stt, n, ci, rb, cuts, T)) (d f : Nat) (pc : Nat) (lv : zm_L) (st : List Value) (h : zm_H) : zR d (f + 1) μ pc lv st h = zm_blk T cuts rb none (zC d) (zR d f μ) 3000 pc lv st h := by
  have hk : ∀ f, zR d f μ = zm_run T cuts rb none (zm_meth zm_ms d) f := fun f => by
    unfold zR
    rw [hm]
  rw [hk, hk]
  rfl
end
section
/-! printed by wip/whole/links.py: the words that the tables link -/
def zm_cn : List String := [RX0, RX1, RX2, RX3, RX4, RX5, RX6, RX7, RX8, RX9, RX10, RJ6, RJ13, RJ9, RJ10, RJ7, RL]
theorem zm_uw {C : String} {T : u_T} {N : Nat} (ps : List Nat) (h : ((List.range N).all fun k => decide (lw_tbl[(ps[k]?).getD 0]? = some (u_lay C T k)) && goodWord (u_lay C T k)) = true) : ∀ w ∈ u_ws C T N, w ∈ zm_WL := by
  intro w hw
  obtain ⟨k, h1, h2⟩ := List.mem_map.mp hw
  have h3 := List.all_eq_true.mp h k h1
  simp only [Bool.and_eq_true, decide_eq_true_eq] at h3
  rw [← h2]
  exact zm_WL_in _ h3.1 h3.2
theorem zu_X0_b : ((List.range 10).all fun k => decide (lw_tbl[(([113, 115, 117, 119, 121, 123, 125, 127, 129, 131] : List Nat)[k]?).getD 0]? = some (u_lay RX0 TX0 k)) && goodWord (u_lay RX0 TX0 k)) = true := by decide +kernel
theorem zu_X0 : ∀ w ∈ u_ws RX0 TX0 10, w ∈ zm_WL := zm_uw _ zu_X0_b
theorem zu_X1_b : ((List.range 2).all fun k => decide (lw_tbl[(([215, 217] : List Nat)[k]?).getD 0]? = some (u_lay RX1 TX1 k)) && goodWord (u_lay RX1 TX1 k)) = true := by decide +kernel
theorem zu_X1 : ∀ w ∈ u_ws RX1 TX1 2, w ∈ zm_WL := zm_uw _ zu_X1_b
theorem zu_X2_b : ((List.range 6).all fun k => decide (lw_tbl[(([179, 181, 183, 185, 187, 189] : List Nat)[k]?).getD 0]? = some (u_lay RX2 TX2 k)) && goodWord (u_lay RX2 TX2 k)) = true := by decide +kernel
theorem zu_X2 : ∀ w ∈ u_ws RX2 TX2 6, w ∈ zm_WL := zm_uw _ zu_X2_b
theorem zu_X5_b : ((List.range 2).all fun k => decide (lw_tbl[(([200, 202] : List Nat)[k]?).getD 0]? = some (u_lay RX5 TX5 k)) && goodWord (u_lay RX5 TX5 k)) = true := by decide +kernel
theorem zu_X5 : ∀ w ∈ u_ws RX5 TX5 2, w ∈ zm_WL := zm_uw _ zu_X5_b
theorem zu_X6_b : ((List.range 2).all fun k => decide (lw_tbl[(([85, 87] : List Nat)[k]?).getD 0]? = some (u_lay RX6 TX6 k)) && goodWord (u_lay RX6 TX6 k)) = true := by decide +kernel
theorem zu_X6 : ∀ w ∈ u_ws RX6 TX6 2, w ∈ zm_WL := zm_uw _ zu_X6_b
theorem zu_X7_b : ((List.range 6).all fun k => decide (lw_tbl[(([149, 151, 153, 155, 157, 159] : List Nat)[k]?).getD 0]? = some (u_lay RX7 TX7 k)) && goodWord (u_lay RX7 TX7 k)) = true := by decide +kernel
theorem zu_X7 : ∀ w ∈ u_ws RX7 TX7 6, w ∈ zm_WL := zm_uw _ zu_X7_b
theorem zu_X9_b : ((List.range 13).all fun k => decide (lw_tbl[(([236, 238, 240, 242, 244, 246, 248, 250, 252, 254, 256, 258, 260] : List Nat)[k]?).getD 0]? = some (u_lay RX9 TX9 k)) && goodWord (u_lay RX9 TX9 k)) = true := by decide +kernel
theorem zu_X9 : ∀ w ∈ u_ws RX9 TX9 13, w ∈ zm_WL := zm_uw _ zu_X9_b
theorem zu_X10_b : ((List.range 29).all fun k => decide (lw_tbl[(([831, 833, 835, 837, 839, 841, 843, 845, 847, 849, 851, 853, 855, 857, 859, 861, 863, 865, 867, 869, 871, 873, 875, 877, 879, 881, 883, 885, 887] : List Nat)[k]?).getD 0]? = some (u_lay RX10 TX10 k)) && goodWord (u_lay RX10 TX10 k)) = true := by decide +kernel
theorem zu_X10 : ∀ w ∈ u_ws RX10 TX10 29, w ∈ zm_WL := zm_uw _ zu_X10_b
theorem zm_fap {α : Type} {p : α → Prop} {a b : List α} (h1 : ∀ q ∈ a, p q) (h2 : ∀ q ∈ b, p q) : ∀ q ∈ a ++ b, p q := fun q h => (List.mem_append.mp h).elim (h1 q) (h2 q)
def zm_Fp (q : Nat × Nat × Nat × Nat) : Prop := ∃ (own C : String) (T : u_T) (N : Nat), zm_cn[q.1]? = some own ∧ vwCl[q.2.2.1]? = some (C, T, N) ∧ q.2.2.2 < N ∧ (∀ w ∈ u_ws C T N, w ∈ zm_WL) ∧ Jvm.Cond.fieldLink own q.2.1 (T q.2.2.2).1 (T q.2.2.2).2.1 (T q.2.2.2).2.2.1 ∈ zm_WL
def zm_Pp (q : Nat × Nat × Nat × Nat × Nat) : Prop := ∃ (own C : String) (T : u_T) (N : Nat) (ty0 : Nat → FieldType), zm_cn[q.1]? = some own ∧ vwCl[q.2.2.1]? = some (C, T, N) ∧ q.2.2.2.1 < N ∧ (∀ w ∈ u_ws C T N, w ∈ zm_WL) ∧ Jvm.Cond.fieldLink own q.2.1 (T q.2.2.2.1).1 (T q.2.2.2.1).2.1 (T q.2.2.2.1).2.2.1 ∈ zm_WL ∧ (∀ k, k < N → parseFieldDescriptor (T k).2.2.1 = some (ty0 k)) ∧ (∀ a, a < N → ∀ b, b < N → a ≠ b → (T a).2.1 ≠ (T b).2.1) ∧ (T q.2.2.2.1).2.2.2 = false ∧ ((ty0 q.2.2.2.1 = .int ∧ q.2.2.2.2 = 0) ∨ (ty0 q.2.2.2.1 = .boolean ∧ q.2.2.2.2 = 1))
def zm_Kp (q : Nat × Nat × Int) : Prop := ∃ own : String, zm_cn[q.1]? = some own ∧ Jvm.Cond.constant own q.2.1 (Int32.ofInt q.2.2) ∈ zm_WL
def zm_Jp (q : Nat × Nat × Int) : Prop := ∃ own : String, zm_cn[q.1]? = some own ∧ Jvm.Cond.constantLong own q.2.1 (Int64.ofInt q.2.2) ∈ zm_WL
def zm_Ap (q : Nat × Nat × Nat) : Prop := ∃ own : String, zm_cn[q.1]? = some own ∧ (9990 ≤ q.2.2 → q.2.2 = 9999 ∨ q.2.2 = 9998 ∨ q.2.2 = 9997) ∧ (q.2.2 = 9999 → Jvm.Cond.methodLink own q.2.1 arraycopyName ∈ zm_WL ∧ Jvm.Cond.native arraycopyName ∈ zm_WL ∧ Jvm.Cond.static arraycopyName ∈ zm_WL ∧ Jvm.Cond.initialized "java/lang/System" ∈ zm_WL) ∧ (q.2.2 = 9998 → Jvm.Cond.methodLink own q.2.1 Lib.Math.min.name ∈ zm_WL ∧ Jvm.Cond.static Lib.Math.min.name ∈ zm_WL ∧ Jvm.Cond.initialized "java/lang/Math" ∈ zm_WL ∧ Jvm.Cond.code Lib.Math.min.name Lib.Math.min.code 2 (some .int) ∈ zm_WL) ∧ (q.2.2 = 9997 → Jvm.Cond.methodLink own q.2.1 Lib.Math.max.name ∈ zm_WL ∧ Jvm.Cond.static Lib.Math.max.name ∈ zm_WL ∧ Jvm.Cond.initialized "java/lang/Math" ∈ zm_WL ∧ Jvm.Cond.code Lib.Math.max.name Lib.Math.max.code 2 (some .int) ∈ zm_WL)
def zm_Mp (q : Nat × Nat × Nat) : Prop := ∃ (own o2 : String) (y : MethodName) (cc : ByteArray) (nL : Nat) (ret : Option FieldType) (stt : Bool) (n ci : Nat) (rb : Bool) (cuts : List Nat) (T : zm_T), zm_cn[q.1]? = some own ∧ zm_ms q.2.2 = some (o2, y, cc, nL, ret, stt, n, ci, rb, cuts, T) ∧ Jvm.Cond.methodLink own q.2.1 y ∈ zm_WL
theorem zl_F_0_0 : zm_Fp (9, 12, 6, 0) := ⟨RX9, RX9, TX9, 13, rfl, rfl, by decide, zu_X9, zm_WL_in 223 (by decide +kernel) rfl⟩
theorem zl_F_0_1 : zm_Fp (9, 18, 6, 1) := ⟨RX9, RX9, TX9, 13, rfl, rfl, by decide, zu_X9, zm_WL_in 224 (by decide +kernel) rfl⟩
theorem zl_F_0_2 : zm_Fp (9, 24, 6, 3) := ⟨RX9, RX9, TX9, 13, rfl, rfl, by decide, zu_X9, zm_WL_in 226 (by decide +kernel) rfl⟩
theorem zl_F_0_3 : zm_Fp (9, 28, 6, 4) := ⟨RX9, RX9, TX9, 13, rfl, rfl, by decide, zu_X9, zm_WL_in 227 (by decide +kernel) rfl⟩
theorem zl_F_0_4 : zm_Fp (9, 34, 6, 6) := ⟨RX9, RX9, TX9, 13, rfl, rfl, by decide, zu_X9, zm_WL_in 229 (by decide +kernel) rfl⟩
theorem zl_F_0_5 : zm_Fp (9, 37, 6, 7) := ⟨RX9, RX9, TX9, 13, rfl, rfl, by decide, zu_X9, zm_WL_in 230 (by decide +kernel) rfl⟩
theorem zl_F_0_6 : zm_Fp (9, 43, 6, 8) := ⟨RX9, RX9, TX9, 13, rfl, rfl, by decide, zu_X9, zm_WL_in 231 (by decide +kernel) rfl⟩
theorem zl_F_0_7 : zm_Fp (9, 50, 6, 9) := ⟨RX9, RX9, TX9, 13, rfl, rfl, by decide, zu_X9, zm_WL_in 232 (by decide +kernel) rfl⟩
theorem zl_F_0_8 : zm_Fp (9, 57, 6, 10) := ⟨RX9, RX9, TX9, 13, rfl, rfl, by decide, zu_X9, zm_WL_in 233 (by decide +kernel) rfl⟩
theorem zl_F_0_9 : zm_Fp (9, 64, 6, 11) := ⟨RX9, RX9, TX9, 13, rfl, rfl, by decide, zu_X9, zm_WL_in 234 (by decide +kernel) rfl⟩
theorem zl_F_0_10 : zm_Fp (9, 68, 6, 12) := ⟨RX9, RX9, TX9, 13, rfl, rfl, by decide, zu_X9, zm_WL_in 235 (by decide +kernel) rfl⟩
theorem zl_F_0_11 : zm_Fp (9, 81, 0, 0) := ⟨RX9, RX0, TX0, 10, rfl, rfl, by decide, zu_X0, zm_WL_in 93 (by decide +kernel) rfl⟩
theorem zl_F_0_12 : zm_Fp (9, 89, 5, 1) := ⟨RX9, RX7, TX7, 6, rfl, rfl, by decide, zu_X7, zm_WL_in 142 (by decide +kernel) rfl⟩
theorem zl_F_0_13 : zm_Fp (9, 96, 0, 2) := ⟨RX9, RX0, TX0, 10, rfl, rfl, by decide, zu_X0, zm_WL_in 100 (by decide +kernel) rfl⟩
theorem zl_F_0_14 : zm_Fp (9, 99, 5, 3) := ⟨RX9, RX7, TX7, 6, rfl, rfl, by decide, zu_X7, zm_WL_in 146 (by decide +kernel) rfl⟩
theorem zl_F_0_15 : zm_Fp (9, 102, 5, 2) := ⟨RX9, RX7, TX7, 6, rfl, rfl, by decide, zu_X7, zm_WL_in 144 (by decide +kernel) rfl⟩
def zm_FL0 : List (Nat × Nat × Nat × Nat) := [(9, 12, 6, 0), (9, 18, 6, 1), (9, 24, 6, 3), (9, 28, 6, 4), (9, 34, 6, 6), (9, 37, 6, 7), (9, 43, 6, 8), (9, 50, 6, 9), (9, 57, 6, 10), (9, 64, 6, 11), (9, 68, 6, 12), (9, 81, 0, 0), (9, 89, 5, 1), (9, 96, 0, 2), (9, 99, 5, 3), (9, 102, 5, 2)]
theorem zl_F_0 : ∀ q ∈ zm_FL0, zm_Fp q := List.forall_mem_cons.mpr ⟨zl_F_0_0, List.forall_mem_cons.mpr ⟨zl_F_0_1, List.forall_mem_cons.mpr ⟨zl_F_0_2, List.forall_mem_cons.mpr ⟨zl_F_0_3, List.forall_mem_cons.mpr ⟨zl_F_0_4, List.forall_mem_cons.mpr ⟨zl_F_0_5, List.forall_mem_cons.mpr ⟨zl_F_0_6, List.forall_mem_cons.mpr ⟨zl_F_0_7, List.forall_mem_cons.mpr ⟨zl_F_0_8, List.forall_mem_cons.mpr ⟨zl_F_0_9, List.forall_mem_cons.mpr ⟨zl_F_0_10, List.forall_mem_cons.mpr ⟨zl_F_0_11, List.forall_mem_cons.mpr ⟨zl_F_0_12, List.forall_mem_cons.mpr ⟨zl_F_0_13, List.forall_mem_cons.mpr ⟨zl_F_0_14, List.forall_mem_cons.mpr ⟨zl_F_0_15, fun _ h => absurd h List.not_mem_nil⟩⟩⟩⟩⟩⟩⟩⟩⟩⟩⟩⟩⟩⟩⟩⟩
theorem zl_F_1_0 : zm_Fp (9, 118, 0, 1) := ⟨RX9, RX0, TX0, 10, rfl, rfl, by decide, zu_X0, zm_WL_in 96 (by decide +kernel) rfl⟩
theorem zl_F_1_1 : zm_Fp (9, 196, 0, 3) := ⟨RX9, RX0, TX0, 10, rfl, rfl, by decide, zu_X0, zm_WL_in 102 (by decide +kernel) rfl⟩
theorem zl_F_1_2 : zm_Fp (9, 200, 4, 1) := ⟨RX9, RX6, TX6, 2, rfl, rfl, by decide, zu_X6, zm_WL_in 84 (by decide +kernel) rfl⟩
theorem zl_F_1_3 : zm_Fp (9, 210, 4, 0) := ⟨RX9, RX6, TX6, 2, rfl, rfl, by decide, zu_X6, zm_WL_in 81 (by decide +kernel) rfl⟩
theorem zl_F_1_4 : zm_Fp (9, 236, 0, 6) := ⟨RX9, RX0, TX0, 10, rfl, rfl, by decide, zu_X0, zm_WL_in 108 (by decide +kernel) rfl⟩
theorem zl_F_1_5 : zm_Fp (9, 242, 0, 4) := ⟨RX9, RX0, TX0, 10, rfl, rfl, by decide, zu_X0, zm_WL_in 104 (by decide +kernel) rfl⟩
theorem zl_F_1_6 : zm_Fp (9, 245, 0, 5) := ⟨RX9, RX0, TX0, 10, rfl, rfl, by decide, zu_X0, zm_WL_in 106 (by decide +kernel) rfl⟩
theorem zl_F_1_7 : zm_Fp (9, 270, 1, 0) := ⟨RX9, RX1, TX1, 2, rfl, rfl, by decide, zu_X1, zm_WL_in 212 (by decide +kernel) rfl⟩
theorem zl_F_1_8 : zm_Fp (9, 273, 1, 1) := ⟨RX9, RX1, TX1, 2, rfl, rfl, by decide, zu_X1, zm_WL_in 214 (by decide +kernel) rfl⟩
theorem zl_F_1_9 : zm_Fp (9, 280, 0, 9) := ⟨RX9, RX0, TX0, 10, rfl, rfl, by decide, zu_X0, zm_WL_in 112 (by decide +kernel) rfl⟩
theorem zl_F_1_10 : zm_Fp (9, 299, 6, 5) := ⟨RX9, RX9, TX9, 13, rfl, rfl, by decide, zu_X9, zm_WL_in 228 (by decide +kernel) rfl⟩
theorem zl_F_1_11 : zm_Fp (9, 311, 6, 2) := ⟨RX9, RX9, TX9, 13, rfl, rfl, by decide, zu_X9, zm_WL_in 225 (by decide +kernel) rfl⟩
theorem zl_F_1_12 : zm_Fp (0, 9, 0, 0) := ⟨RX0, RX0, TX0, 10, rfl, rfl, by decide, zu_X0, zm_WL_in 91 (by decide +kernel) rfl⟩
theorem zl_F_1_13 : zm_Fp (0, 15, 0, 1) := ⟨RX0, RX0, TX0, 10, rfl, rfl, by decide, zu_X0, zm_WL_in 95 (by decide +kernel) rfl⟩
theorem zl_F_1_14 : zm_Fp (0, 22, 0, 3) := ⟨RX0, RX0, TX0, 10, rfl, rfl, by decide, zu_X0, zm_WL_in 101 (by decide +kernel) rfl⟩
theorem zl_F_1_15 : zm_Fp (0, 26, 0, 4) := ⟨RX0, RX0, TX0, 10, rfl, rfl, by decide, zu_X0, zm_WL_in 103 (by decide +kernel) rfl⟩
def zm_FL1 : List (Nat × Nat × Nat × Nat) := [(9, 118, 0, 1), (9, 196, 0, 3), (9, 200, 4, 1), (9, 210, 4, 0), (9, 236, 0, 6), (9, 242, 0, 4), (9, 245, 0, 5), (9, 270, 1, 0), (9, 273, 1, 1), (9, 280, 0, 9), (9, 299, 6, 5), (9, 311, 6, 2), (0, 9, 0, 0), (0, 15, 0, 1), (0, 22, 0, 3), (0, 26, 0, 4)]
theorem zl_F_1 : ∀ q ∈ zm_FL1, zm_Fp q := List.forall_mem_cons.mpr ⟨zl_F_1_0, List.forall_mem_cons.mpr ⟨zl_F_1_1, List.forall_mem_cons.mpr ⟨zl_F_1_2, List.forall_mem_cons.mpr ⟨zl_F_1_3, List.forall_mem_cons.mpr ⟨zl_F_1_4, List.forall_mem_cons.mpr ⟨zl_F_1_5, List.forall_mem_cons.mpr ⟨zl_F_1_6, List.forall_mem_cons.mpr ⟨zl_F_1_7, List.forall_mem_cons.mpr ⟨zl_F_1_8, List.forall_mem_cons.mpr ⟨zl_F_1_9, List.forall_mem_cons.mpr ⟨zl_F_1_10, List.forall_mem_cons.mpr ⟨zl_F_1_11, List.forall_mem_cons.mpr ⟨zl_F_1_12, List.forall_mem_cons.mpr ⟨zl_F_1_13, List.forall_mem_cons.mpr ⟨zl_F_1_14, List.forall_mem_cons.mpr ⟨zl_F_1_15, fun _ h => absurd h List.not_mem_nil⟩⟩⟩⟩⟩⟩⟩⟩⟩⟩⟩⟩⟩⟩⟩⟩
theorem zl_F_2_0 : zm_Fp (0, 29, 0, 5) := ⟨RX0, RX0, TX0, 10, rfl, rfl, by decide, zu_X0, zm_WL_in 105 (by decide +kernel) rfl⟩
theorem zl_F_2_1 : zm_Fp (0, 32, 0, 7) := ⟨RX0, RX0, TX0, 10, rfl, rfl, by decide, zu_X0, zm_WL_in 109 (by decide +kernel) rfl⟩
theorem zl_F_2_2 : zm_Fp (0, 35, 0, 8) := ⟨RX0, RX0, TX0, 10, rfl, rfl, by decide, zu_X0, zm_WL_in 110 (by decide +kernel) rfl⟩
theorem zl_F_2_3 : zm_Fp (0, 38, 0, 2) := ⟨RX0, RX0, TX0, 10, rfl, rfl, by decide, zu_X0, zm_WL_in 97 (by decide +kernel) rfl⟩
theorem zl_F_2_4 : zm_Fp (0, 41, 0, 6) := ⟨RX0, RX0, TX0, 10, rfl, rfl, by decide, zu_X0, zm_WL_in 107 (by decide +kernel) rfl⟩
theorem zl_F_2_5 : zm_Fp (0, 44, 0, 9) := ⟨RX0, RX0, TX0, 10, rfl, rfl, by decide, zu_X0, zm_WL_in 111 (by decide +kernel) rfl⟩
theorem zl_F_2_6 : zm_Fp (0, 71, 4, 1) := ⟨RX0, RX6, TX6, 2, rfl, rfl, by decide, zu_X6, zm_WL_in 83 (by decide +kernel) rfl⟩
theorem zl_F_2_7 : zm_Fp (1, 10, 1, 0) := ⟨RX1, RX1, TX1, 2, rfl, rfl, by decide, zu_X1, zm_WL_in 211 (by decide +kernel) rfl⟩
theorem zl_F_2_8 : zm_Fp (1, 16, 1, 1) := ⟨RX1, RX1, TX1, 2, rfl, rfl, by decide, zu_X1, zm_WL_in 213 (by decide +kernel) rfl⟩
theorem zl_F_2_9 : zm_Fp (2, 9, 2, 0) := ⟨RX2, RX2, TX2, 6, rfl, rfl, by decide, zu_X2, zm_WL_in 173 (by decide +kernel) rfl⟩
theorem zl_F_2_10 : zm_Fp (2, 17, 2, 3) := ⟨RX2, RX2, TX2, 6, rfl, rfl, by decide, zu_X2, zm_WL_in 176 (by decide +kernel) rfl⟩
theorem zl_F_2_11 : zm_Fp (2, 20, 2, 4) := ⟨RX2, RX2, TX2, 6, rfl, rfl, by decide, zu_X2, zm_WL_in 177 (by decide +kernel) rfl⟩
theorem zl_F_2_12 : zm_Fp (2, 23, 2, 5) := ⟨RX2, RX2, TX2, 6, rfl, rfl, by decide, zu_X2, zm_WL_in 178 (by decide +kernel) rfl⟩
theorem zl_F_2_13 : zm_Fp (2, 26, 0, 0) := ⟨RX2, RX0, TX0, 10, rfl, rfl, by decide, zu_X0, zm_WL_in 92 (by decide +kernel) rfl⟩
theorem zl_F_2_14 : zm_Fp (2, 32, 2, 2) := ⟨RX2, RX2, TX2, 6, rfl, rfl, by decide, zu_X2, zm_WL_in 175 (by decide +kernel) rfl⟩
theorem zl_F_2_15 : zm_Fp (2, 33, 2, 1) := ⟨RX2, RX2, TX2, 6, rfl, rfl, by decide, zu_X2, zm_WL_in 174 (by decide +kernel) rfl⟩
def zm_FL2 : List (Nat × Nat × Nat × Nat) := [(0, 29, 0, 5), (0, 32, 0, 7), (0, 35, 0, 8), (0, 38, 0, 2), (0, 41, 0, 6), (0, 44, 0, 9), (0, 71, 4, 1), (1, 10, 1, 0), (1, 16, 1, 1), (2, 9, 2, 0), (2, 17, 2, 3), (2, 20, 2, 4), (2, 23, 2, 5), (2, 26, 0, 0), (2, 32, 2, 2), (2, 33, 2, 1)]
theorem zl_F_2 : ∀ q ∈ zm_FL2, zm_Fp q := List.forall_mem_cons.mpr ⟨zl_F_2_0, List.forall_mem_cons.mpr ⟨zl_F_2_1, List.forall_mem_cons.mpr ⟨zl_F_2_2, List.forall_mem_cons.mpr ⟨zl_F_2_3, List.forall_mem_cons.mpr ⟨zl_F_2_4, List.forall_mem_cons.mpr ⟨zl_F_2_5, List.forall_mem_cons.mpr ⟨zl_F_2_6, List.forall_mem_cons.mpr ⟨zl_F_2_7, List.forall_mem_cons.mpr ⟨zl_F_2_8, List.forall_mem_cons.mpr ⟨zl_F_2_9, List.forall_mem_cons.mpr ⟨zl_F_2_10, List.forall_mem_cons.mpr ⟨zl_F_2_11, List.forall_mem_cons.mpr ⟨zl_F_2_12, List.forall_mem_cons.mpr ⟨zl_F_2_13, List.forall_mem_cons.mpr ⟨zl_F_2_14, List.forall_mem_cons.mpr ⟨zl_F_2_15, fun _ h => absurd h List.not_mem_nil⟩⟩⟩⟩⟩⟩⟩⟩⟩⟩⟩⟩⟩⟩⟩⟩
theorem zl_F_3_0 : zm_Fp (2, 36, 0, 2) := ⟨RX2, RX0, TX0, 10, rfl, rfl, by decide, zu_X0, zm_WL_in 98 (by decide +kernel) rfl⟩
theorem zl_F_3_1 : zm_Fp (5, 9, 3, 0) := ⟨RX5, RX5, TX5, 2, rfl, rfl, by decide, zu_X5, zm_WL_in 198 (by decide +kernel) rfl⟩
theorem zl_F_3_2 : zm_Fp (5, 15, 3, 1) := ⟨RX5, RX5, TX5, 2, rfl, rfl, by decide, zu_X5, zm_WL_in 199 (by decide +kernel) rfl⟩
theorem zl_F_3_3 : zm_Fp (5, 18, 0, 2) := ⟨RX5, RX0, TX0, 10, rfl, rfl, by decide, zu_X0, zm_WL_in 99 (by decide +kernel) rfl⟩
theorem zl_F_3_4 : zm_Fp (5, 34, 0, 0) := ⟨RX5, RX0, TX0, 10, rfl, rfl, by decide, zu_X0, zm_WL_in 94 (by decide +kernel) rfl⟩
theorem zl_F_3_5 : zm_Fp (6, 9, 4, 0) := ⟨RX6, RX6, TX6, 2, rfl, rfl, by decide, zu_X6, zm_WL_in 80 (by decide +kernel) rfl⟩
theorem zl_F_3_6 : zm_Fp (6, 15, 4, 1) := ⟨RX6, RX6, TX6, 2, rfl, rfl, by decide, zu_X6, zm_WL_in 82 (by decide +kernel) rfl⟩
theorem zl_F_3_7 : zm_Fp (7, 9, 5, 0) := ⟨RX7, RX7, TX7, 6, rfl, rfl, by decide, zu_X7, zm_WL_in 140 (by decide +kernel) rfl⟩
theorem zl_F_3_8 : zm_Fp (7, 15, 5, 2) := ⟨RX7, RX7, TX7, 6, rfl, rfl, by decide, zu_X7, zm_WL_in 143 (by decide +kernel) rfl⟩
theorem zl_F_3_9 : zm_Fp (7, 18, 5, 1) := ⟨RX7, RX7, TX7, 6, rfl, rfl, by decide, zu_X7, zm_WL_in 141 (by decide +kernel) rfl⟩
theorem zl_F_3_10 : zm_Fp (7, 22, 5, 3) := ⟨RX7, RX7, TX7, 6, rfl, rfl, by decide, zu_X7, zm_WL_in 145 (by decide +kernel) rfl⟩
theorem zl_F_3_11 : zm_Fp (7, 25, 5, 4) := ⟨RX7, RX7, TX7, 6, rfl, rfl, by decide, zu_X7, zm_WL_in 147 (by decide +kernel) rfl⟩
theorem zl_F_3_12 : zm_Fp (7, 28, 5, 5) := ⟨RX7, RX7, TX7, 6, rfl, rfl, by decide, zu_X7, zm_WL_in 148 (by decide +kernel) rfl⟩
theorem zl_F_3_13 : zm_Fp (10, 9, 7, 0) := ⟨RX10, RX10, TX10, 29, rfl, rfl, by decide, zu_X10, zm_WL_in 802 (by decide +kernel) rfl⟩
theorem zl_F_3_14 : zm_Fp (10, 15, 7, 1) := ⟨RX10, RX10, TX10, 29, rfl, rfl, by decide, zu_X10, zm_WL_in 803 (by decide +kernel) rfl⟩
theorem zl_F_3_15 : zm_Fp (10, 19, 7, 3) := ⟨RX10, RX10, TX10, 29, rfl, rfl, by decide, zu_X10, zm_WL_in 805 (by decide +kernel) rfl⟩
def zm_FL3 : List (Nat × Nat × Nat × Nat) := [(2, 36, 0, 2), (5, 9, 3, 0), (5, 15, 3, 1), (5, 18, 0, 2), (5, 34, 0, 0), (6, 9, 4, 0), (6, 15, 4, 1), (7, 9, 5, 0), (7, 15, 5, 2), (7, 18, 5, 1), (7, 22, 5, 3), (7, 25, 5, 4), (7, 28, 5, 5), (10, 9, 7, 0), (10, 15, 7, 1), (10, 19, 7, 3)]
theorem zl_F_3 : ∀ q ∈ zm_FL3, zm_Fp q := List.forall_mem_cons.mpr ⟨zl_F_3_0, List.forall_mem_cons.mpr ⟨zl_F_3_1, List.forall_mem_cons.mpr ⟨zl_F_3_2, List.forall_mem_cons.mpr ⟨zl_F_3_3, List.forall_mem_cons.mpr ⟨zl_F_3_4, List.forall_mem_cons.mpr ⟨zl_F_3_5, List.forall_mem_cons.mpr ⟨zl_F_3_6, List.forall_mem_cons.mpr ⟨zl_F_3_7, List.forall_mem_cons.mpr ⟨zl_F_3_8, List.forall_mem_cons.mpr ⟨zl_F_3_9, List.forall_mem_cons.mpr ⟨zl_F_3_10, List.forall_mem_cons.mpr ⟨zl_F_3_11, List.forall_mem_cons.mpr ⟨zl_F_3_12, List.forall_mem_cons.mpr ⟨zl_F_3_13, List.forall_mem_cons.mpr ⟨zl_F_3_14, List.forall_mem_cons.mpr ⟨zl_F_3_15, fun _ h => absurd h List.not_mem_nil⟩⟩⟩⟩⟩⟩⟩⟩⟩⟩⟩⟩⟩⟩⟩⟩
theorem zl_F_4_0 : zm_Fp (10, 22, 7, 5) := ⟨RX10, RX10, TX10, 29, rfl, rfl, by decide, zu_X10, zm_WL_in 807 (by decide +kernel) rfl⟩
theorem zl_F_4_1 : zm_Fp (10, 25, 7, 6) := ⟨RX10, RX10, TX10, 29, rfl, rfl, by decide, zu_X10, zm_WL_in 808 (by decide +kernel) rfl⟩
theorem zl_F_4_2 : zm_Fp (10, 28, 7, 8) := ⟨RX10, RX10, TX10, 29, rfl, rfl, by decide, zu_X10, zm_WL_in 810 (by decide +kernel) rfl⟩
theorem zl_F_4_3 : zm_Fp (10, 31, 7, 9) := ⟨RX10, RX10, TX10, 29, rfl, rfl, by decide, zu_X10, zm_WL_in 811 (by decide +kernel) rfl⟩
theorem zl_F_4_4 : zm_Fp (10, 34, 7, 11) := ⟨RX10, RX10, TX10, 29, rfl, rfl, by decide, zu_X10, zm_WL_in 813 (by decide +kernel) rfl⟩
theorem zl_F_4_5 : zm_Fp (10, 37, 7, 13) := ⟨RX10, RX10, TX10, 29, rfl, rfl, by decide, zu_X10, zm_WL_in 815 (by decide +kernel) rfl⟩
theorem zl_F_4_6 : zm_Fp (10, 40, 7, 15) := ⟨RX10, RX10, TX10, 29, rfl, rfl, by decide, zu_X10, zm_WL_in 817 (by decide +kernel) rfl⟩
theorem zl_F_4_7 : zm_Fp (10, 43, 7, 16) := ⟨RX10, RX10, TX10, 29, rfl, rfl, by decide, zu_X10, zm_WL_in 818 (by decide +kernel) rfl⟩
theorem zl_F_4_8 : zm_Fp (10, 46, 7, 17) := ⟨RX10, RX10, TX10, 29, rfl, rfl, by decide, zu_X10, zm_WL_in 819 (by decide +kernel) rfl⟩
theorem zl_F_4_9 : zm_Fp (10, 49, 7, 19) := ⟨RX10, RX10, TX10, 29, rfl, rfl, by decide, zu_X10, zm_WL_in 821 (by decide +kernel) rfl⟩
theorem zl_F_4_10 : zm_Fp (10, 52, 7, 20) := ⟨RX10, RX10, TX10, 29, rfl, rfl, by decide, zu_X10, zm_WL_in 822 (by decide +kernel) rfl⟩
theorem zl_F_4_11 : zm_Fp (10, 55, 7, 22) := ⟨RX10, RX10, TX10, 29, rfl, rfl, by decide, zu_X10, zm_WL_in 824 (by decide +kernel) rfl⟩
theorem zl_F_4_12 : zm_Fp (10, 58, 7, 23) := ⟨RX10, RX10, TX10, 29, rfl, rfl, by decide, zu_X10, zm_WL_in 825 (by decide +kernel) rfl⟩
theorem zl_F_4_13 : zm_Fp (10, 62, 7, 24) := ⟨RX10, RX10, TX10, 29, rfl, rfl, by decide, zu_X10, zm_WL_in 826 (by decide +kernel) rfl⟩
theorem zl_F_4_14 : zm_Fp (10, 65, 7, 25) := ⟨RX10, RX10, TX10, 29, rfl, rfl, by decide, zu_X10, zm_WL_in 827 (by decide +kernel) rfl⟩
theorem zl_F_4_15 : zm_Fp (10, 68, 7, 27) := ⟨RX10, RX10, TX10, 29, rfl, rfl, by decide, zu_X10, zm_WL_in 829 (by decide +kernel) rfl⟩
def zm_FL4 : List (Nat × Nat × Nat × Nat) := [(10, 22, 7, 5), (10, 25, 7, 6), (10, 28, 7, 8), (10, 31, 7, 9), (10, 34, 7, 11), (10, 37, 7, 13), (10, 40, 7, 15), (10, 43, 7, 16), (10, 46, 7, 17), (10, 49, 7, 19), (10, 52, 7, 20), (10, 55, 7, 22), (10, 58, 7, 23), (10, 62, 7, 24), (10, 65, 7, 25), (10, 68, 7, 27)]
theorem zl_F_4 : ∀ q ∈ zm_FL4, zm_Fp q := List.forall_mem_cons.mpr ⟨zl_F_4_0, List.forall_mem_cons.mpr ⟨zl_F_4_1, List.forall_mem_cons.mpr ⟨zl_F_4_2, List.forall_mem_cons.mpr ⟨zl_F_4_3, List.forall_mem_cons.mpr ⟨zl_F_4_4, List.forall_mem_cons.mpr ⟨zl_F_4_5, List.forall_mem_cons.mpr ⟨zl_F_4_6, List.forall_mem_cons.mpr ⟨zl_F_4_7, List.forall_mem_cons.mpr ⟨zl_F_4_8, List.forall_mem_cons.mpr ⟨zl_F_4_9, List.forall_mem_cons.mpr ⟨zl_F_4_10, List.forall_mem_cons.mpr ⟨zl_F_4_11, List.forall_mem_cons.mpr ⟨zl_F_4_12, List.forall_mem_cons.mpr ⟨zl_F_4_13, List.forall_mem_cons.mpr ⟨zl_F_4_14, List.forall_mem_cons.mpr ⟨zl_F_4_15, fun _ h => absurd h List.not_mem_nil⟩⟩⟩⟩⟩⟩⟩⟩⟩⟩⟩⟩⟩⟩⟩⟩
theorem zl_F_5_0 : zm_Fp (10, 71, 7, 28) := ⟨RX10, RX10, TX10, 29, rfl, rfl, by decide, zu_X10, zm_WL_in 830 (by decide +kernel) rfl⟩
theorem zl_F_5_1 : zm_Fp (10, 74, 7, 2) := ⟨RX10, RX10, TX10, 29, rfl, rfl, by decide, zu_X10, zm_WL_in 804 (by decide +kernel) rfl⟩
theorem zl_F_5_2 : zm_Fp (10, 121, 7, 4) := ⟨RX10, RX10, TX10, 29, rfl, rfl, by decide, zu_X10, zm_WL_in 806 (by decide +kernel) rfl⟩
theorem zl_F_5_3 : zm_Fp (10, 124, 7, 12) := ⟨RX10, RX10, TX10, 29, rfl, rfl, by decide, zu_X10, zm_WL_in 814 (by decide +kernel) rfl⟩
theorem zl_F_5_4 : zm_Fp (10, 160, 7, 26) := ⟨RX10, RX10, TX10, 29, rfl, rfl, by decide, zu_X10, zm_WL_in 828 (by decide +kernel) rfl⟩
theorem zl_F_5_5 : zm_Fp (10, 215, 7, 7) := ⟨RX10, RX10, TX10, 29, rfl, rfl, by decide, zu_X10, zm_WL_in 809 (by decide +kernel) rfl⟩
theorem zl_F_5_6 : zm_Fp (10, 250, 7, 10) := ⟨RX10, RX10, TX10, 29, rfl, rfl, by decide, zu_X10, zm_WL_in 812 (by decide +kernel) rfl⟩
theorem zl_F_5_7 : zm_Fp (10, 256, 7, 21) := ⟨RX10, RX10, TX10, 29, rfl, rfl, by decide, zu_X10, zm_WL_in 823 (by decide +kernel) rfl⟩
theorem zl_F_5_8 : zm_Fp (10, 263, 7, 14) := ⟨RX10, RX10, TX10, 29, rfl, rfl, by decide, zu_X10, zm_WL_in 816 (by decide +kernel) rfl⟩
theorem zl_F_5_9 : zm_Fp (10, 269, 7, 18) := ⟨RX10, RX10, TX10, 29, rfl, rfl, by decide, zu_X10, zm_WL_in 820 (by decide +kernel) rfl⟩
def zm_FL5 : List (Nat × Nat × Nat × Nat) := [(10, 71, 7, 28), (10, 74, 7, 2), (10, 121, 7, 4), (10, 124, 7, 12), (10, 160, 7, 26), (10, 215, 7, 7), (10, 250, 7, 10), (10, 256, 7, 21), (10, 263, 7, 14), (10, 269, 7, 18)]
theorem zl_F_5 : ∀ q ∈ zm_FL5, zm_Fp q := List.forall_mem_cons.mpr ⟨zl_F_5_0, List.forall_mem_cons.mpr ⟨zl_F_5_1, List.forall_mem_cons.mpr ⟨zl_F_5_2, List.forall_mem_cons.mpr ⟨zl_F_5_3, List.forall_mem_cons.mpr ⟨zl_F_5_4, List.forall_mem_cons.mpr ⟨zl_F_5_5, List.forall_mem_cons.mpr ⟨zl_F_5_6, List.forall_mem_cons.mpr ⟨zl_F_5_7, List.forall_mem_cons.mpr ⟨zl_F_5_8, List.forall_mem_cons.mpr ⟨zl_F_5_9, fun _ h => absurd h List.not_mem_nil⟩⟩⟩⟩⟩⟩⟩⟩⟩⟩
def zm_FL : List (Nat × Nat × Nat × Nat) := zm_FL0 ++ (zm_FL1 ++ (zm_FL2 ++ (zm_FL3 ++ (zm_FL4 ++ (zm_FL5)))))
theorem zl_F : ∀ q ∈ zm_FL, zm_Fp q := zm_fap zl_F_0 (zm_fap zl_F_1 (zm_fap zl_F_2 (zm_fap zl_F_3 (zm_fap zl_F_4 (zl_F_5)))))
theorem zl_P_0_0 : zm_Pp (9, 81, 0, 0, 0) := ⟨RX9, RX0, TX0, 10, tyX0, rfl, rfl, by decide, zu_X0, zm_WL_in 93 (by decide +kernel) rfl, tyX0_ok, nmX0, rfl, Or.inl ⟨rfl, rfl⟩⟩
theorem zl_P_0_1 : zm_Pp (9, 89, 5, 1, 0) := ⟨RX9, RX7, TX7, 6, tyX7, rfl, rfl, by decide, zu_X7, zm_WL_in 142 (by decide +kernel) rfl, tyX7_ok, nmX7, rfl, Or.inl ⟨rfl, rfl⟩⟩
theorem zl_P_0_2 : zm_Pp (9, 200, 4, 1, 0) := ⟨RX9, RX6, TX6, 2, tyX6, rfl, rfl, by decide, zu_X6, zm_WL_in 84 (by decide +kernel) rfl, tyX6_ok, nmX6, rfl, Or.inl ⟨rfl, rfl⟩⟩
theorem zl_P_0_3 : zm_Pp (9, 280, 0, 9, 0) := ⟨RX9, RX0, TX0, 10, tyX0, rfl, rfl, by decide, zu_X0, zm_WL_in 112 (by decide +kernel) rfl, tyX0_ok, nmX0, rfl, Or.inl ⟨rfl, rfl⟩⟩
theorem zl_P_0_4 : zm_Pp (9, 299, 6, 5, 0) := ⟨RX9, RX9, TX9, 13, tyX9, rfl, rfl, by decide, zu_X9, zm_WL_in 228 (by decide +kernel) rfl, tyX9_ok, nmX9, rfl, Or.inl ⟨rfl, rfl⟩⟩
theorem zl_P_0_5 : zm_Pp (9, 311, 6, 2, 1) := ⟨RX9, RX9, TX9, 13, tyX9, rfl, rfl, by decide, zu_X9, zm_WL_in 225 (by decide +kernel) rfl, tyX9_ok, nmX9, rfl, Or.inr ⟨rfl, rfl⟩⟩
theorem zl_P_0_6 : zm_Pp (0, 9, 0, 0, 0) := ⟨RX0, RX0, TX0, 10, tyX0, rfl, rfl, by decide, zu_X0, zm_WL_in 91 (by decide +kernel) rfl, tyX0_ok, nmX0, rfl, Or.inl ⟨rfl, rfl⟩⟩
theorem zl_P_0_7 : zm_Pp (0, 38, 0, 2, 0) := ⟨RX0, RX0, TX0, 10, tyX0, rfl, rfl, by decide, zu_X0, zm_WL_in 97 (by decide +kernel) rfl, tyX0_ok, nmX0, rfl, Or.inl ⟨rfl, rfl⟩⟩
theorem zl_P_0_8 : zm_Pp (0, 41, 0, 6, 0) := ⟨RX0, RX0, TX0, 10, tyX0, rfl, rfl, by decide, zu_X0, zm_WL_in 107 (by decide +kernel) rfl, tyX0_ok, nmX0, rfl, Or.inl ⟨rfl, rfl⟩⟩
theorem zl_P_0_9 : zm_Pp (0, 44, 0, 9, 0) := ⟨RX0, RX0, TX0, 10, tyX0, rfl, rfl, by decide, zu_X0, zm_WL_in 111 (by decide +kernel) rfl, tyX0_ok, nmX0, rfl, Or.inl ⟨rfl, rfl⟩⟩
theorem zl_P_0_10 : zm_Pp (1, 10, 1, 0, 0) := ⟨RX1, RX1, TX1, 2, tyX1, rfl, rfl, by decide, zu_X1, zm_WL_in 211 (by decide +kernel) rfl, tyX1_ok, nmX1, rfl, Or.inl ⟨rfl, rfl⟩⟩
theorem zl_P_0_11 : zm_Pp (1, 16, 1, 1, 0) := ⟨RX1, RX1, TX1, 2, tyX1, rfl, rfl, by decide, zu_X1, zm_WL_in 213 (by decide +kernel) rfl, tyX1_ok, nmX1, rfl, Or.inl ⟨rfl, rfl⟩⟩
theorem zl_P_0_12 : zm_Pp (2, 32, 2, 2, 0) := ⟨RX2, RX2, TX2, 6, tyX2, rfl, rfl, by decide, zu_X2, zm_WL_in 175 (by decide +kernel) rfl, tyX2_ok, nmX2, rfl, Or.inl ⟨rfl, rfl⟩⟩
theorem zl_P_0_13 : zm_Pp (2, 33, 2, 1, 0) := ⟨RX2, RX2, TX2, 6, tyX2, rfl, rfl, by decide, zu_X2, zm_WL_in 174 (by decide +kernel) rfl, tyX2_ok, nmX2, rfl, Or.inl ⟨rfl, rfl⟩⟩
theorem zl_P_0_14 : zm_Pp (6, 15, 4, 1, 0) := ⟨RX6, RX6, TX6, 2, tyX6, rfl, rfl, by decide, zu_X6, zm_WL_in 82 (by decide +kernel) rfl, tyX6_ok, nmX6, rfl, Or.inl ⟨rfl, rfl⟩⟩
theorem zl_P_0_15 : zm_Pp (7, 18, 5, 1, 0) := ⟨RX7, RX7, TX7, 6, tyX7, rfl, rfl, by decide, zu_X7, zm_WL_in 141 (by decide +kernel) rfl, tyX7_ok, nmX7, rfl, Or.inl ⟨rfl, rfl⟩⟩
def zm_PL0 : List (Nat × Nat × Nat × Nat × Nat) := [(9, 81, 0, 0, 0), (9, 89, 5, 1, 0), (9, 200, 4, 1, 0), (9, 280, 0, 9, 0), (9, 299, 6, 5, 0), (9, 311, 6, 2, 1), (0, 9, 0, 0, 0), (0, 38, 0, 2, 0), (0, 41, 0, 6, 0), (0, 44, 0, 9, 0), (1, 10, 1, 0, 0), (1, 16, 1, 1, 0), (2, 32, 2, 2, 0), (2, 33, 2, 1, 0), (6, 15, 4, 1, 0), (7, 18, 5, 1, 0)]
theorem zl_P_0 : ∀ q ∈ zm_PL0, zm_Pp q := List.forall_mem_cons.mpr ⟨zl_P_0_0, List.forall_mem_cons.mpr ⟨zl_P_0_1, List.forall_mem_cons.mpr ⟨zl_P_0_2, List.forall_mem_cons.mpr ⟨zl_P_0_3, List.forall_mem_cons.mpr ⟨zl_P_0_4, List.forall_mem_cons.mpr ⟨zl_P_0_5, List.forall_mem_cons.mpr ⟨zl_P_0_6, List.forall_mem_cons.mpr ⟨zl_P_0_7, List.forall_mem_cons.mpr ⟨zl_P_0_8, List.forall_mem_cons.mpr ⟨zl_P_0_9, List.forall_mem_cons.mpr ⟨zl_P_0_10, List.forall_mem_cons.mpr ⟨zl_P_0_11, List.forall_mem_cons.mpr ⟨zl_P_0_12, List.forall_mem_cons.mpr ⟨zl_P_0_13, List.forall_mem_cons.mpr ⟨zl_P_0_14, List.forall_mem_cons.mpr ⟨zl_P_0_15, fun _ h => absurd h List.not_mem_nil⟩⟩⟩⟩⟩⟩⟩⟩⟩⟩⟩⟩⟩⟩⟩⟩
theorem zl_P_1_0 : zm_Pp (7, 22, 5, 3, 0) := ⟨RX7, RX7, TX7, 6, tyX7, rfl, rfl, by decide, zu_X7, zm_WL_in 145 (by decide +kernel) rfl, tyX7_ok, nmX7, rfl, Or.inl ⟨rfl, rfl⟩⟩
theorem zl_P_1_1 : zm_Pp (7, 25, 5, 4, 0) := ⟨RX7, RX7, TX7, 6, tyX7, rfl, rfl, by decide, zu_X7, zm_WL_in 147 (by decide +kernel) rfl, tyX7_ok, nmX7, rfl, Or.inl ⟨rfl, rfl⟩⟩
theorem zl_P_1_2 : zm_Pp (7, 28, 5, 5, 0) := ⟨RX7, RX7, TX7, 6, tyX7, rfl, rfl, by decide, zu_X7, zm_WL_in 148 (by decide +kernel) rfl, tyX7_ok, nmX7, rfl, Or.inl ⟨rfl, rfl⟩⟩
theorem zl_P_1_3 : zm_Pp (10, 9, 7, 0, 0) := ⟨RX10, RX10, TX10, 29, tyX10, rfl, rfl, by decide, zu_X10, zm_WL_in 802 (by decide +kernel) rfl, tyX10_ok, nmX10, rfl, Or.inl ⟨rfl, rfl⟩⟩
theorem zl_P_1_4 : zm_Pp (10, 74, 7, 2, 0) := ⟨RX10, RX10, TX10, 29, tyX10, rfl, rfl, by decide, zu_X10, zm_WL_in 804 (by decide +kernel) rfl, tyX10_ok, nmX10, rfl, Or.inl ⟨rfl, rfl⟩⟩
theorem zl_P_1_5 : zm_Pp (10, 121, 7, 4, 0) := ⟨RX10, RX10, TX10, 29, tyX10, rfl, rfl, by decide, zu_X10, zm_WL_in 806 (by decide +kernel) rfl, tyX10_ok, nmX10, rfl, Or.inl ⟨rfl, rfl⟩⟩
theorem zl_P_1_6 : zm_Pp (10, 124, 7, 12, 0) := ⟨RX10, RX10, TX10, 29, tyX10, rfl, rfl, by decide, zu_X10, zm_WL_in 814 (by decide +kernel) rfl, tyX10_ok, nmX10, rfl, Or.inl ⟨rfl, rfl⟩⟩
theorem zl_P_1_7 : zm_Pp (10, 160, 7, 26, 0) := ⟨RX10, RX10, TX10, 29, tyX10, rfl, rfl, by decide, zu_X10, zm_WL_in 828 (by decide +kernel) rfl, tyX10_ok, nmX10, rfl, Or.inl ⟨rfl, rfl⟩⟩
theorem zl_P_1_8 : zm_Pp (10, 215, 7, 7, 0) := ⟨RX10, RX10, TX10, 29, tyX10, rfl, rfl, by decide, zu_X10, zm_WL_in 809 (by decide +kernel) rfl, tyX10_ok, nmX10, rfl, Or.inl ⟨rfl, rfl⟩⟩
theorem zl_P_1_9 : zm_Pp (10, 250, 7, 10, 0) := ⟨RX10, RX10, TX10, 29, tyX10, rfl, rfl, by decide, zu_X10, zm_WL_in 812 (by decide +kernel) rfl, tyX10_ok, nmX10, rfl, Or.inl ⟨rfl, rfl⟩⟩
theorem zl_P_1_10 : zm_Pp (10, 256, 7, 21, 0) := ⟨RX10, RX10, TX10, 29, tyX10, rfl, rfl, by decide, zu_X10, zm_WL_in 823 (by decide +kernel) rfl, tyX10_ok, nmX10, rfl, Or.inl ⟨rfl, rfl⟩⟩
theorem zl_P_1_11 : zm_Pp (10, 263, 7, 14, 0) := ⟨RX10, RX10, TX10, 29, tyX10, rfl, rfl, by decide, zu_X10, zm_WL_in 816 (by decide +kernel) rfl, tyX10_ok, nmX10, rfl, Or.inl ⟨rfl, rfl⟩⟩
theorem zl_P_1_12 : zm_Pp (10, 269, 7, 18, 1) := ⟨RX10, RX10, TX10, 29, tyX10, rfl, rfl, by decide, zu_X10, zm_WL_in 820 (by decide +kernel) rfl, tyX10_ok, nmX10, rfl, Or.inr ⟨rfl, rfl⟩⟩
def zm_PL1 : List (Nat × Nat × Nat × Nat × Nat) := [(7, 22, 5, 3, 0), (7, 25, 5, 4, 0), (7, 28, 5, 5, 0), (10, 9, 7, 0, 0), (10, 74, 7, 2, 0), (10, 121, 7, 4, 0), (10, 124, 7, 12, 0), (10, 160, 7, 26, 0), (10, 215, 7, 7, 0), (10, 250, 7, 10, 0), (10, 256, 7, 21, 0), (10, 263, 7, 14, 0), (10, 269, 7, 18, 1)]
theorem zl_P_1 : ∀ q ∈ zm_PL1, zm_Pp q := List.forall_mem_cons.mpr ⟨zl_P_1_0, List.forall_mem_cons.mpr ⟨zl_P_1_1, List.forall_mem_cons.mpr ⟨zl_P_1_2, List.forall_mem_cons.mpr ⟨zl_P_1_3, List.forall_mem_cons.mpr ⟨zl_P_1_4, List.forall_mem_cons.mpr ⟨zl_P_1_5, List.forall_mem_cons.mpr ⟨zl_P_1_6, List.forall_mem_cons.mpr ⟨zl_P_1_7, List.forall_mem_cons.mpr ⟨zl_P_1_8, List.forall_mem_cons.mpr ⟨zl_P_1_9, List.forall_mem_cons.mpr ⟨zl_P_1_10, List.forall_mem_cons.mpr ⟨zl_P_1_11, List.forall_mem_cons.mpr ⟨zl_P_1_12, fun _ h => absurd h List.not_mem_nil⟩⟩⟩⟩⟩⟩⟩⟩⟩⟩⟩⟩⟩
def zm_PL : List (Nat × Nat × Nat × Nat × Nat) := zm_PL0 ++ (zm_PL1)
theorem zl_P : ∀ q ∈ zm_PL, zm_Pp q := zm_fap zl_P_0 (zl_P_1)
theorem zl_K_0_0 : zm_Kp (1, 9, 1103515245) := ⟨RX1, rfl, zm_WL_in 543 (by decide +kernel) rfl⟩
theorem zl_K_0_1 : zm_Kp (10, 192, 1103515245) := ⟨RX10, rfl, zm_WL_in 1060 (by decide +kernel) rfl⟩
theorem zl_K_0_2 : zm_Kp (10, 245, 100000) := ⟨RX10, rfl, zm_WL_in 1162 (by decide +kernel) rfl⟩
theorem zl_K_0_3 : zm_Kp (11, 265, 1431655765) := ⟨RJ6, rfl, zm_WL_in 459 (by decide +kernel) rfl⟩
theorem zl_K_0_4 : zm_Kp (11, 266, 858993459) := ⟨RJ6, rfl, zm_WL_in 460 (by decide +kernel) rfl⟩
theorem zl_K_0_5 : zm_Kp (11, 267, 252645135) := ⟨RJ6, rfl, zm_WL_in 461 (by decide +kernel) rfl⟩
def zm_KL0 : List (Nat × Nat × Int) := [(1, 9, 1103515245), (10, 192, 1103515245), (10, 245, 100000), (11, 265, 1431655765), (11, 266, 858993459), (11, 267, 252645135)]
theorem zl_K_0 : ∀ q ∈ zm_KL0, zm_Kp q := List.forall_mem_cons.mpr ⟨zl_K_0_0, List.forall_mem_cons.mpr ⟨zl_K_0_1, List.forall_mem_cons.mpr ⟨zl_K_0_2, List.forall_mem_cons.mpr ⟨zl_K_0_3, List.forall_mem_cons.mpr ⟨zl_K_0_4, List.forall_mem_cons.mpr ⟨zl_K_0_5, fun _ h => absurd h List.not_mem_nil⟩⟩⟩⟩⟩⟩
def zm_KL : List (Nat × Nat × Int) := zm_KL0
theorem zl_K : ∀ q ∈ zm_KL, zm_Kp q := zl_K_0
theorem zl_J_0_0 : zm_Jp (9, 148, -9223372036854775808) := ⟨RX9, rfl, zm_WL_in 389 (by decide +kernel) rfl⟩
theorem zl_J_0_1 : zm_Jp (2, 52, -9223372036854775808) := ⟨RX2, rfl, zm_WL_in 484 (by decide +kernel) rfl⟩
theorem zl_J_0_2 : zm_Jp (3, 15, -9223372036854775808) := ⟨RX3, rfl, zm_WL_in 407 (by decide +kernel) rfl⟩
theorem zl_J_0_3 : zm_Jp (4, 19, -9223372036854775808) := ⟨RX4, rfl, zm_WL_in 397 (by decide +kernel) rfl⟩
theorem zl_J_0_4 : zm_Jp (10, 143, -9223372036854775808) := ⟨RX10, rfl, zm_WL_in 980 (by decide +kernel) rfl⟩
theorem zl_J_0_5 : zm_Jp (10, 166, -1) := ⟨RX10, rfl, zm_WL_in 1029 (by decide +kernel) rfl⟩
theorem zl_J_0_6 : zm_Jp (12, 314, 6148914691236517205) := ⟨RJ13, rfl, zm_WL_in 585 (by decide +kernel) rfl⟩
theorem zl_J_0_7 : zm_Jp (12, 316, 3689348814741910323) := ⟨RJ13, rfl, zm_WL_in 586 (by decide +kernel) rfl⟩
theorem zl_J_0_8 : zm_Jp (12, 318, 1085102592571150095) := ⟨RJ13, rfl, zm_WL_in 587 (by decide +kernel) rfl⟩
def zm_JL0 : List (Nat × Nat × Int) := [(9, 148, -9223372036854775808), (2, 52, -9223372036854775808), (3, 15, -9223372036854775808), (4, 19, -9223372036854775808), (10, 143, -9223372036854775808), (10, 166, -1), (12, 314, 6148914691236517205), (12, 316, 3689348814741910323), (12, 318, 1085102592571150095)]
theorem zl_J_0 : ∀ q ∈ zm_JL0, zm_Jp q := List.forall_mem_cons.mpr ⟨zl_J_0_0, List.forall_mem_cons.mpr ⟨zl_J_0_1, List.forall_mem_cons.mpr ⟨zl_J_0_2, List.forall_mem_cons.mpr ⟨zl_J_0_3, List.forall_mem_cons.mpr ⟨zl_J_0_4, List.forall_mem_cons.mpr ⟨zl_J_0_5, List.forall_mem_cons.mpr ⟨zl_J_0_6, List.forall_mem_cons.mpr ⟨zl_J_0_7, List.forall_mem_cons.mpr ⟨zl_J_0_8, fun _ h => absurd h List.not_mem_nil⟩⟩⟩⟩⟩⟩⟩⟩⟩
def zm_JL : List (Nat × Nat × Int) := zm_JL0
theorem zl_J : ∀ q ∈ zm_JL, zm_Jp q := zl_J_0
theorem zl_A_0_0 : zm_Ap (0, 47, 9999) := ⟨RX0, rfl, (fun _ => by decide), (fun _ => ⟨zm_WL_in 786 (by decide +kernel) rfl, zm_WL_in 615 (by decide +kernel) rfl, zm_WL_in 614 (by decide +kernel) rfl, zm_WL_in 59 (by decide +kernel) rfl⟩), (fun h => absurd h (by decide)), (fun h => absurd h (by decide))⟩
theorem zl_A_0_1 : zm_Ap (5, 24, 9998) := ⟨RX5, rfl, (fun _ => by decide), (fun h => absurd h (by decide)), (fun _ => ⟨zm_WL_in 428 (by decide +kernel) rfl, zm_WL_in 353 (by decide +kernel) rfl, zm_WL_in 54 (by decide +kernel) rfl, zm_WL_in 354 (by decide +kernel) rfl⟩), (fun h => absurd h (by decide))⟩
theorem zl_A_0_2 : zm_Ap (6, 19, 9999) := ⟨RX6, rfl, (fun _ => by decide), (fun _ => ⟨zm_WL_in 613 (by decide +kernel) rfl, zm_WL_in 615 (by decide +kernel) rfl, zm_WL_in 614 (by decide +kernel) rfl, zm_WL_in 59 (by decide +kernel) rfl⟩), (fun h => absurd h (by decide)), (fun h => absurd h (by decide))⟩
theorem zl_A_0_3 : zm_Ap (6, 29, 9997) := ⟨RX6, rfl, (fun _ => by decide), (fun h => absurd h (by decide)), (fun h => absurd h (by decide)), (fun _ => ⟨zm_WL_in 726 (by decide +kernel) rfl, zm_WL_in 727 (by decide +kernel) rfl, zm_WL_in 54 (by decide +kernel) rfl, zm_WL_in 728 (by decide +kernel) rfl⟩)⟩
theorem zl_A_0_4 : zm_Ap (8, 29, 9998) := ⟨RX8, rfl, (fun _ => by decide), (fun h => absurd h (by decide)), (fun _ => ⟨zm_WL_in 352 (by decide +kernel) rfl, zm_WL_in 353 (by decide +kernel) rfl, zm_WL_in 54 (by decide +kernel) rfl, zm_WL_in 354 (by decide +kernel) rfl⟩), (fun h => absurd h (by decide))⟩
theorem zl_A_0_5 : zm_Ap (10, 88, 9998) := ⟨RX10, rfl, (fun _ => by decide), (fun h => absurd h (by decide)), (fun _ => ⟨zm_WL_in 943 (by decide +kernel) rfl, zm_WL_in 353 (by decide +kernel) rfl, zm_WL_in 54 (by decide +kernel) rfl, zm_WL_in 354 (by decide +kernel) rfl⟩), (fun h => absurd h (by decide))⟩
theorem zl_A_0_6 : zm_Ap (10, 253, 9997) := ⟨RX10, rfl, (fun _ => by decide), (fun h => absurd h (by decide)), (fun h => absurd h (by decide)), (fun _ => ⟨zm_WL_in 1179 (by decide +kernel) rfl, zm_WL_in 727 (by decide +kernel) rfl, zm_WL_in 54 (by decide +kernel) rfl, zm_WL_in 728 (by decide +kernel) rfl⟩)⟩
def zm_AL0 : List (Nat × Nat × Nat) := [(0, 47, 9999), (5, 24, 9998), (6, 19, 9999), (6, 29, 9997), (8, 29, 9998), (10, 88, 9998), (10, 253, 9997)]
theorem zl_A_0 : ∀ q ∈ zm_AL0, zm_Ap q := List.forall_mem_cons.mpr ⟨zl_A_0_0, List.forall_mem_cons.mpr ⟨zl_A_0_1, List.forall_mem_cons.mpr ⟨zl_A_0_2, List.forall_mem_cons.mpr ⟨zl_A_0_3, List.forall_mem_cons.mpr ⟨zl_A_0_4, List.forall_mem_cons.mpr ⟨zl_A_0_5, List.forall_mem_cons.mpr ⟨zl_A_0_6, fun _ h => absurd h List.not_mem_nil⟩⟩⟩⟩⟩⟩⟩
def zm_AL : List (Nat × Nat × Nat) := zm_AL0
theorem zl_A : ∀ q ∈ zm_AL, zm_Ap q := zl_A_0
theorem zl_M_0_0 : zm_Mp (9, 71, 210) := ⟨RX9, _, _, _, _, _, _, _, _, _, _, _, rfl, m_J7_fill_53178, zm_WL_in 220 (by decide +kernel) rfl⟩
theorem zl_M_0_1 : zm_Mp (9, 77, 5) := ⟨RX9, _, _, _, _, _, _, _, _, _, _, _, rfl, m_X0_hasThirdLetter, zm_WL_in 267 (by decide +kernel) rfl⟩
theorem zl_M_0_2 : zm_Mp (9, 85, 51) := ⟨RX9, _, _, _, _, _, _, _, _, _, _, _, rfl, m_X7_append, zm_WL_in 305 (by decide +kernel) rfl⟩
theorem zl_M_0_3 : zm_Mp (9, 92, 52) := ⟨RX9, _, _, _, _, _, _, _, _, _, _, _, rfl, m_X7_read, zm_WL_in 313 (by decide +kernel) rfl⟩
theorem zl_M_0_4 : zm_Mp (9, 105, 4) := ⟨RX9, _, _, _, _, _, _, _, _, _, _, _, rfl, m_X0_addWord, zm_WL_in 330 (by decide +kernel) rfl⟩
theorem zl_M_0_5 : zm_Mp (9, 109, 1) := ⟨RX9, _, _, _, _, _, _, _, _, _, _, _, rfl, m_X0_hasWord, zm_WL_in 338 (by decide +kernel) rfl⟩
theorem zl_M_0_6 : zm_Mp (9, 112, 58) := ⟨RX9, _, _, _, _, _, _, _, _, _, _, _, rfl, m_X8_isWord, zm_WL_in 339 (by decide +kernel) rfl⟩
theorem zl_M_0_7 : zm_Mp (9, 121, 3) := ⟨RX9, _, _, _, _, _, _, _, _, _, _, _, rfl, m_X0_wordAt, zm_WL_in 344 (by decide +kernel) rfl⟩
theorem zl_M_0_8 : zm_Mp (9, 124, 57) := ⟨RX9, _, _, _, _, _, _, _, _, _, _, _, rfl, m_X8_length, zm_WL_in 345 (by decide +kernel) rfl⟩
theorem zl_M_0_9 : zm_Mp (9, 127, 65) := ⟨RX9, _, _, _, _, _, _, _, _, _, _, _, rfl, m_X8_numberOn, zm_WL_in 346 (by decide +kernel) rfl⟩
theorem zl_M_0_10 : zm_Mp (9, 131, 37) := ⟨RX9, _, _, _, _, _, _, _, _, _, _, _, rfl, m_X4_bestAnswer, zm_WL_in 355 (by decide +kernel) rfl⟩
theorem zl_M_0_11 : zm_Mp (9, 137, 64) := ⟨RX9, _, _, _, _, _, _, _, _, _, _, _, rfl, m_X8_overlapBits, zm_WL_in 370 (by decide +kernel) rfl⟩
theorem zl_M_0_12 : zm_Mp (9, 140, 66) := ⟨RX9, _, _, _, _, _, _, _, _, _, _, _, rfl, m_X8_standsIn, zm_WL_in 379 (by decide +kernel) rfl⟩
theorem zl_M_0_13 : zm_Mp (9, 143, 31) := ⟨RX9, _, _, _, _, _, _, _, _, _, _, _, rfl, m_X3_isPart, zm_WL_in 386 (by decide +kernel) rfl⟩
theorem zl_M_0_14 : zm_Mp (9, 150, 35) := ⟨RX9, _, _, _, _, _, _, _, _, _, _, _, rfl, m_X4_chancePart, zm_WL_in 390 (by decide +kernel) rfl⟩
theorem zl_M_0_15 : zm_Mp (9, 154, 116) := ⟨RX9, _, _, _, _, _, _, _, _, _, _, _, rfl, m_X9_trailLength, zm_WL_in 416 (by decide +kernel) rfl⟩
def zm_ML0 : List (Nat × Nat × Nat) := [(9, 71, 210), (9, 77, 5), (9, 85, 51), (9, 92, 52), (9, 105, 4), (9, 109, 1), (9, 112, 58), (9, 121, 3), (9, 124, 57), (9, 127, 65), (9, 131, 37), (9, 137, 64), (9, 140, 66), (9, 143, 31), (9, 150, 35), (9, 154, 116)]
theorem zl_M_0 : ∀ q ∈ zm_ML0, zm_Mp q := List.forall_mem_cons.mpr ⟨zl_M_0_0, List.forall_mem_cons.mpr ⟨zl_M_0_1, List.forall_mem_cons.mpr ⟨zl_M_0_2, List.forall_mem_cons.mpr ⟨zl_M_0_3, List.forall_mem_cons.mpr ⟨zl_M_0_4, List.forall_mem_cons.mpr ⟨zl_M_0_5, List.forall_mem_cons.mpr ⟨zl_M_0_6, List.forall_mem_cons.mpr ⟨zl_M_0_7, List.forall_mem_cons.mpr ⟨zl_M_0_8, List.forall_mem_cons.mpr ⟨zl_M_0_9, List.forall_mem_cons.mpr ⟨zl_M_0_10, List.forall_mem_cons.mpr ⟨zl_M_0_11, List.forall_mem_cons.mpr ⟨zl_M_0_12, List.forall_mem_cons.mpr ⟨zl_M_0_13, List.forall_mem_cons.mpr ⟨zl_M_0_14, List.forall_mem_cons.mpr ⟨zl_M_0_15, fun _ h => absurd h List.not_mem_nil⟩⟩⟩⟩⟩⟩⟩⟩⟩⟩⟩⟩⟩⟩⟩⟩
theorem zl_M_1_0 : zm_Mp (9, 158, 39) := ⟨RX9, _, _, _, _, _, _, _, _, _, _, _, rfl, m_X5_find, zm_WL_in 424 (by decide +kernel) rfl⟩
theorem zl_M_1_1 : zm_Mp (9, 162, 38) := ⟨RX9, _, _, _, _, _, _, _, _, _, _, _, rfl, m_X5_wordAt, zm_WL_in 440 (by decide +kernel) rfl⟩
theorem zl_M_1_2 : zm_Mp (9, 163, 117) := ⟨RX9, _, _, _, _, _, _, _, _, _, _, _, rfl, m_X9_isRacingField, zm_WL_in 448 (by decide +kernel) rfl⟩
theorem zl_M_1_3 : zm_Mp (9, 166, 7) := ⟨RX9, _, _, _, _, _, _, _, _, _, _, _, rfl, m_X0_isInSet, zm_WL_in 476 (by decide +kernel) rfl⟩
theorem zl_M_1_4 : zm_Mp (9, 169, 118) := ⟨RX9, _, _, _, _, _, _, _, _, _, _, _, rfl, m_X9_placeInSet, zm_WL_in 477 (by decide +kernel) rfl⟩
theorem zl_M_1_5 : zm_Mp (9, 172, 22) := ⟨RX9, _, _, _, _, _, _, _, _, _, _, _, rfl, m_X2_chancePart, zm_WL_in 480 (by decide +kernel) rfl⟩
theorem zl_M_1_6 : zm_Mp (9, 175, 23) := ⟨RX9, _, _, _, _, _, _, _, _, _, _, _, rfl, m_X2_meanPart, zm_WL_in 506 (by decide +kernel) rfl⟩
theorem zl_M_1_7 : zm_Mp (9, 179, 6) := ⟨RX9, _, _, _, _, _, _, _, _, _, _, _, rfl, m_X0_isSet, zm_WL_in 452 (by decide +kernel) rfl⟩
theorem zl_M_1_8 : zm_Mp (9, 182, 208) := ⟨RX9, _, _, _, _, _, _, _, _, _, _, _, rfl, m_J6_bitCount_0f7a4, zm_WL_in 456 (by decide +kernel) rfl⟩
theorem zl_M_1_9 : zm_Mp (9, 187, 20) := ⟨RX9, _, _, _, _, _, _, _, _, _, _, _, rfl, m_X2_fill, zm_WL_in 462 (by decide +kernel) rfl⟩
theorem zl_M_1_10 : zm_Mp (9, 190, 21) := ⟨RX9, _, _, _, _, _, _, _, _, _, _, _, rfl, m_X2_hasOneInAnother, zm_WL_in 471 (by decide +kernel) rfl⟩
theorem zl_M_1_11 : zm_Mp (9, 193, 28) := ⟨RX9, _, _, _, _, _, _, _, _, _, _, _, rfl, m_X2_rowsWithin, zm_WL_in 514 (by decide +kernel) rfl⟩
theorem zl_M_1_12 : zm_Mp (9, 199, 45) := ⟨RX9, _, _, _, _, _, _, _, _, _, _, _, rfl, m_X6_append, zm_WL_in 532 (by decide +kernel) rfl⟩
theorem zl_M_1_13 : zm_Mp (9, 201, 17) := ⟨RX9, _, _, _, _, _, _, _, _, _, _, _, rfl, m_X1_nextSeed, zm_WL_in 540 (by decide +kernel) rfl⟩
theorem zl_M_1_14 : zm_Mp (9, 204, 18) := ⟨RX9, _, _, _, _, _, _, _, _, _, _, _, rfl, m_X1_drawn, zm_WL_in 544 (by decide +kernel) rfl⟩
theorem zl_M_1_15 : zm_Mp (9, 207, 43) := ⟨RX9, _, _, _, _, _, _, _, _, _, _, _, rfl, m_X6_hasPlace, zm_WL_in 555 (by decide +kernel) rfl⟩
def zm_ML1 : List (Nat × Nat × Nat) := [(9, 158, 39), (9, 162, 38), (9, 163, 117), (9, 166, 7), (9, 169, 118), (9, 172, 22), (9, 175, 23), (9, 179, 6), (9, 182, 208), (9, 187, 20), (9, 190, 21), (9, 193, 28), (9, 199, 45), (9, 201, 17), (9, 204, 18), (9, 207, 43)]
theorem zl_M_1 : ∀ q ∈ zm_ML1, zm_Mp q := List.forall_mem_cons.mpr ⟨zl_M_1_0, List.forall_mem_cons.mpr ⟨zl_M_1_1, List.forall_mem_cons.mpr ⟨zl_M_1_2, List.forall_mem_cons.mpr ⟨zl_M_1_3, List.forall_mem_cons.mpr ⟨zl_M_1_4, List.forall_mem_cons.mpr ⟨zl_M_1_5, List.forall_mem_cons.mpr ⟨zl_M_1_6, List.forall_mem_cons.mpr ⟨zl_M_1_7, List.forall_mem_cons.mpr ⟨zl_M_1_8, List.forall_mem_cons.mpr ⟨zl_M_1_9, List.forall_mem_cons.mpr ⟨zl_M_1_10, List.forall_mem_cons.mpr ⟨zl_M_1_11, List.forall_mem_cons.mpr ⟨zl_M_1_12, List.forall_mem_cons.mpr ⟨zl_M_1_13, List.forall_mem_cons.mpr ⟨zl_M_1_14, List.forall_mem_cons.mpr ⟨zl_M_1_15, fun _ h => absurd h List.not_mem_nil⟩⟩⟩⟩⟩⟩⟩⟩⟩⟩⟩⟩⟩⟩⟩⟩
theorem zl_M_2_0 : zm_Mp (9, 213, 48) := ⟨RX9, _, _, _, _, _, _, _, _, _, _, _, rfl, m_X6_endBits, zm_WL_in 560 (by decide +kernel) rfl⟩
theorem zl_M_2_1 : zm_Mp (9, 216, 49) := ⟨RX9, _, _, _, _, _, _, _, _, _, _, _, rfl, m_X6_firstEnd, zm_WL_in 578 (by decide +kernel) rfl⟩
theorem zl_M_2_2 : zm_Mp (9, 219, 209) := ⟨RX9, _, _, _, _, _, _, _, _, _, _, _, rfl, m_J13_bitCount_95d88, zm_WL_in 582 (by decide +kernel) rfl⟩
theorem zl_M_2_3 : zm_Mp (9, 222, 50) := ⟨RX9, _, _, _, _, _, _, _, _, _, _, _, rfl, m_X6_matched, zm_WL_in 588 (by decide +kernel) rfl⟩
theorem zl_M_2_4 : zm_Mp (9, 225, 8) := ⟨RX9, _, _, _, _, _, _, _, _, _, _, _, rfl, m_X0_firstOn, zm_WL_in 599 (by decide +kernel) rfl⟩
theorem zl_M_2_5 : zm_Mp (9, 229, 42) := ⟨RX9, _, _, _, _, _, _, _, _, _, _, _, rfl, m_X6_copyFrom, zm_WL_in 609 (by decide +kernel) rfl⟩
theorem zl_M_2_6 : zm_Mp (9, 233, 11) := ⟨RX9, _, _, _, _, _, _, _, _, _, _, _, rfl, m_X0_addPlayer, zm_WL_in 620 (by decide +kernel) rfl⟩
theorem zl_M_2_7 : zm_Mp (9, 239, 9) := ⟨RX9, _, _, _, _, _, _, _, _, _, _, _, rfl, m_X0_hasPlayer, zm_WL_in 628 (by decide +kernel) rfl⟩
theorem zl_M_2_8 : zm_Mp (9, 248, 14) := ⟨RX9, _, _, _, _, _, _, _, _, _, _, _, rfl, m_X0_wins, zm_WL_in 632 (by decide +kernel) rfl⟩
theorem zl_M_2_9 : zm_Mp (9, 251, 10) := ⟨RX9, _, _, _, _, _, _, _, _, _, _, _, rfl, m_X0_areTwoPlayers, zm_WL_in 668 (by decide +kernel) rfl⟩
theorem zl_M_2_10 : zm_Mp (9, 254, 12) := ⟨RX9, _, _, _, _, _, _, _, _, _, _, _, rfl, m_X0_firstPick, zm_WL_in 672 (by decide +kernel) rfl⟩
theorem zl_M_2_11 : zm_Mp (9, 257, 13) := ⟨RX9, _, _, _, _, _, _, _, _, _, _, _, rfl, m_X0_pickAgainst, zm_WL_in 676 (by decide +kernel) rfl⟩
theorem zl_M_2_12 : zm_Mp (9, 260, 2) := ⟨RX9, _, _, _, _, _, _, _, _, _, _, _, rfl, m_X0_areTwoWords, zm_WL_in 685 (by decide +kernel) rfl⟩
theorem zl_M_2_13 : zm_Mp (9, 263, 67) := ⟨RX9, _, _, _, _, _, _, _, _, _, _, _, rfl, m_X8_clash, zm_WL_in 689 (by decide +kernel) rfl⟩
theorem zl_M_2_14 : zm_Mp (9, 266, 19) := ⟨RX9, _, _, _, _, _, _, _, _, _, _, _, rfl, m_X1_run, zm_WL_in 690 (by decide +kernel) rfl⟩
theorem zl_M_2_15 : zm_Mp (9, 276, 32) := ⟨RX9, _, _, _, _, _, _, _, _, _, _, _, rfl, m_X3_partOf, zm_WL_in 702 (by decide +kernel) rfl⟩
def zm_ML2 : List (Nat × Nat × Nat) := [(9, 213, 48), (9, 216, 49), (9, 219, 209), (9, 222, 50), (9, 225, 8), (9, 229, 42), (9, 233, 11), (9, 239, 9), (9, 248, 14), (9, 251, 10), (9, 254, 12), (9, 257, 13), (9, 260, 2), (9, 263, 67), (9, 266, 19), (9, 276, 32)]
theorem zl_M_2 : ∀ q ∈ zm_ML2, zm_Mp q := List.forall_mem_cons.mpr ⟨zl_M_2_0, List.forall_mem_cons.mpr ⟨zl_M_2_1, List.forall_mem_cons.mpr ⟨zl_M_2_2, List.forall_mem_cons.mpr ⟨zl_M_2_3, List.forall_mem_cons.mpr ⟨zl_M_2_4, List.forall_mem_cons.mpr ⟨zl_M_2_5, List.forall_mem_cons.mpr ⟨zl_M_2_6, List.forall_mem_cons.mpr ⟨zl_M_2_7, List.forall_mem_cons.mpr ⟨zl_M_2_8, List.forall_mem_cons.mpr ⟨zl_M_2_9, List.forall_mem_cons.mpr ⟨zl_M_2_10, List.forall_mem_cons.mpr ⟨zl_M_2_11, List.forall_mem_cons.mpr ⟨zl_M_2_12, List.forall_mem_cons.mpr ⟨zl_M_2_13, List.forall_mem_cons.mpr ⟨zl_M_2_14, List.forall_mem_cons.mpr ⟨zl_M_2_15, fun _ h => absurd h List.not_mem_nil⟩⟩⟩⟩⟩⟩⟩⟩⟩⟩⟩⟩⟩⟩⟩⟩
theorem zl_M_3_0 : zm_Mp (9, 283, 119) := ⟨RX9, _, _, _, _, _, _, _, _, _, _, _, rfl, m_X9_mostOfRow, zm_WL_in 707 (by decide +kernel) rfl⟩
theorem zl_M_3_1 : zm_Mp (9, 286, 15) := ⟨RX9, _, _, _, _, _, _, _, _, _, _, _, rfl, m_X0_addRow, zm_WL_in 710 (by decide +kernel) rfl⟩
theorem zl_M_3_2 : zm_Mp (9, 289, 16) := ⟨RX9, _, _, _, _, _, _, _, _, _, _, _, rfl, m_X0_followPlan, zm_WL_in 718 (by decide +kernel) rfl⟩
theorem zl_M_3_3 : zm_Mp (9, 292, 120) := ⟨RX9, _, _, _, _, _, _, _, _, _, _, _, rfl, m_X9_writeStrip, zm_WL_in 739 (by decide +kernel) rfl⟩
theorem zl_M_3_4 : zm_Mp (9, 296, 121) := ⟨RX9, _, _, _, _, _, _, _, _, _, _, _, rfl, m_X9_writeWord, zm_WL_in 746 (by decide +kernel) rfl⟩
theorem zl_M_3_5 : zm_Mp (9, 302, 123) := ⟨RX9, _, _, _, _, _, _, _, _, _, _, _, rfl, m_X9_hasList, zm_WL_in 759 (by decide +kernel) rfl⟩
theorem zl_M_3_6 : zm_Mp (9, 305, 124) := ⟨RX9, _, _, _, _, _, _, _, _, _, _, _, rfl, m_X9_hasListPlace, zm_WL_in 770 (by decide +kernel) rfl⟩
theorem zl_M_3_7 : zm_Mp (9, 308, 0) := ⟨RX9, _, _, _, _, _, _, _, _, _, _, _, rfl, m_X0_copyFrom, zm_WL_in 782 (by decide +kernel) rfl⟩
theorem zl_M_3_8 : zm_Mp (9, 315, 122) := ⟨RX9, _, _, _, _, _, _, _, _, _, _, _, rfl, m_X9_signOf, zm_WL_in 743 (by decide +kernel) rfl⟩
theorem zl_M_3_9 : zm_Mp (9, 318, 59) := ⟨RX9, _, _, _, _, _, _, _, _, _, _, _, rfl, m_X8_letterAt, zm_WL_in 750 (by decide +kernel) rfl⟩
theorem zl_M_3_10 : zm_Mp (0, 53, 42) := ⟨RX0, _, _, _, _, _, _, _, _, _, _, _, rfl, m_X6_copyFrom, zm_WL_in 787 (by decide +kernel) rfl⟩
theorem zl_M_3_11 : zm_Mp (0, 57, 1) := ⟨RX0, _, _, _, _, _, _, _, _, _, _, _, rfl, m_X0_hasWord, zm_WL_in 275 (by decide +kernel) rfl⟩
theorem zl_M_3_12 : zm_Mp (0, 61, 3) := ⟨RX0, _, _, _, _, _, _, _, _, _, _, _, rfl, m_X0_wordAt, zm_WL_in 271 (by decide +kernel) rfl⟩
theorem zl_M_3_13 : zm_Mp (0, 65, 58) := ⟨RX0, _, _, _, _, _, _, _, _, _, _, _, rfl, m_X8_isWord, zm_WL_in 279 (by decide +kernel) rfl⟩
theorem zl_M_3_14 : zm_Mp (0, 74, 44) := ⟨RX0, _, _, _, _, _, _, _, _, _, _, _, rfl, m_X6_letterAt, zm_WL_in 293 (by decide +kernel) rfl⟩
theorem zl_M_3_15 : zm_Mp (0, 77, 49) := ⟨RX0, _, _, _, _, _, _, _, _, _, _, _, rfl, m_X6_firstEnd, zm_WL_in 603 (by decide +kernel) rfl⟩
def zm_ML3 : List (Nat × Nat × Nat) := [(9, 283, 119), (9, 286, 15), (9, 289, 16), (9, 292, 120), (9, 296, 121), (9, 302, 123), (9, 305, 124), (9, 308, 0), (9, 315, 122), (9, 318, 59), (0, 53, 42), (0, 57, 1), (0, 61, 3), (0, 65, 58), (0, 74, 44), (0, 77, 49)]
theorem zl_M_3 : ∀ q ∈ zm_ML3, zm_Mp q := List.forall_mem_cons.mpr ⟨zl_M_3_0, List.forall_mem_cons.mpr ⟨zl_M_3_1, List.forall_mem_cons.mpr ⟨zl_M_3_2, List.forall_mem_cons.mpr ⟨zl_M_3_3, List.forall_mem_cons.mpr ⟨zl_M_3_4, List.forall_mem_cons.mpr ⟨zl_M_3_5, List.forall_mem_cons.mpr ⟨zl_M_3_6, List.forall_mem_cons.mpr ⟨zl_M_3_7, List.forall_mem_cons.mpr ⟨zl_M_3_8, List.forall_mem_cons.mpr ⟨zl_M_3_9, List.forall_mem_cons.mpr ⟨zl_M_3_10, List.forall_mem_cons.mpr ⟨zl_M_3_11, List.forall_mem_cons.mpr ⟨zl_M_3_12, List.forall_mem_cons.mpr ⟨zl_M_3_13, List.forall_mem_cons.mpr ⟨zl_M_3_14, List.forall_mem_cons.mpr ⟨zl_M_3_15, fun _ h => absurd h List.not_mem_nil⟩⟩⟩⟩⟩⟩⟩⟩⟩⟩⟩⟩⟩⟩⟩⟩
theorem zl_M_4_0 : zm_Mp (0, 80, 57) := ⟨RX0, _, _, _, _, _, _, _, _, _, _, _, rfl, m_X8_length, zm_WL_in 604 (by decide +kernel) rfl⟩
theorem zl_M_4_1 : zm_Mp (0, 83, 9) := ⟨RX0, _, _, _, _, _, _, _, _, _, _, _, rfl, m_X0_hasPlayer, zm_WL_in 636 (by decide +kernel) rfl⟩
theorem zl_M_4_2 : zm_Mp (0, 86, 13) := ⟨RX0, _, _, _, _, _, _, _, _, _, _, _, rfl, m_X0_pickAgainst, zm_WL_in 637 (by decide +kernel) rfl⟩
theorem zl_M_4_3 : zm_Mp (0, 90, 69) := ⟨RX0, _, _, _, _, _, _, _, _, _, _, _, rfl, m_X8_turned, zm_WL_in 641 (by decide +kernel) rfl⟩
theorem zl_M_4_4 : zm_Mp (0, 93, 72) := ⟨RX0, _, _, _, _, _, _, _, _, _, _, _, rfl, m_X8_answering, zm_WL_in 647 (by decide +kernel) rfl⟩
theorem zl_M_4_5 : zm_Mp (0, 96, 70) := ⟨RX0, _, _, _, _, _, _, _, _, _, _, _, rfl, m_X8_shifted, zm_WL_in 656 (by decide +kernel) rfl⟩
theorem zl_M_4_6 : zm_Mp (0, 99, 37) := ⟨RX0, _, _, _, _, _, _, _, _, _, _, _, rfl, m_X4_bestAnswer, zm_WL_in 659 (by decide +kernel) rfl⟩
theorem zl_M_4_7 : zm_Mp (0, 104, 71) := ⟨RX0, _, _, _, _, _, _, _, _, _, _, _, rfl, m_X8_doubled, zm_WL_in 660 (by decide +kernel) rfl⟩
theorem zl_M_4_8 : zm_Mp (0, 107, 36) := ⟨RX0, _, _, _, _, _, _, _, _, _, _, _, rfl, m_X4_beats, zm_WL_in 663 (by decide +kernel) rfl⟩
theorem zl_M_4_9 : zm_Mp (0, 111, 46) := ⟨RX0, _, _, _, _, _, _, _, _, _, _, _, rfl, m_X6_dropLast, zm_WL_in 722 (by decide +kernel) rfl⟩
theorem zl_M_4_10 : zm_Mp (0, 115, 47) := ⟨RX0, _, _, _, _, _, _, _, _, _, _, _, rfl, m_X6_putOneOn, zm_WL_in 729 (by decide +kernel) rfl⟩
theorem zl_M_4_11 : zm_Mp (0, 118, 45) := ⟨RX0, _, _, _, _, _, _, _, _, _, _, _, rfl, m_X6_append, zm_WL_in 734 (by decide +kernel) rfl⟩
theorem zl_M_4_12 : zm_Mp (1, 19, 17) := ⟨RX1, _, _, _, _, _, _, _, _, _, _, _, rfl, m_X1_nextSeed, zm_WL_in 694 (by decide +kernel) rfl⟩
theorem zl_M_4_13 : zm_Mp (1, 23, 18) := ⟨RX1, _, _, _, _, _, _, _, _, _, _, _, rfl, m_X1_drawn, zm_WL_in 695 (by decide +kernel) rfl⟩
theorem zl_M_4_14 : zm_Mp (1, 27, 62) := ⟨RX1, _, _, _, _, _, _, _, _, _, _, _, rfl, m_X8_grown, zm_WL_in 696 (by decide +kernel) rfl⟩
theorem zl_M_4_15 : zm_Mp (1, 32, 63) := ⟨RX1, _, _, _, _, _, _, _, _, _, _, _, rfl, m_X8_endsWith, zm_WL_in 697 (by decide +kernel) rfl⟩
def zm_ML4 : List (Nat × Nat × Nat) := [(0, 80, 57), (0, 83, 9), (0, 86, 13), (0, 90, 69), (0, 93, 72), (0, 96, 70), (0, 99, 37), (0, 104, 71), (0, 107, 36), (0, 111, 46), (0, 115, 47), (0, 118, 45), (1, 19, 17), (1, 23, 18), (1, 27, 62), (1, 32, 63)]
theorem zl_M_4 : ∀ q ∈ zm_ML4, zm_Mp q := List.forall_mem_cons.mpr ⟨zl_M_4_0, List.forall_mem_cons.mpr ⟨zl_M_4_1, List.forall_mem_cons.mpr ⟨zl_M_4_2, List.forall_mem_cons.mpr ⟨zl_M_4_3, List.forall_mem_cons.mpr ⟨zl_M_4_4, List.forall_mem_cons.mpr ⟨zl_M_4_5, List.forall_mem_cons.mpr ⟨zl_M_4_6, List.forall_mem_cons.mpr ⟨zl_M_4_7, List.forall_mem_cons.mpr ⟨zl_M_4_8, List.forall_mem_cons.mpr ⟨zl_M_4_9, List.forall_mem_cons.mpr ⟨zl_M_4_10, List.forall_mem_cons.mpr ⟨zl_M_4_11, List.forall_mem_cons.mpr ⟨zl_M_4_12, List.forall_mem_cons.mpr ⟨zl_M_4_13, List.forall_mem_cons.mpr ⟨zl_M_4_14, List.forall_mem_cons.mpr ⟨zl_M_4_15, fun _ h => absurd h List.not_mem_nil⟩⟩⟩⟩⟩⟩⟩⟩⟩⟩⟩⟩⟩⟩⟩⟩
theorem zl_M_5_0 : zm_Mp (2, 39, 7) := ⟨RX2, _, _, _, _, _, _, _, _, _, _, _, rfl, m_X0_isInSet, zm_WL_in 466 (by decide +kernel) rfl⟩
theorem zl_M_5_1 : zm_Mp (2, 43, 3) := ⟨RX2, _, _, _, _, _, _, _, _, _, _, _, rfl, m_X0_wordAt, zm_WL_in 470 (by decide +kernel) rfl⟩
theorem zl_M_5_2 : zm_Mp (2, 47, 67) := ⟨RX2, _, _, _, _, _, _, _, _, _, _, _, rfl, m_X8_clash, zm_WL_in 475 (by decide +kernel) rfl⟩
theorem zl_M_5_3 : zm_Mp (2, 54, 24) := ⟨RX2, _, _, _, _, _, _, _, _, _, _, _, rfl, m_X2_setApart, zm_WL_in 485 (by decide +kernel) rfl⟩
theorem zl_M_5_4 : zm_Mp (2, 57, 25) := ⟨RX2, _, _, _, _, _, _, _, _, _, _, _, rfl, m_X2_weight, zm_WL_in 490 (by decide +kernel) rfl⟩
theorem zl_M_5_5 : zm_Mp (2, 61, 26) := ⟨RX2, _, _, _, _, _, _, _, _, _, _, _, rfl, m_X2_wholeWeight, zm_WL_in 497 (by decide +kernel) rfl⟩
theorem zl_M_5_6 : zm_Mp (2, 65, 32) := ⟨RX2, _, _, _, _, _, _, _, _, _, _, _, rfl, m_X3_partOf, zm_WL_in 501 (by decide +kernel) rfl⟩
theorem zl_M_5_7 : zm_Mp (2, 71, 65) := ⟨RX2, _, _, _, _, _, _, _, _, _, _, _, rfl, m_X8_numberOn, zm_WL_in 489 (by decide +kernel) rfl⟩
theorem zl_M_5_8 : zm_Mp (2, 75, 27) := ⟨RX2, _, _, _, _, _, _, _, _, _, _, _, rfl, m_X2_minor, zm_WL_in 494 (by decide +kernel) rfl⟩
theorem zl_M_5_9 : zm_Mp (2, 79, 29) := ⟨RX2, _, _, _, _, _, _, _, _, _, _, _, rfl, m_X2_countEndings, zm_WL_in 518 (by decide +kernel) rfl⟩
theorem zl_M_5_10 : zm_Mp (2, 83, 30) := ⟨RX2, _, _, _, _, _, _, _, _, _, _, _, rfl, m_X2_endingsAt, zm_WL_in 522 (by decide +kernel) rfl⟩
theorem zl_M_5_11 : zm_Mp (2, 87, 57) := ⟨RX2, _, _, _, _, _, _, _, _, _, _, _, rfl, m_X8_length, zm_WL_in 526 (by decide +kernel) rfl⟩
theorem zl_M_5_12 : zm_Mp (2, 90, 64) := ⟨RX2, _, _, _, _, _, _, _, _, _, _, _, rfl, m_X8_overlapBits, zm_WL_in 527 (by decide +kernel) rfl⟩
theorem zl_M_5_13 : zm_Mp (3, 9, 33) := ⟨RX3, _, _, _, _, _, _, _, _, _, _, _, rfl, m_X3_commonDivisor, zm_WL_in 404 (by decide +kernel) rfl⟩
theorem zl_M_5_14 : zm_Mp (4, 9, 65) := ⟨RX4, _, _, _, _, _, _, _, _, _, _, _, rfl, m_X8_numberOn, zm_WL_in 358 (by decide +kernel) rfl⟩
theorem zl_M_5_15 : zm_Mp (4, 15, 67) := ⟨RX4, _, _, _, _, _, _, _, _, _, _, _, rfl, m_X8_clash, zm_WL_in 393 (by decide +kernel) rfl⟩
def zm_ML5 : List (Nat × Nat × Nat) := [(2, 39, 7), (2, 43, 3), (2, 47, 67), (2, 54, 24), (2, 57, 25), (2, 61, 26), (2, 65, 32), (2, 71, 65), (2, 75, 27), (2, 79, 29), (2, 83, 30), (2, 87, 57), (2, 90, 64), (3, 9, 33), (4, 9, 65), (4, 15, 67)]
theorem zl_M_5 : ∀ q ∈ zm_ML5, zm_Mp q := List.forall_mem_cons.mpr ⟨zl_M_5_0, List.forall_mem_cons.mpr ⟨zl_M_5_1, List.forall_mem_cons.mpr ⟨zl_M_5_2, List.forall_mem_cons.mpr ⟨zl_M_5_3, List.forall_mem_cons.mpr ⟨zl_M_5_4, List.forall_mem_cons.mpr ⟨zl_M_5_5, List.forall_mem_cons.mpr ⟨zl_M_5_6, List.forall_mem_cons.mpr ⟨zl_M_5_7, List.forall_mem_cons.mpr ⟨zl_M_5_8, List.forall_mem_cons.mpr ⟨zl_M_5_9, List.forall_mem_cons.mpr ⟨zl_M_5_10, List.forall_mem_cons.mpr ⟨zl_M_5_11, List.forall_mem_cons.mpr ⟨zl_M_5_12, List.forall_mem_cons.mpr ⟨zl_M_5_13, List.forall_mem_cons.mpr ⟨zl_M_5_14, List.forall_mem_cons.mpr ⟨zl_M_5_15, fun _ h => absurd h List.not_mem_nil⟩⟩⟩⟩⟩⟩⟩⟩⟩⟩⟩⟩⟩⟩⟩⟩
theorem zl_M_6_0 : zm_Mp (4, 21, 34) := ⟨RX4, _, _, _, _, _, _, _, _, _, _, _, rfl, m_X4_share, zm_WL_in 398 (by decide +kernel) rfl⟩
theorem zl_M_6_1 : zm_Mp (4, 26, 32) := ⟨RX4, _, _, _, _, _, _, _, _, _, _, _, rfl, m_X3_partOf, zm_WL_in 401 (by decide +kernel) rfl⟩
theorem zl_M_6_2 : zm_Mp (4, 32, 57) := ⟨RX4, _, _, _, _, _, _, _, _, _, _, _, rfl, m_X8_length, zm_WL_in 359 (by decide +kernel) rfl⟩
theorem zl_M_6_3 : zm_Mp (4, 36, 74) := ⟨RX4, _, _, _, _, _, _, _, _, _, _, _, rfl, m_X8_least, zm_WL_in 360 (by decide +kernel) rfl⟩
theorem zl_M_6_4 : zm_Mp (4, 39, 75) := ⟨RX4, _, _, _, _, _, _, _, _, _, _, _, rfl, m_X8_following, zm_WL_in 363 (by decide +kernel) rfl⟩
theorem zl_M_6_5 : zm_Mp (5, 30, 3) := ⟨RX5, _, _, _, _, _, _, _, _, _, _, _, rfl, m_X0_wordAt, zm_WL_in 429 (by decide +kernel) rfl⟩
theorem zl_M_6_6 : zm_Mp (5, 37, 36) := ⟨RX5, _, _, _, _, _, _, _, _, _, _, _, rfl, m_X4_beats, zm_WL_in 430 (by decide +kernel) rfl⟩
theorem zl_M_6_7 : zm_Mp (5, 43, 40) := ⟨RX5, _, _, _, _, _, _, _, _, _, _, _, rfl, m_X5_closes, zm_WL_in 433 (by decide +kernel) rfl⟩
theorem zl_M_6_8 : zm_Mp (5, 47, 41) := ⟨RX5, _, _, _, _, _, _, _, _, _, _, _, rfl, m_X5_isBeaten, zm_WL_in 436 (by decide +kernel) rfl⟩
theorem zl_M_6_9 : zm_Mp (6, 25, 43) := ⟨RX6, _, _, _, _, _, _, _, _, _, _, _, rfl, m_X6_hasPlace, zm_WL_in 297 (by decide +kernel) rfl⟩
theorem zl_M_6_10 : zm_Mp (6, 35, 68) := ⟨RX6, _, _, _, _, _, _, _, _, _, _, _, rfl, m_X8_oneOn, zm_WL_in 733 (by decide +kernel) rfl⟩
theorem zl_M_6_11 : zm_Mp (6, 40, 44) := ⟨RX6, _, _, _, _, _, _, _, _, _, _, _, rfl, m_X6_letterAt, zm_WL_in 564 (by decide +kernel) rfl⟩
theorem zl_M_6_12 : zm_Mp (6, 44, 62) := ⟨RX6, _, _, _, _, _, _, _, _, _, _, _, rfl, m_X8_grown, zm_WL_in 565 (by decide +kernel) rfl⟩
theorem zl_M_6_13 : zm_Mp (6, 47, 63) := ⟨RX6, _, _, _, _, _, _, _, _, _, _, _, rfl, m_X8_endsWith, zm_WL_in 568 (by decide +kernel) rfl⟩
theorem zl_M_6_14 : zm_Mp (6, 51, 57) := ⟨RX6, _, _, _, _, _, _, _, _, _, _, _, rfl, m_X8_length, zm_WL_in 592 (by decide +kernel) rfl⟩
theorem zl_M_6_15 : zm_Mp (6, 54, 60) := ⟨RX6, _, _, _, _, _, _, _, _, _, _, _, rfl, m_X8_firstLetters, zm_WL_in 593 (by decide +kernel) rfl⟩
def zm_ML6 : List (Nat × Nat × Nat) := [(4, 21, 34), (4, 26, 32), (4, 32, 57), (4, 36, 74), (4, 39, 75), (5, 30, 3), (5, 37, 36), (5, 43, 40), (5, 47, 41), (6, 25, 43), (6, 35, 68), (6, 40, 44), (6, 44, 62), (6, 47, 63), (6, 51, 57), (6, 54, 60)]
theorem zl_M_6 : ∀ q ∈ zm_ML6, zm_Mp q := List.forall_mem_cons.mpr ⟨zl_M_6_0, List.forall_mem_cons.mpr ⟨zl_M_6_1, List.forall_mem_cons.mpr ⟨zl_M_6_2, List.forall_mem_cons.mpr ⟨zl_M_6_3, List.forall_mem_cons.mpr ⟨zl_M_6_4, List.forall_mem_cons.mpr ⟨zl_M_6_5, List.forall_mem_cons.mpr ⟨zl_M_6_6, List.forall_mem_cons.mpr ⟨zl_M_6_7, List.forall_mem_cons.mpr ⟨zl_M_6_8, List.forall_mem_cons.mpr ⟨zl_M_6_9, List.forall_mem_cons.mpr ⟨zl_M_6_10, List.forall_mem_cons.mpr ⟨zl_M_6_11, List.forall_mem_cons.mpr ⟨zl_M_6_12, List.forall_mem_cons.mpr ⟨zl_M_6_13, List.forall_mem_cons.mpr ⟨zl_M_6_14, List.forall_mem_cons.mpr ⟨zl_M_6_15, fun _ h => absurd h List.not_mem_nil⟩⟩⟩⟩⟩⟩⟩⟩⟩⟩⟩⟩⟩⟩⟩⟩
theorem zl_M_7_0 : zm_Mp (6, 57, 61) := ⟨RX6, _, _, _, _, _, _, _, _, _, _, _, rfl, m_X8_lastLetters, zm_WL_in 594 (by decide +kernel) rfl⟩
theorem zl_M_7_1 : zm_Mp (7, 31, 53) := ⟨RX7, _, _, _, _, _, _, _, _, _, _, _, rfl, m_X7_goesOn, zm_WL_in 317 (by decide +kernel) rfl⟩
theorem zl_M_7_2 : zm_Mp (7, 35, 55) := ⟨RX7, _, _, _, _, _, _, _, _, _, _, _, rfl, m_X7_endClause, zm_WL_in 321 (by decide +kernel) rfl⟩
theorem zl_M_7_3 : zm_Mp (7, 39, 54) := ⟨RX7, _, _, _, _, _, _, _, _, _, _, _, rfl, m_X7_addLetters, zm_WL_in 325 (by decide +kernel) rfl⟩
theorem zl_M_7_4 : zm_Mp (7, 42, 57) := ⟨RX7, _, _, _, _, _, _, _, _, _, _, _, rfl, m_X8_length, zm_WL_in 329 (by decide +kernel) rfl⟩
theorem zl_M_7_5 : zm_Mp (8, 15, 56) := ⟨RX8, _, _, _, _, _, _, _, _, _, _, _, rfl, m_X8_tens, zm_WL_in 282 (by decide +kernel) rfl⟩
theorem zl_M_7_6 : zm_Mp (8, 19, 57) := ⟨RX8, _, _, _, _, _, _, _, _, _, _, _, rfl, m_X8_length, zm_WL_in 287 (by decide +kernel) rfl⟩
theorem zl_M_7_7 : zm_Mp (8, 22, 60) := ⟨RX8, _, _, _, _, _, _, _, _, _, _, _, rfl, m_X8_firstLetters, zm_WL_in 290 (by decide +kernel) rfl⟩
theorem zl_M_7_8 : zm_Mp (8, 26, 61) := ⟨RX8, _, _, _, _, _, _, _, _, _, _, _, rfl, m_X8_lastLetters, zm_WL_in 571 (by decide +kernel) rfl⟩
theorem zl_M_7_9 : zm_Mp (8, 34, 64) := ⟨RX8, _, _, _, _, _, _, _, _, _, _, _, rfl, m_X8_overlapBits, zm_WL_in 349 (by decide +kernel) rfl⟩
theorem zl_M_7_10 : zm_Mp (8, 37, 66) := ⟨RX8, _, _, _, _, _, _, _, _, _, _, _, rfl, m_X8_standsIn, zm_WL_in 396 (by decide +kernel) rfl⟩
theorem zl_M_7_11 : zm_Mp (8, 41, 59) := ⟨RX8, _, _, _, _, _, _, _, _, _, _, _, rfl, m_X8_letterAt, zm_WL_in 644 (by decide +kernel) rfl⟩
theorem zl_M_7_12 : zm_Mp (8, 44, 68) := ⟨RX8, _, _, _, _, _, _, _, _, _, _, _, rfl, m_X8_oneOn, zm_WL_in 650 (by decide +kernel) rfl⟩
theorem zl_M_7_13 : zm_Mp (8, 47, 73) := ⟨RX8, _, _, _, _, _, _, _, _, _, _, _, rfl, m_X8_ledBy, zm_WL_in 653 (by decide +kernel) rfl⟩
theorem zl_M_7_14 : zm_Mp (16, 13, 76) := ⟨RL, _, _, _, _, _, _, _, _, _, _, _, rfl, m_X9_sides, zm_WL_in 263 (by decide +kernel) rfl⟩
theorem zl_M_7_15 : zm_Mp (16, 17, 144) := ⟨RL, _, _, _, _, _, _, _, _, _, _, _, rfl, m_X10_sides, zm_WL_in 891 (by decide +kernel) rfl⟩
def zm_ML7 : List (Nat × Nat × Nat) := [(6, 57, 61), (7, 31, 53), (7, 35, 55), (7, 39, 54), (7, 42, 57), (8, 15, 56), (8, 19, 57), (8, 22, 60), (8, 26, 61), (8, 34, 64), (8, 37, 66), (8, 41, 59), (8, 44, 68), (8, 47, 73), (16, 13, 76), (16, 17, 144)]
theorem zl_M_7 : ∀ q ∈ zm_ML7, zm_Mp q := List.forall_mem_cons.mpr ⟨zl_M_7_0, List.forall_mem_cons.mpr ⟨zl_M_7_1, List.forall_mem_cons.mpr ⟨zl_M_7_2, List.forall_mem_cons.mpr ⟨zl_M_7_3, List.forall_mem_cons.mpr ⟨zl_M_7_4, List.forall_mem_cons.mpr ⟨zl_M_7_5, List.forall_mem_cons.mpr ⟨zl_M_7_6, List.forall_mem_cons.mpr ⟨zl_M_7_7, List.forall_mem_cons.mpr ⟨zl_M_7_8, List.forall_mem_cons.mpr ⟨zl_M_7_9, List.forall_mem_cons.mpr ⟨zl_M_7_10, List.forall_mem_cons.mpr ⟨zl_M_7_11, List.forall_mem_cons.mpr ⟨zl_M_7_12, List.forall_mem_cons.mpr ⟨zl_M_7_13, List.forall_mem_cons.mpr ⟨zl_M_7_14, List.forall_mem_cons.mpr ⟨zl_M_7_15, fun _ h => absurd h List.not_mem_nil⟩⟩⟩⟩⟩⟩⟩⟩⟩⟩⟩⟩⟩⟩⟩⟩
theorem zl_M_8_0 : zm_Mp (16, 18, 77) := ⟨RL, _, _, _, _, _, _, _, _, _, _, _, rfl, m_X9_feed, zm_WL_in 301 (by decide +kernel) rfl⟩
theorem zl_M_8_1 : zm_Mp (16, 21, 145) := ⟨RL, _, _, _, _, _, _, _, _, _, _, _, rfl, m_X10_feed, zm_WL_in 901 (by decide +kernel) rfl⟩
theorem zl_M_8_2 : zm_Mp (16, 22, 78) := ⟨RL, _, _, _, _, _, _, _, _, _, _, _, rfl, m_X9_words, zm_WL_in 309 (by decide +kernel) rfl⟩
theorem zl_M_8_3 : zm_Mp (16, 26, 148) := ⟨RL, _, _, _, _, _, _, _, _, _, _, _, rfl, m_X10_words, zm_WL_in 905 (by decide +kernel) rfl⟩
theorem zl_M_8_4 : zm_Mp (16, 27, 79) := ⟨RL, _, _, _, _, _, _, _, _, _, _, _, rfl, m_X9_becomes, zm_WL_in 334 (by decide +kernel) rfl⟩
theorem zl_M_8_5 : zm_Mp (16, 31, 149) := ⟨RL, _, _, _, _, _, _, _, _, _, _, _, rfl, m_X10_becomes, zm_WL_in 917 (by decide +kernel) rfl⟩
theorem zl_M_8_6 : zm_Mp (16, 32, 80) := ⟨RL, _, _, _, _, _, _, _, _, _, _, _, rfl, m_X9_of, zm_WL_in 340 (by decide +kernel) rfl⟩
theorem zl_M_8_7 : zm_Mp (16, 35, 150) := ⟨RL, _, _, _, _, _, _, _, _, _, _, _, rfl, m_X10_of, zm_WL_in 932 (by decide +kernel) rfl⟩
theorem zl_M_8_8 : zm_Mp (16, 36, 81) := ⟨RL, _, _, _, _, _, _, _, _, _, _, _, rfl, m_X9_overlaps, zm_WL_in 366 (by decide +kernel) rfl⟩
theorem zl_M_8_9 : zm_Mp (16, 39, 151) := ⟨RL, _, _, _, _, _, _, _, _, _, _, _, rfl, m_X10_overlaps, zm_WL_in 955 (by decide +kernel) rfl⟩
theorem zl_M_8_10 : zm_Mp (16, 40, 82) := ⟨RL, _, _, _, _, _, _, _, _, _, _, _, rfl, m_X9_number, zm_WL_in 371 (by decide +kernel) rfl⟩
theorem zl_M_8_11 : zm_Mp (16, 43, 152) := ⟨RL, _, _, _, _, _, _, _, _, _, _, _, rfl, m_X10_number, zm_WL_in 959 (by decide +kernel) rfl⟩
theorem zl_M_8_12 : zm_Mp (16, 44, 83) := ⟨RL, _, _, _, _, _, _, _, _, _, _, _, rfl, m_X9_isIn, zm_WL_in 375 (by decide +kernel) rfl⟩
theorem zl_M_8_13 : zm_Mp (16, 47, 153) := ⟨RL, _, _, _, _, _, _, _, _, _, _, _, rfl, m_X10_isIn, zm_WL_in 963 (by decide +kernel) rfl⟩
theorem zl_M_8_14 : zm_Mp (16, 48, 84) := ⟨RL, _, _, _, _, _, _, _, _, _, _, _, rfl, m_X9_chance, zm_WL_in 382 (by decide +kernel) rfl⟩
theorem zl_M_8_15 : zm_Mp (16, 52, 154) := ⟨RL, _, _, _, _, _, _, _, _, _, _, _, rfl, m_X10_chance, zm_WL_in 970 (by decide +kernel) rfl⟩
def zm_ML8 : List (Nat × Nat × Nat) := [(16, 18, 77), (16, 21, 145), (16, 22, 78), (16, 26, 148), (16, 27, 79), (16, 31, 149), (16, 32, 80), (16, 35, 150), (16, 36, 81), (16, 39, 151), (16, 40, 82), (16, 43, 152), (16, 44, 83), (16, 47, 153), (16, 48, 84), (16, 52, 154)]
theorem zl_M_8 : ∀ q ∈ zm_ML8, zm_Mp q := List.forall_mem_cons.mpr ⟨zl_M_8_0, List.forall_mem_cons.mpr ⟨zl_M_8_1, List.forall_mem_cons.mpr ⟨zl_M_8_2, List.forall_mem_cons.mpr ⟨zl_M_8_3, List.forall_mem_cons.mpr ⟨zl_M_8_4, List.forall_mem_cons.mpr ⟨zl_M_8_5, List.forall_mem_cons.mpr ⟨zl_M_8_6, List.forall_mem_cons.mpr ⟨zl_M_8_7, List.forall_mem_cons.mpr ⟨zl_M_8_8, List.forall_mem_cons.mpr ⟨zl_M_8_9, List.forall_mem_cons.mpr ⟨zl_M_8_10, List.forall_mem_cons.mpr ⟨zl_M_8_11, List.forall_mem_cons.mpr ⟨zl_M_8_12, List.forall_mem_cons.mpr ⟨zl_M_8_13, List.forall_mem_cons.mpr ⟨zl_M_8_14, List.forall_mem_cons.mpr ⟨zl_M_8_15, fun _ h => absurd h List.not_mem_nil⟩⟩⟩⟩⟩⟩⟩⟩⟩⟩⟩⟩⟩⟩⟩⟩
theorem zl_M_9_0 : zm_Mp (16, 53, 85) := ⟨RL, _, _, _, _, _, _, _, _, _, _, _, rfl, m_X9_answered, zm_WL_in 408 (by decide +kernel) rfl⟩
theorem zl_M_9_1 : zm_Mp (16, 57, 155) := ⟨RL, _, _, _, _, _, _, _, _, _, _, _, rfl, m_X10_answered, zm_WL_in 988 (by decide +kernel) rfl⟩
theorem zl_M_9_2 : zm_Mp (16, 58, 86) := ⟨RL, _, _, _, _, _, _, _, _, _, _, _, rfl, m_X9_trail, zm_WL_in 412 (by decide +kernel) rfl⟩
theorem zl_M_9_3 : zm_Mp (16, 61, 156) := ⟨RL, _, _, _, _, _, _, _, _, _, _, _, rfl, m_X10_trail, zm_WL_in 992 (by decide +kernel) rfl⟩
theorem zl_M_9_4 : zm_Mp (16, 62, 87) := ⟨RL, _, _, _, _, _, _, _, _, _, _, _, rfl, m_X9_ring, zm_WL_in 420 (by decide +kernel) rfl⟩
theorem zl_M_9_5 : zm_Mp (16, 65, 158) := ⟨RL, _, _, _, _, _, _, _, _, _, _, _, rfl, m_X10_ring, zm_WL_in 996 (by decide +kernel) rfl⟩
theorem zl_M_9_6 : zm_Mp (16, 66, 88) := ⟨RL, _, _, _, _, _, _, _, _, _, _, _, rfl, m_X9_field, zm_WL_in 444 (by decide +kernel) rfl⟩
theorem zl_M_9_7 : zm_Mp (16, 69, 164) := ⟨RL, _, _, _, _, _, _, _, _, _, _, _, rfl, m_X10_field, zm_WL_in 1008 (by decide +kernel) rfl⟩
theorem zl_M_9_8 : zm_Mp (16, 70, 89) := ⟨RL, _, _, _, _, _, _, _, _, _, _, _, rfl, m_X9_mean, zm_WL_in 502 (by decide +kernel) rfl⟩
theorem zl_M_9_9 : zm_Mp (16, 73, 165) := ⟨RL, _, _, _, _, _, _, _, _, _, _, _, rfl, m_X10_mean, zm_WL_in 1034 (by decide +kernel) rfl⟩
theorem zl_M_9_10 : zm_Mp (16, 74, 90) := ⟨RL, _, _, _, _, _, _, _, _, _, _, _, rfl, m_X9_within, zm_WL_in 510 (by decide +kernel) rfl⟩
theorem zl_M_9_11 : zm_Mp (16, 78, 167) := ⟨RL, _, _, _, _, _, _, _, _, _, _, _, rfl, m_X10_within, zm_WL_in 1038 (by decide +kernel) rfl⟩
theorem zl_M_9_12 : zm_Mp (16, 79, 91) := ⟨RL, _, _, _, _, _, _, _, _, _, _, _, rfl, m_X9_cast, zm_WL_in 528 (by decide +kernel) rfl⟩
theorem zl_M_9_13 : zm_Mp (16, 82, 169) := ⟨RL, _, _, _, _, _, _, _, _, _, _, _, rfl, m_X10_cast, zm_WL_in 1052 (by decide +kernel) rfl⟩
theorem zl_M_9_14 : zm_Mp (16, 83, 92) := ⟨RL, _, _, _, _, _, _, _, _, _, _, _, rfl, m_X9_casts, zm_WL_in 536 (by decide +kernel) rfl⟩
theorem zl_M_9_15 : zm_Mp (16, 86, 171) := ⟨RL, _, _, _, _, _, _, _, _, _, _, _, rfl, m_X10_casts, zm_WL_in 1056 (by decide +kernel) rfl⟩
def zm_ML9 : List (Nat × Nat × Nat) := [(16, 53, 85), (16, 57, 155), (16, 58, 86), (16, 61, 156), (16, 62, 87), (16, 65, 158), (16, 66, 88), (16, 69, 164), (16, 70, 89), (16, 73, 165), (16, 74, 90), (16, 78, 167), (16, 79, 91), (16, 82, 169), (16, 83, 92), (16, 86, 171)]
theorem zl_M_9 : ∀ q ∈ zm_ML9, zm_Mp q := List.forall_mem_cons.mpr ⟨zl_M_9_0, List.forall_mem_cons.mpr ⟨zl_M_9_1, List.forall_mem_cons.mpr ⟨zl_M_9_2, List.forall_mem_cons.mpr ⟨zl_M_9_3, List.forall_mem_cons.mpr ⟨zl_M_9_4, List.forall_mem_cons.mpr ⟨zl_M_9_5, List.forall_mem_cons.mpr ⟨zl_M_9_6, List.forall_mem_cons.mpr ⟨zl_M_9_7, List.forall_mem_cons.mpr ⟨zl_M_9_8, List.forall_mem_cons.mpr ⟨zl_M_9_9, List.forall_mem_cons.mpr ⟨zl_M_9_10, List.forall_mem_cons.mpr ⟨zl_M_9_11, List.forall_mem_cons.mpr ⟨zl_M_9_12, List.forall_mem_cons.mpr ⟨zl_M_9_13, List.forall_mem_cons.mpr ⟨zl_M_9_14, List.forall_mem_cons.mpr ⟨zl_M_9_15, fun _ h => absurd h List.not_mem_nil⟩⟩⟩⟩⟩⟩⟩⟩⟩⟩⟩⟩⟩⟩⟩⟩
theorem zl_M_10_0 : zm_Mp (16, 87, 93) := ⟨RL, _, _, _, _, _, _, _, _, _, _, _, rfl, m_X9_wipe, zm_WL_in 547 (by decide +kernel) rfl⟩
theorem zl_M_10_1 : zm_Mp (16, 90, 172) := ⟨RL, _, _, _, _, _, _, _, _, _, _, _, rfl, m_X10_wipe, zm_WL_in 1065 (by decide +kernel) rfl⟩
theorem zl_M_10_2 : zm_Mp (16, 91, 94) := ⟨RL, _, _, _, _, _, _, _, _, _, _, _, rfl, m_X9_strip, zm_WL_in 551 (by decide +kernel) rfl⟩
theorem zl_M_10_3 : zm_Mp (16, 94, 173) := ⟨RL, _, _, _, _, _, _, _, _, _, _, _, rfl, m_X10_strip, zm_WL_in 1069 (by decide +kernel) rfl⟩
theorem zl_M_10_4 : zm_Mp (16, 95, 95) := ⟨RL, _, _, _, _, _, _, _, _, _, _, _, rfl, m_X9_ends, zm_WL_in 556 (by decide +kernel) rfl⟩
theorem zl_M_10_5 : zm_Mp (16, 99, 175) := ⟨RL, _, _, _, _, _, _, _, _, _, _, _, rfl, m_X10_ends, zm_WL_in 1073 (by decide +kernel) rfl⟩
theorem zl_M_10_6 : zm_Mp (16, 100, 96) := ⟨RL, _, _, _, _, _, _, _, _, _, _, _, rfl, m_X9_seen, zm_WL_in 574 (by decide +kernel) rfl⟩
theorem zl_M_10_7 : zm_Mp (16, 103, 178) := ⟨RL, _, _, _, _, _, _, _, _, _, _, _, rfl, m_X10_seen, zm_WL_in 1081 (by decide +kernel) rfl⟩
theorem zl_M_10_8 : zm_Mp (16, 104, 97) := ⟨RL, _, _, _, _, _, _, _, _, _, _, _, rfl, m_X9_who, zm_WL_in 595 (by decide +kernel) rfl⟩
theorem zl_M_10_9 : zm_Mp (16, 107, 179) := ⟨RL, _, _, _, _, _, _, _, _, _, _, _, rfl, m_X10_who, zm_WL_in 1095 (by decide +kernel) rfl⟩
theorem zl_M_10_10 : zm_Mp (16, 108, 98) := ⟨RL, _, _, _, _, _, _, _, _, _, _, _, rfl, m_X9_were, zm_WL_in 605 (by decide +kernel) rfl⟩
theorem zl_M_10_11 : zm_Mp (16, 111, 180) := ⟨RL, _, _, _, _, _, _, _, _, _, _, _, rfl, m_X10_were, zm_WL_in 1099 (by decide +kernel) rfl⟩
theorem zl_M_10_12 : zm_Mp (16, 112, 99) := ⟨RL, _, _, _, _, _, _, _, _, _, _, _, rfl, m_X9_player, zm_WL_in 616 (by decide +kernel) rfl⟩
theorem zl_M_10_13 : zm_Mp (16, 115, 181) := ⟨RL, _, _, _, _, _, _, _, _, _, _, _, rfl, m_X10_player, zm_WL_in 1104 (by decide +kernel) rfl⟩
theorem zl_M_10_14 : zm_Mp (16, 116, 100) := ⟨RL, _, _, _, _, _, _, _, _, _, _, _, rfl, m_X9_playerOf, zm_WL_in 624 (by decide +kernel) rfl⟩
theorem zl_M_10_15 : zm_Mp (16, 119, 189) := ⟨RL, _, _, _, _, _, _, _, _, _, _, _, rfl, m_X10_playerOf, zm_WL_in 1108 (by decide +kernel) rfl⟩
def zm_ML10 : List (Nat × Nat × Nat) := [(16, 87, 93), (16, 90, 172), (16, 91, 94), (16, 94, 173), (16, 95, 95), (16, 99, 175), (16, 100, 96), (16, 103, 178), (16, 104, 97), (16, 107, 179), (16, 108, 98), (16, 111, 180), (16, 112, 99), (16, 115, 181), (16, 116, 100), (16, 119, 189)]
theorem zl_M_10 : ∀ q ∈ zm_ML10, zm_Mp q := List.forall_mem_cons.mpr ⟨zl_M_10_0, List.forall_mem_cons.mpr ⟨zl_M_10_1, List.forall_mem_cons.mpr ⟨zl_M_10_2, List.forall_mem_cons.mpr ⟨zl_M_10_3, List.forall_mem_cons.mpr ⟨zl_M_10_4, List.forall_mem_cons.mpr ⟨zl_M_10_5, List.forall_mem_cons.mpr ⟨zl_M_10_6, List.forall_mem_cons.mpr ⟨zl_M_10_7, List.forall_mem_cons.mpr ⟨zl_M_10_8, List.forall_mem_cons.mpr ⟨zl_M_10_9, List.forall_mem_cons.mpr ⟨zl_M_10_10, List.forall_mem_cons.mpr ⟨zl_M_10_11, List.forall_mem_cons.mpr ⟨zl_M_10_12, List.forall_mem_cons.mpr ⟨zl_M_10_13, List.forall_mem_cons.mpr ⟨zl_M_10_14, List.forall_mem_cons.mpr ⟨zl_M_10_15, fun _ h => absurd h List.not_mem_nil⟩⟩⟩⟩⟩⟩⟩⟩⟩⟩⟩⟩⟩⟩⟩⟩
theorem zl_M_11_0 : zm_Mp (16, 120, 101) := ⟨RL, _, _, _, _, _, _, _, _, _, _, _, rfl, m_X9_pick, zm_WL_in 664 (by decide +kernel) rfl⟩
theorem zl_M_11_1 : zm_Mp (16, 123, 191) := ⟨RL, _, _, _, _, _, _, _, _, _, _, _, rfl, m_X10_pick, zm_WL_in 1142 (by decide +kernel) rfl⟩
theorem zl_M_11_2 : zm_Mp (16, 124, 102) := ⟨RL, _, _, _, _, _, _, _, _, _, _, _, rfl, m_X9_match, zm_WL_in 677 (by decide +kernel) rfl⟩
theorem zl_M_11_3 : zm_Mp (16, 127, 192) := ⟨RL, _, _, _, _, _, _, _, _, _, _, _, rfl, m_X10_match, zm_WL_in 1150 (by decide +kernel) rfl⟩
theorem zl_M_11_4 : zm_Mp (16, 128, 103) := ⟨RL, _, _, _, _, _, _, _, _, _, _, _, rfl, m_X9_duel, zm_WL_in 681 (by decide +kernel) rfl⟩
theorem zl_M_11_5 : zm_Mp (16, 132, 194) := ⟨RL, _, _, _, _, _, _, _, _, _, _, _, rfl, m_X10_duel, zm_WL_in 1154 (by decide +kernel) rfl⟩
theorem zl_M_11_6 : zm_Mp (16, 133, 104) := ⟨RL, _, _, _, _, _, _, _, _, _, _, _, rfl, m_X9_odds, zm_WL_in 698 (by decide +kernel) rfl⟩
theorem zl_M_11_7 : zm_Mp (16, 137, 195) := ⟨RL, _, _, _, _, _, _, _, _, _, _, _, rfl, m_X10_odds, zm_WL_in 1163 (by decide +kernel) rfl⟩
theorem zl_M_11_8 : zm_Mp (16, 138, 105) := ⟨RL, _, _, _, _, _, _, _, _, _, _, _, rfl, m_X9_plan, zm_WL_in 703 (by decide +kernel) rfl⟩
theorem zl_M_11_9 : zm_Mp (16, 141, 196) := ⟨RL, _, _, _, _, _, _, _, _, _, _, _, rfl, m_X10_plan, zm_WL_in 1167 (by decide +kernel) rfl⟩
theorem zl_M_11_10 : zm_Mp (16, 142, 106) := ⟨RL, _, _, _, _, _, _, _, _, _, _, _, rfl, m_X9_behind, zm_WL_in 714 (by decide +kernel) rfl⟩
theorem zl_M_11_11 : zm_Mp (16, 145, 198) := ⟨RL, _, _, _, _, _, _, _, _, _, _, _, rfl, m_X10_behind, zm_WL_in 1171 (by decide +kernel) rfl⟩
theorem zl_M_11_12 : zm_Mp (16, 146, 107) := ⟨RL, _, _, _, _, _, _, _, _, _, _, _, rfl, m_X9_write, zm_WL_in 735 (by decide +kernel) rfl⟩
theorem zl_M_11_13 : zm_Mp (16, 149, 199) := ⟨RL, _, _, _, _, _, _, _, _, _, _, _, rfl, m_X10_write, zm_WL_in 1180 (by decide +kernel) rfl⟩
theorem zl_M_11_14 : zm_Mp (16, 150, 108) := ⟨RL, _, _, _, _, _, _, _, _, _, _, _, rfl, m_X9_paper, zm_WL_in 751 (by decide +kernel) rfl⟩
theorem zl_M_11_15 : zm_Mp (16, 153, 200) := ⟨RL, _, _, _, _, _, _, _, _, _, _, _, rfl, m_X10_paper, zm_WL_in 1184 (by decide +kernel) rfl⟩
def zm_ML11 : List (Nat × Nat × Nat) := [(16, 120, 101), (16, 123, 191), (16, 124, 102), (16, 127, 192), (16, 128, 103), (16, 132, 194), (16, 133, 104), (16, 137, 195), (16, 138, 105), (16, 141, 196), (16, 142, 106), (16, 145, 198), (16, 146, 107), (16, 149, 199), (16, 150, 108), (16, 153, 200)]
theorem zl_M_11 : ∀ q ∈ zm_ML11, zm_Mp q := List.forall_mem_cons.mpr ⟨zl_M_11_0, List.forall_mem_cons.mpr ⟨zl_M_11_1, List.forall_mem_cons.mpr ⟨zl_M_11_2, List.forall_mem_cons.mpr ⟨zl_M_11_3, List.forall_mem_cons.mpr ⟨zl_M_11_4, List.forall_mem_cons.mpr ⟨zl_M_11_5, List.forall_mem_cons.mpr ⟨zl_M_11_6, List.forall_mem_cons.mpr ⟨zl_M_11_7, List.forall_mem_cons.mpr ⟨zl_M_11_8, List.forall_mem_cons.mpr ⟨zl_M_11_9, List.forall_mem_cons.mpr ⟨zl_M_11_10, List.forall_mem_cons.mpr ⟨zl_M_11_11, List.forall_mem_cons.mpr ⟨zl_M_11_12, List.forall_mem_cons.mpr ⟨zl_M_11_13, List.forall_mem_cons.mpr ⟨zl_M_11_14, List.forall_mem_cons.mpr ⟨zl_M_11_15, fun _ h => absurd h List.not_mem_nil⟩⟩⟩⟩⟩⟩⟩⟩⟩⟩⟩⟩⟩⟩⟩⟩
theorem zl_M_12_0 : zm_Mp (16, 154, 109) := ⟨RL, _, _, _, _, _, _, _, _, _, _, _, rfl, m_X9_judge, zm_WL_in 755 (by decide +kernel) rfl⟩
theorem zl_M_12_1 : zm_Mp (16, 157, 201) := ⟨RL, _, _, _, _, _, _, _, _, _, _, _, rfl, m_X10_judge, zm_WL_in 1188 (by decide +kernel) rfl⟩
theorem zl_M_12_2 : zm_Mp (16, 158, 110) := ⟨RL, _, _, _, _, _, _, _, _, _, _, _, rfl, m_X9_list, zm_WL_in 762 (by decide +kernel) rfl⟩
theorem zl_M_12_3 : zm_Mp (16, 161, 202) := ⟨RL, _, _, _, _, _, _, _, _, _, _, _, rfl, m_X10_list, zm_WL_in 1195 (by decide +kernel) rfl⟩
theorem zl_M_12_4 : zm_Mp (16, 162, 111) := ⟨RL, _, _, _, _, _, _, _, _, _, _, _, rfl, m_X9_put, zm_WL_in 766 (by decide +kernel) rfl⟩
theorem zl_M_12_5 : zm_Mp (16, 165, 203) := ⟨RL, _, _, _, _, _, _, _, _, _, _, _, rfl, m_X10_put, zm_WL_in 1199 (by decide +kernel) rfl⟩
theorem zl_M_12_6 : zm_Mp (16, 166, 112) := ⟨RL, _, _, _, _, _, _, _, _, _, _, _, rfl, m_X9_get, zm_WL_in 774 (by decide +kernel) rfl⟩
theorem zl_M_12_7 : zm_Mp (16, 169, 204) := ⟨RL, _, _, _, _, _, _, _, _, _, _, _, rfl, m_X10_get, zm_WL_in 1203 (by decide +kernel) rfl⟩
theorem zl_M_12_8 : zm_Mp (16, 170, 113) := ⟨RL, _, _, _, _, _, _, _, _, _, _, _, rfl, m_X9_image, zm_WL_in 778 (by decide +kernel) rfl⟩
theorem zl_M_12_9 : zm_Mp (16, 173, 205) := ⟨RL, _, _, _, _, _, _, _, _, _, _, _, rfl, m_X10_image, zm_WL_in 1207 (by decide +kernel) rfl⟩
theorem zl_M_12_10 : zm_Mp (16, 174, 114) := ⟨RL, _, _, _, _, _, _, _, _, _, _, _, rfl, m_X9_undo, zm_WL_in 788 (by decide +kernel) rfl⟩
theorem zl_M_12_11 : zm_Mp (16, 177, 206) := ⟨RL, _, _, _, _, _, _, _, _, _, _, _, rfl, m_X10_undo, zm_WL_in 1211 (by decide +kernel) rfl⟩
theorem zl_M_12_12 : zm_Mp (16, 178, 115) := ⟨RL, _, _, _, _, _, _, _, _, _, _, _, rfl, m_X9_count, zm_WL_in 792 (by decide +kernel) rfl⟩
theorem zl_M_12_13 : zm_Mp (16, 181, 207) := ⟨RL, _, _, _, _, _, _, _, _, _, _, _, rfl, m_X10_count, zm_WL_in 1215 (by decide +kernel) rfl⟩
theorem zl_M_12_14 : zm_Mp (10, 77, 125) := ⟨RX10, _, _, _, _, _, _, _, _, _, _, _, rfl, m_X10_in, zm_WL_in 895 (by decide +kernel) rfl⟩
theorem zl_M_12_15 : zm_Mp (10, 81, 130) := ⟨RX10, _, _, _, _, _, _, _, _, _, _, _, rfl, m_X10_sizeOf, zm_WL_in 929 (by decide +kernel) rfl⟩
def zm_ML12 : List (Nat × Nat × Nat) := [(16, 154, 109), (16, 157, 201), (16, 158, 110), (16, 161, 202), (16, 162, 111), (16, 165, 203), (16, 166, 112), (16, 169, 204), (16, 170, 113), (16, 173, 205), (16, 174, 114), (16, 177, 206), (16, 178, 115), (16, 181, 207), (10, 77, 125), (10, 81, 130)]
theorem zl_M_12 : ∀ q ∈ zm_ML12, zm_Mp q := List.forall_mem_cons.mpr ⟨zl_M_12_0, List.forall_mem_cons.mpr ⟨zl_M_12_1, List.forall_mem_cons.mpr ⟨zl_M_12_2, List.forall_mem_cons.mpr ⟨zl_M_12_3, List.forall_mem_cons.mpr ⟨zl_M_12_4, List.forall_mem_cons.mpr ⟨zl_M_12_5, List.forall_mem_cons.mpr ⟨zl_M_12_6, List.forall_mem_cons.mpr ⟨zl_M_12_7, List.forall_mem_cons.mpr ⟨zl_M_12_8, List.forall_mem_cons.mpr ⟨zl_M_12_9, List.forall_mem_cons.mpr ⟨zl_M_12_10, List.forall_mem_cons.mpr ⟨zl_M_12_11, List.forall_mem_cons.mpr ⟨zl_M_12_12, List.forall_mem_cons.mpr ⟨zl_M_12_13, List.forall_mem_cons.mpr ⟨zl_M_12_14, List.forall_mem_cons.mpr ⟨zl_M_12_15, fun _ h => absurd h List.not_mem_nil⟩⟩⟩⟩⟩⟩⟩⟩⟩⟩⟩⟩⟩⟩⟩⟩
theorem zl_M_13_0 : zm_Mp (10, 85, 129) := ⟨RX10, _, _, _, _, _, _, _, _, _, _, _, rfl, m_X10_ten, zm_WL_in 944 (by decide +kernel) rfl⟩
theorem zl_M_13_1 : zm_Mp (10, 94, 135) := ⟨RX10, _, _, _, _, _, _, _, _, _, _, _, rfl, m_X10_overlap, zm_WL_in 940 (by decide +kernel) rfl⟩
theorem zl_M_13_2 : zm_Mp (10, 97, 137) := ⟨RX10, _, _, _, _, _, _, _, _, _, _, _, rfl, m_X10_stands, zm_WL_in 967 (by decide +kernel) rfl⟩
theorem zl_M_13_3 : zm_Mp (10, 101, 136) := ⟨RX10, _, _, _, _, _, _, _, _, _, _, _, rfl, m_X10_numberOf, zm_WL_in 936 (by decide +kernel) rfl⟩
theorem zl_M_13_4 : zm_Mp (10, 104, 138) := ⟨RX10, _, _, _, _, _, _, _, _, _, _, _, rfl, m_X10_areApart, zm_WL_in 977 (by decide +kernel) rfl⟩
theorem zl_M_13_5 : zm_Mp (10, 107, 139) := ⟨RX10, _, _, _, _, _, _, _, _, _, _, _, rfl, m_X10_weight, zm_WL_in 951 (by decide +kernel) rfl⟩
theorem zl_M_13_6 : zm_Mp (10, 110, 133) := ⟨RX10, _, _, _, _, _, _, _, _, _, _, _, rfl, m_X10_isSuch, zm_WL_in 925 (by decide +kernel) rfl⟩
theorem zl_M_13_7 : zm_Mp (10, 114, 142) := ⟨RX10, _, _, _, _, _, _, _, _, _, _, _, rfl, m_X10_lowest, zm_WL_in 985 (by decide +kernel) rfl⟩
theorem zl_M_13_8 : zm_Mp (10, 118, 132) := ⟨RX10, _, _, _, _, _, _, _, _, _, _, _, rfl, m_X10_hasThird, zm_WL_in 898 (by decide +kernel) rfl⟩
theorem zl_M_13_9 : zm_Mp (10, 127, 146) := ⟨RX10, _, _, _, _, _, _, _, _, _, _, _, rfl, m_X10_sign, zm_WL_in 913 (by decide +kernel) rfl⟩
theorem zl_M_13_10 : zm_Mp (10, 130, 147) := ⟨RX10, _, _, _, _, _, _, _, _, _, _, _, rfl, m_X10_reads, zm_WL_in 909 (by decide +kernel) rfl⟩
theorem zl_M_13_11 : zm_Mp (10, 134, 126) := ⟨RX10, _, _, _, _, _, _, _, _, _, _, _, rfl, m_X10_isWord, zm_WL_in 921 (by decide +kernel) rfl⟩
theorem zl_M_13_12 : zm_Mp (10, 137, 141) := ⟨RX10, _, _, _, _, _, _, _, _, _, _, _, rfl, m_X10_bestAnswer, zm_WL_in 947 (by decide +kernel) rfl⟩
theorem zl_M_13_13 : zm_Mp (10, 140, 127) := ⟨RX10, _, _, _, _, _, _, _, _, _, _, _, rfl, m_X10_isPart, zm_WL_in 974 (by decide +kernel) rfl⟩
theorem zl_M_13_14 : zm_Mp (10, 145, 143) := ⟨RX10, _, _, _, _, _, _, _, _, _, _, _, rfl, m_X10_chanceOf, zm_WL_in 981 (by decide +kernel) rfl⟩
theorem zl_M_13_15 : zm_Mp (10, 149, 140) := ⟨RX10, _, _, _, _, _, _, _, _, _, _, _, rfl, m_X10_beats, zm_WL_in 1004 (by decide +kernel) rfl⟩
def zm_ML13 : List (Nat × Nat × Nat) := [(10, 85, 129), (10, 94, 135), (10, 97, 137), (10, 101, 136), (10, 104, 138), (10, 107, 139), (10, 110, 133), (10, 114, 142), (10, 118, 132), (10, 127, 146), (10, 130, 147), (10, 134, 126), (10, 137, 141), (10, 140, 127), (10, 145, 143), (10, 149, 140)]
theorem zl_M_13 : ∀ q ∈ zm_ML13, zm_Mp q := List.forall_mem_cons.mpr ⟨zl_M_13_0, List.forall_mem_cons.mpr ⟨zl_M_13_1, List.forall_mem_cons.mpr ⟨zl_M_13_2, List.forall_mem_cons.mpr ⟨zl_M_13_3, List.forall_mem_cons.mpr ⟨zl_M_13_4, List.forall_mem_cons.mpr ⟨zl_M_13_5, List.forall_mem_cons.mpr ⟨zl_M_13_6, List.forall_mem_cons.mpr ⟨zl_M_13_7, List.forall_mem_cons.mpr ⟨zl_M_13_8, List.forall_mem_cons.mpr ⟨zl_M_13_9, List.forall_mem_cons.mpr ⟨zl_M_13_10, List.forall_mem_cons.mpr ⟨zl_M_13_11, List.forall_mem_cons.mpr ⟨zl_M_13_12, List.forall_mem_cons.mpr ⟨zl_M_13_13, List.forall_mem_cons.mpr ⟨zl_M_13_14, List.forall_mem_cons.mpr ⟨zl_M_13_15, fun _ h => absurd h List.not_mem_nil⟩⟩⟩⟩⟩⟩⟩⟩⟩⟩⟩⟩⟩⟩⟩⟩
theorem zl_M_14_0 : zm_Mp (10, 152, 157) := ⟨RX10, _, _, _, _, _, _, _, _, _, _, _, rfl, m_X10_rings, zm_WL_in 1000 (by decide +kernel) rfl⟩
theorem zl_M_14_1 : zm_Mp (10, 155, 208) := ⟨RX10, _, _, _, _, _, _, _, _, _, _, _, rfl, m_J6_bitCount_0f7a4, zm_WL_in 1016 (by decide +kernel) rfl⟩
theorem zl_M_14_2 : zm_Mp (10, 163, 161) := ⟨RX10, _, _, _, _, _, _, _, _, _, _, _, rfl, m_X10_square, zm_WL_in 1030 (by decide +kernel) rfl⟩
theorem zl_M_14_3 : zm_Mp (10, 168, 162) := ⟨RX10, _, _, _, _, _, _, _, _, _, _, _, rfl, m_X10_fills, zm_WL_in 1025 (by decide +kernel) rfl⟩
theorem zl_M_14_4 : zm_Mp (10, 172, 159) := ⟨RX10, _, _, _, _, _, _, _, _, _, _, _, rfl, m_X10_sets, zm_WL_in 1012 (by decide +kernel) rfl⟩
theorem zl_M_14_5 : zm_Mp (10, 175, 160) := ⟨RX10, _, _, _, _, _, _, _, _, _, _, _, rfl, m_X10_isField, zm_WL_in 1017 (by decide +kernel) rfl⟩
theorem zl_M_14_6 : zm_Mp (10, 179, 163) := ⟨RX10, _, _, _, _, _, _, _, _, _, _, _, rfl, m_X10_solved, zm_WL_in 1021 (by decide +kernel) rfl⟩
theorem zl_M_14_7 : zm_Mp (10, 183, 131) := ⟨RX10, _, _, _, _, _, _, _, _, _, _, _, rfl, m_X10_letterOf, zm_WL_in 1049 (by decide +kernel) rfl⟩
theorem zl_M_14_8 : zm_Mp (10, 186, 168) := ⟨RX10, _, _, _, _, _, _, _, _, _, _, _, rfl, m_X10_endsBy, zm_WL_in 1042 (by decide +kernel) rfl⟩
theorem zl_M_14_9 : zm_Mp (10, 189, 166) := ⟨RX10, _, _, _, _, _, _, _, _, _, _, _, rfl, m_X10_fourOf, zm_WL_in 1046 (by decide +kernel) rfl⟩
theorem zl_M_14_10 : zm_Mp (10, 193, 170) := ⟨RX10, _, _, _, _, _, _, _, _, _, _, _, rfl, m_X10_drawn, zm_WL_in 1061 (by decide +kernel) rfl⟩
theorem zl_M_14_11 : zm_Mp (10, 196, 174) := ⟨RX10, _, _, _, _, _, _, _, _, _, _, _, rfl, m_X10_endsAt, zm_WL_in 1077 (by decide +kernel) rfl⟩
theorem zl_M_14_12 : zm_Mp (10, 199, 176) := ⟨RX10, _, _, _, _, _, _, _, _, _, _, _, rfl, m_X10_firstOf, zm_WL_in 1085 (by decide +kernel) rfl⟩
theorem zl_M_14_13 : zm_Mp (10, 202, 175) := ⟨RX10, _, _, _, _, _, _, _, _, _, _, _, rfl, m_X10_ends, zm_WL_in 1089 (by decide +kernel) rfl⟩
theorem zl_M_14_14 : zm_Mp (10, 206, 209) := ⟨RX10, _, _, _, _, _, _, _, _, _, _, _, rfl, m_J13_bitCount_95d88, zm_WL_in 1090 (by decide +kernel) rfl⟩
theorem zl_M_14_15 : zm_Mp (10, 209, 177) := ⟨RX10, _, _, _, _, _, _, _, _, _, _, _, rfl, m_X10_matched, zm_WL_in 1091 (by decide +kernel) rfl⟩
def zm_ML14 : List (Nat × Nat × Nat) := [(10, 152, 157), (10, 155, 208), (10, 163, 161), (10, 168, 162), (10, 172, 159), (10, 175, 160), (10, 179, 163), (10, 183, 131), (10, 186, 168), (10, 189, 166), (10, 193, 170), (10, 196, 174), (10, 199, 176), (10, 202, 175), (10, 206, 209), (10, 209, 177)]
theorem zl_M_14 : ∀ q ∈ zm_ML14, zm_Mp q := List.forall_mem_cons.mpr ⟨zl_M_14_0, List.forall_mem_cons.mpr ⟨zl_M_14_1, List.forall_mem_cons.mpr ⟨zl_M_14_2, List.forall_mem_cons.mpr ⟨zl_M_14_3, List.forall_mem_cons.mpr ⟨zl_M_14_4, List.forall_mem_cons.mpr ⟨zl_M_14_5, List.forall_mem_cons.mpr ⟨zl_M_14_6, List.forall_mem_cons.mpr ⟨zl_M_14_7, List.forall_mem_cons.mpr ⟨zl_M_14_8, List.forall_mem_cons.mpr ⟨zl_M_14_9, List.forall_mem_cons.mpr ⟨zl_M_14_10, List.forall_mem_cons.mpr ⟨zl_M_14_11, List.forall_mem_cons.mpr ⟨zl_M_14_12, List.forall_mem_cons.mpr ⟨zl_M_14_13, List.forall_mem_cons.mpr ⟨zl_M_14_14, List.forall_mem_cons.mpr ⟨zl_M_14_15, fun _ h => absurd h List.not_mem_nil⟩⟩⟩⟩⟩⟩⟩⟩⟩⟩⟩⟩⟩⟩⟩⟩
theorem zl_M_15_0 : zm_Mp (10, 212, 179) := ⟨RX10, _, _, _, _, _, _, _, _, _, _, _, rfl, m_X10_who, zm_WL_in 1103 (by decide +kernel) rfl⟩
theorem zl_M_15_1 : zm_Mp (10, 218, 134) := ⟨RX10, _, _, _, _, _, _, _, _, _, _, _, rfl, m_X10_on, zm_WL_in 1131 (by decide +kernel) rfl⟩
theorem zl_M_15_2 : zm_Mp (10, 221, 183) := ⟨RX10, _, _, _, _, _, _, _, _, _, _, _, rfl, m_X10_turned, zm_WL_in 1128 (by decide +kernel) rfl⟩
theorem zl_M_15_3 : zm_Mp (10, 224, 185) := ⟨RX10, _, _, _, _, _, _, _, _, _, _, _, rfl, m_X10_ahead, zm_WL_in 1135 (by decide +kernel) rfl⟩
theorem zl_M_15_4 : zm_Mp (10, 227, 184) := ⟨RX10, _, _, _, _, _, _, _, _, _, _, _, rfl, m_X10_shifted, zm_WL_in 1138 (by decide +kernel) rfl⟩
theorem zl_M_15_5 : zm_Mp (10, 230, 186) := ⟨RX10, _, _, _, _, _, _, _, _, _, _, _, rfl, m_X10_picks, zm_WL_in 1124 (by decide +kernel) rfl⟩
theorem zl_M_15_6 : zm_Mp (10, 233, 187) := ⟨RX10, _, _, _, _, _, _, _, _, _, _, _, rfl, m_X10_firstPick, zm_WL_in 1120 (by decide +kernel) rfl⟩
theorem zl_M_15_7 : zm_Mp (10, 236, 182) := ⟨RX10, _, _, _, _, _, _, _, _, _, _, _, rfl, m_X10_isPlayer, zm_WL_in 1112 (by decide +kernel) rfl⟩
theorem zl_M_15_8 : zm_Mp (10, 239, 188) := ⟨RX10, _, _, _, _, _, _, _, _, _, _, _, rfl, m_X10_wins, zm_WL_in 1116 (by decide +kernel) rfl⟩
theorem zl_M_15_9 : zm_Mp (10, 242, 190) := ⟨RX10, _, _, _, _, _, _, _, _, _, _, _, rfl, m_X10_areTwo, zm_WL_in 1146 (by decide +kernel) rfl⟩
theorem zl_M_15_10 : zm_Mp (10, 246, 193) := ⟨RX10, _, _, _, _, _, _, _, _, _, _, _, rfl, m_X10_duels, zm_WL_in 1158 (by decide +kernel) rfl⟩
theorem zl_M_15_11 : zm_Mp (10, 259, 197) := ⟨RX10, _, _, _, _, _, _, _, _, _, _, _, rfl, m_X10_does, zm_WL_in 1175 (by decide +kernel) rfl⟩
theorem zl_M_15_12 : zm_Mp (10, 266, 128) := ⟨RX10, _, _, _, _, _, _, _, _, _, _, _, rfl, m_X10_isList, zm_WL_in 1192 (by decide +kernel) rfl⟩
def zm_ML15 : List (Nat × Nat × Nat) := [(10, 212, 179), (10, 218, 134), (10, 221, 183), (10, 224, 185), (10, 227, 184), (10, 230, 186), (10, 233, 187), (10, 236, 182), (10, 239, 188), (10, 242, 190), (10, 246, 193), (10, 259, 197), (10, 266, 128)]
theorem zl_M_15 : ∀ q ∈ zm_ML15, zm_Mp q := List.forall_mem_cons.mpr ⟨zl_M_15_0, List.forall_mem_cons.mpr ⟨zl_M_15_1, List.forall_mem_cons.mpr ⟨zl_M_15_2, List.forall_mem_cons.mpr ⟨zl_M_15_3, List.forall_mem_cons.mpr ⟨zl_M_15_4, List.forall_mem_cons.mpr ⟨zl_M_15_5, List.forall_mem_cons.mpr ⟨zl_M_15_6, List.forall_mem_cons.mpr ⟨zl_M_15_7, List.forall_mem_cons.mpr ⟨zl_M_15_8, List.forall_mem_cons.mpr ⟨zl_M_15_9, List.forall_mem_cons.mpr ⟨zl_M_15_10, List.forall_mem_cons.mpr ⟨zl_M_15_11, List.forall_mem_cons.mpr ⟨zl_M_15_12, fun _ h => absurd h List.not_mem_nil⟩⟩⟩⟩⟩⟩⟩⟩⟩⟩⟩⟩⟩
def zm_ML : List (Nat × Nat × Nat) := zm_ML0 ++ (zm_ML1 ++ (zm_ML2 ++ (zm_ML3 ++ (zm_ML4 ++ (zm_ML5 ++ (zm_ML6 ++ (zm_ML7 ++ (zm_ML8 ++ (zm_ML9 ++ (zm_ML10 ++ (zm_ML11 ++ (zm_ML12 ++ (zm_ML13 ++ (zm_ML14 ++ (zm_ML15)))))))))))))))
theorem zl_M : ∀ q ∈ zm_ML, zm_Mp q := zm_fap zl_M_0 (zm_fap zl_M_1 (zm_fap zl_M_2 (zm_fap zl_M_3 (zm_fap zl_M_4 (zm_fap zl_M_5 (zm_fap zl_M_6 (zm_fap zl_M_7 (zm_fap zl_M_8 (zm_fap zl_M_9 (zm_fap zl_M_10 (zm_fap zl_M_11 (zm_fap zl_M_12 (zm_fap zl_M_13 (zm_fap zl_M_14 (zl_M_15)))))))))))))))
theorem zl_T : Jvm.Cond.fieldLink RX8 9 "WordRace$Word" "TENS" "[I" ∈ zm_WL := zm_WL_in 285 (by decide +kernel) rfl
end
section
/-! a check, by computing, that a table is that of a code -/
def zm_tabb (pc : Nat) (dflt lo hi : Int) (offs : List Int) (d : Nat) (ps : List (Int × Nat)) : Bool := decide ((pc : Int) + dflt = (d : Int)) && decide (hi + 1 = lo + offs.length) && decide (ps.map (fun q => (q.1, (q.2 : Int))) = offs.mapIdx (fun j o => (lo + (j : Int), (pc : Int) + o)))
def zm_tavb (pc : Nat) (dflt : Int) (prs : List (Int × Int)) (d : Nat) (ps : List (Int × Nat)) : Bool := decide ((pc : Int) + dflt = (d : Int)) && (prs.zip (prs.drop 1)).all (fun (a, next) => a.1 < next.1) && decide (ps.map (fun q => (q.1, (q.2 : Int))) = prs.map (fun q => (q.1, (pc : Int) + q.2)))
def zm_lb (cno : Nat) (rb : Bool) (ret : Option FieldType) (pc : Nat) (i : zm_I) : Bool := match i with
  | (ins, len, x1, x2, x3, ps) => match ins with
    | .getfield idx => zm_FL.contains (cno, idx, x1, x2)
    | .putfield idx => zm_PL.contains (cno, idx, x1, x2, x3)
    | .getstatic idx => Nat.beq cno 8 && Nat.beq idx 9
    | .ldc idx => ps.all fun q => zm_KL.contains (cno, idx, q.1)
    | .ldc_w idx => ps.all fun q => zm_KL.contains (cno, idx, q.1)
    | .ldc2_w idx => ps.all fun q => zm_JL.contains (cno, idx, q.1)
    | .if_icmp _ off => decide ((pc : Int) + off = (x1 : Int))
    | .ifCond _ off => decide ((pc : Int) + off = (x1 : Int))
    | .goto off => decide ((pc : Int) + off = (x1 : Int))
    | .tableswitch d lo hi offs => zm_tabb pc d lo hi offs.toList x1 ps
    | .lookupswitch d prs => zm_tavb pc d prs.toList x1 ps
    | .invokestatic idx => bif Nat.ble 9990 x1 then zm_AL.contains (cno, idx, x1) else zm_ML.contains (cno, idx, x1) && (match zm_ms x1 with
      | some (_, _, _, _, _, stt, n, _, _, _, _) => stt && Nat.beq n x2
      | none => false)
    | .invokevirtual idx => zm_ML.contains (cno, idx, x1) && (match zm_ms x1 with
      | some (_, _, _, _, _, stt, n, ci, _, _, _) => !stt && Nat.beq (n + 1) x2 && Nat.beq ci len
      | none => false)
    | .ireturn => (rb && decide (ret = some .boolean)) || (!rb && decide (ret = some .int))
    | .lreturn => decide (ret = some .long)
    | .return_ => decide (ret = none)
    | _ => true
def zm_eb (cno : Nat) (cc : ByteArray) (rb : Bool) (ret : Option FieldType) (e : Nat × zm_I) : Bool := decide (decode cc e.1 = .ok (e.2.1, zm_ln e.2.1 e.2.2.1)) && zm_lb cno rb ret e.1 e.2
def zm_tb (cno : Nat) (cc : ByteArray) (rb : Bool) (ret : Option FieldType) (T : zm_T) : Bool := T.all fun l => l.all (zm_eb cno cc rb ret)
theorem zm_find_mem {pc : Nat} {i : zm_I} : ∀ l : List (Nat × zm_I), zm_find pc l = some i → (pc, i) ∈ l
  | [], h => by cases h
  | (p, j) :: r, h => by
    simp only [zm_find] at h
    cases e : Nat.beq p pc with
    | true =>
      rw [e] at h
      cases h
      rw [Nat.eq_of_beq_eq_true e]
      exact List.mem_cons_self
    | false =>
      rw [e] at h
      exact List.mem_cons_of_mem _ (zm_find_mem r h)
theorem zm_tab_ok {pc : Nat} {dflt lo hi : Int} {offs : List Int} {d : Nat} {ps : List (Int × Nat)} (h : zm_tabb pc dflt lo hi offs d ps = true) : zm_tab pc dflt lo hi offs d ps := by
  unfold zm_tabb at h
  simp only [Bool.and_eq_true, decide_eq_true_eq] at h
  obtain ⟨⟨h1, h2⟩, h3⟩ := h
  have hlen : ps.length = offs.length := by
    have := congrArg List.length h3
    simpa using this
  refine ⟨h1, h2, hlen, fun j k t hj => ?_⟩
  have hlt : j < offs.length := by rw [← hlen]; exact (List.getElem?_eq_some_iff.mp hj).1
  have hq := congrArg (fun l => l[j]?) h3
  simp only [List.getElem?_map, hj, List.getElem?_mapIdx, Option.map_some, List.getElem?_eq_getElem hlt] at hq
  simp only [Option.some.injEq, Prod.mk.injEq] at hq
  exact ⟨hq.1, offs[j], List.getElem?_eq_getElem hlt, hq.2.symm⟩
theorem zm_tav_ok {pc : Nat} {dflt : Int} {prs : List (Int × Int)} {d : Nat} {ps : List (Int × Nat)} (h : zm_tavb pc dflt prs d ps = true) : zm_tav pc dflt prs d ps := by
  unfold zm_tavb at h
  simp only [Bool.and_eq_true, decide_eq_true_eq] at h
  exact ⟨h.1.1, h.1.2, h.2⟩
theorem zm_lb_ok {cno : Nat} {own : String} (hown : zm_cn[cno]? = some own) {rb : Bool} {ret : Option FieldType} {pc : Nat} {i : zm_I} (h : zm_lb cno rb ret pc i = true) : zm_lk own pc i ∧ zm_lc zm_ms own i ∧ zm_le rb ret i := by
  obtain ⟨ins, len, x1, x2, x3, ps⟩ := i
  cases ins
  case getfield idx =>
    obtain ⟨own', C, T, N, k0, k1, k2, k3, k4⟩ := zl_F _ (List.contains_iff_mem.mp h)
    rw [show own' = own from Option.some.inj (k0.symm.trans hown)] at k4
    exact ⟨⟨C, T, N, k1, k2, k3, k4⟩, trivial, trivial⟩
  case putfield idx =>
    obtain ⟨own', C, T, N, ty0, k0, k1, k2, k3, k4, k5, k6, k7, k8⟩ := zl_P _ (List.contains_iff_mem.mp h)
    rw [show own' = own from Option.some.inj (k0.symm.trans hown)] at k4
    exact ⟨⟨C, T, N, ty0, k1, k2, k3, k4, k5, k6, k7, k8⟩, trivial, trivial⟩
  case getstatic idx =>
    obtain ⟨h1, h2⟩ := Bool.and_eq_true_iff.mp (show (Nat.beq cno 8 && Nat.beq idx 9) = true from h)
    have e1 := Nat.eq_of_beq_eq_true h1
    have e2 := Nat.eq_of_beq_eq_true h2
    subst e1
    subst e2
    refine ⟨?_, trivial, trivial⟩
    rw [show own = RX8 from (Option.some.inj (hown.symm.trans (show zm_cn[8]? = some RX8 from rfl)))]
    exact zl_T
  case ldc idx =>
    refine ⟨fun q hq => ?_, trivial, trivial⟩
    obtain ⟨own', k0, k1⟩ := zl_K _ (List.contains_iff_mem.mp (List.all_eq_true.mp (show (ps.all fun q => zm_KL.contains (cno, idx, q.1)) = true from h) q (List.mem_of_mem_head? hq)))
    rw [show own' = own from Option.some.inj (k0.symm.trans hown)] at k1
    exact k1
  case ldc_w idx =>
    refine ⟨fun q hq => ?_, trivial, trivial⟩
    obtain ⟨own', k0, k1⟩ := zl_K _ (List.contains_iff_mem.mp (List.all_eq_true.mp (show (ps.all fun q => zm_KL.contains (cno, idx, q.1)) = true from h) q (List.mem_of_mem_head? hq)))
    rw [show own' = own from Option.some.inj (k0.symm.trans hown)] at k1
    exact k1
  case ldc2_w idx =>
    refine ⟨fun q hq => ?_, trivial, trivial⟩
    obtain ⟨own', k0, k1⟩ := zl_J _ (List.contains_iff_mem.mp (List.all_eq_true.mp (show (ps.all fun q => zm_JL.contains (cno, idx, q.1)) = true from h) q (List.mem_of_mem_head? hq)))
    rw [show own' = own from Option.some.inj (k0.symm.trans hown)] at k1
    exact k1
  case if_icmp cd off => exact ⟨(of_decide_eq_true h : (pc : Int) + off = (x1 : Int)), trivial, trivial⟩
  case ifCond cd off => exact ⟨(of_decide_eq_true h : (pc : Int) + off = (x1 : Int)), trivial, trivial⟩
  case goto off => exact ⟨(of_decide_eq_true h : (pc : Int) + off = (x1 : Int)), trivial, trivial⟩
  case tableswitch d lo hi offs => exact ⟨zm_tab_ok h, trivial, trivial⟩
  case lookupswitch d prs => exact ⟨zm_tav_ok h, trivial, trivial⟩
  case invokestatic idx =>
    cases e : Nat.ble 9990 x1 with
    | true =>
      have h' : (bif Nat.ble 9990 x1 then zm_AL.contains (cno, idx, x1) else zm_ML.contains (cno, idx, x1) && (match zm_ms x1 with
        | some (_, _, _, _, _, stt, n, _, _, _, _) => stt && Nat.beq n x2
        | none => false)) = true := h
      rw [e] at h'
      obtain ⟨own', k0, k1⟩ := zl_A _ (List.contains_iff_mem.mp h')
      rw [show own' = own from Option.some.inj (k0.symm.trans hown)] at k1
      exact ⟨k1, fun q => absurd (Nat.le_of_ble_eq_true e) (Nat.not_le.mpr q), trivial⟩
    | false =>
      have h' : (bif Nat.ble 9990 x1 then zm_AL.contains (cno, idx, x1) else zm_ML.contains (cno, idx, x1) && (match zm_ms x1 with
        | some (_, _, _, _, _, stt, n, _, _, _, _) => stt && Nat.beq n x2
        | none => false)) = true := h
      rw [e] at h'
      have hlt : ¬ 9990 ≤ x1 := fun q => by rw [Nat.ble_eq_true_of_le q] at e; cases e
      obtain ⟨h1, h2⟩ := Bool.and_eq_true_iff.mp h'
      obtain ⟨own', o2, y, cc, nL, rt, stt, n, ci, rb', cuts, T, k0, k1, k2⟩ := zl_M _ (List.contains_iff_mem.mp h1)
      rw [show own' = own from Option.some.inj (k0.symm.trans hown)] at k2
      simp only at k1
      rw [k1] at h2
      obtain ⟨h3, h4⟩ := Bool.and_eq_true_iff.mp h2
      rw [h3, Nat.eq_of_beq_eq_true h4] at k1
      exact ⟨⟨fun q => absurd q hlt, fun q => absurd (by omega) hlt, fun q => absurd (by omega) hlt, fun q => absurd (by omega) hlt⟩, fun _ => ⟨o2, y, cc, nL, rt, ci, rb', cuts, T, k1, k2⟩, trivial⟩
  case invokevirtual idx =>
    obtain ⟨h1, h2⟩ := Bool.and_eq_true_iff.mp (show (zm_ML.contains (cno, idx, x1) && (match zm_ms x1 with
      | some (_, _, _, _, _, stt, n, ci, _, _, _) => !stt && Nat.beq (n + 1) x2 && Nat.beq ci len
      | none => false)) = true from h)
    obtain ⟨own', o2, y, cc, nL, rt, stt, n, ci, rb', cuts, T, k0, k1, k2⟩ := zl_M _ (List.contains_iff_mem.mp h1)
    rw [show own' = own from Option.some.inj (k0.symm.trans hown)] at k2
    simp only at k1
    rw [k1] at h2
    obtain ⟨h3, h5⟩ := Bool.and_eq_true_iff.mp h2
    obtain ⟨h3, h4⟩ := Bool.and_eq_true_iff.mp h3
    rw [show stt = false by simpa using h3, Nat.eq_of_beq_eq_true h5] at k1
    exact ⟨trivial, ⟨o2, y, cc, nL, rt, n, rb', cuts, T, k1, (Nat.eq_of_beq_eq_true h4).symm, k2⟩, trivial⟩
  case ireturn =>
    refine ⟨trivial, trivial, ?_⟩
    have h' : ((rb && decide (ret = some .boolean)) || (!rb && decide (ret = some .int))) = true := h
    show (rb = true ∧ ret = some .boolean) ∨ (rb = false ∧ ret = some .int)
    simpa using h'
  case lreturn => exact ⟨trivial, trivial, (of_decide_eq_true h : ret = some .long)⟩
  case return_ => exact ⟨trivial, trivial, (of_decide_eq_true h : ret = none)⟩
  all_goals exact ⟨trivial, trivial, trivial⟩
theorem zm_tb_ok {cno : Nat} {own : String} (hown : zm_cn[cno]? = some own) {cc : ByteArray} {rb : Bool} {ret : Option FieldType} {T : zm_T} (h : zm_tb cno cc rb ret T = true) : zm_tok zm_ms own cc ret rb T := by
  intro pc i hl
  unfold zm_look at hl
  split at hl
  · next l hm =>
    have h1 := List.all_eq_true.mp (List.all_eq_true.mp h l (List.mem_of_getElem? hm)) _ (zm_find_mem l hl)
    obtain ⟨h2, h3⟩ := Bool.and_eq_true_iff.mp (show (decide (decode cc pc = .ok (i.1, zm_ln i.1 i.2.1)) && zm_lb cno rb ret pc i) = true from h1)
    exact ⟨of_decide_eq_true h2, zm_lb_ok hown h3⟩
  · cases hl
end
section
/-! printed by wip/whole/links.py: every method's table is its code's -/
set_option maxRecDepth 100000 in
theorem zk_X0_copyFrom_t : zm_tb 0 cX0_copyFrom false none zt_X0_copyFrom = true := by decide +kernel
set_option maxRecDepth 100000 in
theorem zk_X0_copyFrom : zm_mok zm_ms (RX0, yX0_copyFrom, cX0_copyFrom, 2, none, false, 1, 0, false, [], zt_X0_copyFrom) := ⟨rfl, by decide +kernel, ⟨by decide +kernel, by decide +kernel⟩, zm_WL_in 785 rfl rfl, zm_WL_in 45 (by decide +kernel) rfl, by decide +kernel, (fun h => Bool.noConfusion h), (fun _ => ⟨zm_WL_in 783 (by decide +kernel) rfl, zm_WL_in 784 (by decide +kernel) rfl, TX0, 10, rfl⟩), by decide, zm_tb_ok rfl zk_X0_copyFrom_t⟩
set_option maxRecDepth 100000 in
theorem zk_X0_hasWord_t : zm_tb 0 cX0_hasWord true (some .boolean) zt_X0_hasWord = true := by decide +kernel
set_option maxRecDepth 100000 in
theorem zk_X0_hasWord : zm_mok zm_ms (RX0, yX0_hasWord, cX0_hasWord, 2, (some .boolean), false, 1, 0, true, [], zt_X0_hasWord) := ⟨rfl, by decide +kernel, ⟨by decide +kernel, by decide +kernel⟩, zm_WL_in 278 rfl rfl, zm_WL_in 45 (by decide +kernel) rfl, by decide +kernel, (fun h => Bool.noConfusion h), (fun _ => ⟨zm_WL_in 276 (by decide +kernel) rfl, zm_WL_in 277 (by decide +kernel) rfl, TX0, 10, rfl⟩), by decide, zm_tb_ok rfl zk_X0_hasWord_t⟩
set_option maxRecDepth 100000 in
theorem zk_X0_areTwoWords_t : zm_tb 0 cX0_areTwoWords true (some .boolean) zt_X0_areTwoWords = true := by decide +kernel
set_option maxRecDepth 100000 in
theorem zk_X0_areTwoWords : zm_mok zm_ms (RX0, yX0_areTwoWords, cX0_areTwoWords, 3, (some .boolean), false, 2, 0, true, [], zt_X0_areTwoWords) := ⟨rfl, by decide +kernel, ⟨by decide +kernel, by decide +kernel⟩, zm_WL_in 688 rfl rfl, zm_WL_in 45 (by decide +kernel) rfl, by decide +kernel, (fun h => Bool.noConfusion h), (fun _ => ⟨zm_WL_in 686 (by decide +kernel) rfl, zm_WL_in 687 (by decide +kernel) rfl, TX0, 10, rfl⟩), by decide, zm_tb_ok rfl zk_X0_areTwoWords_t⟩
set_option maxRecDepth 100000 in
theorem zk_X0_wordAt_t : zm_tb 0 cX0_wordAt false (some .int) zt_X0_wordAt = true := by decide +kernel
set_option maxRecDepth 100000 in
theorem zk_X0_wordAt : zm_mok zm_ms (RX0, yX0_wordAt, cX0_wordAt, 2, (some .int), false, 1, 0, false, [5], zt_X0_wordAt) := ⟨rfl, by decide +kernel, ⟨by decide +kernel, by decide +kernel⟩, zm_WL_in 274 rfl rfl, zm_WL_in 45 (by decide +kernel) rfl, by decide +kernel, (fun h => Bool.noConfusion h), (fun _ => ⟨zm_WL_in 272 (by decide +kernel) rfl, zm_WL_in 273 (by decide +kernel) rfl, TX0, 10, rfl⟩), by decide, zm_tb_ok rfl zk_X0_wordAt_t⟩
set_option maxRecDepth 100000 in
theorem zk_X0_addWord_t : zm_tb 0 cX0_addWord false none zt_X0_addWord = true := by decide +kernel
set_option maxRecDepth 100000 in
theorem zk_X0_addWord : zm_mok zm_ms (RX0, yX0_addWord, cX0_addWord, 2, none, false, 1, 0, false, [], zt_X0_addWord) := ⟨rfl, by decide +kernel, ⟨by decide +kernel, by decide +kernel⟩, zm_WL_in 333 rfl rfl, zm_WL_in 45 (by decide +kernel) rfl, by decide +kernel, (fun h => Bool.noConfusion h), (fun _ => ⟨zm_WL_in 331 (by decide +kernel) rfl, zm_WL_in 332 (by decide +kernel) rfl, TX0, 10, rfl⟩), by decide, zm_tb_ok rfl zk_X0_addWord_t⟩
set_option maxRecDepth 100000 in
theorem zk_X0_hasThirdLetter_t : zm_tb 0 cX0_hasThirdLetter true (some .boolean) zt_X0_hasThirdLetter = true := by decide +kernel
set_option maxRecDepth 100000 in
theorem zk_X0_hasThirdLetter : zm_mok zm_ms (RX0, yX0_hasThirdLetter, cX0_hasThirdLetter, 2, (some .boolean), false, 0, 0, true, [2, 32], zt_X0_hasThirdLetter) := ⟨rfl, by decide +kernel, ⟨by decide +kernel, by decide +kernel⟩, zm_WL_in 270 rfl rfl, zm_WL_in 45 (by decide +kernel) rfl, by decide +kernel, (fun h => Bool.noConfusion h), (fun _ => ⟨zm_WL_in 268 (by decide +kernel) rfl, zm_WL_in 269 (by decide +kernel) rfl, TX0, 10, rfl⟩), by decide, zm_tb_ok rfl zk_X0_hasThirdLetter_t⟩
set_option maxRecDepth 100000 in
theorem zk_X0_isSet_t : zm_tb 0 cX0_isSet true (some .boolean) zt_X0_isSet = true := by decide +kernel
set_option maxRecDepth 100000 in
theorem zk_X0_isSet : zm_mok zm_ms (RX0, yX0_isSet, cX0_isSet, 2, (some .boolean), false, 1, 0, true, [], zt_X0_isSet) := ⟨rfl, by decide +kernel, ⟨by decide +kernel, by decide +kernel⟩, zm_WL_in 455 rfl rfl, zm_WL_in 45 (by decide +kernel) rfl, by decide +kernel, (fun h => Bool.noConfusion h), (fun _ => ⟨zm_WL_in 453 (by decide +kernel) rfl, zm_WL_in 454 (by decide +kernel) rfl, TX0, 10, rfl⟩), by decide, zm_tb_ok rfl zk_X0_isSet_t⟩
set_option maxRecDepth 100000 in
theorem zk_X0_isInSet_t : zm_tb 0 cX0_isInSet true (some .boolean) zt_X0_isInSet = true := by decide +kernel
set_option maxRecDepth 100000 in
theorem zk_X0_isInSet : zm_mok zm_ms (RX0, yX0_isInSet, cX0_isInSet, 3, (some .boolean), false, 2, 0, true, [], zt_X0_isInSet) := ⟨rfl, by decide +kernel, ⟨by decide +kernel, by decide +kernel⟩, zm_WL_in 469 rfl rfl, zm_WL_in 45 (by decide +kernel) rfl, by decide +kernel, (fun h => Bool.noConfusion h), (fun _ => ⟨zm_WL_in 467 (by decide +kernel) rfl, zm_WL_in 468 (by decide +kernel) rfl, TX0, 10, rfl⟩), by decide, zm_tb_ok rfl zk_X0_isInSet_t⟩
set_option maxRecDepth 100000 in
theorem zk_X0_firstOn_t : zm_tb 0 cX0_firstOn false (some .int) zt_X0_firstOn = true := by decide +kernel
set_option maxRecDepth 100000 in
theorem zk_X0_firstOn : zm_mok zm_ms (RX0, yX0_firstOn, cX0_firstOn, 8, (some .int), false, 1, 0, false, [12], zt_X0_firstOn) := ⟨rfl, by decide +kernel, ⟨by decide +kernel, by decide +kernel⟩, zm_WL_in 602 rfl rfl, zm_WL_in 45 (by decide +kernel) rfl, by decide +kernel, (fun h => Bool.noConfusion h), (fun _ => ⟨zm_WL_in 600 (by decide +kernel) rfl, zm_WL_in 601 (by decide +kernel) rfl, TX0, 10, rfl⟩), by decide, zm_tb_ok rfl zk_X0_firstOn_t⟩
set_option maxRecDepth 100000 in
theorem zk_X0_hasPlayer_t : zm_tb 0 cX0_hasPlayer true (some .boolean) zt_X0_hasPlayer = true := by decide +kernel
set_option maxRecDepth 100000 in
theorem zk_X0_hasPlayer : zm_mok zm_ms (RX0, yX0_hasPlayer, cX0_hasPlayer, 2, (some .boolean), false, 1, 0, true, [], zt_X0_hasPlayer) := ⟨rfl, by decide +kernel, ⟨by decide +kernel, by decide +kernel⟩, zm_WL_in 631 rfl rfl, zm_WL_in 45 (by decide +kernel) rfl, by decide +kernel, (fun h => Bool.noConfusion h), (fun _ => ⟨zm_WL_in 629 (by decide +kernel) rfl, zm_WL_in 630 (by decide +kernel) rfl, TX0, 10, rfl⟩), by decide, zm_tb_ok rfl zk_X0_hasPlayer_t⟩
set_option maxRecDepth 100000 in
theorem zk_X0_areTwoPlayers_t : zm_tb 0 cX0_areTwoPlayers true (some .boolean) zt_X0_areTwoPlayers = true := by decide +kernel
set_option maxRecDepth 100000 in
theorem zk_X0_areTwoPlayers : zm_mok zm_ms (RX0, yX0_areTwoPlayers, cX0_areTwoPlayers, 3, (some .boolean), false, 2, 0, true, [], zt_X0_areTwoPlayers) := ⟨rfl, by decide +kernel, ⟨by decide +kernel, by decide +kernel⟩, zm_WL_in 671 rfl rfl, zm_WL_in 45 (by decide +kernel) rfl, by decide +kernel, (fun h => Bool.noConfusion h), (fun _ => ⟨zm_WL_in 669 (by decide +kernel) rfl, zm_WL_in 670 (by decide +kernel) rfl, TX0, 10, rfl⟩), by decide, zm_tb_ok rfl zk_X0_areTwoPlayers_t⟩
set_option maxRecDepth 100000 in
theorem zk_X0_addPlayer_t : zm_tb 0 cX0_addPlayer true (some .boolean) zt_X0_addPlayer = true := by decide +kernel
set_option maxRecDepth 100000 in
theorem zk_X0_addPlayer : zm_mok zm_ms (RX0, yX0_addPlayer, cX0_addPlayer, 3, (some .boolean), false, 2, 0, true, [], zt_X0_addPlayer) := ⟨rfl, by decide +kernel, ⟨by decide +kernel, by decide +kernel⟩, zm_WL_in 623 rfl rfl, zm_WL_in 45 (by decide +kernel) rfl, by decide +kernel, (fun h => Bool.noConfusion h), (fun _ => ⟨zm_WL_in 621 (by decide +kernel) rfl, zm_WL_in 622 (by decide +kernel) rfl, TX0, 10, rfl⟩), by decide, zm_tb_ok rfl zk_X0_addPlayer_t⟩
set_option maxRecDepth 100000 in
theorem zk_X0_firstPick_t : zm_tb 0 cX0_firstPick false (some .int) zt_X0_firstPick = true := by decide +kernel
set_option maxRecDepth 100000 in
theorem zk_X0_firstPick : zm_mok zm_ms (RX0, yX0_firstPick, cX0_firstPick, 2, (some .int), false, 1, 0, false, [5], zt_X0_firstPick) := ⟨rfl, by decide +kernel, ⟨by decide +kernel, by decide +kernel⟩, zm_WL_in 675 rfl rfl, zm_WL_in 45 (by decide +kernel) rfl, by decide +kernel, (fun h => Bool.noConfusion h), (fun _ => ⟨zm_WL_in 673 (by decide +kernel) rfl, zm_WL_in 674 (by decide +kernel) rfl, TX0, 10, rfl⟩), by decide, zm_tb_ok rfl zk_X0_firstPick_t⟩
set_option maxRecDepth 100000 in
theorem zk_X0_pickAgainst_t : zm_tb 0 cX0_pickAgainst false (some .int) zt_X0_pickAgainst = true := by decide +kernel
set_option maxRecDepth 100000 in
theorem zk_X0_pickAgainst : zm_mok zm_ms (RX0, yX0_pickAgainst, cX0_pickAgainst, 4, (some .int), false, 2, 0, false, [5, 20, 78, 99], zt_X0_pickAgainst) := ⟨rfl, by decide +kernel, ⟨by decide +kernel, by decide +kernel⟩, zm_WL_in 640 rfl rfl, zm_WL_in 45 (by decide +kernel) rfl, by decide +kernel, (fun h => Bool.noConfusion h), (fun _ => ⟨zm_WL_in 638 (by decide +kernel) rfl, zm_WL_in 639 (by decide +kernel) rfl, TX0, 10, rfl⟩), by decide, zm_tb_ok rfl zk_X0_pickAgainst_t⟩
set_option maxRecDepth 100000 in
theorem zk_X0_wins_t : zm_tb 0 cX0_wins false (some .int) zt_X0_wins = true := by decide +kernel
set_option maxRecDepth 100000 in
theorem zk_X0_wins : zm_mok zm_ms (RX0, yX0_wins, cX0_wins, 5, (some .int), false, 1, 0, false, [5, 31, 54], zt_X0_wins) := ⟨rfl, by decide +kernel, ⟨by decide +kernel, by decide +kernel⟩, zm_WL_in 635 rfl rfl, zm_WL_in 45 (by decide +kernel) rfl, by decide +kernel, (fun h => Bool.noConfusion h), (fun _ => ⟨zm_WL_in 633 (by decide +kernel) rfl, zm_WL_in 634 (by decide +kernel) rfl, TX0, 10, rfl⟩), by decide, zm_tb_ok rfl zk_X0_wins_t⟩
set_option maxRecDepth 100000 in
theorem zk_X0_addRow_t : zm_tb 0 cX0_addRow true (some .boolean) zt_X0_addRow = true := by decide +kernel
set_option maxRecDepth 100000 in
theorem zk_X0_addRow : zm_mok zm_ms (RX0, yX0_addRow, cX0_addRow, 3, (some .boolean), false, 2, 0, true, [], zt_X0_addRow) := ⟨rfl, by decide +kernel, ⟨by decide +kernel, by decide +kernel⟩, zm_WL_in 713 rfl rfl, zm_WL_in 45 (by decide +kernel) rfl, by decide +kernel, (fun h => Bool.noConfusion h), (fun _ => ⟨zm_WL_in 711 (by decide +kernel) rfl, zm_WL_in 712 (by decide +kernel) rfl, TX0, 10, rfl⟩), by decide, zm_tb_ok rfl zk_X0_addRow_t⟩
set_option maxRecDepth 100000 in
theorem zk_X0_followPlan_t : zm_tb 0 cX0_followPlan false none zt_X0_followPlan = true := by decide +kernel
set_option maxRecDepth 100000 in
theorem zk_X0_followPlan : zm_mok zm_ms (RX0, yX0_followPlan, cX0_followPlan, 5, none, false, 1, 0, false, [2, 54], zt_X0_followPlan) := ⟨rfl, by decide +kernel, ⟨by decide +kernel, by decide +kernel⟩, zm_WL_in 721 rfl rfl, zm_WL_in 45 (by decide +kernel) rfl, by decide +kernel, (fun h => Bool.noConfusion h), (fun _ => ⟨zm_WL_in 719 (by decide +kernel) rfl, zm_WL_in 720 (by decide +kernel) rfl, TX0, 10, rfl⟩), by decide, zm_tb_ok rfl zk_X0_followPlan_t⟩
set_option maxRecDepth 100000 in
theorem zk_X1_nextSeed_t : zm_tb 1 cX1_nextSeed false (some .int) zt_X1_nextSeed = true := by decide +kernel
set_option maxRecDepth 100000 in
theorem zk_X1_nextSeed : zm_mok zm_ms (RX1, yX1_nextSeed, cX1_nextSeed, 1, (some .int), true, 1, 0, false, [], zt_X1_nextSeed) := ⟨rfl, by decide +kernel, ⟨by decide +kernel, by decide +kernel⟩, zm_WL_in 542 rfl rfl, zm_WL_in 50 (by decide +kernel) rfl, by decide +kernel, (fun _ => zm_WL_in 541 (by decide +kernel) rfl), (fun h => Bool.noConfusion h), by decide, zm_tb_ok rfl zk_X1_nextSeed_t⟩
set_option maxRecDepth 100000 in
theorem zk_X1_drawn_t : zm_tb 1 cX1_drawn false (some .int) zt_X1_drawn = true := by decide +kernel
set_option maxRecDepth 100000 in
theorem zk_X1_drawn : zm_mok zm_ms (RX1, yX1_drawn, cX1_drawn, 2, (some .int), true, 2, 0, false, [], zt_X1_drawn) := ⟨rfl, by decide +kernel, ⟨by decide +kernel, by decide +kernel⟩, zm_WL_in 546 rfl rfl, zm_WL_in 50 (by decide +kernel) rfl, by decide +kernel, (fun _ => zm_WL_in 545 (by decide +kernel) rfl), (fun h => Bool.noConfusion h), by decide, zm_tb_ok rfl zk_X1_drawn_t⟩
set_option maxRecDepth 100000 in
theorem zk_X1_run_t : zm_tb 1 cX1_run false none zt_X1_run = true := by decide +kernel
set_option maxRecDepth 100000 in
theorem zk_X1_run : zm_mok zm_ms (RX1, yX1_run, cX1_run, 7, none, false, 4, 1, false, [17, 54, 72, 89], zt_X1_run) := ⟨rfl, by decide +kernel, ⟨by decide +kernel, by decide +kernel⟩, zm_WL_in 693 rfl rfl, zm_WL_in 50 (by decide +kernel) rfl, by decide +kernel, (fun h => Bool.noConfusion h), (fun _ => ⟨zm_WL_in 691 (by decide +kernel) rfl, zm_WL_in 692 (by decide +kernel) rfl, TX1, 2, rfl⟩), by decide, zm_tb_ok rfl zk_X1_run_t⟩
set_option maxRecDepth 100000 in
theorem zk_X2_fill_t : zm_tb 2 cX2_fill false none zt_X2_fill = true := by decide +kernel
set_option maxRecDepth 100000 in
theorem zk_X2_fill : zm_mok zm_ms (RX2, yX2_fill, cX2_fill, 4, none, false, 2, 2, false, [15, 37, 53], zt_X2_fill) := ⟨rfl, by decide +kernel, ⟨by decide +kernel, by decide +kernel⟩, zm_WL_in 465 rfl rfl, zm_WL_in 48 (by decide +kernel) rfl, by decide +kernel, (fun h => Bool.noConfusion h), (fun _ => ⟨zm_WL_in 463 (by decide +kernel) rfl, zm_WL_in 464 (by decide +kernel) rfl, TX2, 6, rfl⟩), by decide, zm_tb_ok rfl zk_X2_fill_t⟩
set_option maxRecDepth 100000 in
theorem zk_X2_hasOneInAnother_t : zm_tb 2 cX2_hasOneInAnother true (some .boolean) zt_X2_hasOneInAnother = true := by decide +kernel
set_option maxRecDepth 100000 in
theorem zk_X2_hasOneInAnother : zm_mok zm_ms (RX2, yX2_hasOneInAnother, cX2_hasOneInAnother, 3, (some .boolean), false, 0, 2, true, [2, 12], zt_X2_hasOneInAnother) := ⟨rfl, by decide +kernel, ⟨by decide +kernel, by decide +kernel⟩, zm_WL_in 474 rfl rfl, zm_WL_in 48 (by decide +kernel) rfl, by decide +kernel, (fun h => Bool.noConfusion h), (fun _ => ⟨zm_WL_in 472 (by decide +kernel) rfl, zm_WL_in 473 (by decide +kernel) rfl, TX2, 6, rfl⟩), by decide, zm_tb_ok rfl zk_X2_hasOneInAnother_t⟩
set_option maxRecDepth 100000 in
theorem zk_X2_chancePart_t : zm_tb 2 cX2_chancePart false (some .long) zt_X2_chancePart = true := by decide +kernel
set_option maxRecDepth 100000 in
theorem zk_X2_chancePart : zm_mok zm_ms (RX2, yX2_chancePart, cX2_chancePart, 3, (some .long), false, 2, 2, false, [], zt_X2_chancePart) := ⟨rfl, by decide +kernel, ⟨by decide +kernel, by decide +kernel⟩, zm_WL_in 483 rfl rfl, zm_WL_in 48 (by decide +kernel) rfl, by decide +kernel, (fun h => Bool.noConfusion h), (fun _ => ⟨zm_WL_in 481 (by decide +kernel) rfl, zm_WL_in 482 (by decide +kernel) rfl, TX2, 6, rfl⟩), by decide, zm_tb_ok rfl zk_X2_chancePart_t⟩
set_option maxRecDepth 100000 in
theorem zk_X2_meanPart_t : zm_tb 2 cX2_meanPart false (some .long) zt_X2_meanPart = true := by decide +kernel
set_option maxRecDepth 100000 in
theorem zk_X2_meanPart : zm_mok zm_ms (RX2, yX2_meanPart, cX2_meanPart, 5, (some .long), false, 1, 2, false, [9, 25], zt_X2_meanPart) := ⟨rfl, by decide +kernel, ⟨by decide +kernel, by decide +kernel⟩, zm_WL_in 509 rfl rfl, zm_WL_in 48 (by decide +kernel) rfl, by decide +kernel, (fun h => Bool.noConfusion h), (fun _ => ⟨zm_WL_in 507 (by decide +kernel) rfl, zm_WL_in 508 (by decide +kernel) rfl, TX2, 6, rfl⟩), by decide, zm_tb_ok rfl zk_X2_meanPart_t⟩
set_option maxRecDepth 100000 in
theorem zk_X2_setApart_t : zm_tb 2 cX2_setApart false none zt_X2_setApart = true := by decide +kernel
set_option maxRecDepth 100000 in
theorem zk_X2_setApart : zm_mok zm_ms (RX2, yX2_setApart, cX2_setApart, 3, none, false, 0, 2, false, [2, 14, 50, 69], zt_X2_setApart) := ⟨rfl, by decide +kernel, ⟨by decide +kernel, by decide +kernel⟩, zm_WL_in 488 rfl rfl, zm_WL_in 48 (by decide +kernel) rfl, by decide +kernel, (fun h => Bool.noConfusion h), (fun _ => ⟨zm_WL_in 487 (by decide +kernel) rfl, zm_WL_in 6 (by decide +kernel) rfl, TX2, 6, rfl⟩), by decide, zm_tb_ok rfl zk_X2_setApart_t⟩
set_option maxRecDepth 100000 in
theorem zk_X2_weight_t : zm_tb 2 cX2_weight false (some .long) zt_X2_weight = true := by decide +kernel
set_option maxRecDepth 100000 in
theorem zk_X2_weight : zm_mok zm_ms (RX2, yX2_weight, cX2_weight, 4, (some .long), false, 1, 2, false, [], zt_X2_weight) := ⟨rfl, by decide +kernel, ⟨by decide +kernel, by decide +kernel⟩, zm_WL_in 493 rfl rfl, zm_WL_in 48 (by decide +kernel) rfl, by decide +kernel, (fun h => Bool.noConfusion h), (fun _ => ⟨zm_WL_in 492 (by decide +kernel) rfl, zm_WL_in 7 (by decide +kernel) rfl, TX2, 6, rfl⟩), by decide, zm_tb_ok rfl zk_X2_weight_t⟩
set_option maxRecDepth 100000 in
theorem zk_X2_wholeWeight_t : zm_tb 2 cX2_wholeWeight false (some .long) zt_X2_wholeWeight = true := by decide +kernel
set_option maxRecDepth 100000 in
theorem zk_X2_wholeWeight : zm_mok zm_ms (RX2, yX2_wholeWeight, cX2_wholeWeight, 4, (some .long), false, 0, 2, false, [4], zt_X2_wholeWeight) := ⟨rfl, by decide +kernel, ⟨by decide +kernel, by decide +kernel⟩, zm_WL_in 500 rfl rfl, zm_WL_in 48 (by decide +kernel) rfl, by decide +kernel, (fun h => Bool.noConfusion h), (fun _ => ⟨zm_WL_in 499 (by decide +kernel) rfl, zm_WL_in 8 (by decide +kernel) rfl, TX2, 6, rfl⟩), by decide, zm_tb_ok rfl zk_X2_wholeWeight_t⟩
set_option maxRecDepth 100000 in
theorem zk_X2_minor_t : zm_tb 2 cX2_minor false (some .long) zt_X2_minor = true := by decide +kernel
set_option maxRecDepth 100000 in
theorem zk_X2_minor : zm_mok zm_ms (RX2, yX2_minor, cX2_minor, 8, (some .long), true, 4, 0, false, [27], zt_X2_minor) := ⟨rfl, by decide +kernel, ⟨by decide +kernel, by decide +kernel⟩, zm_WL_in 496 rfl rfl, zm_WL_in 48 (by decide +kernel) rfl, by decide +kernel, (fun _ => zm_WL_in 495 (by decide +kernel) rfl), (fun h => Bool.noConfusion h), by decide, zm_tb_ok rfl zk_X2_minor_t⟩
set_option maxRecDepth 100000 in
theorem zk_X2_rowsWithin_t : zm_tb 2 cX2_rowsWithin false (some .int) zt_X2_rowsWithin = true := by decide +kernel
set_option maxRecDepth 100000 in
theorem zk_X2_rowsWithin : zm_mok zm_ms (RX2, yX2_rowsWithin, cX2_rowsWithin, 5, (some .int), false, 2, 2, false, [24], zt_X2_rowsWithin) := ⟨rfl, by decide +kernel, ⟨by decide +kernel, by decide +kernel⟩, zm_WL_in 517 rfl rfl, zm_WL_in 48 (by decide +kernel) rfl, by decide +kernel, (fun h => Bool.noConfusion h), (fun _ => ⟨zm_WL_in 515 (by decide +kernel) rfl, zm_WL_in 516 (by decide +kernel) rfl, TX2, 6, rfl⟩), by decide, zm_tb_ok rfl zk_X2_rowsWithin_t⟩
set_option maxRecDepth 100000 in
theorem zk_X2_countEndings_t : zm_tb 2 cX2_countEndings false none zt_X2_countEndings = true := by decide +kernel
set_option maxRecDepth 100000 in
theorem zk_X2_countEndings : zm_mok zm_ms (RX2, yX2_countEndings, cX2_countEndings, 4, none, false, 1, 2, false, [9, 41, 62], zt_X2_countEndings) := ⟨rfl, by decide +kernel, ⟨by decide +kernel, by decide +kernel⟩, zm_WL_in 521 rfl rfl, zm_WL_in 48 (by decide +kernel) rfl, by decide +kernel, (fun h => Bool.noConfusion h), (fun _ => ⟨zm_WL_in 520 (by decide +kernel) rfl, zm_WL_in 9 (by decide +kernel) rfl, TX2, 6, rfl⟩), by decide, zm_tb_ok rfl zk_X2_countEndings_t⟩
set_option maxRecDepth 100000 in
theorem zk_X2_endingsAt_t : zm_tb 2 cX2_endingsAt false (some .int) zt_X2_endingsAt = true := by decide +kernel
set_option maxRecDepth 100000 in
theorem zk_X2_endingsAt : zm_mok zm_ms (RX2, yX2_endingsAt, cX2_endingsAt, 8, (some .int), false, 2, 2, false, [10, 29, 59], zt_X2_endingsAt) := ⟨rfl, by decide +kernel, ⟨by decide +kernel, by decide +kernel⟩, zm_WL_in 525 rfl rfl, zm_WL_in 48 (by decide +kernel) rfl, by decide +kernel, (fun h => Bool.noConfusion h), (fun _ => ⟨zm_WL_in 524 (by decide +kernel) rfl, zm_WL_in 10 (by decide +kernel) rfl, TX2, 6, rfl⟩), by decide, zm_tb_ok rfl zk_X2_endingsAt_t⟩
set_option maxRecDepth 100000 in
theorem zk_X3_isPart_t : zm_tb 3 cX3_isPart true (some .boolean) zt_X3_isPart = true := by decide +kernel
set_option maxRecDepth 100000 in
theorem zk_X3_isPart : zm_mok zm_ms (RX3, yX3_isPart, cX3_isPart, 1, (some .boolean), true, 1, 0, true, [], zt_X3_isPart) := ⟨rfl, by decide +kernel, ⟨by decide +kernel, by decide +kernel⟩, zm_WL_in 388 rfl rfl, zm_WL_in 56 (by decide +kernel) rfl, by decide +kernel, (fun _ => zm_WL_in 387 (by decide +kernel) rfl), (fun h => Bool.noConfusion h), by decide, zm_tb_ok rfl zk_X3_isPart_t⟩
set_option maxRecDepth 100000 in
theorem zk_X3_partOf_t : zm_tb 3 cX3_partOf false (some .long) zt_X3_partOf = true := by decide +kernel
set_option maxRecDepth 100000 in
theorem zk_X3_partOf : zm_mok zm_ms (RX3, yX3_partOf, cX3_partOf, 9, (some .long), true, 3, 0, false, [], zt_X3_partOf) := ⟨rfl, by decide +kernel, ⟨by decide +kernel, by decide +kernel⟩, zm_WL_in 403 rfl rfl, zm_WL_in 56 (by decide +kernel) rfl, by decide +kernel, (fun _ => zm_WL_in 402 (by decide +kernel) rfl), (fun h => Bool.noConfusion h), by decide, zm_tb_ok rfl zk_X3_partOf_t⟩
set_option maxRecDepth 100000 in
theorem zk_X3_commonDivisor_t : zm_tb 3 cX3_commonDivisor false (some .long) zt_X3_commonDivisor = true := by decide +kernel
set_option maxRecDepth 100000 in
theorem zk_X3_commonDivisor : zm_mok zm_ms (RX3, yX3_commonDivisor, cX3_commonDivisor, 11, (some .long), true, 2, 0, false, [9], zt_X3_commonDivisor) := ⟨rfl, by decide +kernel, ⟨by decide +kernel, by decide +kernel⟩, zm_WL_in 406 rfl rfl, zm_WL_in 56 (by decide +kernel) rfl, by decide +kernel, (fun _ => zm_WL_in 405 (by decide +kernel) rfl), (fun h => Bool.noConfusion h), by decide, zm_tb_ok rfl zk_X3_commonDivisor_t⟩
set_option maxRecDepth 100000 in
theorem zk_X4_share_t : zm_tb 4 cX4_share false (some .int) zt_X4_share = true := by decide +kernel
set_option maxRecDepth 100000 in
theorem zk_X4_share : zm_mok zm_ms (RX4, yX4_share, cX4_share, 3, (some .int), true, 3, 0, false, [], zt_X4_share) := ⟨rfl, by decide +kernel, ⟨by decide +kernel, by decide +kernel⟩, zm_WL_in 400 rfl rfl, zm_WL_in 55 (by decide +kernel) rfl, by decide +kernel, (fun _ => zm_WL_in 399 (by decide +kernel) rfl), (fun h => Bool.noConfusion h), by decide, zm_tb_ok rfl zk_X4_share_t⟩
set_option maxRecDepth 100000 in
theorem zk_X4_chancePart_t : zm_tb 4 cX4_chancePart false (some .long) zt_X4_chancePart = true := by decide +kernel
set_option maxRecDepth 100000 in
theorem zk_X4_chancePart : zm_mok zm_ms (RX4, yX4_chancePart, cX4_chancePart, 5, (some .long), true, 4, 0, false, [], zt_X4_chancePart) := ⟨rfl, by decide +kernel, ⟨by decide +kernel, by decide +kernel⟩, zm_WL_in 392 rfl rfl, zm_WL_in 55 (by decide +kernel) rfl, by decide +kernel, (fun _ => zm_WL_in 391 (by decide +kernel) rfl), (fun h => Bool.noConfusion h), by decide, zm_tb_ok rfl zk_X4_chancePart_t⟩
set_option maxRecDepth 100000 in
theorem zk_X4_beats_t : zm_tb 4 cX4_beats true (some .boolean) zt_X4_beats = true := by decide +kernel
set_option maxRecDepth 100000 in
theorem zk_X4_beats : zm_mok zm_ms (RX4, yX4_beats, cX4_beats, 3, (some .boolean), true, 3, 0, true, [], zt_X4_beats) := ⟨rfl, by decide +kernel, ⟨by decide +kernel, by decide +kernel⟩, zm_WL_in 432 rfl rfl, zm_WL_in 55 (by decide +kernel) rfl, by decide +kernel, (fun _ => zm_WL_in 431 (by decide +kernel) rfl), (fun h => Bool.noConfusion h), by decide, zm_tb_ok rfl zk_X4_beats_t⟩
set_option maxRecDepth 100000 in
theorem zk_X4_bestAnswer_t : zm_tb 4 cX4_bestAnswer false (some .int) zt_X4_bestAnswer = true := by decide +kernel
set_option maxRecDepth 100000 in
theorem zk_X4_bestAnswer : zm_mok zm_ms (RX4, yX4_bestAnswer, cX4_bestAnswer, 10, (some .int), true, 2, 0, false, [27, 99], zt_X4_bestAnswer) := ⟨rfl, by decide +kernel, ⟨by decide +kernel, by decide +kernel⟩, zm_WL_in 357 rfl rfl, zm_WL_in 55 (by decide +kernel) rfl, by decide +kernel, (fun _ => zm_WL_in 356 (by decide +kernel) rfl), (fun h => Bool.noConfusion h), by decide, zm_tb_ok rfl zk_X4_bestAnswer_t⟩
set_option maxRecDepth 100000 in
theorem zk_X5_wordAt_t : zm_tb 5 cX5_wordAt false (some .int) zt_X5_wordAt = true := by decide +kernel
set_option maxRecDepth 100000 in
theorem zk_X5_wordAt : zm_mok zm_ms (RX5, yX5_wordAt, cX5_wordAt, 2, (some .int), false, 1, 3, false, [], zt_X5_wordAt) := ⟨rfl, by decide +kernel, ⟨by decide +kernel, by decide +kernel⟩, zm_WL_in 443 rfl rfl, zm_WL_in 49 (by decide +kernel) rfl, by decide +kernel, (fun h => Bool.noConfusion h), (fun _ => ⟨zm_WL_in 441 (by decide +kernel) rfl, zm_WL_in 442 (by decide +kernel) rfl, TX5, 2, rfl⟩), by decide, zm_tb_ok rfl zk_X5_wordAt_t⟩
set_option maxRecDepth 100000 in
theorem zk_X5_find_t : zm_tb 5 cX5_find false (some .int) zt_X5_find = true := by decide +kernel
set_option maxRecDepth 100000 in
theorem zk_X5_find : zm_mok zm_ms (RX5, yX5_find, cX5_find, 5, (some .int), false, 1, 3, false, [12, 27, 44, 51, 81], zt_X5_find) := ⟨rfl, by decide +kernel, ⟨by decide +kernel, by decide +kernel⟩, zm_WL_in 427 rfl rfl, zm_WL_in 49 (by decide +kernel) rfl, by decide +kernel, (fun h => Bool.noConfusion h), (fun _ => ⟨zm_WL_in 425 (by decide +kernel) rfl, zm_WL_in 426 (by decide +kernel) rfl, TX5, 2, rfl⟩), by decide, zm_tb_ok rfl zk_X5_find_t⟩
set_option maxRecDepth 100000 in
theorem zk_X5_closes_t : zm_tb 5 cX5_closes true (some .boolean) zt_X5_closes = true := by decide +kernel
set_option maxRecDepth 100000 in
theorem zk_X5_closes : zm_mok zm_ms (RX5, yX5_closes, cX5_closes, 5, (some .boolean), true, 4, 0, true, [34, 64], zt_X5_closes) := ⟨rfl, by decide +kernel, ⟨by decide +kernel, by decide +kernel⟩, zm_WL_in 435 rfl rfl, zm_WL_in 49 (by decide +kernel) rfl, by decide +kernel, (fun _ => zm_WL_in 434 (by decide +kernel) rfl), (fun h => Bool.noConfusion h), by decide, zm_tb_ok rfl zk_X5_closes_t⟩
set_option maxRecDepth 100000 in
theorem zk_X5_isBeaten_t : zm_tb 5 cX5_isBeaten true (some .boolean) zt_X5_isBeaten = true := by decide +kernel
set_option maxRecDepth 100000 in
theorem zk_X5_isBeaten : zm_mok zm_ms (RX5, yX5_isBeaten, cX5_isBeaten, 3, (some .boolean), false, 2, 3, true, [], zt_X5_isBeaten) := ⟨rfl, by decide +kernel, ⟨by decide +kernel, by decide +kernel⟩, zm_WL_in 439 rfl rfl, zm_WL_in 49 (by decide +kernel) rfl, by decide +kernel, (fun h => Bool.noConfusion h), (fun _ => ⟨zm_WL_in 438 (by decide +kernel) rfl, zm_WL_in 4 (by decide +kernel) rfl, TX5, 2, rfl⟩), by decide, zm_tb_ok rfl zk_X5_isBeaten_t⟩
set_option maxRecDepth 100000 in
theorem zk_X6_copyFrom_t : zm_tb 6 cX6_copyFrom false none zt_X6_copyFrom = true := by decide +kernel
set_option maxRecDepth 100000 in
theorem zk_X6_copyFrom : zm_mok zm_ms (RX6, yX6_copyFrom, cX6_copyFrom, 2, none, false, 1, 4, false, [], zt_X6_copyFrom) := ⟨rfl, by decide +kernel, ⟨by decide +kernel, by decide +kernel⟩, zm_WL_in 612 rfl rfl, zm_WL_in 46 (by decide +kernel) rfl, by decide +kernel, (fun h => Bool.noConfusion h), (fun _ => ⟨zm_WL_in 610 (by decide +kernel) rfl, zm_WL_in 611 (by decide +kernel) rfl, TX6, 2, rfl⟩), by decide, zm_tb_ok rfl zk_X6_copyFrom_t⟩
set_option maxRecDepth 100000 in
theorem zk_X6_hasPlace_t : zm_tb 6 cX6_hasPlace true (some .boolean) zt_X6_hasPlace = true := by decide +kernel
set_option maxRecDepth 100000 in
theorem zk_X6_hasPlace : zm_mok zm_ms (RX6, yX6_hasPlace, cX6_hasPlace, 2, (some .boolean), false, 1, 4, true, [], zt_X6_hasPlace) := ⟨rfl, by decide +kernel, ⟨by decide +kernel, by decide +kernel⟩, zm_WL_in 300 rfl rfl, zm_WL_in 46 (by decide +kernel) rfl, by decide +kernel, (fun h => Bool.noConfusion h), (fun _ => ⟨zm_WL_in 298 (by decide +kernel) rfl, zm_WL_in 299 (by decide +kernel) rfl, TX6, 2, rfl⟩), by decide, zm_tb_ok rfl zk_X6_hasPlace_t⟩
set_option maxRecDepth 100000 in
theorem zk_X6_letterAt_t : zm_tb 6 cX6_letterAt false (some .int) zt_X6_letterAt = true := by decide +kernel
set_option maxRecDepth 100000 in
theorem zk_X6_letterAt : zm_mok zm_ms (RX6, yX6_letterAt, cX6_letterAt, 2, (some .int), false, 1, 4, false, [5], zt_X6_letterAt) := ⟨rfl, by decide +kernel, ⟨by decide +kernel, by decide +kernel⟩, zm_WL_in 296 rfl rfl, zm_WL_in 46 (by decide +kernel) rfl, by decide +kernel, (fun h => Bool.noConfusion h), (fun _ => ⟨zm_WL_in 294 (by decide +kernel) rfl, zm_WL_in 295 (by decide +kernel) rfl, TX6, 2, rfl⟩), by decide, zm_tb_ok rfl zk_X6_letterAt_t⟩
set_option maxRecDepth 100000 in
theorem zk_X6_append_t : zm_tb 6 cX6_append true (some .boolean) zt_X6_append = true := by decide +kernel
set_option maxRecDepth 100000 in
theorem zk_X6_append : zm_mok zm_ms (RX6, yX6_append, cX6_append, 2, (some .boolean), false, 1, 4, true, [], zt_X6_append) := ⟨rfl, by decide +kernel, ⟨by decide +kernel, by decide +kernel⟩, zm_WL_in 535 rfl rfl, zm_WL_in 46 (by decide +kernel) rfl, by decide +kernel, (fun h => Bool.noConfusion h), (fun _ => ⟨zm_WL_in 533 (by decide +kernel) rfl, zm_WL_in 534 (by decide +kernel) rfl, TX6, 2, rfl⟩), by decide, zm_tb_ok rfl zk_X6_append_t⟩
set_option maxRecDepth 100000 in
theorem zk_X6_dropLast_t : zm_tb 6 cX6_dropLast false none zt_X6_dropLast = true := by decide +kernel
set_option maxRecDepth 100000 in
theorem zk_X6_dropLast : zm_mok zm_ms (RX6, yX6_dropLast, cX6_dropLast, 2, none, false, 1, 4, false, [], zt_X6_dropLast) := ⟨rfl, by decide +kernel, ⟨by decide +kernel, by decide +kernel⟩, zm_WL_in 725 rfl rfl, zm_WL_in 46 (by decide +kernel) rfl, by decide +kernel, (fun h => Bool.noConfusion h), (fun _ => ⟨zm_WL_in 723 (by decide +kernel) rfl, zm_WL_in 724 (by decide +kernel) rfl, TX6, 2, rfl⟩), by decide, zm_tb_ok rfl zk_X6_dropLast_t⟩
set_option maxRecDepth 100000 in
theorem zk_X6_putOneOn_t : zm_tb 6 cX6_putOneOn false none zt_X6_putOneOn = true := by decide +kernel
set_option maxRecDepth 100000 in
theorem zk_X6_putOneOn : zm_mok zm_ms (RX6, yX6_putOneOn, cX6_putOneOn, 3, none, false, 1, 4, false, [2, 31], zt_X6_putOneOn) := ⟨rfl, by decide +kernel, ⟨by decide +kernel, by decide +kernel⟩, zm_WL_in 732 rfl rfl, zm_WL_in 46 (by decide +kernel) rfl, by decide +kernel, (fun h => Bool.noConfusion h), (fun _ => ⟨zm_WL_in 730 (by decide +kernel) rfl, zm_WL_in 731 (by decide +kernel) rfl, TX6, 2, rfl⟩), by decide, zm_tb_ok rfl zk_X6_putOneOn_t⟩
set_option maxRecDepth 100000 in
theorem zk_X6_endBits_t : zm_tb 6 cX6_endBits false (some .long) zt_X6_endBits = true := by decide +kernel
set_option maxRecDepth 100000 in
theorem zk_X6_endBits : zm_mok zm_ms (RX6, yX6_endBits, cX6_endBits, 6, (some .long), false, 1, 4, false, [8], zt_X6_endBits) := ⟨rfl, by decide +kernel, ⟨by decide +kernel, by decide +kernel⟩, zm_WL_in 563 rfl rfl, zm_WL_in 46 (by decide +kernel) rfl, by decide +kernel, (fun h => Bool.noConfusion h), (fun _ => ⟨zm_WL_in 561 (by decide +kernel) rfl, zm_WL_in 562 (by decide +kernel) rfl, TX6, 2, rfl⟩), by decide, zm_tb_ok rfl zk_X6_endBits_t⟩
set_option maxRecDepth 100000 in
theorem zk_X6_firstEnd_t : zm_tb 6 cX6_firstEnd false (some .int) zt_X6_firstEnd = true := by decide +kernel
set_option maxRecDepth 100000 in
theorem zk_X6_firstEnd : zm_mok zm_ms (RX6, yX6_firstEnd, cX6_firstEnd, 4, (some .int), false, 1, 4, false, [4], zt_X6_firstEnd) := ⟨rfl, by decide +kernel, ⟨by decide +kernel, by decide +kernel⟩, zm_WL_in 581 rfl rfl, zm_WL_in 46 (by decide +kernel) rfl, by decide +kernel, (fun h => Bool.noConfusion h), (fun _ => ⟨zm_WL_in 579 (by decide +kernel) rfl, zm_WL_in 580 (by decide +kernel) rfl, TX6, 2, rfl⟩), by decide, zm_tb_ok rfl zk_X6_firstEnd_t⟩
set_option maxRecDepth 100000 in
theorem zk_X6_matched_t : zm_tb 6 cX6_matched false (some .int) zt_X6_matched = true := by decide +kernel
set_option maxRecDepth 100000 in
theorem zk_X6_matched : zm_mok zm_ms (RX6, yX6_matched, cX6_matched, 4, (some .int), false, 1, 4, false, [9, 38], zt_X6_matched) := ⟨rfl, by decide +kernel, ⟨by decide +kernel, by decide +kernel⟩, zm_WL_in 591 rfl rfl, zm_WL_in 46 (by decide +kernel) rfl, by decide +kernel, (fun h => Bool.noConfusion h), (fun _ => ⟨zm_WL_in 589 (by decide +kernel) rfl, zm_WL_in 590 (by decide +kernel) rfl, TX6, 2, rfl⟩), by decide, zm_tb_ok rfl zk_X6_matched_t⟩
set_option maxRecDepth 100000 in
theorem zk_X7_append_t : zm_tb 7 cX7_append true (some .boolean) zt_X7_append = true := by decide +kernel
set_option maxRecDepth 100000 in
theorem zk_X7_append : zm_mok zm_ms (RX7, yX7_append, cX7_append, 2, (some .boolean), false, 1, 5, true, [], zt_X7_append) := ⟨rfl, by decide +kernel, ⟨by decide +kernel, by decide +kernel⟩, zm_WL_in 308 rfl rfl, zm_WL_in 47 (by decide +kernel) rfl, by decide +kernel, (fun h => Bool.noConfusion h), (fun _ => ⟨zm_WL_in 306 (by decide +kernel) rfl, zm_WL_in 307 (by decide +kernel) rfl, TX7, 6, rfl⟩), by decide, zm_tb_ok rfl zk_X7_append_t⟩
set_option maxRecDepth 100000 in
theorem zk_X7_read_t : zm_tb 7 cX7_read false (some .int) zt_X7_read = true := by decide +kernel
set_option maxRecDepth 100000 in
theorem zk_X7_read : zm_mok zm_ms (RX7, yX7_read, cX7_read, 3, (some .int), false, 1, 5, false, [17, 57], zt_X7_read) := ⟨rfl, by decide +kernel, ⟨by decide +kernel, by decide +kernel⟩, zm_WL_in 316 rfl rfl, zm_WL_in 47 (by decide +kernel) rfl, by decide +kernel, (fun h => Bool.noConfusion h), (fun _ => ⟨zm_WL_in 314 (by decide +kernel) rfl, zm_WL_in 315 (by decide +kernel) rfl, TX7, 6, rfl⟩), by decide, zm_tb_ok rfl zk_X7_read_t⟩
set_option maxRecDepth 100000 in
theorem zk_X7_goesOn_t : zm_tb 7 cX7_goesOn true (some .boolean) zt_X7_goesOn = true := by decide +kernel
set_option maxRecDepth 100000 in
theorem zk_X7_goesOn : zm_mok zm_ms (RX7, yX7_goesOn, cX7_goesOn, 4, (some .boolean), false, 2, 5, true, [], zt_X7_goesOn) := ⟨rfl, by decide +kernel, ⟨by decide +kernel, by decide +kernel⟩, zm_WL_in 320 rfl rfl, zm_WL_in 47 (by decide +kernel) rfl, by decide +kernel, (fun h => Bool.noConfusion h), (fun _ => ⟨zm_WL_in 319 (by decide +kernel) rfl, zm_WL_in 0 (by decide +kernel) rfl, TX7, 6, rfl⟩), by decide, zm_tb_ok rfl zk_X7_goesOn_t⟩
set_option maxRecDepth 100000 in
theorem zk_X7_addLetters_t : zm_tb 7 cX7_addLetters true (some .boolean) zt_X7_addLetters = true := by decide +kernel
set_option maxRecDepth 100000 in
theorem zk_X7_addLetters : zm_mok zm_ms (RX7, yX7_addLetters, cX7_addLetters, 4, (some .boolean), false, 2, 5, true, [17], zt_X7_addLetters) := ⟨rfl, by decide +kernel, ⟨by decide +kernel, by decide +kernel⟩, zm_WL_in 328 rfl rfl, zm_WL_in 47 (by decide +kernel) rfl, by decide +kernel, (fun h => Bool.noConfusion h), (fun _ => ⟨zm_WL_in 327 (by decide +kernel) rfl, zm_WL_in 2 (by decide +kernel) rfl, TX7, 6, rfl⟩), by decide, zm_tb_ok rfl zk_X7_addLetters_t⟩
set_option maxRecDepth 100000 in
theorem zk_X7_endClause_t : zm_tb 7 cX7_endClause true (some .boolean) zt_X7_endClause = true := by decide +kernel
set_option maxRecDepth 100000 in
theorem zk_X7_endClause : zm_mok zm_ms (RX7, yX7_endClause, cX7_endClause, 1, (some .boolean), false, 0, 5, true, [], zt_X7_endClause) := ⟨rfl, by decide +kernel, ⟨by decide +kernel, by decide +kernel⟩, zm_WL_in 324 rfl rfl, zm_WL_in 47 (by decide +kernel) rfl, by decide +kernel, (fun h => Bool.noConfusion h), (fun _ => ⟨zm_WL_in 323 (by decide +kernel) rfl, zm_WL_in 1 (by decide +kernel) rfl, TX7, 6, rfl⟩), by decide, zm_tb_ok rfl zk_X7_endClause_t⟩
set_option maxRecDepth 100000 in
theorem zk_X8_tens_t : zm_tb 8 cX8_tens false (some .int) zt_X8_tens = true := by decide +kernel
set_option maxRecDepth 100000 in
theorem zk_X8_tens : zm_mok zm_ms (RX8, yX8_tens, cX8_tens, 1, (some .int), true, 1, 0, false, [], zt_X8_tens) := ⟨rfl, by decide +kernel, ⟨by decide +kernel, by decide +kernel⟩, zm_WL_in 284 rfl rfl, zm_WL_in 53 (by decide +kernel) rfl, by decide +kernel, (fun _ => zm_WL_in 283 (by decide +kernel) rfl), (fun h => Bool.noConfusion h), by decide, zm_tb_ok rfl zk_X8_tens_t⟩
set_option maxRecDepth 100000 in
theorem zk_X8_length_t : zm_tb 8 cX8_length false (some .int) zt_X8_length = true := by decide +kernel
set_option maxRecDepth 100000 in
theorem zk_X8_length : zm_mok zm_ms (RX8, yX8_length, cX8_length, 1, (some .int), true, 1, 0, false, [], zt_X8_length) := ⟨rfl, by decide +kernel, ⟨by decide +kernel, by decide +kernel⟩, zm_WL_in 289 rfl rfl, zm_WL_in 53 (by decide +kernel) rfl, by decide +kernel, (fun _ => zm_WL_in 288 (by decide +kernel) rfl), (fun h => Bool.noConfusion h), by decide, zm_tb_ok rfl zk_X8_length_t⟩
set_option maxRecDepth 100000 in
theorem zk_X8_isWord_t : zm_tb 8 cX8_isWord true (some .boolean) zt_X8_isWord = true := by decide +kernel
set_option maxRecDepth 100000 in
theorem zk_X8_isWord : zm_mok zm_ms (RX8, yX8_isWord, cX8_isWord, 4, (some .boolean), true, 2, 0, true, [20], zt_X8_isWord) := ⟨rfl, by decide +kernel, ⟨by decide +kernel, by decide +kernel⟩, zm_WL_in 281 rfl rfl, zm_WL_in 53 (by decide +kernel) rfl, by decide +kernel, (fun _ => zm_WL_in 280 (by decide +kernel) rfl), (fun h => Bool.noConfusion h), by decide, zm_tb_ok rfl zk_X8_isWord_t⟩
set_option maxRecDepth 100000 in
theorem zk_X8_letterAt_t : zm_tb 8 cX8_letterAt false (some .int) zt_X8_letterAt = true := by decide +kernel
set_option maxRecDepth 100000 in
theorem zk_X8_letterAt : zm_mok zm_ms (RX8, yX8_letterAt, cX8_letterAt, 2, (some .int), true, 2, 0, false, [], zt_X8_letterAt) := ⟨rfl, by decide +kernel, ⟨by decide +kernel, by decide +kernel⟩, zm_WL_in 646 rfl rfl, zm_WL_in 53 (by decide +kernel) rfl, by decide +kernel, (fun _ => zm_WL_in 645 (by decide +kernel) rfl), (fun h => Bool.noConfusion h), by decide, zm_tb_ok rfl zk_X8_letterAt_t⟩
set_option maxRecDepth 100000 in
theorem zk_X8_firstLetters_t : zm_tb 8 cX8_firstLetters false (some .int) zt_X8_firstLetters = true := by decide +kernel
set_option maxRecDepth 100000 in
theorem zk_X8_firstLetters : zm_mok zm_ms (RX8, yX8_firstLetters, cX8_firstLetters, 2, (some .int), true, 2, 0, false, [], zt_X8_firstLetters) := ⟨rfl, by decide +kernel, ⟨by decide +kernel, by decide +kernel⟩, zm_WL_in 292 rfl rfl, zm_WL_in 53 (by decide +kernel) rfl, by decide +kernel, (fun _ => zm_WL_in 291 (by decide +kernel) rfl), (fun h => Bool.noConfusion h), by decide, zm_tb_ok rfl zk_X8_firstLetters_t⟩
set_option maxRecDepth 100000 in
theorem zk_X8_lastLetters_t : zm_tb 8 cX8_lastLetters false (some .int) zt_X8_lastLetters = true := by decide +kernel
set_option maxRecDepth 100000 in
theorem zk_X8_lastLetters : zm_mok zm_ms (RX8, yX8_lastLetters, cX8_lastLetters, 2, (some .int), true, 2, 0, false, [], zt_X8_lastLetters) := ⟨rfl, by decide +kernel, ⟨by decide +kernel, by decide +kernel⟩, zm_WL_in 573 rfl rfl, zm_WL_in 53 (by decide +kernel) rfl, by decide +kernel, (fun _ => zm_WL_in 572 (by decide +kernel) rfl), (fun h => Bool.noConfusion h), by decide, zm_tb_ok rfl zk_X8_lastLetters_t⟩
set_option maxRecDepth 100000 in
theorem zk_X8_grown_t : zm_tb 8 cX8_grown false (some .int) zt_X8_grown = true := by decide +kernel
set_option maxRecDepth 100000 in
theorem zk_X8_grown : zm_mok zm_ms (RX8, yX8_grown, cX8_grown, 2, (some .int), true, 2, 0, false, [], zt_X8_grown) := ⟨rfl, by decide +kernel, ⟨by decide +kernel, by decide +kernel⟩, zm_WL_in 567 rfl rfl, zm_WL_in 53 (by decide +kernel) rfl, by decide +kernel, (fun _ => zm_WL_in 566 (by decide +kernel) rfl), (fun h => Bool.noConfusion h), by decide, zm_tb_ok rfl zk_X8_grown_t⟩
set_option maxRecDepth 100000 in
theorem zk_X8_endsWith_t : zm_tb 8 cX8_endsWith true (some .boolean) zt_X8_endsWith = true := by decide +kernel
set_option maxRecDepth 100000 in
theorem zk_X8_endsWith : zm_mok zm_ms (RX8, yX8_endsWith, cX8_endsWith, 2, (some .boolean), true, 2, 0, true, [], zt_X8_endsWith) := ⟨rfl, by decide +kernel, ⟨by decide +kernel, by decide +kernel⟩, zm_WL_in 570 rfl rfl, zm_WL_in 53 (by decide +kernel) rfl, by decide +kernel, (fun _ => zm_WL_in 569 (by decide +kernel) rfl), (fun h => Bool.noConfusion h), by decide, zm_tb_ok rfl zk_X8_endsWith_t⟩
set_option maxRecDepth 100000 in
theorem zk_X8_overlapBits_t : zm_tb 8 cX8_overlapBits false (some .int) zt_X8_overlapBits = true := by decide +kernel
set_option maxRecDepth 100000 in
theorem zk_X8_overlapBits : zm_mok zm_ms (RX8, yX8_overlapBits, cX8_overlapBits, 6, (some .int), true, 2, 0, false, [20], zt_X8_overlapBits) := ⟨rfl, by decide +kernel, ⟨by decide +kernel, by decide +kernel⟩, zm_WL_in 351 rfl rfl, zm_WL_in 53 (by decide +kernel) rfl, by decide +kernel, (fun _ => zm_WL_in 350 (by decide +kernel) rfl), (fun h => Bool.noConfusion h), by decide, zm_tb_ok rfl zk_X8_overlapBits_t⟩
set_option maxRecDepth 100000 in
theorem zk_X8_numberOn_t : zm_tb 8 cX8_numberOn false (some .int) zt_X8_numberOn = true := by decide +kernel
set_option maxRecDepth 100000 in
theorem zk_X8_numberOn : zm_mok zm_ms (RX8, yX8_numberOn, cX8_numberOn, 7, (some .int), true, 3, 0, false, [15], zt_X8_numberOn) := ⟨rfl, by decide +kernel, ⟨by decide +kernel, by decide +kernel⟩, zm_WL_in 348 rfl rfl, zm_WL_in 53 (by decide +kernel) rfl, by decide +kernel, (fun _ => zm_WL_in 347 (by decide +kernel) rfl), (fun h => Bool.noConfusion h), by decide, zm_tb_ok rfl zk_X8_numberOn_t⟩
set_option maxRecDepth 100000 in
theorem zk_X8_standsIn_t : zm_tb 8 cX8_standsIn true (some .boolean) zt_X8_standsIn = true := by decide +kernel
set_option maxRecDepth 100000 in
theorem zk_X8_standsIn : zm_mok zm_ms (RX8, yX8_standsIn, cX8_standsIn, 5, (some .boolean), true, 2, 0, true, [21], zt_X8_standsIn) := ⟨rfl, by decide +kernel, ⟨by decide +kernel, by decide +kernel⟩, zm_WL_in 381 rfl rfl, zm_WL_in 53 (by decide +kernel) rfl, by decide +kernel, (fun _ => zm_WL_in 380 (by decide +kernel) rfl), (fun h => Bool.noConfusion h), by decide, zm_tb_ok rfl zk_X8_standsIn_t⟩
set_option maxRecDepth 100000 in
theorem zk_X8_clash_t : zm_tb 8 cX8_clash true (some .boolean) zt_X8_clash = true := by decide +kernel
set_option maxRecDepth 100000 in
theorem zk_X8_clash : zm_mok zm_ms (RX8, yX8_clash, cX8_clash, 2, (some .boolean), true, 2, 0, true, [], zt_X8_clash) := ⟨rfl, by decide +kernel, ⟨by decide +kernel, by decide +kernel⟩, zm_WL_in 395 rfl rfl, zm_WL_in 53 (by decide +kernel) rfl, by decide +kernel, (fun _ => zm_WL_in 394 (by decide +kernel) rfl), (fun h => Bool.noConfusion h), by decide, zm_tb_ok rfl zk_X8_clash_t⟩
set_option maxRecDepth 100000 in
theorem zk_X8_oneOn_t : zm_tb 8 cX8_oneOn false (some .int) zt_X8_oneOn = true := by decide +kernel
set_option maxRecDepth 100000 in
theorem zk_X8_oneOn : zm_mok zm_ms (RX8, yX8_oneOn, cX8_oneOn, 2, (some .int), true, 2, 0, false, [], zt_X8_oneOn) := ⟨rfl, by decide +kernel, ⟨by decide +kernel, by decide +kernel⟩, zm_WL_in 652 rfl rfl, zm_WL_in 53 (by decide +kernel) rfl, by decide +kernel, (fun _ => zm_WL_in 651 (by decide +kernel) rfl), (fun h => Bool.noConfusion h), by decide, zm_tb_ok rfl zk_X8_oneOn_t⟩
set_option maxRecDepth 100000 in
theorem zk_X8_turned_t : zm_tb 8 cX8_turned false (some .int) zt_X8_turned = true := by decide +kernel
set_option maxRecDepth 100000 in
theorem zk_X8_turned : zm_mok zm_ms (RX8, yX8_turned, cX8_turned, 3, (some .int), true, 1, 0, false, [9], zt_X8_turned) := ⟨rfl, by decide +kernel, ⟨by decide +kernel, by decide +kernel⟩, zm_WL_in 643 rfl rfl, zm_WL_in 53 (by decide +kernel) rfl, by decide +kernel, (fun _ => zm_WL_in 642 (by decide +kernel) rfl), (fun h => Bool.noConfusion h), by decide, zm_tb_ok rfl zk_X8_turned_t⟩
set_option maxRecDepth 100000 in
theorem zk_X8_shifted_t : zm_tb 8 cX8_shifted false (some .int) zt_X8_shifted = true := by decide +kernel
set_option maxRecDepth 100000 in
theorem zk_X8_shifted : zm_mok zm_ms (RX8, yX8_shifted, cX8_shifted, 5, (some .int), true, 2, 0, false, [10], zt_X8_shifted) := ⟨rfl, by decide +kernel, ⟨by decide +kernel, by decide +kernel⟩, zm_WL_in 658 rfl rfl, zm_WL_in 53 (by decide +kernel) rfl, by decide +kernel, (fun _ => zm_WL_in 657 (by decide +kernel) rfl), (fun h => Bool.noConfusion h), by decide, zm_tb_ok rfl zk_X8_shifted_t⟩
set_option maxRecDepth 100000 in
theorem zk_X8_doubled_t : zm_tb 8 cX8_doubled false (some .int) zt_X8_doubled = true := by decide +kernel
set_option maxRecDepth 100000 in
theorem zk_X8_doubled : zm_mok zm_ms (RX8, yX8_doubled, cX8_doubled, 1, (some .int), true, 1, 0, false, [], zt_X8_doubled) := ⟨rfl, by decide +kernel, ⟨by decide +kernel, by decide +kernel⟩, zm_WL_in 662 rfl rfl, zm_WL_in 53 (by decide +kernel) rfl, by decide +kernel, (fun _ => zm_WL_in 661 (by decide +kernel) rfl), (fun h => Bool.noConfusion h), by decide, zm_tb_ok rfl zk_X8_doubled_t⟩
set_option maxRecDepth 100000 in
theorem zk_X8_answering_t : zm_tb 8 cX8_answering false (some .int) zt_X8_answering = true := by decide +kernel
set_option maxRecDepth 100000 in
theorem zk_X8_answering : zm_mok zm_ms (RX8, yX8_answering, cX8_answering, 3, (some .int), true, 2, 0, false, [], zt_X8_answering) := ⟨rfl, by decide +kernel, ⟨by decide +kernel, by decide +kernel⟩, zm_WL_in 649 rfl rfl, zm_WL_in 53 (by decide +kernel) rfl, by decide +kernel, (fun _ => zm_WL_in 648 (by decide +kernel) rfl), (fun h => Bool.noConfusion h), by decide, zm_tb_ok rfl zk_X8_answering_t⟩
set_option maxRecDepth 100000 in
theorem zk_X8_ledBy_t : zm_tb 8 cX8_ledBy false (some .int) zt_X8_ledBy = true := by decide +kernel
set_option maxRecDepth 100000 in
theorem zk_X8_ledBy : zm_mok zm_ms (RX8, yX8_ledBy, cX8_ledBy, 2, (some .int), true, 2, 0, false, [], zt_X8_ledBy) := ⟨rfl, by decide +kernel, ⟨by decide +kernel, by decide +kernel⟩, zm_WL_in 655 rfl rfl, zm_WL_in 53 (by decide +kernel) rfl, by decide +kernel, (fun _ => zm_WL_in 654 (by decide +kernel) rfl), (fun h => Bool.noConfusion h), by decide, zm_tb_ok rfl zk_X8_ledBy_t⟩
set_option maxRecDepth 100000 in
theorem zk_X8_least_t : zm_tb 8 cX8_least false (some .int) zt_X8_least = true := by decide +kernel
set_option maxRecDepth 100000 in
theorem zk_X8_least : zm_mok zm_ms (RX8, yX8_least, cX8_least, 1, (some .int), true, 1, 0, false, [], zt_X8_least) := ⟨rfl, by decide +kernel, ⟨by decide +kernel, by decide +kernel⟩, zm_WL_in 362 rfl rfl, zm_WL_in 53 (by decide +kernel) rfl, by decide +kernel, (fun _ => zm_WL_in 361 (by decide +kernel) rfl), (fun h => Bool.noConfusion h), by decide, zm_tb_ok rfl zk_X8_least_t⟩
set_option maxRecDepth 100000 in
theorem zk_X8_following_t : zm_tb 8 cX8_following false (some .int) zt_X8_following = true := by decide +kernel
set_option maxRecDepth 100000 in
theorem zk_X8_following : zm_mok zm_ms (RX8, yX8_following, cX8_following, 6, (some .int), true, 2, 0, false, [10], zt_X8_following) := ⟨rfl, by decide +kernel, ⟨by decide +kernel, by decide +kernel⟩, zm_WL_in 365 rfl rfl, zm_WL_in 53 (by decide +kernel) rfl, by decide +kernel, (fun _ => zm_WL_in 364 (by decide +kernel) rfl), (fun h => Bool.noConfusion h), by decide, zm_tb_ok rfl zk_X8_following_t⟩
set_option maxRecDepth 100000 in
theorem zk_X9_sides_t : zm_tb 9 cX9_sides false (some .int) zt_X9_sides = true := by decide +kernel
set_option maxRecDepth 100000 in
theorem zk_X9_sides : zm_mok zm_ms (RX9, yX9_sides, cX9_sides, 3, (some .int), false, 1, 6, false, [25], zt_X9_sides) := ⟨rfl, by decide +kernel, ⟨by decide +kernel, by decide +kernel⟩, zm_WL_in 266 rfl rfl, zm_WL_in 44 (by decide +kernel) rfl, by decide +kernel, (fun h => Bool.noConfusion h), (fun _ => ⟨zm_WL_in 264 (by decide +kernel) rfl, zm_WL_in 265 (by decide +kernel) rfl, TX9, 13, rfl⟩), by decide, zm_tb_ok rfl zk_X9_sides_t⟩
set_option maxRecDepth 100000 in
theorem zk_X9_feed_t : zm_tb 9 cX9_feed false (some .int) zt_X9_feed = true := by decide +kernel
set_option maxRecDepth 100000 in
theorem zk_X9_feed : zm_mok zm_ms (RX9, yX9_feed, cX9_feed, 2, (some .int), false, 1, 6, false, [22], zt_X9_feed) := ⟨rfl, by decide +kernel, ⟨by decide +kernel, by decide +kernel⟩, zm_WL_in 304 rfl rfl, zm_WL_in 44 (by decide +kernel) rfl, by decide +kernel, (fun h => Bool.noConfusion h), (fun _ => ⟨zm_WL_in 302 (by decide +kernel) rfl, zm_WL_in 303 (by decide +kernel) rfl, TX9, 13, rfl⟩), by decide, zm_tb_ok rfl zk_X9_feed_t⟩
set_option maxRecDepth 100000 in
theorem zk_X9_words_t : zm_tb 9 cX9_words false (some .int) zt_X9_words = true := by decide +kernel
set_option maxRecDepth 100000 in
theorem zk_X9_words : zm_mok zm_ms (RX9, yX9_words, cX9_words, 3, (some .int), false, 0, 6, false, [14, 58], zt_X9_words) := ⟨rfl, by decide +kernel, ⟨by decide +kernel, by decide +kernel⟩, zm_WL_in 312 rfl rfl, zm_WL_in 44 (by decide +kernel) rfl, by decide +kernel, (fun h => Bool.noConfusion h), (fun _ => ⟨zm_WL_in 310 (by decide +kernel) rfl, zm_WL_in 311 (by decide +kernel) rfl, TX9, 13, rfl⟩), by decide, zm_tb_ok rfl zk_X9_words_t⟩
set_option maxRecDepth 100000 in
theorem zk_X9_becomes_t : zm_tb 9 cX9_becomes false (some .int) zt_X9_becomes = true := by decide +kernel
set_option maxRecDepth 100000 in
theorem zk_X9_becomes : zm_mok zm_ms (RX9, yX9_becomes, cX9_becomes, 4, (some .int), false, 2, 6, false, [8, 24], zt_X9_becomes) := ⟨rfl, by decide +kernel, ⟨by decide +kernel, by decide +kernel⟩, zm_WL_in 337 rfl rfl, zm_WL_in 44 (by decide +kernel) rfl, by decide +kernel, (fun h => Bool.noConfusion h), (fun _ => ⟨zm_WL_in 335 (by decide +kernel) rfl, zm_WL_in 336 (by decide +kernel) rfl, TX9, 13, rfl⟩), by decide, zm_tb_ok rfl zk_X9_becomes_t⟩
set_option maxRecDepth 100000 in
theorem zk_X9_of_t : zm_tb 9 cX9_of false (some .int) zt_X9_of = true := by decide +kernel
set_option maxRecDepth 100000 in
theorem zk_X9_of : zm_mok zm_ms (RX9, yX9_of, cX9_of, 4, (some .int), false, 2, 6, false, [8, 21], zt_X9_of) := ⟨rfl, by decide +kernel, ⟨by decide +kernel, by decide +kernel⟩, zm_WL_in 343 rfl rfl, zm_WL_in 44 (by decide +kernel) rfl, by decide +kernel, (fun h => Bool.noConfusion h), (fun _ => ⟨zm_WL_in 341 (by decide +kernel) rfl, zm_WL_in 342 (by decide +kernel) rfl, TX9, 13, rfl⟩), by decide, zm_tb_ok rfl zk_X9_of_t⟩
set_option maxRecDepth 100000 in
theorem zk_X9_overlaps_t : zm_tb 9 cX9_overlaps false (some .int) zt_X9_overlaps = true := by decide +kernel
set_option maxRecDepth 100000 in
theorem zk_X9_overlaps : zm_mok zm_ms (RX9, yX9_overlaps, cX9_overlaps, 3, (some .int), false, 2, 6, false, [8, 19, 32], zt_X9_overlaps) := ⟨rfl, by decide +kernel, ⟨by decide +kernel, by decide +kernel⟩, zm_WL_in 369 rfl rfl, zm_WL_in 44 (by decide +kernel) rfl, by decide +kernel, (fun h => Bool.noConfusion h), (fun _ => ⟨zm_WL_in 367 (by decide +kernel) rfl, zm_WL_in 368 (by decide +kernel) rfl, TX9, 13, rfl⟩), by decide, zm_tb_ok rfl zk_X9_overlaps_t⟩
set_option maxRecDepth 100000 in
theorem zk_X9_number_t : zm_tb 9 cX9_number false (some .int) zt_X9_number = true := by decide +kernel
set_option maxRecDepth 100000 in
theorem zk_X9_number : zm_mok zm_ms (RX9, yX9_number, cX9_number, 3, (some .int), false, 2, 6, false, [8, 19, 32, 40], zt_X9_number) := ⟨rfl, by decide +kernel, ⟨by decide +kernel, by decide +kernel⟩, zm_WL_in 374 rfl rfl, zm_WL_in 44 (by decide +kernel) rfl, by decide +kernel, (fun h => Bool.noConfusion h), (fun _ => ⟨zm_WL_in 372 (by decide +kernel) rfl, zm_WL_in 373 (by decide +kernel) rfl, TX9, 13, rfl⟩), by decide, zm_tb_ok rfl zk_X9_number_t⟩
set_option maxRecDepth 100000 in
theorem zk_X9_isIn_t : zm_tb 9 cX9_isIn false (some .int) zt_X9_isIn = true := by decide +kernel
set_option maxRecDepth 100000 in
theorem zk_X9_isIn : zm_mok zm_ms (RX9, yX9_isIn, cX9_isIn, 3, (some .int), false, 2, 6, false, [8, 19, 32], zt_X9_isIn) := ⟨rfl, by decide +kernel, ⟨by decide +kernel, by decide +kernel⟩, zm_WL_in 378 rfl rfl, zm_WL_in 44 (by decide +kernel) rfl, by decide +kernel, (fun h => Bool.noConfusion h), (fun _ => ⟨zm_WL_in 376 (by decide +kernel) rfl, zm_WL_in 377 (by decide +kernel) rfl, TX9, 13, rfl⟩), by decide, zm_tb_ok rfl zk_X9_isIn_t⟩
set_option maxRecDepth 100000 in
theorem zk_X9_chance_t : zm_tb 9 cX9_chance false (some .long) zt_X9_chance = true := by decide +kernel
set_option maxRecDepth 100000 in
theorem zk_X9_chance : zm_mok zm_ms (RX9, yX9_chance, cX9_chance, 4, (some .long), false, 3, 6, false, [8, 26, 41, 49], zt_X9_chance) := ⟨rfl, by decide +kernel, ⟨by decide +kernel, by decide +kernel⟩, zm_WL_in 385 rfl rfl, zm_WL_in 44 (by decide +kernel) rfl, by decide +kernel, (fun h => Bool.noConfusion h), (fun _ => ⟨zm_WL_in 383 (by decide +kernel) rfl, zm_WL_in 384 (by decide +kernel) rfl, TX9, 13, rfl⟩), by decide, zm_tb_ok rfl zk_X9_chance_t⟩
set_option maxRecDepth 100000 in
theorem zk_X9_answered_t : zm_tb 9 cX9_answered false (some .long) zt_X9_answered = true := by decide +kernel
set_option maxRecDepth 100000 in
theorem zk_X9_answered : zm_mok zm_ms (RX9, yX9_answered, cX9_answered, 4, (some .long), false, 2, 6, false, [15, 30, 42], zt_X9_answered) := ⟨rfl, by decide +kernel, ⟨by decide +kernel, by decide +kernel⟩, zm_WL_in 411 rfl rfl, zm_WL_in 44 (by decide +kernel) rfl, by decide +kernel, (fun h => Bool.noConfusion h), (fun _ => ⟨zm_WL_in 409 (by decide +kernel) rfl, zm_WL_in 410 (by decide +kernel) rfl, TX9, 13, rfl⟩), by decide, zm_tb_ok rfl zk_X9_answered_t⟩
set_option maxRecDepth 100000 in
theorem zk_X9_trail_t : zm_tb 9 cX9_trail false (some .int) zt_X9_trail = true := by decide +kernel
set_option maxRecDepth 100000 in
theorem zk_X9_trail : zm_mok zm_ms (RX9, yX9_trail, cX9_trail, 3, (some .int), false, 2, 6, false, [8], zt_X9_trail) := ⟨rfl, by decide +kernel, ⟨by decide +kernel, by decide +kernel⟩, zm_WL_in 415 rfl rfl, zm_WL_in 44 (by decide +kernel) rfl, by decide +kernel, (fun h => Bool.noConfusion h), (fun _ => ⟨zm_WL_in 413 (by decide +kernel) rfl, zm_WL_in 414 (by decide +kernel) rfl, TX9, 13, rfl⟩), by decide, zm_tb_ok rfl zk_X9_trail_t⟩
set_option maxRecDepth 100000 in
theorem zk_X9_ring_t : zm_tb 9 cX9_ring false (some .int) zt_X9_ring = true := by decide +kernel
set_option maxRecDepth 100000 in
theorem zk_X9_ring : zm_mok zm_ms (RX9, yX9_ring, cX9_ring, 3, (some .int), false, 1, 6, false, [11], zt_X9_ring) := ⟨rfl, by decide +kernel, ⟨by decide +kernel, by decide +kernel⟩, zm_WL_in 423 rfl rfl, zm_WL_in 44 (by decide +kernel) rfl, by decide +kernel, (fun h => Bool.noConfusion h), (fun _ => ⟨zm_WL_in 421 (by decide +kernel) rfl, zm_WL_in 422 (by decide +kernel) rfl, TX9, 13, rfl⟩), by decide, zm_tb_ok rfl zk_X9_ring_t⟩
set_option maxRecDepth 100000 in
theorem zk_X9_field_t : zm_tb 9 cX9_field false (some .long) zt_X9_field = true := by decide +kernel
set_option maxRecDepth 100000 in
theorem zk_X9_field : zm_mok zm_ms (RX9, yX9_field, cX9_field, 4, (some .long), false, 3, 6, false, [5, 24], zt_X9_field) := ⟨rfl, by decide +kernel, ⟨by decide +kernel, by decide +kernel⟩, zm_WL_in 447 rfl rfl, zm_WL_in 44 (by decide +kernel) rfl, by decide +kernel, (fun h => Bool.noConfusion h), (fun _ => ⟨zm_WL_in 445 (by decide +kernel) rfl, zm_WL_in 446 (by decide +kernel) rfl, TX9, 13, rfl⟩), by decide, zm_tb_ok rfl zk_X9_field_t⟩
set_option maxRecDepth 100000 in
theorem zk_X9_mean_t : zm_tb 9 cX9_mean false (some .long) zt_X9_mean = true := by decide +kernel
set_option maxRecDepth 100000 in
theorem zk_X9_mean : zm_mok zm_ms (RX9, yX9_mean, cX9_mean, 3, (some .long), false, 2, 6, false, [12], zt_X9_mean) := ⟨rfl, by decide +kernel, ⟨by decide +kernel, by decide +kernel⟩, zm_WL_in 505 rfl rfl, zm_WL_in 44 (by decide +kernel) rfl, by decide +kernel, (fun h => Bool.noConfusion h), (fun _ => ⟨zm_WL_in 503 (by decide +kernel) rfl, zm_WL_in 504 (by decide +kernel) rfl, TX9, 13, rfl⟩), by decide, zm_tb_ok rfl zk_X9_mean_t⟩
set_option maxRecDepth 100000 in
theorem zk_X9_within_t : zm_tb 9 cX9_within false (some .int) zt_X9_within = true := by decide +kernel
set_option maxRecDepth 100000 in
theorem zk_X9_within : zm_mok zm_ms (RX9, yX9_within, cX9_within, 4, (some .int), false, 3, 6, false, [8, 29, 58, 65], zt_X9_within) := ⟨rfl, by decide +kernel, ⟨by decide +kernel, by decide +kernel⟩, zm_WL_in 513 rfl rfl, zm_WL_in 44 (by decide +kernel) rfl, by decide +kernel, (fun h => Bool.noConfusion h), (fun _ => ⟨zm_WL_in 511 (by decide +kernel) rfl, zm_WL_in 512 (by decide +kernel) rfl, TX9, 13, rfl⟩), by decide, zm_tb_ok rfl zk_X9_within_t⟩
set_option maxRecDepth 100000 in
theorem zk_X9_cast_t : zm_tb 9 cX9_cast false (some .int) zt_X9_cast = true := by decide +kernel
set_option maxRecDepth 100000 in
theorem zk_X9_cast : zm_mok zm_ms (RX9, yX9_cast, cX9_cast, 2, (some .int), false, 1, 6, false, [30], zt_X9_cast) := ⟨rfl, by decide +kernel, ⟨by decide +kernel, by decide +kernel⟩, zm_WL_in 531 rfl rfl, zm_WL_in 44 (by decide +kernel) rfl, by decide +kernel, (fun h => Bool.noConfusion h), (fun _ => ⟨zm_WL_in 529 (by decide +kernel) rfl, zm_WL_in 530 (by decide +kernel) rfl, TX9, 13, rfl⟩), by decide, zm_tb_ok rfl zk_X9_cast_t⟩
set_option maxRecDepth 100000 in
theorem zk_X9_casts_t : zm_tb 9 cX9_casts false (some .int) zt_X9_casts = true := by decide +kernel
set_option maxRecDepth 100000 in
theorem zk_X9_casts : zm_mok zm_ms (RX9, yX9_casts, cX9_casts, 5, (some .int), false, 2, 6, false, [19, 29], zt_X9_casts) := ⟨rfl, by decide +kernel, ⟨by decide +kernel, by decide +kernel⟩, zm_WL_in 539 rfl rfl, zm_WL_in 44 (by decide +kernel) rfl, by decide +kernel, (fun h => Bool.noConfusion h), (fun _ => ⟨zm_WL_in 537 (by decide +kernel) rfl, zm_WL_in 538 (by decide +kernel) rfl, TX9, 13, rfl⟩), by decide, zm_tb_ok rfl zk_X9_casts_t⟩
set_option maxRecDepth 100000 in
theorem zk_X9_wipe_t : zm_tb 9 cX9_wipe false (some .int) zt_X9_wipe = true := by decide +kernel
set_option maxRecDepth 100000 in
theorem zk_X9_wipe : zm_mok zm_ms (RX9, yX9_wipe, cX9_wipe, 2, (some .int), false, 0, 6, false, [], zt_X9_wipe) := ⟨rfl, by decide +kernel, ⟨by decide +kernel, by decide +kernel⟩, zm_WL_in 550 rfl rfl, zm_WL_in 44 (by decide +kernel) rfl, by decide +kernel, (fun h => Bool.noConfusion h), (fun _ => ⟨zm_WL_in 548 (by decide +kernel) rfl, zm_WL_in 549 (by decide +kernel) rfl, TX9, 13, rfl⟩), by decide, zm_tb_ok rfl zk_X9_wipe_t⟩
set_option maxRecDepth 100000 in
theorem zk_X9_strip_t : zm_tb 9 cX9_strip false (some .int) zt_X9_strip = true := by decide +kernel
set_option maxRecDepth 100000 in
theorem zk_X9_strip : zm_mok zm_ms (RX9, yX9_strip, cX9_strip, 2, (some .int), false, 1, 6, false, [11], zt_X9_strip) := ⟨rfl, by decide +kernel, ⟨by decide +kernel, by decide +kernel⟩, zm_WL_in 554 rfl rfl, zm_WL_in 44 (by decide +kernel) rfl, by decide +kernel, (fun h => Bool.noConfusion h), (fun _ => ⟨zm_WL_in 552 (by decide +kernel) rfl, zm_WL_in 553 (by decide +kernel) rfl, TX9, 13, rfl⟩), by decide, zm_tb_ok rfl zk_X9_strip_t⟩
set_option maxRecDepth 100000 in
theorem zk_X9_ends_t : zm_tb 9 cX9_ends false (some .long) zt_X9_ends = true := by decide +kernel
set_option maxRecDepth 100000 in
theorem zk_X9_ends : zm_mok zm_ms (RX9, yX9_ends, cX9_ends, 2, (some .long), false, 1, 6, false, [8], zt_X9_ends) := ⟨rfl, by decide +kernel, ⟨by decide +kernel, by decide +kernel⟩, zm_WL_in 559 rfl rfl, zm_WL_in 44 (by decide +kernel) rfl, by decide +kernel, (fun h => Bool.noConfusion h), (fun _ => ⟨zm_WL_in 557 (by decide +kernel) rfl, zm_WL_in 558 (by decide +kernel) rfl, TX9, 13, rfl⟩), by decide, zm_tb_ok rfl zk_X9_ends_t⟩
set_option maxRecDepth 100000 in
theorem zk_X9_seen_t : zm_tb 9 cX9_seen false (some .int) zt_X9_seen = true := by decide +kernel
set_option maxRecDepth 100000 in
theorem zk_X9_seen : zm_mok zm_ms (RX9, yX9_seen, cX9_seen, 4, (some .int), false, 2, 6, false, [8, 21], zt_X9_seen) := ⟨rfl, by decide +kernel, ⟨by decide +kernel, by decide +kernel⟩, zm_WL_in 577 rfl rfl, zm_WL_in 44 (by decide +kernel) rfl, by decide +kernel, (fun h => Bool.noConfusion h), (fun _ => ⟨zm_WL_in 575 (by decide +kernel) rfl, zm_WL_in 576 (by decide +kernel) rfl, TX9, 13, rfl⟩), by decide, zm_tb_ok rfl zk_X9_seen_t⟩
set_option maxRecDepth 100000 in
theorem zk_X9_who_t : zm_tb 9 cX9_who false (some .int) zt_X9_who = true := by decide +kernel
set_option maxRecDepth 100000 in
theorem zk_X9_who : zm_mok zm_ms (RX9, yX9_who, cX9_who, 1, (some .int), false, 0, 6, false, [], zt_X9_who) := ⟨rfl, by decide +kernel, ⟨by decide +kernel, by decide +kernel⟩, zm_WL_in 598 rfl rfl, zm_WL_in 44 (by decide +kernel) rfl, by decide +kernel, (fun h => Bool.noConfusion h), (fun _ => ⟨zm_WL_in 596 (by decide +kernel) rfl, zm_WL_in 597 (by decide +kernel) rfl, TX9, 13, rfl⟩), by decide, zm_tb_ok rfl zk_X9_who_t⟩
set_option maxRecDepth 100000 in
theorem zk_X9_were_t : zm_tb 9 cX9_were false (some .int) zt_X9_were = true := by decide +kernel
set_option maxRecDepth 100000 in
theorem zk_X9_were : zm_mok zm_ms (RX9, yX9_were, cX9_were, 5, (some .int), false, 2, 6, false, [11, 22, 46], zt_X9_were) := ⟨rfl, by decide +kernel, ⟨by decide +kernel, by decide +kernel⟩, zm_WL_in 608 rfl rfl, zm_WL_in 44 (by decide +kernel) rfl, by decide +kernel, (fun h => Bool.noConfusion h), (fun _ => ⟨zm_WL_in 606 (by decide +kernel) rfl, zm_WL_in 607 (by decide +kernel) rfl, TX9, 13, rfl⟩), by decide, zm_tb_ok rfl zk_X9_were_t⟩
set_option maxRecDepth 100000 in
theorem zk_X9_player_t : zm_tb 9 cX9_player false (some .int) zt_X9_player = true := by decide +kernel
set_option maxRecDepth 100000 in
theorem zk_X9_player : zm_mok zm_ms (RX9, yX9_player, cX9_player, 3, (some .int), false, 2, 6, false, [18, 32], zt_X9_player) := ⟨rfl, by decide +kernel, ⟨by decide +kernel, by decide +kernel⟩, zm_WL_in 619 rfl rfl, zm_WL_in 44 (by decide +kernel) rfl, by decide +kernel, (fun h => Bool.noConfusion h), (fun _ => ⟨zm_WL_in 617 (by decide +kernel) rfl, zm_WL_in 618 (by decide +kernel) rfl, TX9, 13, rfl⟩), by decide, zm_tb_ok rfl zk_X9_player_t⟩
set_option maxRecDepth 100000 in
theorem zk_X9_playerOf_t : zm_tb 9 cX9_playerOf false (some .int) zt_X9_playerOf = true := by decide +kernel
set_option maxRecDepth 100000 in
theorem zk_X9_playerOf : zm_mok zm_ms (RX9, yX9_playerOf, cX9_playerOf, 3, (some .int), false, 2, 6, false, [8], zt_X9_playerOf) := ⟨rfl, by decide +kernel, ⟨by decide +kernel, by decide +kernel⟩, zm_WL_in 627 rfl rfl, zm_WL_in 44 (by decide +kernel) rfl, by decide +kernel, (fun h => Bool.noConfusion h), (fun _ => ⟨zm_WL_in 625 (by decide +kernel) rfl, zm_WL_in 626 (by decide +kernel) rfl, TX9, 13, rfl⟩), by decide, zm_tb_ok rfl zk_X9_playerOf_t⟩
set_option maxRecDepth 100000 in
theorem zk_X9_pick_t : zm_tb 9 cX9_pick false (some .int) zt_X9_pick = true := by decide +kernel
set_option maxRecDepth 100000 in
theorem zk_X9_pick : zm_mok zm_ms (RX9, yX9_pick, cX9_pick, 4, (some .int), false, 3, 6, false, [9], zt_X9_pick) := ⟨rfl, by decide +kernel, ⟨by decide +kernel, by decide +kernel⟩, zm_WL_in 667 rfl rfl, zm_WL_in 44 (by decide +kernel) rfl, by decide +kernel, (fun h => Bool.noConfusion h), (fun _ => ⟨zm_WL_in 665 (by decide +kernel) rfl, zm_WL_in 666 (by decide +kernel) rfl, TX9, 13, rfl⟩), by decide, zm_tb_ok rfl zk_X9_pick_t⟩
set_option maxRecDepth 100000 in
theorem zk_X9_match_t : zm_tb 9 cX9_match false (some .long) zt_X9_match = true := by decide +kernel
set_option maxRecDepth 100000 in
theorem zk_X9_match : zm_mok zm_ms (RX9, yX9_match, cX9_match, 5, (some .long), false, 3, 6, false, [16, 31, 45], zt_X9_match) := ⟨rfl, by decide +kernel, ⟨by decide +kernel, by decide +kernel⟩, zm_WL_in 680 rfl rfl, zm_WL_in 44 (by decide +kernel) rfl, by decide +kernel, (fun h => Bool.noConfusion h), (fun _ => ⟨zm_WL_in 678 (by decide +kernel) rfl, zm_WL_in 679 (by decide +kernel) rfl, TX9, 13, rfl⟩), by decide, zm_tb_ok rfl zk_X9_match_t⟩
set_option maxRecDepth 100000 in
theorem zk_X9_duel_t : zm_tb 9 cX9_duel false (some .int) zt_X9_duel = true := by decide +kernel
set_option maxRecDepth 100000 in
theorem zk_X9_duel : zm_mok zm_ms (RX9, yX9_duel, cX9_duel, 7, (some .int), false, 4, 6, false, [9, 33, 52, 77], zt_X9_duel) := ⟨rfl, by decide +kernel, ⟨by decide +kernel, by decide +kernel⟩, zm_WL_in 684 rfl rfl, zm_WL_in 44 (by decide +kernel) rfl, by decide +kernel, (fun h => Bool.noConfusion h), (fun _ => ⟨zm_WL_in 682 (by decide +kernel) rfl, zm_WL_in 683 (by decide +kernel) rfl, TX9, 13, rfl⟩), by decide, zm_tb_ok rfl zk_X9_duel_t⟩
set_option maxRecDepth 100000 in
theorem zk_X9_odds_t : zm_tb 9 cX9_odds false (some .long) zt_X9_odds = true := by decide +kernel
set_option maxRecDepth 100000 in
theorem zk_X9_odds : zm_mok zm_ms (RX9, yX9_odds, cX9_odds, 10, (some .long), false, 5, 6, false, [30, 45, 77, 106], zt_X9_odds) := ⟨rfl, by decide +kernel, ⟨by decide +kernel, by decide +kernel⟩, zm_WL_in 701 rfl rfl, zm_WL_in 44 (by decide +kernel) rfl, by decide +kernel, (fun h => Bool.noConfusion h), (fun _ => ⟨zm_WL_in 699 (by decide +kernel) rfl, zm_WL_in 700 (by decide +kernel) rfl, TX9, 13, rfl⟩), by decide, zm_tb_ok rfl zk_X9_odds_t⟩
set_option maxRecDepth 100000 in
theorem zk_X9_plan_t : zm_tb 9 cX9_plan false (some .int) zt_X9_plan = true := by decide +kernel
set_option maxRecDepth 100000 in
theorem zk_X9_plan : zm_mok zm_ms (RX9, yX9_plan, cX9_plan, 3, (some .int), false, 2, 6, false, [37, 52], zt_X9_plan) := ⟨rfl, by decide +kernel, ⟨by decide +kernel, by decide +kernel⟩, zm_WL_in 706 rfl rfl, zm_WL_in 44 (by decide +kernel) rfl, by decide +kernel, (fun h => Bool.noConfusion h), (fun _ => ⟨zm_WL_in 704 (by decide +kernel) rfl, zm_WL_in 705 (by decide +kernel) rfl, TX9, 13, rfl⟩), by decide, zm_tb_ok rfl zk_X9_plan_t⟩
set_option maxRecDepth 100000 in
theorem zk_X9_behind_t : zm_tb 9 cX9_behind false (some .int) zt_X9_behind = true := by decide +kernel
set_option maxRecDepth 100000 in
theorem zk_X9_behind : zm_mok zm_ms (RX9, yX9_behind, cX9_behind, 3, (some .int), false, 1, 6, false, [11, 41, 52], zt_X9_behind) := ⟨rfl, by decide +kernel, ⟨by decide +kernel, by decide +kernel⟩, zm_WL_in 717 rfl rfl, zm_WL_in 44 (by decide +kernel) rfl, by decide +kernel, (fun h => Bool.noConfusion h), (fun _ => ⟨zm_WL_in 715 (by decide +kernel) rfl, zm_WL_in 716 (by decide +kernel) rfl, TX9, 13, rfl⟩), by decide, zm_tb_ok rfl zk_X9_behind_t⟩
set_option maxRecDepth 100000 in
theorem zk_X9_write_t : zm_tb 9 cX9_write false (some .int) zt_X9_write = true := by decide +kernel
set_option maxRecDepth 100000 in
theorem zk_X9_write : zm_mok zm_ms (RX9, yX9_write, cX9_write, 2, (some .int), false, 1, 6, false, [18], zt_X9_write) := ⟨rfl, by decide +kernel, ⟨by decide +kernel, by decide +kernel⟩, zm_WL_in 738 rfl rfl, zm_WL_in 44 (by decide +kernel) rfl, by decide +kernel, (fun h => Bool.noConfusion h), (fun _ => ⟨zm_WL_in 736 (by decide +kernel) rfl, zm_WL_in 737 (by decide +kernel) rfl, TX9, 13, rfl⟩), by decide, zm_tb_ok rfl zk_X9_write_t⟩
set_option maxRecDepth 100000 in
theorem zk_X9_paper_t : zm_tb 9 cX9_paper false (some .int) zt_X9_paper = true := by decide +kernel
set_option maxRecDepth 100000 in
theorem zk_X9_paper : zm_mok zm_ms (RX9, yX9_paper, cX9_paper, 2, (some .int), false, 1, 6, false, [], zt_X9_paper) := ⟨rfl, by decide +kernel, ⟨by decide +kernel, by decide +kernel⟩, zm_WL_in 754 rfl rfl, zm_WL_in 44 (by decide +kernel) rfl, by decide +kernel, (fun h => Bool.noConfusion h), (fun _ => ⟨zm_WL_in 752 (by decide +kernel) rfl, zm_WL_in 753 (by decide +kernel) rfl, TX9, 13, rfl⟩), by decide, zm_tb_ok rfl zk_X9_paper_t⟩
set_option maxRecDepth 100000 in
theorem zk_X9_judge_t : zm_tb 9 cX9_judge false (some .int) zt_X9_judge = true := by decide +kernel
set_option maxRecDepth 100000 in
theorem zk_X9_judge : zm_mok zm_ms (RX9, yX9_judge, cX9_judge, 4, (some .int), false, 1, 6, false, [4, 23, 47, 68], zt_X9_judge) := ⟨rfl, by decide +kernel, ⟨by decide +kernel, by decide +kernel⟩, zm_WL_in 758 rfl rfl, zm_WL_in 44 (by decide +kernel) rfl, by decide +kernel, (fun h => Bool.noConfusion h), (fun _ => ⟨zm_WL_in 756 (by decide +kernel) rfl, zm_WL_in 757 (by decide +kernel) rfl, TX9, 13, rfl⟩), by decide, zm_tb_ok rfl zk_X9_judge_t⟩
end
section
/-! printed by wip/whole/links.py: every method's table is its code's, on -/
set_option maxRecDepth 100000 in
theorem zk_X9_list_t : zm_tb 9 cX9_list false (some .int) zt_X9_list = true := by decide +kernel
set_option maxRecDepth 100000 in
theorem zk_X9_list : zm_mok zm_ms (RX9, yX9_list, cX9_list, 3, (some .int), false, 2, 6, false, [4], zt_X9_list) := ⟨rfl, by decide +kernel, ⟨by decide +kernel, by decide +kernel⟩, zm_WL_in 765 rfl rfl, zm_WL_in 44 (by decide +kernel) rfl, by decide +kernel, (fun h => Bool.noConfusion h), (fun _ => ⟨zm_WL_in 763 (by decide +kernel) rfl, zm_WL_in 764 (by decide +kernel) rfl, TX9, 13, rfl⟩), by decide, zm_tb_ok rfl zk_X9_list_t⟩
set_option maxRecDepth 100000 in
theorem zk_X9_put_t : zm_tb 9 cX9_put false (some .int) zt_X9_put = true := by decide +kernel
set_option maxRecDepth 100000 in
theorem zk_X9_put : zm_mok zm_ms (RX9, yX9_put, cX9_put, 4, (some .int), false, 3, 6, false, [4, 27], zt_X9_put) := ⟨rfl, by decide +kernel, ⟨by decide +kernel, by decide +kernel⟩, zm_WL_in 769 rfl rfl, zm_WL_in 44 (by decide +kernel) rfl, by decide +kernel, (fun h => Bool.noConfusion h), (fun _ => ⟨zm_WL_in 767 (by decide +kernel) rfl, zm_WL_in 768 (by decide +kernel) rfl, TX9, 13, rfl⟩), by decide, zm_tb_ok rfl zk_X9_put_t⟩
set_option maxRecDepth 100000 in
theorem zk_X9_get_t : zm_tb 9 cX9_get false (some .long) zt_X9_get = true := by decide +kernel
set_option maxRecDepth 100000 in
theorem zk_X9_get : zm_mok zm_ms (RX9, yX9_get, cX9_get, 3, (some .long), false, 2, 6, false, [13], zt_X9_get) := ⟨rfl, by decide +kernel, ⟨by decide +kernel, by decide +kernel⟩, zm_WL_in 777 rfl rfl, zm_WL_in 44 (by decide +kernel) rfl, by decide +kernel, (fun h => Bool.noConfusion h), (fun _ => ⟨zm_WL_in 775 (by decide +kernel) rfl, zm_WL_in 776 (by decide +kernel) rfl, TX9, 13, rfl⟩), by decide, zm_tb_ok rfl zk_X9_get_t⟩
set_option maxRecDepth 100000 in
theorem zk_X9_image_t : zm_tb 9 cX9_image false (some .int) zt_X9_image = true := by decide +kernel
set_option maxRecDepth 100000 in
theorem zk_X9_image : zm_mok zm_ms (RX9, yX9_image, cX9_image, 1, (some .int), false, 0, 6, false, [11], zt_X9_image) := ⟨rfl, by decide +kernel, ⟨by decide +kernel, by decide +kernel⟩, zm_WL_in 781 rfl rfl, zm_WL_in 44 (by decide +kernel) rfl, by decide +kernel, (fun h => Bool.noConfusion h), (fun _ => ⟨zm_WL_in 779 (by decide +kernel) rfl, zm_WL_in 780 (by decide +kernel) rfl, TX9, 13, rfl⟩), by decide, zm_tb_ok rfl zk_X9_image_t⟩
set_option maxRecDepth 100000 in
theorem zk_X9_undo_t : zm_tb 9 cX9_undo false (some .int) zt_X9_undo = true := by decide +kernel
set_option maxRecDepth 100000 in
theorem zk_X9_undo : zm_mok zm_ms (RX9, yX9_undo, cX9_undo, 1, (some .int), false, 0, 6, false, [21], zt_X9_undo) := ⟨rfl, by decide +kernel, ⟨by decide +kernel, by decide +kernel⟩, zm_WL_in 791 rfl rfl, zm_WL_in 44 (by decide +kernel) rfl, by decide +kernel, (fun h => Bool.noConfusion h), (fun _ => ⟨zm_WL_in 789 (by decide +kernel) rfl, zm_WL_in 790 (by decide +kernel) rfl, TX9, 13, rfl⟩), by decide, zm_tb_ok rfl zk_X9_undo_t⟩
set_option maxRecDepth 100000 in
theorem zk_X9_count_t : zm_tb 9 cX9_count false (some .int) zt_X9_count = true := by decide +kernel
set_option maxRecDepth 100000 in
theorem zk_X9_count : zm_mok zm_ms (RX9, yX9_count, cX9_count, 2, (some .int), false, 1, 6, false, [], zt_X9_count) := ⟨rfl, by decide +kernel, ⟨by decide +kernel, by decide +kernel⟩, zm_WL_in 795 rfl rfl, zm_WL_in 44 (by decide +kernel) rfl, by decide +kernel, (fun h => Bool.noConfusion h), (fun _ => ⟨zm_WL_in 793 (by decide +kernel) rfl, zm_WL_in 794 (by decide +kernel) rfl, TX9, 13, rfl⟩), by decide, zm_tb_ok rfl zk_X9_count_t⟩
set_option maxRecDepth 100000 in
theorem zk_X9_trailLength_t : zm_tb 9 cX9_trailLength false (some .int) zt_X9_trailLength = true := by decide +kernel
set_option maxRecDepth 100000 in
theorem zk_X9_trailLength : zm_mok zm_ms (RX9, yX9_trailLength, cX9_trailLength, 6, (some .int), false, 2, 6, false, [9, 39], zt_X9_trailLength) := ⟨rfl, by decide +kernel, ⟨by decide +kernel, by decide +kernel⟩, zm_WL_in 419 rfl rfl, zm_WL_in 44 (by decide +kernel) rfl, by decide +kernel, (fun h => Bool.noConfusion h), (fun _ => ⟨zm_WL_in 418 (by decide +kernel) rfl, zm_WL_in 3 (by decide +kernel) rfl, TX9, 13, rfl⟩), by decide, zm_tb_ok rfl zk_X9_trailLength_t⟩
set_option maxRecDepth 100000 in
theorem zk_X9_isRacingField_t : zm_tb 9 cX9_isRacingField true (some .boolean) zt_X9_isRacingField = true := by decide +kernel
set_option maxRecDepth 100000 in
theorem zk_X9_isRacingField : zm_mok zm_ms (RX9, yX9_isRacingField, cX9_isRacingField, 3, (some .boolean), false, 1, 6, true, [17, 42], zt_X9_isRacingField) := ⟨rfl, by decide +kernel, ⟨by decide +kernel, by decide +kernel⟩, zm_WL_in 451 rfl rfl, zm_WL_in 44 (by decide +kernel) rfl, by decide +kernel, (fun h => Bool.noConfusion h), (fun _ => ⟨zm_WL_in 450 (by decide +kernel) rfl, zm_WL_in 5 (by decide +kernel) rfl, TX9, 13, rfl⟩), by decide, zm_tb_ok rfl zk_X9_isRacingField_t⟩
set_option maxRecDepth 100000 in
theorem zk_X9_placeInSet_t : zm_tb 9 cX9_placeInSet false (some .int) zt_X9_placeInSet = true := by decide +kernel
set_option maxRecDepth 100000 in
theorem zk_X9_placeInSet : zm_mok zm_ms (RX9, yX9_placeInSet, cX9_placeInSet, 2, (some .int), true, 2, 0, false, [], zt_X9_placeInSet) := ⟨rfl, by decide +kernel, ⟨by decide +kernel, by decide +kernel⟩, zm_WL_in 479 rfl rfl, zm_WL_in 44 (by decide +kernel) rfl, by decide +kernel, (fun _ => zm_WL_in 478 (by decide +kernel) rfl), (fun h => Bool.noConfusion h), by decide, zm_tb_ok rfl zk_X9_placeInSet_t⟩
set_option maxRecDepth 100000 in
theorem zk_X9_mostOfRow_t : zm_tb 9 cX9_mostOfRow false (some .int) zt_X9_mostOfRow = true := by decide +kernel
set_option maxRecDepth 100000 in
theorem zk_X9_mostOfRow : zm_mok zm_ms (RX9, yX9_mostOfRow, cX9_mostOfRow, 1, (some .int), true, 1, 0, false, [], zt_X9_mostOfRow) := ⟨rfl, by decide +kernel, ⟨by decide +kernel, by decide +kernel⟩, zm_WL_in 709 rfl rfl, zm_WL_in 44 (by decide +kernel) rfl, by decide +kernel, (fun _ => zm_WL_in 708 (by decide +kernel) rfl), (fun h => Bool.noConfusion h), by decide, zm_tb_ok rfl zk_X9_mostOfRow_t⟩
set_option maxRecDepth 100000 in
theorem zk_X9_writeStrip_t : zm_tb 9 cX9_writeStrip false (some .int) zt_X9_writeStrip = true := by decide +kernel
set_option maxRecDepth 100000 in
theorem zk_X9_writeStrip : zm_mok zm_ms (RX9, yX9_writeStrip, cX9_writeStrip, 2, (some .int), false, 0, 6, false, [16, 50], zt_X9_writeStrip) := ⟨rfl, by decide +kernel, ⟨by decide +kernel, by decide +kernel⟩, zm_WL_in 742 rfl rfl, zm_WL_in 44 (by decide +kernel) rfl, by decide +kernel, (fun h => Bool.noConfusion h), (fun _ => ⟨zm_WL_in 741 (by decide +kernel) rfl, zm_WL_in 11 (by decide +kernel) rfl, TX9, 13, rfl⟩), by decide, zm_tb_ok rfl zk_X9_writeStrip_t⟩
set_option maxRecDepth 100000 in
theorem zk_X9_writeWord_t : zm_tb 9 cX9_writeWord false (some .int) zt_X9_writeWord = true := by decide +kernel
set_option maxRecDepth 100000 in
theorem zk_X9_writeWord : zm_mok zm_ms (RX9, yX9_writeWord, cX9_writeWord, 3, (some .int), false, 1, 6, false, [5, 10, 37], zt_X9_writeWord) := ⟨rfl, by decide +kernel, ⟨by decide +kernel, by decide +kernel⟩, zm_WL_in 749 rfl rfl, zm_WL_in 44 (by decide +kernel) rfl, by decide +kernel, (fun h => Bool.noConfusion h), (fun _ => ⟨zm_WL_in 748 (by decide +kernel) rfl, zm_WL_in 12 (by decide +kernel) rfl, TX9, 13, rfl⟩), by decide, zm_tb_ok rfl zk_X9_writeWord_t⟩
set_option maxRecDepth 100000 in
theorem zk_X9_signOf_t : zm_tb 9 cX9_signOf false (some .int) zt_X9_signOf = true := by decide +kernel
set_option maxRecDepth 100000 in
theorem zk_X9_signOf : zm_mok zm_ms (RX9, yX9_signOf, cX9_signOf, 1, (some .int), true, 1, 0, false, [], zt_X9_signOf) := ⟨rfl, by decide +kernel, ⟨by decide +kernel, by decide +kernel⟩, zm_WL_in 745 rfl rfl, zm_WL_in 44 (by decide +kernel) rfl, by decide +kernel, (fun _ => zm_WL_in 744 (by decide +kernel) rfl), (fun h => Bool.noConfusion h), by decide, zm_tb_ok rfl zk_X9_signOf_t⟩
set_option maxRecDepth 100000 in
theorem zk_X9_hasList_t : zm_tb 9 cX9_hasList true (some .boolean) zt_X9_hasList = true := by decide +kernel
set_option maxRecDepth 100000 in
theorem zk_X9_hasList : zm_mok zm_ms (RX9, yX9_hasList, cX9_hasList, 1, (some .boolean), true, 1, 0, true, [], zt_X9_hasList) := ⟨rfl, by decide +kernel, ⟨by decide +kernel, by decide +kernel⟩, zm_WL_in 761 rfl rfl, zm_WL_in 44 (by decide +kernel) rfl, by decide +kernel, (fun _ => zm_WL_in 760 (by decide +kernel) rfl), (fun h => Bool.noConfusion h), by decide, zm_tb_ok rfl zk_X9_hasList_t⟩
set_option maxRecDepth 100000 in
theorem zk_X9_hasListPlace_t : zm_tb 9 cX9_hasListPlace true (some .boolean) zt_X9_hasListPlace = true := by decide +kernel
set_option maxRecDepth 100000 in
theorem zk_X9_hasListPlace : zm_mok zm_ms (RX9, yX9_hasListPlace, cX9_hasListPlace, 3, (some .boolean), false, 2, 6, true, [], zt_X9_hasListPlace) := ⟨rfl, by decide +kernel, ⟨by decide +kernel, by decide +kernel⟩, zm_WL_in 773 rfl rfl, zm_WL_in 44 (by decide +kernel) rfl, by decide +kernel, (fun h => Bool.noConfusion h), (fun _ => ⟨zm_WL_in 772 (by decide +kernel) rfl, zm_WL_in 13 (by decide +kernel) rfl, TX9, 13, rfl⟩), by decide, zm_tb_ok rfl zk_X9_hasListPlace_t⟩
set_option maxRecDepth 100000 in
theorem zk_X10_in_t : zm_tb 10 cX10_in true (some .boolean) zt_X10_in = true := by decide +kernel
set_option maxRecDepth 100000 in
theorem zk_X10_in : zm_mok zm_ms (RX10, yX10_in, cX10_in, 3, (some .boolean), true, 3, 0, true, [], zt_X10_in) := ⟨rfl, by decide +kernel, ⟨by decide +kernel, by decide +kernel⟩, zm_WL_in 897 rfl rfl, zm_WL_in 52 (by decide +kernel) rfl, by decide +kernel, (fun _ => zm_WL_in 896 (by decide +kernel) rfl), (fun h => Bool.noConfusion h), by decide, zm_tb_ok rfl zk_X10_in_t⟩
set_option maxRecDepth 100000 in
theorem zk_X10_isWord_t : zm_tb 10 cX10_isWord true (some .boolean) zt_X10_isWord = true := by decide +kernel
set_option maxRecDepth 100000 in
theorem zk_X10_isWord : zm_mok zm_ms (RX10, yX10_isWord, cX10_isWord, 2, (some .boolean), false, 1, 7, true, [], zt_X10_isWord) := ⟨rfl, by decide +kernel, ⟨by decide +kernel, by decide +kernel⟩, zm_WL_in 924 rfl rfl, zm_WL_in 52 (by decide +kernel) rfl, by decide +kernel, (fun h => Bool.noConfusion h), (fun _ => ⟨zm_WL_in 923 (by decide +kernel) rfl, zm_WL_in 16 (by decide +kernel) rfl, TX10, 29, rfl⟩), by decide, zm_tb_ok rfl zk_X10_isWord_t⟩
set_option maxRecDepth 100000 in
theorem zk_X10_isPart_t : zm_tb 10 cX10_isPart true (some .boolean) zt_X10_isPart = true := by decide +kernel
set_option maxRecDepth 100000 in
theorem zk_X10_isPart : zm_mok zm_ms (RX10, yX10_isPart, cX10_isPart, 1, (some .boolean), true, 1, 0, true, [], zt_X10_isPart) := ⟨rfl, by decide +kernel, ⟨by decide +kernel, by decide +kernel⟩, zm_WL_in 976 rfl rfl, zm_WL_in 52 (by decide +kernel) rfl, by decide +kernel, (fun _ => zm_WL_in 975 (by decide +kernel) rfl), (fun h => Bool.noConfusion h), by decide, zm_tb_ok rfl zk_X10_isPart_t⟩
set_option maxRecDepth 100000 in
theorem zk_X10_isList_t : zm_tb 10 cX10_isList true (some .boolean) zt_X10_isList = true := by decide +kernel
set_option maxRecDepth 100000 in
theorem zk_X10_isList : zm_mok zm_ms (RX10, yX10_isList, cX10_isList, 1, (some .boolean), true, 1, 0, true, [], zt_X10_isList) := ⟨rfl, by decide +kernel, ⟨by decide +kernel, by decide +kernel⟩, zm_WL_in 1194 rfl rfl, zm_WL_in 52 (by decide +kernel) rfl, by decide +kernel, (fun _ => zm_WL_in 1193 (by decide +kernel) rfl), (fun h => Bool.noConfusion h), by decide, zm_tb_ok rfl zk_X10_isList_t⟩
set_option maxRecDepth 100000 in
theorem zk_X10_ten_t : zm_tb 10 cX10_ten false (some .int) zt_X10_ten = true := by decide +kernel
set_option maxRecDepth 100000 in
theorem zk_X10_ten : zm_mok zm_ms (RX10, yX10_ten, cX10_ten, 3, (some .int), true, 1, 0, false, [4], zt_X10_ten) := ⟨rfl, by decide +kernel, ⟨by decide +kernel, by decide +kernel⟩, zm_WL_in 946 rfl rfl, zm_WL_in 52 (by decide +kernel) rfl, by decide +kernel, (fun _ => zm_WL_in 945 (by decide +kernel) rfl), (fun h => Bool.noConfusion h), by decide, zm_tb_ok rfl zk_X10_ten_t⟩
set_option maxRecDepth 100000 in
theorem zk_X10_sizeOf_t : zm_tb 10 cX10_sizeOf false (some .int) zt_X10_sizeOf = true := by decide +kernel
set_option maxRecDepth 100000 in
theorem zk_X10_sizeOf : zm_mok zm_ms (RX10, yX10_sizeOf, cX10_sizeOf, 3, (some .int), true, 1, 0, false, [4], zt_X10_sizeOf) := ⟨rfl, by decide +kernel, ⟨by decide +kernel, by decide +kernel⟩, zm_WL_in 931 rfl rfl, zm_WL_in 52 (by decide +kernel) rfl, by decide +kernel, (fun _ => zm_WL_in 930 (by decide +kernel) rfl), (fun h => Bool.noConfusion h), by decide, zm_tb_ok rfl zk_X10_sizeOf_t⟩
set_option maxRecDepth 100000 in
theorem zk_X10_letterOf_t : zm_tb 10 cX10_letterOf false (some .int) zt_X10_letterOf = true := by decide +kernel
set_option maxRecDepth 100000 in
theorem zk_X10_letterOf : zm_mok zm_ms (RX10, yX10_letterOf, cX10_letterOf, 2, (some .int), true, 2, 0, false, [], zt_X10_letterOf) := ⟨rfl, by decide +kernel, ⟨by decide +kernel, by decide +kernel⟩, zm_WL_in 1051 rfl rfl, zm_WL_in 52 (by decide +kernel) rfl, by decide +kernel, (fun _ => zm_WL_in 1050 (by decide +kernel) rfl), (fun h => Bool.noConfusion h), by decide, zm_tb_ok rfl zk_X10_letterOf_t⟩
set_option maxRecDepth 100000 in
theorem zk_X10_hasThird_t : zm_tb 10 cX10_hasThird true (some .boolean) zt_X10_hasThird = true := by decide +kernel
set_option maxRecDepth 100000 in
theorem zk_X10_hasThird : zm_mok zm_ms (RX10, yX10_hasThird, cX10_hasThird, 2, (some .boolean), true, 1, 0, true, [2], zt_X10_hasThird) := ⟨rfl, by decide +kernel, ⟨by decide +kernel, by decide +kernel⟩, zm_WL_in 900 rfl rfl, zm_WL_in 52 (by decide +kernel) rfl, by decide +kernel, (fun _ => zm_WL_in 899 (by decide +kernel) rfl), (fun h => Bool.noConfusion h), by decide, zm_tb_ok rfl zk_X10_hasThird_t⟩
set_option maxRecDepth 100000 in
theorem zk_X10_isSuch_t : zm_tb 10 cX10_isSuch true (some .boolean) zt_X10_isSuch = true := by decide +kernel
set_option maxRecDepth 100000 in
theorem zk_X10_isSuch : zm_mok zm_ms (RX10, yX10_isSuch, cX10_isSuch, 3, (some .boolean), false, 1, 7, true, [17], zt_X10_isSuch) := ⟨rfl, by decide +kernel, ⟨by decide +kernel, by decide +kernel⟩, zm_WL_in 928 rfl rfl, zm_WL_in 52 (by decide +kernel) rfl, by decide +kernel, (fun h => Bool.noConfusion h), (fun _ => ⟨zm_WL_in 927 (by decide +kernel) rfl, zm_WL_in 17 (by decide +kernel) rfl, TX10, 29, rfl⟩), by decide, zm_tb_ok rfl zk_X10_isSuch_t⟩
set_option maxRecDepth 100000 in
theorem zk_X10_on_t : zm_tb 10 cX10_on false (some .int) zt_X10_on = true := by decide +kernel
set_option maxRecDepth 100000 in
theorem zk_X10_on : zm_mok zm_ms (RX10, yX10_on, cX10_on, 2, (some .int), false, 1, 7, false, [], zt_X10_on) := ⟨rfl, by decide +kernel, ⟨by decide +kernel, by decide +kernel⟩, zm_WL_in 1134 rfl rfl, zm_WL_in 52 (by decide +kernel) rfl, by decide +kernel, (fun h => Bool.noConfusion h), (fun _ => ⟨zm_WL_in 1133 (by decide +kernel) rfl, zm_WL_in 38 (by decide +kernel) rfl, TX10, 29, rfl⟩), by decide, zm_tb_ok rfl zk_X10_on_t⟩
set_option maxRecDepth 100000 in
theorem zk_X10_overlap_t : zm_tb 10 cX10_overlap false (some .int) zt_X10_overlap = true := by decide +kernel
set_option maxRecDepth 100000 in
theorem zk_X10_overlap : zm_mok zm_ms (RX10, yX10_overlap, cX10_overlap, 6, (some .int), true, 2, 0, false, [20], zt_X10_overlap) := ⟨rfl, by decide +kernel, ⟨by decide +kernel, by decide +kernel⟩, zm_WL_in 942 rfl rfl, zm_WL_in 52 (by decide +kernel) rfl, by decide +kernel, (fun _ => zm_WL_in 941 (by decide +kernel) rfl), (fun h => Bool.noConfusion h), by decide, zm_tb_ok rfl zk_X10_overlap_t⟩
set_option maxRecDepth 100000 in
theorem zk_X10_numberOf_t : zm_tb 10 cX10_numberOf false (some .int) zt_X10_numberOf = true := by decide +kernel
set_option maxRecDepth 100000 in
theorem zk_X10_numberOf : zm_mok zm_ms (RX10, yX10_numberOf, cX10_numberOf, 7, (some .int), false, 2, 7, false, [15], zt_X10_numberOf) := ⟨rfl, by decide +kernel, ⟨by decide +kernel, by decide +kernel⟩, zm_WL_in 939 rfl rfl, zm_WL_in 52 (by decide +kernel) rfl, by decide +kernel, (fun h => Bool.noConfusion h), (fun _ => ⟨zm_WL_in 938 (by decide +kernel) rfl, zm_WL_in 18 (by decide +kernel) rfl, TX10, 29, rfl⟩), by decide, zm_tb_ok rfl zk_X10_numberOf_t⟩
set_option maxRecDepth 100000 in
theorem zk_X10_stands_t : zm_tb 10 cX10_stands true (some .boolean) zt_X10_stands = true := by decide +kernel
set_option maxRecDepth 100000 in
theorem zk_X10_stands : zm_mok zm_ms (RX10, yX10_stands, cX10_stands, 4, (some .boolean), true, 2, 0, true, [10], zt_X10_stands) := ⟨rfl, by decide +kernel, ⟨by decide +kernel, by decide +kernel⟩, zm_WL_in 969 rfl rfl, zm_WL_in 52 (by decide +kernel) rfl, by decide +kernel, (fun _ => zm_WL_in 968 (by decide +kernel) rfl), (fun h => Bool.noConfusion h), by decide, zm_tb_ok rfl zk_X10_stands_t⟩
set_option maxRecDepth 100000 in
theorem zk_X10_areApart_t : zm_tb 10 cX10_areApart true (some .boolean) zt_X10_areApart = true := by decide +kernel
set_option maxRecDepth 100000 in
theorem zk_X10_areApart : zm_mok zm_ms (RX10, yX10_areApart, cX10_areApart, 2, (some .boolean), true, 2, 0, true, [], zt_X10_areApart) := ⟨rfl, by decide +kernel, ⟨by decide +kernel, by decide +kernel⟩, zm_WL_in 979 rfl rfl, zm_WL_in 52 (by decide +kernel) rfl, by decide +kernel, (fun _ => zm_WL_in 978 (by decide +kernel) rfl), (fun h => Bool.noConfusion h), by decide, zm_tb_ok rfl zk_X10_areApart_t⟩
set_option maxRecDepth 100000 in
theorem zk_X10_weight_t : zm_tb 10 cX10_weight false (some .int) zt_X10_weight = true := by decide +kernel
set_option maxRecDepth 100000 in
theorem zk_X10_weight : zm_mok zm_ms (RX10, yX10_weight, cX10_weight, 3, (some .int), false, 2, 7, false, [], zt_X10_weight) := ⟨rfl, by decide +kernel, ⟨by decide +kernel, by decide +kernel⟩, zm_WL_in 954 rfl rfl, zm_WL_in 52 (by decide +kernel) rfl, by decide +kernel, (fun h => Bool.noConfusion h), (fun _ => ⟨zm_WL_in 953 (by decide +kernel) rfl, zm_WL_in 20 (by decide +kernel) rfl, TX10, 29, rfl⟩), by decide, zm_tb_ok rfl zk_X10_weight_t⟩
set_option maxRecDepth 100000 in
theorem zk_X10_beats_t : zm_tb 10 cX10_beats true (some .boolean) zt_X10_beats = true := by decide +kernel
set_option maxRecDepth 100000 in
theorem zk_X10_beats : zm_mok zm_ms (RX10, yX10_beats, cX10_beats, 3, (some .boolean), false, 2, 7, true, [], zt_X10_beats) := ⟨rfl, by decide +kernel, ⟨by decide +kernel, by decide +kernel⟩, zm_WL_in 1007 rfl rfl, zm_WL_in 52 (by decide +kernel) rfl, by decide +kernel, (fun h => Bool.noConfusion h), (fun _ => ⟨zm_WL_in 1006 (by decide +kernel) rfl, zm_WL_in 23 (by decide +kernel) rfl, TX10, 29, rfl⟩), by decide, zm_tb_ok rfl zk_X10_beats_t⟩
set_option maxRecDepth 100000 in
theorem zk_X10_bestAnswer_t : zm_tb 10 cX10_bestAnswer false (some .int) zt_X10_bestAnswer = true := by decide +kernel
set_option maxRecDepth 100000 in
theorem zk_X10_bestAnswer : zm_mok zm_ms (RX10, yX10_bestAnswer, cX10_bestAnswer, 9, (some .int), false, 1, 7, false, [16], zt_X10_bestAnswer) := ⟨rfl, by decide +kernel, ⟨by decide +kernel, by decide +kernel⟩, zm_WL_in 950 rfl rfl, zm_WL_in 52 (by decide +kernel) rfl, by decide +kernel, (fun h => Bool.noConfusion h), (fun _ => ⟨zm_WL_in 949 (by decide +kernel) rfl, zm_WL_in 19 (by decide +kernel) rfl, TX10, 29, rfl⟩), by decide, zm_tb_ok rfl zk_X10_bestAnswer_t⟩
set_option maxRecDepth 100000 in
theorem zk_X10_lowest_t : zm_tb 10 cX10_lowest false (some .long) zt_X10_lowest = true := by decide +kernel
set_option maxRecDepth 100000 in
theorem zk_X10_lowest : zm_mok zm_ms (RX10, yX10_lowest, cX10_lowest, 11, (some .long), true, 3, 0, false, [28], zt_X10_lowest) := ⟨rfl, by decide +kernel, ⟨by decide +kernel, by decide +kernel⟩, zm_WL_in 987 rfl rfl, zm_WL_in 52 (by decide +kernel) rfl, by decide +kernel, (fun _ => zm_WL_in 986 (by decide +kernel) rfl), (fun h => Bool.noConfusion h), by decide, zm_tb_ok rfl zk_X10_lowest_t⟩
set_option maxRecDepth 100000 in
theorem zk_X10_chanceOf_t : zm_tb 10 cX10_chanceOf false (some .long) zt_X10_chanceOf = true := by decide +kernel
set_option maxRecDepth 100000 in
theorem zk_X10_chanceOf : zm_mok zm_ms (RX10, yX10_chanceOf, cX10_chanceOf, 5, (some .long), false, 3, 7, false, [], zt_X10_chanceOf) := ⟨rfl, by decide +kernel, ⟨by decide +kernel, by decide +kernel⟩, zm_WL_in 984 rfl rfl, zm_WL_in 52 (by decide +kernel) rfl, by decide +kernel, (fun h => Bool.noConfusion h), (fun _ => ⟨zm_WL_in 983 (by decide +kernel) rfl, zm_WL_in 21 (by decide +kernel) rfl, TX10, 29, rfl⟩), by decide, zm_tb_ok rfl zk_X10_chanceOf_t⟩
set_option maxRecDepth 100000 in
theorem zk_X10_sides_t : zm_tb 10 cX10_sides false (some .int) zt_X10_sides = true := by decide +kernel
set_option maxRecDepth 100000 in
theorem zk_X10_sides : zm_mok zm_ms (RX10, yX10_sides, cX10_sides, 3, (some .int), false, 1, 7, false, [6, 19, 50], zt_X10_sides) := ⟨rfl, by decide +kernel, ⟨by decide +kernel, by decide +kernel⟩, zm_WL_in 894 rfl rfl, zm_WL_in 52 (by decide +kernel) rfl, by decide +kernel, (fun h => Bool.noConfusion h), (fun _ => ⟨zm_WL_in 892 (by decide +kernel) rfl, zm_WL_in 893 (by decide +kernel) rfl, TX10, 29, rfl⟩), by decide, zm_tb_ok rfl zk_X10_sides_t⟩
set_option maxRecDepth 100000 in
theorem zk_X10_feed_t : zm_tb 10 cX10_feed false (some .int) zt_X10_feed = true := by decide +kernel
set_option maxRecDepth 100000 in
theorem zk_X10_feed : zm_mok zm_ms (RX10, yX10_feed, cX10_feed, 2, (some .int), false, 1, 7, false, [7], zt_X10_feed) := ⟨rfl, by decide +kernel, ⟨by decide +kernel, by decide +kernel⟩, zm_WL_in 904 rfl rfl, zm_WL_in 52 (by decide +kernel) rfl, by decide +kernel, (fun h => Bool.noConfusion h), (fun _ => ⟨zm_WL_in 902 (by decide +kernel) rfl, zm_WL_in 903 (by decide +kernel) rfl, TX10, 29, rfl⟩), by decide, zm_tb_ok rfl zk_X10_feed_t⟩
set_option maxRecDepth 100000 in
theorem zk_X10_sign_t : zm_tb 10 cX10_sign false (some .int) zt_X10_sign = true := by decide +kernel
set_option maxRecDepth 100000 in
theorem zk_X10_sign : zm_mok zm_ms (RX10, yX10_sign, cX10_sign, 2, (some .int), false, 1, 7, false, [], zt_X10_sign) := ⟨rfl, by decide +kernel, ⟨by decide +kernel, by decide +kernel⟩, zm_WL_in 916 rfl rfl, zm_WL_in 52 (by decide +kernel) rfl, by decide +kernel, (fun h => Bool.noConfusion h), (fun _ => ⟨zm_WL_in 915 (by decide +kernel) rfl, zm_WL_in 15 (by decide +kernel) rfl, TX10, 29, rfl⟩), by decide, zm_tb_ok rfl zk_X10_sign_t⟩
set_option maxRecDepth 100000 in
theorem zk_X10_reads_t : zm_tb 10 cX10_reads false (some .int) zt_X10_reads = true := by decide +kernel
set_option maxRecDepth 100000 in
theorem zk_X10_reads : zm_mok zm_ms (RX10, yX10_reads, cX10_reads, 8, (some .int), false, 0, 7, false, [4, 9, 14, 28, 105], zt_X10_reads) := ⟨rfl, by decide +kernel, ⟨by decide +kernel, by decide +kernel⟩, zm_WL_in 912 rfl rfl, zm_WL_in 52 (by decide +kernel) rfl, by decide +kernel, (fun h => Bool.noConfusion h), (fun _ => ⟨zm_WL_in 911 (by decide +kernel) rfl, zm_WL_in 14 (by decide +kernel) rfl, TX10, 29, rfl⟩), by decide, zm_tb_ok rfl zk_X10_reads_t⟩
set_option maxRecDepth 100000 in
theorem zk_X10_words_t : zm_tb 10 cX10_words false (some .int) zt_X10_words = true := by decide +kernel
set_option maxRecDepth 100000 in
theorem zk_X10_words : zm_mok zm_ms (RX10, yX10_words, cX10_words, 3, (some .int), false, 0, 7, false, [4, 32], zt_X10_words) := ⟨rfl, by decide +kernel, ⟨by decide +kernel, by decide +kernel⟩, zm_WL_in 908 rfl rfl, zm_WL_in 52 (by decide +kernel) rfl, by decide +kernel, (fun h => Bool.noConfusion h), (fun _ => ⟨zm_WL_in 906 (by decide +kernel) rfl, zm_WL_in 907 (by decide +kernel) rfl, TX10, 29, rfl⟩), by decide, zm_tb_ok rfl zk_X10_words_t⟩
set_option maxRecDepth 100000 in
theorem zk_X10_becomes_t : zm_tb 10 cX10_becomes false (some .int) zt_X10_becomes = true := by decide +kernel
set_option maxRecDepth 100000 in
theorem zk_X10_becomes : zm_mok zm_ms (RX10, yX10_becomes, cX10_becomes, 4, (some .int), false, 2, 7, false, [15], zt_X10_becomes) := ⟨rfl, by decide +kernel, ⟨by decide +kernel, by decide +kernel⟩, zm_WL_in 920 rfl rfl, zm_WL_in 52 (by decide +kernel) rfl, by decide +kernel, (fun h => Bool.noConfusion h), (fun _ => ⟨zm_WL_in 918 (by decide +kernel) rfl, zm_WL_in 919 (by decide +kernel) rfl, TX10, 29, rfl⟩), by decide, zm_tb_ok rfl zk_X10_becomes_t⟩
set_option maxRecDepth 100000 in
theorem zk_X10_of_t : zm_tb 10 cX10_of false (some .int) zt_X10_of = true := by decide +kernel
set_option maxRecDepth 100000 in
theorem zk_X10_of : zm_mok zm_ms (RX10, yX10_of, cX10_of, 4, (some .int), false, 2, 7, false, [5], zt_X10_of) := ⟨rfl, by decide +kernel, ⟨by decide +kernel, by decide +kernel⟩, zm_WL_in 935 rfl rfl, zm_WL_in 52 (by decide +kernel) rfl, by decide +kernel, (fun h => Bool.noConfusion h), (fun _ => ⟨zm_WL_in 933 (by decide +kernel) rfl, zm_WL_in 934 (by decide +kernel) rfl, TX10, 29, rfl⟩), by decide, zm_tb_ok rfl zk_X10_of_t⟩
set_option maxRecDepth 100000 in
theorem zk_X10_overlaps_t : zm_tb 10 cX10_overlaps false (some .int) zt_X10_overlaps = true := by decide +kernel
set_option maxRecDepth 100000 in
theorem zk_X10_overlaps : zm_mok zm_ms (RX10, yX10_overlaps, cX10_overlaps, 3, (some .int), false, 2, 7, false, [13], zt_X10_overlaps) := ⟨rfl, by decide +kernel, ⟨by decide +kernel, by decide +kernel⟩, zm_WL_in 958 rfl rfl, zm_WL_in 52 (by decide +kernel) rfl, by decide +kernel, (fun h => Bool.noConfusion h), (fun _ => ⟨zm_WL_in 956 (by decide +kernel) rfl, zm_WL_in 957 (by decide +kernel) rfl, TX10, 29, rfl⟩), by decide, zm_tb_ok rfl zk_X10_overlaps_t⟩
set_option maxRecDepth 100000 in
theorem zk_X10_number_t : zm_tb 10 cX10_number false (some .int) zt_X10_number = true := by decide +kernel
set_option maxRecDepth 100000 in
theorem zk_X10_number : zm_mok zm_ms (RX10, yX10_number, cX10_number, 3, (some .int), false, 2, 7, false, [13], zt_X10_number) := ⟨rfl, by decide +kernel, ⟨by decide +kernel, by decide +kernel⟩, zm_WL_in 962 rfl rfl, zm_WL_in 52 (by decide +kernel) rfl, by decide +kernel, (fun h => Bool.noConfusion h), (fun _ => ⟨zm_WL_in 960 (by decide +kernel) rfl, zm_WL_in 961 (by decide +kernel) rfl, TX10, 29, rfl⟩), by decide, zm_tb_ok rfl zk_X10_number_t⟩
set_option maxRecDepth 100000 in
theorem zk_X10_isIn_t : zm_tb 10 cX10_isIn false (some .int) zt_X10_isIn = true := by decide +kernel
set_option maxRecDepth 100000 in
theorem zk_X10_isIn : zm_mok zm_ms (RX10, yX10_isIn, cX10_isIn, 3, (some .int), false, 2, 7, false, [13], zt_X10_isIn) := ⟨rfl, by decide +kernel, ⟨by decide +kernel, by decide +kernel⟩, zm_WL_in 966 rfl rfl, zm_WL_in 52 (by decide +kernel) rfl, by decide +kernel, (fun h => Bool.noConfusion h), (fun _ => ⟨zm_WL_in 964 (by decide +kernel) rfl, zm_WL_in 965 (by decide +kernel) rfl, TX10, 29, rfl⟩), by decide, zm_tb_ok rfl zk_X10_isIn_t⟩
set_option maxRecDepth 100000 in
theorem zk_X10_chance_t : zm_tb 10 cX10_chance false (some .long) zt_X10_chance = true := by decide +kernel
set_option maxRecDepth 100000 in
theorem zk_X10_chance : zm_mok zm_ms (RX10, yX10_chance, cX10_chance, 4, (some .long), false, 3, 7, false, [20, 38], zt_X10_chance) := ⟨rfl, by decide +kernel, ⟨by decide +kernel, by decide +kernel⟩, zm_WL_in 973 rfl rfl, zm_WL_in 52 (by decide +kernel) rfl, by decide +kernel, (fun h => Bool.noConfusion h), (fun _ => ⟨zm_WL_in 971 (by decide +kernel) rfl, zm_WL_in 972 (by decide +kernel) rfl, TX10, 29, rfl⟩), by decide, zm_tb_ok rfl zk_X10_chance_t⟩
set_option maxRecDepth 100000 in
theorem zk_X10_answered_t : zm_tb 10 cX10_answered false (some .long) zt_X10_answered = true := by decide +kernel
set_option maxRecDepth 100000 in
theorem zk_X10_answered : zm_mok zm_ms (RX10, yX10_answered, cX10_answered, 4, (some .long), false, 2, 7, false, [12], zt_X10_answered) := ⟨rfl, by decide +kernel, ⟨by decide +kernel, by decide +kernel⟩, zm_WL_in 991 rfl rfl, zm_WL_in 52 (by decide +kernel) rfl, by decide +kernel, (fun h => Bool.noConfusion h), (fun _ => ⟨zm_WL_in 989 (by decide +kernel) rfl, zm_WL_in 990 (by decide +kernel) rfl, TX10, 29, rfl⟩), by decide, zm_tb_ok rfl zk_X10_answered_t⟩
set_option maxRecDepth 100000 in
theorem zk_X10_trail_t : zm_tb 10 cX10_trail false (some .int) zt_X10_trail = true := by decide +kernel
set_option maxRecDepth 100000 in
theorem zk_X10_trail : zm_mok zm_ms (RX10, yX10_trail, cX10_trail, 6, (some .int), false, 2, 7, false, [14, 29, 32], zt_X10_trail) := ⟨rfl, by decide +kernel, ⟨by decide +kernel, by decide +kernel⟩, zm_WL_in 995 rfl rfl, zm_WL_in 52 (by decide +kernel) rfl, by decide +kernel, (fun h => Bool.noConfusion h), (fun _ => ⟨zm_WL_in 993 (by decide +kernel) rfl, zm_WL_in 994 (by decide +kernel) rfl, TX10, 29, rfl⟩), by decide, zm_tb_ok rfl zk_X10_trail_t⟩
set_option maxRecDepth 100000 in
theorem zk_X10_rings_t : zm_tb 10 cX10_rings true (some .boolean) zt_X10_rings = true := by decide +kernel
set_option maxRecDepth 100000 in
theorem zk_X10_rings : zm_mok zm_ms (RX10, yX10_rings, cX10_rings, 6, (some .boolean), false, 2, 7, true, [36, 84], zt_X10_rings) := ⟨rfl, by decide +kernel, ⟨by decide +kernel, by decide +kernel⟩, zm_WL_in 1003 rfl rfl, zm_WL_in 52 (by decide +kernel) rfl, by decide +kernel, (fun h => Bool.noConfusion h), (fun _ => ⟨zm_WL_in 1002 (by decide +kernel) rfl, zm_WL_in 22 (by decide +kernel) rfl, TX10, 29, rfl⟩), by decide, zm_tb_ok rfl zk_X10_rings_t⟩
set_option maxRecDepth 100000 in
theorem zk_X10_ring_t : zm_tb 10 cX10_ring false (some .int) zt_X10_ring = true := by decide +kernel
set_option maxRecDepth 100000 in
theorem zk_X10_ring : zm_mok zm_ms (RX10, yX10_ring, cX10_ring, 3, (some .int), false, 1, 7, false, [2, 39], zt_X10_ring) := ⟨rfl, by decide +kernel, ⟨by decide +kernel, by decide +kernel⟩, zm_WL_in 999 rfl rfl, zm_WL_in 52 (by decide +kernel) rfl, by decide +kernel, (fun h => Bool.noConfusion h), (fun _ => ⟨zm_WL_in 997 (by decide +kernel) rfl, zm_WL_in 998 (by decide +kernel) rfl, TX10, 29, rfl⟩), by decide, zm_tb_ok rfl zk_X10_ring_t⟩
set_option maxRecDepth 100000 in
theorem zk_X10_sets_t : zm_tb 10 cX10_sets true (some .boolean) zt_X10_sets = true := by decide +kernel
set_option maxRecDepth 100000 in
theorem zk_X10_sets : zm_mok zm_ms (RX10, yX10_sets, cX10_sets, 4, (some .boolean), false, 1, 7, true, [23, 30], zt_X10_sets) := ⟨rfl, by decide +kernel, ⟨by decide +kernel, by decide +kernel⟩, zm_WL_in 1015 rfl rfl, zm_WL_in 52 (by decide +kernel) rfl, by decide +kernel, (fun h => Bool.noConfusion h), (fun _ => ⟨zm_WL_in 1014 (by decide +kernel) rfl, zm_WL_in 24 (by decide +kernel) rfl, TX10, 29, rfl⟩), by decide, zm_tb_ok rfl zk_X10_sets_t⟩
set_option maxRecDepth 100000 in
theorem zk_X10_isField_t : zm_tb 10 cX10_isField true (some .boolean) zt_X10_isField = true := by decide +kernel
set_option maxRecDepth 100000 in
theorem zk_X10_isField : zm_mok zm_ms (RX10, yX10_isField, cX10_isField, 3, (some .boolean), false, 0, 7, true, [2, 12], zt_X10_isField) := ⟨rfl, by decide +kernel, ⟨by decide +kernel, by decide +kernel⟩, zm_WL_in 1020 rfl rfl, zm_WL_in 52 (by decide +kernel) rfl, by decide +kernel, (fun h => Bool.noConfusion h), (fun _ => ⟨zm_WL_in 1019 (by decide +kernel) rfl, zm_WL_in 25 (by decide +kernel) rfl, TX10, 29, rfl⟩), by decide, zm_tb_ok rfl zk_X10_isField_t⟩
set_option maxRecDepth 100000 in
theorem zk_X10_square_t : zm_tb 10 cX10_square false (some .long) zt_X10_square = true := by decide +kernel
set_option maxRecDepth 100000 in
theorem zk_X10_square : zm_mok zm_ms (RX10, yX10_square, cX10_square, 9, (some .long), false, 3, 7, false, [16], zt_X10_square) := ⟨rfl, by decide +kernel, ⟨by decide +kernel, by decide +kernel⟩, zm_WL_in 1033 rfl rfl, zm_WL_in 52 (by decide +kernel) rfl, by decide +kernel, (fun h => Bool.noConfusion h), (fun _ => ⟨zm_WL_in 1032 (by decide +kernel) rfl, zm_WL_in 28 (by decide +kernel) rfl, TX10, 29, rfl⟩), by decide, zm_tb_ok rfl zk_X10_square_t⟩
set_option maxRecDepth 100000 in
theorem zk_X10_fills_t : zm_tb 10 cX10_fills false none zt_X10_fills = true := by decide +kernel
set_option maxRecDepth 100000 in
theorem zk_X10_fills : zm_mok zm_ms (RX10, yX10_fills, cX10_fills, 7, none, false, 1, 7, false, [7, 15, 74], zt_X10_fills) := ⟨rfl, by decide +kernel, ⟨by decide +kernel, by decide +kernel⟩, zm_WL_in 1028 rfl rfl, zm_WL_in 52 (by decide +kernel) rfl, by decide +kernel, (fun h => Bool.noConfusion h), (fun _ => ⟨zm_WL_in 1027 (by decide +kernel) rfl, zm_WL_in 27 (by decide +kernel) rfl, TX10, 29, rfl⟩), by decide, zm_tb_ok rfl zk_X10_fills_t⟩
set_option maxRecDepth 100000 in
theorem zk_X10_solved_t : zm_tb 10 cX10_solved false (some .long) zt_X10_solved = true := by decide +kernel
set_option maxRecDepth 100000 in
theorem zk_X10_solved : zm_mok zm_ms (RX10, yX10_solved, cX10_solved, 5, (some .long), false, 2, 7, false, [5, 23], zt_X10_solved) := ⟨rfl, by decide +kernel, ⟨by decide +kernel, by decide +kernel⟩, zm_WL_in 1024 rfl rfl, zm_WL_in 52 (by decide +kernel) rfl, by decide +kernel, (fun h => Bool.noConfusion h), (fun _ => ⟨zm_WL_in 1023 (by decide +kernel) rfl, zm_WL_in 26 (by decide +kernel) rfl, TX10, 29, rfl⟩), by decide, zm_tb_ok rfl zk_X10_solved_t⟩
set_option maxRecDepth 100000 in
theorem zk_X10_field_t : zm_tb 10 cX10_field false (some .long) zt_X10_field = true := by decide +kernel
set_option maxRecDepth 100000 in
theorem zk_X10_field : zm_mok zm_ms (RX10, yX10_field, cX10_field, 5, (some .long), false, 3, 7, false, [5, 57], zt_X10_field) := ⟨rfl, by decide +kernel, ⟨by decide +kernel, by decide +kernel⟩, zm_WL_in 1011 rfl rfl, zm_WL_in 52 (by decide +kernel) rfl, by decide +kernel, (fun h => Bool.noConfusion h), (fun _ => ⟨zm_WL_in 1009 (by decide +kernel) rfl, zm_WL_in 1010 (by decide +kernel) rfl, TX10, 29, rfl⟩), by decide, zm_tb_ok rfl zk_X10_field_t⟩
set_option maxRecDepth 100000 in
theorem zk_X10_mean_t : zm_tb 10 cX10_mean false (some .long) zt_X10_mean = true := by decide +kernel
set_option maxRecDepth 100000 in
theorem zk_X10_mean : zm_mok zm_ms (RX10, yX10_mean, cX10_mean, 3, (some .long), false, 2, 7, false, [5, 31], zt_X10_mean) := ⟨rfl, by decide +kernel, ⟨by decide +kernel, by decide +kernel⟩, zm_WL_in 1037 rfl rfl, zm_WL_in 52 (by decide +kernel) rfl, by decide +kernel, (fun h => Bool.noConfusion h), (fun _ => ⟨zm_WL_in 1035 (by decide +kernel) rfl, zm_WL_in 1036 (by decide +kernel) rfl, TX10, 29, rfl⟩), by decide, zm_tb_ok rfl zk_X10_mean_t⟩
set_option maxRecDepth 100000 in
theorem zk_X10_fourOf_t : zm_tb 10 cX10_fourOf false (some .int) zt_X10_fourOf = true := by decide +kernel
set_option maxRecDepth 100000 in
theorem zk_X10_fourOf : zm_mok zm_ms (RX10, yX10_fourOf, cX10_fourOf, 3, (some .int), true, 1, 0, false, [4], zt_X10_fourOf) := ⟨rfl, by decide +kernel, ⟨by decide +kernel, by decide +kernel⟩, zm_WL_in 1048 rfl rfl, zm_WL_in 52 (by decide +kernel) rfl, by decide +kernel, (fun _ => zm_WL_in 1047 (by decide +kernel) rfl), (fun h => Bool.noConfusion h), by decide, zm_tb_ok rfl zk_X10_fourOf_t⟩
set_option maxRecDepth 100000 in
theorem zk_X10_within_t : zm_tb 10 cX10_within false (some .int) zt_X10_within = true := by decide +kernel
set_option maxRecDepth 100000 in
theorem zk_X10_within : zm_mok zm_ms (RX10, yX10_within, cX10_within, 10, (some .int), false, 3, 7, false, [13, 60, 95, 114, 139, 165, 185, 251], zt_X10_within) := ⟨rfl, by decide +kernel, ⟨by decide +kernel, by decide +kernel⟩, zm_WL_in 1041 rfl rfl, zm_WL_in 52 (by decide +kernel) rfl, by decide +kernel, (fun h => Bool.noConfusion h), (fun _ => ⟨zm_WL_in 1039 (by decide +kernel) rfl, zm_WL_in 1040 (by decide +kernel) rfl, TX10, 29, rfl⟩), by decide, zm_tb_ok rfl zk_X10_within_t⟩
set_option maxRecDepth 100000 in
theorem zk_X10_endsBy_t : zm_tb 10 cX10_endsBy false (some .int) zt_X10_endsBy = true := by decide +kernel
set_option maxRecDepth 100000 in
theorem zk_X10_endsBy : zm_mok zm_ms (RX10, yX10_endsBy, cX10_endsBy, 4, (some .int), false, 1, 7, false, [2, 36], zt_X10_endsBy) := ⟨rfl, by decide +kernel, ⟨by decide +kernel, by decide +kernel⟩, zm_WL_in 1045 rfl rfl, zm_WL_in 52 (by decide +kernel) rfl, by decide +kernel, (fun h => Bool.noConfusion h), (fun _ => ⟨zm_WL_in 1044 (by decide +kernel) rfl, zm_WL_in 29 (by decide +kernel) rfl, TX10, 29, rfl⟩), by decide, zm_tb_ok rfl zk_X10_endsBy_t⟩
set_option maxRecDepth 100000 in
theorem zk_X10_cast_t : zm_tb 10 cX10_cast false (some .int) zt_X10_cast = true := by decide +kernel
set_option maxRecDepth 100000 in
theorem zk_X10_cast : zm_mok zm_ms (RX10, yX10_cast, cX10_cast, 2, (some .int), false, 1, 7, false, [9], zt_X10_cast) := ⟨rfl, by decide +kernel, ⟨by decide +kernel, by decide +kernel⟩, zm_WL_in 1055 rfl rfl, zm_WL_in 52 (by decide +kernel) rfl, by decide +kernel, (fun h => Bool.noConfusion h), (fun _ => ⟨zm_WL_in 1053 (by decide +kernel) rfl, zm_WL_in 1054 (by decide +kernel) rfl, TX10, 29, rfl⟩), by decide, zm_tb_ok rfl zk_X10_cast_t⟩
set_option maxRecDepth 100000 in
theorem zk_X10_drawn_t : zm_tb 10 cX10_drawn false (some .int) zt_X10_drawn = true := by decide +kernel
set_option maxRecDepth 100000 in
theorem zk_X10_drawn : zm_mok zm_ms (RX10, yX10_drawn, cX10_drawn, 2, (some .int), false, 1, 7, false, [], zt_X10_drawn) := ⟨rfl, by decide +kernel, ⟨by decide +kernel, by decide +kernel⟩, zm_WL_in 1064 rfl rfl, zm_WL_in 52 (by decide +kernel) rfl, by decide +kernel, (fun h => Bool.noConfusion h), (fun _ => ⟨zm_WL_in 1063 (by decide +kernel) rfl, zm_WL_in 30 (by decide +kernel) rfl, TX10, 29, rfl⟩), by decide, zm_tb_ok rfl zk_X10_drawn_t⟩
set_option maxRecDepth 100000 in
theorem zk_X10_casts_t : zm_tb 10 cX10_casts false (some .int) zt_X10_casts = true := by decide +kernel
set_option maxRecDepth 100000 in
theorem zk_X10_casts : zm_mok zm_ms (RX10, yX10_casts, cX10_casts, 5, (some .int), false, 2, 7, false, [18, 62], zt_X10_casts) := ⟨rfl, by decide +kernel, ⟨by decide +kernel, by decide +kernel⟩, zm_WL_in 1059 rfl rfl, zm_WL_in 52 (by decide +kernel) rfl, by decide +kernel, (fun h => Bool.noConfusion h), (fun _ => ⟨zm_WL_in 1057 (by decide +kernel) rfl, zm_WL_in 1058 (by decide +kernel) rfl, TX10, 29, rfl⟩), by decide, zm_tb_ok rfl zk_X10_casts_t⟩
set_option maxRecDepth 100000 in
theorem zk_X10_wipe_t : zm_tb 10 cX10_wipe false (some .int) zt_X10_wipe = true := by decide +kernel
set_option maxRecDepth 100000 in
theorem zk_X10_wipe : zm_mok zm_ms (RX10, yX10_wipe, cX10_wipe, 2, (some .int), false, 0, 7, false, [], zt_X10_wipe) := ⟨rfl, by decide +kernel, ⟨by decide +kernel, by decide +kernel⟩, zm_WL_in 1068 rfl rfl, zm_WL_in 52 (by decide +kernel) rfl, by decide +kernel, (fun h => Bool.noConfusion h), (fun _ => ⟨zm_WL_in 1066 (by decide +kernel) rfl, zm_WL_in 1067 (by decide +kernel) rfl, TX10, 29, rfl⟩), by decide, zm_tb_ok rfl zk_X10_wipe_t⟩
set_option maxRecDepth 100000 in
theorem zk_X10_strip_t : zm_tb 10 cX10_strip false (some .int) zt_X10_strip = true := by decide +kernel
set_option maxRecDepth 100000 in
theorem zk_X10_strip : zm_mok zm_ms (RX10, yX10_strip, cX10_strip, 2, (some .int), false, 1, 7, false, [11], zt_X10_strip) := ⟨rfl, by decide +kernel, ⟨by decide +kernel, by decide +kernel⟩, zm_WL_in 1072 rfl rfl, zm_WL_in 52 (by decide +kernel) rfl, by decide +kernel, (fun h => Bool.noConfusion h), (fun _ => ⟨zm_WL_in 1070 (by decide +kernel) rfl, zm_WL_in 1071 (by decide +kernel) rfl, TX10, 29, rfl⟩), by decide, zm_tb_ok rfl zk_X10_strip_t⟩
set_option maxRecDepth 100000 in
theorem zk_X10_endsAt_t : zm_tb 10 cX10_endsAt true (some .boolean) zt_X10_endsAt = true := by decide +kernel
set_option maxRecDepth 100000 in
theorem zk_X10_endsAt : zm_mok zm_ms (RX10, yX10_endsAt, cX10_endsAt, 5, (some .boolean), false, 2, 7, true, [17], zt_X10_endsAt) := ⟨rfl, by decide +kernel, ⟨by decide +kernel, by decide +kernel⟩, zm_WL_in 1080 rfl rfl, zm_WL_in 52 (by decide +kernel) rfl, by decide +kernel, (fun h => Bool.noConfusion h), (fun _ => ⟨zm_WL_in 1079 (by decide +kernel) rfl, zm_WL_in 31 (by decide +kernel) rfl, TX10, 29, rfl⟩), by decide, zm_tb_ok rfl zk_X10_endsAt_t⟩
set_option maxRecDepth 100000 in
theorem zk_X10_ends_t : zm_tb 10 cX10_ends false (some .long) zt_X10_ends = true := by decide +kernel
set_option maxRecDepth 100000 in
theorem zk_X10_ends : zm_mok zm_ms (RX10, yX10_ends, cX10_ends, 5, (some .long), false, 1, 7, false, [17], zt_X10_ends) := ⟨rfl, by decide +kernel, ⟨by decide +kernel, by decide +kernel⟩, zm_WL_in 1076 rfl rfl, zm_WL_in 52 (by decide +kernel) rfl, by decide +kernel, (fun h => Bool.noConfusion h), (fun _ => ⟨zm_WL_in 1074 (by decide +kernel) rfl, zm_WL_in 1075 (by decide +kernel) rfl, TX10, 29, rfl⟩), by decide, zm_tb_ok rfl zk_X10_ends_t⟩
set_option maxRecDepth 100000 in
theorem zk_X10_firstOf_t : zm_tb 10 cX10_firstOf false (some .int) zt_X10_firstOf = true := by decide +kernel
set_option maxRecDepth 100000 in
theorem zk_X10_firstOf : zm_mok zm_ms (RX10, yX10_firstOf, cX10_firstOf, 3, (some .int), false, 1, 7, false, [2], zt_X10_firstOf) := ⟨rfl, by decide +kernel, ⟨by decide +kernel, by decide +kernel⟩, zm_WL_in 1088 rfl rfl, zm_WL_in 52 (by decide +kernel) rfl, by decide +kernel, (fun h => Bool.noConfusion h), (fun _ => ⟨zm_WL_in 1087 (by decide +kernel) rfl, zm_WL_in 32 (by decide +kernel) rfl, TX10, 29, rfl⟩), by decide, zm_tb_ok rfl zk_X10_firstOf_t⟩
set_option maxRecDepth 100000 in
theorem zk_X10_matched_t : zm_tb 10 cX10_matched false (some .int) zt_X10_matched = true := by decide +kernel
set_option maxRecDepth 100000 in
theorem zk_X10_matched : zm_mok zm_ms (RX10, yX10_matched, cX10_matched, 5, (some .int), false, 1, 7, false, [4, 12, 21], zt_X10_matched) := ⟨rfl, by decide +kernel, ⟨by decide +kernel, by decide +kernel⟩, zm_WL_in 1094 rfl rfl, zm_WL_in 52 (by decide +kernel) rfl, by decide +kernel, (fun h => Bool.noConfusion h), (fun _ => ⟨zm_WL_in 1093 (by decide +kernel) rfl, zm_WL_in 33 (by decide +kernel) rfl, TX10, 29, rfl⟩), by decide, zm_tb_ok rfl zk_X10_matched_t⟩
set_option maxRecDepth 100000 in
theorem zk_X10_seen_t : zm_tb 10 cX10_seen false (some .int) zt_X10_seen = true := by decide +kernel
set_option maxRecDepth 100000 in
theorem zk_X10_seen : zm_mok zm_ms (RX10, yX10_seen, cX10_seen, 3, (some .int), false, 2, 7, false, [14], zt_X10_seen) := ⟨rfl, by decide +kernel, ⟨by decide +kernel, by decide +kernel⟩, zm_WL_in 1084 rfl rfl, zm_WL_in 52 (by decide +kernel) rfl, by decide +kernel, (fun h => Bool.noConfusion h), (fun _ => ⟨zm_WL_in 1082 (by decide +kernel) rfl, zm_WL_in 1083 (by decide +kernel) rfl, TX10, 29, rfl⟩), by decide, zm_tb_ok rfl zk_X10_seen_t⟩
set_option maxRecDepth 100000 in
theorem zk_X10_who_t : zm_tb 10 cX10_who false (some .int) zt_X10_who = true := by decide +kernel
set_option maxRecDepth 100000 in
theorem zk_X10_who : zm_mok zm_ms (RX10, yX10_who, cX10_who, 5, (some .int), false, 0, 7, false, [8, 21, 51], zt_X10_who) := ⟨rfl, by decide +kernel, ⟨by decide +kernel, by decide +kernel⟩, zm_WL_in 1098 rfl rfl, zm_WL_in 52 (by decide +kernel) rfl, by decide +kernel, (fun h => Bool.noConfusion h), (fun _ => ⟨zm_WL_in 1096 (by decide +kernel) rfl, zm_WL_in 1097 (by decide +kernel) rfl, TX10, 29, rfl⟩), by decide, zm_tb_ok rfl zk_X10_who_t⟩
set_option maxRecDepth 100000 in
theorem zk_X10_were_t : zm_tb 10 cX10_were false (some .int) zt_X10_were = true := by decide +kernel
set_option maxRecDepth 100000 in
theorem zk_X10_were : zm_mok zm_ms (RX10, yX10_were, cX10_were, 6, (some .int), false, 2, 7, false, [19, 37], zt_X10_were) := ⟨rfl, by decide +kernel, ⟨by decide +kernel, by decide +kernel⟩, zm_WL_in 1102 rfl rfl, zm_WL_in 52 (by decide +kernel) rfl, by decide +kernel, (fun h => Bool.noConfusion h), (fun _ => ⟨zm_WL_in 1100 (by decide +kernel) rfl, zm_WL_in 1101 (by decide +kernel) rfl, TX10, 29, rfl⟩), by decide, zm_tb_ok rfl zk_X10_were_t⟩
set_option maxRecDepth 100000 in
theorem zk_X10_player_t : zm_tb 10 cX10_player false (some .int) zt_X10_player = true := by decide +kernel
set_option maxRecDepth 100000 in
theorem zk_X10_player : zm_mok zm_ms (RX10, yX10_player, cX10_player, 3, (some .int), false, 2, 7, false, [14], zt_X10_player) := ⟨rfl, by decide +kernel, ⟨by decide +kernel, by decide +kernel⟩, zm_WL_in 1107 rfl rfl, zm_WL_in 52 (by decide +kernel) rfl, by decide +kernel, (fun h => Bool.noConfusion h), (fun _ => ⟨zm_WL_in 1105 (by decide +kernel) rfl, zm_WL_in 1106 (by decide +kernel) rfl, TX10, 29, rfl⟩), by decide, zm_tb_ok rfl zk_X10_player_t⟩
set_option maxRecDepth 100000 in
theorem zk_X10_isPlayer_t : zm_tb 10 cX10_isPlayer true (some .boolean) zt_X10_isPlayer = true := by decide +kernel
set_option maxRecDepth 100000 in
theorem zk_X10_isPlayer : zm_mok zm_ms (RX10, yX10_isPlayer, cX10_isPlayer, 2, (some .boolean), false, 1, 7, true, [], zt_X10_isPlayer) := ⟨rfl, by decide +kernel, ⟨by decide +kernel, by decide +kernel⟩, zm_WL_in 1115 rfl rfl, zm_WL_in 52 (by decide +kernel) rfl, by decide +kernel, (fun h => Bool.noConfusion h), (fun _ => ⟨zm_WL_in 1114 (by decide +kernel) rfl, zm_WL_in 34 (by decide +kernel) rfl, TX10, 29, rfl⟩), by decide, zm_tb_ok rfl zk_X10_isPlayer_t⟩
set_option maxRecDepth 100000 in
theorem zk_X10_turned_t : zm_tb 10 cX10_turned false (some .int) zt_X10_turned = true := by decide +kernel
set_option maxRecDepth 100000 in
theorem zk_X10_turned : zm_mok zm_ms (RX10, yX10_turned, cX10_turned, 3, (some .int), true, 1, 0, false, [4], zt_X10_turned) := ⟨rfl, by decide +kernel, ⟨by decide +kernel, by decide +kernel⟩, zm_WL_in 1130 rfl rfl, zm_WL_in 52 (by decide +kernel) rfl, by decide +kernel, (fun _ => zm_WL_in 1129 (by decide +kernel) rfl), (fun h => Bool.noConfusion h), by decide, zm_tb_ok rfl zk_X10_turned_t⟩
set_option maxRecDepth 100000 in
theorem zk_X10_shifted_t : zm_tb 10 cX10_shifted false (some .int) zt_X10_shifted = true := by decide +kernel
set_option maxRecDepth 100000 in
theorem zk_X10_shifted : zm_mok zm_ms (RX10, yX10_shifted, cX10_shifted, 4, (some .int), false, 1, 7, false, [4], zt_X10_shifted) := ⟨rfl, by decide +kernel, ⟨by decide +kernel, by decide +kernel⟩, zm_WL_in 1141 rfl rfl, zm_WL_in 52 (by decide +kernel) rfl, by decide +kernel, (fun h => Bool.noConfusion h), (fun _ => ⟨zm_WL_in 1140 (by decide +kernel) rfl, zm_WL_in 39 (by decide +kernel) rfl, TX10, 29, rfl⟩), by decide, zm_tb_ok rfl zk_X10_shifted_t⟩
set_option maxRecDepth 100000 in
theorem zk_X10_ahead_t : zm_tb 10 cX10_ahead false (some .int) zt_X10_ahead = true := by decide +kernel
set_option maxRecDepth 100000 in
theorem zk_X10_ahead : zm_mok zm_ms (RX10, yX10_ahead, cX10_ahead, 2, (some .int), true, 2, 0, false, [], zt_X10_ahead) := ⟨rfl, by decide +kernel, ⟨by decide +kernel, by decide +kernel⟩, zm_WL_in 1137 rfl rfl, zm_WL_in 52 (by decide +kernel) rfl, by decide +kernel, (fun _ => zm_WL_in 1136 (by decide +kernel) rfl), (fun h => Bool.noConfusion h), by decide, zm_tb_ok rfl zk_X10_ahead_t⟩
set_option maxRecDepth 100000 in
theorem zk_X10_picks_t : zm_tb 10 cX10_picks false (some .int) zt_X10_picks = true := by decide +kernel
set_option maxRecDepth 100000 in
theorem zk_X10_picks : zm_mok zm_ms (RX10, yX10_picks, cX10_picks, 5, (some .int), false, 2, 7, false, [], zt_X10_picks) := ⟨rfl, by decide +kernel, ⟨by decide +kernel, by decide +kernel⟩, zm_WL_in 1127 rfl rfl, zm_WL_in 52 (by decide +kernel) rfl, by decide +kernel, (fun h => Bool.noConfusion h), (fun _ => ⟨zm_WL_in 1126 (by decide +kernel) rfl, zm_WL_in 37 (by decide +kernel) rfl, TX10, 29, rfl⟩), by decide, zm_tb_ok rfl zk_X10_picks_t⟩
set_option maxRecDepth 100000 in
theorem zk_X10_firstPick_t : zm_tb 10 cX10_firstPick false (some .int) zt_X10_firstPick = true := by decide +kernel
set_option maxRecDepth 100000 in
theorem zk_X10_firstPick : zm_mok zm_ms (RX10, yX10_firstPick, cX10_firstPick, 2, (some .int), false, 1, 7, false, [], zt_X10_firstPick) := ⟨rfl, by decide +kernel, ⟨by decide +kernel, by decide +kernel⟩, zm_WL_in 1123 rfl rfl, zm_WL_in 52 (by decide +kernel) rfl, by decide +kernel, (fun h => Bool.noConfusion h), (fun _ => ⟨zm_WL_in 1122 (by decide +kernel) rfl, zm_WL_in 36 (by decide +kernel) rfl, TX10, 29, rfl⟩), by decide, zm_tb_ok rfl zk_X10_firstPick_t⟩
set_option maxRecDepth 100000 in
theorem zk_X10_wins_t : zm_tb 10 cX10_wins false (some .int) zt_X10_wins = true := by decide +kernel
set_option maxRecDepth 100000 in
theorem zk_X10_wins : zm_mok zm_ms (RX10, yX10_wins, cX10_wins, 5, (some .int), false, 1, 7, false, [11], zt_X10_wins) := ⟨rfl, by decide +kernel, ⟨by decide +kernel, by decide +kernel⟩, zm_WL_in 1119 rfl rfl, zm_WL_in 52 (by decide +kernel) rfl, by decide +kernel, (fun h => Bool.noConfusion h), (fun _ => ⟨zm_WL_in 1118 (by decide +kernel) rfl, zm_WL_in 35 (by decide +kernel) rfl, TX10, 29, rfl⟩), by decide, zm_tb_ok rfl zk_X10_wins_t⟩
set_option maxRecDepth 100000 in
theorem zk_X10_playerOf_t : zm_tb 10 cX10_playerOf false (some .int) zt_X10_playerOf = true := by decide +kernel
set_option maxRecDepth 100000 in
theorem zk_X10_playerOf : zm_mok zm_ms (RX10, yX10_playerOf, cX10_playerOf, 3, (some .int), false, 2, 7, false, [14], zt_X10_playerOf) := ⟨rfl, by decide +kernel, ⟨by decide +kernel, by decide +kernel⟩, zm_WL_in 1111 rfl rfl, zm_WL_in 52 (by decide +kernel) rfl, by decide +kernel, (fun h => Bool.noConfusion h), (fun _ => ⟨zm_WL_in 1109 (by decide +kernel) rfl, zm_WL_in 1110 (by decide +kernel) rfl, TX10, 29, rfl⟩), by decide, zm_tb_ok rfl zk_X10_playerOf_t⟩
set_option maxRecDepth 100000 in
theorem zk_X10_areTwo_t : zm_tb 10 cX10_areTwo true (some .boolean) zt_X10_areTwo = true := by decide +kernel
set_option maxRecDepth 100000 in
theorem zk_X10_areTwo : zm_mok zm_ms (RX10, yX10_areTwo, cX10_areTwo, 3, (some .boolean), false, 2, 7, true, [], zt_X10_areTwo) := ⟨rfl, by decide +kernel, ⟨by decide +kernel, by decide +kernel⟩, zm_WL_in 1149 rfl rfl, zm_WL_in 52 (by decide +kernel) rfl, by decide +kernel, (fun h => Bool.noConfusion h), (fun _ => ⟨zm_WL_in 1148 (by decide +kernel) rfl, zm_WL_in 40 (by decide +kernel) rfl, TX10, 29, rfl⟩), by decide, zm_tb_ok rfl zk_X10_areTwo_t⟩
set_option maxRecDepth 100000 in
theorem zk_X10_pick_t : zm_tb 10 cX10_pick false (some .int) zt_X10_pick = true := by decide +kernel
set_option maxRecDepth 100000 in
theorem zk_X10_pick : zm_mok zm_ms (RX10, yX10_pick, cX10_pick, 5, (some .int), false, 3, 7, false, [], zt_X10_pick) := ⟨rfl, by decide +kernel, ⟨by decide +kernel, by decide +kernel⟩, zm_WL_in 1145 rfl rfl, zm_WL_in 52 (by decide +kernel) rfl, by decide +kernel, (fun h => Bool.noConfusion h), (fun _ => ⟨zm_WL_in 1143 (by decide +kernel) rfl, zm_WL_in 1144 (by decide +kernel) rfl, TX10, 29, rfl⟩), by decide, zm_tb_ok rfl zk_X10_pick_t⟩
set_option maxRecDepth 100000 in
theorem zk_X10_match_t : zm_tb 10 cX10_match false (some .long) zt_X10_match = true := by decide +kernel
set_option maxRecDepth 100000 in
theorem zk_X10_match : zm_mok zm_ms (RX10, yX10_match, cX10_match, 6, (some .long), false, 3, 7, false, [], zt_X10_match) := ⟨rfl, by decide +kernel, ⟨by decide +kernel, by decide +kernel⟩, zm_WL_in 1153 rfl rfl, zm_WL_in 52 (by decide +kernel) rfl, by decide +kernel, (fun h => Bool.noConfusion h), (fun _ => ⟨zm_WL_in 1151 (by decide +kernel) rfl, zm_WL_in 1152 (by decide +kernel) rfl, TX10, 29, rfl⟩), by decide, zm_tb_ok rfl zk_X10_match_t⟩
set_option maxRecDepth 100000 in
theorem zk_X10_duels_t : zm_tb 10 cX10_duels false (some .int) zt_X10_duels = true := by decide +kernel
set_option maxRecDepth 100000 in
theorem zk_X10_duels : zm_mok zm_ms (RX10, yX10_duels, cX10_duels, 7, (some .int), false, 3, 7, false, [9], zt_X10_duels) := ⟨rfl, by decide +kernel, ⟨by decide +kernel, by decide +kernel⟩, zm_WL_in 1161 rfl rfl, zm_WL_in 52 (by decide +kernel) rfl, by decide +kernel, (fun h => Bool.noConfusion h), (fun _ => ⟨zm_WL_in 1160 (by decide +kernel) rfl, zm_WL_in 41 (by decide +kernel) rfl, TX10, 29, rfl⟩), by decide, zm_tb_ok rfl zk_X10_duels_t⟩
set_option maxRecDepth 100000 in
theorem zk_X10_duel_t : zm_tb 10 cX10_duel false (some .int) zt_X10_duel = true := by decide +kernel
set_option maxRecDepth 100000 in
theorem zk_X10_duel : zm_mok zm_ms (RX10, yX10_duel, cX10_duel, 6, (some .int), false, 4, 7, false, [28, 48], zt_X10_duel) := ⟨rfl, by decide +kernel, ⟨by decide +kernel, by decide +kernel⟩, zm_WL_in 1157 rfl rfl, zm_WL_in 52 (by decide +kernel) rfl, by decide +kernel, (fun h => Bool.noConfusion h), (fun _ => ⟨zm_WL_in 1155 (by decide +kernel) rfl, zm_WL_in 1156 (by decide +kernel) rfl, TX10, 29, rfl⟩), by decide, zm_tb_ok rfl zk_X10_duel_t⟩
set_option maxRecDepth 100000 in
theorem zk_X10_odds_t : zm_tb 10 cX10_odds false (some .long) zt_X10_odds = true := by decide +kernel
set_option maxRecDepth 100000 in
theorem zk_X10_odds : zm_mok zm_ms (RX10, yX10_odds, cX10_odds, 8, (some .long), false, 5, 7, false, [37, 68], zt_X10_odds) := ⟨rfl, by decide +kernel, ⟨by decide +kernel, by decide +kernel⟩, zm_WL_in 1166 rfl rfl, zm_WL_in 52 (by decide +kernel) rfl, by decide +kernel, (fun h => Bool.noConfusion h), (fun _ => ⟨zm_WL_in 1164 (by decide +kernel) rfl, zm_WL_in 1165 (by decide +kernel) rfl, TX10, 29, rfl⟩), by decide, zm_tb_ok rfl zk_X10_odds_t⟩
set_option maxRecDepth 100000 in
theorem zk_X10_plan_t : zm_tb 10 cX10_plan false (some .int) zt_X10_plan = true := by decide +kernel
set_option maxRecDepth 100000 in
theorem zk_X10_plan : zm_mok zm_ms (RX10, yX10_plan, cX10_plan, 3, (some .int), false, 2, 7, false, [47], zt_X10_plan) := ⟨rfl, by decide +kernel, ⟨by decide +kernel, by decide +kernel⟩, zm_WL_in 1170 rfl rfl, zm_WL_in 52 (by decide +kernel) rfl, by decide +kernel, (fun h => Bool.noConfusion h), (fun _ => ⟨zm_WL_in 1168 (by decide +kernel) rfl, zm_WL_in 1169 (by decide +kernel) rfl, TX10, 29, rfl⟩), by decide, zm_tb_ok rfl zk_X10_plan_t⟩
set_option maxRecDepth 100000 in
theorem zk_X10_does_t : zm_tb 10 cX10_does false none zt_X10_does = true := by decide +kernel
set_option maxRecDepth 100000 in
theorem zk_X10_does : zm_mok zm_ms (RX10, yX10_does, cX10_does, 5, none, false, 2, 7, false, [80, 88, 114], zt_X10_does) := ⟨rfl, by decide +kernel, ⟨by decide +kernel, by decide +kernel⟩, zm_WL_in 1178 rfl rfl, zm_WL_in 52 (by decide +kernel) rfl, by decide +kernel, (fun h => Bool.noConfusion h), (fun _ => ⟨zm_WL_in 1177 (by decide +kernel) rfl, zm_WL_in 42 (by decide +kernel) rfl, TX10, 29, rfl⟩), by decide, zm_tb_ok rfl zk_X10_does_t⟩
set_option maxRecDepth 100000 in
theorem zk_X10_behind_t : zm_tb 10 cX10_behind false (some .int) zt_X10_behind = true := by decide +kernel
set_option maxRecDepth 100000 in
theorem zk_X10_behind : zm_mok zm_ms (RX10, yX10_behind, cX10_behind, 4, (some .int), false, 1, 7, false, [6, 28, 43, 69, 130, 141], zt_X10_behind) := ⟨rfl, by decide +kernel, ⟨by decide +kernel, by decide +kernel⟩, zm_WL_in 1174 rfl rfl, zm_WL_in 52 (by decide +kernel) rfl, by decide +kernel, (fun h => Bool.noConfusion h), (fun _ => ⟨zm_WL_in 1172 (by decide +kernel) rfl, zm_WL_in 1173 (by decide +kernel) rfl, TX10, 29, rfl⟩), by decide, zm_tb_ok rfl zk_X10_behind_t⟩
set_option maxRecDepth 100000 in
theorem zk_X10_write_t : zm_tb 10 cX10_write false (some .int) zt_X10_write = true := by decide +kernel
set_option maxRecDepth 100000 in
theorem zk_X10_write : zm_mok zm_ms (RX10, yX10_write, cX10_write, 3, (some .int), false, 1, 7, false, [10, 37, 42, 81], zt_X10_write) := ⟨rfl, by decide +kernel, ⟨by decide +kernel, by decide +kernel⟩, zm_WL_in 1183 rfl rfl, zm_WL_in 52 (by decide +kernel) rfl, by decide +kernel, (fun h => Bool.noConfusion h), (fun _ => ⟨zm_WL_in 1181 (by decide +kernel) rfl, zm_WL_in 1182 (by decide +kernel) rfl, TX10, 29, rfl⟩), by decide, zm_tb_ok rfl zk_X10_write_t⟩
set_option maxRecDepth 100000 in
theorem zk_X10_paper_t : zm_tb 10 cX10_paper false (some .int) zt_X10_paper = true := by decide +kernel
set_option maxRecDepth 100000 in
theorem zk_X10_paper : zm_mok zm_ms (RX10, yX10_paper, cX10_paper, 2, (some .int), false, 1, 7, false, [11], zt_X10_paper) := ⟨rfl, by decide +kernel, ⟨by decide +kernel, by decide +kernel⟩, zm_WL_in 1187 rfl rfl, zm_WL_in 52 (by decide +kernel) rfl, by decide +kernel, (fun h => Bool.noConfusion h), (fun _ => ⟨zm_WL_in 1185 (by decide +kernel) rfl, zm_WL_in 1186 (by decide +kernel) rfl, TX10, 29, rfl⟩), by decide, zm_tb_ok rfl zk_X10_paper_t⟩
set_option maxRecDepth 100000 in
theorem zk_X10_judge_t : zm_tb 10 cX10_judge false (some .int) zt_X10_judge = true := by decide +kernel
set_option maxRecDepth 100000 in
theorem zk_X10_judge : zm_mok zm_ms (RX10, yX10_judge, cX10_judge, 3, (some .int), false, 1, 7, false, [4, 23], zt_X10_judge) := ⟨rfl, by decide +kernel, ⟨by decide +kernel, by decide +kernel⟩, zm_WL_in 1191 rfl rfl, zm_WL_in 52 (by decide +kernel) rfl, by decide +kernel, (fun h => Bool.noConfusion h), (fun _ => ⟨zm_WL_in 1189 (by decide +kernel) rfl, zm_WL_in 1190 (by decide +kernel) rfl, TX10, 29, rfl⟩), by decide, zm_tb_ok rfl zk_X10_judge_t⟩
set_option maxRecDepth 100000 in
theorem zk_X10_list_t : zm_tb 10 cX10_list false (some .int) zt_X10_list = true := by decide +kernel
set_option maxRecDepth 100000 in
theorem zk_X10_list : zm_mok zm_ms (RX10, yX10_list, cX10_list, 4, (some .int), false, 2, 7, false, [4, 34], zt_X10_list) := ⟨rfl, by decide +kernel, ⟨by decide +kernel, by decide +kernel⟩, zm_WL_in 1198 rfl rfl, zm_WL_in 52 (by decide +kernel) rfl, by decide +kernel, (fun h => Bool.noConfusion h), (fun _ => ⟨zm_WL_in 1196 (by decide +kernel) rfl, zm_WL_in 1197 (by decide +kernel) rfl, TX10, 29, rfl⟩), by decide, zm_tb_ok rfl zk_X10_list_t⟩
set_option maxRecDepth 100000 in
theorem zk_X10_put_t : zm_tb 10 cX10_put false (some .int) zt_X10_put = true := by decide +kernel
set_option maxRecDepth 100000 in
theorem zk_X10_put : zm_mok zm_ms (RX10, yX10_put, cX10_put, 4, (some .int), false, 3, 7, false, [4, 34], zt_X10_put) := ⟨rfl, by decide +kernel, ⟨by decide +kernel, by decide +kernel⟩, zm_WL_in 1202 rfl rfl, zm_WL_in 52 (by decide +kernel) rfl, by decide +kernel, (fun h => Bool.noConfusion h), (fun _ => ⟨zm_WL_in 1200 (by decide +kernel) rfl, zm_WL_in 1201 (by decide +kernel) rfl, TX10, 29, rfl⟩), by decide, zm_tb_ok rfl zk_X10_put_t⟩
set_option maxRecDepth 100000 in
theorem zk_X10_get_t : zm_tb 10 cX10_get false (some .long) zt_X10_get = true := by decide +kernel
set_option maxRecDepth 100000 in
theorem zk_X10_get : zm_mok zm_ms (RX10, yX10_get, cX10_get, 3, (some .long), false, 2, 7, false, [4, 20], zt_X10_get) := ⟨rfl, by decide +kernel, ⟨by decide +kernel, by decide +kernel⟩, zm_WL_in 1206 rfl rfl, zm_WL_in 52 (by decide +kernel) rfl, by decide +kernel, (fun h => Bool.noConfusion h), (fun _ => ⟨zm_WL_in 1204 (by decide +kernel) rfl, zm_WL_in 1205 (by decide +kernel) rfl, TX10, 29, rfl⟩), by decide, zm_tb_ok rfl zk_X10_get_t⟩
set_option maxRecDepth 100000 in
theorem zk_X10_image_t : zm_tb 10 cX10_image false (some .int) zt_X10_image = true := by decide +kernel
set_option maxRecDepth 100000 in
theorem zk_X10_image : zm_mok zm_ms (RX10, yX10_image, cX10_image, 2, (some .int), false, 0, 7, false, [57, 85, 114, 157], zt_X10_image) := ⟨rfl, by decide +kernel, ⟨by decide +kernel, by decide +kernel⟩, zm_WL_in 1210 rfl rfl, zm_WL_in 52 (by decide +kernel) rfl, by decide +kernel, (fun h => Bool.noConfusion h), (fun _ => ⟨zm_WL_in 1208 (by decide +kernel) rfl, zm_WL_in 1209 (by decide +kernel) rfl, TX10, 29, rfl⟩), by decide, zm_tb_ok rfl zk_X10_image_t⟩
set_option maxRecDepth 100000 in
theorem zk_X10_undo_t : zm_tb 10 cX10_undo false (some .int) zt_X10_undo = true := by decide +kernel
set_option maxRecDepth 100000 in
theorem zk_X10_undo : zm_mok zm_ms (RX10, yX10_undo, cX10_undo, 2, (some .int), false, 0, 7, false, [62, 90, 119, 162], zt_X10_undo) := ⟨rfl, by decide +kernel, ⟨by decide +kernel, by decide +kernel⟩, zm_WL_in 1214 rfl rfl, zm_WL_in 52 (by decide +kernel) rfl, by decide +kernel, (fun h => Bool.noConfusion h), (fun _ => ⟨zm_WL_in 1212 (by decide +kernel) rfl, zm_WL_in 1213 (by decide +kernel) rfl, TX10, 29, rfl⟩), by decide, zm_tb_ok rfl zk_X10_undo_t⟩
set_option maxRecDepth 100000 in
theorem zk_X10_count_t : zm_tb 10 cX10_count false (some .int) zt_X10_count = true := by decide +kernel
set_option maxRecDepth 100000 in
theorem zk_X10_count : zm_mok zm_ms (RX10, yX10_count, cX10_count, 2, (some .int), false, 1, 7, false, [], zt_X10_count) := ⟨rfl, by decide +kernel, ⟨by decide +kernel, by decide +kernel⟩, zm_WL_in 1218 rfl rfl, zm_WL_in 52 (by decide +kernel) rfl, by decide +kernel, (fun h => Bool.noConfusion h), (fun _ => ⟨zm_WL_in 1216 (by decide +kernel) rfl, zm_WL_in 1217 (by decide +kernel) rfl, TX10, 29, rfl⟩), by decide, zm_tb_ok rfl zk_X10_count_t⟩
set_option maxRecDepth 100000 in
theorem zk_J6_bitCount_0f7a4_t : zm_tb 11 cJ6_bitCount_0f7a4 false (some .int) zt_J6_bitCount_0f7a4 = true := by decide +kernel
set_option maxRecDepth 100000 in
theorem zk_J6_bitCount_0f7a4 : zm_mok zm_ms (RJ6, yJ6_bitCount_0f7a4, cJ6_bitCount_0f7a4, 1, (some .int), true, 1, 0, false, [], zt_J6_bitCount_0f7a4) := ⟨rfl, by decide +kernel, ⟨by decide +kernel, by decide +kernel⟩, zm_WL_in 458 rfl rfl, zm_WL_in 57 (by decide +kernel) rfl, by decide +kernel, (fun _ => zm_WL_in 457 (by decide +kernel) rfl), (fun h => Bool.noConfusion h), by decide, zm_tb_ok rfl zk_J6_bitCount_0f7a4_t⟩
set_option maxRecDepth 100000 in
theorem zk_J13_bitCount_95d88_t : zm_tb 12 cJ13_bitCount_95d88 false (some .int) zt_J13_bitCount_95d88 = true := by decide +kernel
set_option maxRecDepth 100000 in
theorem zk_J13_bitCount_95d88 : zm_mok zm_ms (RJ13, yJ13_bitCount_95d88, cJ13_bitCount_95d88, 2, (some .int), true, 1, 0, false, [], zt_J13_bitCount_95d88) := ⟨rfl, by decide +kernel, ⟨by decide +kernel, by decide +kernel⟩, zm_WL_in 584 rfl rfl, zm_WL_in 58 (by decide +kernel) rfl, by decide +kernel, (fun _ => zm_WL_in 583 (by decide +kernel) rfl), (fun h => Bool.noConfusion h), by decide, zm_tb_ok rfl zk_J13_bitCount_95d88_t⟩
set_option maxRecDepth 100000 in
theorem zk_J7_fill_53178_t : zm_tb 15 cJ7_fill_53178 false none zt_J7_fill_53178 = true := by decide +kernel
set_option maxRecDepth 100000 in
theorem zk_J7_fill_53178 : zm_mok zm_ms (RJ7, yJ7_fill_53178, cJ7_fill_53178, 4, none, true, 2, 0, false, [5], zt_J7_fill_53178) := ⟨rfl, by decide +kernel, ⟨by decide +kernel, by decide +kernel⟩, zm_WL_in 222 rfl rfl, zm_WL_in 51 (by decide +kernel) rfl, by decide +kernel, (fun _ => zm_WL_in 221 (by decide +kernel) rfl), (fun h => Bool.noConfusion h), by decide, zm_tb_ok rfl zk_J7_fill_53178_t⟩
theorem zk_l0 : ∀ M ∈ zm_msl0, zm_mok zm_ms M := List.forall_mem_cons.mpr ⟨zk_X0_copyFrom, List.forall_mem_cons.mpr ⟨zk_X0_hasWord, List.forall_mem_cons.mpr ⟨zk_X0_areTwoWords, List.forall_mem_cons.mpr ⟨zk_X0_wordAt, List.forall_mem_cons.mpr ⟨zk_X0_addWord, List.forall_mem_cons.mpr ⟨zk_X0_hasThirdLetter, List.forall_mem_cons.mpr ⟨zk_X0_isSet, List.forall_mem_cons.mpr ⟨zk_X0_isInSet, List.forall_mem_cons.mpr ⟨zk_X0_firstOn, List.forall_mem_cons.mpr ⟨zk_X0_hasPlayer, List.forall_mem_cons.mpr ⟨zk_X0_areTwoPlayers, List.forall_mem_cons.mpr ⟨zk_X0_addPlayer, List.forall_mem_cons.mpr ⟨zk_X0_firstPick, List.forall_mem_cons.mpr ⟨zk_X0_pickAgainst, List.forall_mem_cons.mpr ⟨zk_X0_wins, List.forall_mem_cons.mpr ⟨zk_X0_addRow, fun _ h => absurd h List.not_mem_nil⟩⟩⟩⟩⟩⟩⟩⟩⟩⟩⟩⟩⟩⟩⟩⟩
theorem zk_l1 : ∀ M ∈ zm_msl1, zm_mok zm_ms M := List.forall_mem_cons.mpr ⟨zk_X0_followPlan, List.forall_mem_cons.mpr ⟨zk_X1_nextSeed, List.forall_mem_cons.mpr ⟨zk_X1_drawn, List.forall_mem_cons.mpr ⟨zk_X1_run, List.forall_mem_cons.mpr ⟨zk_X2_fill, List.forall_mem_cons.mpr ⟨zk_X2_hasOneInAnother, List.forall_mem_cons.mpr ⟨zk_X2_chancePart, List.forall_mem_cons.mpr ⟨zk_X2_meanPart, List.forall_mem_cons.mpr ⟨zk_X2_setApart, List.forall_mem_cons.mpr ⟨zk_X2_weight, List.forall_mem_cons.mpr ⟨zk_X2_wholeWeight, List.forall_mem_cons.mpr ⟨zk_X2_minor, List.forall_mem_cons.mpr ⟨zk_X2_rowsWithin, List.forall_mem_cons.mpr ⟨zk_X2_countEndings, List.forall_mem_cons.mpr ⟨zk_X2_endingsAt, List.forall_mem_cons.mpr ⟨zk_X3_isPart, fun _ h => absurd h List.not_mem_nil⟩⟩⟩⟩⟩⟩⟩⟩⟩⟩⟩⟩⟩⟩⟩⟩
theorem zk_l2 : ∀ M ∈ zm_msl2, zm_mok zm_ms M := List.forall_mem_cons.mpr ⟨zk_X3_partOf, List.forall_mem_cons.mpr ⟨zk_X3_commonDivisor, List.forall_mem_cons.mpr ⟨zk_X4_share, List.forall_mem_cons.mpr ⟨zk_X4_chancePart, List.forall_mem_cons.mpr ⟨zk_X4_beats, List.forall_mem_cons.mpr ⟨zk_X4_bestAnswer, List.forall_mem_cons.mpr ⟨zk_X5_wordAt, List.forall_mem_cons.mpr ⟨zk_X5_find, List.forall_mem_cons.mpr ⟨zk_X5_closes, List.forall_mem_cons.mpr ⟨zk_X5_isBeaten, List.forall_mem_cons.mpr ⟨zk_X6_copyFrom, List.forall_mem_cons.mpr ⟨zk_X6_hasPlace, List.forall_mem_cons.mpr ⟨zk_X6_letterAt, List.forall_mem_cons.mpr ⟨zk_X6_append, List.forall_mem_cons.mpr ⟨zk_X6_dropLast, List.forall_mem_cons.mpr ⟨zk_X6_putOneOn, fun _ h => absurd h List.not_mem_nil⟩⟩⟩⟩⟩⟩⟩⟩⟩⟩⟩⟩⟩⟩⟩⟩
theorem zk_l3 : ∀ M ∈ zm_msl3, zm_mok zm_ms M := List.forall_mem_cons.mpr ⟨zk_X6_endBits, List.forall_mem_cons.mpr ⟨zk_X6_firstEnd, List.forall_mem_cons.mpr ⟨zk_X6_matched, List.forall_mem_cons.mpr ⟨zk_X7_append, List.forall_mem_cons.mpr ⟨zk_X7_read, List.forall_mem_cons.mpr ⟨zk_X7_goesOn, List.forall_mem_cons.mpr ⟨zk_X7_addLetters, List.forall_mem_cons.mpr ⟨zk_X7_endClause, List.forall_mem_cons.mpr ⟨zk_X8_tens, List.forall_mem_cons.mpr ⟨zk_X8_length, List.forall_mem_cons.mpr ⟨zk_X8_isWord, List.forall_mem_cons.mpr ⟨zk_X8_letterAt, List.forall_mem_cons.mpr ⟨zk_X8_firstLetters, List.forall_mem_cons.mpr ⟨zk_X8_lastLetters, List.forall_mem_cons.mpr ⟨zk_X8_grown, List.forall_mem_cons.mpr ⟨zk_X8_endsWith, fun _ h => absurd h List.not_mem_nil⟩⟩⟩⟩⟩⟩⟩⟩⟩⟩⟩⟩⟩⟩⟩⟩
theorem zk_l4 : ∀ M ∈ zm_msl4, zm_mok zm_ms M := List.forall_mem_cons.mpr ⟨zk_X8_overlapBits, List.forall_mem_cons.mpr ⟨zk_X8_numberOn, List.forall_mem_cons.mpr ⟨zk_X8_standsIn, List.forall_mem_cons.mpr ⟨zk_X8_clash, List.forall_mem_cons.mpr ⟨zk_X8_oneOn, List.forall_mem_cons.mpr ⟨zk_X8_turned, List.forall_mem_cons.mpr ⟨zk_X8_shifted, List.forall_mem_cons.mpr ⟨zk_X8_doubled, List.forall_mem_cons.mpr ⟨zk_X8_answering, List.forall_mem_cons.mpr ⟨zk_X8_ledBy, List.forall_mem_cons.mpr ⟨zk_X8_least, List.forall_mem_cons.mpr ⟨zk_X8_following, List.forall_mem_cons.mpr ⟨zk_X9_sides, List.forall_mem_cons.mpr ⟨zk_X9_feed, List.forall_mem_cons.mpr ⟨zk_X9_words, List.forall_mem_cons.mpr ⟨zk_X9_becomes, fun _ h => absurd h List.not_mem_nil⟩⟩⟩⟩⟩⟩⟩⟩⟩⟩⟩⟩⟩⟩⟩⟩
theorem zk_l5 : ∀ M ∈ zm_msl5, zm_mok zm_ms M := List.forall_mem_cons.mpr ⟨zk_X9_of, List.forall_mem_cons.mpr ⟨zk_X9_overlaps, List.forall_mem_cons.mpr ⟨zk_X9_number, List.forall_mem_cons.mpr ⟨zk_X9_isIn, List.forall_mem_cons.mpr ⟨zk_X9_chance, List.forall_mem_cons.mpr ⟨zk_X9_answered, List.forall_mem_cons.mpr ⟨zk_X9_trail, List.forall_mem_cons.mpr ⟨zk_X9_ring, List.forall_mem_cons.mpr ⟨zk_X9_field, List.forall_mem_cons.mpr ⟨zk_X9_mean, List.forall_mem_cons.mpr ⟨zk_X9_within, List.forall_mem_cons.mpr ⟨zk_X9_cast, List.forall_mem_cons.mpr ⟨zk_X9_casts, List.forall_mem_cons.mpr ⟨zk_X9_wipe, List.forall_mem_cons.mpr ⟨zk_X9_strip, List.forall_mem_cons.mpr ⟨zk_X9_ends, fun _ h => absurd h List.not_mem_nil⟩⟩⟩⟩⟩⟩⟩⟩⟩⟩⟩⟩⟩⟩⟩⟩
theorem zk_l6 : ∀ M ∈ zm_msl6, zm_mok zm_ms M := List.forall_mem_cons.mpr ⟨zk_X9_seen, List.forall_mem_cons.mpr ⟨zk_X9_who, List.forall_mem_cons.mpr ⟨zk_X9_were, List.forall_mem_cons.mpr ⟨zk_X9_player, List.forall_mem_cons.mpr ⟨zk_X9_playerOf, List.forall_mem_cons.mpr ⟨zk_X9_pick, List.forall_mem_cons.mpr ⟨zk_X9_match, List.forall_mem_cons.mpr ⟨zk_X9_duel, List.forall_mem_cons.mpr ⟨zk_X9_odds, List.forall_mem_cons.mpr ⟨zk_X9_plan, List.forall_mem_cons.mpr ⟨zk_X9_behind, List.forall_mem_cons.mpr ⟨zk_X9_write, List.forall_mem_cons.mpr ⟨zk_X9_paper, List.forall_mem_cons.mpr ⟨zk_X9_judge, List.forall_mem_cons.mpr ⟨zk_X9_list, List.forall_mem_cons.mpr ⟨zk_X9_put, fun _ h => absurd h List.not_mem_nil⟩⟩⟩⟩⟩⟩⟩⟩⟩⟩⟩⟩⟩⟩⟩⟩
theorem zk_l7 : ∀ M ∈ zm_msl7, zm_mok zm_ms M := List.forall_mem_cons.mpr ⟨zk_X9_get, List.forall_mem_cons.mpr ⟨zk_X9_image, List.forall_mem_cons.mpr ⟨zk_X9_undo, List.forall_mem_cons.mpr ⟨zk_X9_count, List.forall_mem_cons.mpr ⟨zk_X9_trailLength, List.forall_mem_cons.mpr ⟨zk_X9_isRacingField, List.forall_mem_cons.mpr ⟨zk_X9_placeInSet, List.forall_mem_cons.mpr ⟨zk_X9_mostOfRow, List.forall_mem_cons.mpr ⟨zk_X9_writeStrip, List.forall_mem_cons.mpr ⟨zk_X9_writeWord, List.forall_mem_cons.mpr ⟨zk_X9_signOf, List.forall_mem_cons.mpr ⟨zk_X9_hasList, List.forall_mem_cons.mpr ⟨zk_X9_hasListPlace, List.forall_mem_cons.mpr ⟨zk_X10_in, List.forall_mem_cons.mpr ⟨zk_X10_isWord, List.forall_mem_cons.mpr ⟨zk_X10_isPart, fun _ h => absurd h List.not_mem_nil⟩⟩⟩⟩⟩⟩⟩⟩⟩⟩⟩⟩⟩⟩⟩⟩
theorem zk_l8 : ∀ M ∈ zm_msl8, zm_mok zm_ms M := List.forall_mem_cons.mpr ⟨zk_X10_isList, List.forall_mem_cons.mpr ⟨zk_X10_ten, List.forall_mem_cons.mpr ⟨zk_X10_sizeOf, List.forall_mem_cons.mpr ⟨zk_X10_letterOf, List.forall_mem_cons.mpr ⟨zk_X10_hasThird, List.forall_mem_cons.mpr ⟨zk_X10_isSuch, List.forall_mem_cons.mpr ⟨zk_X10_on, List.forall_mem_cons.mpr ⟨zk_X10_overlap, List.forall_mem_cons.mpr ⟨zk_X10_numberOf, List.forall_mem_cons.mpr ⟨zk_X10_stands, List.forall_mem_cons.mpr ⟨zk_X10_areApart, List.forall_mem_cons.mpr ⟨zk_X10_weight, List.forall_mem_cons.mpr ⟨zk_X10_beats, List.forall_mem_cons.mpr ⟨zk_X10_bestAnswer, List.forall_mem_cons.mpr ⟨zk_X10_lowest, List.forall_mem_cons.mpr ⟨zk_X10_chanceOf, fun _ h => absurd h List.not_mem_nil⟩⟩⟩⟩⟩⟩⟩⟩⟩⟩⟩⟩⟩⟩⟩⟩
theorem zk_l9 : ∀ M ∈ zm_msl9, zm_mok zm_ms M := List.forall_mem_cons.mpr ⟨zk_X10_sides, List.forall_mem_cons.mpr ⟨zk_X10_feed, List.forall_mem_cons.mpr ⟨zk_X10_sign, List.forall_mem_cons.mpr ⟨zk_X10_reads, List.forall_mem_cons.mpr ⟨zk_X10_words, List.forall_mem_cons.mpr ⟨zk_X10_becomes, List.forall_mem_cons.mpr ⟨zk_X10_of, List.forall_mem_cons.mpr ⟨zk_X10_overlaps, List.forall_mem_cons.mpr ⟨zk_X10_number, List.forall_mem_cons.mpr ⟨zk_X10_isIn, List.forall_mem_cons.mpr ⟨zk_X10_chance, List.forall_mem_cons.mpr ⟨zk_X10_answered, List.forall_mem_cons.mpr ⟨zk_X10_trail, List.forall_mem_cons.mpr ⟨zk_X10_rings, List.forall_mem_cons.mpr ⟨zk_X10_ring, List.forall_mem_cons.mpr ⟨zk_X10_sets, fun _ h => absurd h List.not_mem_nil⟩⟩⟩⟩⟩⟩⟩⟩⟩⟩⟩⟩⟩⟩⟩⟩
theorem zk_l10 : ∀ M ∈ zm_msl10, zm_mok zm_ms M := List.forall_mem_cons.mpr ⟨zk_X10_isField, List.forall_mem_cons.mpr ⟨zk_X10_square, List.forall_mem_cons.mpr ⟨zk_X10_fills, List.forall_mem_cons.mpr ⟨zk_X10_solved, List.forall_mem_cons.mpr ⟨zk_X10_field, List.forall_mem_cons.mpr ⟨zk_X10_mean, List.forall_mem_cons.mpr ⟨zk_X10_fourOf, List.forall_mem_cons.mpr ⟨zk_X10_within, List.forall_mem_cons.mpr ⟨zk_X10_endsBy, List.forall_mem_cons.mpr ⟨zk_X10_cast, List.forall_mem_cons.mpr ⟨zk_X10_drawn, List.forall_mem_cons.mpr ⟨zk_X10_casts, List.forall_mem_cons.mpr ⟨zk_X10_wipe, List.forall_mem_cons.mpr ⟨zk_X10_strip, List.forall_mem_cons.mpr ⟨zk_X10_endsAt, List.forall_mem_cons.mpr ⟨zk_X10_ends, fun _ h => absurd h List.not_mem_nil⟩⟩⟩⟩⟩⟩⟩⟩⟩⟩⟩⟩⟩⟩⟩⟩
theorem zk_l11 : ∀ M ∈ zm_msl11, zm_mok zm_ms M := List.forall_mem_cons.mpr ⟨zk_X10_firstOf, List.forall_mem_cons.mpr ⟨zk_X10_matched, List.forall_mem_cons.mpr ⟨zk_X10_seen, List.forall_mem_cons.mpr ⟨zk_X10_who, List.forall_mem_cons.mpr ⟨zk_X10_were, List.forall_mem_cons.mpr ⟨zk_X10_player, List.forall_mem_cons.mpr ⟨zk_X10_isPlayer, List.forall_mem_cons.mpr ⟨zk_X10_turned, List.forall_mem_cons.mpr ⟨zk_X10_shifted, List.forall_mem_cons.mpr ⟨zk_X10_ahead, List.forall_mem_cons.mpr ⟨zk_X10_picks, List.forall_mem_cons.mpr ⟨zk_X10_firstPick, List.forall_mem_cons.mpr ⟨zk_X10_wins, List.forall_mem_cons.mpr ⟨zk_X10_playerOf, List.forall_mem_cons.mpr ⟨zk_X10_areTwo, List.forall_mem_cons.mpr ⟨zk_X10_pick, fun _ h => absurd h List.not_mem_nil⟩⟩⟩⟩⟩⟩⟩⟩⟩⟩⟩⟩⟩⟩⟩⟩
theorem zk_l12 : ∀ M ∈ zm_msl12, zm_mok zm_ms M := List.forall_mem_cons.mpr ⟨zk_X10_match, List.forall_mem_cons.mpr ⟨zk_X10_duels, List.forall_mem_cons.mpr ⟨zk_X10_duel, List.forall_mem_cons.mpr ⟨zk_X10_odds, List.forall_mem_cons.mpr ⟨zk_X10_plan, List.forall_mem_cons.mpr ⟨zk_X10_does, List.forall_mem_cons.mpr ⟨zk_X10_behind, List.forall_mem_cons.mpr ⟨zk_X10_write, List.forall_mem_cons.mpr ⟨zk_X10_paper, List.forall_mem_cons.mpr ⟨zk_X10_judge, List.forall_mem_cons.mpr ⟨zk_X10_list, List.forall_mem_cons.mpr ⟨zk_X10_put, List.forall_mem_cons.mpr ⟨zk_X10_get, List.forall_mem_cons.mpr ⟨zk_X10_image, List.forall_mem_cons.mpr ⟨zk_X10_undo, List.forall_mem_cons.mpr ⟨zk_X10_count, fun _ h => absurd h List.not_mem_nil⟩⟩⟩⟩⟩⟩⟩⟩⟩⟩⟩⟩⟩⟩⟩⟩
theorem zk_l13 : ∀ M ∈ zm_msl13, zm_mok zm_ms M := List.forall_mem_cons.mpr ⟨zk_J6_bitCount_0f7a4, List.forall_mem_cons.mpr ⟨zk_J13_bitCount_95d88, List.forall_mem_cons.mpr ⟨zk_J7_fill_53178, fun _ h => absurd h List.not_mem_nil⟩⟩⟩
theorem zk_all : ∀ l ∈ zm_msl, ∀ M ∈ l, zm_mok zm_ms M := List.forall_mem_cons.mpr ⟨zk_l0, List.forall_mem_cons.mpr ⟨zk_l1, List.forall_mem_cons.mpr ⟨zk_l2, List.forall_mem_cons.mpr ⟨zk_l3, List.forall_mem_cons.mpr ⟨zk_l4, List.forall_mem_cons.mpr ⟨zk_l5, List.forall_mem_cons.mpr ⟨zk_l6, List.forall_mem_cons.mpr ⟨zk_l7, List.forall_mem_cons.mpr ⟨zk_l8, List.forall_mem_cons.mpr ⟨zk_l9, List.forall_mem_cons.mpr ⟨zk_l10, List.forall_mem_cons.mpr ⟨zk_l11, List.forall_mem_cons.mpr ⟨zk_l12, List.forall_mem_cons.mpr ⟨zk_l13, fun _ h => absurd h List.not_mem_nil⟩⟩⟩⟩⟩⟩⟩⟩⟩⟩⟩⟩⟩⟩
theorem zk_ms : ∀ (μ : Nat) (M : zm_M), zm_ms μ = some M → zm_mok zm_ms M := by
  intro μ M h
  unfold zm_ms at h
  split at h
  · next l hl => exact zk_all l (List.mem_of_getElem? hl) M (List.mem_of_getElem? h)
  · cases h
end
section
/-! printed by wip/whole/links.py: the law's table is its code's -/
set_option maxRecDepth 100000 in
theorem zk_law_0 : (((zt_L_law.drop 0).take 8).all fun l => l.all (zm_eb 16 cL_law true (some .boolean))) = true := by decide +kernel
set_option maxRecDepth 100000 in
theorem zk_law_1 : (((zt_L_law.drop 8).take 8).all fun l => l.all (zm_eb 16 cL_law true (some .boolean))) = true := by decide +kernel
set_option maxRecDepth 100000 in
theorem zk_law_2 : (((zt_L_law.drop 16).take 8).all fun l => l.all (zm_eb 16 cL_law true (some .boolean))) = true := by decide +kernel
set_option maxRecDepth 100000 in
theorem zk_law_3 : (((zt_L_law.drop 24).take 8).all fun l => l.all (zm_eb 16 cL_law true (some .boolean))) = true := by decide +kernel
end
section
/-! printed by wip/whole/links.py: the law's table is its code's -/
set_option maxRecDepth 100000 in
theorem zk_law_4 : (((zt_L_law.drop 32).take 8).all fun l => l.all (zm_eb 16 cL_law true (some .boolean))) = true := by decide +kernel
set_option maxRecDepth 100000 in
theorem zk_law_5 : (((zt_L_law.drop 40).take 8).all fun l => l.all (zm_eb 16 cL_law true (some .boolean))) = true := by decide +kernel
set_option maxRecDepth 100000 in
theorem zk_law_6 : (((zt_L_law.drop 48).take 8).all fun l => l.all (zm_eb 16 cL_law true (some .boolean))) = true := by decide +kernel
set_option maxRecDepth 100000 in
theorem zk_law_7 : (((zt_L_law.drop 56).take 8).all fun l => l.all (zm_eb 16 cL_law true (some .boolean))) = true := by decide +kernel
end
section
/-! printed by wip/whole/links.py: the law's table is its code's -/
set_option maxRecDepth 100000 in
theorem zk_law_8 : (((zt_L_law.drop 64).take 8).all fun l => l.all (zm_eb 16 cL_law true (some .boolean))) = true := by decide +kernel
set_option maxRecDepth 100000 in
theorem zk_law_9 : (((zt_L_law.drop 72).take 8).all fun l => l.all (zm_eb 16 cL_law true (some .boolean))) = true := by decide +kernel
set_option maxRecDepth 100000 in
theorem zk_law_10 : (((zt_L_law.drop 80).take 8).all fun l => l.all (zm_eb 16 cL_law true (some .boolean))) = true := by decide +kernel
set_option maxRecDepth 100000 in
theorem zk_law_11 : (((zt_L_law.drop 88).take 3).all fun l => l.all (zm_eb 16 cL_law true (some .boolean))) = true := by decide +kernel
theorem zk_law_sp : zt_L_law = (zt_L_law.drop 0).take 8 ++ ((zt_L_law.drop 8).take 8 ++ ((zt_L_law.drop 16).take 8 ++ ((zt_L_law.drop 24).take 8 ++ ((zt_L_law.drop 32).take 8 ++ ((zt_L_law.drop 40).take 8 ++ ((zt_L_law.drop 48).take 8 ++ ((zt_L_law.drop 56).take 8 ++ ((zt_L_law.drop 64).take 8 ++ ((zt_L_law.drop 72).take 8 ++ ((zt_L_law.drop 80).take 8 ++ ((zt_L_law.drop 88).take 3))))))))))) := by rfl
theorem zk_law_t : zm_tb 16 cL_law true (some .boolean) zt_L_law = true := by
  unfold zm_tb
  rw [zk_law_sp]
  simp only [List.all_append, Bool.and_eq_true]
  exact ⟨zk_law_0, zk_law_1, zk_law_2, zk_law_3, zk_law_4, zk_law_5, zk_law_6, zk_law_7, zk_law_8, zk_law_9, zk_law_10, zk_law_11⟩
theorem zk_law : zm_tok zm_ms RL cL_law (some .boolean) true zt_L_law := zm_tb_ok rfl zk_law_t
end
