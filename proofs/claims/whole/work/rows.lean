section
-- ===== PART A: goes FIRST, ahead of the names: the tables' words, and 'selects' of the private methods out of them =====
/-- a private method of a class that the tables say can be made, by its rows of tables_1 -/
def lw_okq (q : MethodName × Nat) : Prop := (q.1.cls ≠ "java/lang/invoke/MethodHandle" ∧ q.1.cls ≠ "java/lang/invoke/VarHandle") ∧ Cond.instantiable q.1.cls q.2 ∈ tables_1 ∧ Cond.privateMethod q.1 ∈ tables_1 ∧ Cond.instanceMethod q.1 ∈ tables_1
theorem lw_p0 : lw_okq (⟨"WordRace$Tape", "goesOn", "(II)Z"⟩, 6) := ⟨⟨by decide +kernel, by decide +kernel⟩, List.mem_of_getElem? (i := 92) (by decide +kernel), List.mem_of_getElem? (i := 275) (by decide +kernel), List.mem_of_getElem? (i := 276) (by decide +kernel)⟩
theorem lw_p1 : lw_okq (⟨"WordRace$Tape", "endClause", "()Z"⟩, 6) := ⟨⟨by decide +kernel, by decide +kernel⟩, List.mem_of_getElem? (i := 92) (by decide +kernel), List.mem_of_getElem? (i := 279) (by decide +kernel), List.mem_of_getElem? (i := 280) (by decide +kernel)⟩
theorem lw_p2 : lw_okq (⟨"WordRace$Tape", "addLetters", "(II)Z"⟩, 6) := ⟨⟨by decide +kernel, by decide +kernel⟩, List.mem_of_getElem? (i := 92) (by decide +kernel), List.mem_of_getElem? (i := 283) (by decide +kernel), List.mem_of_getElem? (i := 284) (by decide +kernel)⟩
theorem lw_p3 : lw_okq (⟨"WordRace", "trailLength", "(IZ)I"⟩, 13) := ⟨⟨by decide +kernel, by decide +kernel⟩, List.mem_of_getElem? (i := 18) (by decide +kernel), List.mem_of_getElem? (i := 374) (by decide +kernel), List.mem_of_getElem? (i := 375) (by decide +kernel)⟩
theorem lw_p4 : lw_okq (⟨"WordRace$Ring", "isBeaten", "(II)Z"⟩, 2) := ⟨⟨by decide +kernel, by decide +kernel⟩, List.mem_of_getElem? (i := 150) (by decide +kernel), List.mem_of_getElem? (i := 394) (by decide +kernel), List.mem_of_getElem? (i := 395) (by decide +kernel)⟩
theorem lw_p5 : lw_okq (⟨"WordRace", "isRacingField", "(I)Z"⟩, 13) := ⟨⟨by decide +kernel, by decide +kernel⟩, List.mem_of_getElem? (i := 18) (by decide +kernel), List.mem_of_getElem? (i := 406) (by decide +kernel), List.mem_of_getElem? (i := 407) (by decide +kernel)⟩
theorem lw_p6 : lw_okq (⟨"WordRace$Field", "setApart", "()V"⟩, 6) := ⟨⟨by decide +kernel, by decide +kernel⟩, List.mem_of_getElem? (i := 124) (by decide +kernel), List.mem_of_getElem? (i := 443) (by decide +kernel), List.mem_of_getElem? (i := 444) (by decide +kernel)⟩
theorem lw_p7 : lw_okq (⟨"WordRace$Field", "weight", "(I)J"⟩, 6) := ⟨⟨by decide +kernel, by decide +kernel⟩, List.mem_of_getElem? (i := 124) (by decide +kernel), List.mem_of_getElem? (i := 448) (by decide +kernel), List.mem_of_getElem? (i := 449) (by decide +kernel)⟩
theorem lw_p8 : lw_okq (⟨"WordRace$Field", "wholeWeight", "()J"⟩, 6) := ⟨⟨by decide +kernel, by decide +kernel⟩, List.mem_of_getElem? (i := 124) (by decide +kernel), List.mem_of_getElem? (i := 455) (by decide +kernel), List.mem_of_getElem? (i := 456) (by decide +kernel)⟩
theorem lw_p9 : lw_okq (⟨"WordRace$Field", "countEndings", "(I)V"⟩, 6) := ⟨⟨by decide +kernel, by decide +kernel⟩, List.mem_of_getElem? (i := 124) (by decide +kernel), List.mem_of_getElem? (i := 476) (by decide +kernel), List.mem_of_getElem? (i := 477) (by decide +kernel)⟩
theorem lw_p10 : lw_okq (⟨"WordRace$Field", "endingsAt", "(II)I"⟩, 6) := ⟨⟨by decide +kernel, by decide +kernel⟩, List.mem_of_getElem? (i := 124) (by decide +kernel), List.mem_of_getElem? (i := 480) (by decide +kernel), List.mem_of_getElem? (i := 481) (by decide +kernel)⟩
theorem lw_p11 : lw_okq (⟨"WordRace", "writeStrip", "()I"⟩, 13) := ⟨⟨by decide +kernel, by decide +kernel⟩, List.mem_of_getElem? (i := 18) (by decide +kernel), List.mem_of_getElem? (i := 697) (by decide +kernel), List.mem_of_getElem? (i := 698) (by decide +kernel)⟩
theorem lw_p12 : lw_okq (⟨"WordRace", "writeWord", "(I)I"⟩, 13) := ⟨⟨by decide +kernel, by decide +kernel⟩, List.mem_of_getElem? (i := 18) (by decide +kernel), List.mem_of_getElem? (i := 704) (by decide +kernel), List.mem_of_getElem? (i := 705) (by decide +kernel)⟩
theorem lw_p13 : lw_okq (⟨"WordRace", "hasListPlace", "(II)Z"⟩, 13) := ⟨⟨by decide +kernel, by decide +kernel⟩, List.mem_of_getElem? (i := 18) (by decide +kernel), List.mem_of_getElem? (i := 728) (by decide +kernel), List.mem_of_getElem? (i := 729) (by decide +kernel)⟩
theorem lw_p14 : lw_okq (⟨"WordRaceModel", "reads", "()I"⟩, 29) := ⟨⟨by decide +kernel, by decide +kernel⟩, List.mem_of_getElem? (i := 754) (by decide +kernel), List.mem_of_getElem? (i := 867) (by decide +kernel), List.mem_of_getElem? (i := 868) (by decide +kernel)⟩
theorem lw_p15 : lw_okq (⟨"WordRaceModel", "sign", "(I)I"⟩, 29) := ⟨⟨by decide +kernel, by decide +kernel⟩, List.mem_of_getElem? (i := 754) (by decide +kernel), List.mem_of_getElem? (i := 871) (by decide +kernel), List.mem_of_getElem? (i := 872) (by decide +kernel)⟩
def lw_privs_1 : List (MethodName × Nat) := [(⟨"WordRace$Tape", "goesOn", "(II)Z"⟩, 6), (⟨"WordRace$Tape", "endClause", "()Z"⟩, 6), (⟨"WordRace$Tape", "addLetters", "(II)Z"⟩, 6), (⟨"WordRace", "trailLength", "(IZ)I"⟩, 13), (⟨"WordRace$Ring", "isBeaten", "(II)Z"⟩, 2), (⟨"WordRace", "isRacingField", "(I)Z"⟩, 13), (⟨"WordRace$Field", "setApart", "()V"⟩, 6), (⟨"WordRace$Field", "weight", "(I)J"⟩, 6), (⟨"WordRace$Field", "wholeWeight", "()J"⟩, 6), (⟨"WordRace$Field", "countEndings", "(I)V"⟩, 6), (⟨"WordRace$Field", "endingsAt", "(II)I"⟩, 6), (⟨"WordRace", "writeStrip", "()I"⟩, 13), (⟨"WordRace", "writeWord", "(I)I"⟩, 13), (⟨"WordRace", "hasListPlace", "(II)Z"⟩, 13), (⟨"WordRaceModel", "reads", "()I"⟩, 29), (⟨"WordRaceModel", "sign", "(I)I"⟩, 29)]
theorem lw_r1 : ∀ q ∈ lw_privs_1, lw_okq q := List.forall_mem_cons.mpr ⟨lw_p0, List.forall_mem_cons.mpr ⟨lw_p1, List.forall_mem_cons.mpr ⟨lw_p2, List.forall_mem_cons.mpr ⟨lw_p3, List.forall_mem_cons.mpr ⟨lw_p4, List.forall_mem_cons.mpr ⟨lw_p5, List.forall_mem_cons.mpr ⟨lw_p6, List.forall_mem_cons.mpr ⟨lw_p7, List.forall_mem_cons.mpr ⟨lw_p8, List.forall_mem_cons.mpr ⟨lw_p9, List.forall_mem_cons.mpr ⟨lw_p10, List.forall_mem_cons.mpr ⟨lw_p11, List.forall_mem_cons.mpr ⟨lw_p12, List.forall_mem_cons.mpr ⟨lw_p13, List.forall_mem_cons.mpr ⟨lw_p14, List.forall_mem_cons.mpr ⟨lw_p15, fun _ h => absurd h List.not_mem_nil⟩⟩⟩⟩⟩⟩⟩⟩⟩⟩⟩⟩⟩⟩⟩⟩
theorem lw_p16 : lw_okq (⟨"WordRaceModel", "isWord", "(I)Z"⟩, 29) := ⟨⟨by decide +kernel, by decide +kernel⟩, List.mem_of_getElem? (i := 754) (by decide +kernel), List.mem_of_getElem? (i := 879) (by decide +kernel), List.mem_of_getElem? (i := 880) (by decide +kernel)⟩
theorem lw_p17 : lw_okq (⟨"WordRaceModel", "isSuch", "(I)Z"⟩, 29) := ⟨⟨by decide +kernel, by decide +kernel⟩, List.mem_of_getElem? (i := 754) (by decide +kernel), List.mem_of_getElem? (i := 883) (by decide +kernel), List.mem_of_getElem? (i := 884) (by decide +kernel)⟩
theorem lw_p18 : lw_okq (⟨"WordRaceModel", "numberOf", "(II)I"⟩, 29) := ⟨⟨by decide +kernel, by decide +kernel⟩, List.mem_of_getElem? (i := 754) (by decide +kernel), List.mem_of_getElem? (i := 894) (by decide +kernel), List.mem_of_getElem? (i := 895) (by decide +kernel)⟩
theorem lw_p19 : lw_okq (⟨"WordRaceModel", "bestAnswer", "(I)I"⟩, 29) := ⟨⟨by decide +kernel, by decide +kernel⟩, List.mem_of_getElem? (i := 754) (by decide +kernel), List.mem_of_getElem? (i := 905) (by decide +kernel), List.mem_of_getElem? (i := 906) (by decide +kernel)⟩
theorem lw_p20 : lw_okq (⟨"WordRaceModel", "weight", "(II)I"⟩, 29) := ⟨⟨by decide +kernel, by decide +kernel⟩, List.mem_of_getElem? (i := 754) (by decide +kernel), List.mem_of_getElem? (i := 909) (by decide +kernel), List.mem_of_getElem? (i := 910) (by decide +kernel)⟩
theorem lw_p21 : lw_okq (⟨"WordRaceModel", "chanceOf", "(III)J"⟩, 29) := ⟨⟨by decide +kernel, by decide +kernel⟩, List.mem_of_getElem? (i := 754) (by decide +kernel), List.mem_of_getElem? (i := 939) (by decide +kernel), List.mem_of_getElem? (i := 940) (by decide +kernel)⟩
theorem lw_p22 : lw_okq (⟨"WordRaceModel", "rings", "(II)Z"⟩, 29) := ⟨⟨by decide +kernel, by decide +kernel⟩, List.mem_of_getElem? (i := 754) (by decide +kernel), List.mem_of_getElem? (i := 958) (by decide +kernel), List.mem_of_getElem? (i := 959) (by decide +kernel)⟩
theorem lw_p23 : lw_okq (⟨"WordRaceModel", "beats", "(II)Z"⟩, 29) := ⟨⟨by decide +kernel, by decide +kernel⟩, List.mem_of_getElem? (i := 754) (by decide +kernel), List.mem_of_getElem? (i := 962) (by decide +kernel), List.mem_of_getElem? (i := 963) (by decide +kernel)⟩
theorem lw_p24 : lw_okq (⟨"WordRaceModel", "sets", "(I)Z"⟩, 29) := ⟨⟨by decide +kernel, by decide +kernel⟩, List.mem_of_getElem? (i := 754) (by decide +kernel), List.mem_of_getElem? (i := 970) (by decide +kernel), List.mem_of_getElem? (i := 971) (by decide +kernel)⟩
theorem lw_p25 : lw_okq (⟨"WordRaceModel", "isField", "()Z"⟩, 29) := ⟨⟨by decide +kernel, by decide +kernel⟩, List.mem_of_getElem? (i := 754) (by decide +kernel), List.mem_of_getElem? (i := 975) (by decide +kernel), List.mem_of_getElem? (i := 976) (by decide +kernel)⟩
theorem lw_p26 : lw_okq (⟨"WordRaceModel", "solved", "(II)J"⟩, 29) := ⟨⟨by decide +kernel, by decide +kernel⟩, List.mem_of_getElem? (i := 754) (by decide +kernel), List.mem_of_getElem? (i := 979) (by decide +kernel), List.mem_of_getElem? (i := 980) (by decide +kernel)⟩
theorem lw_p27 : lw_okq (⟨"WordRaceModel", "fills", "(I)V"⟩, 29) := ⟨⟨by decide +kernel, by decide +kernel⟩, List.mem_of_getElem? (i := 754) (by decide +kernel), List.mem_of_getElem? (i := 983) (by decide +kernel), List.mem_of_getElem? (i := 984) (by decide +kernel)⟩
theorem lw_p28 : lw_okq (⟨"WordRaceModel", "square", "(III)J"⟩, 29) := ⟨⟨by decide +kernel, by decide +kernel⟩, List.mem_of_getElem? (i := 754) (by decide +kernel), List.mem_of_getElem? (i := 988) (by decide +kernel), List.mem_of_getElem? (i := 989) (by decide +kernel)⟩
theorem lw_p29 : lw_okq (⟨"WordRaceModel", "endsBy", "(I)I"⟩, 29) := ⟨⟨by decide +kernel, by decide +kernel⟩, List.mem_of_getElem? (i := 754) (by decide +kernel), List.mem_of_getElem? (i := 1000) (by decide +kernel), List.mem_of_getElem? (i := 1001) (by decide +kernel)⟩
theorem lw_p30 : lw_okq (⟨"WordRaceModel", "drawn", "(I)I"⟩, 29) := ⟨⟨by decide +kernel, by decide +kernel⟩, List.mem_of_getElem? (i := 754) (by decide +kernel), List.mem_of_getElem? (i := 1019) (by decide +kernel), List.mem_of_getElem? (i := 1020) (by decide +kernel)⟩
theorem lw_p31 : lw_okq (⟨"WordRaceModel", "endsAt", "(II)Z"⟩, 29) := ⟨⟨by decide +kernel, by decide +kernel⟩, List.mem_of_getElem? (i := 754) (by decide +kernel), List.mem_of_getElem? (i := 1035) (by decide +kernel), List.mem_of_getElem? (i := 1036) (by decide +kernel)⟩
def lw_privs_2 : List (MethodName × Nat) := [(⟨"WordRaceModel", "isWord", "(I)Z"⟩, 29), (⟨"WordRaceModel", "isSuch", "(I)Z"⟩, 29), (⟨"WordRaceModel", "numberOf", "(II)I"⟩, 29), (⟨"WordRaceModel", "bestAnswer", "(I)I"⟩, 29), (⟨"WordRaceModel", "weight", "(II)I"⟩, 29), (⟨"WordRaceModel", "chanceOf", "(III)J"⟩, 29), (⟨"WordRaceModel", "rings", "(II)Z"⟩, 29), (⟨"WordRaceModel", "beats", "(II)Z"⟩, 29), (⟨"WordRaceModel", "sets", "(I)Z"⟩, 29), (⟨"WordRaceModel", "isField", "()Z"⟩, 29), (⟨"WordRaceModel", "solved", "(II)J"⟩, 29), (⟨"WordRaceModel", "fills", "(I)V"⟩, 29), (⟨"WordRaceModel", "square", "(III)J"⟩, 29), (⟨"WordRaceModel", "endsBy", "(I)I"⟩, 29), (⟨"WordRaceModel", "drawn", "(I)I"⟩, 29), (⟨"WordRaceModel", "endsAt", "(II)Z"⟩, 29)]
theorem lw_r2 : ∀ q ∈ lw_privs_2, lw_okq q := List.forall_mem_cons.mpr ⟨lw_p16, List.forall_mem_cons.mpr ⟨lw_p17, List.forall_mem_cons.mpr ⟨lw_p18, List.forall_mem_cons.mpr ⟨lw_p19, List.forall_mem_cons.mpr ⟨lw_p20, List.forall_mem_cons.mpr ⟨lw_p21, List.forall_mem_cons.mpr ⟨lw_p22, List.forall_mem_cons.mpr ⟨lw_p23, List.forall_mem_cons.mpr ⟨lw_p24, List.forall_mem_cons.mpr ⟨lw_p25, List.forall_mem_cons.mpr ⟨lw_p26, List.forall_mem_cons.mpr ⟨lw_p27, List.forall_mem_cons.mpr ⟨lw_p28, List.forall_mem_cons.mpr ⟨lw_p29, List.forall_mem_cons.mpr ⟨lw_p30, List.forall_mem_cons.mpr ⟨lw_p31, fun _ h => absurd h List.not_mem_nil⟩⟩⟩⟩⟩⟩⟩⟩⟩⟩⟩⟩⟩⟩⟩⟩
theorem lw_p32 : lw_okq (⟨"WordRaceModel", "firstOf", "(I)I"⟩, 29) := ⟨⟨by decide +kernel, by decide +kernel⟩, List.mem_of_getElem? (i := 754) (by decide +kernel), List.mem_of_getElem? (i := 1043) (by decide +kernel), List.mem_of_getElem? (i := 1044) (by decide +kernel)⟩
theorem lw_p33 : lw_okq (⟨"WordRaceModel", "matched", "(I)I"⟩, 29) := ⟨⟨by decide +kernel, by decide +kernel⟩, List.mem_of_getElem? (i := 754) (by decide +kernel), List.mem_of_getElem? (i := 1049) (by decide +kernel), List.mem_of_getElem? (i := 1050) (by decide +kernel)⟩
theorem lw_p34 : lw_okq (⟨"WordRaceModel", "isPlayer", "(I)Z"⟩, 29) := ⟨⟨by decide +kernel, by decide +kernel⟩, List.mem_of_getElem? (i := 754) (by decide +kernel), List.mem_of_getElem? (i := 1070) (by decide +kernel), List.mem_of_getElem? (i := 1071) (by decide +kernel)⟩
theorem lw_p35 : lw_okq (⟨"WordRaceModel", "wins", "(I)I"⟩, 29) := ⟨⟨by decide +kernel, by decide +kernel⟩, List.mem_of_getElem? (i := 754) (by decide +kernel), List.mem_of_getElem? (i := 1074) (by decide +kernel), List.mem_of_getElem? (i := 1075) (by decide +kernel)⟩
theorem lw_p36 : lw_okq (⟨"WordRaceModel", "firstPick", "(I)I"⟩, 29) := ⟨⟨by decide +kernel, by decide +kernel⟩, List.mem_of_getElem? (i := 754) (by decide +kernel), List.mem_of_getElem? (i := 1078) (by decide +kernel), List.mem_of_getElem? (i := 1079) (by decide +kernel)⟩
theorem lw_p37 : lw_okq (⟨"WordRaceModel", "picks", "(II)I"⟩, 29) := ⟨⟨by decide +kernel, by decide +kernel⟩, List.mem_of_getElem? (i := 754) (by decide +kernel), List.mem_of_getElem? (i := 1082) (by decide +kernel), List.mem_of_getElem? (i := 1083) (by decide +kernel)⟩
theorem lw_p38 : lw_okq (⟨"WordRaceModel", "on", "(I)I"⟩, 29) := ⟨⟨by decide +kernel, by decide +kernel⟩, List.mem_of_getElem? (i := 754) (by decide +kernel), List.mem_of_getElem? (i := 1089) (by decide +kernel), List.mem_of_getElem? (i := 1090) (by decide +kernel)⟩
theorem lw_p39 : lw_okq (⟨"WordRaceModel", "shifted", "(I)I"⟩, 29) := ⟨⟨by decide +kernel, by decide +kernel⟩, List.mem_of_getElem? (i := 754) (by decide +kernel), List.mem_of_getElem? (i := 1096) (by decide +kernel), List.mem_of_getElem? (i := 1097) (by decide +kernel)⟩
theorem lw_p40 : lw_okq (⟨"WordRaceModel", "areTwo", "(II)Z"⟩, 29) := ⟨⟨by decide +kernel, by decide +kernel⟩, List.mem_of_getElem? (i := 754) (by decide +kernel), List.mem_of_getElem? (i := 1104) (by decide +kernel), List.mem_of_getElem? (i := 1105) (by decide +kernel)⟩
theorem lw_p41 : lw_okq (⟨"WordRaceModel", "duels", "(III)I"⟩, 29) := ⟨⟨by decide +kernel, by decide +kernel⟩, List.mem_of_getElem? (i := 754) (by decide +kernel), List.mem_of_getElem? (i := 1116) (by decide +kernel), List.mem_of_getElem? (i := 1117) (by decide +kernel)⟩
theorem lw_p42 : lw_okq (⟨"WordRaceModel", "does", "(II)V"⟩, 29) := ⟨⟨by decide +kernel, by decide +kernel⟩, List.mem_of_getElem? (i := 754) (by decide +kernel), List.mem_of_getElem? (i := 1133) (by decide +kernel), List.mem_of_getElem? (i := 1134) (by decide +kernel)⟩
def lw_privs_3 : List (MethodName × Nat) := [(⟨"WordRaceModel", "firstOf", "(I)I"⟩, 29), (⟨"WordRaceModel", "matched", "(I)I"⟩, 29), (⟨"WordRaceModel", "isPlayer", "(I)Z"⟩, 29), (⟨"WordRaceModel", "wins", "(I)I"⟩, 29), (⟨"WordRaceModel", "firstPick", "(I)I"⟩, 29), (⟨"WordRaceModel", "picks", "(II)I"⟩, 29), (⟨"WordRaceModel", "on", "(I)I"⟩, 29), (⟨"WordRaceModel", "shifted", "(I)I"⟩, 29), (⟨"WordRaceModel", "areTwo", "(II)Z"⟩, 29), (⟨"WordRaceModel", "duels", "(III)I"⟩, 29), (⟨"WordRaceModel", "does", "(II)V"⟩, 29)]
theorem lw_r3 : ∀ q ∈ lw_privs_3, lw_okq q := List.forall_mem_cons.mpr ⟨lw_p32, List.forall_mem_cons.mpr ⟨lw_p33, List.forall_mem_cons.mpr ⟨lw_p34, List.forall_mem_cons.mpr ⟨lw_p35, List.forall_mem_cons.mpr ⟨lw_p36, List.forall_mem_cons.mpr ⟨lw_p37, List.forall_mem_cons.mpr ⟨lw_p38, List.forall_mem_cons.mpr ⟨lw_p39, List.forall_mem_cons.mpr ⟨lw_p40, List.forall_mem_cons.mpr ⟨lw_p41, List.forall_mem_cons.mpr ⟨lw_p42, fun _ h => absurd h List.not_mem_nil⟩⟩⟩⟩⟩⟩⟩⟩⟩⟩⟩
def lw_privs : List (MethodName × Nat) := lw_privs_1 ++ (lw_privs_2 ++ (lw_privs_3))
def lw_tbl : List Cond := k2_sels lw_privs ++ tables_1
theorem lw_privs_ok : ∀ q ∈ lw_privs, lw_okq q := by
  show ∀ q ∈ lw_privs_1 ++ (lw_privs_2 ++ (lw_privs_3)), lw_okq q
  exact List.forall_mem_append.mpr ⟨lw_r1, List.forall_mem_append.mpr ⟨lw_r2, lw_r3⟩⟩
end
section
def RX0 : String := "WordRace$Board"
def TX0 : u_T := fun k => match k with
  | 0 => ("WordRace$Board", "sides", "I", false)
  | 1 => ("WordRace$Board", "numbers", "[I", true)
  | 2 => ("WordRace$Board", "wordCount", "I", false)
  | 3 => ("WordRace$Board", "strip", "LWordRace$Strip;", true)
  | 4 => ("WordRace$Board", "kinds", "[I", true)
  | 5 => ("WordRace$Board", "owned", "[I", true)
  | 6 => ("WordRace$Board", "playerCount", "I", false)
  | 7 => ("WordRace$Board", "rowWhats", "[I", true)
  | 8 => ("WordRace$Board", "rowValues", "[I", true)
  | _ => ("WordRace$Board", "rowCount", "I", false)
def tyX0 : Nat → FieldType := fun k => match k with
  | 0 => .int
  | 1 => .array .int
  | 2 => .int
  | 3 => .object "WordRace$Strip"
  | 4 => .array .int
  | 5 => .array .int
  | 6 => .int
  | 7 => .array .int
  | 8 => .array .int
  | _ => .int
theorem nmX0 : ∀ a, a < 10 → ∀ b, b < 10 → a ≠ b → (TX0 a).2.1 ≠ (TX0 b).2.1 := by decide +kernel
theorem tyX0_ok : ∀ k, k < 10 → parseFieldDescriptor (TX0 k).2.2.1 = some (tyX0 k) := by decide +kernel
abbrev cX0_init : ByteArray := prog_2_method_1_code
def yX0_init : MethodName := ⟨RX0, "<init>", "()V"⟩
abbrev cX0_copyFrom : ByteArray := prog_2_method_2_code
def yX0_copyFrom : MethodName := ⟨RX0, "copyFrom", "(LWordRace$Board;)V"⟩
abbrev cX0_hasWord : ByteArray := prog_2_method_3_code
def yX0_hasWord : MethodName := ⟨RX0, "hasWord", "(I)Z"⟩
abbrev cX0_areTwoWords : ByteArray := prog_2_method_4_code
def yX0_areTwoWords : MethodName := ⟨RX0, "areTwoWords", "(II)Z"⟩
abbrev cX0_wordAt : ByteArray := prog_2_method_5_code
def yX0_wordAt : MethodName := ⟨RX0, "wordAt", "(I)I"⟩
abbrev cX0_addWord : ByteArray := prog_2_method_6_code
def yX0_addWord : MethodName := ⟨RX0, "addWord", "(I)V"⟩
abbrev cX0_hasThirdLetter : ByteArray := prog_2_method_7_code
def yX0_hasThirdLetter : MethodName := ⟨RX0, "hasThirdLetter", "()Z"⟩
abbrev cX0_isSet : ByteArray := prog_2_method_8_code
def yX0_isSet : MethodName := ⟨RX0, "isSet", "(I)Z"⟩
abbrev cX0_isInSet : ByteArray := prog_2_method_9_code
def yX0_isInSet : MethodName := ⟨RX0, "isInSet", "(II)Z"⟩
abbrev cX0_firstOn : ByteArray := prog_2_method_10_code
def yX0_firstOn : MethodName := ⟨RX0, "firstOn", "(LWordRace$Strip;)I"⟩
abbrev cX0_hasPlayer : ByteArray := prog_2_method_11_code
def yX0_hasPlayer : MethodName := ⟨RX0, "hasPlayer", "(I)Z"⟩
abbrev cX0_areTwoPlayers : ByteArray := prog_2_method_12_code
def yX0_areTwoPlayers : MethodName := ⟨RX0, "areTwoPlayers", "(II)Z"⟩
abbrev cX0_addPlayer : ByteArray := prog_2_method_13_code
def yX0_addPlayer : MethodName := ⟨RX0, "addPlayer", "(II)Z"⟩
abbrev cX0_firstPick : ByteArray := prog_2_method_14_code
def yX0_firstPick : MethodName := ⟨RX0, "firstPick", "(I)I"⟩
abbrev cX0_pickAgainst : ByteArray := prog_2_method_15_code
def yX0_pickAgainst : MethodName := ⟨RX0, "pickAgainst", "(II)I"⟩
abbrev cX0_wins : ByteArray := prog_2_method_16_code
def yX0_wins : MethodName := ⟨RX0, "wins", "(I)I"⟩
abbrev cX0_addRow : ByteArray := prog_2_method_17_code
def yX0_addRow : MethodName := ⟨RX0, "addRow", "(II)Z"⟩
abbrev cX0_followPlan : ByteArray := prog_2_method_18_code
def yX0_followPlan : MethodName := ⟨RX0, "followPlan", "(LWordRace$Strip;)V"⟩
def RX1 : String := "WordRace$Duel"
def TX1 : u_T := fun k => match k with
  | 0 => ("WordRace$Duel", "winner", "I", false)
  | _ => ("WordRace$Duel", "throwCount", "I", false)
def tyX1 : Nat → FieldType := fun k => match k with
  | 0 => .int
  | _ => .int
theorem nmX1 : ∀ a, a < 2 → ∀ b, b < 2 → a ≠ b → (TX1 a).2.1 ≠ (TX1 b).2.1 := by decide +kernel
theorem tyX1_ok : ∀ k, k < 2 → parseFieldDescriptor (TX1 k).2.2.1 = some (tyX1 k) := by decide +kernel
abbrev cX1_init : ByteArray := prog_3_method_1_code
def yX1_init : MethodName := ⟨RX1, "<init>", "()V"⟩
abbrev cX1_nextSeed : ByteArray := prog_3_method_2_code
def yX1_nextSeed : MethodName := ⟨RX1, "nextSeed", "(I)I"⟩
abbrev cX1_drawn : ByteArray := prog_3_method_3_code
def yX1_drawn : MethodName := ⟨RX1, "drawn", "(II)I"⟩
abbrev cX1_run : ByteArray := prog_3_method_4_code
def yX1_run : MethodName := ⟨RX1, "run", "(IIII)V"⟩
def RX2 : String := "WordRace$Field"
def TX2 : u_T := fun k => match k with
  | 0 => ("WordRace$Field", "numbers", "[I", true)
  | 1 => ("WordRace$Field", "size", "I", false)
  | 2 => ("WordRace$Field", "sides", "I", false)
  | 3 => ("WordRace$Field", "apart", "[[I", true)
  | 4 => ("WordRace$Field", "endings", "[[I", true)
  | _ => ("WordRace$Field", "open", "[I", true)
def tyX2 : Nat → FieldType := fun k => match k with
  | 0 => .array .int
  | 1 => .int
  | 2 => .int
  | 3 => .array (.array .int)
  | 4 => .array (.array .int)
  | _ => .array .int
theorem nmX2 : ∀ a, a < 6 → ∀ b, b < 6 → a ≠ b → (TX2 a).2.1 ≠ (TX2 b).2.1 := by decide +kernel
theorem tyX2_ok : ∀ k, k < 6 → parseFieldDescriptor (TX2 k).2.2.1 = some (tyX2 k) := by decide +kernel
abbrev cX2_init : ByteArray := prog_4_method_1_code
def yX2_init : MethodName := ⟨RX2, "<init>", "()V"⟩
abbrev cX2_fill : ByteArray := prog_4_method_2_code
def yX2_fill : MethodName := ⟨RX2, "fill", "(LWordRace$Board;I)V"⟩
abbrev cX2_hasOneInAnother : ByteArray := prog_4_method_3_code
def yX2_hasOneInAnother : MethodName := ⟨RX2, "hasOneInAnother", "()Z"⟩
abbrev cX2_chancePart : ByteArray := prog_4_method_4_code
def yX2_chancePart : MethodName := ⟨RX2, "chancePart", "(II)J"⟩
abbrev cX2_meanPart : ByteArray := prog_4_method_5_code
def yX2_meanPart : MethodName := ⟨RX2, "meanPart", "(I)J"⟩
abbrev cX2_setApart : ByteArray := prog_4_method_6_code
def yX2_setApart : MethodName := ⟨RX2, "setApart", "()V"⟩
abbrev cX2_weight : ByteArray := prog_4_method_7_code
def yX2_weight : MethodName := ⟨RX2, "weight", "(I)J"⟩
abbrev cX2_wholeWeight : ByteArray := prog_4_method_8_code
def yX2_wholeWeight : MethodName := ⟨RX2, "wholeWeight", "()J"⟩
abbrev cX2_minor : ByteArray := prog_4_method_9_code
def yX2_minor : MethodName := ⟨RX2, "minor", "([[IIII)J"⟩
abbrev cX2_rowsWithin : ByteArray := prog_4_method_10_code
def yX2_rowsWithin : MethodName := ⟨RX2, "rowsWithin", "(II)I"⟩
abbrev cX2_countEndings : ByteArray := prog_4_method_11_code
def yX2_countEndings : MethodName := ⟨RX2, "countEndings", "(I)V"⟩
abbrev cX2_endingsAt : ByteArray := prog_4_method_12_code
def yX2_endingsAt : MethodName := ⟨RX2, "endingsAt", "(II)I"⟩
def RX3 : String := "WordRace$Fraction"
def TX3 : u_T := fun k => match k with
  | _ => ("", "", "", false)
def tyX3 : Nat → FieldType := fun k => match k with
  | _ => .int
theorem nmX3 : ∀ a, a < 0 → ∀ b, b < 0 → a ≠ b → (TX3 a).2.1 ≠ (TX3 b).2.1 := by decide +kernel
theorem tyX3_ok : ∀ k, k < 0 → parseFieldDescriptor (TX3 k).2.2.1 = some (tyX3 k) := by decide +kernel
abbrev cX3_isPart : ByteArray := prog_5_method_2_code
def yX3_isPart : MethodName := ⟨RX3, "isPart", "(I)Z"⟩
abbrev cX3_partOf : ByteArray := prog_5_method_3_code
def yX3_partOf : MethodName := ⟨RX3, "partOf", "(JJI)J"⟩
abbrev cX3_commonDivisor : ByteArray := prog_5_method_4_code
def yX3_commonDivisor : MethodName := ⟨RX3, "commonDivisor", "(JJ)J"⟩
def RX4 : String := "WordRace$Race"
def TX4 : u_T := fun k => match k with
  | _ => ("", "", "", false)
def tyX4 : Nat → FieldType := fun k => match k with
  | _ => .int
theorem nmX4 : ∀ a, a < 0 → ∀ b, b < 0 → a ≠ b → (TX4 a).2.1 ≠ (TX4 b).2.1 := by decide +kernel
theorem tyX4_ok : ∀ k, k < 0 → parseFieldDescriptor (TX4 k).2.2.1 = some (tyX4 k) := by decide +kernel
abbrev cX4_share : ByteArray := prog_6_method_2_code
def yX4_share : MethodName := ⟨RX4, "share", "(III)I"⟩
abbrev cX4_chancePart : ByteArray := prog_6_method_3_code
def yX4_chancePart : MethodName := ⟨RX4, "chancePart", "(IIII)J"⟩
abbrev cX4_beats : ByteArray := prog_6_method_4_code
def yX4_beats : MethodName := ⟨RX4, "beats", "(III)Z"⟩
abbrev cX4_bestAnswer : ByteArray := prog_6_method_5_code
def yX4_bestAnswer : MethodName := ⟨RX4, "bestAnswer", "(II)I"⟩
def RX5 : String := "WordRace$Ring"
def TX5 : u_T := fun k => match k with
  | 0 => ("WordRace$Ring", "row", "[I", true)
  | _ => ("WordRace$Ring", "beaten", "[I", true)
def tyX5 : Nat → FieldType := fun k => match k with
  | 0 => .array .int
  | _ => .array .int
theorem nmX5 : ∀ a, a < 2 → ∀ b, b < 2 → a ≠ b → (TX5 a).2.1 ≠ (TX5 b).2.1 := by decide +kernel
theorem tyX5_ok : ∀ k, k < 2 → parseFieldDescriptor (TX5 k).2.2.1 = some (tyX5 k) := by decide +kernel
abbrev cX5_init : ByteArray := prog_7_method_1_code
def yX5_init : MethodName := ⟨RX5, "<init>", "()V"⟩
abbrev cX5_wordAt : ByteArray := prog_7_method_2_code
def yX5_wordAt : MethodName := ⟨RX5, "wordAt", "(I)I"⟩
abbrev cX5_find : ByteArray := prog_7_method_3_code
def yX5_find : MethodName := ⟨RX5, "find", "(LWordRace$Board;)I"⟩
abbrev cX5_closes : ByteArray := prog_7_method_4_code
def yX5_closes : MethodName := ⟨RX5, "closes", "(LWordRace$Ring;III)Z"⟩
abbrev cX5_isBeaten : ByteArray := prog_7_method_5_code
def yX5_isBeaten : MethodName := ⟨RX5, "isBeaten", "(II)Z"⟩
def RX6 : String := "WordRace$Strip"
def TX6 : u_T := fun k => match k with
  | 0 => ("WordRace$Strip", "letters", "[I", true)
  | _ => ("WordRace$Strip", "size", "I", false)
def tyX6 : Nat → FieldType := fun k => match k with
  | 0 => .array .int
  | _ => .int
theorem nmX6 : ∀ a, a < 2 → ∀ b, b < 2 → a ≠ b → (TX6 a).2.1 ≠ (TX6 b).2.1 := by decide +kernel
theorem tyX6_ok : ∀ k, k < 2 → parseFieldDescriptor (TX6 k).2.2.1 = some (tyX6 k) := by decide +kernel
abbrev cX6_init : ByteArray := prog_8_method_1_code
def yX6_init : MethodName := ⟨RX6, "<init>", "()V"⟩
abbrev cX6_copyFrom : ByteArray := prog_8_method_2_code
def yX6_copyFrom : MethodName := ⟨RX6, "copyFrom", "(LWordRace$Strip;)V"⟩
abbrev cX6_hasPlace : ByteArray := prog_8_method_3_code
def yX6_hasPlace : MethodName := ⟨RX6, "hasPlace", "(I)Z"⟩
abbrev cX6_letterAt : ByteArray := prog_8_method_4_code
def yX6_letterAt : MethodName := ⟨RX6, "letterAt", "(I)I"⟩
abbrev cX6_append : ByteArray := prog_8_method_5_code
def yX6_append : MethodName := ⟨RX6, "append", "(I)Z"⟩
abbrev cX6_dropLast : ByteArray := prog_8_method_6_code
def yX6_dropLast : MethodName := ⟨RX6, "dropLast", "(I)V"⟩
abbrev cX6_putOneOn : ByteArray := prog_8_method_7_code
def yX6_putOneOn : MethodName := ⟨RX6, "putOneOn", "(I)V"⟩
abbrev cX6_endBits : ByteArray := prog_8_method_8_code
def yX6_endBits : MethodName := ⟨RX6, "endBits", "(I)J"⟩
abbrev cX6_firstEnd : ByteArray := prog_8_method_9_code
def yX6_firstEnd : MethodName := ⟨RX6, "firstEnd", "(I)I"⟩
abbrev cX6_matched : ByteArray := prog_8_method_10_code
def yX6_matched : MethodName := ⟨RX6, "matched", "(I)I"⟩
def RX7 : String := "WordRace$Tape"
def TX7 : u_T := fun k => match k with
  | 0 => ("WordRace$Tape", "bytes", "[I", true)
  | 1 => ("WordRace$Tape", "size", "I", false)
  | 2 => ("WordRace$Tape", "told", "[I", true)
  | 3 => ("WordRace$Tape", "toldCount", "I", false)
  | 4 => ("WordRace$Tape", "clause", "I", false)
  | _ => ("WordRace$Tape", "repeatable", "I", false)
def tyX7 : Nat → FieldType := fun k => match k with
  | 0 => .array .int
  | 1 => .int
  | 2 => .array .int
  | 3 => .int
  | 4 => .int
  | _ => .int
theorem nmX7 : ∀ a, a < 6 → ∀ b, b < 6 → a ≠ b → (TX7 a).2.1 ≠ (TX7 b).2.1 := by decide +kernel
theorem tyX7_ok : ∀ k, k < 6 → parseFieldDescriptor (TX7 k).2.2.1 = some (tyX7 k) := by decide +kernel
abbrev cX7_init : ByteArray := prog_9_method_1_code
def yX7_init : MethodName := ⟨RX7, "<init>", "()V"⟩
abbrev cX7_append : ByteArray := prog_9_method_2_code
def yX7_append : MethodName := ⟨RX7, "append", "(I)Z"⟩
abbrev cX7_read : ByteArray := prog_9_method_3_code
def yX7_read : MethodName := ⟨RX7, "read", "(I)I"⟩
abbrev cX7_goesOn : ByteArray := prog_9_method_4_code
def yX7_goesOn : MethodName := ⟨RX7, "goesOn", "(II)Z"⟩
abbrev cX7_addLetters : ByteArray := prog_9_method_5_code
def yX7_addLetters : MethodName := ⟨RX7, "addLetters", "(II)Z"⟩
abbrev cX7_endClause : ByteArray := prog_9_method_6_code
def yX7_endClause : MethodName := ⟨RX7, "endClause", "()Z"⟩
def RX8 : String := "WordRace$Word"
def TX8 : u_T := fun k => match k with
  | _ => ("", "", "", false)
def tyX8 : Nat → FieldType := fun k => match k with
  | _ => .int
theorem nmX8 : ∀ a, a < 0 → ∀ b, b < 0 → a ≠ b → (TX8 a).2.1 ≠ (TX8 b).2.1 := by decide +kernel
theorem tyX8_ok : ∀ k, k < 0 → parseFieldDescriptor (TX8 k).2.2.1 = some (tyX8 k) := by decide +kernel
abbrev cX8_tens : ByteArray := prog_10_method_2_code
def yX8_tens : MethodName := ⟨RX8, "tens", "(I)I"⟩
abbrev cX8_length : ByteArray := prog_10_method_3_code
def yX8_length : MethodName := ⟨RX8, "length", "(I)I"⟩
abbrev cX8_isWord : ByteArray := prog_10_method_4_code
def yX8_isWord : MethodName := ⟨RX8, "isWord", "(II)Z"⟩
abbrev cX8_letterAt : ByteArray := prog_10_method_5_code
def yX8_letterAt : MethodName := ⟨RX8, "letterAt", "(II)I"⟩
abbrev cX8_firstLetters : ByteArray := prog_10_method_6_code
def yX8_firstLetters : MethodName := ⟨RX8, "firstLetters", "(II)I"⟩
abbrev cX8_lastLetters : ByteArray := prog_10_method_7_code
def yX8_lastLetters : MethodName := ⟨RX8, "lastLetters", "(II)I"⟩
abbrev cX8_grown : ByteArray := prog_10_method_8_code
def yX8_grown : MethodName := ⟨RX8, "grown", "(II)I"⟩
abbrev cX8_endsWith : ByteArray := prog_10_method_9_code
def yX8_endsWith : MethodName := ⟨RX8, "endsWith", "(II)Z"⟩
abbrev cX8_overlapBits : ByteArray := prog_10_method_10_code
def yX8_overlapBits : MethodName := ⟨RX8, "overlapBits", "(II)I"⟩
abbrev cX8_numberOn : ByteArray := prog_10_method_11_code
def yX8_numberOn : MethodName := ⟨RX8, "numberOn", "(III)I"⟩
abbrev cX8_standsIn : ByteArray := prog_10_method_12_code
def yX8_standsIn : MethodName := ⟨RX8, "standsIn", "(II)Z"⟩
abbrev cX8_clash : ByteArray := prog_10_method_13_code
def yX8_clash : MethodName := ⟨RX8, "clash", "(II)Z"⟩
abbrev cX8_oneOn : ByteArray := prog_10_method_14_code
def yX8_oneOn : MethodName := ⟨RX8, "oneOn", "(II)I"⟩
abbrev cX8_turned : ByteArray := prog_10_method_15_code
def yX8_turned : MethodName := ⟨RX8, "turned", "(I)I"⟩
abbrev cX8_shifted : ByteArray := prog_10_method_16_code
def yX8_shifted : MethodName := ⟨RX8, "shifted", "(II)I"⟩
abbrev cX8_doubled : ByteArray := prog_10_method_17_code
def yX8_doubled : MethodName := ⟨RX8, "doubled", "(I)I"⟩
abbrev cX8_answering : ByteArray := prog_10_method_18_code
def yX8_answering : MethodName := ⟨RX8, "answering", "(II)I"⟩
abbrev cX8_ledBy : ByteArray := prog_10_method_19_code
def yX8_ledBy : MethodName := ⟨RX8, "ledBy", "(II)I"⟩
abbrev cX8_least : ByteArray := prog_10_method_20_code
def yX8_least : MethodName := ⟨RX8, "least", "(I)I"⟩
abbrev cX8_following : ByteArray := prog_10_method_21_code
def yX8_following : MethodName := ⟨RX8, "following", "(II)I"⟩
def RX9 : String := "WordRace"
def TX9 : u_T := fun k => match k with
  | 0 => ("WordRace", "now", "LWordRace$Board;", true)
  | 1 => ("WordRace", "kept", "LWordRace$Board;", true)
  | 2 => ("WordRace", "isKept", "Z", false)
  | 3 => ("WordRace", "tape", "LWordRace$Tape;", true)
  | 4 => ("WordRace", "written", "[I", true)
  | 5 => ("WordRace", "writtenSize", "I", false)
  | 6 => ("WordRace", "lists", "[[I", true)
  | 7 => ("WordRace", "listSizes", "[I", true)
  | 8 => ("WordRace", "thought", "LWordRace$Strip;", true)
  | 9 => ("WordRace", "contest", "LWordRace$Field;", true)
  | 10 => ("WordRace", "circle", "LWordRace$Ring;", true)
  | 11 => ("WordRace", "bout", "LWordRace$Duel;", true)
  | _ => ("WordRace", "steps", "[I", true)
def tyX9 : Nat → FieldType := fun k => match k with
  | 0 => .object "WordRace$Board"
  | 1 => .object "WordRace$Board"
  | 2 => .boolean
  | 3 => .object "WordRace$Tape"
  | 4 => .array .int
  | 5 => .int
  | 6 => .array (.array .int)
  | 7 => .array .int
  | 8 => .object "WordRace$Strip"
  | 9 => .object "WordRace$Field"
  | 10 => .object "WordRace$Ring"
  | 11 => .object "WordRace$Duel"
  | _ => .array .int
theorem nmX9 : ∀ a, a < 13 → ∀ b, b < 13 → a ≠ b → (TX9 a).2.1 ≠ (TX9 b).2.1 := by decide +kernel
theorem tyX9_ok : ∀ k, k < 13 → parseFieldDescriptor (TX9 k).2.2.1 = some (tyX9 k) := by decide +kernel
abbrev cX9_init : ByteArray := prog_1_method_1_code
def yX9_init : MethodName := ⟨RX9, "<init>", "()V"⟩
abbrev cX9_sides : ByteArray := prog_1_method_2_code
def yX9_sides : MethodName := ⟨RX9, "sides", "(I)I"⟩
abbrev cX9_feed : ByteArray := prog_1_method_3_code
def yX9_feed : MethodName := ⟨RX9, "feed", "(I)I"⟩
abbrev cX9_words : ByteArray := prog_1_method_4_code
def yX9_words : MethodName := ⟨RX9, "words", "()I"⟩
abbrev cX9_becomes : ByteArray := prog_1_method_5_code
def yX9_becomes : MethodName := ⟨RX9, "becomes", "(II)I"⟩
abbrev cX9_of : ByteArray := prog_1_method_6_code
def yX9_of : MethodName := ⟨RX9, "of", "(II)I"⟩
abbrev cX9_overlaps : ByteArray := prog_1_method_7_code
def yX9_overlaps : MethodName := ⟨RX9, "overlaps", "(II)I"⟩
abbrev cX9_number : ByteArray := prog_1_method_8_code
def yX9_number : MethodName := ⟨RX9, "number", "(II)I"⟩
abbrev cX9_isIn : ByteArray := prog_1_method_9_code
def yX9_isIn : MethodName := ⟨RX9, "isIn", "(II)I"⟩
abbrev cX9_chance : ByteArray := prog_1_method_10_code
def yX9_chance : MethodName := ⟨RX9, "chance", "(III)J"⟩
abbrev cX9_answered : ByteArray := prog_1_method_11_code
def yX9_answered : MethodName := ⟨RX9, "answered", "(II)J"⟩
abbrev cX9_trail : ByteArray := prog_1_method_12_code
def yX9_trail : MethodName := ⟨RX9, "trail", "(II)I"⟩
abbrev cX9_ring : ByteArray := prog_1_method_13_code
def yX9_ring : MethodName := ⟨RX9, "ring", "(I)I"⟩
abbrev cX9_field : ByteArray := prog_1_method_14_code
def yX9_field : MethodName := ⟨RX9, "field", "(III)J"⟩
abbrev cX9_mean : ByteArray := prog_1_method_15_code
def yX9_mean : MethodName := ⟨RX9, "mean", "(II)J"⟩
abbrev cX9_within : ByteArray := prog_1_method_16_code
def yX9_within : MethodName := ⟨RX9, "within", "(III)I"⟩
abbrev cX9_cast : ByteArray := prog_1_method_17_code
def yX9_cast : MethodName := ⟨RX9, "cast", "(I)I"⟩
abbrev cX9_casts : ByteArray := prog_1_method_18_code
def yX9_casts : MethodName := ⟨RX9, "casts", "(II)I"⟩
abbrev cX9_wipe : ByteArray := prog_1_method_19_code
def yX9_wipe : MethodName := ⟨RX9, "wipe", "()I"⟩
abbrev cX9_strip : ByteArray := prog_1_method_20_code
def yX9_strip : MethodName := ⟨RX9, "strip", "(I)I"⟩
abbrev cX9_ends : ByteArray := prog_1_method_21_code
def yX9_ends : MethodName := ⟨RX9, "ends", "(I)J"⟩
abbrev cX9_seen : ByteArray := prog_1_method_22_code
def yX9_seen : MethodName := ⟨RX9, "seen", "(II)I"⟩
abbrev cX9_who : ByteArray := prog_1_method_23_code
def yX9_who : MethodName := ⟨RX9, "who", "()I"⟩
abbrev cX9_were : ByteArray := prog_1_method_24_code
def yX9_were : MethodName := ⟨RX9, "were", "(II)I"⟩
abbrev cX9_player : ByteArray := prog_1_method_25_code
def yX9_player : MethodName := ⟨RX9, "player", "(II)I"⟩
abbrev cX9_playerOf : ByteArray := prog_1_method_26_code
def yX9_playerOf : MethodName := ⟨RX9, "playerOf", "(II)I"⟩
abbrev cX9_pick : ByteArray := prog_1_method_27_code
def yX9_pick : MethodName := ⟨RX9, "pick", "(III)I"⟩
abbrev cX9_match : ByteArray := prog_1_method_28_code
def yX9_match : MethodName := ⟨RX9, "match", "(III)J"⟩
abbrev cX9_duel : ByteArray := prog_1_method_29_code
def yX9_duel : MethodName := ⟨RX9, "duel", "(IIII)I"⟩
abbrev cX9_odds : ByteArray := prog_1_method_30_code
def yX9_odds : MethodName := ⟨RX9, "odds", "(IIIII)J"⟩
abbrev cX9_plan : ByteArray := prog_1_method_31_code
def yX9_plan : MethodName := ⟨RX9, "plan", "(II)I"⟩
abbrev cX9_behind : ByteArray := prog_1_method_32_code
def yX9_behind : MethodName := ⟨RX9, "behind", "(I)I"⟩
abbrev cX9_write : ByteArray := prog_1_method_33_code
def yX9_write : MethodName := ⟨RX9, "write", "(I)I"⟩
abbrev cX9_paper : ByteArray := prog_1_method_34_code
def yX9_paper : MethodName := ⟨RX9, "paper", "(I)I"⟩
abbrev cX9_judge : ByteArray := prog_1_method_35_code
def yX9_judge : MethodName := ⟨RX9, "judge", "(I)I"⟩
abbrev cX9_list : ByteArray := prog_1_method_36_code
def yX9_list : MethodName := ⟨RX9, "list", "(II)I"⟩
abbrev cX9_put : ByteArray := prog_1_method_37_code
def yX9_put : MethodName := ⟨RX9, "put", "(III)I"⟩
abbrev cX9_get : ByteArray := prog_1_method_38_code
def yX9_get : MethodName := ⟨RX9, "get", "(II)J"⟩
abbrev cX9_image : ByteArray := prog_1_method_39_code
def yX9_image : MethodName := ⟨RX9, "image", "()I"⟩
abbrev cX9_undo : ByteArray := prog_1_method_40_code
def yX9_undo : MethodName := ⟨RX9, "undo", "()I"⟩
abbrev cX9_count : ByteArray := prog_1_method_41_code
def yX9_count : MethodName := ⟨RX9, "count", "(I)I"⟩
abbrev cX9_trailLength : ByteArray := prog_1_method_42_code
def yX9_trailLength : MethodName := ⟨RX9, "trailLength", "(IZ)I"⟩
abbrev cX9_isRacingField : ByteArray := prog_1_method_43_code
def yX9_isRacingField : MethodName := ⟨RX9, "isRacingField", "(I)Z"⟩
abbrev cX9_placeInSet : ByteArray := prog_1_method_44_code
def yX9_placeInSet : MethodName := ⟨RX9, "placeInSet", "(II)I"⟩
abbrev cX9_mostOfRow : ByteArray := prog_1_method_45_code
def yX9_mostOfRow : MethodName := ⟨RX9, "mostOfRow", "(I)I"⟩
abbrev cX9_writeStrip : ByteArray := prog_1_method_46_code
def yX9_writeStrip : MethodName := ⟨RX9, "writeStrip", "()I"⟩
abbrev cX9_writeWord : ByteArray := prog_1_method_47_code
def yX9_writeWord : MethodName := ⟨RX9, "writeWord", "(I)I"⟩
abbrev cX9_signOf : ByteArray := prog_1_method_48_code
def yX9_signOf : MethodName := ⟨RX9, "signOf", "(I)I"⟩
abbrev cX9_hasList : ByteArray := prog_1_method_49_code
def yX9_hasList : MethodName := ⟨RX9, "hasList", "(I)Z"⟩
abbrev cX9_hasListPlace : ByteArray := prog_1_method_50_code
def yX9_hasListPlace : MethodName := ⟨RX9, "hasListPlace", "(II)Z"⟩
def RX10 : String := "WordRaceModel"
def TX10 : u_T := fun k => match k with
  | 0 => ("WordRaceModel", "sides", "I", false)
  | 1 => ("WordRaceModel", "word", "[I", true)
  | 2 => ("WordRaceModel", "words", "I", false)
  | 3 => ("WordRaceModel", "strip", "[I", true)
  | 4 => ("WordRaceModel", "thrown", "I", false)
  | 5 => ("WordRaceModel", "playerKind", "[I", true)
  | 6 => ("WordRaceModel", "playerWord", "[I", true)
  | 7 => ("WordRaceModel", "players", "I", false)
  | 8 => ("WordRaceModel", "planWhat", "[I", true)
  | 9 => ("WordRaceModel", "planBy", "[I", true)
  | 10 => ("WordRaceModel", "planned", "I", false)
  | 11 => ("WordRaceModel", "tape", "[I", true)
  | 12 => ("WordRaceModel", "taped", "I", false)
  | 13 => ("WordRaceModel", "paper", "[I", true)
  | 14 => ("WordRaceModel", "written", "I", false)
  | 15 => ("WordRaceModel", "lists", "[I", true)
  | 16 => ("WordRaceModel", "listSize", "[I", true)
  | 17 => ("WordRaceModel", "image", "[I", true)
  | 18 => ("WordRaceModel", "imaged", "Z", false)
  | 19 => ("WordRaceModel", "came", "[I", true)
  | 20 => ("WordRaceModel", "held", "[I", true)
  | 21 => ("WordRaceModel", "heldMany", "I", false)
  | 22 => ("WordRaceModel", "row", "[I", true)
  | 23 => ("WordRaceModel", "now", "[J", true)
  | 24 => ("WordRaceModel", "then", "[J", true)
  | 25 => ("WordRaceModel", "field", "[I", true)
  | 26 => ("WordRaceModel", "fieldMany", "I", false)
  | 27 => ("WordRaceModel", "matrix", "[J", true)
  | _ => ("WordRaceModel", "trail", "[I", true)
def tyX10 : Nat → FieldType := fun k => match k with
  | 0 => .int
  | 1 => .array .int
  | 2 => .int
  | 3 => .array .int
  | 4 => .int
  | 5 => .array .int
  | 6 => .array .int
  | 7 => .int
  | 8 => .array .int
  | 9 => .array .int
  | 10 => .int
  | 11 => .array .int
  | 12 => .int
  | 13 => .array .int
  | 14 => .int
  | 15 => .array .int
  | 16 => .array .int
  | 17 => .array .int
  | 18 => .boolean
  | 19 => .array .int
  | 20 => .array .int
  | 21 => .int
  | 22 => .array .int
  | 23 => .array .long
  | 24 => .array .long
  | 25 => .array .int
  | 26 => .int
  | 27 => .array .long
  | _ => .array .int
theorem nmX10 : ∀ a, a < 29 → ∀ b, b < 29 → a ≠ b → (TX10 a).2.1 ≠ (TX10 b).2.1 := by decide +kernel
theorem tyX10_ok : ∀ k, k < 29 → parseFieldDescriptor (TX10 k).2.2.1 = some (tyX10 k) := by decide +kernel
abbrev cX10_init : ByteArray := prog_12_method_1_code
def yX10_init : MethodName := ⟨RX10, "<init>", "()V"⟩
abbrev cX10_in : ByteArray := prog_12_method_2_code
def yX10_in : MethodName := ⟨RX10, "in", "(III)Z"⟩
abbrev cX10_isWord : ByteArray := prog_12_method_3_code
def yX10_isWord : MethodName := ⟨RX10, "isWord", "(I)Z"⟩
abbrev cX10_isPart : ByteArray := prog_12_method_4_code
def yX10_isPart : MethodName := ⟨RX10, "isPart", "(I)Z"⟩
abbrev cX10_isList : ByteArray := prog_12_method_5_code
def yX10_isList : MethodName := ⟨RX10, "isList", "(I)Z"⟩
abbrev cX10_ten : ByteArray := prog_12_method_6_code
def yX10_ten : MethodName := ⟨RX10, "ten", "(I)I"⟩
abbrev cX10_sizeOf : ByteArray := prog_12_method_7_code
def yX10_sizeOf : MethodName := ⟨RX10, "sizeOf", "(I)I"⟩
abbrev cX10_letterOf : ByteArray := prog_12_method_8_code
def yX10_letterOf : MethodName := ⟨RX10, "letterOf", "(II)I"⟩
abbrev cX10_hasThird : ByteArray := prog_12_method_9_code
def yX10_hasThird : MethodName := ⟨RX10, "hasThird", "(I)Z"⟩
abbrev cX10_isSuch : ByteArray := prog_12_method_10_code
def yX10_isSuch : MethodName := ⟨RX10, "isSuch", "(I)Z"⟩
abbrev cX10_on : ByteArray := prog_12_method_11_code
def yX10_on : MethodName := ⟨RX10, "on", "(I)I"⟩
abbrev cX10_overlap : ByteArray := prog_12_method_12_code
def yX10_overlap : MethodName := ⟨RX10, "overlap", "(II)I"⟩
abbrev cX10_numberOf : ByteArray := prog_12_method_13_code
def yX10_numberOf : MethodName := ⟨RX10, "numberOf", "(II)I"⟩
abbrev cX10_stands : ByteArray := prog_12_method_14_code
def yX10_stands : MethodName := ⟨RX10, "stands", "(II)Z"⟩
abbrev cX10_areApart : ByteArray := prog_12_method_15_code
def yX10_areApart : MethodName := ⟨RX10, "areApart", "(II)Z"⟩
abbrev cX10_weight : ByteArray := prog_12_method_16_code
def yX10_weight : MethodName := ⟨RX10, "weight", "(II)I"⟩
abbrev cX10_beats : ByteArray := prog_12_method_17_code
def yX10_beats : MethodName := ⟨RX10, "beats", "(II)Z"⟩
abbrev cX10_bestAnswer : ByteArray := prog_12_method_18_code
def yX10_bestAnswer : MethodName := ⟨RX10, "bestAnswer", "(I)I"⟩
abbrev cX10_lowest : ByteArray := prog_12_method_19_code
def yX10_lowest : MethodName := ⟨RX10, "lowest", "(JJI)J"⟩
abbrev cX10_chanceOf : ByteArray := prog_12_method_20_code
def yX10_chanceOf : MethodName := ⟨RX10, "chanceOf", "(III)J"⟩
abbrev cX10_sides : ByteArray := prog_12_method_21_code
def yX10_sides : MethodName := ⟨RX10, "sides", "(I)I"⟩
abbrev cX10_feed : ByteArray := prog_12_method_22_code
def yX10_feed : MethodName := ⟨RX10, "feed", "(I)I"⟩
abbrev cX10_sign : ByteArray := prog_12_method_23_code
def yX10_sign : MethodName := ⟨RX10, "sign", "(I)I"⟩
abbrev cX10_reads : ByteArray := prog_12_method_24_code
def yX10_reads : MethodName := ⟨RX10, "reads", "()I"⟩
abbrev cX10_words : ByteArray := prog_12_method_25_code
def yX10_words : MethodName := ⟨RX10, "words", "()I"⟩
abbrev cX10_becomes : ByteArray := prog_12_method_26_code
def yX10_becomes : MethodName := ⟨RX10, "becomes", "(II)I"⟩
abbrev cX10_of : ByteArray := prog_12_method_27_code
def yX10_of : MethodName := ⟨RX10, "of", "(II)I"⟩
abbrev cX10_overlaps : ByteArray := prog_12_method_28_code
def yX10_overlaps : MethodName := ⟨RX10, "overlaps", "(II)I"⟩
abbrev cX10_number : ByteArray := prog_12_method_29_code
def yX10_number : MethodName := ⟨RX10, "number", "(II)I"⟩
abbrev cX10_isIn : ByteArray := prog_12_method_30_code
def yX10_isIn : MethodName := ⟨RX10, "isIn", "(II)I"⟩
abbrev cX10_chance : ByteArray := prog_12_method_31_code
def yX10_chance : MethodName := ⟨RX10, "chance", "(III)J"⟩
abbrev cX10_answered : ByteArray := prog_12_method_32_code
def yX10_answered : MethodName := ⟨RX10, "answered", "(II)J"⟩
abbrev cX10_trail : ByteArray := prog_12_method_33_code
def yX10_trail : MethodName := ⟨RX10, "trail", "(II)I"⟩
abbrev cX10_rings : ByteArray := prog_12_method_34_code
def yX10_rings : MethodName := ⟨RX10, "rings", "(II)Z"⟩
abbrev cX10_ring : ByteArray := prog_12_method_35_code
def yX10_ring : MethodName := ⟨RX10, "ring", "(I)I"⟩
abbrev cX10_sets : ByteArray := prog_12_method_36_code
def yX10_sets : MethodName := ⟨RX10, "sets", "(I)Z"⟩
abbrev cX10_isField : ByteArray := prog_12_method_37_code
def yX10_isField : MethodName := ⟨RX10, "isField", "()Z"⟩
abbrev cX10_square : ByteArray := prog_12_method_38_code
def yX10_square : MethodName := ⟨RX10, "square", "(III)J"⟩
abbrev cX10_fills : ByteArray := prog_12_method_39_code
def yX10_fills : MethodName := ⟨RX10, "fills", "(I)V"⟩
abbrev cX10_solved : ByteArray := prog_12_method_40_code
def yX10_solved : MethodName := ⟨RX10, "solved", "(II)J"⟩
abbrev cX10_field : ByteArray := prog_12_method_41_code
def yX10_field : MethodName := ⟨RX10, "field", "(III)J"⟩
abbrev cX10_mean : ByteArray := prog_12_method_42_code
def yX10_mean : MethodName := ⟨RX10, "mean", "(II)J"⟩
abbrev cX10_fourOf : ByteArray := prog_12_method_43_code
def yX10_fourOf : MethodName := ⟨RX10, "fourOf", "(I)I"⟩
abbrev cX10_within : ByteArray := prog_12_method_44_code
def yX10_within : MethodName := ⟨RX10, "within", "(III)I"⟩
abbrev cX10_endsBy : ByteArray := prog_12_method_45_code
def yX10_endsBy : MethodName := ⟨RX10, "endsBy", "(I)I"⟩
abbrev cX10_cast : ByteArray := prog_12_method_46_code
def yX10_cast : MethodName := ⟨RX10, "cast", "(I)I"⟩
abbrev cX10_drawn : ByteArray := prog_12_method_47_code
def yX10_drawn : MethodName := ⟨RX10, "drawn", "(I)I"⟩
abbrev cX10_casts : ByteArray := prog_12_method_48_code
def yX10_casts : MethodName := ⟨RX10, "casts", "(II)I"⟩
abbrev cX10_wipe : ByteArray := prog_12_method_49_code
def yX10_wipe : MethodName := ⟨RX10, "wipe", "()I"⟩
abbrev cX10_strip : ByteArray := prog_12_method_50_code
def yX10_strip : MethodName := ⟨RX10, "strip", "(I)I"⟩
abbrev cX10_endsAt : ByteArray := prog_12_method_51_code
def yX10_endsAt : MethodName := ⟨RX10, "endsAt", "(II)Z"⟩
abbrev cX10_ends : ByteArray := prog_12_method_52_code
def yX10_ends : MethodName := ⟨RX10, "ends", "(I)J"⟩
abbrev cX10_firstOf : ByteArray := prog_12_method_53_code
def yX10_firstOf : MethodName := ⟨RX10, "firstOf", "(I)I"⟩
abbrev cX10_matched : ByteArray := prog_12_method_54_code
def yX10_matched : MethodName := ⟨RX10, "matched", "(I)I"⟩
abbrev cX10_seen : ByteArray := prog_12_method_55_code
def yX10_seen : MethodName := ⟨RX10, "seen", "(II)I"⟩
abbrev cX10_who : ByteArray := prog_12_method_56_code
def yX10_who : MethodName := ⟨RX10, "who", "()I"⟩
abbrev cX10_were : ByteArray := prog_12_method_57_code
def yX10_were : MethodName := ⟨RX10, "were", "(II)I"⟩
abbrev cX10_player : ByteArray := prog_12_method_58_code
def yX10_player : MethodName := ⟨RX10, "player", "(II)I"⟩
abbrev cX10_isPlayer : ByteArray := prog_12_method_59_code
def yX10_isPlayer : MethodName := ⟨RX10, "isPlayer", "(I)Z"⟩
abbrev cX10_turned : ByteArray := prog_12_method_60_code
def yX10_turned : MethodName := ⟨RX10, "turned", "(I)I"⟩
abbrev cX10_shifted : ByteArray := prog_12_method_61_code
def yX10_shifted : MethodName := ⟨RX10, "shifted", "(I)I"⟩
abbrev cX10_ahead : ByteArray := prog_12_method_62_code
def yX10_ahead : MethodName := ⟨RX10, "ahead", "(II)I"⟩
abbrev cX10_picks : ByteArray := prog_12_method_63_code
def yX10_picks : MethodName := ⟨RX10, "picks", "(II)I"⟩
abbrev cX10_firstPick : ByteArray := prog_12_method_64_code
def yX10_firstPick : MethodName := ⟨RX10, "firstPick", "(I)I"⟩
abbrev cX10_wins : ByteArray := prog_12_method_65_code
def yX10_wins : MethodName := ⟨RX10, "wins", "(I)I"⟩
abbrev cX10_playerOf : ByteArray := prog_12_method_66_code
def yX10_playerOf : MethodName := ⟨RX10, "playerOf", "(II)I"⟩
abbrev cX10_areTwo : ByteArray := prog_12_method_67_code
def yX10_areTwo : MethodName := ⟨RX10, "areTwo", "(II)Z"⟩
abbrev cX10_pick : ByteArray := prog_12_method_68_code
def yX10_pick : MethodName := ⟨RX10, "pick", "(III)I"⟩
abbrev cX10_match : ByteArray := prog_12_method_69_code
def yX10_match : MethodName := ⟨RX10, "match", "(III)J"⟩
abbrev cX10_duels : ByteArray := prog_12_method_70_code
def yX10_duels : MethodName := ⟨RX10, "duels", "(III)I"⟩
abbrev cX10_duel : ByteArray := prog_12_method_71_code
def yX10_duel : MethodName := ⟨RX10, "duel", "(IIII)I"⟩
abbrev cX10_odds : ByteArray := prog_12_method_72_code
def yX10_odds : MethodName := ⟨RX10, "odds", "(IIIII)J"⟩
abbrev cX10_plan : ByteArray := prog_12_method_73_code
def yX10_plan : MethodName := ⟨RX10, "plan", "(II)I"⟩
abbrev cX10_does : ByteArray := prog_12_method_74_code
def yX10_does : MethodName := ⟨RX10, "does", "(II)V"⟩
abbrev cX10_behind : ByteArray := prog_12_method_75_code
def yX10_behind : MethodName := ⟨RX10, "behind", "(I)I"⟩
abbrev cX10_write : ByteArray := prog_12_method_76_code
def yX10_write : MethodName := ⟨RX10, "write", "(I)I"⟩
abbrev cX10_paper : ByteArray := prog_12_method_77_code
def yX10_paper : MethodName := ⟨RX10, "paper", "(I)I"⟩
abbrev cX10_judge : ByteArray := prog_12_method_78_code
def yX10_judge : MethodName := ⟨RX10, "judge", "(I)I"⟩
abbrev cX10_list : ByteArray := prog_12_method_79_code
def yX10_list : MethodName := ⟨RX10, "list", "(II)I"⟩
abbrev cX10_put : ByteArray := prog_12_method_80_code
def yX10_put : MethodName := ⟨RX10, "put", "(III)I"⟩
abbrev cX10_get : ByteArray := prog_12_method_81_code
def yX10_get : MethodName := ⟨RX10, "get", "(II)J"⟩
abbrev cX10_image : ByteArray := prog_12_method_82_code
def yX10_image : MethodName := ⟨RX10, "image", "()I"⟩
abbrev cX10_undo : ByteArray := prog_12_method_83_code
def yX10_undo : MethodName := ⟨RX10, "undo", "()I"⟩
abbrev cX10_count : ByteArray := prog_12_method_84_code
def yX10_count : MethodName := ⟨RX10, "count", "(I)I"⟩
def RJ6 : String := "java/lang/Integer"
def TJ6 : u_T := fun k => match k with
  | _ => ("", "", "", false)
def tyJ6 : Nat → FieldType := fun k => match k with
  | _ => .int
abbrev cJ6_bitCount_0f7a4 : ByteArray := prog_13_method_49_code
def yJ6_bitCount_0f7a4 : MethodName := ⟨RJ6, "bitCount", "(I)I"⟩
def RJ13 : String := "java/lang/Long"
def TJ13 : u_T := fun k => match k with
  | _ => ("", "", "", false)
def tyJ13 : Nat → FieldType := fun k => match k with
  | _ => .int
abbrev cJ13_bitCount_95d88 : ByteArray := prog_14_method_50_code
def yJ13_bitCount_95d88 : MethodName := ⟨RJ13, "bitCount", "(J)I"⟩
def RJ9 : String := "java/lang/Math"
def TJ9 : u_T := fun k => match k with
  | _ => ("", "", "", false)
def tyJ9 : Nat → FieldType := fun k => match k with
  | _ => .int
abbrev cJ9_max_7cf53 : ByteArray := prog_15_method_65_code
def yJ9_max_7cf53 : MethodName := ⟨RJ9, "max", "(II)I"⟩
abbrev cJ9_min_7cf53 : ByteArray := prog_15_method_69_code
def yJ9_min_7cf53 : MethodName := ⟨RJ9, "min", "(II)I"⟩
def RJ10 : String := "java/lang/System"
def TJ10 : u_T := fun k => match k with
  | _ => ("", "", "", false)
def tyJ10 : Nat → FieldType := fun k => match k with
  | _ => .int
def RJ7 : String := "java/util/Arrays"
def TJ7 : u_T := fun k => match k with
  | _ => ("", "", "", false)
def tyJ7 : Nat → FieldType := fun k => match k with
  | _ => .int
abbrev cJ7_fill_53178 : ByteArray := prog_17_method_103_code
def yJ7_fill_53178 : MethodName := ⟨RJ7, "fill", "([II)V"⟩
def RL : String := "WordRaceLaw"
abbrev cL_law : ByteArray := code
def yL_law : MethodName := ⟨RL, "law", "([I)Z"⟩
abbrev vwCl : List vw_C := [(RX0, TX0, 10), (RX1, TX1, 2), (RX2, TX2, 6), (RX5, TX5, 2), (RX6, TX6, 2), (RX7, TX7, 6), (RX9, TX9, 13), (RX10, TX10, 29)]
abbrev zm_WL : List Jvm.Cond := lw_tbl.filter goodWord
theorem zm_WL_in {w : Jvm.Cond} (n : Nat) (h : lw_tbl[n]? = some w) (hg : goodWord w = true) : w ∈ zm_WL := List.mem_filter.mpr ⟨List.mem_of_getElem? h, hg⟩
end
section
/-! A SMALL MACHINE: the bytecode's own steps over a picture of the cells. A reference is the number of a cell in the picture (below 1000 the class's, from 1000 on the reference's); 2000000 is the static row TENS, 2000001 the script. Every step is a function; 'none' is what has no answer. -/
abbrev zm_E : Type := vp_A ⊕ (Nat × List Value)
abbrev zm_H : Type := List zm_E × List zm_E
abbrev zm_L : Type := List (Option Value)
abbrev zm_R : Type := Option Value × zm_H
abbrev zm_I : Type := Instr × Nat × Nat × Nat × Nat × List (Int × Nat)
abbrev zm_T : Type := List (List (Nat × zm_I))
abbrev zm_S : Type := Option (Nat × (Nat → Int32))
abbrev zm_G : Type := Nat → zm_L → List Value → zm_H → Option zm_R
abbrev zm_C : Type := Nat → List Value → zm_H → Option zm_R
def zm_get (h : zm_H) (k : Nat) : Option zm_E := bif Nat.blt k 1000 then h.1[k]? else h.2[k - 1000]?
def zm_set (h : zm_H) (k : Nat) (e : zm_E) : zm_H := bif Nat.blt k 1000 then (h.1.set k e, h.2) else (h.1, h.2.set (k - 1000) e)
def zm_ten : Nat → Int32
  | 0 => 1
  | 1 => 10
  | 2 => 100
  | 3 => 1000
  | 4 => 10000
  | 5 => 100000
  | _ => 0
def zm_ro (sc : zm_S) (k : Nat) : zm_S := bif Nat.beq k 2000000 then some (6, zm_ten) else bif Nat.beq k 2000001 then sc else none
def zm_in (i : Int32) (n : Nat) : Bool := decide (¬ (i < 0 ∨ n ≤ i.toNatClampNeg))
def zm_drop (lv : zm_L) : Nat → zm_L
  | 0 => lv
  | j + 1 => match lv[j]? with
    | some (some v) => bif Nat.beq v.category 2 then lv.set j none else lv
    | _ => lv
def zm_st1 (lv : zm_L) (i : Nat) (v : Value) : zm_L := (zm_drop lv i).set i (some v)
def zm_st2 (lv : zm_L) (i : Nat) (v : Value) : zm_L := ((zm_drop lv i).set i (some v)).set (i + 1) none
def zm_args : Nat → List Value → List Value → Option (List Value × List Value)
  | 0, acc, st => some (acc, st)
  | _ + 1, _, [] => none
  | n + 1, acc, v :: st => zm_args n (v :: acc) st
def zm_c0 (r : Option zm_R) (k : zm_H → Option zm_R) : Option zm_R := match r with
  | some (none, h) => k h
  | _ => none
def zm_c1 (r : Option zm_R) (k : Int32 → zm_H → Option zm_R) : Option zm_R := match r with
  | some (some (.int x), h) => k x h
  | _ => none
def zm_c2 (r : Option zm_R) (k : Int64 → zm_H → Option zm_R) : Option zm_R := match r with
  | some (some (.long x), h) => k x h
  | _ => none
def zm_sw (x : Int32) (go : Nat → Option zm_R) (d : Nat) : List (Int × Nat) → Option zm_R
  | [] => go d
  | (k, t) :: r => bif decide (x.toInt = k) then go t else zm_sw x go d r
def zm_icmp (c : ClassFile.Cond) (x y : Int32) : Bool := match c with
  | .eq => decide (x = y)
  | .ne => decide (¬ x = y)
  | .lt => decide (x < y)
  | .ge => decide (y ≤ x)
  | .gt => decide (y < x)
  | .le => decide (x ≤ y)
def zm_iload (lv : zm_L) (i : Nat) (k : Int32 → Option zm_R) : Option zm_R := match lv[i]? with
  | some (some (.int x)) => k x
  | _ => none
def zm_lload (lv : zm_L) (i : Nat) (k : Int64 → Option zm_R) : Option zm_R := match lv[i]? with
  | some (some (.long x)) => k x
  | _ => none
def zm_aload (lv : zm_L) (i : Nat) (k : Nat → Option zm_R) : Option zm_R := match lv[i]? with
  | some (some (.ref x)) => k x
  | _ => none
def zm_p1 (st : List Value) (k : Int32 → List Value → Option zm_R) : Option zm_R := match st with
  | .int x :: r => k x r
  | _ => none
def zm_p2 (st : List Value) (k : Int32 → Int32 → List Value → Option zm_R) : Option zm_R := match st with
  | .int y :: .int x :: r => k x y r
  | _ => none
def zm_q1 (st : List Value) (k : Int64 → List Value → Option zm_R) : Option zm_R := match st with
  | .long x :: r => k x r
  | _ => none
def zm_q2 (st : List Value) (k : Int64 → Int64 → List Value → Option zm_R) : Option zm_R := match st with
  | .long y :: .long x :: r => k x y r
  | _ => none
def zm_qs (st : List Value) (k : Int64 → Int32 → List Value → Option zm_R) : Option zm_R := match st with
  | .int y :: .long x :: r => k x y r
  | _ => none
def zm_a1 (st : List Value) (k : Nat → List Value → Option zm_R) : Option zm_R := match st with
  | .ref x :: r => k x r
  | _ => none
def zm_ix (st : List Value) (k : Nat → Int32 → List Value → Option zm_R) : Option zm_R := match st with
  | .int i :: .ref a :: r => k a i r
  | _ => none
def zm_is (st : List Value) (k : Nat → Int32 → Int32 → List Value → Option zm_R) : Option zm_R := match st with
  | .int x :: .int i :: .ref a :: r => k a i x r
  | _ => none
def zm_js (st : List Value) (k : Nat → Int32 → Int64 → List Value → Option zm_R) : Option zm_R := match st with
  | .long x :: .int i :: .ref a :: r => k a i x r
  | _ => none
def zm_ps (st : List Value) (k : Nat → Int32 → List Value → Option zm_R) : Option zm_R := match st with
  | .int x :: .ref a :: r => k a x r
  | _ => none
def zm_cy (st : List Value) (k : Nat → Int32 → Nat → Int32 → Int32 → List Value → Option zm_R) : Option zm_R := match st with
  | .int n :: .int dp :: .ref b :: .int sp :: .ref a :: r => k a sp b dp n r
  | _ => none
def zm_ia (h : zm_H) (a : Nat) (k : Nat → (Nat → Int32) → Option zm_R) : Option zm_R := match zm_get h a with
  | some (.inl (n, .inl f)) => k n f
  | _ => none
def zm_ja (h : zm_H) (a : Nat) (k : Nat → (Nat → Int64) → Option zm_R) : Option zm_R := match zm_get h a with
  | some (.inl (n, .inr (.inl f))) => k n f
  | _ => none
def zm_aa (h : zm_H) (a : Nat) (k : Nat → (Nat → Option Nat) → Option zm_R) : Option zm_R := match zm_get h a with
  | some (.inl (n, .inr (.inr (.inr (.inr f))))) => k n f
  | _ => none
def zm_ob (h : zm_H) (a ci : Nat) (k : List Value → Option zm_R) : Option zm_R := match zm_get h a with
  | some (.inr (c, fs)) => bif Nat.beq c ci then k fs else none
  | _ => none
def zm_ov {α : Type} (o : Option α) (k : α → Option zm_R) : Option zm_R := match o with
  | some v => k v
  | none => none
def zm_01 (x : Int32) : Bool := decide (x = 0) || decide (x = 1)
def zm_ld (sc : zm_S) (h : zm_H) (a : Nat) (i : Int32) (k : Int32 → Option zm_R) : Option zm_R := match zm_ro sc a with
  | some (n, f) => bif zm_in i n then k (f i.toNatClampNeg) else none
  | none => zm_ia h a fun n f => bif zm_in i n then k (f i.toNatClampNeg) else none
/-- which cells are objects, and of which class -/
def zm_oc (k : Nat) : Nat := bif Nat.beq k 0 then 6 else bif Nat.beq k 1 || Nat.beq k 9 then 0 else bif Nat.beq k 3 || (Nat.beq k 11 || Nat.beq k 27) then 4 else bif Nat.beq k 17 then 5 else bif Nat.beq k 29 then 2 else bif Nat.beq k 41 then 3 else bif Nat.beq k 44 then 1 else bif Nat.beq k 1000 then 7 else 99
def zm_rc (ar : List Value) (ci : Nat) : Bool := match ar with
  | .ref k :: _ => Nat.beq (zm_oc k) ci
  | _ => false
/-- one instruction: pc, locals, operand stack, picture; G goes on, C calls -/
def zm_do (rb : Bool) (sc : zm_S) (C : zm_C) (G : zm_G) (i : zm_I) (pc : Nat) (lv : zm_L) (st : List Value) (h : zm_H) : Option zm_R := match i with
  | (ins, len, x1, x2, x3, ps) => match ins with
    | .iconst n => G (pc + 1) lv (.int (Int32.ofInt n) :: st) h
    | .bipush n => G (pc + 2) lv (.int (Int8.ofInt n).toInt32 :: st) h
    | .sipush n => G (pc + 3) lv (.int (Int16.ofInt n).toInt32 :: st) h
    | .lconst n => G (pc + 1) lv (.long (Int64.ofNat n) :: st) h
    | .ldc _ => zm_ov ps.head? fun q => G (pc + 2) lv (.int (Int32.ofInt q.1) :: st) h
    | .ldc_w _ => zm_ov ps.head? fun q => G (pc + 3) lv (.int (Int32.ofInt q.1) :: st) h
    | .ldc2_w _ => zm_ov ps.head? fun q => G (pc + 3) lv (.long (Int64.ofInt q.1) :: st) h
    | .iload_n k => zm_iload lv k fun x => G (pc + 1) lv (.int x :: st) h
    | .iload k => zm_iload lv k fun x => G (pc + 2) lv (.int x :: st) h
    | .lload_n k => zm_lload lv k fun x => G (pc + 1) lv (.long x :: st) h
    | .lload k => zm_lload lv k fun x => G (pc + 2) lv (.long x :: st) h
    | .aload_n k => zm_aload lv k fun x => G (pc + 1) lv (.ref x :: st) h
    | .aload k => zm_aload lv k fun x => G (pc + 2) lv (.ref x :: st) h
    | .istore_n k => zm_p1 st fun x r => bif Nat.blt k lv.length then G (pc + 1) (zm_st1 lv k (.int x)) r h else none
    | .istore k => zm_p1 st fun x r => bif Nat.blt k lv.length then G (pc + 2) (zm_st1 lv k (.int x)) r h else none
    | .astore_n k => zm_a1 st fun x r => bif Nat.blt k lv.length then G (pc + 1) (zm_st1 lv k (.ref x)) r h else none
    | .astore k => zm_a1 st fun x r => bif Nat.blt k lv.length then G (pc + 2) (zm_st1 lv k (.ref x)) r h else none
    | .lstore_n k => zm_q1 st fun x r => bif Nat.blt (k + 1) lv.length then G (pc + 1) (zm_st2 lv k (.long x)) r h else none
    | .lstore k => zm_q1 st fun x r => bif Nat.blt (k + 1) lv.length then G (pc + 2) (zm_st2 lv k (.long x)) r h else none
    | .iinc k n => zm_iload lv k fun x => bif Nat.blt k lv.length then G (pc + 3) (zm_st1 lv k (.int (x + Int32.ofInt n))) st h else none
    | .iadd => zm_p2 st fun x y r => G (pc + 1) lv (.int (x + y) :: r) h
    | .isub => zm_p2 st fun x y r => G (pc + 1) lv (.int (x - y) :: r) h
    | .imul => zm_p2 st fun x y r => G (pc + 1) lv (.int (x * y) :: r) h
    | .iand => zm_p2 st fun x y r => G (pc + 1) lv (.int (x &&& y) :: r) h
    | .ior => zm_p2 st fun x y r => G (pc + 1) lv (.int (x ||| y) :: r) h
    | .ixor => zm_p2 st fun x y r => G (pc + 1) lv (.int (x ^^^ y) :: r) h
    | .idiv => zm_p2 st fun x y r => bif decide (y = 0) then none else G (pc + 1) lv (.int (x / y) :: r) h
    | .irem => zm_p2 st fun x y r => bif decide (y = 0) then none else G (pc + 1) lv (.int (x - x / y * y) :: r) h
    | .ineg => zm_p1 st fun x r => G (pc + 1) lv (.int (-x) :: r) h
    | .ishl => zm_p2 st fun x y r => G (pc + 1) lv (.int (x <<< (y &&& 31)) :: r) h
    | .ishr => zm_p2 st fun x y r => G (pc + 1) lv (.int (x >>> (y &&& 31)) :: r) h
    | .iushr => zm_p2 st fun x y r => G (pc + 1) lv (.int (x.toUInt32 >>> (y.toUInt32 &&& Int32.toUInt32 31)).toInt32 :: r) h
    | .ladd => zm_q2 st fun x y r => G (pc + 1) lv (.long (x + y) :: r) h
    | .lsub => zm_q2 st fun x y r => G (pc + 1) lv (.long (x - y) :: r) h
    | .lmul => zm_q2 st fun x y r => G (pc + 1) lv (.long (x * y) :: r) h
    | .land => zm_q2 st fun x y r => G (pc + 1) lv (.long (x &&& y) :: r) h
    | .lor => zm_q2 st fun x y r => G (pc + 1) lv (.long (x ||| y) :: r) h
    | .ldiv => zm_q2 st fun x y r => bif decide (y = 0) then none else G (pc + 1) lv (.long (x / y) :: r) h
    | .lrem => zm_q2 st fun x y r => bif decide (y = 0) then none else G (pc + 1) lv (.long (x - x / y * y) :: r) h
    | .lneg => zm_q1 st fun x r => G (pc + 1) lv (.long (-x) :: r) h
    | .lshl => zm_qs st fun x y r => G (pc + 1) lv (.long (x <<< (y.toInt64 &&& 63)) :: r) h
    | .lushr => zm_qs st fun x y r => G (pc + 1) lv (.long (x.toUInt64 >>> (y.toInt64.toUInt64 &&& Int64.toUInt64 63)).toInt64 :: r) h
    | .lcmp => zm_q2 st fun x y r => G (pc + 1) lv (.int (lg_cmp x y) :: r) h
    | .i2l => zm_p1 st fun x r => G (pc + 1) lv (.long x.toInt64 :: r) h
    | .l2i => zm_q1 st fun x r => G (pc + 1) lv (.int x.toInt32 :: r) h
    | .dup => match st with
      | a :: r => bif Nat.beq a.category 1 then G (pc + 1) lv (a :: a :: r) h else none
      | _ => none
    | .pop => match st with
      | a :: r => bif Nat.beq a.category 1 then G (pc + 1) lv r h else none
      | _ => none
    | .dup_x1 => match st with
      | a :: b :: r => bif Nat.beq a.category 1 && Nat.beq b.category 1 then G (pc + 1) lv (a :: b :: a :: r) h else none
      | _ => none
    | .dup2 => match st with
      | a :: b :: r => bif Nat.beq a.category 1 && Nat.beq b.category 1 then G (pc + 1) lv (a :: b :: a :: b :: r) h else none
      | _ => none
    | .if_icmp c _ => zm_p2 st fun x y r => bif zm_icmp c x y then G x1 lv r h else G (pc + 3) lv r h
    | .ifCond c _ => zm_p1 st fun x r => bif zm_icmp c x 0 then G x1 lv r h else G (pc + 3) lv r h
    | .goto _ => G x1 lv st h
    | .tableswitch _ _ _ _ => zm_p1 st fun x r => zm_sw x (fun t => G t lv r h) x1 ps
    | .lookupswitch _ _ => zm_p1 st fun x r => zm_sw x (fun t => G t lv r h) x1 ps
    | .arraylength => zm_a1 st fun a r => match zm_ro sc a with
      | some (n, _) => G (pc + 1) lv (.int (Int32.ofNat n) :: r) h
      | none => zm_ia h a fun n _ => G (pc + 1) lv (.int (Int32.ofNat n) :: r) h
    | .iaload => zm_ix st fun a i r => zm_ld sc h a i fun v => G (pc + 1) lv (.int v :: r) h
    | .laload => zm_ix st fun a i r => zm_ja h a fun n f => bif zm_in i n then G (pc + 1) lv (.long (f i.toNatClampNeg) :: r) h else none
    | .aaload => zm_ix st fun a i r => zm_aa h a fun n f => bif zm_in i n then zm_ov (f i.toNatClampNeg) fun q => G (pc + 1) lv (.ref q :: r) h else none
    | .iastore => zm_is st fun a i x r => zm_ia h a fun n f => bif zm_in i n then G (pc + 1) lv r (zm_set h a (.inl (n, .inl (upd f i.toNatClampNeg x)))) else none
    | .lastore => zm_js st fun a i x r => zm_ja h a fun n f => bif zm_in i n then G (pc + 1) lv r (zm_set h a (.inl (n, .inr (.inl (vp_updL f i.toNatClampNeg x))))) else none
    | .getfield _ => zm_a1 st fun a r => zm_ob h a x1 fun fs => zm_ov fs[x2]? fun v => G (pc + 3) lv (v :: r) h
    | .putfield _ => zm_ps st fun a x r => zm_ob h a x1 fun fs => bif Nat.blt x2 fs.length && (Nat.beq x3 0 || zm_01 x) then G (pc + 3) lv r (zm_set h a (.inr (x1, fs.set x2 (.int x)))) else none
    | .getstatic _ => G (pc + 3) lv (.ref 2000000 :: st) h
    | .invokestatic _ => bif Nat.ble 9990 x1 then (bif Nat.beq x1 9999 then zm_cy st fun a sp b dp n r => bif Nat.ble (r.map fun v => v.category).sum 8 then zm_ia h a fun n0 f => zm_ia h b fun n1 g => bif decide (¬ sp < 0) && decide (¬ dp < 0) && decide (¬ n < 0) && Nat.ble (sp.toNatClampNeg + n.toNatClampNeg) n0 && Nat.ble (dp.toNatClampNeg + n.toNatClampNeg) n1 then G (pc + 3) lv r (zm_set h b (.inl (n1, .inl (va_cpy f g sp.toNatClampNeg dp.toNatClampNeg n.toNatClampNeg)))) else none else none
        else bif Nat.beq x1 9998 then zm_p2 st fun x y r => bif Nat.ble (r.map fun v => v.category).sum 8 then G (pc + 3) lv (.int (if y < x then y else x) :: r) h else none
        else zm_p2 st fun x y r => bif Nat.ble (r.map fun v => v.category).sum 8 then G (pc + 3) lv (.int (if x < y then y else x) :: r) h else none)
      else zm_ov (zm_args x2 [] st) fun ar => bif Nat.ble (ar.2.map fun v => v.category).sum 8 then (bif Nat.beq x3 0 then zm_c0 (C x1 ar.1 h) fun h2 => G (pc + 3) lv ar.2 h2 else bif Nat.beq x3 1 then zm_c1 (C x1 ar.1 h) fun x h2 => G (pc + 3) lv (.int x :: ar.2) h2 else zm_c2 (C x1 ar.1 h) fun x h2 => G (pc + 3) lv (.long x :: ar.2) h2) else none
    | .invokevirtual _ => zm_ov (zm_args x2 [] st) fun ar => bif Nat.ble (ar.2.map fun v => v.category).sum 8 && zm_rc ar.1 len then (bif Nat.ble 9990 x1 then none else bif Nat.beq x3 0 then zm_c0 (C x1 ar.1 h) fun h2 => G (pc + 3) lv ar.2 h2 else bif Nat.beq x3 1 then zm_c1 (C x1 ar.1 h) fun x h2 => G (pc + 3) lv (.int x :: ar.2) h2 else zm_c2 (C x1 ar.1 h) fun x h2 => G (pc + 3) lv (.long x :: ar.2) h2) else none
    | .ireturn => match st with
      | [.int x] => bif rb then (bif zm_01 x then some (some (.int x), h) else none) else some (some (.int x), h)
      | _ => none
    | .lreturn => match st with
      | [.long x] => some (some (.long x), h)
      | _ => none
    | .return_ => match st with
      | [] => some (none, h)
      | _ => none
    | _ => none
def zm_find (pc : Nat) : List (Nat × zm_I) → Option zm_I
  | [] => none
  | (p, i) :: r => bif Nat.beq p pc then some i else zm_find pc r
def zm_look (T : zm_T) (pc : Nat) : Option zm_I := match T[pc / 16]? with
  | some l => zm_find pc l
  | none => none
def zm_cut (cuts : List Nat) (pc : Nat) : Bool := match cuts with
  | [] => false
  | q :: r => bif Nat.beq q pc then true else zm_cut r pc
/-- a stretch: from pc to the next cut (K goes on there) -/
def zm_blk (T : zm_T) (cuts : List Nat) (rb : Bool) (sc : zm_S) (C : zm_C) (K : zm_G) : Nat → zm_G
  | 0 => fun _ _ _ _ => none
  | n + 1 => fun pc lv st h => match zm_look T pc with
    | none => none
    | some i => zm_do rb sc C (fun pc lv st h => bif zm_cut cuts pc then K pc lv st h else zm_blk T cuts rb sc C K n pc lv st h) i pc lv st h
/-- from a cut on -/
def zm_run (T : zm_T) (cuts : List Nat) (rb : Bool) (sc : zm_S) (C : zm_C) : Nat → zm_G
  | 0 => fun _ _ _ _ => none
  | f + 1 => fun pc lv st h => zm_blk T cuts rb sc C (zm_run T cuts rb sc C f) 3000 pc lv st h
def zm_ent : List Value → zm_L
  | [] => []
  | v :: r => bif Nat.beq v.category 2 then some v :: none :: zm_ent r else some v :: zm_ent r
def zm_pad (n : Nat) (l : zm_L) : zm_L := l ++ List.replicate (n - l.length) none
end
section
/-! the picture of the small machine against the heap; what its instructions' words are -/
def zm_v (ρ : Nat → Nat) : Value → Value
  | .ref k => .ref (ρ k)
  | v => v
def zm_A (ρ : Nat → Nat) (a : vp_A) : vp_A := match a with
  | (n, .inr (.inr (.inr (.inr f)))) => (n, .inr (.inr (.inr (.inr (fun j => (f j).map ρ)))))
  | a => a
def zm_k (dA : Nat → ClassId) (a : vp_A) : ClassId := match a.2 with
  | .inl _ => dA 0
  | .inr (.inl _) => dA 1
  | _ => dA 2
def zm_e (ρ : Nat → Nat) (dA : Nat → ClassId) : zm_E → va_E
  | .inl a => .inl (zm_k dA a, zm_A ρ a)
  | .inr (c, fs) => .inr (c, fs.map (zm_v ρ))
def zm_w (ρ : Nat → Nat) (dA : Nat → ClassId) (h : zm_H) : va_W := h.1.mapIdx (fun k e => (ρ k, zm_e ρ dA e)) ++ h.2.mapIdx (fun k e => (ρ (1000 + k), zm_e ρ dA e))
def zm_pos (h : zm_H) (k : Nat) : Nat := bif Nat.blt k 1000 then k else h.1.length + (k - 1000)
theorem zm_cat (ρ : Nat → Nat) (v : Value) : (zm_v ρ v).category = v.category := by cases v <;> rfl
theorem zm_w_get {ρ : Nat → Nat} {dA : Nat → ClassId} {h : zm_H} {k : Nat} {e : zm_E} (hg : zm_get h k = some e) : (zm_w ρ dA h)[zm_pos h k]? = some (ρ k, zm_e ρ dA e) := by
  unfold zm_get at hg
  unfold zm_w zm_pos
  cases hk : Nat.blt k 1000 with
  | true =>
    rw [hk] at hg
    simp only [cond_true] at hg ⊢
    have hlt : k < h.1.length := (List.getElem?_eq_some_iff.mp hg).1
    rw [List.getElem?_append_left (by simpa using hlt), List.getElem?_mapIdx, hg]
    rfl
  | false =>
    rw [hk] at hg
    simp only [cond_false] at hg ⊢
    have hge : 1000 ≤ k := by
      rcases Nat.lt_or_ge k 1000 with q | q
      · rw [show Nat.blt k 1000 = true from Nat.ble_eq_true_of_le q] at hk; cases hk
      · exact q
    rw [List.getElem?_append_right (by simp), List.getElem?_mapIdx]
    simp only [List.length_mapIdx, Nat.add_sub_cancel_left, hg]
    show some (ρ (1000 + (k - 1000)), _) = _
    rw [show 1000 + (k - 1000) = k by omega]
theorem zm_w_set {ρ : Nat → Nat} {dA : Nat → ClassId} {h : zm_H} {k : Nat} {e0 e : zm_E} (hg : zm_get h k = some e0) : zm_w ρ dA (zm_set h k e) = (zm_w ρ dA h).set (zm_pos h k) (ρ k, zm_e ρ dA e) := by
  unfold zm_get at hg
  unfold zm_w zm_pos zm_set
  cases hk : Nat.blt k 1000 with
  | true =>
    rw [hk] at hg
    simp only [cond_true] at hg ⊢
    have hlt : k < h.1.length := (List.getElem?_eq_some_iff.mp hg).1
    rw [List.mapIdx_set, List.set_append_left _ _ (by simpa using hlt)]
  | false =>
    rw [hk] at hg
    simp only [cond_false] at hg ⊢
    have hge : 1000 ≤ k := by
      rcases Nat.lt_or_ge k 1000 with q | q
      · rw [show Nat.blt k 1000 = true from Nat.ble_eq_true_of_le q] at hk; cases hk
      · exact q
    rw [List.mapIdx_set, List.set_append_right _ _ (by simp)]
    simp only [List.length_mapIdx, Nat.add_sub_cancel_left]
    rw [show 1000 + (k - 1000) = k by omega]
/-- the locals -/
def zm_has (ρ : Nat → Nat) (ls : Array Slot) (nL : Nat) (lv : zm_L) : Prop := ls.size = nL ∧ lv.length = nL ∧ lv_wf ls ∧ ∀ (i : Nat) (v : Value), lv[i]? = some (some v) → ls[i]? = some (.val (zm_v ρ v))
def zm_as (ρ : Nat → Nat) (lv : zm_L) : List (Nat × Value) := (List.range lv.length).filterMap (fun i => match lv[i]? with
  | some (some v) => some (i, zm_v ρ v)
  | _ => none)
theorem zm_as_mem {ρ : Nat → Nat} {lv : zm_L} {q : Nat × Value} : q ∈ zm_as ρ lv ↔ ∃ v, lv[q.1]? = some (some v) ∧ q.2 = zm_v ρ v := by
  unfold zm_as
  rw [List.mem_filterMap]
  constructor
  · rintro ⟨i, -, h⟩
    split at h
    · next v hv => cases h; exact ⟨v, hv, rfl⟩
    · cases h
  · rintro ⟨v, h1, h2⟩
    refine ⟨q.1, List.mem_range.mpr (List.getElem?_eq_some_iff.mp h1).1, ?_⟩
    rw [h1]
    simp only [← h2]
theorem zm_has_lv {ρ : Nat → Nat} {ls : Array Slot} {nL : Nat} {lv : zm_L} (h : zm_has ρ ls nL lv) : lv_has ls nL (zm_as ρ lv) := by
  refine ⟨h.1, h.2.2.1, fun q hq => ?_⟩
  obtain ⟨v, h1, h2⟩ := zm_as_mem.mp hq
  rw [h2]
  exact h.2.2.2 _ _ h1
theorem zm_drop_get {lv : zm_L} {i j : Nat} {v : Value} (h : (zm_drop lv i)[j]? = some (some v)) : lv[j]? = some (some v) ∧ ¬ (j + 1 = i ∧ v.category = 2) := by
  cases i with
  | zero => exact ⟨h, fun q => by omega⟩
  | succ i =>
    simp only [zm_drop] at h
    split at h
    · next w hw =>
      cases hc : Nat.beq w.category 2 with
      | true =>
        rw [hc] at h
        simp only [cond_true, List.getElem?_set] at h
        split at h
        · split at h <;> cases h
        · next hne => exact ⟨h, fun q => hne (by omega)⟩
      | false =>
        rw [hc] at h
        simp only [cond_false] at h
        refine ⟨h, fun q => ?_⟩
        have : j = i := by omega
        subst this
        rw [h] at hw
        cases hw
        rw [q.2] at hc
        cases hc
    · next hn =>
      refine ⟨h, fun q => ?_⟩
      have : j = i := by omega
      subst this
      exact hn v h
theorem zm_drop_len (lv : zm_L) (i : Nat) : (zm_drop lv i).length = lv.length := by
  cases i with
  | zero => rfl
  | succ i =>
    simp only [zm_drop]
    split
    · next w _ => cases Nat.beq w.category 2 <;> simp
    · rfl
theorem zm_has_st1 {ρ : Nat → Nat} {ls' : Array Slot} {nL i : Nat} {lv : zm_L} {v : Value} (hn : lv.length = nL) (h : lv_has ls' nL ((i, zm_v ρ v) :: (zm_as ρ lv).filter (fun q => !(q.1 == i) && !(q.1 + 1 == i && q.2.category == 2)))) : zm_has ρ ls' nL (zm_st1 lv i v) := by
  refine ⟨h.1, by unfold zm_st1; rw [List.length_set, zm_drop_len, hn], h.2.1, fun j w hw => ?_⟩
  unfold zm_st1 at hw
  rw [List.getElem?_set] at hw
  split at hw
  · next e =>
    subst e
    split at hw
    · cases hw; exact h.2.2 (i, zm_v ρ v) List.mem_cons_self
    · cases hw
  · next hne =>
    obtain ⟨h1, h2⟩ := zm_drop_get hw
    refine h.2.2 (j, zm_v ρ w) (List.mem_cons_of_mem _ (List.mem_filter.mpr ⟨zm_as_mem.mpr ⟨w, h1, rfl⟩, ?_⟩))
    simp only [zm_cat, Bool.and_eq_true, Bool.not_eq_true', beq_eq_false_iff_ne, Bool.and_eq_false_iff]
    refine ⟨fun q => hne q.symm, ?_⟩
    rcases Nat.decEq (j + 1) i with q | q
    · exact Or.inl q
    · exact Or.inr fun q2 => h2 ⟨q, q2⟩
theorem zm_has_st2 {ρ : Nat → Nat} {ls' : Array Slot} {nL i : Nat} {lv : zm_L} {v : Value} (hn : lv.length = nL) (h : lv_has ls' nL ((i, zm_v ρ v) :: (zm_as ρ lv).filter (fun q => !(q.1 == i) && (!(q.1 == i + 1) && !(q.1 + 1 == i && q.2.category == 2))))) : zm_has ρ ls' nL (zm_st2 lv i v) := by
  refine ⟨h.1, by unfold zm_st2; rw [List.length_set, List.length_set, zm_drop_len, hn], h.2.1, fun j w hw => ?_⟩
  unfold zm_st2 at hw
  rw [List.getElem?_set] at hw
  split at hw
  · split at hw <;> cases hw
  · next hne1 =>
    rw [List.getElem?_set] at hw
    split at hw
    · next e =>
      subst e
      split at hw
      · cases hw; exact h.2.2 (i, zm_v ρ v) List.mem_cons_self
      · cases hw
    · next hne =>
      obtain ⟨h1, h2⟩ := zm_drop_get hw
      refine h.2.2 (j, zm_v ρ w) (List.mem_cons_of_mem _ (List.mem_filter.mpr ⟨zm_as_mem.mpr ⟨w, h1, rfl⟩, ?_⟩))
      simp only [zm_cat, Bool.and_eq_true, Bool.not_eq_true', beq_eq_false_iff_ne, Bool.and_eq_false_iff]
      refine ⟨fun q => hne q.symm, fun q => hne1 q.symm, ?_⟩
      rcases Nat.decEq (j + 1) i with q | q
      · exact Or.inl q
      · exact Or.inr fun q2 => h2 ⟨q, q2⟩
theorem zm_args_eq : ∀ (n : Nat) (acc st : List Value) (ar : List Value × List Value), zm_args n acc st = some ar → ∃ t : List Value, t.length = n ∧ st = t ++ ar.2 ∧ ar.1 = t.reverse ++ acc
  | 0, acc, st, ar, h => by cases h; exact ⟨[], rfl, rfl, rfl⟩
  | n + 1, acc, [], ar, h => by cases h
  | n + 1, acc, v :: st, ar, h => by
    obtain ⟨t, h1, h2, h3⟩ := zm_args_eq n (v :: acc) st ar h
    exact ⟨v :: t, by simp [h1], by rw [h2]; rfl, by rw [h3]; simp⟩
end
section
/-! one instruction of the small machine is one of the machine -/
def zm_ln (ins : Instr) (len : Nat) : Nat := match ins with
  | .bipush _ | .iload _ | .lload _ | .aload _ | .istore _ | .lstore _ | .astore _ | .ldc _ => 2
  | .sipush _ | .ldc_w _ | .ldc2_w _ | .iinc _ _ | .if_icmp _ _ | .ifCond _ _ | .goto _ | .getfield _ | .putfield _ | .getstatic _ | .invokestatic _ | .invokevirtual _ => 3
  | .tableswitch _ _ _ _ | .lookupswitch _ _ => len
  | _ => 1
/-- where a switch goes: the pairs of the table, the default -/
def zm_tab (pc : Nat) (dflt lo hi : Int) (offs : List Int) (d : Nat) (ps : List (Int × Nat)) : Prop :=
  (pc : Int) + dflt = (d : Int) ∧ hi + 1 = lo + offs.length ∧ ps.length = offs.length ∧ ∀ (j : Nat) (k : Int) (t : Nat), ps[j]? = some (k, t) → k = lo + j ∧ ∃ off, offs[j]? = some off ∧ (pc : Int) + off = (t : Int)
def zm_tav (pc : Nat) (dflt : Int) (prs : List (Int × Int)) (d : Nat) (ps : List (Int × Nat)) : Prop :=
  (pc : Int) + dflt = (d : Int) ∧ (prs.zip (prs.drop 1)).all (fun (a, next) => a.1 < next.1) = true ∧ ps.map (fun q => (q.1, (q.2 : Int))) = prs.map (fun q => (q.1, (pc : Int) + q.2))
/-- the words of an instruction that the tables link -/
def zm_lk (own : String) (pc : Nat) (i : zm_I) : Prop := match i with
  | (ins, _, x1, x2, x3, ps) => match ins with
    | .getfield idx => ∃ (C : String) (T : u_T) (N : Nat), vwCl[x1]? = some (C, T, N) ∧ x2 < N ∧ (∀ w ∈ u_ws C T N, w ∈ zm_WL) ∧ Jvm.Cond.fieldLink own idx (T x2).1 (T x2).2.1 (T x2).2.2.1 ∈ zm_WL
    | .putfield idx => ∃ (C : String) (T : u_T) (N : Nat) (ty0 : Nat → FieldType), vwCl[x1]? = some (C, T, N) ∧ x2 < N ∧ (∀ w ∈ u_ws C T N, w ∈ zm_WL) ∧ Jvm.Cond.fieldLink own idx (T x2).1 (T x2).2.1 (T x2).2.2.1 ∈ zm_WL ∧ (∀ k, k < N → parseFieldDescriptor (T k).2.2.1 = some (ty0 k)) ∧ (∀ a, a < N → ∀ b, b < N → a ≠ b → (T a).2.1 ≠ (T b).2.1) ∧ (T x2).2.2.2 = false ∧ ((ty0 x2 = .int ∧ x3 = 0) ∨ (ty0 x2 = .boolean ∧ x3 = 1))
    | .getstatic idx => Jvm.Cond.fieldLink own idx "WordRace$Word" "TENS" "[I" ∈ zm_WL
    | .ldc idx => ∀ q, ps.head? = some q → Jvm.Cond.constant own idx (Int32.ofInt q.1) ∈ zm_WL
    | .ldc_w idx => ∀ q, ps.head? = some q → Jvm.Cond.constant own idx (Int32.ofInt q.1) ∈ zm_WL
    | .ldc2_w idx => ∀ q, ps.head? = some q → Jvm.Cond.constantLong own idx (Int64.ofInt q.1) ∈ zm_WL
    | .if_icmp _ off => (pc : Int) + off = (x1 : Int)
    | .ifCond _ off => (pc : Int) + off = (x1 : Int)
    | .goto off => (pc : Int) + off = (x1 : Int)
    | .tableswitch d lo hi offs => zm_tab pc d lo hi offs.toList x1 ps
    | .lookupswitch d prs => zm_tav pc d prs.toList x1 ps
    | .invokestatic idx => (9990 ≤ x1 → x1 = 9999 ∨ x1 = 9998 ∨ x1 = 9997) ∧ (x1 = 9999 → Jvm.Cond.methodLink own idx arraycopyName ∈ zm_WL ∧ Jvm.Cond.native arraycopyName ∈ zm_WL ∧ Jvm.Cond.static arraycopyName ∈ zm_WL ∧ Jvm.Cond.initialized "java/lang/System" ∈ zm_WL) ∧
      (x1 = 9998 → Jvm.Cond.methodLink own idx Lib.Math.min.name ∈ zm_WL ∧ Jvm.Cond.static Lib.Math.min.name ∈ zm_WL ∧ Jvm.Cond.initialized "java/lang/Math" ∈ zm_WL ∧ Jvm.Cond.code Lib.Math.min.name Lib.Math.min.code 2 (some .int) ∈ zm_WL) ∧
      (x1 = 9997 → Jvm.Cond.methodLink own idx Lib.Math.max.name ∈ zm_WL ∧ Jvm.Cond.static Lib.Math.max.name ∈ zm_WL ∧ Jvm.Cond.initialized "java/lang/Math" ∈ zm_WL ∧ Jvm.Cond.code Lib.Math.max.name Lib.Math.max.code 2 (some .int) ∈ zm_WL)
    | _ => True
abbrev zm_tys (dA : Nat → ClassId) : List (ClassId × FieldType) := [(dA 0, .int), (dA 1, .long), (dA 2, .array .int)]
/-- what stands fast while a body runs -/
def zm_Cx (p : Program) (R : Room) (s : State) (m : MethodId) (args : Array Value) (c : Code) (own : String) (cc : ByteArray) (nL : Nat) (sc : zm_S) (ρ : Nat → Nat) (dA : Nat → ClassId) (D : va_G) (A : Nat → Prop) : Prop :=
  p.tables.exec = Jvm.exec ∧ c.code = cc ∧ c.maxLocals = nL ∧ s.vm.findClass own = some m.cls ∧ (∀ w ∈ zm_WL, w.before args s = true) ∧ va_K D vwCl (zm_tys dA) s ∧ (∀ q, s.heap.size ≤ q → A q) ∧ va_Z "WordRace$Word" "TENS" "[I" (.ref (ρ 2000000)) A s s.heap ∧ (∀ (k n : Nat) (f : Nat → Int32), zm_ro sc k = some (n, f) → va_T .int (ρ k) n (fun j => .int (f j)) A s s.heap) ∧ 1 ≤ R.frames ∧ 60 ≤ R.locals
/-- the objects are there -/
def zm_ty (h : zm_H) : Prop := ∀ k : Nat, zm_oc k ≠ 99 → ∃ fs, zm_get h k = some (.inr (zm_oc k, fs))
theorem zm_get_set {h : zm_H} {k j : Nat} {e e0 : zm_E} (hk : zm_get h k = some e0) : zm_get (zm_set h k e) j = if j = k then some e else zm_get h j := by
  unfold zm_get at hk ⊢
  unfold zm_set
  have hb : ∀ a : Nat, Nat.blt a 1000 = decide (a < 1000) := fun a => by
    rcases Nat.lt_or_ge a 1000 with q | q
    · rw [show Nat.blt a 1000 = true from Nat.ble_eq_true_of_le q]; simp [q]
    · rw [show decide (a < 1000) = false from by simp; exact q]
      cases e : Nat.blt a 1000 with
      | false => rfl
      | true => exact absurd (Nat.le_of_ble_eq_true e) (by omega)
  rw [hb] at hk ⊢
  rw [hb]
  by_cases h1 : k < 1000
  · simp only [h1, decide_true, cond_true] at hk ⊢
    have hlt := (List.getElem?_eq_some_iff.mp hk).1
    by_cases h2 : j < 1000
    · simp only [h2, decide_true, cond_true, List.getElem?_set]
      by_cases h3 : k = j
      · subst h3; simp [hlt]
      · rw [if_neg h3, if_neg (fun q => h3 q.symm)]
    · simp only [h2, decide_false, cond_false]
      rw [if_neg (by omega)]
  · simp only [h1, decide_false, cond_false] at hk ⊢
    have hlt := (List.getElem?_eq_some_iff.mp hk).1
    by_cases h2 : j < 1000
    · simp only [h2, decide_true, cond_true]
      rw [if_neg (by omega)]
    · simp only [h2, decide_false, cond_false, List.getElem?_set]
      by_cases h3 : k = j
      · subst h3; simp [hlt]
      · rw [if_neg (by omega), if_neg (fun q => h3 q.symm)]
theorem zm_ty_arr {h : zm_H} {k : Nat} {a0 a : vp_A} (hk : zm_get h k = some (.inl a0)) (ht : zm_ty h) : zm_ty (zm_set h k (.inl a)) := by
  intro j hj
  obtain ⟨fs, hf⟩ := ht j hj
  refine ⟨fs, ?_⟩
  rw [zm_get_set hk, if_neg]
  · exact hf
  · rintro rfl
    rw [hf] at hk
    cases hk
theorem zm_ty_obj {h : zm_H} {k c : Nat} {f0 f : List Value} (hk : zm_get h k = some (.inr (c, f0))) (ht : zm_ty h) : zm_ty (zm_set h k (.inr (c, f))) := by
  intro j hj
  obtain ⟨fs, hf⟩ := ht j hj
  rw [zm_get_set hk]
  by_cases e : j = k
  · subst e
    rw [hf] at hk
    cases hk
    exact ⟨f, by rw [if_pos rfl]⟩
  · exact ⟨fs, by rw [if_neg e]; exact hf⟩
def zm_Rl (s : State) (ρ : Nat → Nat) (dA : Nat → ClassId) (D : va_G) (A : Nat → Prop) (h : zm_H) (H : Heap) (locs : List Loc) : Prop := zm_ty h ∧ va_P D vwCl (zm_w ρ dA h) H ∧ va_D A (zm_w ρ dA h) ∧ va_S A s.heap H locs
theorem zm_p1_of {st : List Value} {k : Int32 → List Value → Option zm_R} {r : zm_R} (h : zm_p1 st k = some r) : ∃ x t, st = .int x :: t ∧ k x t = some r := by
  unfold zm_p1 at h
  split at h
  · exact ⟨_, _, rfl, h⟩
  · cases h
theorem zm_p2_of {st : List Value} {k : Int32 → Int32 → List Value → Option zm_R} {r : zm_R} (h : zm_p2 st k = some r) : ∃ x y t, st = .int y :: .int x :: t ∧ k x y t = some r := by
  unfold zm_p2 at h
  split at h
  · exact ⟨_, _, _, rfl, h⟩
  · cases h
theorem zm_q1_of {st : List Value} {k : Int64 → List Value → Option zm_R} {r : zm_R} (h : zm_q1 st k = some r) : ∃ x t, st = .long x :: t ∧ k x t = some r := by
  unfold zm_q1 at h
  split at h
  · exact ⟨_, _, rfl, h⟩
  · cases h
theorem zm_q2_of {st : List Value} {k : Int64 → Int64 → List Value → Option zm_R} {r : zm_R} (h : zm_q2 st k = some r) : ∃ x y t, st = .long y :: .long x :: t ∧ k x y t = some r := by
  unfold zm_q2 at h
  split at h
  · exact ⟨_, _, _, rfl, h⟩
  · cases h
theorem zm_qs_of {st : List Value} {k : Int64 → Int32 → List Value → Option zm_R} {r : zm_R} (h : zm_qs st k = some r) : ∃ x y t, st = .int y :: .long x :: t ∧ k x y t = some r := by
  unfold zm_qs at h
  split at h
  · exact ⟨_, _, _, rfl, h⟩
  · cases h
theorem zm_a1_of {st : List Value} {k : Nat → List Value → Option zm_R} {r : zm_R} (h : zm_a1 st k = some r) : ∃ x t, st = .ref x :: t ∧ k x t = some r := by
  unfold zm_a1 at h
  split at h
  · exact ⟨_, _, rfl, h⟩
  · cases h
theorem zm_ix_of {st : List Value} {k : Nat → Int32 → List Value → Option zm_R} {r : zm_R} (h : zm_ix st k = some r) : ∃ a i t, st = .int i :: .ref a :: t ∧ k a i t = some r := by
  unfold zm_ix at h
  split at h
  · exact ⟨_, _, _, rfl, h⟩
  · cases h
theorem zm_is_of {st : List Value} {k : Nat → Int32 → Int32 → List Value → Option zm_R} {r : zm_R} (h : zm_is st k = some r) : ∃ a i x t, st = .int x :: .int i :: .ref a :: t ∧ k a i x t = some r := by
  unfold zm_is at h
  split at h
  · exact ⟨_, _, _, _, rfl, h⟩
  · cases h
theorem zm_js_of {st : List Value} {k : Nat → Int32 → Int64 → List Value → Option zm_R} {r : zm_R} (h : zm_js st k = some r) : ∃ a i x t, st = .long x :: .int i :: .ref a :: t ∧ k a i x t = some r := by
  unfold zm_js at h
  split at h
  · exact ⟨_, _, _, _, rfl, h⟩
  · cases h
theorem zm_ps_of {st : List Value} {k : Nat → Int32 → List Value → Option zm_R} {r : zm_R} (h : zm_ps st k = some r) : ∃ a x t, st = .int x :: .ref a :: t ∧ k a x t = some r := by
  unfold zm_ps at h
  split at h
  · exact ⟨_, _, _, rfl, h⟩
  · cases h
theorem zm_cy_of {st : List Value} {k : Nat → Int32 → Nat → Int32 → Int32 → List Value → Option zm_R} {r : zm_R} (h : zm_cy st k = some r) : ∃ a sp b dp n t, st = .int n :: .int dp :: .ref b :: .int sp :: .ref a :: t ∧ k a sp b dp n t = some r := by
  unfold zm_cy at h
  split at h
  · exact ⟨_, _, _, _, _, _, rfl, h⟩
  · cases h
theorem zm_iload_of {lv : zm_L} {i : Nat} {k : Int32 → Option zm_R} {r : zm_R} (h : zm_iload lv i k = some r) : ∃ x, lv[i]? = some (some (.int x)) ∧ k x = some r := by
  unfold zm_iload at h
  split at h
  · next q => exact ⟨_, q, h⟩
  · cases h
theorem zm_lload_of {lv : zm_L} {i : Nat} {k : Int64 → Option zm_R} {r : zm_R} (h : zm_lload lv i k = some r) : ∃ x, lv[i]? = some (some (.long x)) ∧ k x = some r := by
  unfold zm_lload at h
  split at h
  · next q => exact ⟨_, q, h⟩
  · cases h
theorem zm_aload_of {lv : zm_L} {i : Nat} {k : Nat → Option zm_R} {r : zm_R} (h : zm_aload lv i k = some r) : ∃ x, lv[i]? = some (some (.ref x)) ∧ k x = some r := by
  unfold zm_aload at h
  split at h
  · next q => exact ⟨_, q, h⟩
  · cases h
theorem zm_ia_of {h : zm_H} {a : Nat} {k : Nat → (Nat → Int32) → Option zm_R} {r : zm_R} (hh : zm_ia h a k = some r) : ∃ n f, zm_get h a = some (.inl (n, .inl f)) ∧ k n f = some r := by
  unfold zm_ia at hh
  split at hh
  · next q => exact ⟨_, _, q, hh⟩
  · cases hh
theorem zm_ja_of {h : zm_H} {a : Nat} {k : Nat → (Nat → Int64) → Option zm_R} {r : zm_R} (hh : zm_ja h a k = some r) : ∃ n f, zm_get h a = some (.inl (n, .inr (.inl f))) ∧ k n f = some r := by
  unfold zm_ja at hh
  split at hh
  · next q => exact ⟨_, _, q, hh⟩
  · cases hh
theorem zm_aa_of {h : zm_H} {a : Nat} {k : Nat → (Nat → Option Nat) → Option zm_R} {r : zm_R} (hh : zm_aa h a k = some r) : ∃ n f, zm_get h a = some (.inl (n, .inr (.inr (.inr (.inr f))))) ∧ k n f = some r := by
  unfold zm_aa at hh
  split at hh
  · next q => exact ⟨_, _, q, hh⟩
  · cases hh
theorem zm_ob_of {h : zm_H} {a ci : Nat} {k : List Value → Option zm_R} {r : zm_R} (hh : zm_ob h a ci k = some r) : ∃ fs, zm_get h a = some (.inr (ci, fs)) ∧ k fs = some r := by
  unfold zm_ob at hh
  split at hh
  · next cc fs q =>
    cases e : Nat.beq cc ci with
    | true => rw [e] at hh; rw [Nat.eq_of_beq_eq_true e] at q; exact ⟨_, q, hh⟩
    | false => rw [e] at hh; cases hh
  · cases hh
theorem zm_ov_of {α : Type} {o : Option α} {k : α → Option zm_R} {r : zm_R} (h : zm_ov o k = some r) : ∃ v, o = some v ∧ k v = some r := by
  unfold zm_ov at h
  split at h
  · exact ⟨_, rfl, h⟩
  · cases h
theorem zm_bif_of {b : Bool} {x : Option zm_R} {r : zm_R} (h : (bif b then x else none) = some r) : b = true ∧ x = some r := by
  cases b with
  | true => exact ⟨rfl, h⟩
  | false => cases h
theorem zm_bnf_of {b : Bool} {x : Option zm_R} {r : zm_R} (h : (bif b then none else x) = some r) : b = false ∧ x = some r := by
  cases b with
  | true => cases h
  | false => exact ⟨rfl, h⟩
theorem zm_in_of {i : Int32} {n : Nat} (h : zm_in i n = true) : vp_in i n := by
  unfold zm_in at h
  exact (of_decide_eq_true h : ¬ (i < 0 ∨ n ≤ i.toNatClampNeg))
theorem zm_bif2 {b : Bool} {x y : Option zm_R} {r : zm_R} (h : (bif b then x else y) = some r) : (b = true ∧ x = some r) ∨ (b = false ∧ y = some r) := by
  cases b with
  | true => exact Or.inl ⟨rfl, h⟩
  | false => exact Or.inr ⟨rfl, h⟩
end
section
theorem zm_sw_of {x : Int32} {go : Nat → Option zm_R} {d : Nat} {r : zm_R} : ∀ (ps : List (Int × Nat)), zm_sw x go d ps = some r → (∃ (j : Nat) (k : Int) (t : Nat), ps[j]? = some (k, t) ∧ x.toInt = k ∧ go t = some r) ∨ ((∀ (j : Nat) (k : Int) (t : Nat), ps[j]? = some (k, t) → x.toInt ≠ k) ∧ go d = some r)
  | [], h => Or.inr ⟨fun j k t q => by simp at q, h⟩
  | (k, t) :: ps, h => by
    unfold zm_sw at h
    rcases zm_bif2 h with ⟨h1, h2⟩ | ⟨h1, h2⟩
    · exact Or.inl ⟨0, k, t, rfl, of_decide_eq_true h1, h2⟩
    · rcases zm_sw_of ps h2 with ⟨j, k2, t2, a, b, c⟩ | ⟨a, b⟩
      · exact Or.inl ⟨j + 1, k2, t2, by simpa using a, b, c⟩
      · refine Or.inr ⟨fun j k2 t2 q => ?_, b⟩
        cases j with
        | zero =>
          simp only [List.getElem?_cons_zero, Option.some.injEq, Prod.mk.injEq] at q
          rw [← q.1]
          exact of_decide_eq_false h1
        | succ j => exact a j k2 t2 (by simpa using q)
theorem zm_tab_of {pc : Nat} {dflt lo hi : Int} {offs : List Int} {d : Nat} {ps : List (Int × Nat)} (h : zm_tab pc dflt lo hi offs d ps) {x : Int32} (hn : ∀ (j : Nat) (k : Int) (t : Nat), ps[j]? = some (k, t) → x.toInt ≠ k) : x.toInt < lo ∨ hi < x.toInt := by
  obtain ⟨-, h1, h2, h3⟩ := h
  rcases Int.lt_or_le x.toInt lo with q | q
  · exact Or.inl q
  · right
    rcases Int.lt_or_le hi x.toInt with q2 | q2
    · exact q2
    · exfalso
      have hj : (x.toInt - lo).toNat < ps.length := by omega
      rcases hp : ps[(x.toInt - lo).toNat] with ⟨k, t⟩
      have hq : ps[(x.toInt - lo).toNat]? = some (k, t) := by rw [List.getElem?_eq_getElem hj, hp]
      have := (h3 _ _ _ hq).1
      exact hn _ _ _ hq (by omega)
theorem zm_look_off {pc : Nat} {x : Int} : ∀ (prs : List (Int × Int)) (ps : List (Int × Nat)), ps.map (fun q => (q.1, (q.2 : Int))) = prs.map (fun q => (q.1, (pc : Int) + q.2)) → ∀ (dflt : Int) (go : Nat → Option zm_R) (d : Nat) (r : zm_R) (y : Int32), y.toInt = x → (pc : Int) + dflt = (d : Int) → zm_sw y go d ps = some r → ∃ t : Nat, (pc : Int) + Op.lookupswitch.offset prs dflt x = (t : Int) ∧ go t = some r
  | [], [], _, dflt, go, d, r, y, hy, hd, h => ⟨d, by rw [Op.lookupswitch.offset_nil]; exact hd, h⟩
  | [], _ :: _, hm, _, _, _, _, _, _, _, _ => by simp at hm
  | _ :: _, [], hm, _, _, _, _, _, _, _, _ => by simp at hm
  | (a, o) :: prs, (k, t) :: ps, hm, dflt, go, d, r, y, hy, hd, h => by
    simp only [List.map_cons, List.cons.injEq, Prod.mk.injEq] at hm
    unfold zm_sw at h
    rw [Op.lookupswitch.offset_cons]
    rcases zm_bif2 h with ⟨h1, h2⟩ | ⟨h1, h2⟩
    · have e := of_decide_eq_true h1
      refine ⟨t, ?_, h2⟩
      rw [if_pos (by rw [← hy, e, hm.1.1])]
      exact hm.1.2.symm
    · have e := of_decide_eq_false h1
      obtain ⟨t2, g1, g2⟩ := zm_look_off prs ps hm.2 dflt go d r y hy hd h2
      refine ⟨t2, ?_, g2⟩
      rw [if_neg (by rw [← hy, ← hm.1.1]; exact fun q => e q.symm)]
      exact g1
theorem zm_catsum (ρ : Nat → Nat) (st : List Value) : ((st.map (zm_v ρ)).map fun v => v.category).sum = (st.map fun v => v.category).sum := by
  rw [List.map_map]
  congr 1
  exact List.map_congr_left fun v _ => zm_cat ρ v
section ZMS
variable {p : Program} {l : Launch} {e : Env} {R : Room} {s : State} {m : MethodId} {args : Array Value} {below : List Frame} {meth : Method} {c : Code} {cells slots : Nat} {Q : State → Prop} {own : String} {cc : ByteArray} {nL : Nat} {rb : Bool} {sc : zm_S} {ρ : Nat → Nat} {dA : Nat → ClassId} {D : va_G} {A : Nat → Prop} {C : zm_C} {G : zm_G} {r : zm_R}
/-- how a body may end -/
def zm_end (rb : Bool) (ins : Instr) (v : Option Value) (st : List Value) : Prop :=
  (ins = .ireturn ∧ ∃ x : Int32, v = some (.int x) ∧ st = [.int x] ∧ (rb = true → x = 0 ∨ x = 1)) ∨ (ins = .lreturn ∧ ∃ x : Int64, v = some (.long x) ∧ st = [.long x]) ∨ (ins = .return_ ∧ v = none ∧ st = [])
theorem zm_01_of {x : Int32} (h : zm_01 x = true) : x = 0 ∨ x = 1 := by
  unfold zm_01 at h
  simpa using h
set_option maxHeartbeats 4000000 in
set_option maxRecDepth 100000 in
theorem zm_do_sound (X : zm_Cx p R s m args c own cc nL sc ρ dA D A) (hcs : cells ≤ R.cells ∧ slots ≤ R.slots) {i : zm_I} {pc : Nat} {lv : zm_L} {st : List Value} {h : zm_H} (hdg : decode cc pc = .ok (i.1, zm_ln i.1 i.2.1)) (hk : zm_lk own pc i) (hd : zm_do rb sc C G i pc lv st h = some r)
    (hCall : ∀ (idx x1 x2 x3 : Nat) (len : Nat) (ps : List (Int × Nat)) (vi : Bool) (ar : List Value × List Value) (v : Option Value) (h1 : zm_H) (ls : Array Slot) (H : Heap) (locs : List Loc), i = ((if vi then Instr.invokevirtual idx else Instr.invokestatic idx), len, x1, x2, x3, ps) → x1 < 9990 → zm_args x2 [] st = some ar → (ar.2.map fun v => v.category).sum ≤ 8 → (vi = true → zm_rc ar.1 len = true) → C x1 ar.1 h = some (v, h1) → zm_has ρ ls nL lv → zm_Rl s ρ dA D A h H locs →
      (∀ (H1 : Heap) (locs1 : List Loc), zm_Rl s ρ dA D A h1 H1 locs1 → W p l e R s m args below meth c H1 locs1 cells slots Q (F0 m (pc + 3) ls ((v.toList ++ ar.2).map (zm_v ρ)))) → W p l e R s m args below meth c H locs cells slots Q (F0 m pc ls (st.map (zm_v ρ))))
    (hret : ∀ (ins : Instr) (st : List Value) (ls : Array Slot) (H : Heap) (locs : List Loc), decode cc pc = .ok (ins, 1) → zm_end rb ins r.1 st → zm_Rl s ρ dA D A r.2 H locs → W p l e R s m args below meth c H locs cells slots Q (F0 m pc ls st))
    (hG : ∀ (pc : Nat) (lv : zm_L) (st : List Value) (h : zm_H) (ls : Array Slot) (H : Heap) (locs : List Loc), G pc lv st h = some r → zm_has ρ ls nL lv → zm_Rl s ρ dA D A h H locs → W p l e R s m args below meth c H locs cells slots Q (F0 m pc ls (st.map (zm_v ρ))))
    {ls : Array Slot} {H : Heap} {locs : List Loc} (hl : zm_has ρ ls nL lv) (hR : zm_Rl s ρ dA D A h H locs) : W p l e R s m args below meth c H locs cells slots Q (F0 m pc ls (st.map (zm_v ρ))) := by
  obtain ⟨hx, hb, hml, hown, hts, hK, hA, hZ, hX, hfr, hlo⟩ := X
  have hlv := zm_has_lv hl
  have hll := hl.2.1
  have hRr := hR
  obtain ⟨hT, hP, hD, hS⟩ := hRr
  obtain ⟨ins, len, x1, x2, x3, ps⟩ := i
  cases ins
  case iconst n => exact lv_iconst hx hb hdg rfl (hG _ _ _ _ _ _ _ hd hl hR)
  case bipush n => exact lv_bipush hx hb hdg rfl (hG _ _ _ _ _ _ _ hd hl hR)
  case sipush n => exact lv_sipush hx hb hdg rfl (hG _ _ _ _ _ _ _ hd hl hR)
  case lconst n => exact lv_lconst hx hb hdg rfl (hG _ _ _ _ _ _ _ hd hl hR)
  case ldc idx =>
    obtain ⟨q, h1, h2⟩ := zm_ov_of hd
    exact lv_ldc hx hb hown (hts _ (hk q h1)) hdg (hG _ _ _ _ _ _ _ h2 hl hR)
  case ldc_w idx =>
    obtain ⟨q, h1, h2⟩ := zm_ov_of hd
    exact lv_ldcw hx hb hown (hts _ (hk q h1)) hdg (hG _ _ _ _ _ _ _ h2 hl hR)
  case ldc2_w idx =>
    obtain ⟨q, h1, h2⟩ := zm_ov_of hd
    exact lv_ldc2 hx hb hown (hts _ (hk q h1)) hdg (hG _ _ _ _ _ _ _ h2 hl hR)
  case iload_n k =>
    obtain ⟨x, h1, h2⟩ := zm_iload_of hd
    exact lv_iload_n hx hb hdg rfl (hl.2.2.2 _ _ h1) (hG _ _ _ _ _ _ _ h2 hl hR)
  case iload k =>
    obtain ⟨x, h1, h2⟩ := zm_iload_of hd
    exact lv_iload hx hb hdg (hl.2.2.2 _ _ h1) (hG _ _ _ _ _ _ _ h2 hl hR)
  case lload_n k =>
    obtain ⟨x, h1, h2⟩ := zm_lload_of hd
    exact lv_lload_n hx hb hdg rfl (hl.2.2.2 _ _ h1) (hG _ _ _ _ _ _ _ h2 hl hR)
  case lload k =>
    obtain ⟨x, h1, h2⟩ := zm_lload_of hd
    exact lv_lload hx hb hdg (hl.2.2.2 _ _ h1) (hG _ _ _ _ _ _ _ h2 hl hR)
  case aload_n k =>
    obtain ⟨x, h1, h2⟩ := zm_aload_of hd
    exact lv_aload_n hx hb hdg rfl (hl.2.2.2 _ _ h1) (hG _ _ _ _ _ _ _ h2 hl hR)
  case aload k =>
    obtain ⟨x, h1, h2⟩ := zm_aload_of hd
    exact lv_aload hx hb hdg (hl.2.2.2 _ _ h1) (hG _ _ _ _ _ _ _ h2 hl hR)
  case istore_n k =>
    obtain ⟨x, t, rfl, h1⟩ := zm_p1_of hd
    obtain ⟨h1, h2⟩ := zm_bif_of h1
    exact lv_istore_n hx hb hdg rfl hlv (by rw [← hll]; exact Nat.le_of_ble_eq_true h1) rfl (fun ls' hl' => hG _ _ _ _ _ _ _ h2 (zm_has_st1 (v := .int x) hll hl') hR)
  case istore k =>
    obtain ⟨x, t, rfl, h1⟩ := zm_p1_of hd
    obtain ⟨h1, h2⟩ := zm_bif_of h1
    exact lv_istore hx hb hdg hlv (by rw [← hll]; exact Nat.le_of_ble_eq_true h1) rfl (fun ls' hl' => hG _ _ _ _ _ _ _ h2 (zm_has_st1 (v := .int x) hll hl') hR)
  case astore_n k =>
    obtain ⟨x, t, rfl, h1⟩ := zm_a1_of hd
    obtain ⟨h1, h2⟩ := zm_bif_of h1
    exact lv_astore_n hx hb hdg rfl hlv (by rw [← hll]; exact Nat.le_of_ble_eq_true h1) rfl (fun ls' hl' => hG _ _ _ _ _ _ _ h2 (zm_has_st1 (v := .ref x) hll hl') hR)
  case astore k =>
    obtain ⟨x, t, rfl, h1⟩ := zm_a1_of hd
    obtain ⟨h1, h2⟩ := zm_bif_of h1
    exact lv_astore hx hb hdg hlv (by rw [← hll]; exact Nat.le_of_ble_eq_true h1) rfl (fun ls' hl' => hG _ _ _ _ _ _ _ h2 (zm_has_st1 (v := .ref x) hll hl') hR)
  case lstore_n k =>
    obtain ⟨x, t, rfl, h1⟩ := zm_q1_of hd
    obtain ⟨h1, h2⟩ := zm_bif_of h1
    exact lv_lstore_n hx hb hdg rfl hlv (by rw [← hll]; exact Nat.le_of_ble_eq_true h1) rfl (fun ls' hl' => hG _ _ _ _ _ _ _ h2 (zm_has_st2 (v := .long x) hll hl') hR)
  case lstore k =>
    obtain ⟨x, t, rfl, h1⟩ := zm_q1_of hd
    obtain ⟨h1, h2⟩ := zm_bif_of h1
    exact lv_lstore hx hb hdg hlv (by rw [← hll]; exact Nat.le_of_ble_eq_true h1) rfl (fun ls' hl' => hG _ _ _ _ _ _ _ h2 (zm_has_st2 (v := .long x) hll hl') hR)
  case iinc k n =>
    obtain ⟨x, h0, h1⟩ := zm_iload_of hd
    obtain ⟨h1, h2⟩ := zm_bif_of h1
    have hm : (k, Value.int x) ∈ zm_as ρ lv := zm_as_mem.mpr ⟨.int x, h0, rfl⟩
    obtain ⟨j, hj⟩ := List.getElem?_of_mem hm
    exact lv_iinc hx hb hdg hlv hj rfl (by rw [← hll]; exact Nat.le_of_ble_eq_true h1) rfl (fun ls' hl' => hG _ _ _ _ _ _ _ h2 (zm_has_st1 (v := .int (x + Int32.ofInt n)) hll hl') hR)
  case iadd => obtain ⟨x, y, t, rfl, h1⟩ := zm_p2_of hd; exact lv_iadd hx hb hdg (hG _ _ _ _ _ _ _ h1 hl hR)
  case isub => obtain ⟨x, y, t, rfl, h1⟩ := zm_p2_of hd; exact lv_isub hx hb hdg (hG _ _ _ _ _ _ _ h1 hl hR)
  case imul => obtain ⟨x, y, t, rfl, h1⟩ := zm_p2_of hd; exact lv_imul hx hb hdg (hG _ _ _ _ _ _ _ h1 hl hR)
  case iand => obtain ⟨x, y, t, rfl, h1⟩ := zm_p2_of hd; exact lv_iand hx hb hdg (hG _ _ _ _ _ _ _ h1 hl hR)
  case ior => obtain ⟨x, y, t, rfl, h1⟩ := zm_p2_of hd; exact lv_ior hx hb hdg (hG _ _ _ _ _ _ _ h1 hl hR)
  case ixor => obtain ⟨x, y, t, rfl, h1⟩ := zm_p2_of hd; exact lv_ixor hx hb hdg (hG _ _ _ _ _ _ _ h1 hl hR)
  case idiv =>
    obtain ⟨x, y, t, rfl, h1⟩ := zm_p2_of hd
    obtain ⟨h1, h2⟩ := zm_bnf_of h1
    exact lv_idiv hx hb hdg (of_decide_eq_false h1) (hG _ _ _ _ _ _ _ h2 hl hR)
  case irem =>
    obtain ⟨x, y, t, rfl, h1⟩ := zm_p2_of hd
    obtain ⟨h1, h2⟩ := zm_bnf_of h1
    exact lv_irem hx hb hdg (of_decide_eq_false h1) (hG _ _ _ _ _ _ _ h2 hl hR)
  case ineg => obtain ⟨x, t, rfl, h1⟩ := zm_p1_of hd; exact lv_ineg hx hb hdg (hG _ _ _ _ _ _ _ h1 hl hR)
  case ishl => obtain ⟨x, y, t, rfl, h1⟩ := zm_p2_of hd; exact lv_ishl hx hb hdg (hG _ _ _ _ _ _ _ h1 hl hR)
  case ishr => obtain ⟨x, y, t, rfl, h1⟩ := zm_p2_of hd; exact lv_ishr hx hb hdg (hG _ _ _ _ _ _ _ h1 hl hR)
  case iushr => obtain ⟨x, y, t, rfl, h1⟩ := zm_p2_of hd; exact lv_iushr hx hb hdg rfl (hG _ _ _ _ _ _ _ h1 hl hR)
  case ladd => obtain ⟨x, y, t, rfl, h1⟩ := zm_q2_of hd; exact lv_ladd hx hb hdg (hG _ _ _ _ _ _ _ h1 hl hR)
  case lsub => obtain ⟨x, y, t, rfl, h1⟩ := zm_q2_of hd; exact lv_lsub hx hb hdg (hG _ _ _ _ _ _ _ h1 hl hR)
  case lmul => obtain ⟨x, y, t, rfl, h1⟩ := zm_q2_of hd; exact lv_lmul hx hb hdg (hG _ _ _ _ _ _ _ h1 hl hR)
  case land => obtain ⟨x, y, t, rfl, h1⟩ := zm_q2_of hd; exact lv_land hx hb hdg (hG _ _ _ _ _ _ _ h1 hl hR)
  case lor => obtain ⟨x, y, t, rfl, h1⟩ := zm_q2_of hd; exact lv_lor hx hb hdg (hG _ _ _ _ _ _ _ h1 hl hR)
  case ldiv =>
    obtain ⟨x, y, t, rfl, h1⟩ := zm_q2_of hd
    obtain ⟨h1, h2⟩ := zm_bnf_of h1
    exact lv_ldiv hx hb hdg (of_decide_eq_false h1) (hG _ _ _ _ _ _ _ h2 hl hR)
  case lrem =>
    obtain ⟨x, y, t, rfl, h1⟩ := zm_q2_of hd
    obtain ⟨h1, h2⟩ := zm_bnf_of h1
    exact lv_lrem hx hb hdg (of_decide_eq_false h1) (hG _ _ _ _ _ _ _ h2 hl hR)
  case lneg => obtain ⟨x, t, rfl, h1⟩ := zm_q1_of hd; exact lv_lneg hx hb hdg (hG _ _ _ _ _ _ _ h1 hl hR)
  case lshl => obtain ⟨x, y, t, rfl, h1⟩ := zm_qs_of hd; exact lv_lshl hx hb hdg rfl (hG _ _ _ _ _ _ _ h1 hl hR)
  case lushr => obtain ⟨x, y, t, rfl, h1⟩ := zm_qs_of hd; exact lv_lushr hx hb hdg rfl (hG _ _ _ _ _ _ _ h1 hl hR)
  case lcmp => obtain ⟨x, y, t, rfl, h1⟩ := zm_q2_of hd; exact W.lcmp hx hb hdg (hG _ _ _ _ _ _ _ h1 hl hR)
  case i2l => obtain ⟨x, t, rfl, h1⟩ := zm_p1_of hd; exact lv_i2l hx hb hdg rfl (hG _ _ _ _ _ _ _ h1 hl hR)
  case l2i => obtain ⟨x, t, rfl, h1⟩ := zm_q1_of hd; exact lv_l2i hx hb hdg rfl (hG _ _ _ _ _ _ _ h1 hl hR)
  case dup =>
    cases st with
    | nil => cases hd
    | cons a t =>
      obtain ⟨h1, h2⟩ := zm_bif_of hd
      exact lv_dup hx hb hdg (by rw [zm_cat]; exact Nat.eq_of_beq_eq_true h1) (hG _ _ _ _ _ _ _ h2 hl hR)
  case pop =>
    cases st with
    | nil => cases hd
    | cons a t =>
      obtain ⟨h1, h2⟩ := zm_bif_of hd
      exact lv_pop hx hb hdg (by rw [zm_cat]; exact Nat.eq_of_beq_eq_true h1) (hG _ _ _ _ _ _ _ h2 hl hR)
  case dup_x1 =>
    rcases st with - | ⟨a, - | ⟨b, t⟩⟩
    · cases hd
    · cases hd
    · obtain ⟨h1, h2⟩ := zm_bif_of hd
      obtain ⟨h1, h3⟩ := Bool.and_eq_true_iff.mp h1
      exact lv_dup_x1 hx hb hdg (by rw [zm_cat]; exact Nat.eq_of_beq_eq_true h1) (by rw [zm_cat]; exact Nat.eq_of_beq_eq_true h3) (hG _ _ _ _ _ _ _ h2 hl hR)
  case dup2 =>
    rcases st with - | ⟨a, - | ⟨b, t⟩⟩
    · cases hd
    · cases hd
    · obtain ⟨h1, h2⟩ := zm_bif_of hd
      obtain ⟨h1, h3⟩ := Bool.and_eq_true_iff.mp h1
      exact lv_dup2_11 hx hb hdg (by rw [zm_cat]; exact Nat.eq_of_beq_eq_true h1) (by rw [zm_cat]; exact Nat.eq_of_beq_eq_true h3) (hG _ _ _ _ _ _ _ h2 hl hR)
  case if_icmp cd off =>
    obtain ⟨x, y, t, rfl, h1⟩ := zm_p2_of hd
    rcases zm_bif2 h1 with ⟨h1, h2⟩ | ⟨h1, h2⟩
    · have kk := hG _ _ _ _ _ _ _ h2 hl hR
      cases cd
      · exact lv_icmp_eq hx hb hdg hk (fun _ => kk) (fun q => absurd (of_decide_eq_true h1) q)
      · exact lv_icmp_ne hx hb hdg hk (fun _ => kk) (fun q => absurd q (of_decide_eq_true h1))
      · exact lv_icmp_lt hx hb hdg hk (fun _ => kk) (fun q => absurd (of_decide_eq_true h1) q)
      · exact lv_icmp_ge hx hb hdg hk (fun _ => kk) (fun q => absurd (of_decide_eq_true h1) q)
      · exact lv_icmp_gt hx hb hdg hk (fun _ => kk) (fun q => absurd (of_decide_eq_true h1) q)
      · exact lv_icmp_le hx hb hdg hk (fun _ => kk) (fun q => absurd (of_decide_eq_true h1) q)
    · have kk := hG _ _ _ _ _ _ _ h2 hl hR
      cases cd
      · exact lv_icmp_eq hx hb hdg hk (fun q => absurd q (of_decide_eq_false h1)) (fun _ => kk)
      · exact lv_icmp_ne hx hb hdg hk (fun q => absurd q (of_decide_eq_false h1)) (fun _ => kk)
      · exact lv_icmp_lt hx hb hdg hk (fun q => absurd q (of_decide_eq_false h1)) (fun _ => kk)
      · exact lv_icmp_ge hx hb hdg hk (fun q => absurd q (of_decide_eq_false h1)) (fun _ => kk)
      · exact lv_icmp_gt hx hb hdg hk (fun q => absurd q (of_decide_eq_false h1)) (fun _ => kk)
      · exact lv_icmp_le hx hb hdg hk (fun q => absurd q (of_decide_eq_false h1)) (fun _ => kk)
  case ifCond cd off =>
    obtain ⟨x, t, rfl, h1⟩ := zm_p1_of hd
    rcases zm_bif2 h1 with ⟨h1, h2⟩ | ⟨h1, h2⟩
    · have kk := hG _ _ _ _ _ _ _ h2 hl hR
      cases cd
      · exact lv_if_eq hx hb hdg hk (fun _ => kk) (fun q => absurd (of_decide_eq_true h1) q)
      · exact lv_if_ne hx hb hdg hk (fun _ => kk) (fun q => absurd q (of_decide_eq_true h1))
      · exact lv_if_lt hx hb hdg hk (fun _ => kk) (fun q => absurd (of_decide_eq_true h1) q)
      · exact lv_if_ge hx hb hdg hk (fun _ => kk) (fun q => absurd (of_decide_eq_true h1) q)
      · exact lv_if_gt hx hb hdg hk (fun _ => kk) (fun q => absurd (of_decide_eq_true h1) q)
      · exact lv_if_le hx hb hdg hk (fun _ => kk) (fun q => absurd (of_decide_eq_true h1) q)
    · have kk := hG _ _ _ _ _ _ _ h2 hl hR
      cases cd
      · exact lv_if_eq hx hb hdg hk (fun q => absurd q (of_decide_eq_false h1)) (fun _ => kk)
      · exact lv_if_ne hx hb hdg hk (fun q => absurd q (of_decide_eq_false h1)) (fun _ => kk)
      · exact lv_if_lt hx hb hdg hk (fun q => absurd q (of_decide_eq_false h1)) (fun _ => kk)
      · exact lv_if_ge hx hb hdg hk (fun q => absurd q (of_decide_eq_false h1)) (fun _ => kk)
      · exact lv_if_gt hx hb hdg hk (fun q => absurd q (of_decide_eq_false h1)) (fun _ => kk)
      · exact lv_if_le hx hb hdg hk (fun q => absurd q (of_decide_eq_false h1)) (fun _ => kk)
  case goto off => exact lv_goto hx hb hdg hk (hG _ _ _ _ _ _ _ hd hl hR)
  case tableswitch d lo hi offs =>
    obtain ⟨x, t, rfl, h1⟩ := zm_p1_of hd
    rcases zm_sw_of ps h1 with ⟨j, k, tg, a1, a2, a3⟩ | ⟨a1, a2⟩
    · obtain ⟨-, b1, b2, b3⟩ := id hk
      obtain ⟨c1, off, c2, c3⟩ := b3 j k tg a1
      have hj : j < offs.toList.length := (List.getElem?_eq_some_iff.mp c2).1
      refine lv_tableIn (off := off) (tgt := tg) hx hb hdg (by omega) (by omega) ?_ c3 (hG _ _ _ _ _ _ _ a3 hl hR)
      rw [show (x.toInt - lo).toNat = j by omega, ← Array.getElem?_toList]
      exact c2
    · exact lv_tableOut hx hb hdg (zm_tab_of hk a1) hk.1 (hG _ _ _ _ _ _ _ a2 hl hR)
  case lookupswitch d prs =>
    obtain ⟨x, t, rfl, h1⟩ := zm_p1_of hd
    obtain ⟨tg, g1, g2⟩ := zm_look_off (pc := pc) (x := x.toInt) prs.toList ps hk.2.2 d _ x1 r x rfl hk.1 h1
    exact lv_lookup hx hb hdg hk.2.1 rfl g1 (hG _ _ _ _ _ _ _ g2 hl hR)
  case arraylength =>
    obtain ⟨a, t, rfl, h1⟩ := zm_a1_of hd
    cases hro : zm_ro sc a with
    | some nf =>
      obtain ⟨n, f⟩ := nf
      rw [hro] at h1
      obtain ⟨cell, t1, t2, t3, t4, t5, t6, t7⟩ := hX a n f hro
      have hlt := (Array.getElem?_eq_some_iff.mp t1).1
      exact W.alen (n := Int32.ofNat n) hx hb (by rw [hS.2.1 _ hlt t7]; exact t1) t2 t5 rfl rfl hdg (hG _ _ _ _ _ _ _ h1 hl hR)
    | none =>
      rw [hro] at h1
      obtain ⟨n, f, g1, g2⟩ := zm_ia_of h1
      exact va_alen hx hb hK hP _ 0 (zm_w_get g1) rfl rfl hdg (hG _ _ _ _ _ _ _ g2 hl hR)
  case iaload =>
    obtain ⟨a, i, t, rfl, h1⟩ := zm_ix_of hd
    unfold zm_ld at h1
    cases hro : zm_ro sc a with
    | some nf =>
      obtain ⟨n, f⟩ := nf
      rw [hro] at h1
      obtain ⟨h1, h2⟩ := zm_bif_of h1
      obtain ⟨cell, t1, t2, t3, t4, t5, t6, t7⟩ := hX a n f hro
      have hlt := (Array.getElem?_eq_some_iff.mp t1).1
      have hin := zm_in_of h1
      have hin' : ¬ (i < 0 ∨ n ≤ i.toNatClampNeg) := hin
      have hi : i.toNatClampNeg < n := Nat.not_le.mp fun q => hin' (Or.inr q)
      exact W.iald (v := .int (f i.toNatClampNeg)) hx hb (by rw [hS.2.1 _ hlt t7]; exact t1) t2 t3 (fun q => hin' (q.elim Or.inl (fun q => Or.inr (by omega)))) (t6 _ hi) rfl rfl hdg (hG _ _ _ _ _ _ _ h2 hl hR)
    | none =>
      rw [hro] at h1
      obtain ⟨n, f, g1, g2⟩ := zm_ia_of h1
      obtain ⟨h1, h2⟩ := zm_bif_of g2
      exact va_iald hx hb hK hP _ 0 (zm_w_get g1) rfl (zm_in_of h1) hdg (hG _ _ _ _ _ _ _ h2 hl hR)
  case laload =>
    obtain ⟨a, i, t, rfl, h1⟩ := zm_ix_of hd
    obtain ⟨n, f, g1, g2⟩ := zm_ja_of h1
    obtain ⟨h1, h2⟩ := zm_bif_of g2
    exact va_lald hx hb hK hP _ 1 (zm_w_get g1) rfl (zm_in_of h1) hdg (hG _ _ _ _ _ _ _ h2 hl hR)
  case aaload =>
    obtain ⟨a, i, t, rfl, h1⟩ := zm_ix_of hd
    obtain ⟨n, f, g1, g2⟩ := zm_aa_of h1
    obtain ⟨h1, h2⟩ := zm_bif_of g2
    obtain ⟨q, h3, h4⟩ := zm_ov_of h2
    have hin := zm_in_of h1
    have hlt : i.toNatClampNeg < n := Nat.not_le.mp fun q => hin (Or.inr q)
    have ha := zm_w_get (ρ := ρ) (dA := dA) g1
    exact W.aald (v := .ref (ρ q)) (ty := .array .int) hx hb (hP _ _ ha) ((hK.2 2 _ rfl).1 n (fun j => va_rf ((f j).map ρ))) rfl (fun q => by cases q) (by show ¬ (i < 0 ∨ (arrV _ _ _).slots.size ≤ _); rw [arrV_size]; exact hin) (by show (arrV (dA 2) n (fun j => va_rf ((f j).map ρ))).slots[i.toNatClampNeg]? = _; rw [arrV_read _ _ hlt, h3]; rfl) rfl rfl hdg (hG _ _ _ _ _ _ _ h4 hl hR)
  case iastore =>
    obtain ⟨a, i, x, t, rfl, h1⟩ := zm_is_of hd
    obtain ⟨n, f, g1, g2⟩ := zm_ia_of h1
    obtain ⟨h1, h2⟩ := zm_bif_of g2
    refine va_iast hx hb hK hP hD hS _ 0 (zm_w_get g1) rfl (zm_in_of h1) hdg (fun H1 locs1 hP1 hD1 hS1 => hG _ _ _ _ _ _ _ h2 hl ⟨zm_ty_arr g1 hT, ?_, ?_, hS1⟩)
    · rw [zm_w_set g1]; exact hP1
    · rw [zm_w_set g1]; exact hD1
  case lastore =>
    obtain ⟨a, i, x, t, rfl, h1⟩ := zm_js_of hd
    obtain ⟨n, f, g1, g2⟩ := zm_ja_of h1
    obtain ⟨h1, h2⟩ := zm_bif_of g2
    refine va_last hx hb hK hP hD hS _ 1 (zm_w_get g1) rfl (zm_in_of h1) hdg (fun H1 locs1 hP1 hD1 hS1 => hG _ _ _ _ _ _ _ h2 hl ⟨zm_ty_arr g1 hT, ?_, ?_, hS1⟩)
    · rw [zm_w_set g1]; exact hP1
    · rw [zm_w_set g1]; exact hD1
  case getfield idx =>
    obtain ⟨a, t, rfl, h1⟩ := zm_a1_of hd
    obtain ⟨fs, g1, g2⟩ := zm_ob_of h1
    obtain ⟨v, h3, h4⟩ := zm_ov_of g2
    obtain ⟨Cn, Tn, N, k1, k2, k3, k4⟩ := hk
    exact va_get hx hb hts k3 hown hK hP _ (zm_w_get g1) k1 x2 k2 (hts _ k4) (fun _ h9 => h9) (by rw [List.getElem?_map, h3]; rfl) hdg (hG _ _ _ _ _ _ _ h4 hl hR)
  case putfield idx =>
    obtain ⟨a, x, t, rfl, h1⟩ := zm_ps_of hd
    obtain ⟨fs, g1, g2⟩ := zm_ob_of h1
    obtain ⟨h1, h2⟩ := zm_bif_of g2
    obtain ⟨h3, h4⟩ := Bool.and_eq_true_iff.mp h1
    obtain ⟨Cn, Tn, N, ty0, k1, k2, k3, k4, k5, k6, k7, k8⟩ := hk
    have hfit : narrow (ty0 x2) (.int x) = .int x ∧ fits (ty0 x2) (.int x) = true := by
      rcases k8 with ⟨e1, e2⟩ | ⟨e1, e2⟩
      · rw [e1]; exact ⟨rfl, rfl⟩
      · rw [e1]
        rw [e2] at h4
        rcases zm_01_of (show zm_01 x = true from h4) with rfl | rfl <;> decide
    refine va_put hx hb hts k3 ty0 k5 k6 hown hK hP hD hS _ (zm_w_get g1) k1 x2 k2 (hts _ k4) (fun _ h9 => h9) k7 (k5 x2 k2) hfit.1 hfit.2 (by rw [List.length_map]; exact Nat.le_of_ble_eq_true h3) hdg (fun H1 locs1 hP1 hD1 hS1 => hG _ _ _ _ _ _ _ h2 hl ⟨zm_ty_obj g1 hT, ?_, ?_, hS1⟩)
    · rw [zm_w_set g1]; show va_P _ _ ((zm_w ρ dA h).set _ (ρ a, .inr (x1, (fs.set x2 (.int x)).map (zm_v ρ)))) H1; rw [List.map_set]; exact hP1
    · rw [zm_w_set g1]; show va_D _ ((zm_w ρ dA h).set _ (ρ a, .inr (x1, (fs.set x2 (.int x)).map (zm_v ρ)))); rw [List.map_set]; exact hD1
  case getstatic idx => exact va_gets hx hb hZ hS hown (hts _ hk) (fun _ h9 => h9) hdg (hG _ _ _ _ _ _ _ hd hl hR)
  case invokestatic idx =>
    rcases zm_bif2 hd with ⟨e, hd⟩ | ⟨e, hd⟩
    · rcases zm_bif2 hd with ⟨e1, hd⟩ | ⟨e1, hd⟩
      · obtain ⟨a, sp, b, dp, n, t, rfl, h1⟩ := zm_cy_of hd
        obtain ⟨h0, h1⟩ := zm_bif_of h1
        obtain ⟨n0, f, g1, h1⟩ := zm_ia_of h1
        obtain ⟨n1, g, g2, h1⟩ := zm_ia_of h1
        obtain ⟨h1, h2⟩ := zm_bif_of h1
        simp only [Bool.and_eq_true, decide_eq_true_eq] at h1
        obtain ⟨⟨⟨⟨u1, u2⟩, u3⟩, u4⟩, u5⟩ := h1
        obtain ⟨w1, w2, w3, w4⟩ := hk.2.1 (Nat.eq_of_beq_eq_true e1)
        refine va_copyi hx hb (hml.trans hl.1.symm) hown (hts _ w1) (hts _ w2) (hts _ w3) (hts _ w4) hK hP hD hS _ _ 0 0 (zm_w_get g1) (zm_w_get g2) rfl rfl rfl u1 u2 u3 (Nat.le_of_ble_eq_true u4) (Nat.le_of_ble_eq_true u5) (fun _ _ => rfl) hfr ?_ hdg (fun H1 locs1 hP1 hD1 hS1 => hG _ _ _ _ _ _ _ h2 hl ⟨zm_ty_arr g2 hT, ?_, ?_, hS1⟩)
        · have := Nat.le_of_ble_eq_true h0
          have h9 : nativeFrameWords "java/lang/System" "arraycopy" 5 + 11 ≤ 52 := by decide
          rw [show ((List.map (zm_v ρ) t).map fun v => v.category).sum = (t.map fun v => v.category).sum from zm_catsum ρ t]
          omega
        · rw [zm_w_set g2]; exact hP1
        · rw [zm_w_set g2]; exact hD1
      · rcases zm_bif2 hd with ⟨e2, hd⟩ | ⟨e2, hd⟩
        · obtain ⟨x, y, t, rfl, h1⟩ := zm_p2_of hd
          obtain ⟨h0, h2⟩ := zm_bif_of h1
          have h0 := Nat.le_of_ble_eq_true h0
          obtain ⟨w1, w2, w3, w4⟩ := hk.2.2.1 (Nat.eq_of_beq_eq_true e2)
          exact va_mmin hx hb (hml.trans hl.1.symm) hown (hts _ w1) (hts _ w2) (hts _ w3) (hts _ w4) hfr (by rw [show ((List.map (zm_v ρ) t).map fun v => v.category).sum = (t.map fun v => v.category).sum from zm_catsum ρ t]; omega) hcs.1 hcs.2 hdg (hG _ _ _ _ _ _ _ h2 hl hR)
        · obtain ⟨x, y, t, rfl, h1⟩ := zm_p2_of hd
          obtain ⟨h0, h2⟩ := zm_bif_of h1
          have h0 := Nat.le_of_ble_eq_true h0
          have n1 := Nat.ne_of_beq_eq_false e1
          have n2 := Nat.ne_of_beq_eq_false e2
          have n3 := hk.1 (Nat.le_of_ble_eq_true e)
          obtain ⟨w1, w2, w3, w4⟩ := hk.2.2.2 (by omega)
          exact va_mmax hx hb (hml.trans hl.1.symm) hown (hts _ w1) (hts _ w2) (hts _ w3) (hts _ w4) hfr (by rw [show ((List.map (zm_v ρ) t).map fun v => v.category).sum = (t.map fun v => v.category).sum from zm_catsum ρ t]; omega) hcs.1 hcs.2 hdg (hG _ _ _ _ _ _ _ h2 hl hR)
    · have hne : x1 < 9990 := Nat.lt_of_not_le (fun q => by rw [Nat.ble_eq_true_of_le q] at e; cases e)
      obtain ⟨ar, h1, h2⟩ := zm_ov_of hd
      obtain ⟨h3, h2⟩ := zm_bif_of h2
      have h3 := Nat.le_of_ble_eq_true h3
      rcases zm_bif2 h2 with ⟨-, h2⟩ | ⟨-, h2⟩
      · unfold zm_c0 at h2
        split at h2
        · next h1' hC => exact hCall idx x1 x2 x3 len ps false ar none h1' ls H locs rfl hne h1 h3 (fun q => by cases q) hC hl hR (fun H1 locs1 hR1 => hG _ _ _ _ _ _ _ h2 hl hR1)
        · cases h2
      rcases zm_bif2 h2 with ⟨-, h2⟩ | ⟨-, h2⟩
      · unfold zm_c1 at h2
        split at h2
        · next x h1' hC => exact hCall idx x1 x2 x3 len ps false ar (some (.int x)) h1' ls H locs rfl hne h1 h3 (fun q => by cases q) hC hl hR (fun H1 locs1 hR1 => hG _ _ _ _ _ _ _ h2 hl hR1)
        · cases h2
      · unfold zm_c2 at h2
        split at h2
        · next x h1' hC => exact hCall idx x1 x2 x3 len ps false ar (some (.long x)) h1' ls H locs rfl hne h1 h3 (fun q => by cases q) hC hl hR (fun H1 locs1 hR1 => hG _ _ _ _ _ _ _ h2 hl hR1)
        · cases h2
  case invokevirtual idx =>
    obtain ⟨ar, h1, h2⟩ := zm_ov_of hd
    obtain ⟨h3, h2⟩ := zm_bif_of h2
    obtain ⟨h3, h4⟩ := Bool.and_eq_true_iff.mp h3
    have h3 := Nat.le_of_ble_eq_true h3
    obtain ⟨hne, h2⟩ := zm_bnf_of h2
    have hne : x1 < 9990 := Nat.lt_of_not_le (fun q => by rw [Nat.ble_eq_true_of_le q] at hne; cases hne)
    rcases zm_bif2 h2 with ⟨-, h2⟩ | ⟨-, h2⟩
    · unfold zm_c0 at h2
      split at h2
      · next h1' hC => exact hCall idx x1 x2 x3 len ps true ar none h1' ls H locs rfl hne h1 h3 (fun _ => h4) hC hl hR (fun H1 locs1 hR1 => hG _ _ _ _ _ _ _ h2 hl hR1)
      · cases h2
    rcases zm_bif2 h2 with ⟨-, h2⟩ | ⟨-, h2⟩
    · unfold zm_c1 at h2
      split at h2
      · next x h1' hC => exact hCall idx x1 x2 x3 len ps true ar (some (.int x)) h1' ls H locs rfl hne h1 h3 (fun _ => h4) hC hl hR (fun H1 locs1 hR1 => hG _ _ _ _ _ _ _ h2 hl hR1)
      · cases h2
    · unfold zm_c2 at h2
      split at h2
      · next x h1' hC => exact hCall idx x1 x2 x3 len ps true ar (some (.long x)) h1' ls H locs rfl hne h1 h3 (fun _ => h4) hC hl hR (fun H1 locs1 hR1 => hG _ _ _ _ _ _ _ h2 hl hR1)
      · cases h2
  case ireturn =>
    rcases st with - | ⟨a, - | ⟨b, t⟩⟩
    · cases hd
    · cases a
      case int x =>
        rcases zm_bif2 hd with ⟨h1, h2⟩ | ⟨h1, h2⟩
        · obtain ⟨h3, h2⟩ := zm_bif_of h2
          cases h2
          exact hret .ireturn _ _ _ _ hdg (Or.inl ⟨rfl, x, rfl, rfl, fun _ => zm_01_of h3⟩) hR
        · cases h2
          exact hret .ireturn _ _ _ _ hdg (Or.inl ⟨rfl, x, rfl, rfl, fun q => by rw [h1] at q; cases q⟩) hR
      all_goals cases hd
    · cases a <;> cases hd
  case lreturn =>
    rcases st with - | ⟨a, - | ⟨b, t⟩⟩
    · cases hd
    · cases a
      case long x =>
        cases hd
        exact hret .lreturn _ _ _ _ hdg (Or.inr (Or.inl ⟨rfl, x, rfl, rfl⟩)) hR
      all_goals cases hd
    · cases a <;> cases hd
  case return_ =>
    cases st with
    | nil =>
      cases hd
      exact hret .return_ _ _ _ _ hdg (Or.inr (Or.inr ⟨rfl, rfl, rfl⟩)) hR
    | cons a t => cases hd
  all_goals exact absurd (show (none : Option zm_R) = some r from hd) (by simp)
end ZMS
end
section
/-! methods of the small machine, and that they are the machine's -/
abbrev zm_M : Type := String × MethodName × ByteArray × Nat × Option FieldType × Bool × Nat × Nat × Bool × List Nat × zm_T
def zm_meth (ms : Nat → Option zm_M) : Nat → zm_C
  | 0 => fun _ _ _ => none
  | d + 1 => fun μ args h => match ms μ with
    | none => none
    | some (_, _, _, nL, _, _, _, _, rb, cuts, T) => bif Nat.ble (zm_ent args).length nL then zm_blk T cuts rb none (zm_meth ms d) (zm_run T cuts rb none (zm_meth ms d) 10000000) 3000 0 (zm_pad nL (zm_ent args)) [] h else none
/-- the words of a call -/
def zm_lc (ms : Nat → Option zm_M) (own : String) (i : zm_I) : Prop := match i with
  | (ins, len, x1, x2, _, _) => match ins with
    | .invokestatic idx => x1 < 9990 → ∃ (own' : String) (y : MethodName) (cc : ByteArray) (nL : Nat) (ret : Option FieldType) (ci : Nat) (rb : Bool) (cuts : List Nat) (T : zm_T), ms x1 = some (own', y, cc, nL, ret, true, x2, ci, rb, cuts, T) ∧ Jvm.Cond.methodLink own idx y ∈ zm_WL
    | .invokevirtual idx => ∃ (own' : String) (y : MethodName) (cc : ByteArray) (nL : Nat) (ret : Option FieldType) (n : Nat) (rb : Bool) (cuts : List Nat) (T : zm_T), ms x1 = some (own', y, cc, nL, ret, false, n, len, rb, cuts, T) ∧ x2 = n + 1 ∧ Jvm.Cond.methodLink own idx y ∈ zm_WL
    | _ => True
def zm_le (rb : Bool) (ret : Option FieldType) (i : zm_I) : Prop := match i.1 with
  | .ireturn => (rb = true ∧ ret = some .boolean) ∨ (rb = false ∧ ret = some .int)
  | .lreturn => ret = some .long
  | .return_ => ret = none
  | _ => True
/-- a table is that of a code -/
def zm_tok (ms : Nat → Option zm_M) (own : String) (cc : ByteArray) (ret : Option FieldType) (rb : Bool) (T : zm_T) : Prop :=
  ∀ (pc : Nat) (i : zm_I), zm_look T pc = some i → decode cc pc = .ok (i.1, zm_ln i.1 i.2.1) ∧ zm_lk own pc i ∧ zm_lc ms own i ∧ zm_le rb ret i
def zm_mok (ms : Nat → Option zm_M) (M : zm_M) : Prop := match M with
  | (own, y, cc, nL, ret, stt, n, ci, rb, _, T) => y.cls = own ∧ plainName own = true ∧ (own ≠ "java/lang/invoke/MethodHandle" ∧ own ≠ "java/lang/invoke/VarHandle") ∧ Jvm.Cond.code y cc nL ret ∈ zm_WL ∧ Jvm.Cond.initialized own ∈ zm_WL ∧ (parseMethodDescriptor y.desc).map (fun d => d.parameters.length) = some n ∧
    (stt = true → Jvm.Cond.static y ∈ zm_WL) ∧ (stt = false → Jvm.Cond.instanceMethod y ∈ zm_WL ∧ Jvm.Cond.selects own y y ∈ zm_WL ∧ ∃ (T : u_T) (N : Nat), vwCl[ci]? = some (own, T, N)) ∧ nL ≤ 40 ∧ zm_tok ms own cc ret rb T
theorem zm_WL_good : ∀ w ∈ zm_WL, goodWord w = true := fun _ h => (List.mem_filter.mp h).2
section ZMB
variable {p : Program} {l : Launch} {e : Env} {R : Room} {s : State} {m : MethodId} {args : Array Value} {below : List Frame} {meth : Method} {c : Code} {cells slots : Nat} {Q : State → Prop} {own : String} {cc : ByteArray} {nL : Nat} {rb : Bool} {sc : zm_S} {ρ : Nat → Nat} {dA : Nat → ClassId} {D : va_G} {A : Nat → Prop} {C : zm_C} {r : zm_R}
/-- what a body asks of its calls -/
def zm_cok (p : Program) (l : Launch) (e : Env) (R : Room) (s : State) (m : MethodId) (args : Array Value) (below : List Frame) (meth : Method) (c : Code) (cells slots : Nat) (Q : State → Prop) (cc : ByteArray) (nL : Nat) (ρ : Nat → Nat) (dA : Nat → ClassId) (D : va_G) (A : Nat → Prop) (T : zm_T) (C : zm_C) : Prop :=
  ∀ (pc idx len x1 x2 x3 : Nat) (ps : List (Int × Nat)) (vi : Bool) (st : List Value) (ar : List Value × List Value) (v : Option Value) (h h1 : zm_H) (ls : Array Slot) (H : Heap) (locs : List Loc), zm_look T pc = some ((if vi then Instr.invokevirtual idx else Instr.invokestatic idx), len, x1, x2, x3, ps) → x1 < 9990 → zm_args x2 [] st = some ar → (ar.2.map fun v => v.category).sum ≤ 8 → (vi = true → zm_rc ar.1 len = true) → C x1 ar.1 h = some (v, h1) → ls.size = nL → zm_Rl s ρ dA D A h H locs →
    (∀ (H1 : Heap) (locs1 : List Loc), zm_Rl s ρ dA D A h1 H1 locs1 → W p l e R s m args below meth c H1 locs1 cells slots Q (F0 m (pc + 3) ls ((v.toList ++ ar.2).map (zm_v ρ)))) → W p l e R s m args below meth c H locs cells slots Q (F0 m pc ls (st.map (zm_v ρ)))
def zm_rok (p : Program) (l : Launch) (e : Env) (R : Room) (s : State) (m : MethodId) (args : Array Value) (below : List Frame) (meth : Method) (c : Code) (cells slots : Nat) (Q : State → Prop) (rb : Bool) (ρ : Nat → Nat) (dA : Nat → ClassId) (D : va_G) (A : Nat → Prop) (T : zm_T) (cc : ByteArray) (r : zm_R) : Prop :=
  ∀ (pc : Nat) (i : zm_I) (st : List Value) (ls : Array Slot) (H : Heap) (locs : List Loc), zm_look T pc = some i → decode cc pc = .ok (i.1, 1) → zm_end rb i.1 r.1 st → zm_Rl s ρ dA D A r.2 H locs → W p l e R s m args below meth c H locs cells slots Q (F0 m pc ls st)
theorem zm_blk_sound {T : zm_T} {cuts : List Nat} {K : zm_G} (X : zm_Cx p R s m args c own cc nL sc ρ dA D A) (hcs : cells ≤ R.cells ∧ slots ≤ R.slots) (hT : ∀ (pc : Nat) (i : zm_I), zm_look T pc = some i → decode cc pc = .ok (i.1, zm_ln i.1 i.2.1) ∧ zm_lk own pc i) (hC : zm_cok p l e R s m args below meth c cells slots Q cc nL ρ dA D A T C) (hr : zm_rok p l e R s m args below meth c cells slots Q rb ρ dA D A T cc r)
    (hK : ∀ (pc : Nat) (lv : zm_L) (st : List Value) (h : zm_H) (ls : Array Slot) (H : Heap) (locs : List Loc), K pc lv st h = some r → zm_has ρ ls nL lv → zm_Rl s ρ dA D A h H locs → W p l e R s m args below meth c H locs cells slots Q (F0 m pc ls (st.map (zm_v ρ)))) :
    ∀ (n pc : Nat) (lv : zm_L) (st : List Value) (h : zm_H) (ls : Array Slot) (H : Heap) (locs : List Loc), zm_blk T cuts rb sc C K n pc lv st h = some r → zm_has ρ ls nL lv → zm_Rl s ρ dA D A h H locs → W p l e R s m args below meth c H locs cells slots Q (F0 m pc ls (st.map (zm_v ρ))) := by
  intro n
  induction n with
  | zero => intro pc lv st h ls H locs hb; cases hb
  | succ n ih =>
    intro pc lv st h ls H locs hb hl hR
    simp only [zm_blk] at hb
    cases hlk : zm_look T pc with
    | none => rw [hlk] at hb; cases hb
    | some i =>
      rw [hlk] at hb
      obtain ⟨hdg, hk⟩ := hT pc i hlk
      refine zm_do_sound X hcs hdg hk hb ?_ ?_ ?_ hl hR
      · intro idx x1 x2 x3 len ps vi ar v h1 ls H locs ei h1 h2 h3 h4 h5 h6 h7 h8
        exact hC pc idx len x1 x2 x3 ps vi st ar v h _ ls H locs (by rw [hlk, ei]) h1 h2 h3 h4 h5 h6.1 h7 h8
      · intro ins st ls H locs hdr he hR
        have e : i.1 = ins := by
          rw [hdg] at hdr
          exact (Prod.mk.inj (Except.ok.inj hdr)).1
        subst e
        exact hr pc i st ls H locs hlk hdr he hR
      · intro pc lv st h ls H locs hG hl hR
        rcases zm_bif2 hG with ⟨-, h2⟩ | ⟨-, h2⟩
        · exact hK pc lv st h ls H locs h2 hl hR
        · exact ih pc lv st h ls H locs h2 hl hR
theorem zm_run_sound {T : zm_T} {cuts : List Nat} (X : zm_Cx p R s m args c own cc nL sc ρ dA D A) (hcs : cells ≤ R.cells ∧ slots ≤ R.slots) (hT : ∀ (pc : Nat) (i : zm_I), zm_look T pc = some i → decode cc pc = .ok (i.1, zm_ln i.1 i.2.1) ∧ zm_lk own pc i) (hC : zm_cok p l e R s m args below meth c cells slots Q cc nL ρ dA D A T C) (hr : zm_rok p l e R s m args below meth c cells slots Q rb ρ dA D A T cc r) :
    ∀ (f pc : Nat) (lv : zm_L) (st : List Value) (h : zm_H) (ls : Array Slot) (H : Heap) (locs : List Loc), zm_run T cuts rb sc C f pc lv st h = some r → zm_has ρ ls nL lv → zm_Rl s ρ dA D A h H locs → W p l e R s m args below meth c H locs cells slots Q (F0 m pc ls (st.map (zm_v ρ))) := by
  intro f
  induction f with
  | zero => intro pc lv st h ls H locs hb; cases hb
  | succ f ih =>
    intro pc lv st h ls H locs hb hl hR
    exact zm_blk_sound X hcs hT hC hr ih 3000 pc lv st h ls H locs hb hl hR
theorem zm_callW {v : Option Value} {B : State → Prop} {A0 A1 : Nat → Prop} {H0 H : Heap} {locs : List Loc} {free : Addr → Prop} {pc : Nat} {ls : Array Slot} {st0 rest : List Value} (hr : va_Run p l e R s m args below meth c H locs cells slots 0 0 (F0 m pc ls st0) rest (fun st oc t => (oc = .returned v ∧ B t) ∧ va_F A1 st t) free) (hS : va_S A0 H0 H locs) (hA : ∀ q, q < H.size → A1 q → A0 q) (hf : ∀ q, free q → A0 q)
    (kk : ∀ (t : State) (H1 : Heap) (locs1 : List Loc), t.heap = H1 → B t → va_S A0 H0 H1 locs1 → W p l e R s m args below meth c H1 locs1 cells slots Q (F0 m (pc + 3) ls (v.toList ++ rest))) : W p l e R s m args below meth c H locs cells slots Q (F0 m pc ls st0) := by
  intro T hT X
  obtain ⟨v', st₀, t, T', L, h0, X', hL, e1, e2, ⟨⟨hv, hb⟩, hz, hk⟩, st⟩ := hr T hT X
  cases hv
  rw [h0] at hz hk
  obtain ⟨t2, a1, b1⟩ := kk t T'.heap (locs ++ L) e1.symm hb
    ⟨Nat.le_trans hS.1 (by rw [e1]; exact hz), fun q h1 h2 => by rw [e1, hk q (Nat.lt_of_lt_of_le h1 hS.1) (fun z => h2 (hA q (Nat.lt_of_lt_of_le h1 hS.1) z))]; exact hS.2.1 q h1 h2, fun q hq => by
      rcases List.mem_append.mp hq with h | h
      · exact hS.2.2 q h
      · exact hf _ (hL q h)⟩ T' rfl X'
  exact ⟨t2, st t2 a1, b1⟩
end ZMB
def zm_TN (ρ : Nat → Nat) (A : Nat → Prop) (U : State) : Prop := va_Z "WordRace$Word" "TENS" "[I" (.ref (ρ 2000000)) A U U.heap ∧ va_T .int (ρ 2000000) 6 (fun j => .int (zm_ten j)) A U U.heap
def zm_Pc (ρ : Nat → Nat) (dA : Nat → ClassId) (D : va_G) (sz : Nat) (as : List Value) (h : zm_H) : Array Value → State → Prop := va_Pc (as.map (zm_v ρ)) (fun U => U.heap.size = sz ∧ zm_ty h ∧ va_P D vwCl (zm_w ρ dA h) U.heap ∧ va_K D vwCl (zm_tys dA) U ∧ va_D (fun _ => True) (zm_w ρ dA h) ∧ zm_TN ρ (va_A (zm_w ρ dA h) sz) U)
def zm_Qc (ρ : Nat → Nat) (dA : Nat → ClassId) (D : va_G) (sz : Nat) (h : zm_H) (r : zm_R) : Array Value → State → Outcome → State → Prop := fun _ st oc t => (oc = .returned (r.1.map (zm_v ρ)) ∧ zm_ty r.2 ∧ va_P D vwCl (zm_w ρ dA r.2) t.heap ∧ va_D (va_A (zm_w ρ dA h) sz) (zm_w ρ dA r.2)) ∧ va_F (va_A (zm_w ρ dA h) sz) st t
abbrev zm_rm (d : Nat) : Room := { frames := d, cells := 0, slots := 0, locals := 60 * d }
theorem zm_blind (ρ : Nat → Nat) (dA : Nat → ClassId) (D : va_G) (sz : Nat) (as : List Value) (h : zm_H) : FrameBlind (zm_Pc ρ dA D sz as h) := by
  intro a U g mk q
  obtain ⟨q0, q1, qT, qP, qK, qD, z1, z2⟩ := q
  exact ⟨q0, q1, qT, qP, va_K.moved (u := U) (U := U.calling g mk a) (Vm.Alike.refl U.vm) qK, qD, va_Z.moved (u := U) (U := U.calling g mk a) (Vm.Alike.refl U.vm) z1, va_T.moved (u := U) (U := U.calling g mk a) (Vm.Alike.refl U.vm) z2⟩
theorem zm_ent_sl : ∀ (ρ : Nat → Nat) (as : List Value) (k : Nat) (i : Nat) (v : Value), (zm_ent as)[i]? = some (some v) → (i + k, zm_v ρ v) ∈ lv_args k (as.map (zm_v ρ))
  | ρ, [], k, i, v, h => by simp [zm_ent] at h
  | ρ, a :: as, k, i, v, h => by
    simp only [List.map_cons, lv_args, zm_cat]
    simp only [zm_ent] at h
    cases e : Nat.beq a.category 2 with
    | true =>
      rw [e] at h
      have e2 := Nat.eq_of_beq_eq_true e
      rw [if_pos e2]
      match i, h with
      | 0, h =>
        simp only [cond_true, List.getElem?_cons_zero, Option.some.injEq] at h
        subst h
        rw [Nat.zero_add]
        exact List.mem_cons_self
      | 1, h => simp at h
      | i + 2, h =>
        refine List.mem_cons_of_mem _ ?_
        have := zm_ent_sl ρ as (k + 2) i v (by simpa using h)
        rwa [show i + 2 + k = i + (k + 2) by omega]
    | false =>
      rw [e] at h
      have e2 := Nat.ne_of_beq_eq_false e
      rw [if_neg e2]
      match i, h with
      | 0, h =>
        simp only [cond_false, List.getElem?_cons_zero, Option.some.injEq] at h
        subst h
        rw [Nat.zero_add]
        exact List.mem_cons_self
      | i + 1, h =>
        refine List.mem_cons_of_mem _ ?_
        have := zm_ent_sl ρ as (k + 1) i v (by simpa using h)
        rwa [show i + 1 + k = i + (k + 1) by omega]
theorem zm_ent_len (ρ : Nat → Nat) : ∀ as : List Value, (zm_ent as).length = (lg_sl (as.map (zm_v ρ))).length
  | [] => rfl
  | a :: as => by
    have ih := zm_ent_len ρ as
    unfold lg_sl at ih ⊢
    simp only [zm_ent, List.map_cons, List.flatMap_cons, zm_cat]
    cases e : Nat.beq a.category 2 with
    | true =>
      rw [if_pos (Nat.eq_of_beq_eq_true e)]
      simp [ih, Nat.add_comm]
    | false =>
      rw [if_neg (Nat.ne_of_beq_eq_false e)]
      simp [ih, Nat.add_comm]
theorem zm_entry (ρ : Nat → Nat) (as : List Value) {n : Nat} (h : (zm_ent as).length ≤ n) : zm_has ρ ((lg_sl (as.map (zm_v ρ)) ++ List.replicate (n - (lg_sl (as.map (zm_v ρ))).length) Slot.unset).toArray) n (zm_pad n (zm_ent as)) := by
  have h1 := lv_entry (as.map (zm_v ρ)) (n := n) (by rw [← zm_ent_len ρ as]; exact h)
  refine ⟨h1.1, by simp [zm_pad]; omega, h1.2.1, fun i v hv => ?_⟩
  unfold zm_pad at hv
  rcases Nat.lt_or_ge i (zm_ent as).length with q | q
  · rw [List.getElem?_append_left q] at hv
    have := h1.2.2 _ (zm_ent_sl ρ as 0 i v hv)
    simpa using this
  · rw [List.getElem?_append_right q] at hv
    simp only [List.getElem?_replicate] at hv
    split at hv <;> cases hv
end
section
/-! the contract of every method of the small machine -/
section ZMC
variable {p : Program} {l : Launch} {e : Env} {R : Room} {s : State} {m : MethodId} {args : Array Value} {below : List Frame} {meth : Method} {c : Code} {cells slots : Nat} {Q : State → Prop} {own : String} {cc : ByteArray} {nL : Nat} {rb : Bool} {sc : zm_S} {ρ : Nat → Nat} {dA : Nat → ClassId} {D : va_G} {A : Nat → Prop}
def zm_IH (ms : Nat → Option zm_M) (l : Launch) (d : Nat) : Prop :=
  ∀ (μ : Nat) (as : List Value) (h : zm_H) (r : zm_R), zm_meth ms d μ as h = some r → ∀ (own : String) (y : MethodName) (cc : ByteArray) (nL : Nat) (ret : Option FieldType) (stt : Bool) (n ci : Nat) (rb : Bool) (cuts : List Nat) (T : zm_T), ms μ = some (own, y, cc, nL, ret, stt, n, ci, rb, cuts, T) → ∀ (ρ : Nat → Nat) (dA : Nat → ClassId) (D : va_G) (sz : Nat), Met l y (Jvm.Cond.code y cc nL ret :: zm_WL) (zm_rm d) (zm_Pc ρ dA D sz as h) (zm_Qc ρ dA D sz h r) 0 0 (va_A (zm_w ρ dA h) sz)
theorem zm_goodIn {y : MethodName} {cc : ByteArray} {nL : Nat} {ret : Option FieldType} (h : Jvm.Cond.code y cc nL ret ∈ zm_WL) : GoodIn zm_WL (Jvm.Cond.code y cc nL ret :: zm_WL) := by
  intro w hw
  have hm : w ∈ zm_WL := by
    rcases List.mem_cons.mp hw with q | q
    · rw [q]; exact h
    · exact q
  exact ⟨hm, good_of_word (zm_WL_good w hm)⟩
theorem zm_toList (f : Value → Value) (v : Option Value) (t : List Value) : (v.map f).toList ++ t.map f = (v.toList ++ t).map f := by
  cases v <;> simp
theorem zm_cok_of {ms : Nat → Option zm_M} (hms : ∀ μ M, ms μ = some M → zm_mok ms M) (X : zm_Cx p R s m args c own cc nL sc ρ dA D A) {T : zm_T} (hTk : ∀ (pc : Nat) (i : zm_I), zm_look T pc = some i → decode cc pc = .ok (i.1, zm_ln i.1 i.2.1) ∧ zm_lc ms own i) {d : Nat} (hRm : d + 1 ≤ R.frames ∧ 60 * (d + 1) ≤ R.locals) (hcs : cells ≤ R.cells ∧ slots ≤ R.slots) (IH : zm_IH ms l d) : zm_cok p l e R s m args below meth c cells slots Q cc nL ρ dA D A T (zm_meth ms d) := by
  obtain ⟨hx, hb, hml, hown, hts, hK, hA, hZ, hX, hfr, hlo⟩ := X
  intro pc idx len x1 x2 x3 ps vi st ar v h h1 ls H locs hlk hne har hcat hrc hC hls hR kk
  obtain ⟨hT, hP, hD, hS⟩ := hR
  obtain ⟨hdg, hlc⟩ := hTk pc _ hlk
  obtain ⟨t, ht1, ht2, ht3⟩ := zm_args_eq x2 [] st ar har
  rw [List.append_nil] at ht3
  have hfree : ∀ q, va_A (zm_w ρ dA h) H.size q → A q := by
    intro q hq
    rcases hq with ⟨k, e, hq⟩ | hq
    · exact hD.2 k _ hq
    · exact hA q (Nat.le_trans hS.1 hq)
  have hro := hX 2000000 6 zm_ten rfl
  have hPU : ∀ U : State, U.heap = H → s.WarmedH U.vm → zm_Pc ρ dA D H.size ar.1 h (ar.1.map (zm_v ρ)).toArray U := by
    intro U hU hW
    refine ⟨rfl, by rw [hU], hT, by rw [hU]; exact hP, va_K.moved hW.alike hK, hD.weaken (fun _ _ _ _ => trivial), ?_, ?_⟩
    · rw [hU]
      exact va_Z.moved hW.alike (va_Z.narrow (va_Z.kept hZ (fun a h1 h2 => hS.2.1 a h1 h2)) hfree)
    · rw [hU]
      exact va_T.moved hW.alike (va_T.narrow (va_T.kept hro (fun a h1 h2 => hS.2.1 a h1 h2)) hfree)
  have hend : ∀ (tt : State) (H1 : Heap) (locs1 : List Loc), tt.heap = H1 → (zm_ty h1 ∧ va_P D vwCl (zm_w ρ dA h1) tt.heap ∧ va_D (va_A (zm_w ρ dA h) H.size) (zm_w ρ dA h1)) → va_S A s.heap H1 locs1 → W p l e R s m args below meth c H1 locs1 cells slots Q (F0 m (pc + 3) ls ((v.map (zm_v ρ)).toList ++ ar.2.map (zm_v ρ))) := by
    intro tt H1 locs1 e1 hB hS1
    rw [zm_toList]
    refine kk H1 locs1 ⟨hB.1, by rw [← e1]; exact hB.2.1, hB.2.2.weaken (fun _ q _ h => hfree q.1 h), hS1⟩
  cases vi with
  | false =>
    obtain ⟨own', y, cc', nL', ret, ci, rb', cuts, T', hM, hml'⟩ := hlc hne
    obtain ⟨k1, k2, k3, k4, k5, k6, k7, k8, k9, k10⟩ := hms _ _ hM
    have hMet := IH x1 ar.1 h (v, h1) hC _ _ _ _ _ _ _ _ _ _ _ hM ρ dA D H.size
    have hCB : CallB R s args own idx y cc' nL' ret (Jvm.Cond.code y cc' nL' ret :: zm_WL) (zm_rm d) 0 0 x2 := callB_of x2 hts (zm_goodIn k4) rfl rfl rfl (by rw [k1]; exact hts _ k5) (hts _ hml') ⟨by rw [k1]; exact k3.1, by rw [k1]; exact k3.2, k6⟩ ⟨hRm.1, by show 8 + (nL' + 11) + 60 * d ≤ R.locals; omega⟩
    have hrun := va_runS (p := p) (l := l) (e := e) (below := below) (meth := meth) (locs := locs) (cells := cells) (slots := slots) (g := F0 m pc ls (st.map (zm_v ρ))) (As := ar.1.map (zm_v ρ)) (rest := ar.2.map (zm_v ρ)) ⟨hx, hb, hml, hown, hts⟩ hMet ⟨hCB, hts _ (k7 rfl)⟩ ⟨zm_blind ρ dA D H.size ar.1 h, hPU⟩ rfl (by rw [List.length_map, ht3, List.length_reverse, ht1]) hls (by show st.map (zm_v ρ) = _; rw [ht2, ht3, List.map_append, List.map_reverse, List.reverse_reverse]) (by show 2 * (F0 m pc ls (st.map (zm_v ρ))).monitorRoom + _ ≤ 8; rw [show ((List.map (zm_v ρ) ar.2).map fun v => v.category).sum = (ar.2.map fun v => v.category).sum from zm_catsum ρ ar.2]; exact (Nat.zero_add _).symm ▸ hcat) hdg hcs
    exact zm_callW hrun hS (fun q _ h => hfree q h) hfree hend
  | true =>
    obtain ⟨own', y, cc', nL', ret, n, rb', cuts, T', hM, hx2, hml'⟩ := hlc
    obtain ⟨k1, k2, k3, k4, k5, k6, k7, k8, k9, k10⟩ := hms _ _ hM
    obtain ⟨k81, k82, TT, NN, k83⟩ := k8 rfl
    have hMet := IH x1 ar.1 h (v, h1) hC _ _ _ _ _ _ _ _ _ _ _ hM ρ dA D H.size
    have hrc := hrc rfl
    unfold zm_rc at hrc
    split at hrc
    · next k As hA1 =>
      have hoc := Nat.eq_of_beq_eq_true hrc
      have hlt : len < vwCl.length := (List.getElem?_eq_some_iff.mp k83).1
      have hlt8 : len < 8 := hlt
      obtain ⟨fs, hfs⟩ := hT k (by omega)
      rw [hoc] at hfs
      have hrecv := va_recv hK hP (ci := len) (q0 := zm_pos h k) k83 (zm_w_get (ρ := ρ) (dA := dA) hfs)
      have hPU2 : ∀ U : State, U.heap = H → s.WarmedH U.vm → zm_Pc ρ dA D H.size ar.1 h (Value.ref (ρ k) :: As.map (zm_v ρ)).toArray U := by
        intro U h1 h2
        have := hPU U h1 h2
        rw [hA1] at this ⊢
        exact this
      have hCB : CallB R s args own idx y cc' nL' ret (Jvm.Cond.code y cc' nL' ret :: zm_WL) (zm_rm d) 0 0 n := callB_of n hts (zm_goodIn k4) rfl rfl rfl (by rw [k1]; exact hts _ k5) (hts _ hml') ⟨by rw [k1]; exact k3.1, by rw [k1]; exact k3.2, k6⟩ ⟨hRm.1, by show 8 + (nL' + 11) + 60 * d ≤ R.locals; omega⟩
      have htr : t = As.reverse ++ [.ref k] := by
        have := congrArg List.reverse (ht3.symm.trans hA1)
        simpa using this
      have hrun := va_runV (p := p) (l := l) (e := e) (below := below) (meth := meth) (locs := locs) (cells := cells) (slots := slots) (g := F0 m pc ls (st.map (zm_v ρ))) (As := As.map (zm_v ρ)) (rest := ar.2.map (zm_v ρ)) (C := own') (b := ρ k) ⟨hx, hb, hml, hown, hts⟩ hMet ⟨hCB, hts _ k81, hts _ k82⟩ ⟨zm_blind ρ dA D H.size ar.1 h, hrecv, hPU2⟩ rfl (by
        have : ar.1.length = x2 := by rw [ht3, List.length_reverse, ht1]
        rw [hA1, hx2] at this
        rw [List.length_map]
        simpa using this) hls (by show st.map (zm_v ρ) = _; rw [ht2, htr]; simp [zm_v]) (by show 2 * (F0 m pc ls (st.map (zm_v ρ))).monitorRoom + _ ≤ 8; rw [show ((List.map (zm_v ρ) ar.2).map fun v => v.category).sum = (ar.2.map fun v => v.category).sum from zm_catsum ρ ar.2]; exact (Nat.zero_add _).symm ▸ hcat) hdg hcs
      exact zm_callW hrun hS (fun q _ h => hfree q h) hfree hend
    · cases hrc
end ZMC
set_option maxHeartbeats 1000000 in
theorem zm_met {ms : Nat → Option zm_M} (hms : ∀ μ M, ms μ = some M → zm_mok ms M) (l : Launch) : ∀ d : Nat, zm_IH ms l d := by
  intro d
  induction d with
  | zero => intro μ as h r hr; cases hr
  | succ d ih =>
    intro μ as h r hr own y cc nL ret stt n ci rb cuts T hM ρ dA D sz
    simp only [zm_meth] at hr
    rw [hM] at hr
    obtain ⟨hen, hr⟩ := zm_bif_of hr
    have hen := Nat.le_of_ble_eq_true hen
    obtain ⟨k1, k2, k3, k4, k5, k6, k7, k8, k9, k10⟩ := hms _ _ hM
    refine Met.ofW (cc := cc) (maxL := nL) (ret := ret) (by rw [k1]; exact k2) rfl ?_
    intro p e s m args below meth c s₁ B hml hv
    obtain ⟨rfl, hsz, hT, hP, hK, hD0, z1, z2⟩ := hv
    subst hsz
    have hx := B.exec
    have hb := B.bytes
    have hrt := B.returns
    have hts0 := atoms_spec (ws := Jvm.Cond.code y cc nL ret :: zm_WL) B.pre
    have hts : ∀ w ∈ zm_WL, w.before (as.map (zm_v ρ)).toArray s = true := fun w hw => hts0 w (List.mem_cons_of_mem _ hw)
    have hown : s.vm.findClass own = some m.cls := by rw [← k1]; exact findClass_of_methodNamed B.named
    have hlocks := B.notSynchronized
    have hD := hD0.self (sz := s.heap.size)
    have hA : ∀ q : Nat, s.heap.size ≤ q → va_A (zm_w ρ dA h) s.heap.size q := fun q h => Or.inr h
    have hS : va_S (va_A (zm_w ρ dA h) s.heap.size) s.heap s.heap [] := va_S.rf
    have X : zm_Cx p (zm_rm (d + 1)) s m (as.map (zm_v ρ)).toArray c own cc nL none ρ dA D (va_A (zm_w ρ dA h) s.heap.size) := by
      refine ⟨hx, hb, hml, hown, hts, hK, hA, z1, ?_, by show 1 ≤ d + 1; omega, by show 60 ≤ 60 * (d + 1); omega⟩
      intro k n f hk
      unfold zm_ro at hk
      cases e1 : Nat.beq k 2000000 with
      | true =>
        rw [e1] at hk
        cases hk
        rw [Nat.eq_of_beq_eq_true e1]
        exact z2
      | false =>
        rw [e1] at hk
        simp at hk
    have hcok : zm_cok p l e (zm_rm (d + 1)) s m (as.map (zm_v ρ)).toArray below meth c 0 0 (MQ below (zm_Qc ρ dA D s.heap.size h r) (as.map (zm_v ρ)).toArray s 0 0 (va_A (zm_w ρ dA h) s.heap.size)) cc nL ρ dA D (va_A (zm_w ρ dA h) s.heap.size) T (zm_meth ms d) :=
      zm_cok_of hms X (fun pc i hi => ⟨(k10 pc i hi).1, (k10 pc i hi).2.2.1⟩) ⟨Nat.le_refl _, Nat.le_refl _⟩ ⟨Nat.le_refl _, Nat.le_refl _⟩ ih
    have hrok : zm_rok p l e (zm_rm (d + 1)) s m (as.map (zm_v ρ)).toArray below meth c 0 0 (MQ below (zm_Qc ρ dA D s.heap.size h r) (as.map (zm_v ρ)).toArray s 0 0 (va_A (zm_w ρ dA h) s.heap.size)) rb ρ dA D (va_A (zm_w ρ dA h) s.heap.size) T cc r := by
      intro pc i st ls H locs hlk hdg he hR
      have hle := (k10 pc i hlk).2.2.2
      obtain ⟨rT, rP, rD, rS⟩ := hR
      unfold zm_le at hle
      rcases he with ⟨e1, x, e2, rfl, e3⟩ | ⟨e1, x, e2, rfl⟩ | ⟨e1, e2, rfl⟩
      · rw [e1] at hle hdg
        rcases hle with ⟨f1, f2⟩ | ⟨f1, f2⟩
        · refine W.zret (ty := .boolean) hx hb (by rw [hrt, f2]) (by rcases e3 f1 with rfl | rfl <;> decide) (fun t ht hW => ⟨⟨by rw [e2]; rfl, rT, by rw [ht]; exact rP, rD⟩, rS.F ht⟩) rS.2.2 hdg
        · refine W.iret hx hb (by rw [hrt, f2]) (fun t ht hW => ⟨⟨by rw [e2]; rfl, rT, by rw [ht]; exact rP, rD⟩, rS.F ht⟩) rS.2.2 hdg
      · rw [e1] at hle hdg
        refine W.lret hx hb (by rw [hrt]; exact hle) (fun t ht hW => ⟨⟨by rw [e2]; rfl, rT, by rw [ht]; exact rP, rD⟩, rS.F ht⟩) rS.2.2 hdg
      · rw [e1] at hle hdg
        refine W.vret hx hb (by rw [hrt]; exact hle) (fun t ht hW => ⟨⟨by rw [e2]; rfl, rT, by rw [ht]; exact rP, rD⟩, rS.F ht⟩) rS.2.2 hdg
    have hTT : ∀ (pc : Nat) (i : zm_I), zm_look T pc = some i → decode cc pc = .ok (i.1, zm_ln i.1 i.2.1) ∧ zm_lk own pc i := fun pc i hi => ⟨(k10 pc i hi).1, (k10 pc i hi).2.1⟩
    rw [lg_entry_eq]
    exact zm_blk_sound X ⟨Nat.le_refl _, Nat.le_refl _⟩ hTT hcok hrok (fun pc lv st h ls H locs => zm_run_sound X ⟨Nat.le_refl _, Nat.le_refl _⟩ hTT hcok hrok 10000000 pc lv st h ls H locs) 3000 0 _ [] h _ s.heap [] hr (zm_entry ρ as hen) ⟨hT, hP, hD, hS⟩
end
