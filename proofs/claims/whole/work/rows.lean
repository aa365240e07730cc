section
-- ===== PART A: goes FIRST, ahead of the names: the tables' words, and 'selects' of the private methods out of them =====
/-- a private method of a class that the tables say can be made, by its rows of tables_1 -/
def lw_okq (q : MethodName × Nat) : Prop := (q.1.cls ≠ "java/lang/invoke/MethodHandle" ∧ q.1.cls ≠ "java/lang/invoke/VarHandle") ∧ Cond.instantiable q.1.cls q.2 ∈ tables_1 ∧ Cond.privateMethod q.1 ∈ tables_1 ∧ Cond.instanceMethod q.1 ∈ tables_1
theorem lw_p0 : lw_okq (⟨"PromptHoles", "textOf", "(I)LPromptHoles$Row;"⟩, 14) := ⟨⟨by decide +kernel, by decide +kernel⟩, List.mem_of_getElem? (i := 14) (by decide +kernel), List.mem_of_getElem? (i := 245) (by decide +kernel), List.mem_of_getElem? (i := 246) (by decide +kernel)⟩
theorem lw_p1 : lw_okq (⟨"PromptHoles", "staged", "()LPromptHoles$Stage;"⟩, 14) := ⟨⟨by decide +kernel, by decide +kernel⟩, List.mem_of_getElem? (i := 14) (by decide +kernel), List.mem_of_getElem? (i := 281) (by decide +kernel), List.mem_of_getElem? (i := 282) (by decide +kernel)⟩
theorem lw_p2 : lw_okq (⟨"PromptHoles$Holes", "byHabit", "(IIII)I"⟩, 7) := ⟨⟨by decide +kernel, by decide +kernel⟩, List.mem_of_getElem? (i := 85) (by decide +kernel), List.mem_of_getElem? (i := 333) (by decide +kernel), List.mem_of_getElem? (i := 334) (by decide +kernel)⟩
theorem lw_p3 : lw_okq (⟨"PromptHoles$Stage", "nearest", "(II)I"⟩, 7) := ⟨⟨by decide +kernel, by decide +kernel⟩, List.mem_of_getElem? (i := 54) (by decide +kernel), List.mem_of_getElem? (i := 368) (by decide +kernel), List.mem_of_getElem? (i := 369) (by decide +kernel)⟩
theorem lw_p4 : lw_okq (⟨"PromptHoles", "found", "(I)I"⟩, 14) := ⟨⟨by decide +kernel, by decide +kernel⟩, List.mem_of_getElem? (i := 14) (by decide +kernel), List.mem_of_getElem? (i := 467) (by decide +kernel), List.mem_of_getElem? (i := 468) (by decide +kernel)⟩
theorem lw_p5 : lw_okq (⟨"PromptHoles", "allSeenIn", "([I)Z"⟩, 14) := ⟨⟨by decide +kernel, by decide +kernel⟩, List.mem_of_getElem? (i := 14) (by decide +kernel), List.mem_of_getElem? (i := 575) (by decide +kernel), List.mem_of_getElem? (i := 576) (by decide +kernel)⟩
theorem lw_p6 : lw_okq (⟨"PromptHoles", "tallyRehearsal", "()V"⟩, 14) := ⟨⟨by decide +kernel, by decide +kernel⟩, List.mem_of_getElem? (i := 14) (by decide +kernel), List.mem_of_getElem? (i := 589) (by decide +kernel), List.mem_of_getElem? (i := 590) (by decide +kernel)⟩
theorem lw_p7 : lw_okq (⟨"PromptHoles", "greatestTally", "(I)I"⟩, 14) := ⟨⟨by decide +kernel, by decide +kernel⟩, List.mem_of_getElem? (i := 14) (by decide +kernel), List.mem_of_getElem? (i := 593) (by decide +kernel), List.mem_of_getElem? (i := 594) (by decide +kernel)⟩
theorem lw_p8 : lw_okq (⟨"PromptHoles$Chances", "put", "(IJ)V"⟩, 5) := ⟨⟨by decide +kernel, by decide +kernel⟩, List.mem_of_getElem? (i := 154) (by decide +kernel), List.mem_of_getElem? (i := 613) (by decide +kernel), List.mem_of_getElem? (i := 614) (by decide +kernel)⟩
theorem lw_p9 : lw_okq (⟨"PromptHoles$Lots", "draw", "(I)I"⟩, 1) := ⟨⟨by decide +kernel, by decide +kernel⟩, List.mem_of_getElem? (i := 144) (by decide +kernel), List.mem_of_getElem? (i := 636) (by decide +kernel), List.mem_of_getElem? (i := 637) (by decide +kernel)⟩
theorem lw_p10 : lw_okq (⟨"PromptHoles", "mixLine", "(JI)J"⟩, 14) := ⟨⟨by decide +kernel, by decide +kernel⟩, List.mem_of_getElem? (i := 14) (by decide +kernel), List.mem_of_getElem? (i := 709) (by decide +kernel), List.mem_of_getElem? (i := 710) (by decide +kernel)⟩
theorem lw_p11 : lw_okq (⟨"PromptHoles", "mixHole", "(JI)J"⟩, 14) := ⟨⟨by decide +kernel, by decide +kernel⟩, List.mem_of_getElem? (i := 14) (by decide +kernel), List.mem_of_getElem? (i := 717) (by decide +kernel), List.mem_of_getElem? (i := 718) (by decide +kernel)⟩
theorem lw_p12 : lw_okq (⟨"PromptHoles", "mixStep", "(JI)J"⟩, 14) := ⟨⟨by decide +kernel, by decide +kernel⟩, List.mem_of_getElem? (i := 14) (by decide +kernel), List.mem_of_getElem? (i := 727) (by decide +kernel), List.mem_of_getElem? (i := 728) (by decide +kernel)⟩
theorem lw_p13 : lw_okq (⟨"PromptHolesModel", "finds", "(I)I"⟩, 28) := ⟨⟨by decide +kernel, by decide +kernel⟩, List.mem_of_getElem? (i := 737) (by decide +kernel), List.mem_of_getElem? (i := 840) (by decide +kernel), List.mem_of_getElem? (i := 841) (by decide +kernel)⟩
theorem lw_p14 : lw_okq (⟨"PromptHolesModel", "lacks", "(III)I"⟩, 28) := ⟨⟨by decide +kernel, by decide +kernel⟩, List.mem_of_getElem? (i := 737) (by decide +kernel), List.mem_of_getElem? (i := 852) (by decide +kernel), List.mem_of_getElem? (i := 853) (by decide +kernel)⟩
theorem lw_p15 : lw_okq (⟨"PromptHolesModel", "readsPlay", "()I"⟩, 28) := ⟨⟨by decide +kernel, by decide +kernel⟩, List.mem_of_getElem? (i := 737) (by decide +kernel), List.mem_of_getElem? (i := 888) (by decide +kernel), List.mem_of_getElem? (i := 889) (by decide +kernel)⟩
def lw_privs_1 : List (MethodName × Nat) := [(⟨"PromptHoles", "textOf", "(I)LPromptHoles$Row;"⟩, 14), (⟨"PromptHoles", "staged", "()LPromptHoles$Stage;"⟩, 14), (⟨"PromptHoles$Holes", "byHabit", "(IIII)I"⟩, 7), (⟨"PromptHoles$Stage", "nearest", "(II)I"⟩, 7), (⟨"PromptHoles", "found", "(I)I"⟩, 14), (⟨"PromptHoles", "allSeenIn", "([I)Z"⟩, 14), (⟨"PromptHoles", "tallyRehearsal", "()V"⟩, 14), (⟨"PromptHoles", "greatestTally", "(I)I"⟩, 14), (⟨"PromptHoles$Chances", "put", "(IJ)V"⟩, 5), (⟨"PromptHoles$Lots", "draw", "(I)I"⟩, 1), (⟨"PromptHoles", "mixLine", "(JI)J"⟩, 14), (⟨"PromptHoles", "mixHole", "(JI)J"⟩, 14), (⟨"PromptHoles", "mixStep", "(JI)J"⟩, 14), (⟨"PromptHolesModel", "finds", "(I)I"⟩, 28), (⟨"PromptHolesModel", "lacks", "(III)I"⟩, 28), (⟨"PromptHolesModel", "readsPlay", "()I"⟩, 28)]
theorem lw_r1 : ∀ q ∈ lw_privs_1, lw_okq q := List.forall_mem_cons.mpr ⟨lw_p0, List.forall_mem_cons.mpr ⟨lw_p1, List.forall_mem_cons.mpr ⟨lw_p2, List.forall_mem_cons.mpr ⟨lw_p3, List.forall_mem_cons.mpr ⟨lw_p4, List.forall_mem_cons.mpr ⟨lw_p5, List.forall_mem_cons.mpr ⟨lw_p6, List.forall_mem_cons.mpr ⟨lw_p7, List.forall_mem_cons.mpr ⟨lw_p8, List.forall_mem_cons.mpr ⟨lw_p9, List.forall_mem_cons.mpr ⟨lw_p10, List.forall_mem_cons.mpr ⟨lw_p11, List.forall_mem_cons.mpr ⟨lw_p12, List.forall_mem_cons.mpr ⟨lw_p13, List.forall_mem_cons.mpr ⟨lw_p14, List.forall_mem_cons.mpr ⟨lw_p15, fun _ h => absurd h List.not_mem_nil⟩⟩⟩⟩⟩⟩⟩⟩⟩⟩⟩⟩⟩⟩⟩⟩
theorem lw_p16 : lw_okq (⟨"PromptHolesModel", "readsHoles", "()I"⟩, 28) := ⟨⟨by decide +kernel, by decide +kernel⟩, List.mem_of_getElem? (i := 737) (by decide +kernel), List.mem_of_getElem? (i := 894) (by decide +kernel), List.mem_of_getElem? (i := 895) (by decide +kernel)⟩
theorem lw_p17 : lw_okq (⟨"PromptHolesModel", "reads", "()V"⟩, 28) := ⟨⟨by decide +kernel, by decide +kernel⟩, List.mem_of_getElem? (i := 737) (by decide +kernel), List.mem_of_getElem? (i := 908) (by decide +kernel), List.mem_of_getElem? (i := 909) (by decide +kernel)⟩
theorem lw_p18 : lw_okq (⟨"PromptHolesModel", "isHole", "(I)Z"⟩, 28) := ⟨⟨by decide +kernel, by decide +kernel⟩, List.mem_of_getElem? (i := 737) (by decide +kernel), List.mem_of_getElem? (i := 917) (by decide +kernel), List.mem_of_getElem? (i := 918) (by decide +kernel)⟩
theorem lw_p19 : lw_okq (⟨"PromptHolesModel", "printedBy", "(II)I"⟩, 28) := ⟨⟨by decide +kernel, by decide +kernel⟩, List.mem_of_getElem? (i := 737) (by decide +kernel), List.mem_of_getElem? (i := 929) (by decide +kernel), List.mem_of_getElem? (i := 930) (by decide +kernel)⟩
theorem lw_p20 : lw_okq (⟨"PromptHolesModel", "find", "()V"⟩, 28) := ⟨⟨by decide +kernel, by decide +kernel⟩, List.mem_of_getElem? (i := 737) (by decide +kernel), List.mem_of_getElem? (i := 964) (by decide +kernel), List.mem_of_getElem? (i := 965) (by decide +kernel)⟩
theorem lw_p21 : lw_okq (⟨"PromptHolesModel", "plain", "()V"⟩, 28) := ⟨⟨by decide +kernel, by decide +kernel⟩, List.mem_of_getElem? (i := 737) (by decide +kernel), List.mem_of_getElem? (i := 968) (by decide +kernel), List.mem_of_getElem? (i := 969) (by decide +kernel)⟩
theorem lw_p22 : lw_okq (⟨"PromptHolesModel", "whereAt", "(I)I"⟩, 28) := ⟨⟨by decide +kernel, by decide +kernel⟩, List.mem_of_getElem? (i := 737) (by decide +kernel), List.mem_of_getElem? (i := 972) (by decide +kernel), List.mem_of_getElem? (i := 973) (by decide +kernel)⟩
theorem lw_p23 : lw_okq (⟨"PromptHolesModel", "lives", "(II)V"⟩, 28) := ⟨⟨by decide +kernel, by decide +kernel⟩, List.mem_of_getElem? (i := 737) (by decide +kernel), List.mem_of_getElem? (i := 976) (by decide +kernel), List.mem_of_getElem? (i := 977) (by decide +kernel)⟩
theorem lw_p24 : lw_okq (⟨"PromptHolesModel", "plays", "(I)V"⟩, 28) := ⟨⟨by decide +kernel, by decide +kernel⟩, List.mem_of_getElem? (i := 737) (by decide +kernel), List.mem_of_getElem? (i := 980) (by decide +kernel), List.mem_of_getElem? (i := 981) (by decide +kernel)⟩
theorem lw_p25 : lw_okq (⟨"PromptHolesModel", "isDark", "(I)Z"⟩, 28) := ⟨⟨by decide +kernel, by decide +kernel⟩, List.mem_of_getElem? (i := 737) (by decide +kernel), List.mem_of_getElem? (i := 984) (by decide +kernel), List.mem_of_getElem? (i := 985) (by decide +kernel)⟩
theorem lw_p26 : lw_okq (⟨"PromptHolesModel", "whispersNow", "(II)I"⟩, 28) := ⟨⟨by decide +kernel, by decide +kernel⟩, List.mem_of_getElem? (i := 737) (by decide +kernel), List.mem_of_getElem? (i := 988) (by decide +kernel), List.mem_of_getElem? (i := 989) (by decide +kernel)⟩
theorem lw_p27 : lw_okq (⟨"PromptHolesModel", "habitOf", "(II)I"⟩, 28) := ⟨⟨by decide +kernel, by decide +kernel⟩, List.mem_of_getElem? (i := 737) (by decide +kernel), List.mem_of_getElem? (i := 995) (by decide +kernel), List.mem_of_getElem? (i := 996) (by decide +kernel)⟩
theorem lw_p28 : lw_okq (⟨"PromptHolesModel", "stepOf", "(II)I"⟩, 28) := ⟨⟨by decide +kernel, by decide +kernel⟩, List.mem_of_getElem? (i := 737) (by decide +kernel), List.mem_of_getElem? (i := 1002) (by decide +kernel), List.mem_of_getElem? (i := 1003) (by decide +kernel)⟩
theorem lw_p29 : lw_okq (⟨"PromptHolesModel", "printedIn", "(I)I"⟩, 28) := ⟨⟨by decide +kernel, by decide +kernel⟩, List.mem_of_getElem? (i := 737) (by decide +kernel), List.mem_of_getElem? (i := 1006) (by decide +kernel), List.mem_of_getElem? (i := 1007) (by decide +kernel)⟩
theorem lw_p30 : lw_okq (⟨"PromptHolesModel", "driftOf", "(I)I"⟩, 28) := ⟨⟨by decide +kernel, by decide +kernel⟩, List.mem_of_getElem? (i := 737) (by decide +kernel), List.mem_of_getElem? (i := 1018) (by decide +kernel), List.mem_of_getElem? (i := 1019) (by decide +kernel)⟩
theorem lw_p31 : lw_okq (⟨"PromptHolesModel", "driftTo", "(I)I"⟩, 28) := ⟨⟨by decide +kernel, by decide +kernel⟩, List.mem_of_getElem? (i := 737) (by decide +kernel), List.mem_of_getElem? (i := 1022) (by decide +kernel), List.mem_of_getElem? (i := 1023) (by decide +kernel)⟩
def lw_privs_2 : List (MethodName × Nat) := [(⟨"PromptHolesModel", "readsHoles", "()I"⟩, 28), (⟨"PromptHolesModel", "reads", "()V"⟩, 28), (⟨"PromptHolesModel", "isHole", "(I)Z"⟩, 28), (⟨"PromptHolesModel", "printedBy", "(II)I"⟩, 28), (⟨"PromptHolesModel", "find", "()V"⟩, 28), (⟨"PromptHolesModel", "plain", "()V"⟩, 28), (⟨"PromptHolesModel", "whereAt", "(I)I"⟩, 28), (⟨"PromptHolesModel", "lives", "(II)V"⟩, 28), (⟨"PromptHolesModel", "plays", "(I)V"⟩, 28), (⟨"PromptHolesModel", "isDark", "(I)Z"⟩, 28), (⟨"PromptHolesModel", "whispersNow", "(II)I"⟩, 28), (⟨"PromptHolesModel", "habitOf", "(II)I"⟩, 28), (⟨"PromptHolesModel", "stepOf", "(II)I"⟩, 28), (⟨"PromptHolesModel", "printedIn", "(I)I"⟩, 28), (⟨"PromptHolesModel", "driftOf", "(I)I"⟩, 28), (⟨"PromptHolesModel", "driftTo", "(I)I"⟩, 28)]
theorem lw_r2 : ∀ q ∈ lw_privs_2, lw_okq q := List.forall_mem_cons.mpr ⟨lw_p16, List.forall_mem_cons.mpr ⟨lw_p17, List.forall_mem_cons.mpr ⟨lw_p18, List.forall_mem_cons.mpr ⟨lw_p19, List.forall_mem_cons.mpr ⟨lw_p20, List.forall_mem_cons.mpr ⟨lw_p21, List.forall_mem_cons.mpr ⟨lw_p22, List.forall_mem_cons.mpr ⟨lw_p23, List.forall_mem_cons.mpr ⟨lw_p24, List.forall_mem_cons.mpr ⟨lw_p25, List.forall_mem_cons.mpr ⟨lw_p26, List.forall_mem_cons.mpr ⟨lw_p27, List.forall_mem_cons.mpr ⟨lw_p28, List.forall_mem_cons.mpr ⟨lw_p29, List.forall_mem_cons.mpr ⟨lw_p30, List.forall_mem_cons.mpr ⟨lw_p31, fun _ h => absurd h List.not_mem_nil⟩⟩⟩⟩⟩⟩⟩⟩⟩⟩⟩⟩⟩⟩⟩⟩
theorem lw_p32 : lw_okq (⟨"PromptHolesModel", "roundNow", "()I"⟩, 28) := ⟨⟨by decide +kernel, by decide +kernel⟩, List.mem_of_getElem? (i := 737) (by decide +kernel), List.mem_of_getElem? (i := 1030) (by decide +kernel), List.mem_of_getElem? (i := 1031) (by decide +kernel)⟩
theorem lw_p33 : lw_okq (⟨"PromptHolesModel", "oftenOf", "(II)I"⟩, 28) := ⟨⟨by decide +kernel, by decide +kernel⟩, List.mem_of_getElem? (i := 737) (by decide +kernel), List.mem_of_getElem? (i := 1038) (by decide +kernel), List.mem_of_getElem? (i := 1039) (by decide +kernel)⟩
theorem lw_p34 : lw_okq (⟨"PromptHolesModel", "mayOf", "(II)I"⟩, 28) := ⟨⟨by decide +kernel, by decide +kernel⟩, List.mem_of_getElem? (i := 737) (by decide +kernel), List.mem_of_getElem? (i := 1046) (by decide +kernel), List.mem_of_getElem? (i := 1047) (by decide +kernel)⟩
theorem lw_p35 : lw_okq (⟨"PromptHolesModel", "promptOf", "(IIII)I"⟩, 28) := ⟨⟨by decide +kernel, by decide +kernel⟩, List.mem_of_getElem? (i := 737) (by decide +kernel), List.mem_of_getElem? (i := 1054) (by decide +kernel), List.mem_of_getElem? (i := 1055) (by decide +kernel)⟩
theorem lw_p36 : lw_okq (⟨"PromptHolesModel", "filedNow", "()I"⟩, 28) := ⟨⟨by decide +kernel, by decide +kernel⟩, List.mem_of_getElem? (i := 737) (by decide +kernel), List.mem_of_getElem? (i := 1070) (by decide +kernel), List.mem_of_getElem? (i := 1071) (by decide +kernel)⟩
theorem lw_p37 : lw_okq (⟨"PromptHolesModel", "isSeen", "()Z"⟩, 28) := ⟨⟨by decide +kernel, by decide +kernel⟩, List.mem_of_getElem? (i := 737) (by decide +kernel), List.mem_of_getElem? (i := 1074) (by decide +kernel), List.mem_of_getElem? (i := 1075) (by decide +kernel)⟩
theorem lw_p38 : lw_okq (⟨"PromptHolesModel", "coughedOf", "(I)I"⟩, 28) := ⟨⟨by decide +kernel, by decide +kernel⟩, List.mem_of_getElem? (i := 737) (by decide +kernel), List.mem_of_getElem? (i := 1082) (by decide +kernel), List.mem_of_getElem? (i := 1083) (by decide +kernel)⟩
theorem lw_p39 : lw_okq (⟨"PromptHolesModel", "askOf", "(I)I"⟩, 28) := ⟨⟨by decide +kernel, by decide +kernel⟩, List.mem_of_getElem? (i := 737) (by decide +kernel), List.mem_of_getElem? (i := 1090) (by decide +kernel), List.mem_of_getElem? (i := 1091) (by decide +kernel)⟩
theorem lw_p40 : lw_okq (⟨"PromptHolesModel", "slipsOf", "(IIIII)J"⟩, 28) := ⟨⟨by decide +kernel, by decide +kernel⟩, List.mem_of_getElem? (i := 737) (by decide +kernel), List.mem_of_getElem? (i := 1099) (by decide +kernel), List.mem_of_getElem? (i := 1100) (by decide +kernel)⟩
theorem lw_p41 : lw_okq (⟨"PromptHolesModel", "eveningOf", "(III)I"⟩, 28) := ⟨⟨by decide +kernel, by decide +kernel⟩, List.mem_of_getElem? (i := 737) (by decide +kernel), List.mem_of_getElem? (i := 1114) (by decide +kernel), List.mem_of_getElem? (i := 1115) (by decide +kernel)⟩
theorem lw_p42 : lw_okq (⟨"PromptHolesModel", "lot", "(I)I"⟩, 28) := ⟨⟨by decide +kernel, by decide +kernel⟩, List.mem_of_getElem? (i := 737) (by decide +kernel), List.mem_of_getElem? (i := 1118) (by decide +kernel), List.mem_of_getElem? (i := 1119) (by decide +kernel)⟩
theorem lw_p43 : lw_okq (⟨"PromptHolesModel", "tellsLine", "(JI)J"⟩, 28) := ⟨⟨by decide +kernel, by decide +kernel⟩, List.mem_of_getElem? (i := 737) (by decide +kernel), List.mem_of_getElem? (i := 1141) (by decide +kernel), List.mem_of_getElem? (i := 1142) (by decide +kernel)⟩
def lw_privs_3 : List (MethodName × Nat) := [(⟨"PromptHolesModel", "roundNow", "()I"⟩, 28), (⟨"PromptHolesModel", "oftenOf", "(II)I"⟩, 28), (⟨"PromptHolesModel", "mayOf", "(II)I"⟩, 28), (⟨"PromptHolesModel", "promptOf", "(IIII)I"⟩, 28), (⟨"PromptHolesModel", "filedNow", "()I"⟩, 28), (⟨"PromptHolesModel", "isSeen", "()Z"⟩, 28), (⟨"PromptHolesModel", "coughedOf", "(I)I"⟩, 28), (⟨"PromptHolesModel", "askOf", "(I)I"⟩, 28), (⟨"PromptHolesModel", "slipsOf", "(IIIII)J"⟩, 28), (⟨"PromptHolesModel", "eveningOf", "(III)I"⟩, 28), (⟨"PromptHolesModel", "lot", "(I)I"⟩, 28), (⟨"PromptHolesModel", "tellsLine", "(JI)J"⟩, 28)]
theorem lw_r3 : ∀ q ∈ lw_privs_3, lw_okq q := List.forall_mem_cons.mpr ⟨lw_p32, List.forall_mem_cons.mpr ⟨lw_p33, List.forall_mem_cons.mpr ⟨lw_p34, List.forall_mem_cons.mpr ⟨lw_p35, List.forall_mem_cons.mpr ⟨lw_p36, List.forall_mem_cons.mpr ⟨lw_p37, List.forall_mem_cons.mpr ⟨lw_p38, List.forall_mem_cons.mpr ⟨lw_p39, List.forall_mem_cons.mpr ⟨lw_p40, List.forall_mem_cons.mpr ⟨lw_p41, List.forall_mem_cons.mpr ⟨lw_p42, List.forall_mem_cons.mpr ⟨lw_p43, fun _ h => absurd h List.not_mem_nil⟩⟩⟩⟩⟩⟩⟩⟩⟩⟩⟩⟩
def lw_privs : List (MethodName × Nat) := lw_privs_1 ++ (lw_privs_2 ++ (lw_privs_3))
def lw_tbl : List Cond := k2_sels lw_privs ++ tables_1
theorem lw_privs_ok : ∀ q ∈ lw_privs, lw_okq q := by
  show ∀ q ∈ lw_privs_1 ++ (lw_privs_2 ++ (lw_privs_3)), lw_okq q
  exact List.forall_mem_append.mpr ⟨lw_r1, List.forall_mem_append.mpr ⟨lw_r2, lw_r3⟩⟩
end
section
def RX0 : String := "PromptHoles$Chances"
def TX0 : u_T := fun k => match k with
  | 0 => ("PromptHoles$Chances", "ways", "[J", true)
  | 1 => ("PromptHoles$Chances", "before", "[J", true)
  | 2 => ("PromptHoles$Chances", "all", "J", false)
  | 3 => ("PromptHoles$Chances", "above", "J", false)
  | _ => ("PromptHoles$Chances", "below", "J", false)
def tyX0 : Nat → FieldType := fun k => match k with
  | 0 => .array .long
  | 1 => .array .long
  | 2 => .long
  | 3 => .long
  | _ => .long
theorem nmX0 : ∀ a, a < 5 → ∀ b, b < 5 → a ≠ b → (TX0 a).2.1 ≠ (TX0 b).2.1 := by decide +kernel
theorem tyX0_ok : ∀ k, k < 5 → parseFieldDescriptor (TX0 k).2.2.1 = some (tyX0 k) := by decide +kernel
abbrev cX0_init : ByteArray := prog_2_method_1_code
def yX0_init : MethodName := ⟨RX0, "<init>", "()V"⟩
abbrev cX0_begin : ByteArray := prog_2_method_2_code
def yX0_begin : MethodName := ⟨RX0, "begin", "(I)V"⟩
abbrev cX0_goOn : ByteArray := prog_2_method_3_code
def yX0_goOn : MethodName := ⟨RX0, "goOn", "(LPromptHoles$Stage;III)V"⟩
abbrev cX0_put : ByteArray := prog_2_method_4_code
def yX0_put : MethodName := ⟨RX0, "put", "(IJ)V"⟩
abbrev cX0_reduce : ByteArray := prog_2_method_5_code
def yX0_reduce : MethodName := ⟨RX0, "reduce", "(I)V"⟩
def RX1 : String := "PromptHoles$Holes"
def TX1 : u_T := fun k => match k with
  | 0 => ("PromptHoles$Holes", "places", "[I", true)
  | 1 => ("PromptHoles$Holes", "reaches", "[I", true)
  | 2 => ("PromptHoles$Holes", "habits", "[I", true)
  | 3 => ("PromptHoles$Holes", "lines", "[I", true)
  | 4 => ("PromptHoles$Holes", "thoughts", "[I", true)
  | 5 => ("PromptHoles$Holes", "size", "I", false)
  | _ => ("PromptHoles$Holes", "fault", "I", false)
def tyX1 : Nat → FieldType := fun k => match k with
  | 0 => .array .int
  | 1 => .array .int
  | 2 => .array .int
  | 3 => .array .int
  | 4 => .array .int
  | 5 => .int
  | _ => .int
theorem nmX1 : ∀ a, a < 7 → ∀ b, b < 7 → a ≠ b → (TX1 a).2.1 ≠ (TX1 b).2.1 := by decide +kernel
theorem tyX1_ok : ∀ k, k < 7 → parseFieldDescriptor (TX1 k).2.2.1 = some (tyX1 k) := by decide +kernel
abbrev cX1_init : ByteArray := prog_3_method_1_code
def yX1_init : MethodName := ⟨RX1, "<init>", "()V"⟩
abbrev cX1_parse : ByteArray := prog_3_method_2_code
def yX1_parse : MethodName := ⟨RX1, "parse", "(LPromptHoles$Row;)V"⟩
abbrev cX1_faultOf : ByteArray := prog_3_method_3_code
def yX1_faultOf : MethodName := ⟨RX1, "faultOf", "(LPromptHoles$Row;)I"⟩
abbrev cX1_goesOn : ByteArray := prog_3_method_4_code
def yX1_goesOn : MethodName := ⟨RX1, "goesOn", "(II)Z"⟩
abbrev cX1_habitBy : ByteArray := prog_3_method_5_code
def yX1_habitBy : MethodName := ⟨RX1, "habitBy", "(I)I"⟩
abbrev cX1_placeOf : ByteArray := prog_3_method_6_code
def yX1_placeOf : MethodName := ⟨RX1, "placeOf", "(I)I"⟩
abbrev cX1_hearsOf : ByteArray := prog_3_method_7_code
def yX1_hearsOf : MethodName := ⟨RX1, "hearsOf", "(I)I"⟩
abbrev cX1_habitOf : ByteArray := prog_3_method_8_code
def yX1_habitOf : MethodName := ⟨RX1, "habitOf", "(I)I"⟩
abbrev cX1_lineOf : ByteArray := prog_3_method_9_code
def yX1_lineOf : MethodName := ⟨RX1, "lineOf", "(I)I"⟩
abbrev cX1_think : ByteArray := prog_3_method_10_code
def yX1_think : MethodName := ⟨RX1, "think", "(LPromptHoles$Play;)V"⟩
abbrev cX1_byHabit : ByteArray := prog_3_method_11_code
def yX1_byHabit : MethodName := ⟨RX1, "byHabit", "(IIII)I"⟩
def RX2 : String := "PromptHoles$Lots"
def TX2 : u_T := fun k => match k with
  | _ => ("PromptHoles$Lots", "seed", "I", false)
def tyX2 : Nat → FieldType := fun k => match k with
  | _ => .int
theorem nmX2 : ∀ a, a < 1 → ∀ b, b < 1 → a ≠ b → (TX2 a).2.1 ≠ (TX2 b).2.1 := by decide +kernel
theorem tyX2_ok : ∀ k, k < 1 → parseFieldDescriptor (TX2 k).2.2.1 = some (tyX2 k) := by decide +kernel
abbrev cX2_init : ByteArray := prog_4_method_1_code
def yX2_init : MethodName := ⟨RX2, "<init>", "()V"⟩
abbrev cX2_begin : ByteArray := prog_4_method_2_code
def yX2_begin : MethodName := ⟨RX2, "begin", "(I)V"⟩
abbrev cX2_draw : ByteArray := prog_4_method_3_code
def yX2_draw : MethodName := ⟨RX2, "draw", "(I)I"⟩
abbrev cX2_drawCough : ByteArray := prog_4_method_4_code
def yX2_drawCough : MethodName := ⟨RX2, "drawCough", "(I)I"⟩
def RX3 : String := "PromptHoles$Play"
def TX3 : u_T := fun k => match k with
  | 0 => ("PromptHoles$Play", "lines", "[I", true)
  | 1 => ("PromptHoles$Play", "next", "[I", true)
  | 2 => ("PromptHoles$Play", "ahead", "[I", true)
  | 3 => ("PromptHoles$Play", "length", "I", false)
  | _ => ("PromptHoles$Play", "fault", "I", false)
def tyX3 : Nat → FieldType := fun k => match k with
  | 0 => .array .int
  | 1 => .array .int
  | 2 => .array .int
  | 3 => .int
  | _ => .int
theorem nmX3 : ∀ a, a < 5 → ∀ b, b < 5 → a ≠ b → (TX3 a).2.1 ≠ (TX3 b).2.1 := by decide +kernel
theorem tyX3_ok : ∀ k, k < 5 → parseFieldDescriptor (TX3 k).2.2.1 = some (tyX3 k) := by decide +kernel
abbrev cX3_init : ByteArray := prog_5_method_1_code
def yX3_init : MethodName := ⟨RX3, "<init>", "()V"⟩
abbrev cX3_parse : ByteArray := prog_5_method_2_code
def yX3_parse : MethodName := ⟨RX3, "parse", "(LPromptHoles$Row;)V"⟩
abbrev cX3_faultOf : ByteArray := prog_5_method_3_code
def yX3_faultOf : MethodName := ⟨RX3, "faultOf", "(LPromptHoles$Row;)I"⟩
abbrev cX3_lineIn : ByteArray := prog_5_method_4_code
def yX3_lineIn : MethodName := ⟨RX3, "lineIn", "(I)I"⟩
abbrev cX3_nextTo : ByteArray := prog_5_method_5_code
def yX3_nextTo : MethodName := ⟨RX3, "nextTo", "(I)I"⟩
abbrev cX3_aheadOf : ByteArray := prog_5_method_6_code
def yX3_aheadOf : MethodName := ⟨RX3, "aheadOf", "(I)I"⟩
abbrev cX3_printedIn : ByteArray := prog_5_method_7_code
def yX3_printedIn : MethodName := ⟨RX3, "printedIn", "(I)I"⟩
def RX4 : String := "PromptHoles$Row"
def TX4 : u_T := fun k => match k with
  | 0 => ("PromptHoles$Row", "items", "[I", true)
  | _ => ("PromptHoles$Row", "size", "I", false)
def tyX4 : Nat → FieldType := fun k => match k with
  | 0 => .array .int
  | _ => .int
theorem nmX4 : ∀ a, a < 2 → ∀ b, b < 2 → a ≠ b → (TX4 a).2.1 ≠ (TX4 b).2.1 := by decide +kernel
theorem tyX4_ok : ∀ k, k < 2 → parseFieldDescriptor (TX4 k).2.2.1 = some (tyX4 k) := by decide +kernel
abbrev cX4_init : ByteArray := prog_6_method_1_code
def yX4_init : MethodName := ⟨RX4, "<init>", "(I)V"⟩
abbrev cX4_size : ByteArray := prog_6_method_2_code
def yX4_size : MethodName := ⟨RX4, "size", "()I"⟩
abbrev cX4_isFull : ByteArray := prog_6_method_3_code
def yX4_isFull : MethodName := ⟨RX4, "isFull", "()Z"⟩
abbrev cX4_at : ByteArray := prog_6_method_4_code
def yX4_at : MethodName := ⟨RX4, "at", "(I)I"⟩
abbrev cX4_add : ByteArray := prog_6_method_5_code
def yX4_add : MethodName := ⟨RX4, "add", "(I)V"⟩
abbrev cX4_cut : ByteArray := prog_6_method_6_code
def yX4_cut : MethodName := ⟨RX4, "cut", "()V"⟩
abbrev cX4_clear : ByteArray := prog_6_method_7_code
def yX4_clear : MethodName := ⟨RX4, "clear", "()V"⟩
def RX5 : String := "PromptHoles$Sheets"
def TX5 : u_T := fun k => match k with
  | 0 => ("PromptHoles$Sheets", "forms", "[I", true)
  | 1 => ("PromptHoles$Sheets", "sizes", "[I", true)
  | _ => ("PromptHoles$Sheets", "items", "[I", true)
def tyX5 : Nat → FieldType := fun k => match k with
  | 0 => .array .int
  | 1 => .array .int
  | _ => .array .int
theorem nmX5 : ∀ a, a < 3 → ∀ b, b < 3 → a ≠ b → (TX5 a).2.1 ≠ (TX5 b).2.1 := by decide +kernel
theorem tyX5_ok : ∀ k, k < 3 → parseFieldDescriptor (TX5 k).2.2.1 = some (tyX5 k) := by decide +kernel
abbrev cX5_init : ByteArray := prog_7_method_1_code
def yX5_init : MethodName := ⟨RX5, "<init>", "()V"⟩
abbrev cX5_isLost : ByteArray := prog_7_method_2_code
def yX5_isLost : MethodName := ⟨RX5, "isLost", "(I)Z"⟩
abbrev cX5_formOf : ByteArray := prog_7_method_3_code
def yX5_formOf : MethodName := ⟨RX5, "formOf", "(I)I"⟩
abbrev cX5_sizeOf : ByteArray := prog_7_method_4_code
def yX5_sizeOf : MethodName := ⟨RX5, "sizeOf", "(I)I"⟩
abbrev cX5_item : ByteArray := prog_7_method_5_code
def yX5_item : MethodName := ⟨RX5, "item", "(II)I"⟩
abbrev cX5_put : ByteArray := prog_7_method_6_code
def yX5_put : MethodName := ⟨RX5, "put", "(III)V"⟩
abbrev cX5_renew : ByteArray := prog_7_method_7_code
def yX5_renew : MethodName := ⟨RX5, "renew", "(III)V"⟩
abbrev cX5_tear : ByteArray := prog_7_method_8_code
def yX5_tear : MethodName := ⟨RX5, "tear", "(I)V"⟩
abbrev cX5_wrongWith : ByteArray := prog_7_method_9_code
def yX5_wrongWith : MethodName := ⟨RX5, "wrongWith", "(III)I"⟩
abbrev cX5_hasRun : ByteArray := prog_7_method_10_code
def yX5_hasRun : MethodName := ⟨RX5, "hasRun", "(III)Z"⟩
abbrev cX5_carry : ByteArray := prog_7_method_11_code
def yX5_carry : MethodName := ⟨RX5, "carry", "(IIIII)V"⟩
def RX6 : String := "PromptHoles$Stage"
def TX6 : u_T := fun k => match k with
  | 0 => ("PromptHoles$Stage", "play", "LPromptHoles$Play;", true)
  | 1 => ("PromptHoles$Stage", "holes", "LPromptHoles$Holes;", true)
  | 2 => ("PromptHoles$Stage", "where", "[I", true)
  | 3 => ("PromptHoles$Stage", "coughing", "[I", true)
  | 4 => ("PromptHoles$Stage", "opening", "[Z", true)
  | 5 => ("PromptHoles$Stage", "by", "[I", true)
  | _ => ("PromptHoles$Stage", "played", "[I", true)
def tyX6 : Nat → FieldType := fun k => match k with
  | 0 => .object "PromptHoles$Play"
  | 1 => .object "PromptHoles$Holes"
  | 2 => .array .int
  | 3 => .array .int
  | 4 => .array .boolean
  | 5 => .array .int
  | _ => .array .int
theorem nmX6 : ∀ a, a < 7 → ∀ b, b < 7 → a ≠ b → (TX6 a).2.1 ≠ (TX6 b).2.1 := by decide +kernel
theorem tyX6_ok : ∀ k, k < 7 → parseFieldDescriptor (TX6 k).2.2.1 = some (tyX6 k) := by decide +kernel
abbrev cX6_init : ByteArray := prog_8_method_1_code
def yX6_init : MethodName := ⟨RX6, "<init>", "()V"⟩
abbrev cX6_set : ByteArray := prog_8_method_2_code
def yX6_set : MethodName := ⟨RX6, "set", "(LPromptHoles$Told;LPromptHoles$Told;LPromptHoles$Told;)V"⟩
abbrev cX6_perform : ByteArray := prog_8_method_3_code
def yX6_perform : MethodName := ⟨RX6, "perform", "()V"⟩
abbrev cX6_playedIn : ByteArray := prog_8_method_4_code
def yX6_playedIn : MethodName := ⟨RX6, "playedIn", "(I)I"⟩
abbrev cX6_byIn : ByteArray := prog_8_method_5_code
def yX6_byIn : MethodName := ⟨RX6, "byIn", "(I)I"⟩
abbrev cX6_whereIn : ByteArray := prog_8_method_6_code
def yX6_whereIn : MethodName := ⟨RX6, "whereIn", "(I)I"⟩
abbrev cX6_coughsIn : ByteArray := prog_8_method_7_code
def yX6_coughsIn : MethodName := ⟨RX6, "coughsIn", "(I)I"⟩
abbrev cX6_hears : ByteArray := prog_8_method_8_code
def yX6_hears : MethodName := ⟨RX6, "hears", "(III)Z"⟩
abbrev cX6_nearest : ByteArray := prog_8_method_9_code
def yX6_nearest : MethodName := ⟨RX6, "nearest", "(II)I"⟩
abbrev cX6_whispered : ByteArray := prog_8_method_10_code
def yX6_whispered : MethodName := ⟨RX6, "whispered", "(III)I"⟩
abbrev cX6_follow : ByteArray := prog_8_method_11_code
def yX6_follow : MethodName := ⟨RX6, "follow", "(IIII)I"⟩
abbrev cX6_rehearse : ByteArray := prog_8_method_12_code
def yX6_rehearse : MethodName := ⟨RX6, "rehearse", "(II[I)V"⟩
abbrev cX6_rehearseFiled : ByteArray := prog_8_method_13_code
def yX6_rehearseFiled : MethodName := ⟨RX6, "rehearseFiled", "(I[I)V"⟩
abbrev cX6_leadingInto : ByteArray := prog_8_method_14_code
def yX6_leadingInto : MethodName := ⟨RX6, "leadingInto", "(II)I"⟩
def RX7 : String := "PromptHoles$Told"
def TX7 : u_T := fun k => match k with
  | 0 => ("PromptHoles$Told", "steps", "LPromptHoles$Row;", true)
  | _ => ("PromptHoles$Told", "values", "LPromptHoles$Row;", true)
def tyX7 : Nat → FieldType := fun k => match k with
  | 0 => .object "PromptHoles$Row"
  | _ => .object "PromptHoles$Row"
theorem nmX7 : ∀ a, a < 2 → ∀ b, b < 2 → a ≠ b → (TX7 a).2.1 ≠ (TX7 b).2.1 := by decide +kernel
theorem tyX7_ok : ∀ k, k < 2 → parseFieldDescriptor (TX7 k).2.2.1 = some (tyX7 k) := by decide +kernel
abbrev cX7_init : ByteArray := prog_9_method_1_code
def yX7_init : MethodName := ⟨RX7, "<init>", "(I)V"⟩
abbrev cX7_size : ByteArray := prog_9_method_2_code
def yX7_size : MethodName := ⟨RX7, "size", "()I"⟩
abbrev cX7_isFull : ByteArray := prog_9_method_3_code
def yX7_isFull : MethodName := ⟨RX7, "isFull", "()Z"⟩
abbrev cX7_stepAt : ByteArray := prog_9_method_4_code
def yX7_stepAt : MethodName := ⟨RX7, "stepAt", "(I)I"⟩
abbrev cX7_valueAt : ByteArray := prog_9_method_5_code
def yX7_valueAt : MethodName := ⟨RX7, "valueAt", "(I)I"⟩
abbrev cX7_add : ByteArray := prog_9_method_6_code
def yX7_add : MethodName := ⟨RX7, "add", "(II)V"⟩
abbrev cX7_cut : ByteArray := prog_9_method_7_code
def yX7_cut : MethodName := ⟨RX7, "cut", "()V"⟩
abbrev cX7_clear : ByteArray := prog_9_method_8_code
def yX7_clear : MethodName := ⟨RX7, "clear", "()V"⟩
def RX8 : String := "PromptHoles"
def TX8 : u_T := fun k => match k with
  | 0 => ("PromptHoles", "playText", "LPromptHoles$Row;", true)
  | 1 => ("PromptHoles", "holesText", "LPromptHoles$Row;", true)
  | 2 => ("PromptHoles", "moves", "LPromptHoles$Told;", true)
  | 3 => ("PromptHoles", "coughs", "LPromptHoles$Told;", true)
  | 4 => ("PromptHoles", "darks", "LPromptHoles$Told;", true)
  | 5 => ("PromptHoles", "sights", "LPromptHoles$Told;", true)
  | 6 => ("PromptHoles", "stage", "LPromptHoles$Stage;", true)
  | 7 => ("PromptHoles", "stale", "Z", false)
  | 8 => ("PromptHoles", "lots", "LPromptHoles$Lots;", true)
  | 9 => ("PromptHoles", "chances", "LPromptHoles$Chances;", true)
  | 10 => ("PromptHoles", "rehearsal", "[I", true)
  | 11 => ("PromptHoles", "tally", "[I", true)
  | 12 => ("PromptHoles", "sheets", "LPromptHoles$Sheets;", true)
  | _ => ("PromptHoles", "finding", "I", false)
def tyX8 : Nat → FieldType := fun k => match k with
  | 0 => .object "PromptHoles$Row"
  | 1 => .object "PromptHoles$Row"
  | 2 => .object "PromptHoles$Told"
  | 3 => .object "PromptHoles$Told"
  | 4 => .object "PromptHoles$Told"
  | 5 => .object "PromptHoles$Told"
  | 6 => .object "PromptHoles$Stage"
  | 7 => .boolean
  | 8 => .object "PromptHoles$Lots"
  | 9 => .object "PromptHoles$Chances"
  | 10 => .array .int
  | 11 => .array .int
  | 12 => .object "PromptHoles$Sheets"
  | _ => .int
theorem nmX8 : ∀ a, a < 14 → ∀ b, b < 14 → a ≠ b → (TX8 a).2.1 ≠ (TX8 b).2.1 := by decide +kernel
theorem tyX8_ok : ∀ k, k < 14 → parseFieldDescriptor (TX8 k).2.2.1 = some (tyX8 k) := by decide +kernel
abbrev cX8_init : ByteArray := prog_1_method_1_code
def yX8_init : MethodName := ⟨RX8, "<init>", "()V"⟩
abbrev cX8_type : ByteArray := prog_1_method_2_code
def yX8_type : MethodName := ⟨RX8, "type", "(II)I"⟩
abbrev cX8_wipe : ByteArray := prog_1_method_3_code
def yX8_wipe : MethodName := ⟨RX8, "wipe", "(I)I"⟩
abbrev cX8_undo : ByteArray := prog_1_method_4_code
def yX8_undo : MethodName := ⟨RX8, "undo", "(I)I"⟩
abbrev cX8_fault : ByteArray := prog_1_method_5_code
def yX8_fault : MethodName := ⟨RX8, "fault", "(I)I"⟩
abbrev cX8_line : ByteArray := prog_1_method_6_code
def yX8_line : MethodName := ⟨RX8, "line", "(I)I"⟩
abbrev cX8_hole : ByteArray := prog_1_method_7_code
def yX8_hole : MethodName := ⟨RX8, "hole", "(II)I"⟩
abbrev cX8_printed : ByteArray := prog_1_method_8_code
def yX8_printed : MethodName := ⟨RX8, "printed", "(II)I"⟩
abbrev cX8_move : ByteArray := prog_1_method_9_code
def yX8_move : MethodName := ⟨RX8, "move", "(II)I"⟩
abbrev cX8_cough : ByteArray := prog_1_method_10_code
def yX8_cough : MethodName := ⟨RX8, "cough", "(II)I"⟩
abbrev cX8_dark : ByteArray := prog_1_method_11_code
def yX8_dark : MethodName := ⟨RX8, "dark", "(I)I"⟩
abbrev cX8_back : ByteArray := prog_1_method_12_code
def yX8_back : MethodName := ⟨RX8, "back", "(I)I"⟩
abbrev cX8_read : ByteArray := prog_1_method_13_code
def yX8_read : MethodName := ⟨RX8, "read", "(I)I"⟩
abbrev cX8_step : ByteArray := prog_1_method_14_code
def yX8_step : MethodName := ⟨RX8, "step", "(II)I"⟩
abbrev cX8_whispers : ByteArray := prog_1_method_15_code
def yX8_whispers : MethodName := ⟨RX8, "whispers", "(II)I"⟩
abbrev cX8_drift : ByteArray := prog_1_method_16_code
def yX8_drift : MethodName := ⟨RX8, "drift", "(I)I"⟩
abbrev cX8_round : ByteArray := prog_1_method_17_code
def yX8_round : MethodName := ⟨RX8, "round", "()I"⟩
abbrev cX8_often : ByteArray := prog_1_method_18_code
def yX8_often : MethodName := ⟨RX8, "often", "(II)I"⟩
abbrev cX8_may : ByteArray := prog_1_method_19_code
def yX8_may : MethodName := ⟨RX8, "may", "(II)I"⟩
abbrev cX8_prompt : ByteArray := prog_1_method_20_code
def yX8_prompt : MethodName := ⟨RX8, "prompt", "(IIII)I"⟩
abbrev cX8_seen : ByteArray := prog_1_method_21_code
def yX8_seen : MethodName := ⟨RX8, "seen", "(II)I"⟩
abbrev cX8_forget : ByteArray := prog_1_method_22_code
def yX8_forget : MethodName := ⟨RX8, "forget", "()I"⟩
abbrev cX8_filed : ByteArray := prog_1_method_23_code
def yX8_filed : MethodName := ⟨RX8, "filed", "()I"⟩
abbrev cX8_coughed : ByteArray := prog_1_method_24_code
def yX8_coughed : MethodName := ⟨RX8, "coughed", "(I)I"⟩
abbrev cX8_ask : ByteArray := prog_1_method_25_code
def yX8_ask : MethodName := ⟨RX8, "ask", "(I)I"⟩
abbrev cX8_slips : ByteArray := prog_1_method_26_code
def yX8_slips : MethodName := ⟨RX8, "slips", "(IIIII)J"⟩
abbrev cX8_evening : ByteArray := prog_1_method_27_code
def yX8_evening : MethodName := ⟨RX8, "evening", "(III)I"⟩
abbrev cX8_sheet : ByteArray := prog_1_method_28_code
def yX8_sheet : MethodName := ⟨RX8, "sheet", "(III)I"⟩
abbrev cX8_lose : ByteArray := prog_1_method_29_code
def yX8_lose : MethodName := ⟨RX8, "lose", "(I)I"⟩
abbrev cX8_lay : ByteArray := prog_1_method_30_code
def yX8_lay : MethodName := ⟨RX8, "lay", "(IIII)I"⟩
abbrev cX8_get : ByteArray := prog_1_method_31_code
def yX8_get : MethodName := ⟨RX8, "get", "(III)I"⟩
abbrev cX8_copy : ByteArray := prog_1_method_32_code
def yX8_copy : MethodName := ⟨RX8, "copy", "(IIIII)I"⟩
abbrev cX8_write : ByteArray := prog_1_method_33_code
def yX8_write : MethodName := ⟨RX8, "write", "(II)I"⟩
abbrev cX8_count : ByteArray := prog_1_method_34_code
def yX8_count : MethodName := ⟨RX8, "count", "(I)I"⟩
abbrev cX8_digest : ByteArray := prog_1_method_35_code
def yX8_digest : MethodName := ⟨RX8, "digest", "()J"⟩
abbrev cX8_within : ByteArray := prog_1_method_36_code
def yX8_within : MethodName := ⟨RX8, "within", "(II)Z"⟩
abbrev cX8_bitOf : ByteArray := prog_1_method_37_code
def yX8_bitOf : MethodName := ⟨RX8, "bitOf", "(I)I"⟩
abbrev cX8_lowestBit : ByteArray := prog_1_method_38_code
def yX8_lowestBit : MethodName := ⟨RX8, "lowestBit", "(I)I"⟩
abbrev cX8_textOf : ByteArray := prog_1_method_39_code
def yX8_textOf : MethodName := ⟨RX8, "textOf", "(I)LPromptHoles$Row;"⟩
abbrev cX8_staged : ByteArray := prog_1_method_40_code
def yX8_staged : MethodName := ⟨RX8, "staged", "()LPromptHoles$Stage;"⟩
abbrev cX8_tell : ByteArray := prog_1_method_41_code
def yX8_tell : MethodName := ⟨RX8, "tell", "(LPromptHoles$Told;II)I"⟩
abbrev cX8_found : ByteArray := prog_1_method_42_code
def yX8_found : MethodName := ⟨RX8, "found", "(I)I"⟩
abbrev cX8_goesRound : ByteArray := prog_1_method_43_code
def yX8_goesRound : MethodName := ⟨RX8, "goesRound", "(LPromptHoles$Stage;I)Z"⟩
abbrev cX8_allSeenIn : ByteArray := prog_1_method_44_code
def yX8_allSeenIn : MethodName := ⟨RX8, "allSeenIn", "([I)Z"⟩
abbrev cX8_tallyRehearsal : ByteArray := prog_1_method_45_code
def yX8_tallyRehearsal : MethodName := ⟨RX8, "tallyRehearsal", "()V"⟩
abbrev cX8_greatestTally : ByteArray := prog_1_method_46_code
def yX8_greatestTally : MethodName := ⟨RX8, "greatestTally", "(I)I"⟩
abbrev cX8_mixLine : ByteArray := prog_1_method_47_code
def yX8_mixLine : MethodName := ⟨RX8, "mixLine", "(JI)J"⟩
abbrev cX8_mixHole : ByteArray := prog_1_method_48_code
def yX8_mixHole : MethodName := ⟨RX8, "mixHole", "(JI)J"⟩
abbrev cX8_mixStep : ByteArray := prog_1_method_49_code
def yX8_mixStep : MethodName := ⟨RX8, "mixStep", "(JI)J"⟩
def RX9 : String := "PromptHolesModel"
def TX9 : u_T := fun k => match k with
  | 0 => ("PromptHolesModel", "forms", "[I", true)
  | 1 => ("PromptHolesModel", "sizes", "[I", true)
  | 2 => ("PromptHolesModel", "items", "[I", true)
  | 3 => ("PromptHolesModel", "moved", "[I", true)
  | 4 => ("PromptHolesModel", "latest", "I", false)
  | 5 => ("PromptHolesModel", "bytes", "[I", true)
  | 6 => ("PromptHolesModel", "typed", "[I", true)
  | 7 => ("PromptHolesModel", "lines", "I", false)
  | 8 => ("PromptHolesModel", "play", "[I", true)
  | 9 => ("PromptHolesModel", "holes", "I", false)
  | 10 => ("PromptHolesModel", "hole", "[I", true)
  | 11 => ("PromptHolesModel", "moves", "I", false)
  | 12 => ("PromptHolesModel", "move", "[I", true)
  | 13 => ("PromptHolesModel", "coughs", "I", false)
  | 14 => ("PromptHolesModel", "cough", "[I", true)
  | 15 => ("PromptHolesModel", "darks", "I", false)
  | 16 => ("PromptHolesModel", "dark", "[I", true)
  | 17 => ("PromptHolesModel", "throats", "[I", true)
  | 18 => ("PromptHolesModel", "stands", "[I", true)
  | 19 => ("PromptHolesModel", "played", "[I", true)
  | 20 => ("PromptHolesModel", "by", "[I", true)
  | 21 => ("PromptHolesModel", "filedOne", "I", false)
  | 22 => ("PromptHolesModel", "saidAt", "I", false)
  | 23 => ("PromptHolesModel", "said", "I", false)
  | 24 => ("PromptHolesModel", "sights", "I", false)
  | 25 => ("PromptHolesModel", "sight", "[I", true)
  | 26 => ("PromptHolesModel", "alike", "[I", true)
  | _ => ("PromptHolesModel", "drawn", "I", false)
def tyX9 : Nat → FieldType := fun k => match k with
  | 0 => .array .int
  | 1 => .array .int
  | 2 => .array .int
  | 3 => .array .int
  | 4 => .int
  | 5 => .array .int
  | 6 => .array .int
  | 7 => .int
  | 8 => .array .int
  | 9 => .int
  | 10 => .array .int
  | 11 => .int
  | 12 => .array .int
  | 13 => .int
  | 14 => .array .int
  | 15 => .int
  | 16 => .array .int
  | 17 => .array .int
  | 18 => .array .int
  | 19 => .array .int
  | 20 => .array .int
  | 21 => .int
  | 22 => .int
  | 23 => .int
  | 24 => .int
  | 25 => .array .int
  | 26 => .array .int
  | _ => .int
theorem nmX9 : ∀ a, a < 28 → ∀ b, b < 28 → a ≠ b → (TX9 a).2.1 ≠ (TX9 b).2.1 := by decide +kernel
theorem tyX9_ok : ∀ k, k < 28 → parseFieldDescriptor (TX9 k).2.2.1 = some (tyX9 k) := by decide +kernel
abbrev cX9_init : ByteArray := prog_11_method_1_code
def yX9_init : MethodName := ⟨RX9, "<init>", "()V"⟩
abbrev cX9_in : ByteArray := prog_11_method_3_code
def yX9_in : MethodName := ⟨RX9, "in", "(JJJ)Z"⟩
abbrev cX9_no : ByteArray := prog_11_method_4_code
def yX9_no : MethodName := ⟨RX9, "no", "(I)J"⟩
abbrev cX9_isTwo : ByteArray := prog_11_method_5_code
def yX9_isTwo : MethodName := ⟨RX9, "isTwo", "(I)Z"⟩
abbrev cX9_isIn : ByteArray := prog_11_method_6_code
def yX9_isIn : MethodName := ⟨RX9, "isIn", "(II)Z"⟩
abbrev cX9_lesser : ByteArray := prog_11_method_7_code
def yX9_lesser : MethodName := ⟨RX9, "lesser", "(II)I"⟩
abbrev cX9_amount : ByteArray := prog_11_method_8_code
def yX9_amount : MethodName := ⟨RX9, "amount", "(I)I"⟩
abbrev cX9_part : ByteArray := prog_11_method_9_code
def yX9_part : MethodName := ⟨RX9, "part", "(JJI)J"⟩
abbrev cX9_finds : ByteArray := prog_11_method_10_code
def yX9_finds : MethodName := ⟨RX9, "finds", "(I)I"⟩
abbrev cX9_isSheet : ByteArray := prog_11_method_11_code
def yX9_isSheet : MethodName := ⟨RX9, "isSheet", "(I)Z"⟩
abbrev cX9_sheet : ByteArray := prog_11_method_12_code
def yX9_sheet : MethodName := ⟨RX9, "sheet", "(III)I"⟩
abbrev cX9_lose : ByteArray := prog_11_method_13_code
def yX9_lose : MethodName := ⟨RX9, "lose", "(I)I"⟩
abbrev cX9_lacks : ByteArray := prog_11_method_14_code
def yX9_lacks : MethodName := ⟨RX9, "lacks", "(III)I"⟩
abbrev cX9_cut : ByteArray := prog_11_method_15_code
def yX9_cut : MethodName := ⟨RX9, "cut", "(II)I"⟩
abbrev cX9_lay : ByteArray := prog_11_method_16_code
def yX9_lay : MethodName := ⟨RX9, "lay", "(IIII)I"⟩
abbrev cX9_get : ByteArray := prog_11_method_17_code
def yX9_get : MethodName := ⟨RX9, "get", "(III)I"⟩
abbrev cX9_copy : ByteArray := prog_11_method_18_code
def yX9_copy : MethodName := ⟨RX9, "copy", "(IIIII)I"⟩
abbrev cX9_type : ByteArray := prog_11_method_19_code
def yX9_type : MethodName := ⟨RX9, "type", "(II)I"⟩
abbrev cX9_wipe : ByteArray := prog_11_method_20_code
def yX9_wipe : MethodName := ⟨RX9, "wipe", "(I)I"⟩
abbrev cX9_undo : ByteArray := prog_11_method_21_code
def yX9_undo : MethodName := ⟨RX9, "undo", "(I)I"⟩
abbrev cX9_readsPlay : ByteArray := prog_11_method_22_code
def yX9_readsPlay : MethodName := ⟨RX9, "readsPlay", "()I"⟩
abbrev cX9_within : ByteArray := prog_11_method_23_code
def yX9_within : MethodName := ⟨RX9, "within", "(III)I"⟩
abbrev cX9_tellsOf : ByteArray := prog_11_method_24_code
def yX9_tellsOf : MethodName := ⟨RX9, "tellsOf", "(II)I"⟩
abbrev cX9_readsHoles : ByteArray := prog_11_method_25_code
def yX9_readsHoles : MethodName := ⟨RX9, "readsHoles", "()I"⟩
abbrev cX9_reads : ByteArray := prog_11_method_26_code
def yX9_reads : MethodName := ⟨RX9, "reads", "()V"⟩
abbrev cX9_fault : ByteArray := prog_11_method_27_code
def yX9_fault : MethodName := ⟨RX9, "fault", "(I)I"⟩
abbrev cX9_isHole : ByteArray := prog_11_method_28_code
def yX9_isHole : MethodName := ⟨RX9, "isHole", "(I)Z"⟩
abbrev cX9_isLine : ByteArray := prog_11_method_29_code
def yX9_isLine : MethodName := ⟨RX9, "isLine", "(I)Z"⟩
abbrev cX9_isStep : ByteArray := prog_11_method_30_code
def yX9_isStep : MethodName := ⟨RX9, "isStep", "(I)Z"⟩
abbrev cX9_line : ByteArray := prog_11_method_31_code
def yX9_line : MethodName := ⟨RX9, "line", "(I)I"⟩
abbrev cX9_hole : ByteArray := prog_11_method_32_code
def yX9_hole : MethodName := ⟨RX9, "hole", "(II)I"⟩
abbrev cX9_printedBy : ByteArray := prog_11_method_33_code
def yX9_printedBy : MethodName := ⟨RX9, "printedBy", "(II)I"⟩
abbrev cX9_printed : ByteArray := prog_11_method_34_code
def yX9_printed : MethodName := ⟨RX9, "printed", "(II)I"⟩
abbrev cX9_move : ByteArray := prog_11_method_35_code
def yX9_move : MethodName := ⟨RX9, "move", "(II)I"⟩
abbrev cX9_cough : ByteArray := prog_11_method_36_code
def yX9_cough : MethodName := ⟨RX9, "cough", "(II)I"⟩
abbrev cX9_dark : ByteArray := prog_11_method_37_code
def yX9_dark : MethodName := ⟨RX9, "dark", "(I)I"⟩
abbrev cX9_back : ByteArray := prog_11_method_38_code
def yX9_back : MethodName := ⟨RX9, "back", "(I)I"⟩
abbrev cX9_read : ByteArray := prog_11_method_39_code
def yX9_read : MethodName := ⟨RX9, "read", "(I)I"⟩
abbrev cX9_isDark : ByteArray := prog_11_method_40_code
def yX9_isDark : MethodName := ⟨RX9, "isDark", "(I)Z"⟩
abbrev cX9_whereAt : ByteArray := prog_11_method_41_code
def yX9_whereAt : MethodName := ⟨RX9, "whereAt", "(I)I"⟩
abbrev cX9_plain : ByteArray := prog_11_method_42_code
def yX9_plain : MethodName := ⟨RX9, "plain", "()V"⟩
abbrev cX9_habitOf : ByteArray := prog_11_method_43_code
def yX9_habitOf : MethodName := ⟨RX9, "habitOf", "(II)I"⟩
abbrev cX9_whispersNow : ByteArray := prog_11_method_44_code
def yX9_whispersNow : MethodName := ⟨RX9, "whispersNow", "(II)I"⟩
abbrev cX9_plays : ByteArray := prog_11_method_45_code
def yX9_plays : MethodName := ⟨RX9, "plays", "(I)V"⟩
abbrev cX9_lives : ByteArray := prog_11_method_46_code
def yX9_lives : MethodName := ⟨RX9, "lives", "(II)V"⟩
abbrev cX9_find : ByteArray := prog_11_method_47_code
def yX9_find : MethodName := ⟨RX9, "find", "()V"⟩
abbrev cX9_printedIn : ByteArray := prog_11_method_48_code
def yX9_printedIn : MethodName := ⟨RX9, "printedIn", "(I)I"⟩
abbrev cX9_stepOf : ByteArray := prog_11_method_49_code
def yX9_stepOf : MethodName := ⟨RX9, "stepOf", "(II)I"⟩
abbrev cX9_step : ByteArray := prog_11_method_50_code
def yX9_step : MethodName := ⟨RX9, "step", "(II)I"⟩
abbrev cX9_whispers : ByteArray := prog_11_method_51_code
def yX9_whispers : MethodName := ⟨RX9, "whispers", "(II)I"⟩
abbrev cX9_driftTo : ByteArray := prog_11_method_52_code
def yX9_driftTo : MethodName := ⟨RX9, "driftTo", "(I)I"⟩
abbrev cX9_driftOf : ByteArray := prog_11_method_53_code
def yX9_driftOf : MethodName := ⟨RX9, "driftOf", "(I)I"⟩
abbrev cX9_drift : ByteArray := prog_11_method_54_code
def yX9_drift : MethodName := ⟨RX9, "drift", "(I)I"⟩
abbrev cX9_roundNow : ByteArray := prog_11_method_55_code
def yX9_roundNow : MethodName := ⟨RX9, "roundNow", "()I"⟩
abbrev cX9_round : ByteArray := prog_11_method_56_code
def yX9_round : MethodName := ⟨RX9, "round", "()I"⟩
abbrev cX9_oftenOf : ByteArray := prog_11_method_57_code
def yX9_oftenOf : MethodName := ⟨RX9, "oftenOf", "(II)I"⟩
abbrev cX9_often : ByteArray := prog_11_method_58_code
def yX9_often : MethodName := ⟨RX9, "often", "(II)I"⟩
abbrev cX9_mayOf : ByteArray := prog_11_method_59_code
def yX9_mayOf : MethodName := ⟨RX9, "mayOf", "(II)I"⟩
abbrev cX9_may : ByteArray := prog_11_method_60_code
def yX9_may : MethodName := ⟨RX9, "may", "(II)I"⟩
abbrev cX9_promptOf : ByteArray := prog_11_method_61_code
def yX9_promptOf : MethodName := ⟨RX9, "promptOf", "(IIII)I"⟩
abbrev cX9_prompt : ByteArray := prog_11_method_62_code
def yX9_prompt : MethodName := ⟨RX9, "prompt", "(IIII)I"⟩
abbrev cX9_seen : ByteArray := prog_11_method_63_code
def yX9_seen : MethodName := ⟨RX9, "seen", "(II)I"⟩
abbrev cX9_forget : ByteArray := prog_11_method_64_code
def yX9_forget : MethodName := ⟨RX9, "forget", "()I"⟩
abbrev cX9_isSeen : ByteArray := prog_11_method_65_code
def yX9_isSeen : MethodName := ⟨RX9, "isSeen", "()Z"⟩
abbrev cX9_filedNow : ByteArray := prog_11_method_66_code
def yX9_filedNow : MethodName := ⟨RX9, "filedNow", "()I"⟩
abbrev cX9_filed : ByteArray := prog_11_method_67_code
def yX9_filed : MethodName := ⟨RX9, "filed", "()I"⟩
abbrev cX9_coughedOf : ByteArray := prog_11_method_68_code
def yX9_coughedOf : MethodName := ⟨RX9, "coughedOf", "(I)I"⟩
abbrev cX9_coughed : ByteArray := prog_11_method_69_code
def yX9_coughed : MethodName := ⟨RX9, "coughed", "(I)I"⟩
abbrev cX9_askOf : ByteArray := prog_11_method_70_code
def yX9_askOf : MethodName := ⟨RX9, "askOf", "(I)I"⟩
abbrev cX9_ask : ByteArray := prog_11_method_71_code
def yX9_ask : MethodName := ⟨RX9, "ask", "(I)I"⟩
abbrev cX9_slipsOf : ByteArray := prog_11_method_72_code
def yX9_slipsOf : MethodName := ⟨RX9, "slipsOf", "(IIIII)J"⟩
abbrev cX9_slips : ByteArray := prog_11_method_73_code
def yX9_slips : MethodName := ⟨RX9, "slips", "(IIIII)J"⟩
abbrev cX9_lot : ByteArray := prog_11_method_74_code
def yX9_lot : MethodName := ⟨RX9, "lot", "(I)I"⟩
abbrev cX9_eveningOf : ByteArray := prog_11_method_75_code
def yX9_eveningOf : MethodName := ⟨RX9, "eveningOf", "(III)I"⟩
abbrev cX9_evening : ByteArray := prog_11_method_76_code
def yX9_evening : MethodName := ⟨RX9, "evening", "(III)I"⟩
abbrev cX9_write : ByteArray := prog_11_method_77_code
def yX9_write : MethodName := ⟨RX9, "write", "(II)I"⟩
abbrev cX9_count : ByteArray := prog_11_method_78_code
def yX9_count : MethodName := ⟨RX9, "count", "(I)I"⟩
abbrev cX9_tellsLine : ByteArray := prog_11_method_79_code
def yX9_tellsLine : MethodName := ⟨RX9, "tellsLine", "(JI)J"⟩
abbrev cX9_digest : ByteArray := prog_11_method_80_code
def yX9_digest : MethodName := ⟨RX9, "digest", "()J"⟩
def RJ6 : String := "java/lang/Integer"
def TJ6 : u_T := fun k => match k with
  | _ => ("", "", "", false)
def tyJ6 : Nat → FieldType := fun k => match k with
  | _ => .int
abbrev cJ6_bitCount_0f7a4 : ByteArray := prog_12_method_49_code
def yJ6_bitCount_0f7a4 : MethodName := ⟨RJ6, "bitCount", "(I)I"⟩
def RJ9 : String := "java/lang/Math"
def TJ9 : u_T := fun k => match k with
  | _ => ("", "", "", false)
def tyJ9 : Nat → FieldType := fun k => match k with
  | _ => .int
abbrev cJ9_abs_0f7a4 : ByteArray := prog_13_method_59_code
def yJ9_abs_0f7a4 : MethodName := ⟨RJ9, "abs", "(I)I"⟩
abbrev cJ9_max_7cf53 : ByteArray := prog_13_method_65_code
def yJ9_max_7cf53 : MethodName := ⟨RJ9, "max", "(II)I"⟩
abbrev cJ9_min_7cf53 : ByteArray := prog_13_method_69_code
def yJ9_min_7cf53 : MethodName := ⟨RJ9, "min", "(II)I"⟩
def RL : String := "PromptHolesLaw"
abbrev cL_law : ByteArray := code
def yL_law : MethodName := ⟨RL, "law", "([I)Z"⟩
abbrev vwCl : List vw_C := [(RX0, TX0, 5), (RX1, TX1, 7), (RX2, TX2, 1), (RX3, TX3, 5), (RX4, TX4, 2), (RX5, TX5, 3), (RX6, TX6, 7), (RX7, TX7, 2), (RX8, TX8, 14), (RX9, TX9, 28)]
end
section
theorem dX0_init_0 : decode cX0_init 0 = .ok (.aload_n 0, 1) := by decide +kernel
theorem dX0_init_1 : decode cX0_init 1 = .ok (.invokespecial 3, 3) := by decide +kernel
theorem dX0_init_4 : decode cX0_init 4 = .ok (.aload_n 0, 1) := by decide +kernel
theorem dX0_init_5 : decode cX0_init 5 = .ok (.bipush 8, 2) := by decide +kernel
theorem dX0_init_7 : decode cX0_init 7 = .ok (.newarray .long, 2) := by decide +kernel
theorem dX0_init_9 : decode cX0_init 9 = .ok (.putfield 9, 3) := by decide +kernel
theorem dX0_init_12 : decode cX0_init 12 = .ok (.aload_n 0, 1) := by decide +kernel
theorem dX0_init_13 : decode cX0_init 13 = .ok (.bipush 8, 2) := by decide +kernel
theorem dX0_init_15 : decode cX0_init 15 = .ok (.newarray .long, 2) := by decide +kernel
theorem dX0_init_17 : decode cX0_init 17 = .ok (.putfield 15, 3) := by decide +kernel
theorem dX0_init_20 : decode cX0_init 20 = .ok (.aload_n 0, 1) := by decide +kernel
theorem dX0_init_21 : decode cX0_init 21 = .ok (.lconst 1, 1) := by decide +kernel
theorem dX0_init_22 : decode cX0_init 22 = .ok (.putfield 18, 3) := by decide +kernel
theorem dX0_init_25 : decode cX0_init 25 = .ok (.aload_n 0, 1) := by decide +kernel
theorem dX0_init_26 : decode cX0_init 26 = .ok (.lconst 0, 1) := by decide +kernel
theorem dX0_init_27 : decode cX0_init 27 = .ok (.putfield 22, 3) := by decide +kernel
theorem dX0_init_30 : decode cX0_init 30 = .ok (.aload_n 0, 1) := by decide +kernel
theorem dX0_init_31 : decode cX0_init 31 = .ok (.lconst 1, 1) := by decide +kernel
theorem dX0_init_32 : decode cX0_init 32 = .ok (.putfield 25, 3) := by decide +kernel
theorem dX0_init_35 : decode cX0_init 35 = .ok (.return_, 1) := by decide +kernel
theorem dX0_begin_0 : decode cX0_begin 0 = .ok (.iconst 0, 1) := by decide +kernel
theorem dX0_begin_1 : decode cX0_begin 1 = .ok (.istore_n 2, 1) := by decide +kernel
theorem dX0_begin_2 : decode cX0_begin 2 = .ok (.iload_n 2, 1) := by decide +kernel
theorem dX0_begin_3 : decode cX0_begin 3 = .ok (.bipush 8, 2) := by decide +kernel
theorem dX0_begin_5 : decode cX0_begin 5 = .ok (.if_icmp .ge 25, 3) := by decide +kernel
theorem dX0_begin_8 : decode cX0_begin 8 = .ok (.aload_n 0, 1) := by decide +kernel
theorem dX0_begin_9 : decode cX0_begin 9 = .ok (.getfield 9, 3) := by decide +kernel
theorem dX0_begin_12 : decode cX0_begin 12 = .ok (.iload_n 2, 1) := by decide +kernel
theorem dX0_begin_13 : decode cX0_begin 13 = .ok (.iload_n 2, 1) := by decide +kernel
theorem dX0_begin_14 : decode cX0_begin 14 = .ok (.iload_n 1, 1) := by decide +kernel
theorem dX0_begin_15 : decode cX0_begin 15 = .ok (.if_icmp .ne 7, 3) := by decide +kernel
theorem dX0_begin_18 : decode cX0_begin 18 = .ok (.lconst 1, 1) := by decide +kernel
theorem dX0_begin_19 : decode cX0_begin 19 = .ok (.goto 4, 3) := by decide +kernel
theorem dX0_begin_22 : decode cX0_begin 22 = .ok (.lconst 0, 1) := by decide +kernel
theorem dX0_begin_23 : decode cX0_begin 23 = .ok (.lastore, 1) := by decide +kernel
theorem dX0_begin_24 : decode cX0_begin 24 = .ok (.iinc 2 1, 3) := by decide +kernel
theorem dX0_begin_27 : decode cX0_begin 27 = .ok (.goto (-25), 3) := by decide +kernel
theorem dX0_begin_30 : decode cX0_begin 30 = .ok (.aload_n 0, 1) := by decide +kernel
theorem dX0_begin_31 : decode cX0_begin 31 = .ok (.lconst 1, 1) := by decide +kernel
theorem dX0_begin_32 : decode cX0_begin 32 = .ok (.putfield 18, 3) := by decide +kernel
theorem dX0_begin_35 : decode cX0_begin 35 = .ok (.return_, 1) := by decide +kernel
theorem dX0_goOn_0 : decode cX0_goOn 0 = .ok (.iconst 0, 1) := by decide +kernel
theorem dX0_goOn_1 : decode cX0_goOn 1 = .ok (.istore 5, 2) := by decide +kernel
theorem dX0_goOn_3 : decode cX0_goOn 3 = .ok (.iload 5, 2) := by decide +kernel
theorem dX0_goOn_5 : decode cX0_goOn 5 = .ok (.bipush 8, 2) := by decide +kernel
theorem dX0_goOn_7 : decode cX0_goOn 7 = .ok (.if_icmp .ge 31, 3) := by decide +kernel
theorem dX0_goOn_10 : decode cX0_goOn 10 = .ok (.aload_n 0, 1) := by decide +kernel
theorem dX0_goOn_11 : decode cX0_goOn 11 = .ok (.getfield 15, 3) := by decide +kernel
theorem dX0_goOn_14 : decode cX0_goOn 14 = .ok (.iload 5, 2) := by decide +kernel
theorem dX0_goOn_16 : decode cX0_goOn 16 = .ok (.aload_n 0, 1) := by decide +kernel
theorem dX0_goOn_17 : decode cX0_goOn 17 = .ok (.getfield 9, 3) := by decide +kernel
theorem dX0_goOn_20 : decode cX0_goOn 20 = .ok (.iload 5, 2) := by decide +kernel
theorem dX0_goOn_22 : decode cX0_goOn 22 = .ok (.laload, 1) := by decide +kernel
theorem dX0_goOn_23 : decode cX0_goOn 23 = .ok (.lastore, 1) := by decide +kernel
theorem dX0_goOn_24 : decode cX0_goOn 24 = .ok (.aload_n 0, 1) := by decide +kernel
theorem dX0_goOn_25 : decode cX0_goOn 25 = .ok (.getfield 9, 3) := by decide +kernel
theorem dX0_goOn_28 : decode cX0_goOn 28 = .ok (.iload 5, 2) := by decide +kernel
theorem dX0_goOn_30 : decode cX0_goOn 30 = .ok (.lconst 0, 1) := by decide +kernel
theorem dX0_goOn_31 : decode cX0_goOn 31 = .ok (.lastore, 1) := by decide +kernel
theorem dX0_goOn_32 : decode cX0_goOn 32 = .ok (.iinc 5 1, 3) := by decide +kernel
theorem dX0_goOn_35 : decode cX0_goOn 35 = .ok (.goto (-32), 3) := by decide +kernel
theorem dX0_goOn_38 : decode cX0_goOn 38 = .ok (.iconst 1, 1) := by decide +kernel
theorem dX0_goOn_39 : decode cX0_goOn 39 = .ok (.iload_n 3, 1) := by decide +kernel
theorem dX0_goOn_40 : decode cX0_goOn 40 = .ok (.ishl, 1) := by decide +kernel
theorem dX0_goOn_41 : decode cX0_goOn 41 = .ok (.istore 5, 2) := by decide +kernel
theorem dX0_goOn_43 : decode cX0_goOn 43 = .ok (.aload_n 1, 1) := by decide +kernel
theorem dX0_goOn_44 : decode cX0_goOn 44 = .ok (.iload_n 2, 1) := by decide +kernel
theorem dX0_goOn_45 : decode cX0_goOn 45 = .ok (.invokevirtual 28, 3) := by decide +kernel
theorem dX0_goOn_48 : decode cX0_goOn 48 = .ok (.iload 5, 2) := by decide +kernel
theorem dX0_goOn_50 : decode cX0_goOn 50 = .ok (.iconst (-1), 1) := by decide +kernel
theorem dX0_goOn_51 : decode cX0_goOn 51 = .ok (.ixor, 1) := by decide +kernel
theorem dX0_goOn_52 : decode cX0_goOn 52 = .ok (.iand, 1) := by decide +kernel
theorem dX0_goOn_53 : decode cX0_goOn 53 = .ok (.istore 6, 2) := by decide +kernel
theorem dX0_goOn_55 : decode cX0_goOn 55 = .ok (.aload_n 1, 1) := by decide +kernel
theorem dX0_goOn_56 : decode cX0_goOn 56 = .ok (.iload_n 2, 1) := by decide +kernel
theorem dX0_goOn_57 : decode cX0_goOn 57 = .ok (.invokevirtual 34, 3) := by decide +kernel
theorem dX0_goOn_60 : decode cX0_goOn 60 = .ok (.istore 7, 2) := by decide +kernel
theorem dX0_goOn_62 : decode cX0_goOn 62 = .ok (.iconst 0, 1) := by decide +kernel
theorem dX0_goOn_63 : decode cX0_goOn 63 = .ok (.istore 8, 2) := by decide +kernel
theorem dX0_goOn_65 : decode cX0_goOn 65 = .ok (.iload 8, 2) := by decide +kernel
theorem dX0_goOn_67 : decode cX0_goOn 67 = .ok (.bipush 8, 2) := by decide +kernel
theorem dX0_goOn_69 : decode cX0_goOn 69 = .ok (.if_icmp .ge 79, 3) := by decide +kernel
theorem dX0_goOn_72 : decode cX0_goOn 72 = .ok (.aload_n 0, 1) := by decide +kernel
theorem dX0_goOn_73 : decode cX0_goOn 73 = .ok (.getfield 15, 3) := by decide +kernel
theorem dX0_goOn_76 : decode cX0_goOn 76 = .ok (.iload 8, 2) := by decide +kernel
theorem dX0_goOn_78 : decode cX0_goOn 78 = .ok (.laload, 1) := by decide +kernel
theorem dX0_goOn_79 : decode cX0_goOn 79 = .ok (.lconst 0, 1) := by decide +kernel
theorem dX0_goOn_80 : decode cX0_goOn 80 = .ok (.lcmp, 1) := by decide +kernel
theorem dX0_goOn_81 : decode cX0_goOn 81 = .ok (.ifCond .eq 61, 3) := by decide +kernel
theorem dX0_goOn_84 : decode cX0_goOn 84 = .ok (.aload_n 0, 1) := by decide +kernel
theorem dX0_goOn_85 : decode cX0_goOn 85 = .ok (.aload_n 1, 1) := by decide +kernel
theorem dX0_goOn_86 : decode cX0_goOn 86 = .ok (.iload_n 2, 1) := by decide +kernel
theorem dX0_goOn_87 : decode cX0_goOn 87 = .ok (.iload 7, 2) := by decide +kernel
theorem dX0_goOn_89 : decode cX0_goOn 89 = .ok (.iload 8, 2) := by decide +kernel
theorem dX0_goOn_91 : decode cX0_goOn 91 = .ok (.iload 6, 2) := by decide +kernel
theorem dX0_goOn_93 : decode cX0_goOn 93 = .ok (.invokevirtual 37, 3) := by decide +kernel
theorem dX0_goOn_96 : decode cX0_goOn 96 = .ok (.aload_n 0, 1) := by decide +kernel
theorem dX0_goOn_97 : decode cX0_goOn 97 = .ok (.getfield 15, 3) := by decide +kernel
theorem dX0_goOn_100 : decode cX0_goOn 100 = .ok (.iload 8, 2) := by decide +kernel
theorem dX0_goOn_102 : decode cX0_goOn 102 = .ok (.laload, 1) := by decide +kernel
theorem dX0_goOn_103 : decode cX0_goOn 103 = .ok (.bipush 16, 2) := by decide +kernel
theorem dX0_goOn_105 : decode cX0_goOn 105 = .ok (.iload 4, 2) := by decide +kernel
theorem dX0_goOn_107 : decode cX0_goOn 107 = .ok (.isub, 1) := by decide +kernel
theorem dX0_goOn_108 : decode cX0_goOn 108 = .ok (.i2l, 1) := by decide +kernel
theorem dX0_goOn_109 : decode cX0_goOn 109 = .ok (.lmul, 1) := by decide +kernel
theorem dX0_goOn_110 : decode cX0_goOn 110 = .ok (.invokevirtual 41, 3) := by decide +kernel
theorem dX0_goOn_113 : decode cX0_goOn 113 = .ok (.aload_n 0, 1) := by decide +kernel
theorem dX0_goOn_114 : decode cX0_goOn 114 = .ok (.aload_n 1, 1) := by decide +kernel
theorem dX0_goOn_115 : decode cX0_goOn 115 = .ok (.iload_n 2, 1) := by decide +kernel
theorem dX0_goOn_116 : decode cX0_goOn 116 = .ok (.iload 7, 2) := by decide +kernel
theorem dX0_goOn_118 : decode cX0_goOn 118 = .ok (.iload 8, 2) := by decide +kernel
theorem dX0_goOn_120 : decode cX0_goOn 120 = .ok (.iload 6, 2) := by decide +kernel
theorem dX0_goOn_122 : decode cX0_goOn 122 = .ok (.iload 5, 2) := by decide +kernel
theorem dX0_goOn_124 : decode cX0_goOn 124 = .ok (.ior, 1) := by decide +kernel
theorem dX0_goOn_125 : decode cX0_goOn 125 = .ok (.invokevirtual 37, 3) := by decide +kernel
theorem dX0_goOn_128 : decode cX0_goOn 128 = .ok (.aload_n 0, 1) := by decide +kernel
theorem dX0_goOn_129 : decode cX0_goOn 129 = .ok (.getfield 15, 3) := by decide +kernel
theorem dX0_goOn_132 : decode cX0_goOn 132 = .ok (.iload 8, 2) := by decide +kernel
theorem dX0_goOn_134 : decode cX0_goOn 134 = .ok (.laload, 1) := by decide +kernel
theorem dX0_goOn_135 : decode cX0_goOn 135 = .ok (.iload 4, 2) := by decide +kernel
theorem dX0_goOn_137 : decode cX0_goOn 137 = .ok (.i2l, 1) := by decide +kernel
theorem dX0_goOn_138 : decode cX0_goOn 138 = .ok (.lmul, 1) := by decide +kernel
theorem dX0_goOn_139 : decode cX0_goOn 139 = .ok (.invokevirtual 41, 3) := by decide +kernel
theorem dX0_goOn_142 : decode cX0_goOn 142 = .ok (.iinc 8 1, 3) := by decide +kernel
theorem dX0_goOn_145 : decode cX0_goOn 145 = .ok (.goto (-80), 3) := by decide +kernel
theorem dX0_goOn_148 : decode cX0_goOn 148 = .ok (.aload_n 0, 1) := by decide +kernel
theorem dX0_goOn_149 : decode cX0_goOn 149 = .ok (.dup, 1) := by decide +kernel
theorem dX0_goOn_150 : decode cX0_goOn 150 = .ok (.getfield 18, 3) := by decide +kernel
theorem dX0_goOn_153 : decode cX0_goOn 153 = .ok (.ldc2_w 45, 3) := by decide +kernel
theorem dX0_goOn_156 : decode cX0_goOn 156 = .ok (.lmul, 1) := by decide +kernel
theorem dX0_goOn_157 : decode cX0_goOn 157 = .ok (.putfield 18, 3) := by decide +kernel
theorem dX0_goOn_160 : decode cX0_goOn 160 = .ok (.return_, 1) := by decide +kernel
theorem dX0_put_0 : decode cX0_put 0 = .ok (.iload_n 1, 1) := by decide +kernel
theorem dX0_put_1 : decode cX0_put 1 = .ok (.bipush 8, 2) := by decide +kernel
theorem dX0_put_3 : decode cX0_put 3 = .ok (.invokestatic 47, 3) := by decide +kernel
theorem dX0_put_6 : decode cX0_put 6 = .ok (.ifCond .eq 13, 3) := by decide +kernel
theorem dX0_put_9 : decode cX0_put 9 = .ok (.aload_n 0, 1) := by decide +kernel
theorem dX0_put_10 : decode cX0_put 10 = .ok (.getfield 9, 3) := by decide +kernel
theorem dX0_put_13 : decode cX0_put 13 = .ok (.iload_n 1, 1) := by decide +kernel
theorem dX0_put_14 : decode cX0_put 14 = .ok (.dup2, 1) := by decide +kernel
theorem dX0_put_15 : decode cX0_put 15 = .ok (.laload, 1) := by decide +kernel
theorem dX0_put_16 : decode cX0_put 16 = .ok (.lload_n 2, 1) := by decide +kernel
theorem dX0_put_17 : decode cX0_put 17 = .ok (.ladd, 1) := by decide +kernel
theorem dX0_put_18 : decode cX0_put 18 = .ok (.lastore, 1) := by decide +kernel
theorem dX0_put_19 : decode cX0_put 19 = .ok (.return_, 1) := by decide +kernel
theorem dX0_reduce_0 : decode cX0_reduce 0 = .ok (.aload_n 0, 1) := by decide +kernel
theorem dX0_reduce_1 : decode cX0_reduce 1 = .ok (.iload_n 1, 1) := by decide +kernel
theorem dX0_reduce_2 : decode cX0_reduce 2 = .ok (.bipush 8, 2) := by decide +kernel
theorem dX0_reduce_4 : decode cX0_reduce 4 = .ok (.invokestatic 47, 3) := by decide +kernel
theorem dX0_reduce_7 : decode cX0_reduce 7 = .ok (.ifCond .eq 12, 3) := by decide +kernel
theorem dX0_reduce_10 : decode cX0_reduce 10 = .ok (.aload_n 0, 1) := by decide +kernel
theorem dX0_reduce_11 : decode cX0_reduce 11 = .ok (.getfield 9, 3) := by decide +kernel
theorem dX0_reduce_14 : decode cX0_reduce 14 = .ok (.iload_n 1, 1) := by decide +kernel
theorem dX0_reduce_15 : decode cX0_reduce 15 = .ok (.laload, 1) := by decide +kernel
theorem dX0_reduce_16 : decode cX0_reduce 16 = .ok (.goto 4, 3) := by decide +kernel
theorem dX0_reduce_19 : decode cX0_reduce 19 = .ok (.lconst 0, 1) := by decide +kernel
theorem dX0_reduce_20 : decode cX0_reduce 20 = .ok (.putfield 22, 3) := by decide +kernel
theorem dX0_reduce_23 : decode cX0_reduce 23 = .ok (.aload_n 0, 1) := by decide +kernel
theorem dX0_reduce_24 : decode cX0_reduce 24 = .ok (.aload_n 0, 1) := by decide +kernel
theorem dX0_reduce_25 : decode cX0_reduce 25 = .ok (.getfield 22, 3) := by decide +kernel
theorem dX0_reduce_28 : decode cX0_reduce 28 = .ok (.lconst 0, 1) := by decide +kernel
theorem dX0_reduce_29 : decode cX0_reduce 29 = .ok (.lcmp, 1) := by decide +kernel
theorem dX0_reduce_30 : decode cX0_reduce 30 = .ok (.ifCond .ne 7, 3) := by decide +kernel
theorem dX0_reduce_33 : decode cX0_reduce 33 = .ok (.lconst 1, 1) := by decide +kernel
theorem dX0_reduce_34 : decode cX0_reduce 34 = .ok (.goto 7, 3) := by decide +kernel
theorem dX0_reduce_37 : decode cX0_reduce 37 = .ok (.aload_n 0, 1) := by decide +kernel
theorem dX0_reduce_38 : decode cX0_reduce 38 = .ok (.getfield 18, 3) := by decide +kernel
theorem dX0_reduce_41 : decode cX0_reduce 41 = .ok (.putfield 25, 3) := by decide +kernel
theorem dX0_reduce_44 : decode cX0_reduce 44 = .ok (.iconst 0, 1) := by decide +kernel
theorem dX0_reduce_45 : decode cX0_reduce 45 = .ok (.istore_n 2, 1) := by decide +kernel
theorem dX0_reduce_46 : decode cX0_reduce 46 = .ok (.iload_n 2, 1) := by decide +kernel
theorem dX0_reduce_47 : decode cX0_reduce 47 = .ok (.bipush 64, 2) := by decide +kernel
theorem dX0_reduce_49 : decode cX0_reduce 49 = .ok (.if_icmp .ge 55, 3) := by decide +kernel
theorem dX0_reduce_52 : decode cX0_reduce 52 = .ok (.aload_n 0, 1) := by decide +kernel
theorem dX0_reduce_53 : decode cX0_reduce 53 = .ok (.getfield 22, 3) := by decide +kernel
theorem dX0_reduce_56 : decode cX0_reduce 56 = .ok (.lconst 1, 1) := by decide +kernel
theorem dX0_reduce_57 : decode cX0_reduce 57 = .ok (.land, 1) := by decide +kernel
theorem dX0_reduce_58 : decode cX0_reduce 58 = .ok (.lconst 0, 1) := by decide +kernel
theorem dX0_reduce_59 : decode cX0_reduce 59 = .ok (.lcmp, 1) := by decide +kernel
theorem dX0_reduce_60 : decode cX0_reduce 60 = .ok (.ifCond .ne 44, 3) := by decide +kernel
theorem dX0_reduce_63 : decode cX0_reduce 63 = .ok (.aload_n 0, 1) := by decide +kernel
theorem dX0_reduce_64 : decode cX0_reduce 64 = .ok (.getfield 25, 3) := by decide +kernel
theorem dX0_reduce_67 : decode cX0_reduce 67 = .ok (.lconst 1, 1) := by decide +kernel
theorem dX0_reduce_68 : decode cX0_reduce 68 = .ok (.land, 1) := by decide +kernel
theorem dX0_reduce_69 : decode cX0_reduce 69 = .ok (.lconst 0, 1) := by decide +kernel
theorem dX0_reduce_70 : decode cX0_reduce 70 = .ok (.lcmp, 1) := by decide +kernel
theorem dX0_reduce_71 : decode cX0_reduce 71 = .ok (.ifCond .ne 33, 3) := by decide +kernel
theorem dX0_reduce_74 : decode cX0_reduce 74 = .ok (.aload_n 0, 1) := by decide +kernel
theorem dX0_reduce_75 : decode cX0_reduce 75 = .ok (.dup, 1) := by decide +kernel
theorem dX0_reduce_76 : decode cX0_reduce 76 = .ok (.getfield 22, 3) := by decide +kernel
theorem dX0_reduce_79 : decode cX0_reduce 79 = .ok (.ldc2_w 51, 3) := by decide +kernel
theorem dX0_reduce_82 : decode cX0_reduce 82 = .ok (.ldiv, 1) := by decide +kernel
theorem dX0_reduce_83 : decode cX0_reduce 83 = .ok (.putfield 22, 3) := by decide +kernel
theorem dX0_reduce_86 : decode cX0_reduce 86 = .ok (.aload_n 0, 1) := by decide +kernel
theorem dX0_reduce_87 : decode cX0_reduce 87 = .ok (.dup, 1) := by decide +kernel
theorem dX0_reduce_88 : decode cX0_reduce 88 = .ok (.getfield 25, 3) := by decide +kernel
theorem dX0_reduce_91 : decode cX0_reduce 91 = .ok (.ldc2_w 51, 3) := by decide +kernel
theorem dX0_reduce_94 : decode cX0_reduce 94 = .ok (.ldiv, 1) := by decide +kernel
theorem dX0_reduce_95 : decode cX0_reduce 95 = .ok (.putfield 25, 3) := by decide +kernel
theorem dX0_reduce_98 : decode cX0_reduce 98 = .ok (.iinc 2 1, 3) := by decide +kernel
theorem dX0_reduce_101 : decode cX0_reduce 101 = .ok (.goto (-55), 3) := by decide +kernel
theorem dX0_reduce_104 : decode cX0_reduce 104 = .ok (.return_, 1) := by decide +kernel
theorem dX1_init_0 : decode cX1_init 0 = .ok (.aload_n 0, 1) := by decide +kernel
theorem dX1_init_1 : decode cX1_init 1 = .ok (.invokespecial 3, 3) := by decide +kernel
theorem dX1_init_4 : decode cX1_init 4 = .ok (.aload_n 0, 1) := by decide +kernel
theorem dX1_init_5 : decode cX1_init 5 = .ok (.bipush 9, 2) := by decide +kernel
theorem dX1_init_7 : decode cX1_init 7 = .ok (.newarray .int, 2) := by decide +kernel
theorem dX1_init_9 : decode cX1_init 9 = .ok (.putfield 9, 3) := by decide +kernel
theorem dX1_init_12 : decode cX1_init 12 = .ok (.aload_n 0, 1) := by decide +kernel
theorem dX1_init_13 : decode cX1_init 13 = .ok (.bipush 9, 2) := by decide +kernel
theorem dX1_init_15 : decode cX1_init 15 = .ok (.newarray .int, 2) := by decide +kernel
theorem dX1_init_17 : decode cX1_init 17 = .ok (.putfield 15, 3) := by decide +kernel
theorem dX1_init_20 : decode cX1_init 20 = .ok (.aload_n 0, 1) := by decide +kernel
theorem dX1_init_21 : decode cX1_init 21 = .ok (.bipush 9, 2) := by decide +kernel
theorem dX1_init_23 : decode cX1_init 23 = .ok (.newarray .int, 2) := by decide +kernel
theorem dX1_init_25 : decode cX1_init 25 = .ok (.putfield 18, 3) := by decide +kernel
theorem dX1_init_28 : decode cX1_init 28 = .ok (.aload_n 0, 1) := by decide +kernel
theorem dX1_init_29 : decode cX1_init 29 = .ok (.bipush 9, 2) := by decide +kernel
theorem dX1_init_31 : decode cX1_init 31 = .ok (.newarray .int, 2) := by decide +kernel
theorem dX1_init_33 : decode cX1_init 33 = .ok (.putfield 21, 3) := by decide +kernel
theorem dX1_init_36 : decode cX1_init 36 = .ok (.aload_n 0, 1) := by decide +kernel
theorem dX1_init_37 : decode cX1_init 37 = .ok (.bipush 72, 2) := by decide +kernel
theorem dX1_init_39 : decode cX1_init 39 = .ok (.newarray .int, 2) := by decide +kernel
theorem dX1_init_41 : decode cX1_init 41 = .ok (.putfield 24, 3) := by decide +kernel
theorem dX1_init_44 : decode cX1_init 44 = .ok (.aload_n 0, 1) := by decide +kernel
theorem dX1_init_45 : decode cX1_init 45 = .ok (.iconst 0, 1) := by decide +kernel
theorem dX1_init_46 : decode cX1_init 46 = .ok (.putfield 27, 3) := by decide +kernel
theorem dX1_init_49 : decode cX1_init 49 = .ok (.aload_n 0, 1) := by decide +kernel
theorem dX1_init_50 : decode cX1_init 50 = .ok (.iconst (-1), 1) := by decide +kernel
theorem dX1_init_51 : decode cX1_init 51 = .ok (.putfield 31, 3) := by decide +kernel
theorem dX1_init_54 : decode cX1_init 54 = .ok (.return_, 1) := by decide +kernel
theorem dX1_parse_0 : decode cX1_parse 0 = .ok (.aload_n 0, 1) := by decide +kernel
theorem dX1_parse_1 : decode cX1_parse 1 = .ok (.aload_n 1, 1) := by decide +kernel
theorem dX1_parse_2 : decode cX1_parse 2 = .ok (.invokestatic 34, 3) := by decide +kernel
theorem dX1_parse_5 : decode cX1_parse 5 = .ok (.putfield 31, 3) := by decide +kernel
theorem dX1_parse_8 : decode cX1_parse 8 = .ok (.aload_n 0, 1) := by decide +kernel
theorem dX1_parse_9 : decode cX1_parse 9 = .ok (.aload_n 0, 1) := by decide +kernel
theorem dX1_parse_10 : decode cX1_parse 10 = .ok (.getfield 31, 3) := by decide +kernel
theorem dX1_parse_13 : decode cX1_parse 13 = .ok (.iconst (-1), 1) := by decide +kernel
theorem dX1_parse_14 : decode cX1_parse 14 = .ok (.if_icmp .ne 19, 3) := by decide +kernel
theorem dX1_parse_17 : decode cX1_parse 17 = .ok (.aload_n 1, 1) := by decide +kernel
theorem dX1_parse_18 : decode cX1_parse 18 = .ok (.invokevirtual 38, 3) := by decide +kernel
theorem dX1_parse_21 : decode cX1_parse 21 = .ok (.iconst 1, 1) := by decide +kernel
theorem dX1_parse_22 : decode cX1_parse 22 = .ok (.iadd, 1) := by decide +kernel
theorem dX1_parse_23 : decode cX1_parse 23 = .ok (.iconst 5, 1) := by decide +kernel
theorem dX1_parse_24 : decode cX1_parse 24 = .ok (.idiv, 1) := by decide +kernel
theorem dX1_parse_25 : decode cX1_parse 25 = .ok (.bipush 9, 2) := by decide +kernel
theorem dX1_parse_27 : decode cX1_parse 27 = .ok (.invokestatic 43, 3) := by decide +kernel
theorem dX1_parse_30 : decode cX1_parse 30 = .ok (.goto 4, 3) := by decide +kernel
theorem dX1_parse_33 : decode cX1_parse 33 = .ok (.iconst 0, 1) := by decide +kernel
theorem dX1_parse_34 : decode cX1_parse 34 = .ok (.putfield 27, 3) := by decide +kernel
theorem dX1_parse_37 : decode cX1_parse 37 = .ok (.iconst 0, 1) := by decide +kernel
theorem dX1_parse_38 : decode cX1_parse 38 = .ok (.istore_n 2, 1) := by decide +kernel
theorem dX1_parse_39 : decode cX1_parse 39 = .ok (.iload_n 2, 1) := by decide +kernel
theorem dX1_parse_40 : decode cX1_parse 40 = .ok (.aload_n 0, 1) := by decide +kernel
theorem dX1_parse_41 : decode cX1_parse 41 = .ok (.getfield 27, 3) := by decide +kernel
theorem dX1_parse_44 : decode cX1_parse 44 = .ok (.if_icmp .ge 75, 3) := by decide +kernel
theorem dX1_parse_47 : decode cX1_parse 47 = .ok (.iload_n 2, 1) := by decide +kernel
theorem dX1_parse_48 : decode cX1_parse 48 = .ok (.iconst 5, 1) := by decide +kernel
theorem dX1_parse_49 : decode cX1_parse 49 = .ok (.imul, 1) := by decide +kernel
theorem dX1_parse_50 : decode cX1_parse 50 = .ok (.istore_n 3, 1) := by decide +kernel
theorem dX1_parse_51 : decode cX1_parse 51 = .ok (.aload_n 0, 1) := by decide +kernel
theorem dX1_parse_52 : decode cX1_parse 52 = .ok (.getfield 9, 3) := by decide +kernel
theorem dX1_parse_55 : decode cX1_parse 55 = .ok (.iload_n 2, 1) := by decide +kernel
theorem dX1_parse_56 : decode cX1_parse 56 = .ok (.aload_n 1, 1) := by decide +kernel
theorem dX1_parse_57 : decode cX1_parse 57 = .ok (.iload_n 3, 1) := by decide +kernel
theorem dX1_parse_58 : decode cX1_parse 58 = .ok (.invokevirtual 49, 3) := by decide +kernel
theorem dX1_parse_61 : decode cX1_parse 61 = .ok (.bipush 97, 2) := by decide +kernel
theorem dX1_parse_63 : decode cX1_parse 63 = .ok (.isub, 1) := by decide +kernel
theorem dX1_parse_64 : decode cX1_parse 64 = .ok (.iastore, 1) := by decide +kernel
theorem dX1_parse_65 : decode cX1_parse 65 = .ok (.aload_n 0, 1) := by decide +kernel
theorem dX1_parse_66 : decode cX1_parse 66 = .ok (.getfield 15, 3) := by decide +kernel
theorem dX1_parse_69 : decode cX1_parse 69 = .ok (.iload_n 2, 1) := by decide +kernel
theorem dX1_parse_70 : decode cX1_parse 70 = .ok (.aload_n 1, 1) := by decide +kernel
theorem dX1_parse_71 : decode cX1_parse 71 = .ok (.iload_n 3, 1) := by decide +kernel
theorem dX1_parse_72 : decode cX1_parse 72 = .ok (.iconst 1, 1) := by decide +kernel
theorem dX1_parse_73 : decode cX1_parse 73 = .ok (.iadd, 1) := by decide +kernel
theorem dX1_parse_74 : decode cX1_parse 74 = .ok (.invokevirtual 49, 3) := by decide +kernel
theorem dX1_parse_77 : decode cX1_parse 77 = .ok (.bipush 48, 2) := by decide +kernel
theorem dX1_parse_79 : decode cX1_parse 79 = .ok (.isub, 1) := by decide +kernel
theorem dX1_parse_80 : decode cX1_parse 80 = .ok (.iastore, 1) := by decide +kernel
theorem dX1_parse_81 : decode cX1_parse 81 = .ok (.aload_n 0, 1) := by decide +kernel
theorem dX1_parse_82 : decode cX1_parse 82 = .ok (.getfield 18, 3) := by decide +kernel
theorem dX1_parse_85 : decode cX1_parse 85 = .ok (.iload_n 2, 1) := by decide +kernel
theorem dX1_parse_86 : decode cX1_parse 86 = .ok (.aload_n 1, 1) := by decide +kernel
theorem dX1_parse_87 : decode cX1_parse 87 = .ok (.iload_n 3, 1) := by decide +kernel
theorem dX1_parse_88 : decode cX1_parse 88 = .ok (.iconst 2, 1) := by decide +kernel
theorem dX1_parse_89 : decode cX1_parse 89 = .ok (.iadd, 1) := by decide +kernel
theorem dX1_parse_90 : decode cX1_parse 90 = .ok (.invokevirtual 49, 3) := by decide +kernel
theorem dX1_parse_93 : decode cX1_parse 93 = .ok (.invokestatic 53, 3) := by decide +kernel
theorem dX1_parse_96 : decode cX1_parse 96 = .ok (.iastore, 1) := by decide +kernel
theorem dX1_parse_97 : decode cX1_parse 97 = .ok (.aload_n 0, 1) := by decide +kernel
theorem dX1_parse_98 : decode cX1_parse 98 = .ok (.getfield 21, 3) := by decide +kernel
theorem dX1_parse_101 : decode cX1_parse 101 = .ok (.iload_n 2, 1) := by decide +kernel
theorem dX1_parse_102 : decode cX1_parse 102 = .ok (.aload_n 1, 1) := by decide +kernel
theorem dX1_parse_103 : decode cX1_parse 103 = .ok (.iload_n 3, 1) := by decide +kernel
theorem dX1_parse_104 : decode cX1_parse 104 = .ok (.iconst 3, 1) := by decide +kernel
theorem dX1_parse_105 : decode cX1_parse 105 = .ok (.iadd, 1) := by decide +kernel
theorem dX1_parse_106 : decode cX1_parse 106 = .ok (.invokevirtual 49, 3) := by decide +kernel
theorem dX1_parse_109 : decode cX1_parse 109 = .ok (.bipush 97, 2) := by decide +kernel
theorem dX1_parse_111 : decode cX1_parse 111 = .ok (.isub, 1) := by decide +kernel
theorem dX1_parse_112 : decode cX1_parse 112 = .ok (.iastore, 1) := by decide +kernel
theorem dX1_parse_113 : decode cX1_parse 113 = .ok (.iinc 2 1, 3) := by decide +kernel
theorem dX1_parse_116 : decode cX1_parse 116 = .ok (.goto (-77), 3) := by decide +kernel
theorem dX1_parse_119 : decode cX1_parse 119 = .ok (.return_, 1) := by decide +kernel
theorem dX1_faultOf_0 : decode cX1_faultOf 0 = .ok (.aload_n 0, 1) := by decide +kernel
theorem dX1_faultOf_1 : decode cX1_faultOf 1 = .ok (.invokevirtual 38, 3) := by decide +kernel
theorem dX1_faultOf_4 : decode cX1_faultOf 4 = .ok (.istore_n 1, 1) := by decide +kernel
theorem dX1_faultOf_5 : decode cX1_faultOf 5 = .ok (.iconst 0, 1) := by decide +kernel
theorem dX1_faultOf_6 : decode cX1_faultOf 6 = .ok (.istore_n 2, 1) := by decide +kernel
theorem dX1_faultOf_7 : decode cX1_faultOf 7 = .ok (.iload_n 2, 1) := by decide +kernel
theorem dX1_faultOf_8 : decode cX1_faultOf 8 = .ok (.iload_n 1, 1) := by decide +kernel
theorem dX1_faultOf_9 : decode cX1_faultOf 9 = .ok (.if_icmp .ge 31, 3) := by decide +kernel
theorem dX1_faultOf_12 : decode cX1_faultOf 12 = .ok (.iload_n 2, 1) := by decide +kernel
theorem dX1_faultOf_13 : decode cX1_faultOf 13 = .ok (.bipush 45, 2) := by decide +kernel
theorem dX1_faultOf_15 : decode cX1_faultOf 15 = .ok (.if_icmp .ge 17, 3) := by decide +kernel
theorem dX1_faultOf_18 : decode cX1_faultOf 18 = .ok (.iload_n 2, 1) := by decide +kernel
theorem dX1_faultOf_19 : decode cX1_faultOf 19 = .ok (.iconst 5, 1) := by decide +kernel
theorem dX1_faultOf_20 : decode cX1_faultOf 20 = .ok (.irem, 1) := by decide +kernel
theorem dX1_faultOf_21 : decode cX1_faultOf 21 = .ok (.aload_n 0, 1) := by decide +kernel
theorem dX1_faultOf_22 : decode cX1_faultOf 22 = .ok (.iload_n 2, 1) := by decide +kernel
theorem dX1_faultOf_23 : decode cX1_faultOf 23 = .ok (.invokevirtual 49, 3) := by decide +kernel
theorem dX1_faultOf_26 : decode cX1_faultOf 26 = .ok (.invokestatic 56, 3) := by decide +kernel
theorem dX1_faultOf_29 : decode cX1_faultOf 29 = .ok (.ifCond .ne 5, 3) := by decide +kernel
theorem dX1_faultOf_32 : decode cX1_faultOf 32 = .ok (.iload_n 2, 1) := by decide +kernel
theorem dX1_faultOf_33 : decode cX1_faultOf 33 = .ok (.ireturn, 1) := by decide +kernel
theorem dX1_faultOf_34 : decode cX1_faultOf 34 = .ok (.iinc 2 1, 3) := by decide +kernel
theorem dX1_faultOf_37 : decode cX1_faultOf 37 = .ok (.goto (-30), 3) := by decide +kernel
theorem dX1_faultOf_40 : decode cX1_faultOf 40 = .ok (.iload_n 1, 1) := by decide +kernel
theorem dX1_faultOf_41 : decode cX1_faultOf 41 = .ok (.ifCond .eq 10, 3) := by decide +kernel
theorem dX1_faultOf_44 : decode cX1_faultOf 44 = .ok (.iload_n 1, 1) := by decide +kernel
theorem dX1_faultOf_45 : decode cX1_faultOf 45 = .ok (.iconst 5, 1) := by decide +kernel
theorem dX1_faultOf_46 : decode cX1_faultOf 46 = .ok (.irem, 1) := by decide +kernel
theorem dX1_faultOf_47 : decode cX1_faultOf 47 = .ok (.iconst 4, 1) := by decide +kernel
theorem dX1_faultOf_48 : decode cX1_faultOf 48 = .ok (.if_icmp .ne 7, 3) := by decide +kernel
theorem dX1_faultOf_51 : decode cX1_faultOf 51 = .ok (.iconst (-1), 1) := by decide +kernel
theorem dX1_faultOf_52 : decode cX1_faultOf 52 = .ok (.goto 4, 3) := by decide +kernel
theorem dX1_faultOf_55 : decode cX1_faultOf 55 = .ok (.iload_n 1, 1) := by decide +kernel
theorem dX1_faultOf_56 : decode cX1_faultOf 56 = .ok (.ireturn, 1) := by decide +kernel
theorem dX1_goesOn_0 : decode cX1_goesOn 0 = .ok (.iload_n 0, 1) := by decide +kernel
theorem dX1_goesOn_1 : decode cX1_goesOn 1 = .ok (.tableswitch 99 0 3 #[31, 49, 67, 81], 31) := by decide +kernel
theorem dX1_goesOn_32 : decode cX1_goesOn 32 = .ok (.iload_n 1, 1) := by decide +kernel
theorem dX1_goesOn_33 : decode cX1_goesOn 33 = .ok (.bipush 97, 2) := by decide +kernel
theorem dX1_goesOn_35 : decode cX1_goesOn 35 = .ok (.if_icmp .lt 13, 3) := by decide +kernel
theorem dX1_goesOn_38 : decode cX1_goesOn 38 = .ok (.iload_n 1, 1) := by decide +kernel
theorem dX1_goesOn_39 : decode cX1_goesOn 39 = .ok (.bipush 106, 2) := by decide +kernel
theorem dX1_goesOn_41 : decode cX1_goesOn 41 = .ok (.if_icmp .gt 7, 3) := by decide +kernel
theorem dX1_goesOn_44 : decode cX1_goesOn 44 = .ok (.iconst 1, 1) := by decide +kernel
theorem dX1_goesOn_45 : decode cX1_goesOn 45 = .ok (.goto 4, 3) := by decide +kernel
theorem dX1_goesOn_48 : decode cX1_goesOn 48 = .ok (.iconst 0, 1) := by decide +kernel
theorem dX1_goesOn_49 : decode cX1_goesOn 49 = .ok (.ireturn, 1) := by decide +kernel
theorem dX1_goesOn_50 : decode cX1_goesOn 50 = .ok (.iload_n 1, 1) := by decide +kernel
theorem dX1_goesOn_51 : decode cX1_goesOn 51 = .ok (.bipush 48, 2) := by decide +kernel
theorem dX1_goesOn_53 : decode cX1_goesOn 53 = .ok (.if_icmp .lt 13, 3) := by decide +kernel
theorem dX1_goesOn_56 : decode cX1_goesOn 56 = .ok (.iload_n 1, 1) := by decide +kernel
theorem dX1_goesOn_57 : decode cX1_goesOn 57 = .ok (.bipush 57, 2) := by decide +kernel
theorem dX1_goesOn_59 : decode cX1_goesOn 59 = .ok (.if_icmp .gt 7, 3) := by decide +kernel
theorem dX1_goesOn_62 : decode cX1_goesOn 62 = .ok (.iconst 1, 1) := by decide +kernel
theorem dX1_goesOn_63 : decode cX1_goesOn 63 = .ok (.goto 4, 3) := by decide +kernel
theorem dX1_goesOn_66 : decode cX1_goesOn 66 = .ok (.iconst 0, 1) := by decide +kernel
theorem dX1_goesOn_67 : decode cX1_goesOn 67 = .ok (.ireturn, 1) := by decide +kernel
theorem dX1_goesOn_68 : decode cX1_goesOn 68 = .ok (.iload_n 1, 1) := by decide +kernel
theorem dX1_goesOn_69 : decode cX1_goesOn 69 = .ok (.invokestatic 53, 3) := by decide +kernel
theorem dX1_goesOn_72 : decode cX1_goesOn 72 = .ok (.iconst (-1), 1) := by decide +kernel
theorem dX1_goesOn_73 : decode cX1_goesOn 73 = .ok (.if_icmp .eq 7, 3) := by decide +kernel
theorem dX1_goesOn_76 : decode cX1_goesOn 76 = .ok (.iconst 1, 1) := by decide +kernel
theorem dX1_goesOn_77 : decode cX1_goesOn 77 = .ok (.goto 4, 3) := by decide +kernel
theorem dX1_goesOn_80 : decode cX1_goesOn 80 = .ok (.iconst 0, 1) := by decide +kernel
theorem dX1_goesOn_81 : decode cX1_goesOn 81 = .ok (.ireturn, 1) := by decide +kernel
theorem dX1_goesOn_82 : decode cX1_goesOn 82 = .ok (.iload_n 1, 1) := by decide +kernel
theorem dX1_goesOn_83 : decode cX1_goesOn 83 = .ok (.bipush 97, 2) := by decide +kernel
theorem dX1_goesOn_85 : decode cX1_goesOn 85 = .ok (.if_icmp .lt 13, 3) := by decide +kernel
theorem dX1_goesOn_88 : decode cX1_goesOn 88 = .ok (.iload_n 1, 1) := by decide +kernel
theorem dX1_goesOn_89 : decode cX1_goesOn 89 = .ok (.bipush 104, 2) := by decide +kernel
theorem dX1_goesOn_91 : decode cX1_goesOn 91 = .ok (.if_icmp .gt 7, 3) := by decide +kernel
theorem dX1_goesOn_94 : decode cX1_goesOn 94 = .ok (.iconst 1, 1) := by decide +kernel
theorem dX1_goesOn_95 : decode cX1_goesOn 95 = .ok (.goto 4, 3) := by decide +kernel
theorem dX1_goesOn_98 : decode cX1_goesOn 98 = .ok (.iconst 0, 1) := by decide +kernel
theorem dX1_goesOn_99 : decode cX1_goesOn 99 = .ok (.ireturn, 1) := by decide +kernel
theorem dX1_goesOn_100 : decode cX1_goesOn 100 = .ok (.iload_n 1, 1) := by decide +kernel
theorem dX1_goesOn_101 : decode cX1_goesOn 101 = .ok (.bipush 59, 2) := by decide +kernel
theorem dX1_goesOn_103 : decode cX1_goesOn 103 = .ok (.if_icmp .ne 7, 3) := by decide +kernel
theorem dX1_goesOn_106 : decode cX1_goesOn 106 = .ok (.iconst 1, 1) := by decide +kernel
theorem dX1_goesOn_107 : decode cX1_goesOn 107 = .ok (.goto 4, 3) := by decide +kernel
theorem dX1_goesOn_110 : decode cX1_goesOn 110 = .ok (.iconst 0, 1) := by decide +kernel
theorem dX1_goesOn_111 : decode cX1_goesOn 111 = .ok (.ireturn, 1) := by decide +kernel
theorem dX1_habitBy_0 : decode cX1_habitBy 0 = .ok (.iload_n 0, 1) := by decide +kernel
theorem dX1_habitBy_1 : decode cX1_habitBy 1 = .ok (.lookupswitch 51 #[(108, 49), (110, 43), (114, 45), (121, 47)], 43) := by decide +kernel
theorem dX1_habitBy_44 : decode cX1_habitBy 44 = .ok (.iconst 0, 1) := by decide +kernel
theorem dX1_habitBy_45 : decode cX1_habitBy 45 = .ok (.ireturn, 1) := by decide +kernel
theorem dX1_habitBy_46 : decode cX1_habitBy 46 = .ok (.iconst 1, 1) := by decide +kernel
theorem dX1_habitBy_47 : decode cX1_habitBy 47 = .ok (.ireturn, 1) := by decide +kernel
theorem dX1_habitBy_48 : decode cX1_habitBy 48 = .ok (.iconst 2, 1) := by decide +kernel
theorem dX1_habitBy_49 : decode cX1_habitBy 49 = .ok (.ireturn, 1) := by decide +kernel
theorem dX1_habitBy_50 : decode cX1_habitBy 50 = .ok (.iconst 3, 1) := by decide +kernel
theorem dX1_habitBy_51 : decode cX1_habitBy 51 = .ok (.ireturn, 1) := by decide +kernel
theorem dX1_habitBy_52 : decode cX1_habitBy 52 = .ok (.iconst (-1), 1) := by decide +kernel
theorem dX1_habitBy_53 : decode cX1_habitBy 53 = .ok (.ireturn, 1) := by decide +kernel
theorem dX1_placeOf_0 : decode cX1_placeOf 0 = .ok (.iload_n 1, 1) := by decide +kernel
theorem dX1_placeOf_1 : decode cX1_placeOf 1 = .ok (.ifCond .lt 18, 3) := by decide +kernel
theorem dX1_placeOf_4 : decode cX1_placeOf 4 = .ok (.iload_n 1, 1) := by decide +kernel
theorem dX1_placeOf_5 : decode cX1_placeOf 5 = .ok (.bipush 9, 2) := by decide +kernel
theorem dX1_placeOf_7 : decode cX1_placeOf 7 = .ok (.if_icmp .ge 12, 3) := by decide +kernel
theorem dX1_placeOf_10 : decode cX1_placeOf 10 = .ok (.aload_n 0, 1) := by decide +kernel
theorem dX1_placeOf_11 : decode cX1_placeOf 11 = .ok (.getfield 9, 3) := by decide +kernel
theorem dX1_placeOf_14 : decode cX1_placeOf 14 = .ok (.iload_n 1, 1) := by decide +kernel
theorem dX1_placeOf_15 : decode cX1_placeOf 15 = .ok (.iaload, 1) := by decide +kernel
theorem dX1_placeOf_16 : decode cX1_placeOf 16 = .ok (.goto 4, 3) := by decide +kernel
theorem dX1_placeOf_19 : decode cX1_placeOf 19 = .ok (.iconst (-1), 1) := by decide +kernel
theorem dX1_placeOf_20 : decode cX1_placeOf 20 = .ok (.ireturn, 1) := by decide +kernel
theorem dX1_hearsOf_0 : decode cX1_hearsOf 0 = .ok (.iload_n 1, 1) := by decide +kernel
theorem dX1_hearsOf_1 : decode cX1_hearsOf 1 = .ok (.ifCond .lt 18, 3) := by decide +kernel
theorem dX1_hearsOf_4 : decode cX1_hearsOf 4 = .ok (.iload_n 1, 1) := by decide +kernel
theorem dX1_hearsOf_5 : decode cX1_hearsOf 5 = .ok (.bipush 9, 2) := by decide +kernel
theorem dX1_hearsOf_7 : decode cX1_hearsOf 7 = .ok (.if_icmp .ge 12, 3) := by decide +kernel
theorem dX1_hearsOf_10 : decode cX1_hearsOf 10 = .ok (.aload_n 0, 1) := by decide +kernel
theorem dX1_hearsOf_11 : decode cX1_hearsOf 11 = .ok (.getfield 15, 3) := by decide +kernel
theorem dX1_hearsOf_14 : decode cX1_hearsOf 14 = .ok (.iload_n 1, 1) := by decide +kernel
theorem dX1_hearsOf_15 : decode cX1_hearsOf 15 = .ok (.iaload, 1) := by decide +kernel
theorem dX1_hearsOf_16 : decode cX1_hearsOf 16 = .ok (.goto 4, 3) := by decide +kernel
theorem dX1_hearsOf_19 : decode cX1_hearsOf 19 = .ok (.iconst (-1), 1) := by decide +kernel
theorem dX1_hearsOf_20 : decode cX1_hearsOf 20 = .ok (.ireturn, 1) := by decide +kernel
theorem dX1_habitOf_0 : decode cX1_habitOf 0 = .ok (.iload_n 1, 1) := by decide +kernel
theorem dX1_habitOf_1 : decode cX1_habitOf 1 = .ok (.ifCond .lt 18, 3) := by decide +kernel
theorem dX1_habitOf_4 : decode cX1_habitOf 4 = .ok (.iload_n 1, 1) := by decide +kernel
theorem dX1_habitOf_5 : decode cX1_habitOf 5 = .ok (.bipush 9, 2) := by decide +kernel
theorem dX1_habitOf_7 : decode cX1_habitOf 7 = .ok (.if_icmp .ge 12, 3) := by decide +kernel
theorem dX1_habitOf_10 : decode cX1_habitOf 10 = .ok (.aload_n 0, 1) := by decide +kernel
theorem dX1_habitOf_11 : decode cX1_habitOf 11 = .ok (.getfield 18, 3) := by decide +kernel
theorem dX1_habitOf_14 : decode cX1_habitOf 14 = .ok (.iload_n 1, 1) := by decide +kernel
theorem dX1_habitOf_15 : decode cX1_habitOf 15 = .ok (.iaload, 1) := by decide +kernel
theorem dX1_habitOf_16 : decode cX1_habitOf 16 = .ok (.goto 4, 3) := by decide +kernel
theorem dX1_habitOf_19 : decode cX1_habitOf 19 = .ok (.iconst (-1), 1) := by decide +kernel
theorem dX1_habitOf_20 : decode cX1_habitOf 20 = .ok (.ireturn, 1) := by decide +kernel
theorem dX1_lineOf_0 : decode cX1_lineOf 0 = .ok (.iload_n 1, 1) := by decide +kernel
theorem dX1_lineOf_1 : decode cX1_lineOf 1 = .ok (.ifCond .lt 18, 3) := by decide +kernel
theorem dX1_lineOf_4 : decode cX1_lineOf 4 = .ok (.iload_n 1, 1) := by decide +kernel
theorem dX1_lineOf_5 : decode cX1_lineOf 5 = .ok (.bipush 9, 2) := by decide +kernel
theorem dX1_lineOf_7 : decode cX1_lineOf 7 = .ok (.if_icmp .ge 12, 3) := by decide +kernel
theorem dX1_lineOf_10 : decode cX1_lineOf 10 = .ok (.aload_n 0, 1) := by decide +kernel
theorem dX1_lineOf_11 : decode cX1_lineOf 11 = .ok (.getfield 21, 3) := by decide +kernel
theorem dX1_lineOf_14 : decode cX1_lineOf 14 = .ok (.iload_n 1, 1) := by decide +kernel
theorem dX1_lineOf_15 : decode cX1_lineOf 15 = .ok (.iaload, 1) := by decide +kernel
theorem dX1_lineOf_16 : decode cX1_lineOf 16 = .ok (.goto 4, 3) := by decide +kernel
theorem dX1_lineOf_19 : decode cX1_lineOf 19 = .ok (.iconst (-1), 1) := by decide +kernel
theorem dX1_lineOf_20 : decode cX1_lineOf 20 = .ok (.ireturn, 1) := by decide +kernel
theorem dX1_think_0 : decode cX1_think 0 = .ok (.iconst 0, 1) := by decide +kernel
theorem dX1_think_1 : decode cX1_think 1 = .ok (.istore_n 2, 1) := by decide +kernel
theorem dX1_think_2 : decode cX1_think 2 = .ok (.iload_n 2, 1) := by decide +kernel
theorem dX1_think_3 : decode cX1_think 3 = .ok (.bipush 9, 2) := by decide +kernel
theorem dX1_think_5 : decode cX1_think 5 = .ok (.if_icmp .ge 58, 3) := by decide +kernel
theorem dX1_think_8 : decode cX1_think 8 = .ok (.iconst 0, 1) := by decide +kernel
theorem dX1_think_9 : decode cX1_think 9 = .ok (.istore_n 3, 1) := by decide +kernel
theorem dX1_think_10 : decode cX1_think 10 = .ok (.iload_n 3, 1) := by decide +kernel
theorem dX1_think_11 : decode cX1_think 11 = .ok (.bipush 8, 2) := by decide +kernel
theorem dX1_think_13 : decode cX1_think 13 = .ok (.if_icmp .ge 44, 3) := by decide +kernel
theorem dX1_think_16 : decode cX1_think 16 = .ok (.aload_n 1, 1) := by decide +kernel
theorem dX1_think_17 : decode cX1_think 17 = .ok (.iload_n 3, 1) := by decide +kernel
theorem dX1_think_18 : decode cX1_think 18 = .ok (.invokevirtual 60, 3) := by decide +kernel
theorem dX1_think_21 : decode cX1_think 21 = .ok (.istore 4, 2) := by decide +kernel
theorem dX1_think_23 : decode cX1_think 23 = .ok (.aload_n 1, 1) := by decide +kernel
theorem dX1_think_24 : decode cX1_think 24 = .ok (.iload_n 3, 1) := by decide +kernel
theorem dX1_think_25 : decode cX1_think 25 = .ok (.invokevirtual 65, 3) := by decide +kernel
theorem dX1_think_28 : decode cX1_think 28 = .ok (.istore 5, 2) := by decide +kernel
theorem dX1_think_30 : decode cX1_think 30 = .ok (.aload_n 0, 1) := by decide +kernel
theorem dX1_think_31 : decode cX1_think 31 = .ok (.getfield 24, 3) := by decide +kernel
theorem dX1_think_34 : decode cX1_think 34 = .ok (.iload_n 2, 1) := by decide +kernel
theorem dX1_think_35 : decode cX1_think 35 = .ok (.bipush 8, 2) := by decide +kernel
theorem dX1_think_37 : decode cX1_think 37 = .ok (.imul, 1) := by decide +kernel
theorem dX1_think_38 : decode cX1_think 38 = .ok (.iload_n 3, 1) := by decide +kernel
theorem dX1_think_39 : decode cX1_think 39 = .ok (.iadd, 1) := by decide +kernel
theorem dX1_think_40 : decode cX1_think 40 = .ok (.aload_n 0, 1) := by decide +kernel
theorem dX1_think_41 : decode cX1_think 41 = .ok (.iload_n 2, 1) := by decide +kernel
theorem dX1_think_42 : decode cX1_think 42 = .ok (.iload_n 3, 1) := by decide +kernel
theorem dX1_think_43 : decode cX1_think 43 = .ok (.iload 4, 2) := by decide +kernel
theorem dX1_think_45 : decode cX1_think 45 = .ok (.iload 5, 2) := by decide +kernel
theorem dX1_think_47 : decode cX1_think 47 = .ok (.invokevirtual 68, 3) := by decide +kernel
theorem dX1_think_50 : decode cX1_think 50 = .ok (.iastore, 1) := by decide +kernel
theorem dX1_think_51 : decode cX1_think 51 = .ok (.iinc 3 1, 3) := by decide +kernel
theorem dX1_think_54 : decode cX1_think 54 = .ok (.goto (-44), 3) := by decide +kernel
theorem dX1_think_57 : decode cX1_think 57 = .ok (.iinc 2 1, 3) := by decide +kernel
theorem dX1_think_60 : decode cX1_think 60 = .ok (.goto (-58), 3) := by decide +kernel
theorem dX1_think_63 : decode cX1_think 63 = .ok (.return_, 1) := by decide +kernel
theorem dX1_byHabit_0 : decode cX1_byHabit 0 = .ok (.aload_n 0, 1) := by decide +kernel
theorem dX1_byHabit_1 : decode cX1_byHabit 1 = .ok (.iload_n 1, 1) := by decide +kernel
theorem dX1_byHabit_2 : decode cX1_byHabit 2 = .ok (.invokevirtual 72, 3) := by decide +kernel
theorem dX1_byHabit_5 : decode cX1_byHabit 5 = .ok (.istore 5, 2) := by decide +kernel
theorem dX1_byHabit_7 : decode cX1_byHabit 7 = .ok (.aload_n 0, 1) := by decide +kernel
theorem dX1_byHabit_8 : decode cX1_byHabit 8 = .ok (.iload_n 1, 1) := by decide +kernel
theorem dX1_byHabit_9 : decode cX1_byHabit 9 = .ok (.invokevirtual 75, 3) := by decide +kernel
theorem dX1_byHabit_12 : decode cX1_byHabit 12 = .ok (.tableswitch 45 0 2 #[28, 30, 32], 28) := by decide +kernel
theorem dX1_byHabit_40 : decode cX1_byHabit 40 = .ok (.iload_n 3, 1) := by decide +kernel
theorem dX1_byHabit_41 : decode cX1_byHabit 41 = .ok (.ireturn, 1) := by decide +kernel
theorem dX1_byHabit_42 : decode cX1_byHabit 42 = .ok (.iload_n 2, 1) := by decide +kernel
theorem dX1_byHabit_43 : decode cX1_byHabit 43 = .ok (.ireturn, 1) := by decide +kernel
theorem dX1_byHabit_44 : decode cX1_byHabit 44 = .ok (.iload_n 2, 1) := by decide +kernel
theorem dX1_byHabit_45 : decode cX1_byHabit 45 = .ok (.iload 5, 2) := by decide +kernel
theorem dX1_byHabit_47 : decode cX1_byHabit 47 = .ok (.if_icmp .ne 7, 3) := by decide +kernel
theorem dX1_byHabit_50 : decode cX1_byHabit 50 = .ok (.iload_n 3, 1) := by decide +kernel
theorem dX1_byHabit_51 : decode cX1_byHabit 51 = .ok (.goto 5, 3) := by decide +kernel
theorem dX1_byHabit_54 : decode cX1_byHabit 54 = .ok (.iload 5, 2) := by decide +kernel
theorem dX1_byHabit_56 : decode cX1_byHabit 56 = .ok (.ireturn, 1) := by decide +kernel
theorem dX1_byHabit_57 : decode cX1_byHabit 57 = .ok (.iload_n 3, 1) := by decide +kernel
theorem dX1_byHabit_58 : decode cX1_byHabit 58 = .ok (.iload 5, 2) := by decide +kernel
theorem dX1_byHabit_60 : decode cX1_byHabit 60 = .ok (.if_icmp .eq 10, 3) := by decide +kernel
theorem dX1_byHabit_63 : decode cX1_byHabit 63 = .ok (.iload 4, 2) := by decide +kernel
theorem dX1_byHabit_65 : decode cX1_byHabit 65 = .ok (.iload 5, 2) := by decide +kernel
theorem dX1_byHabit_67 : decode cX1_byHabit 67 = .ok (.if_icmp .ne 8, 3) := by decide +kernel
theorem dX1_byHabit_70 : decode cX1_byHabit 70 = .ok (.iload 5, 2) := by decide +kernel
theorem dX1_byHabit_72 : decode cX1_byHabit 72 = .ok (.goto 4, 3) := by decide +kernel
theorem dX1_byHabit_75 : decode cX1_byHabit 75 = .ok (.iload_n 2, 1) := by decide +kernel
theorem dX1_byHabit_76 : decode cX1_byHabit 76 = .ok (.ireturn, 1) := by decide +kernel
theorem dX2_init_0 : decode cX2_init 0 = .ok (.aload_n 0, 1) := by decide +kernel
theorem dX2_init_1 : decode cX2_init 1 = .ok (.invokespecial 1, 3) := by decide +kernel
theorem dX2_init_4 : decode cX2_init 4 = .ok (.aload_n 0, 1) := by decide +kernel
theorem dX2_init_5 : decode cX2_init 5 = .ok (.iconst 0, 1) := by decide +kernel
theorem dX2_init_6 : decode cX2_init 6 = .ok (.putfield 7, 3) := by decide +kernel
theorem dX2_init_9 : decode cX2_init 9 = .ok (.return_, 1) := by decide +kernel
theorem dX2_begin_0 : decode cX2_begin 0 = .ok (.aload_n 0, 1) := by decide +kernel
theorem dX2_begin_1 : decode cX2_begin 1 = .ok (.iload_n 1, 1) := by decide +kernel
theorem dX2_begin_2 : decode cX2_begin 2 = .ok (.putfield 7, 3) := by decide +kernel
theorem dX2_begin_5 : decode cX2_begin 5 = .ok (.return_, 1) := by decide +kernel
theorem dX2_draw_0 : decode cX2_draw 0 = .ok (.aload_n 0, 1) := by decide +kernel
theorem dX2_draw_1 : decode cX2_draw 1 = .ok (.ldc 13, 2) := by decide +kernel
theorem dX2_draw_3 : decode cX2_draw 3 = .ok (.aload_n 0, 1) := by decide +kernel
theorem dX2_draw_4 : decode cX2_draw 4 = .ok (.getfield 7, 3) := by decide +kernel
theorem dX2_draw_7 : decode cX2_draw 7 = .ok (.imul, 1) := by decide +kernel
theorem dX2_draw_8 : decode cX2_draw 8 = .ok (.sipush 12345, 3) := by decide +kernel
theorem dX2_draw_11 : decode cX2_draw 11 = .ok (.iadd, 1) := by decide +kernel
theorem dX2_draw_12 : decode cX2_draw 12 = .ok (.putfield 7, 3) := by decide +kernel
theorem dX2_draw_15 : decode cX2_draw 15 = .ok (.iload_n 1, 1) := by decide +kernel
theorem dX2_draw_16 : decode cX2_draw 16 = .ok (.ifCond .le 15, 3) := by decide +kernel
theorem dX2_draw_19 : decode cX2_draw 19 = .ok (.aload_n 0, 1) := by decide +kernel
theorem dX2_draw_20 : decode cX2_draw 20 = .ok (.getfield 7, 3) := by decide +kernel
theorem dX2_draw_23 : decode cX2_draw 23 = .ok (.bipush 16, 2) := by decide +kernel
theorem dX2_draw_25 : decode cX2_draw 25 = .ok (.iushr, 1) := by decide +kernel
theorem dX2_draw_26 : decode cX2_draw 26 = .ok (.iload_n 1, 1) := by decide +kernel
theorem dX2_draw_27 : decode cX2_draw 27 = .ok (.irem, 1) := by decide +kernel
theorem dX2_draw_28 : decode cX2_draw 28 = .ok (.goto 4, 3) := by decide +kernel
theorem dX2_draw_31 : decode cX2_draw 31 = .ok (.iconst 0, 1) := by decide +kernel
theorem dX2_draw_32 : decode cX2_draw 32 = .ok (.ireturn, 1) := by decide +kernel
theorem dX2_drawCough_0 : decode cX2_drawCough 0 = .ok (.iload_n 1, 1) := by decide +kernel
theorem dX2_drawCough_1 : decode cX2_drawCough 1 = .ok (.ifCond .gt 5, 3) := by decide +kernel
theorem dX2_drawCough_4 : decode cX2_drawCough 4 = .ok (.iconst 0, 1) := by decide +kernel
theorem dX2_drawCough_5 : decode cX2_drawCough 5 = .ok (.ireturn, 1) := by decide +kernel
theorem dX2_drawCough_6 : decode cX2_drawCough 6 = .ok (.aload_n 0, 1) := by decide +kernel
theorem dX2_drawCough_7 : decode cX2_drawCough 7 = .ok (.iload_n 1, 1) := by decide +kernel
theorem dX2_drawCough_8 : decode cX2_drawCough 8 = .ok (.invokevirtual 14, 3) := by decide +kernel
theorem dX2_drawCough_11 : decode cX2_drawCough 11 = .ok (.istore_n 2, 1) := by decide +kernel
theorem dX2_drawCough_12 : decode cX2_drawCough 12 = .ok (.aload_n 0, 1) := by decide +kernel
theorem dX2_drawCough_13 : decode cX2_drawCough 13 = .ok (.iconst 4, 1) := by decide +kernel
theorem dX2_drawCough_14 : decode cX2_drawCough 14 = .ok (.invokevirtual 14, 3) := by decide +kernel
theorem dX2_drawCough_17 : decode cX2_drawCough 17 = .ok (.ifCond .ne 9, 3) := by decide +kernel
theorem dX2_drawCough_20 : decode cX2_drawCough 20 = .ok (.iconst 1, 1) := by decide +kernel
theorem dX2_drawCough_21 : decode cX2_drawCough 21 = .ok (.iload_n 2, 1) := by decide +kernel
theorem dX2_drawCough_22 : decode cX2_drawCough 22 = .ok (.ishl, 1) := by decide +kernel
theorem dX2_drawCough_23 : decode cX2_drawCough 23 = .ok (.goto 4, 3) := by decide +kernel
theorem dX2_drawCough_26 : decode cX2_drawCough 26 = .ok (.iconst 0, 1) := by decide +kernel
theorem dX2_drawCough_27 : decode cX2_drawCough 27 = .ok (.ireturn, 1) := by decide +kernel
theorem dX3_init_0 : decode cX3_init 0 = .ok (.aload_n 0, 1) := by decide +kernel
theorem dX3_init_1 : decode cX3_init 1 = .ok (.invokespecial 3, 3) := by decide +kernel
theorem dX3_init_4 : decode cX3_init 4 = .ok (.aload_n 0, 1) := by decide +kernel
theorem dX3_init_5 : decode cX3_init 5 = .ok (.bipush 24, 2) := by decide +kernel
theorem dX3_init_7 : decode cX3_init 7 = .ok (.newarray .int, 2) := by decide +kernel
theorem dX3_init_9 : decode cX3_init 9 = .ok (.putfield 9, 3) := by decide +kernel
theorem dX3_init_12 : decode cX3_init 12 = .ok (.aload_n 0, 1) := by decide +kernel
theorem dX3_init_13 : decode cX3_init 13 = .ok (.bipush 8, 2) := by decide +kernel
theorem dX3_init_15 : decode cX3_init 15 = .ok (.newarray .int, 2) := by decide +kernel
theorem dX3_init_17 : decode cX3_init 17 = .ok (.putfield 15, 3) := by decide +kernel
theorem dX3_init_20 : decode cX3_init 20 = .ok (.aload_n 0, 1) := by decide +kernel
theorem dX3_init_21 : decode cX3_init 21 = .ok (.bipush 8, 2) := by decide +kernel
theorem dX3_init_23 : decode cX3_init 23 = .ok (.newarray .int, 2) := by decide +kernel
theorem dX3_init_25 : decode cX3_init 25 = .ok (.putfield 18, 3) := by decide +kernel
theorem dX3_init_28 : decode cX3_init 28 = .ok (.aload_n 0, 1) := by decide +kernel
theorem dX3_init_29 : decode cX3_init 29 = .ok (.iconst 0, 1) := by decide +kernel
theorem dX3_init_30 : decode cX3_init 30 = .ok (.putfield 21, 3) := by decide +kernel
theorem dX3_init_33 : decode cX3_init 33 = .ok (.aload_n 0, 1) := by decide +kernel
theorem dX3_init_34 : decode cX3_init 34 = .ok (.iconst (-1), 1) := by decide +kernel
theorem dX3_init_35 : decode cX3_init 35 = .ok (.putfield 25, 3) := by decide +kernel
theorem dX3_init_38 : decode cX3_init 38 = .ok (.return_, 1) := by decide +kernel
theorem dX3_parse_0 : decode cX3_parse 0 = .ok (.aload_n 0, 1) := by decide +kernel
theorem dX3_parse_1 : decode cX3_parse 1 = .ok (.aload_n 1, 1) := by decide +kernel
theorem dX3_parse_2 : decode cX3_parse 2 = .ok (.invokestatic 28, 3) := by decide +kernel
theorem dX3_parse_5 : decode cX3_parse 5 = .ok (.putfield 25, 3) := by decide +kernel
theorem dX3_parse_8 : decode cX3_parse 8 = .ok (.aload_n 0, 1) := by decide +kernel
theorem dX3_parse_9 : decode cX3_parse 9 = .ok (.aload_n 0, 1) := by decide +kernel
theorem dX3_parse_10 : decode cX3_parse 10 = .ok (.getfield 25, 3) := by decide +kernel
theorem dX3_parse_13 : decode cX3_parse 13 = .ok (.iconst (-1), 1) := by decide +kernel
theorem dX3_parse_14 : decode cX3_parse 14 = .ok (.if_icmp .ne 15, 3) := by decide +kernel
theorem dX3_parse_17 : decode cX3_parse 17 = .ok (.aload_n 1, 1) := by decide +kernel
theorem dX3_parse_18 : decode cX3_parse 18 = .ok (.invokevirtual 32, 3) := by decide +kernel
theorem dX3_parse_21 : decode cX3_parse 21 = .ok (.bipush 24, 2) := by decide +kernel
theorem dX3_parse_23 : decode cX3_parse 23 = .ok (.invokestatic 38, 3) := by decide +kernel
theorem dX3_parse_26 : decode cX3_parse 26 = .ok (.goto 4, 3) := by decide +kernel
theorem dX3_parse_29 : decode cX3_parse 29 = .ok (.iconst 0, 1) := by decide +kernel
theorem dX3_parse_30 : decode cX3_parse 30 = .ok (.putfield 21, 3) := by decide +kernel
theorem dX3_parse_33 : decode cX3_parse 33 = .ok (.iconst 0, 1) := by decide +kernel
theorem dX3_parse_34 : decode cX3_parse 34 = .ok (.istore_n 2, 1) := by decide +kernel
theorem dX3_parse_35 : decode cX3_parse 35 = .ok (.iload_n 2, 1) := by decide +kernel
theorem dX3_parse_36 : decode cX3_parse 36 = .ok (.aload_n 0, 1) := by decide +kernel
theorem dX3_parse_37 : decode cX3_parse 37 = .ok (.getfield 21, 3) := by decide +kernel
theorem dX3_parse_40 : decode cX3_parse 40 = .ok (.if_icmp .ge 23, 3) := by decide +kernel
theorem dX3_parse_43 : decode cX3_parse 43 = .ok (.aload_n 0, 1) := by decide +kernel
theorem dX3_parse_44 : decode cX3_parse 44 = .ok (.getfield 9, 3) := by decide +kernel
theorem dX3_parse_47 : decode cX3_parse 47 = .ok (.iload_n 2, 1) := by decide +kernel
theorem dX3_parse_48 : decode cX3_parse 48 = .ok (.aload_n 1, 1) := by decide +kernel
theorem dX3_parse_49 : decode cX3_parse 49 = .ok (.iload_n 2, 1) := by decide +kernel
theorem dX3_parse_50 : decode cX3_parse 50 = .ok (.invokevirtual 44, 3) := by decide +kernel
theorem dX3_parse_53 : decode cX3_parse 53 = .ok (.bipush 97, 2) := by decide +kernel
theorem dX3_parse_55 : decode cX3_parse 55 = .ok (.isub, 1) := by decide +kernel
theorem dX3_parse_56 : decode cX3_parse 56 = .ok (.iastore, 1) := by decide +kernel
theorem dX3_parse_57 : decode cX3_parse 57 = .ok (.iinc 2 1, 3) := by decide +kernel
theorem dX3_parse_60 : decode cX3_parse 60 = .ok (.goto (-25), 3) := by decide +kernel
theorem dX3_parse_63 : decode cX3_parse 63 = .ok (.iconst 0, 1) := by decide +kernel
theorem dX3_parse_64 : decode cX3_parse 64 = .ok (.istore_n 2, 1) := by decide +kernel
theorem dX3_parse_65 : decode cX3_parse 65 = .ok (.iload_n 2, 1) := by decide +kernel
theorem dX3_parse_66 : decode cX3_parse 66 = .ok (.bipush 8, 2) := by decide +kernel
theorem dX3_parse_68 : decode cX3_parse 68 = .ok (.if_icmp .ge 31, 3) := by decide +kernel
theorem dX3_parse_71 : decode cX3_parse 71 = .ok (.aload_n 0, 1) := by decide +kernel
theorem dX3_parse_72 : decode cX3_parse 72 = .ok (.getfield 15, 3) := by decide +kernel
theorem dX3_parse_75 : decode cX3_parse 75 = .ok (.iload_n 2, 1) := by decide +kernel
theorem dX3_parse_76 : decode cX3_parse 76 = .ok (.aload_n 0, 1) := by decide +kernel
theorem dX3_parse_77 : decode cX3_parse 77 = .ok (.iconst 0, 1) := by decide +kernel
theorem dX3_parse_78 : decode cX3_parse 78 = .ok (.invokevirtual 48, 3) := by decide +kernel
theorem dX3_parse_81 : decode cX3_parse 81 = .ok (.iastore, 1) := by decide +kernel
theorem dX3_parse_82 : decode cX3_parse 82 = .ok (.aload_n 0, 1) := by decide +kernel
theorem dX3_parse_83 : decode cX3_parse 83 = .ok (.getfield 18, 3) := by decide +kernel
theorem dX3_parse_86 : decode cX3_parse 86 = .ok (.iload_n 2, 1) := by decide +kernel
theorem dX3_parse_87 : decode cX3_parse 87 = .ok (.aload_n 0, 1) := by decide +kernel
theorem dX3_parse_88 : decode cX3_parse 88 = .ok (.iconst 0, 1) := by decide +kernel
theorem dX3_parse_89 : decode cX3_parse 89 = .ok (.invokevirtual 48, 3) := by decide +kernel
theorem dX3_parse_92 : decode cX3_parse 92 = .ok (.iastore, 1) := by decide +kernel
theorem dX3_parse_93 : decode cX3_parse 93 = .ok (.iinc 2 1, 3) := by decide +kernel
theorem dX3_parse_96 : decode cX3_parse 96 = .ok (.goto (-31), 3) := by decide +kernel
theorem dX3_parse_99 : decode cX3_parse 99 = .ok (.aload_n 0, 1) := by decide +kernel
theorem dX3_parse_100 : decode cX3_parse 100 = .ok (.getfield 21, 3) := by decide +kernel
theorem dX3_parse_103 : decode cX3_parse 103 = .ok (.iconst 1, 1) := by decide +kernel
theorem dX3_parse_104 : decode cX3_parse 104 = .ok (.isub, 1) := by decide +kernel
theorem dX3_parse_105 : decode cX3_parse 105 = .ok (.istore_n 2, 1) := by decide +kernel
theorem dX3_parse_106 : decode cX3_parse 106 = .ok (.iload_n 2, 1) := by decide +kernel
theorem dX3_parse_107 : decode cX3_parse 107 = .ok (.ifCond .lt 77, 3) := by decide +kernel
theorem dX3_parse_110 : decode cX3_parse 110 = .ok (.aload_n 0, 1) := by decide +kernel
theorem dX3_parse_111 : decode cX3_parse 111 = .ok (.iload_n 2, 1) := by decide +kernel
theorem dX3_parse_112 : decode cX3_parse 112 = .ok (.invokevirtual 48, 3) := by decide +kernel
theorem dX3_parse_115 : decode cX3_parse 115 = .ok (.istore_n 3, 1) := by decide +kernel
theorem dX3_parse_116 : decode cX3_parse 116 = .ok (.iload_n 3, 1) := by decide +kernel
theorem dX3_parse_117 : decode cX3_parse 117 = .ok (.bipush 8, 2) := by decide +kernel
theorem dX3_parse_119 : decode cX3_parse 119 = .ok (.invokestatic 51, 3) := by decide +kernel
theorem dX3_parse_122 : decode cX3_parse 122 = .ok (.ifCond .eq 56, 3) := by decide +kernel
theorem dX3_parse_125 : decode cX3_parse 125 = .ok (.aload_n 0, 1) := by decide +kernel
theorem dX3_parse_126 : decode cX3_parse 126 = .ok (.getfield 15, 3) := by decide +kernel
theorem dX3_parse_129 : decode cX3_parse 129 = .ok (.iload_n 3, 1) := by decide +kernel
theorem dX3_parse_130 : decode cX3_parse 130 = .ok (.aload_n 0, 1) := by decide +kernel
theorem dX3_parse_131 : decode cX3_parse 131 = .ok (.iload_n 2, 1) := by decide +kernel
theorem dX3_parse_132 : decode cX3_parse 132 = .ok (.aload_n 0, 1) := by decide +kernel
theorem dX3_parse_133 : decode cX3_parse 133 = .ok (.getfield 21, 3) := by decide +kernel
theorem dX3_parse_136 : decode cX3_parse 136 = .ok (.iconst 1, 1) := by decide +kernel
theorem dX3_parse_137 : decode cX3_parse 137 = .ok (.isub, 1) := by decide +kernel
theorem dX3_parse_138 : decode cX3_parse 138 = .ok (.if_icmp .ne 7, 3) := by decide +kernel
theorem dX3_parse_141 : decode cX3_parse 141 = .ok (.iconst 0, 1) := by decide +kernel
theorem dX3_parse_142 : decode cX3_parse 142 = .ok (.goto 6, 3) := by decide +kernel
theorem dX3_parse_145 : decode cX3_parse 145 = .ok (.iload_n 2, 1) := by decide +kernel
theorem dX3_parse_146 : decode cX3_parse 146 = .ok (.iconst 1, 1) := by decide +kernel
theorem dX3_parse_147 : decode cX3_parse 147 = .ok (.iadd, 1) := by decide +kernel
theorem dX3_parse_148 : decode cX3_parse 148 = .ok (.invokevirtual 48, 3) := by decide +kernel
theorem dX3_parse_151 : decode cX3_parse 151 = .ok (.iastore, 1) := by decide +kernel
theorem dX3_parse_152 : decode cX3_parse 152 = .ok (.aload_n 0, 1) := by decide +kernel
theorem dX3_parse_153 : decode cX3_parse 153 = .ok (.getfield 18, 3) := by decide +kernel
theorem dX3_parse_156 : decode cX3_parse 156 = .ok (.iload_n 3, 1) := by decide +kernel
theorem dX3_parse_157 : decode cX3_parse 157 = .ok (.aload_n 0, 1) := by decide +kernel
theorem dX3_parse_158 : decode cX3_parse 158 = .ok (.iload_n 2, 1) := by decide +kernel
theorem dX3_parse_159 : decode cX3_parse 159 = .ok (.ifCond .ne 12, 3) := by decide +kernel
theorem dX3_parse_162 : decode cX3_parse 162 = .ok (.aload_n 0, 1) := by decide +kernel
theorem dX3_parse_163 : decode cX3_parse 163 = .ok (.getfield 21, 3) := by decide +kernel
theorem dX3_parse_166 : decode cX3_parse 166 = .ok (.iconst 1, 1) := by decide +kernel
theorem dX3_parse_167 : decode cX3_parse 167 = .ok (.isub, 1) := by decide +kernel
theorem dX3_parse_168 : decode cX3_parse 168 = .ok (.goto 6, 3) := by decide +kernel
theorem dX3_parse_171 : decode cX3_parse 171 = .ok (.iload_n 2, 1) := by decide +kernel
theorem dX3_parse_172 : decode cX3_parse 172 = .ok (.iconst 1, 1) := by decide +kernel
theorem dX3_parse_173 : decode cX3_parse 173 = .ok (.isub, 1) := by decide +kernel
theorem dX3_parse_174 : decode cX3_parse 174 = .ok (.invokevirtual 48, 3) := by decide +kernel
theorem dX3_parse_177 : decode cX3_parse 177 = .ok (.iastore, 1) := by decide +kernel
theorem dX3_parse_178 : decode cX3_parse 178 = .ok (.iinc 2 (-1), 3) := by decide +kernel
theorem dX3_parse_181 : decode cX3_parse 181 = .ok (.goto (-75), 3) := by decide +kernel
theorem dX3_parse_184 : decode cX3_parse 184 = .ok (.return_, 1) := by decide +kernel
theorem dX3_faultOf_0 : decode cX3_faultOf 0 = .ok (.iconst 0, 1) := by decide +kernel
theorem dX3_faultOf_1 : decode cX3_faultOf 1 = .ok (.istore_n 1, 1) := by decide +kernel
theorem dX3_faultOf_2 : decode cX3_faultOf 2 = .ok (.iload_n 1, 1) := by decide +kernel
theorem dX3_faultOf_3 : decode cX3_faultOf 3 = .ok (.aload_n 0, 1) := by decide +kernel
theorem dX3_faultOf_4 : decode cX3_faultOf 4 = .ok (.invokevirtual 32, 3) := by decide +kernel
theorem dX3_faultOf_7 : decode cX3_faultOf 7 = .ok (.if_icmp .ge 29, 3) := by decide +kernel
theorem dX3_faultOf_10 : decode cX3_faultOf 10 = .ok (.aload_n 0, 1) := by decide +kernel
theorem dX3_faultOf_11 : decode cX3_faultOf 11 = .ok (.iload_n 1, 1) := by decide +kernel
theorem dX3_faultOf_12 : decode cX3_faultOf 12 = .ok (.invokevirtual 44, 3) := by decide +kernel
theorem dX3_faultOf_15 : decode cX3_faultOf 15 = .ok (.istore_n 2, 1) := by decide +kernel
theorem dX3_faultOf_16 : decode cX3_faultOf 16 = .ok (.iload_n 2, 1) := by decide +kernel
theorem dX3_faultOf_17 : decode cX3_faultOf 17 = .ok (.bipush 97, 2) := by decide +kernel
theorem dX3_faultOf_19 : decode cX3_faultOf 19 = .ok (.if_icmp .lt 9, 3) := by decide +kernel
theorem dX3_faultOf_22 : decode cX3_faultOf 22 = .ok (.iload_n 2, 1) := by decide +kernel
theorem dX3_faultOf_23 : decode cX3_faultOf 23 = .ok (.bipush 104, 2) := by decide +kernel
theorem dX3_faultOf_25 : decode cX3_faultOf 25 = .ok (.if_icmp .le 5, 3) := by decide +kernel
theorem dX3_faultOf_28 : decode cX3_faultOf 28 = .ok (.iload_n 1, 1) := by decide +kernel
theorem dX3_faultOf_29 : decode cX3_faultOf 29 = .ok (.ireturn, 1) := by decide +kernel
theorem dX3_faultOf_30 : decode cX3_faultOf 30 = .ok (.iinc 1 1, 3) := by decide +kernel
theorem dX3_faultOf_33 : decode cX3_faultOf 33 = .ok (.goto (-31), 3) := by decide +kernel
theorem dX3_faultOf_36 : decode cX3_faultOf 36 = .ok (.iconst (-1), 1) := by decide +kernel
theorem dX3_faultOf_37 : decode cX3_faultOf 37 = .ok (.ireturn, 1) := by decide +kernel
theorem dX3_lineIn_0 : decode cX3_lineIn 0 = .ok (.iload_n 1, 1) := by decide +kernel
theorem dX3_lineIn_1 : decode cX3_lineIn 1 = .ok (.ifCond .lt 26, 3) := by decide +kernel
theorem dX3_lineIn_4 : decode cX3_lineIn 4 = .ok (.iload_n 1, 1) := by decide +kernel
theorem dX3_lineIn_5 : decode cX3_lineIn 5 = .ok (.aload_n 0, 1) := by decide +kernel
theorem dX3_lineIn_6 : decode cX3_lineIn 6 = .ok (.getfield 21, 3) := by decide +kernel
theorem dX3_lineIn_9 : decode cX3_lineIn 9 = .ok (.if_icmp .ge 18, 3) := by decide +kernel
theorem dX3_lineIn_12 : decode cX3_lineIn 12 = .ok (.iload_n 1, 1) := by decide +kernel
theorem dX3_lineIn_13 : decode cX3_lineIn 13 = .ok (.bipush 24, 2) := by decide +kernel
theorem dX3_lineIn_15 : decode cX3_lineIn 15 = .ok (.if_icmp .ge 12, 3) := by decide +kernel
theorem dX3_lineIn_18 : decode cX3_lineIn 18 = .ok (.aload_n 0, 1) := by decide +kernel
theorem dX3_lineIn_19 : decode cX3_lineIn 19 = .ok (.getfield 9, 3) := by decide +kernel
theorem dX3_lineIn_22 : decode cX3_lineIn 22 = .ok (.iload_n 1, 1) := by decide +kernel
theorem dX3_lineIn_23 : decode cX3_lineIn 23 = .ok (.iaload, 1) := by decide +kernel
theorem dX3_lineIn_24 : decode cX3_lineIn 24 = .ok (.goto 4, 3) := by decide +kernel
theorem dX3_lineIn_27 : decode cX3_lineIn 27 = .ok (.iconst (-1), 1) := by decide +kernel
theorem dX3_lineIn_28 : decode cX3_lineIn 28 = .ok (.ireturn, 1) := by decide +kernel
theorem dX3_nextTo_0 : decode cX3_nextTo 0 = .ok (.iload_n 1, 1) := by decide +kernel
theorem dX3_nextTo_1 : decode cX3_nextTo 1 = .ok (.ifCond .lt 18, 3) := by decide +kernel
theorem dX3_nextTo_4 : decode cX3_nextTo 4 = .ok (.iload_n 1, 1) := by decide +kernel
theorem dX3_nextTo_5 : decode cX3_nextTo 5 = .ok (.bipush 8, 2) := by decide +kernel
theorem dX3_nextTo_7 : decode cX3_nextTo 7 = .ok (.if_icmp .ge 12, 3) := by decide +kernel
theorem dX3_nextTo_10 : decode cX3_nextTo 10 = .ok (.aload_n 0, 1) := by decide +kernel
theorem dX3_nextTo_11 : decode cX3_nextTo 11 = .ok (.getfield 15, 3) := by decide +kernel
theorem dX3_nextTo_14 : decode cX3_nextTo 14 = .ok (.iload_n 1, 1) := by decide +kernel
theorem dX3_nextTo_15 : decode cX3_nextTo 15 = .ok (.iaload, 1) := by decide +kernel
theorem dX3_nextTo_16 : decode cX3_nextTo 16 = .ok (.goto 4, 3) := by decide +kernel
theorem dX3_nextTo_19 : decode cX3_nextTo 19 = .ok (.iconst (-1), 1) := by decide +kernel
theorem dX3_nextTo_20 : decode cX3_nextTo 20 = .ok (.ireturn, 1) := by decide +kernel
theorem dX3_aheadOf_0 : decode cX3_aheadOf 0 = .ok (.iload_n 1, 1) := by decide +kernel
theorem dX3_aheadOf_1 : decode cX3_aheadOf 1 = .ok (.ifCond .lt 18, 3) := by decide +kernel
theorem dX3_aheadOf_4 : decode cX3_aheadOf 4 = .ok (.iload_n 1, 1) := by decide +kernel
theorem dX3_aheadOf_5 : decode cX3_aheadOf 5 = .ok (.bipush 8, 2) := by decide +kernel
theorem dX3_aheadOf_7 : decode cX3_aheadOf 7 = .ok (.if_icmp .ge 12, 3) := by decide +kernel
theorem dX3_aheadOf_10 : decode cX3_aheadOf 10 = .ok (.aload_n 0, 1) := by decide +kernel
theorem dX3_aheadOf_11 : decode cX3_aheadOf 11 = .ok (.getfield 18, 3) := by decide +kernel
theorem dX3_aheadOf_14 : decode cX3_aheadOf 14 = .ok (.iload_n 1, 1) := by decide +kernel
theorem dX3_aheadOf_15 : decode cX3_aheadOf 15 = .ok (.iaload, 1) := by decide +kernel
theorem dX3_aheadOf_16 : decode cX3_aheadOf 16 = .ok (.goto 4, 3) := by decide +kernel
theorem dX3_aheadOf_19 : decode cX3_aheadOf 19 = .ok (.iconst (-1), 1) := by decide +kernel
theorem dX3_aheadOf_20 : decode cX3_aheadOf 20 = .ok (.ireturn, 1) := by decide +kernel
theorem dX3_printedIn_0 : decode cX3_printedIn 0 = .ok (.aload_n 0, 1) := by decide +kernel
theorem dX3_printedIn_1 : decode cX3_printedIn 1 = .ok (.getfield 21, 3) := by decide +kernel
theorem dX3_printedIn_4 : decode cX3_printedIn 4 = .ok (.ifCond .le 16, 3) := by decide +kernel
theorem dX3_printedIn_7 : decode cX3_printedIn 7 = .ok (.aload_n 0, 1) := by decide +kernel
theorem dX3_printedIn_8 : decode cX3_printedIn 8 = .ok (.iload_n 1, 1) := by decide +kernel
theorem dX3_printedIn_9 : decode cX3_printedIn 9 = .ok (.aload_n 0, 1) := by decide +kernel
theorem dX3_printedIn_10 : decode cX3_printedIn 10 = .ok (.getfield 21, 3) := by decide +kernel
theorem dX3_printedIn_13 : decode cX3_printedIn 13 = .ok (.irem, 1) := by decide +kernel
theorem dX3_printedIn_14 : decode cX3_printedIn 14 = .ok (.invokevirtual 48, 3) := by decide +kernel
theorem dX3_printedIn_17 : decode cX3_printedIn 17 = .ok (.goto 4, 3) := by decide +kernel
theorem dX3_printedIn_20 : decode cX3_printedIn 20 = .ok (.iconst (-1), 1) := by decide +kernel
theorem dX3_printedIn_21 : decode cX3_printedIn 21 = .ok (.ireturn, 1) := by decide +kernel
theorem dX4_init_0 : decode cX4_init 0 = .ok (.aload_n 0, 1) := by decide +kernel
theorem dX4_init_1 : decode cX4_init 1 = .ok (.invokespecial 3, 3) := by decide +kernel
theorem dX4_init_4 : decode cX4_init 4 = .ok (.aload_n 0, 1) := by decide +kernel
theorem dX4_init_5 : decode cX4_init 5 = .ok (.iconst 0, 1) := by decide +kernel
theorem dX4_init_6 : decode cX4_init 6 = .ok (.putfield 9, 3) := by decide +kernel
theorem dX4_init_9 : decode cX4_init 9 = .ok (.aload_n 0, 1) := by decide +kernel
theorem dX4_init_10 : decode cX4_init 10 = .ok (.iload_n 1, 1) := by decide +kernel
theorem dX4_init_11 : decode cX4_init 11 = .ok (.iconst 0, 1) := by decide +kernel
theorem dX4_init_12 : decode cX4_init 12 = .ok (.invokestatic 15, 3) := by decide +kernel
theorem dX4_init_15 : decode cX4_init 15 = .ok (.newarray .int, 2) := by decide +kernel
theorem dX4_init_17 : decode cX4_init 17 = .ok (.putfield 21, 3) := by decide +kernel
theorem dX4_init_20 : decode cX4_init 20 = .ok (.return_, 1) := by decide +kernel
theorem dX4_size_0 : decode cX4_size 0 = .ok (.aload_n 0, 1) := by decide +kernel
theorem dX4_size_1 : decode cX4_size 1 = .ok (.getfield 9, 3) := by decide +kernel
theorem dX4_size_4 : decode cX4_size 4 = .ok (.ireturn, 1) := by decide +kernel
theorem dX4_isFull_0 : decode cX4_isFull 0 = .ok (.aload_n 0, 1) := by decide +kernel
theorem dX4_isFull_1 : decode cX4_isFull 1 = .ok (.getfield 9, 3) := by decide +kernel
theorem dX4_isFull_4 : decode cX4_isFull 4 = .ok (.aload_n 0, 1) := by decide +kernel
theorem dX4_isFull_5 : decode cX4_isFull 5 = .ok (.getfield 21, 3) := by decide +kernel
theorem dX4_isFull_8 : decode cX4_isFull 8 = .ok (.arraylength, 1) := by decide +kernel
theorem dX4_isFull_9 : decode cX4_isFull 9 = .ok (.if_icmp .lt 7, 3) := by decide +kernel
theorem dX4_isFull_12 : decode cX4_isFull 12 = .ok (.iconst 1, 1) := by decide +kernel
theorem dX4_isFull_13 : decode cX4_isFull 13 = .ok (.goto 4, 3) := by decide +kernel
theorem dX4_isFull_16 : decode cX4_isFull 16 = .ok (.iconst 0, 1) := by decide +kernel
theorem dX4_isFull_17 : decode cX4_isFull 17 = .ok (.ireturn, 1) := by decide +kernel
theorem dX4_at_0 : decode cX4_at 0 = .ok (.iload_n 1, 1) := by decide +kernel
theorem dX4_at_1 : decode cX4_at 1 = .ok (.ifCond .lt 21, 3) := by decide +kernel
theorem dX4_at_4 : decode cX4_at 4 = .ok (.iload_n 1, 1) := by decide +kernel
theorem dX4_at_5 : decode cX4_at 5 = .ok (.aload_n 0, 1) := by decide +kernel
theorem dX4_at_6 : decode cX4_at 6 = .ok (.getfield 21, 3) := by decide +kernel
theorem dX4_at_9 : decode cX4_at 9 = .ok (.arraylength, 1) := by decide +kernel
theorem dX4_at_10 : decode cX4_at 10 = .ok (.if_icmp .ge 12, 3) := by decide +kernel
theorem dX4_at_13 : decode cX4_at 13 = .ok (.aload_n 0, 1) := by decide +kernel
theorem dX4_at_14 : decode cX4_at 14 = .ok (.getfield 21, 3) := by decide +kernel
theorem dX4_at_17 : decode cX4_at 17 = .ok (.iload_n 1, 1) := by decide +kernel
theorem dX4_at_18 : decode cX4_at 18 = .ok (.iaload, 1) := by decide +kernel
theorem dX4_at_19 : decode cX4_at 19 = .ok (.goto 4, 3) := by decide +kernel
theorem dX4_at_22 : decode cX4_at 22 = .ok (.iconst (-1), 1) := by decide +kernel
theorem dX4_at_23 : decode cX4_at 23 = .ok (.ireturn, 1) := by decide +kernel
theorem dX4_add_0 : decode cX4_add 0 = .ok (.aload_n 0, 1) := by decide +kernel
theorem dX4_add_1 : decode cX4_add 1 = .ok (.getfield 9, 3) := by decide +kernel
theorem dX4_add_4 : decode cX4_add 4 = .ok (.ifCond .lt 35, 3) := by decide +kernel
theorem dX4_add_7 : decode cX4_add 7 = .ok (.aload_n 0, 1) := by decide +kernel
theorem dX4_add_8 : decode cX4_add 8 = .ok (.getfield 9, 3) := by decide +kernel
theorem dX4_add_11 : decode cX4_add 11 = .ok (.aload_n 0, 1) := by decide +kernel
theorem dX4_add_12 : decode cX4_add 12 = .ok (.getfield 21, 3) := by decide +kernel
theorem dX4_add_15 : decode cX4_add 15 = .ok (.arraylength, 1) := by decide +kernel
theorem dX4_add_16 : decode cX4_add 16 = .ok (.if_icmp .ge 23, 3) := by decide +kernel
theorem dX4_add_19 : decode cX4_add 19 = .ok (.aload_n 0, 1) := by decide +kernel
theorem dX4_add_20 : decode cX4_add 20 = .ok (.getfield 21, 3) := by decide +kernel
theorem dX4_add_23 : decode cX4_add 23 = .ok (.aload_n 0, 1) := by decide +kernel
theorem dX4_add_24 : decode cX4_add 24 = .ok (.getfield 9, 3) := by decide +kernel
theorem dX4_add_27 : decode cX4_add 27 = .ok (.iload_n 1, 1) := by decide +kernel
theorem dX4_add_28 : decode cX4_add 28 = .ok (.iastore, 1) := by decide +kernel
theorem dX4_add_29 : decode cX4_add 29 = .ok (.aload_n 0, 1) := by decide +kernel
theorem dX4_add_30 : decode cX4_add 30 = .ok (.dup, 1) := by decide +kernel
theorem dX4_add_31 : decode cX4_add 31 = .ok (.getfield 9, 3) := by decide +kernel
theorem dX4_add_34 : decode cX4_add 34 = .ok (.iconst 1, 1) := by decide +kernel
theorem dX4_add_35 : decode cX4_add 35 = .ok (.iadd, 1) := by decide +kernel
theorem dX4_add_36 : decode cX4_add 36 = .ok (.putfield 9, 3) := by decide +kernel
theorem dX4_add_39 : decode cX4_add 39 = .ok (.return_, 1) := by decide +kernel
theorem dX4_cut_0 : decode cX4_cut 0 = .ok (.aload_n 0, 1) := by decide +kernel
theorem dX4_cut_1 : decode cX4_cut 1 = .ok (.aload_n 0, 1) := by decide +kernel
theorem dX4_cut_2 : decode cX4_cut 2 = .ok (.getfield 9, 3) := by decide +kernel
theorem dX4_cut_5 : decode cX4_cut 5 = .ok (.iconst 1, 1) := by decide +kernel
theorem dX4_cut_6 : decode cX4_cut 6 = .ok (.isub, 1) := by decide +kernel
theorem dX4_cut_7 : decode cX4_cut 7 = .ok (.iconst 0, 1) := by decide +kernel
theorem dX4_cut_8 : decode cX4_cut 8 = .ok (.invokestatic 15, 3) := by decide +kernel
theorem dX4_cut_11 : decode cX4_cut 11 = .ok (.putfield 9, 3) := by decide +kernel
theorem dX4_cut_14 : decode cX4_cut 14 = .ok (.return_, 1) := by decide +kernel
theorem dX4_clear_0 : decode cX4_clear 0 = .ok (.aload_n 0, 1) := by decide +kernel
theorem dX4_clear_1 : decode cX4_clear 1 = .ok (.iconst 0, 1) := by decide +kernel
theorem dX4_clear_2 : decode cX4_clear 2 = .ok (.putfield 9, 3) := by decide +kernel
theorem dX4_clear_5 : decode cX4_clear 5 = .ok (.return_, 1) := by decide +kernel
theorem dX5_init_0 : decode cX5_init 0 = .ok (.aload_n 0, 1) := by decide +kernel
theorem dX5_init_1 : decode cX5_init 1 = .ok (.invokespecial 3, 3) := by decide +kernel
theorem dX5_init_4 : decode cX5_init 4 = .ok (.aload_n 0, 1) := by decide +kernel
theorem dX5_init_5 : decode cX5_init 5 = .ok (.iconst 4, 1) := by decide +kernel
theorem dX5_init_6 : decode cX5_init 6 = .ok (.newarray .int, 2) := by decide +kernel
theorem dX5_init_8 : decode cX5_init 8 = .ok (.dup, 1) := by decide +kernel
theorem dX5_init_9 : decode cX5_init 9 = .ok (.iconst 0, 1) := by decide +kernel
theorem dX5_init_10 : decode cX5_init 10 = .ok (.iconst (-1), 1) := by decide +kernel
theorem dX5_init_11 : decode cX5_init 11 = .ok (.iastore, 1) := by decide +kernel
theorem dX5_init_12 : decode cX5_init 12 = .ok (.dup, 1) := by decide +kernel
theorem dX5_init_13 : decode cX5_init 13 = .ok (.iconst 1, 1) := by decide +kernel
theorem dX5_init_14 : decode cX5_init 14 = .ok (.iconst (-1), 1) := by decide +kernel
theorem dX5_init_15 : decode cX5_init 15 = .ok (.iastore, 1) := by decide +kernel
theorem dX5_init_16 : decode cX5_init 16 = .ok (.dup, 1) := by decide +kernel
theorem dX5_init_17 : decode cX5_init 17 = .ok (.iconst 2, 1) := by decide +kernel
theorem dX5_init_18 : decode cX5_init 18 = .ok (.iconst (-1), 1) := by decide +kernel
theorem dX5_init_19 : decode cX5_init 19 = .ok (.iastore, 1) := by decide +kernel
theorem dX5_init_20 : decode cX5_init 20 = .ok (.dup, 1) := by decide +kernel
theorem dX5_init_21 : decode cX5_init 21 = .ok (.iconst 3, 1) := by decide +kernel
theorem dX5_init_22 : decode cX5_init 22 = .ok (.iconst (-1), 1) := by decide +kernel
theorem dX5_init_23 : decode cX5_init 23 = .ok (.iastore, 1) := by decide +kernel
theorem dX5_init_24 : decode cX5_init 24 = .ok (.putfield 11, 3) := by decide +kernel
theorem dX5_init_27 : decode cX5_init 27 = .ok (.aload_n 0, 1) := by decide +kernel
theorem dX5_init_28 : decode cX5_init 28 = .ok (.iconst 4, 1) := by decide +kernel
theorem dX5_init_29 : decode cX5_init 29 = .ok (.newarray .int, 2) := by decide +kernel
theorem dX5_init_31 : decode cX5_init 31 = .ok (.putfield 15, 3) := by decide +kernel
theorem dX5_init_34 : decode cX5_init 34 = .ok (.aload_n 0, 1) := by decide +kernel
theorem dX5_init_35 : decode cX5_init 35 = .ok (.sipush 240, 3) := by decide +kernel
theorem dX5_init_38 : decode cX5_init 38 = .ok (.newarray .int, 2) := by decide +kernel
theorem dX5_init_40 : decode cX5_init 40 = .ok (.putfield 18, 3) := by decide +kernel
theorem dX5_init_43 : decode cX5_init 43 = .ok (.return_, 1) := by decide +kernel
theorem dX5_isLost_0 : decode cX5_isLost 0 = .ok (.aload_n 0, 1) := by decide +kernel
theorem dX5_isLost_1 : decode cX5_isLost 1 = .ok (.iload_n 1, 1) := by decide +kernel
theorem dX5_isLost_2 : decode cX5_isLost 2 = .ok (.invokevirtual 21, 3) := by decide +kernel
theorem dX5_isLost_5 : decode cX5_isLost 5 = .ok (.iconst (-1), 1) := by decide +kernel
theorem dX5_isLost_6 : decode cX5_isLost 6 = .ok (.if_icmp .ne 7, 3) := by decide +kernel
theorem dX5_isLost_9 : decode cX5_isLost 9 = .ok (.iconst 1, 1) := by decide +kernel
theorem dX5_isLost_10 : decode cX5_isLost 10 = .ok (.goto 4, 3) := by decide +kernel
theorem dX5_isLost_13 : decode cX5_isLost 13 = .ok (.iconst 0, 1) := by decide +kernel
theorem dX5_isLost_14 : decode cX5_isLost 14 = .ok (.ireturn, 1) := by decide +kernel
theorem dX5_formOf_0 : decode cX5_formOf 0 = .ok (.iload_n 1, 1) := by decide +kernel
theorem dX5_formOf_1 : decode cX5_formOf 1 = .ok (.iconst 4, 1) := by decide +kernel
theorem dX5_formOf_2 : decode cX5_formOf 2 = .ok (.invokestatic 25, 3) := by decide +kernel
theorem dX5_formOf_5 : decode cX5_formOf 5 = .ok (.ifCond .eq 12, 3) := by decide +kernel
theorem dX5_formOf_8 : decode cX5_formOf 8 = .ok (.aload_n 0, 1) := by decide +kernel
theorem dX5_formOf_9 : decode cX5_formOf 9 = .ok (.getfield 11, 3) := by decide +kernel
theorem dX5_formOf_12 : decode cX5_formOf 12 = .ok (.iload_n 1, 1) := by decide +kernel
theorem dX5_formOf_13 : decode cX5_formOf 13 = .ok (.iaload, 1) := by decide +kernel
theorem dX5_formOf_14 : decode cX5_formOf 14 = .ok (.goto 4, 3) := by decide +kernel
theorem dX5_formOf_17 : decode cX5_formOf 17 = .ok (.iconst (-1), 1) := by decide +kernel
theorem dX5_formOf_18 : decode cX5_formOf 18 = .ok (.ireturn, 1) := by decide +kernel
theorem dX5_sizeOf_0 : decode cX5_sizeOf 0 = .ok (.iload_n 1, 1) := by decide +kernel
theorem dX5_sizeOf_1 : decode cX5_sizeOf 1 = .ok (.iconst 4, 1) := by decide +kernel
theorem dX5_sizeOf_2 : decode cX5_sizeOf 2 = .ok (.invokestatic 25, 3) := by decide +kernel
theorem dX5_sizeOf_5 : decode cX5_sizeOf 5 = .ok (.ifCond .eq 12, 3) := by decide +kernel
theorem dX5_sizeOf_8 : decode cX5_sizeOf 8 = .ok (.aload_n 0, 1) := by decide +kernel
theorem dX5_sizeOf_9 : decode cX5_sizeOf 9 = .ok (.getfield 15, 3) := by decide +kernel
theorem dX5_sizeOf_12 : decode cX5_sizeOf 12 = .ok (.iload_n 1, 1) := by decide +kernel
theorem dX5_sizeOf_13 : decode cX5_sizeOf 13 = .ok (.iaload, 1) := by decide +kernel
theorem dX5_sizeOf_14 : decode cX5_sizeOf 14 = .ok (.goto 4, 3) := by decide +kernel
theorem dX5_sizeOf_17 : decode cX5_sizeOf 17 = .ok (.iconst 0, 1) := by decide +kernel
theorem dX5_sizeOf_18 : decode cX5_sizeOf 18 = .ok (.ireturn, 1) := by decide +kernel
theorem dX5_item_0 : decode cX5_item 0 = .ok (.iload_n 1, 1) := by decide +kernel
theorem dX5_item_1 : decode cX5_item 1 = .ok (.iconst 4, 1) := by decide +kernel
theorem dX5_item_2 : decode cX5_item 2 = .ok (.invokestatic 25, 3) := by decide +kernel
theorem dX5_item_5 : decode cX5_item 5 = .ok (.ifCond .eq 26, 3) := by decide +kernel
theorem dX5_item_8 : decode cX5_item 8 = .ok (.iload_n 2, 1) := by decide +kernel
theorem dX5_item_9 : decode cX5_item 9 = .ok (.bipush 60, 2) := by decide +kernel
theorem dX5_item_11 : decode cX5_item 11 = .ok (.invokestatic 25, 3) := by decide +kernel
theorem dX5_item_14 : decode cX5_item 14 = .ok (.ifCond .eq 17, 3) := by decide +kernel
theorem dX5_item_17 : decode cX5_item 17 = .ok (.aload_n 0, 1) := by decide +kernel
theorem dX5_item_18 : decode cX5_item 18 = .ok (.getfield 18, 3) := by decide +kernel
theorem dX5_item_21 : decode cX5_item 21 = .ok (.iload_n 1, 1) := by decide +kernel
theorem dX5_item_22 : decode cX5_item 22 = .ok (.bipush 60, 2) := by decide +kernel
theorem dX5_item_24 : decode cX5_item 24 = .ok (.imul, 1) := by decide +kernel
theorem dX5_item_25 : decode cX5_item 25 = .ok (.iload_n 2, 1) := by decide +kernel
theorem dX5_item_26 : decode cX5_item 26 = .ok (.iadd, 1) := by decide +kernel
theorem dX5_item_27 : decode cX5_item 27 = .ok (.iaload, 1) := by decide +kernel
theorem dX5_item_28 : decode cX5_item 28 = .ok (.goto 4, 3) := by decide +kernel
theorem dX5_item_31 : decode cX5_item 31 = .ok (.iconst 0, 1) := by decide +kernel
theorem dX5_item_32 : decode cX5_item 32 = .ok (.ireturn, 1) := by decide +kernel
theorem dX5_put_0 : decode cX5_put 0 = .ok (.iload_n 1, 1) := by decide +kernel
theorem dX5_put_1 : decode cX5_put 1 = .ok (.iconst 4, 1) := by decide +kernel
theorem dX5_put_2 : decode cX5_put 2 = .ok (.invokestatic 25, 3) := by decide +kernel
theorem dX5_put_5 : decode cX5_put 5 = .ok (.ifCond .eq 53, 3) := by decide +kernel
theorem dX5_put_8 : decode cX5_put 8 = .ok (.iload_n 2, 1) := by decide +kernel
theorem dX5_put_9 : decode cX5_put 9 = .ok (.bipush 60, 2) := by decide +kernel
theorem dX5_put_11 : decode cX5_put 11 = .ok (.invokestatic 25, 3) := by decide +kernel
theorem dX5_put_14 : decode cX5_put 14 = .ok (.ifCond .eq 44, 3) := by decide +kernel
theorem dX5_put_17 : decode cX5_put 17 = .ok (.aload_n 0, 1) := by decide +kernel
theorem dX5_put_18 : decode cX5_put 18 = .ok (.getfield 18, 3) := by decide +kernel
theorem dX5_put_21 : decode cX5_put 21 = .ok (.iload_n 1, 1) := by decide +kernel
theorem dX5_put_22 : decode cX5_put 22 = .ok (.bipush 60, 2) := by decide +kernel
theorem dX5_put_24 : decode cX5_put 24 = .ok (.imul, 1) := by decide +kernel
theorem dX5_put_25 : decode cX5_put 25 = .ok (.iload_n 2, 1) := by decide +kernel
theorem dX5_put_26 : decode cX5_put 26 = .ok (.iadd, 1) := by decide +kernel
theorem dX5_put_27 : decode cX5_put 27 = .ok (.aload_n 0, 1) := by decide +kernel
theorem dX5_put_28 : decode cX5_put 28 = .ok (.getfield 11, 3) := by decide +kernel
theorem dX5_put_31 : decode cX5_put 31 = .ok (.iload_n 1, 1) := by decide +kernel
theorem dX5_put_32 : decode cX5_put 32 = .ok (.iaload, 1) := by decide +kernel
theorem dX5_put_33 : decode cX5_put 33 = .ok (.ifCond .ne 8, 3) := by decide +kernel
theorem dX5_put_36 : decode cX5_put 36 = .ok (.iload_n 3, 1) := by decide +kernel
theorem dX5_put_37 : decode cX5_put 37 = .ok (.i2b, 1) := by decide +kernel
theorem dX5_put_38 : decode cX5_put 38 = .ok (.goto 19, 3) := by decide +kernel
theorem dX5_put_41 : decode cX5_put 41 = .ok (.aload_n 0, 1) := by decide +kernel
theorem dX5_put_42 : decode cX5_put 42 = .ok (.getfield 11, 3) := by decide +kernel
theorem dX5_put_45 : decode cX5_put 45 = .ok (.iload_n 1, 1) := by decide +kernel
theorem dX5_put_46 : decode cX5_put 46 = .ok (.iaload, 1) := by decide +kernel
theorem dX5_put_47 : decode cX5_put 47 = .ok (.iconst 1, 1) := by decide +kernel
theorem dX5_put_48 : decode cX5_put 48 = .ok (.if_icmp .ne 8, 3) := by decide +kernel
theorem dX5_put_51 : decode cX5_put 51 = .ok (.iload_n 3, 1) := by decide +kernel
theorem dX5_put_52 : decode cX5_put 52 = .ok (.i2s, 1) := by decide +kernel
theorem dX5_put_53 : decode cX5_put 53 = .ok (.goto 4, 3) := by decide +kernel
theorem dX5_put_56 : decode cX5_put 56 = .ok (.iload_n 3, 1) := by decide +kernel
theorem dX5_put_57 : decode cX5_put 57 = .ok (.iastore, 1) := by decide +kernel
theorem dX5_put_58 : decode cX5_put 58 = .ok (.return_, 1) := by decide +kernel
theorem dX5_renew_0 : decode cX5_renew 0 = .ok (.iload_n 1, 1) := by decide +kernel
theorem dX5_renew_1 : decode cX5_renew 1 = .ok (.iconst 4, 1) := by decide +kernel
theorem dX5_renew_2 : decode cX5_renew 2 = .ok (.invokestatic 25, 3) := by decide +kernel
theorem dX5_renew_5 : decode cX5_renew 5 = .ok (.ifCond .eq 46, 3) := by decide +kernel
theorem dX5_renew_8 : decode cX5_renew 8 = .ok (.aload_n 0, 1) := by decide +kernel
theorem dX5_renew_9 : decode cX5_renew 9 = .ok (.getfield 11, 3) := by decide +kernel
theorem dX5_renew_12 : decode cX5_renew 12 = .ok (.iload_n 1, 1) := by decide +kernel
theorem dX5_renew_13 : decode cX5_renew 13 = .ok (.iload_n 2, 1) := by decide +kernel
theorem dX5_renew_14 : decode cX5_renew 14 = .ok (.iastore, 1) := by decide +kernel
theorem dX5_renew_15 : decode cX5_renew 15 = .ok (.aload_n 0, 1) := by decide +kernel
theorem dX5_renew_16 : decode cX5_renew 16 = .ok (.getfield 15, 3) := by decide +kernel
theorem dX5_renew_19 : decode cX5_renew 19 = .ok (.iload_n 1, 1) := by decide +kernel
theorem dX5_renew_20 : decode cX5_renew 20 = .ok (.iload_n 3, 1) := by decide +kernel
theorem dX5_renew_21 : decode cX5_renew 21 = .ok (.iastore, 1) := by decide +kernel
theorem dX5_renew_22 : decode cX5_renew 22 = .ok (.iconst 0, 1) := by decide +kernel
theorem dX5_renew_23 : decode cX5_renew 23 = .ok (.istore 4, 2) := by decide +kernel
theorem dX5_renew_25 : decode cX5_renew 25 = .ok (.iload 4, 2) := by decide +kernel
theorem dX5_renew_27 : decode cX5_renew 27 = .ok (.bipush 60, 2) := by decide +kernel
theorem dX5_renew_29 : decode cX5_renew 29 = .ok (.if_icmp .ge 22, 3) := by decide +kernel
theorem dX5_renew_32 : decode cX5_renew 32 = .ok (.aload_n 0, 1) := by decide +kernel
theorem dX5_renew_33 : decode cX5_renew 33 = .ok (.getfield 18, 3) := by decide +kernel
theorem dX5_renew_36 : decode cX5_renew 36 = .ok (.iload_n 1, 1) := by decide +kernel
theorem dX5_renew_37 : decode cX5_renew 37 = .ok (.bipush 60, 2) := by decide +kernel
theorem dX5_renew_39 : decode cX5_renew 39 = .ok (.imul, 1) := by decide +kernel
theorem dX5_renew_40 : decode cX5_renew 40 = .ok (.iload 4, 2) := by decide +kernel
theorem dX5_renew_42 : decode cX5_renew 42 = .ok (.iadd, 1) := by decide +kernel
theorem dX5_renew_43 : decode cX5_renew 43 = .ok (.iconst 0, 1) := by decide +kernel
theorem dX5_renew_44 : decode cX5_renew 44 = .ok (.iastore, 1) := by decide +kernel
theorem dX5_renew_45 : decode cX5_renew 45 = .ok (.iinc 4 1, 3) := by decide +kernel
theorem dX5_renew_48 : decode cX5_renew 48 = .ok (.goto (-23), 3) := by decide +kernel
theorem dX5_renew_51 : decode cX5_renew 51 = .ok (.return_, 1) := by decide +kernel
theorem dX5_tear_0 : decode cX5_tear 0 = .ok (.iload_n 1, 1) := by decide +kernel
theorem dX5_tear_1 : decode cX5_tear 1 = .ok (.iconst 4, 1) := by decide +kernel
theorem dX5_tear_2 : decode cX5_tear 2 = .ok (.invokestatic 25, 3) := by decide +kernel
theorem dX5_tear_5 : decode cX5_tear 5 = .ok (.ifCond .eq 17, 3) := by decide +kernel
theorem dX5_tear_8 : decode cX5_tear 8 = .ok (.aload_n 0, 1) := by decide +kernel
theorem dX5_tear_9 : decode cX5_tear 9 = .ok (.getfield 11, 3) := by decide +kernel
theorem dX5_tear_12 : decode cX5_tear 12 = .ok (.iload_n 1, 1) := by decide +kernel
theorem dX5_tear_13 : decode cX5_tear 13 = .ok (.iconst (-1), 1) := by decide +kernel
theorem dX5_tear_14 : decode cX5_tear 14 = .ok (.iastore, 1) := by decide +kernel
theorem dX5_tear_15 : decode cX5_tear 15 = .ok (.aload_n 0, 1) := by decide +kernel
theorem dX5_tear_16 : decode cX5_tear 16 = .ok (.getfield 15, 3) := by decide +kernel
theorem dX5_tear_19 : decode cX5_tear 19 = .ok (.iload_n 1, 1) := by decide +kernel
theorem dX5_tear_20 : decode cX5_tear 20 = .ok (.iconst 0, 1) := by decide +kernel
theorem dX5_tear_21 : decode cX5_tear 21 = .ok (.iastore, 1) := by decide +kernel
theorem dX5_tear_22 : decode cX5_tear 22 = .ok (.return_, 1) := by decide +kernel
theorem dX5_wrongWith_0 : decode cX5_wrongWith 0 = .ok (.aload_n 0, 1) := by decide +kernel
theorem dX5_wrongWith_1 : decode cX5_wrongWith 1 = .ok (.iload_n 1, 1) := by decide +kernel
theorem dX5_wrongWith_2 : decode cX5_wrongWith 2 = .ok (.invokevirtual 29, 3) := by decide +kernel
theorem dX5_wrongWith_5 : decode cX5_wrongWith 5 = .ok (.ifCond .eq 5, 3) := by decide +kernel
theorem dX5_wrongWith_8 : decode cX5_wrongWith 8 = .ok (.iconst 1, 1) := by decide +kernel
theorem dX5_wrongWith_9 : decode cX5_wrongWith 9 = .ok (.ireturn, 1) := by decide +kernel
theorem dX5_wrongWith_10 : decode cX5_wrongWith 10 = .ok (.aload_n 0, 1) := by decide +kernel
theorem dX5_wrongWith_11 : decode cX5_wrongWith 11 = .ok (.iload_n 1, 1) := by decide +kernel
theorem dX5_wrongWith_12 : decode cX5_wrongWith 12 = .ok (.invokevirtual 21, 3) := by decide +kernel
theorem dX5_wrongWith_15 : decode cX5_wrongWith 15 = .ok (.iload_n 2, 1) := by decide +kernel
theorem dX5_wrongWith_16 : decode cX5_wrongWith 16 = .ok (.if_icmp .eq 5, 3) := by decide +kernel
theorem dX5_wrongWith_19 : decode cX5_wrongWith 19 = .ok (.iconst 3, 1) := by decide +kernel
theorem dX5_wrongWith_20 : decode cX5_wrongWith 20 = .ok (.ireturn, 1) := by decide +kernel
theorem dX5_wrongWith_21 : decode cX5_wrongWith 21 = .ok (.iload_n 3, 1) := by decide +kernel
theorem dX5_wrongWith_22 : decode cX5_wrongWith 22 = .ok (.aload_n 0, 1) := by decide +kernel
theorem dX5_wrongWith_23 : decode cX5_wrongWith 23 = .ok (.iload_n 1, 1) := by decide +kernel
theorem dX5_wrongWith_24 : decode cX5_wrongWith 24 = .ok (.invokevirtual 33, 3) := by decide +kernel
theorem dX5_wrongWith_27 : decode cX5_wrongWith 27 = .ok (.invokestatic 25, 3) := by decide +kernel
theorem dX5_wrongWith_30 : decode cX5_wrongWith 30 = .ok (.ifCond .eq 7, 3) := by decide +kernel
theorem dX5_wrongWith_33 : decode cX5_wrongWith 33 = .ok (.iconst 0, 1) := by decide +kernel
theorem dX5_wrongWith_34 : decode cX5_wrongWith 34 = .ok (.goto 4, 3) := by decide +kernel
theorem dX5_wrongWith_37 : decode cX5_wrongWith 37 = .ok (.iconst 2, 1) := by decide +kernel
theorem dX5_wrongWith_38 : decode cX5_wrongWith 38 = .ok (.ireturn, 1) := by decide +kernel
theorem dX5_hasRun_0 : decode cX5_hasRun 0 = .ok (.iload_n 2, 1) := by decide +kernel
theorem dX5_hasRun_1 : decode cX5_hasRun 1 = .ok (.ifCond .lt 22, 3) := by decide +kernel
theorem dX5_hasRun_4 : decode cX5_hasRun 4 = .ok (.iload_n 3, 1) := by decide +kernel
theorem dX5_hasRun_5 : decode cX5_hasRun 5 = .ok (.ifCond .lt 18, 3) := by decide +kernel
theorem dX5_hasRun_8 : decode cX5_hasRun 8 = .ok (.iload_n 3, 1) := by decide +kernel
theorem dX5_hasRun_9 : decode cX5_hasRun 9 = .ok (.aload_n 0, 1) := by decide +kernel
theorem dX5_hasRun_10 : decode cX5_hasRun 10 = .ok (.iload_n 1, 1) := by decide +kernel
theorem dX5_hasRun_11 : decode cX5_hasRun 11 = .ok (.invokevirtual 33, 3) := by decide +kernel
theorem dX5_hasRun_14 : decode cX5_hasRun 14 = .ok (.iload_n 2, 1) := by decide +kernel
theorem dX5_hasRun_15 : decode cX5_hasRun 15 = .ok (.isub, 1) := by decide +kernel
theorem dX5_hasRun_16 : decode cX5_hasRun 16 = .ok (.if_icmp .gt 7, 3) := by decide +kernel
theorem dX5_hasRun_19 : decode cX5_hasRun 19 = .ok (.iconst 1, 1) := by decide +kernel
theorem dX5_hasRun_20 : decode cX5_hasRun 20 = .ok (.goto 4, 3) := by decide +kernel
theorem dX5_hasRun_23 : decode cX5_hasRun 23 = .ok (.iconst 0, 1) := by decide +kernel
theorem dX5_hasRun_24 : decode cX5_hasRun 24 = .ok (.ireturn, 1) := by decide +kernel
theorem dX5_carry_0 : decode cX5_carry 0 = .ok (.iload_n 1, 1) := by decide +kernel
theorem dX5_carry_1 : decode cX5_carry 1 = .ok (.iload_n 3, 1) := by decide +kernel
theorem dX5_carry_2 : decode cX5_carry 2 = .ok (.if_icmp .ne 9, 3) := by decide +kernel
theorem dX5_carry_5 : decode cX5_carry 5 = .ok (.iload 4, 2) := by decide +kernel
theorem dX5_carry_7 : decode cX5_carry 7 = .ok (.iload_n 2, 1) := by decide +kernel
theorem dX5_carry_8 : decode cX5_carry 8 = .ok (.if_icmp .gt 7, 3) := by decide +kernel
theorem dX5_carry_11 : decode cX5_carry 11 = .ok (.iconst 1, 1) := by decide +kernel
theorem dX5_carry_12 : decode cX5_carry 12 = .ok (.goto 4, 3) := by decide +kernel
theorem dX5_carry_15 : decode cX5_carry 15 = .ok (.iconst 0, 1) := by decide +kernel
theorem dX5_carry_16 : decode cX5_carry 16 = .ok (.istore 6, 2) := by decide +kernel
theorem dX5_carry_18 : decode cX5_carry 18 = .ok (.iconst 0, 1) := by decide +kernel
theorem dX5_carry_19 : decode cX5_carry 19 = .ok (.istore 7, 2) := by decide +kernel
theorem dX5_carry_21 : decode cX5_carry 21 = .ok (.iload 7, 2) := by decide +kernel
theorem dX5_carry_23 : decode cX5_carry 23 = .ok (.iload 5, 2) := by decide +kernel
theorem dX5_carry_25 : decode cX5_carry 25 = .ok (.if_icmp .ge 47, 3) := by decide +kernel
theorem dX5_carry_28 : decode cX5_carry 28 = .ok (.iload 6, 2) := by decide +kernel
theorem dX5_carry_30 : decode cX5_carry 30 = .ok (.ifCond .eq 8, 3) := by decide +kernel
theorem dX5_carry_33 : decode cX5_carry 33 = .ok (.iload 7, 2) := by decide +kernel
theorem dX5_carry_35 : decode cX5_carry 35 = .ok (.goto 10, 3) := by decide +kernel
theorem dX5_carry_38 : decode cX5_carry 38 = .ok (.iload 5, 2) := by decide +kernel
theorem dX5_carry_40 : decode cX5_carry 40 = .ok (.iconst 1, 1) := by decide +kernel
theorem dX5_carry_41 : decode cX5_carry 41 = .ok (.isub, 1) := by decide +kernel
theorem dX5_carry_42 : decode cX5_carry 42 = .ok (.iload 7, 2) := by decide +kernel
theorem dX5_carry_44 : decode cX5_carry 44 = .ok (.isub, 1) := by decide +kernel
theorem dX5_carry_45 : decode cX5_carry 45 = .ok (.istore 8, 2) := by decide +kernel
theorem dX5_carry_47 : decode cX5_carry 47 = .ok (.aload_n 0, 1) := by decide +kernel
theorem dX5_carry_48 : decode cX5_carry 48 = .ok (.iload_n 3, 1) := by decide +kernel
theorem dX5_carry_49 : decode cX5_carry 49 = .ok (.iload 4, 2) := by decide +kernel
theorem dX5_carry_51 : decode cX5_carry 51 = .ok (.iload 8, 2) := by decide +kernel
theorem dX5_carry_53 : decode cX5_carry 53 = .ok (.iadd, 1) := by decide +kernel
theorem dX5_carry_54 : decode cX5_carry 54 = .ok (.aload_n 0, 1) := by decide +kernel
theorem dX5_carry_55 : decode cX5_carry 55 = .ok (.iload_n 1, 1) := by decide +kernel
theorem dX5_carry_56 : decode cX5_carry 56 = .ok (.iload_n 2, 1) := by decide +kernel
theorem dX5_carry_57 : decode cX5_carry 57 = .ok (.iload 8, 2) := by decide +kernel
theorem dX5_carry_59 : decode cX5_carry 59 = .ok (.iadd, 1) := by decide +kernel
theorem dX5_carry_60 : decode cX5_carry 60 = .ok (.invokevirtual 36, 3) := by decide +kernel
theorem dX5_carry_63 : decode cX5_carry 63 = .ok (.invokevirtual 40, 3) := by decide +kernel
theorem dX5_carry_66 : decode cX5_carry 66 = .ok (.iinc 7 1, 3) := by decide +kernel
theorem dX5_carry_69 : decode cX5_carry 69 = .ok (.goto (-48), 3) := by decide +kernel
theorem dX5_carry_72 : decode cX5_carry 72 = .ok (.return_, 1) := by decide +kernel
theorem dX6_init_0 : decode cX6_init 0 = .ok (.aload_n 0, 1) := by decide +kernel
theorem dX6_init_1 : decode cX6_init 1 = .ok (.invokespecial 3, 3) := by decide +kernel
theorem dX6_init_4 : decode cX6_init 4 = .ok (.aload_n 0, 1) := by decide +kernel
theorem dX6_init_5 : decode cX6_init 5 = .ok (.new 9, 3) := by decide +kernel
theorem dX6_init_8 : decode cX6_init 8 = .ok (.dup, 1) := by decide +kernel
theorem dX6_init_9 : decode cX6_init 9 = .ok (.invokespecial 11, 3) := by decide +kernel
theorem dX6_init_12 : decode cX6_init 12 = .ok (.putfield 12, 3) := by decide +kernel
theorem dX6_init_15 : decode cX6_init 15 = .ok (.aload_n 0, 1) := by decide +kernel
theorem dX6_init_16 : decode cX6_init 16 = .ok (.new 18, 3) := by decide +kernel
theorem dX6_init_19 : decode cX6_init 19 = .ok (.dup, 1) := by decide +kernel
theorem dX6_init_20 : decode cX6_init 20 = .ok (.invokespecial 20, 3) := by decide +kernel
theorem dX6_init_23 : decode cX6_init 23 = .ok (.putfield 21, 3) := by decide +kernel
theorem dX6_init_26 : decode cX6_init 26 = .ok (.aload_n 0, 1) := by decide +kernel
theorem dX6_init_27 : decode cX6_init 27 = .ok (.bipush 40, 2) := by decide +kernel
theorem dX6_init_29 : decode cX6_init 29 = .ok (.newarray .int, 2) := by decide +kernel
theorem dX6_init_31 : decode cX6_init 31 = .ok (.putfield 25, 3) := by decide +kernel
theorem dX6_init_34 : decode cX6_init 34 = .ok (.aload_n 0, 1) := by decide +kernel
theorem dX6_init_35 : decode cX6_init 35 = .ok (.bipush 40, 2) := by decide +kernel
theorem dX6_init_37 : decode cX6_init 37 = .ok (.newarray .int, 2) := by decide +kernel
theorem dX6_init_39 : decode cX6_init 39 = .ok (.putfield 29, 3) := by decide +kernel
theorem dX6_init_42 : decode cX6_init 42 = .ok (.aload_n 0, 1) := by decide +kernel
theorem dX6_init_43 : decode cX6_init 43 = .ok (.bipush 40, 2) := by decide +kernel
theorem dX6_init_45 : decode cX6_init 45 = .ok (.newarray .boolean, 2) := by decide +kernel
theorem dX6_init_47 : decode cX6_init 47 = .ok (.putfield 32, 3) := by decide +kernel
theorem dX6_init_50 : decode cX6_init 50 = .ok (.aload_n 0, 1) := by decide +kernel
theorem dX6_init_51 : decode cX6_init 51 = .ok (.bipush 40, 2) := by decide +kernel
theorem dX6_init_53 : decode cX6_init 53 = .ok (.newarray .int, 2) := by decide +kernel
theorem dX6_init_55 : decode cX6_init 55 = .ok (.putfield 36, 3) := by decide +kernel
theorem dX6_init_58 : decode cX6_init 58 = .ok (.aload_n 0, 1) := by decide +kernel
theorem dX6_init_59 : decode cX6_init 59 = .ok (.bipush 40, 2) := by decide +kernel
theorem dX6_init_61 : decode cX6_init 61 = .ok (.newarray .int, 2) := by decide +kernel
theorem dX6_init_63 : decode cX6_init 63 = .ok (.putfield 39, 3) := by decide +kernel
theorem dX6_init_66 : decode cX6_init 66 = .ok (.return_, 1) := by decide +kernel
theorem dX6_set_0 : decode cX6_set 0 = .ok (.iconst 0, 1) := by decide +kernel
theorem dX6_set_1 : decode cX6_set 1 = .ok (.istore 4, 2) := by decide +kernel
theorem dX6_set_3 : decode cX6_set 3 = .ok (.iload 4, 2) := by decide +kernel
theorem dX6_set_5 : decode cX6_set 5 = .ok (.bipush 40, 2) := by decide +kernel
theorem dX6_set_7 : decode cX6_set 7 = .ok (.if_icmp .ge 42, 3) := by decide +kernel
theorem dX6_set_10 : decode cX6_set 10 = .ok (.aload_n 0, 1) := by decide +kernel
theorem dX6_set_11 : decode cX6_set 11 = .ok (.getfield 25, 3) := by decide +kernel
theorem dX6_set_14 : decode cX6_set 14 = .ok (.iload 4, 2) := by decide +kernel
theorem dX6_set_16 : decode cX6_set 16 = .ok (.iconst (-1), 1) := by decide +kernel
theorem dX6_set_17 : decode cX6_set 17 = .ok (.iastore, 1) := by decide +kernel
theorem dX6_set_18 : decode cX6_set 18 = .ok (.aload_n 0, 1) := by decide +kernel
theorem dX6_set_19 : decode cX6_set 19 = .ok (.getfield 29, 3) := by decide +kernel
theorem dX6_set_22 : decode cX6_set 22 = .ok (.iload 4, 2) := by decide +kernel
theorem dX6_set_24 : decode cX6_set 24 = .ok (.iconst 0, 1) := by decide +kernel
theorem dX6_set_25 : decode cX6_set 25 = .ok (.iastore, 1) := by decide +kernel
theorem dX6_set_26 : decode cX6_set 26 = .ok (.aload_n 0, 1) := by decide +kernel
theorem dX6_set_27 : decode cX6_set 27 = .ok (.getfield 32, 3) := by decide +kernel
theorem dX6_set_30 : decode cX6_set 30 = .ok (.iload 4, 2) := by decide +kernel
theorem dX6_set_32 : decode cX6_set 32 = .ok (.iload 4, 2) := by decide +kernel
theorem dX6_set_34 : decode cX6_set 34 = .ok (.ifCond .ne 7, 3) := by decide +kernel
theorem dX6_set_37 : decode cX6_set 37 = .ok (.iconst 1, 1) := by decide +kernel
theorem dX6_set_38 : decode cX6_set 38 = .ok (.goto 4, 3) := by decide +kernel
theorem dX6_set_41 : decode cX6_set 41 = .ok (.iconst 0, 1) := by decide +kernel
theorem dX6_set_42 : decode cX6_set 42 = .ok (.bastore, 1) := by decide +kernel
theorem dX6_set_43 : decode cX6_set 43 = .ok (.iinc 4 1, 3) := by decide +kernel
theorem dX6_set_46 : decode cX6_set 46 = .ok (.goto (-43), 3) := by decide +kernel
theorem dX6_set_49 : decode cX6_set 49 = .ok (.iconst 0, 1) := by decide +kernel
theorem dX6_set_50 : decode cX6_set 50 = .ok (.istore 4, 2) := by decide +kernel
theorem dX6_set_52 : decode cX6_set 52 = .ok (.iload 4, 2) := by decide +kernel
theorem dX6_set_54 : decode cX6_set 54 = .ok (.aload_n 1, 1) := by decide +kernel
theorem dX6_set_55 : decode cX6_set 55 = .ok (.invokevirtual 42, 3) := by decide +kernel
theorem dX6_set_58 : decode cX6_set 58 = .ok (.if_icmp .ge 40, 3) := by decide +kernel
theorem dX6_set_61 : decode cX6_set 61 = .ok (.aload_n 1, 1) := by decide +kernel
theorem dX6_set_62 : decode cX6_set 62 = .ok (.iload 4, 2) := by decide +kernel
theorem dX6_set_64 : decode cX6_set 64 = .ok (.invokevirtual 48, 3) := by decide +kernel
theorem dX6_set_67 : decode cX6_set 67 = .ok (.istore 5, 2) := by decide +kernel
theorem dX6_set_69 : decode cX6_set 69 = .ok (.iload 5, 2) := by decide +kernel
theorem dX6_set_71 : decode cX6_set 71 = .ok (.bipush 40, 2) := by decide +kernel
theorem dX6_set_73 : decode cX6_set 73 = .ok (.invokestatic 52, 3) := by decide +kernel
theorem dX6_set_76 : decode cX6_set 76 = .ok (.ifCond .eq 16, 3) := by decide +kernel
theorem dX6_set_79 : decode cX6_set 79 = .ok (.aload_n 0, 1) := by decide +kernel
theorem dX6_set_80 : decode cX6_set 80 = .ok (.getfield 25, 3) := by decide +kernel
theorem dX6_set_83 : decode cX6_set 83 = .ok (.iload 5, 2) := by decide +kernel
theorem dX6_set_85 : decode cX6_set 85 = .ok (.aload_n 1, 1) := by decide +kernel
theorem dX6_set_86 : decode cX6_set 86 = .ok (.iload 4, 2) := by decide +kernel
theorem dX6_set_88 : decode cX6_set 88 = .ok (.invokevirtual 56, 3) := by decide +kernel
theorem dX6_set_91 : decode cX6_set 91 = .ok (.iastore, 1) := by decide +kernel
theorem dX6_set_92 : decode cX6_set 92 = .ok (.iinc 4 1, 3) := by decide +kernel
theorem dX6_set_95 : decode cX6_set 95 = .ok (.goto (-43), 3) := by decide +kernel
theorem dX6_set_98 : decode cX6_set 98 = .ok (.iconst 0, 1) := by decide +kernel
theorem dX6_set_99 : decode cX6_set 99 = .ok (.istore 4, 2) := by decide +kernel
theorem dX6_set_101 : decode cX6_set 101 = .ok (.iload 4, 2) := by decide +kernel
theorem dX6_set_103 : decode cX6_set 103 = .ok (.aload_n 2, 1) := by decide +kernel
theorem dX6_set_104 : decode cX6_set 104 = .ok (.invokevirtual 42, 3) := by decide +kernel
theorem dX6_set_107 : decode cX6_set 107 = .ok (.if_icmp .ge 45, 3) := by decide +kernel
theorem dX6_set_110 : decode cX6_set 110 = .ok (.aload_n 2, 1) := by decide +kernel
theorem dX6_set_111 : decode cX6_set 111 = .ok (.iload 4, 2) := by decide +kernel
theorem dX6_set_113 : decode cX6_set 113 = .ok (.invokevirtual 48, 3) := by decide +kernel
theorem dX6_set_116 : decode cX6_set 116 = .ok (.istore 5, 2) := by decide +kernel
theorem dX6_set_118 : decode cX6_set 118 = .ok (.iload 5, 2) := by decide +kernel
theorem dX6_set_120 : decode cX6_set 120 = .ok (.bipush 40, 2) := by decide +kernel
theorem dX6_set_122 : decode cX6_set 122 = .ok (.invokestatic 52, 3) := by decide +kernel
theorem dX6_set_125 : decode cX6_set 125 = .ok (.ifCond .eq 21, 3) := by decide +kernel
theorem dX6_set_128 : decode cX6_set 128 = .ok (.aload_n 0, 1) := by decide +kernel
theorem dX6_set_129 : decode cX6_set 129 = .ok (.getfield 29, 3) := by decide +kernel
theorem dX6_set_132 : decode cX6_set 132 = .ok (.iload 5, 2) := by decide +kernel
theorem dX6_set_134 : decode cX6_set 134 = .ok (.dup2, 1) := by decide +kernel
theorem dX6_set_135 : decode cX6_set 135 = .ok (.iaload, 1) := by decide +kernel
theorem dX6_set_136 : decode cX6_set 136 = .ok (.iconst 1, 1) := by decide +kernel
theorem dX6_set_137 : decode cX6_set 137 = .ok (.aload_n 2, 1) := by decide +kernel
theorem dX6_set_138 : decode cX6_set 138 = .ok (.iload 4, 2) := by decide +kernel
theorem dX6_set_140 : decode cX6_set 140 = .ok (.invokevirtual 56, 3) := by decide +kernel
theorem dX6_set_143 : decode cX6_set 143 = .ok (.ishl, 1) := by decide +kernel
theorem dX6_set_144 : decode cX6_set 144 = .ok (.ior, 1) := by decide +kernel
theorem dX6_set_145 : decode cX6_set 145 = .ok (.iastore, 1) := by decide +kernel
theorem dX6_set_146 : decode cX6_set 146 = .ok (.iinc 4 1, 3) := by decide +kernel
theorem dX6_set_149 : decode cX6_set 149 = .ok (.goto (-48), 3) := by decide +kernel
theorem dX6_set_152 : decode cX6_set 152 = .ok (.iconst 0, 1) := by decide +kernel
theorem dX6_set_153 : decode cX6_set 153 = .ok (.istore 4, 2) := by decide +kernel
theorem dX6_set_155 : decode cX6_set 155 = .ok (.iload 4, 2) := by decide +kernel
theorem dX6_set_157 : decode cX6_set 157 = .ok (.aload_n 3, 1) := by decide +kernel
theorem dX6_set_158 : decode cX6_set 158 = .ok (.invokevirtual 42, 3) := by decide +kernel
theorem dX6_set_161 : decode cX6_set 161 = .ok (.if_icmp .ge 35, 3) := by decide +kernel
theorem dX6_set_164 : decode cX6_set 164 = .ok (.aload_n 3, 1) := by decide +kernel
theorem dX6_set_165 : decode cX6_set 165 = .ok (.iload 4, 2) := by decide +kernel
theorem dX6_set_167 : decode cX6_set 167 = .ok (.invokevirtual 48, 3) := by decide +kernel
theorem dX6_set_170 : decode cX6_set 170 = .ok (.istore 5, 2) := by decide +kernel
theorem dX6_set_172 : decode cX6_set 172 = .ok (.iload 5, 2) := by decide +kernel
theorem dX6_set_174 : decode cX6_set 174 = .ok (.bipush 40, 2) := by decide +kernel
theorem dX6_set_176 : decode cX6_set 176 = .ok (.invokestatic 52, 3) := by decide +kernel
theorem dX6_set_179 : decode cX6_set 179 = .ok (.ifCond .eq 11, 3) := by decide +kernel
theorem dX6_set_182 : decode cX6_set 182 = .ok (.aload_n 0, 1) := by decide +kernel
theorem dX6_set_183 : decode cX6_set 183 = .ok (.getfield 32, 3) := by decide +kernel
theorem dX6_set_186 : decode cX6_set 186 = .ok (.iload 5, 2) := by decide +kernel
theorem dX6_set_188 : decode cX6_set 188 = .ok (.iconst 1, 1) := by decide +kernel
theorem dX6_set_189 : decode cX6_set 189 = .ok (.bastore, 1) := by decide +kernel
theorem dX6_set_190 : decode cX6_set 190 = .ok (.iinc 4 1, 3) := by decide +kernel
theorem dX6_set_193 : decode cX6_set 193 = .ok (.goto (-38), 3) := by decide +kernel
theorem dX6_set_196 : decode cX6_set 196 = .ok (.return_, 1) := by decide +kernel
theorem dX6_perform_0 : decode cX6_perform 0 = .ok (.iconst 0, 1) := by decide +kernel
theorem dX6_perform_1 : decode cX6_perform 1 = .ok (.istore_n 1, 1) := by decide +kernel
theorem dX6_perform_2 : decode cX6_perform 2 = .ok (.iconst 0, 1) := by decide +kernel
theorem dX6_perform_3 : decode cX6_perform 3 = .ok (.istore_n 2, 1) := by decide +kernel
theorem dX6_perform_4 : decode cX6_perform 4 = .ok (.iload_n 2, 1) := by decide +kernel
theorem dX6_perform_5 : decode cX6_perform 5 = .ok (.bipush 40, 2) := by decide +kernel
theorem dX6_perform_7 : decode cX6_perform 7 = .ok (.if_icmp .ge 33, 3) := by decide +kernel
theorem dX6_perform_10 : decode cX6_perform 10 = .ok (.aload_n 0, 1) := by decide +kernel
theorem dX6_perform_11 : decode cX6_perform 11 = .ok (.getfield 25, 3) := by decide +kernel
theorem dX6_perform_14 : decode cX6_perform 14 = .ok (.iload_n 2, 1) := by decide +kernel
theorem dX6_perform_15 : decode cX6_perform 15 = .ok (.iaload, 1) := by decide +kernel
theorem dX6_perform_16 : decode cX6_perform 16 = .ok (.iconst (-1), 1) := by decide +kernel
theorem dX6_perform_17 : decode cX6_perform 17 = .ok (.if_icmp .eq 10, 3) := by decide +kernel
theorem dX6_perform_20 : decode cX6_perform 20 = .ok (.aload_n 0, 1) := by decide +kernel
theorem dX6_perform_21 : decode cX6_perform 21 = .ok (.getfield 25, 3) := by decide +kernel
theorem dX6_perform_24 : decode cX6_perform 24 = .ok (.iload_n 2, 1) := by decide +kernel
theorem dX6_perform_25 : decode cX6_perform 25 = .ok (.iaload, 1) := by decide +kernel
theorem dX6_perform_26 : decode cX6_perform 26 = .ok (.istore_n 1, 1) := by decide +kernel
theorem dX6_perform_27 : decode cX6_perform 27 = .ok (.aload_n 0, 1) := by decide +kernel
theorem dX6_perform_28 : decode cX6_perform 28 = .ok (.getfield 25, 3) := by decide +kernel
theorem dX6_perform_31 : decode cX6_perform 31 = .ok (.iload_n 2, 1) := by decide +kernel
theorem dX6_perform_32 : decode cX6_perform 32 = .ok (.iload_n 1, 1) := by decide +kernel
theorem dX6_perform_33 : decode cX6_perform 33 = .ok (.iastore, 1) := by decide +kernel
theorem dX6_perform_34 : decode cX6_perform 34 = .ok (.iinc 2 1, 3) := by decide +kernel
theorem dX6_perform_37 : decode cX6_perform 37 = .ok (.goto (-33), 3) := by decide +kernel
theorem dX6_perform_40 : decode cX6_perform 40 = .ok (.iconst (-1), 1) := by decide +kernel
theorem dX6_perform_41 : decode cX6_perform 41 = .ok (.istore_n 2, 1) := by decide +kernel
theorem dX6_perform_42 : decode cX6_perform 42 = .ok (.iconst 0, 1) := by decide +kernel
theorem dX6_perform_43 : decode cX6_perform 43 = .ok (.istore_n 3, 1) := by decide +kernel
theorem dX6_perform_44 : decode cX6_perform 44 = .ok (.iload_n 3, 1) := by decide +kernel
theorem dX6_perform_45 : decode cX6_perform 45 = .ok (.bipush 40, 2) := by decide +kernel
theorem dX6_perform_47 : decode cX6_perform 47 = .ok (.if_icmp .ge 47, 3) := by decide +kernel
theorem dX6_perform_50 : decode cX6_perform 50 = .ok (.aload_n 0, 1) := by decide +kernel
theorem dX6_perform_51 : decode cX6_perform 51 = .ok (.getfield 36, 3) := by decide +kernel
theorem dX6_perform_54 : decode cX6_perform 54 = .ok (.iload_n 3, 1) := by decide +kernel
theorem dX6_perform_55 : decode cX6_perform 55 = .ok (.aload_n 0, 1) := by decide +kernel
theorem dX6_perform_56 : decode cX6_perform 56 = .ok (.iload_n 3, 1) := by decide +kernel
theorem dX6_perform_57 : decode cX6_perform 57 = .ok (.iconst (-1), 1) := by decide +kernel
theorem dX6_perform_58 : decode cX6_perform 58 = .ok (.invokevirtual 59, 3) := by decide +kernel
theorem dX6_perform_61 : decode cX6_perform 61 = .ok (.iastore, 1) := by decide +kernel
theorem dX6_perform_62 : decode cX6_perform 62 = .ok (.aload_n 0, 1) := by decide +kernel
theorem dX6_perform_63 : decode cX6_perform 63 = .ok (.iload_n 3, 1) := by decide +kernel
theorem dX6_perform_64 : decode cX6_perform 64 = .ok (.aload_n 0, 1) := by decide +kernel
theorem dX6_perform_65 : decode cX6_perform 65 = .ok (.getfield 36, 3) := by decide +kernel
theorem dX6_perform_68 : decode cX6_perform 68 = .ok (.iload_n 3, 1) := by decide +kernel
theorem dX6_perform_69 : decode cX6_perform 69 = .ok (.iaload, 1) := by decide +kernel
theorem dX6_perform_70 : decode cX6_perform 70 = .ok (.iload_n 2, 1) := by decide +kernel
theorem dX6_perform_71 : decode cX6_perform 71 = .ok (.aload_n 0, 1) := by decide +kernel
theorem dX6_perform_72 : decode cX6_perform 72 = .ok (.getfield 29, 3) := by decide +kernel
theorem dX6_perform_75 : decode cX6_perform 75 = .ok (.iload_n 3, 1) := by decide +kernel
theorem dX6_perform_76 : decode cX6_perform 76 = .ok (.iaload, 1) := by decide +kernel
theorem dX6_perform_77 : decode cX6_perform 77 = .ok (.invokevirtual 63, 3) := by decide +kernel
theorem dX6_perform_80 : decode cX6_perform 80 = .ok (.istore_n 2, 1) := by decide +kernel
theorem dX6_perform_81 : decode cX6_perform 81 = .ok (.aload_n 0, 1) := by decide +kernel
theorem dX6_perform_82 : decode cX6_perform 82 = .ok (.getfield 39, 3) := by decide +kernel
theorem dX6_perform_85 : decode cX6_perform 85 = .ok (.iload_n 3, 1) := by decide +kernel
theorem dX6_perform_86 : decode cX6_perform 86 = .ok (.iload_n 2, 1) := by decide +kernel
theorem dX6_perform_87 : decode cX6_perform 87 = .ok (.iastore, 1) := by decide +kernel
theorem dX6_perform_88 : decode cX6_perform 88 = .ok (.iinc 3 1, 3) := by decide +kernel
theorem dX6_perform_91 : decode cX6_perform 91 = .ok (.goto (-47), 3) := by decide +kernel
theorem dX6_perform_94 : decode cX6_perform 94 = .ok (.return_, 1) := by decide +kernel
theorem dX6_playedIn_0 : decode cX6_playedIn 0 = .ok (.iload_n 1, 1) := by decide +kernel
theorem dX6_playedIn_1 : decode cX6_playedIn 1 = .ok (.ifCond .lt 18, 3) := by decide +kernel
theorem dX6_playedIn_4 : decode cX6_playedIn 4 = .ok (.iload_n 1, 1) := by decide +kernel
theorem dX6_playedIn_5 : decode cX6_playedIn 5 = .ok (.bipush 40, 2) := by decide +kernel
theorem dX6_playedIn_7 : decode cX6_playedIn 7 = .ok (.if_icmp .ge 12, 3) := by decide +kernel
theorem dX6_playedIn_10 : decode cX6_playedIn 10 = .ok (.aload_n 0, 1) := by decide +kernel
theorem dX6_playedIn_11 : decode cX6_playedIn 11 = .ok (.getfield 39, 3) := by decide +kernel
theorem dX6_playedIn_14 : decode cX6_playedIn 14 = .ok (.iload_n 1, 1) := by decide +kernel
theorem dX6_playedIn_15 : decode cX6_playedIn 15 = .ok (.iaload, 1) := by decide +kernel
theorem dX6_playedIn_16 : decode cX6_playedIn 16 = .ok (.goto 4, 3) := by decide +kernel
theorem dX6_playedIn_19 : decode cX6_playedIn 19 = .ok (.iconst (-1), 1) := by decide +kernel
theorem dX6_playedIn_20 : decode cX6_playedIn 20 = .ok (.ireturn, 1) := by decide +kernel
theorem dX6_byIn_0 : decode cX6_byIn 0 = .ok (.iload_n 1, 1) := by decide +kernel
theorem dX6_byIn_1 : decode cX6_byIn 1 = .ok (.ifCond .lt 18, 3) := by decide +kernel
theorem dX6_byIn_4 : decode cX6_byIn 4 = .ok (.iload_n 1, 1) := by decide +kernel
theorem dX6_byIn_5 : decode cX6_byIn 5 = .ok (.bipush 40, 2) := by decide +kernel
theorem dX6_byIn_7 : decode cX6_byIn 7 = .ok (.if_icmp .ge 12, 3) := by decide +kernel
theorem dX6_byIn_10 : decode cX6_byIn 10 = .ok (.aload_n 0, 1) := by decide +kernel
theorem dX6_byIn_11 : decode cX6_byIn 11 = .ok (.getfield 36, 3) := by decide +kernel
theorem dX6_byIn_14 : decode cX6_byIn 14 = .ok (.iload_n 1, 1) := by decide +kernel
theorem dX6_byIn_15 : decode cX6_byIn 15 = .ok (.iaload, 1) := by decide +kernel
theorem dX6_byIn_16 : decode cX6_byIn 16 = .ok (.goto 4, 3) := by decide +kernel
theorem dX6_byIn_19 : decode cX6_byIn 19 = .ok (.iconst (-1), 1) := by decide +kernel
theorem dX6_byIn_20 : decode cX6_byIn 20 = .ok (.ireturn, 1) := by decide +kernel
theorem dX6_whereIn_0 : decode cX6_whereIn 0 = .ok (.iload_n 1, 1) := by decide +kernel
theorem dX6_whereIn_1 : decode cX6_whereIn 1 = .ok (.ifCond .lt 18, 3) := by decide +kernel
theorem dX6_whereIn_4 : decode cX6_whereIn 4 = .ok (.iload_n 1, 1) := by decide +kernel
theorem dX6_whereIn_5 : decode cX6_whereIn 5 = .ok (.bipush 40, 2) := by decide +kernel
theorem dX6_whereIn_7 : decode cX6_whereIn 7 = .ok (.if_icmp .ge 12, 3) := by decide +kernel
theorem dX6_whereIn_10 : decode cX6_whereIn 10 = .ok (.aload_n 0, 1) := by decide +kernel
theorem dX6_whereIn_11 : decode cX6_whereIn 11 = .ok (.getfield 25, 3) := by decide +kernel
theorem dX6_whereIn_14 : decode cX6_whereIn 14 = .ok (.iload_n 1, 1) := by decide +kernel
theorem dX6_whereIn_15 : decode cX6_whereIn 15 = .ok (.iaload, 1) := by decide +kernel
theorem dX6_whereIn_16 : decode cX6_whereIn 16 = .ok (.goto 4, 3) := by decide +kernel
theorem dX6_whereIn_19 : decode cX6_whereIn 19 = .ok (.iconst (-1), 1) := by decide +kernel
theorem dX6_whereIn_20 : decode cX6_whereIn 20 = .ok (.ireturn, 1) := by decide +kernel
theorem dX6_coughsIn_0 : decode cX6_coughsIn 0 = .ok (.iload_n 1, 1) := by decide +kernel
theorem dX6_coughsIn_1 : decode cX6_coughsIn 1 = .ok (.ifCond .lt 18, 3) := by decide +kernel
theorem dX6_coughsIn_4 : decode cX6_coughsIn 4 = .ok (.iload_n 1, 1) := by decide +kernel
theorem dX6_coughsIn_5 : decode cX6_coughsIn 5 = .ok (.bipush 40, 2) := by decide +kernel
theorem dX6_coughsIn_7 : decode cX6_coughsIn 7 = .ok (.if_icmp .ge 12, 3) := by decide +kernel
theorem dX6_coughsIn_10 : decode cX6_coughsIn 10 = .ok (.aload_n 0, 1) := by decide +kernel
theorem dX6_coughsIn_11 : decode cX6_coughsIn 11 = .ok (.getfield 29, 3) := by decide +kernel
theorem dX6_coughsIn_14 : decode cX6_coughsIn 14 = .ok (.iload_n 1, 1) := by decide +kernel
theorem dX6_coughsIn_15 : decode cX6_coughsIn 15 = .ok (.iaload, 1) := by decide +kernel
theorem dX6_coughsIn_16 : decode cX6_coughsIn 16 = .ok (.goto 4, 3) := by decide +kernel
theorem dX6_coughsIn_19 : decode cX6_coughsIn 19 = .ok (.iconst 0, 1) := by decide +kernel
theorem dX6_coughsIn_20 : decode cX6_coughsIn 20 = .ok (.ireturn, 1) := by decide +kernel
theorem dX6_hears_0 : decode cX6_hears 0 = .ok (.iload_n 2, 1) := by decide +kernel
theorem dX6_hears_1 : decode cX6_hears 1 = .ok (.iconst 1, 1) := by decide +kernel
theorem dX6_hears_2 : decode cX6_hears 2 = .ok (.if_icmp .lt 28, 3) := by decide +kernel
theorem dX6_hears_5 : decode cX6_hears 5 = .ok (.iload_n 2, 1) := by decide +kernel
theorem dX6_hears_6 : decode cX6_hears 6 = .ok (.bipush 40, 2) := by decide +kernel
theorem dX6_hears_8 : decode cX6_hears 8 = .ok (.if_icmp .ge 22, 3) := by decide +kernel
theorem dX6_hears_11 : decode cX6_hears 11 = .ok (.aload_n 0, 1) := by decide +kernel
theorem dX6_hears_12 : decode cX6_hears 12 = .ok (.getfield 32, 3) := by decide +kernel
theorem dX6_hears_15 : decode cX6_hears 15 = .ok (.iload_n 2, 1) := by decide +kernel
theorem dX6_hears_16 : decode cX6_hears 16 = .ok (.baload, 1) := by decide +kernel
theorem dX6_hears_17 : decode cX6_hears 17 = .ok (.ifCond .ne 13, 3) := by decide +kernel
theorem dX6_hears_20 : decode cX6_hears 20 = .ok (.aload_n 0, 1) := by decide +kernel
theorem dX6_hears_21 : decode cX6_hears 21 = .ok (.getfield 12, 3) := by decide +kernel
theorem dX6_hears_24 : decode cX6_hears 24 = .ok (.getfield 67, 3) := by decide +kernel
theorem dX6_hears_27 : decode cX6_hears 27 = .ok (.ifCond .ne 5, 3) := by decide +kernel
theorem dX6_hears_30 : decode cX6_hears 30 = .ok (.iconst 0, 1) := by decide +kernel
theorem dX6_hears_31 : decode cX6_hears 31 = .ok (.ireturn, 1) := by decide +kernel
theorem dX6_hears_32 : decode cX6_hears 32 = .ok (.iload_n 1, 1) := by decide +kernel
theorem dX6_hears_33 : decode cX6_hears 33 = .ok (.ifCond .lt 9, 3) := by decide +kernel
theorem dX6_hears_36 : decode cX6_hears 36 = .ok (.iload_n 1, 1) := by decide +kernel
theorem dX6_hears_37 : decode cX6_hears 37 = .ok (.bipush 9, 2) := by decide +kernel
theorem dX6_hears_39 : decode cX6_hears 39 = .ok (.if_icmp .lt 5, 3) := by decide +kernel
theorem dX6_hears_42 : decode cX6_hears 42 = .ok (.iconst 0, 1) := by decide +kernel
theorem dX6_hears_43 : decode cX6_hears 43 = .ok (.ireturn, 1) := by decide +kernel
theorem dX6_hears_44 : decode cX6_hears 44 = .ok (.aload_n 0, 1) := by decide +kernel
theorem dX6_hears_45 : decode cX6_hears 45 = .ok (.getfield 21, 3) := by decide +kernel
theorem dX6_hears_48 : decode cX6_hears 48 = .ok (.getfield 71, 3) := by decide +kernel
theorem dX6_hears_51 : decode cX6_hears 51 = .ok (.iload_n 1, 1) := by decide +kernel
theorem dX6_hears_52 : decode cX6_hears 52 = .ok (.iaload, 1) := by decide +kernel
theorem dX6_hears_53 : decode cX6_hears 53 = .ok (.aload_n 0, 1) := by decide +kernel
theorem dX6_hears_54 : decode cX6_hears 54 = .ok (.getfield 25, 3) := by decide +kernel
theorem dX6_hears_57 : decode cX6_hears 57 = .ok (.iload_n 2, 1) := by decide +kernel
theorem dX6_hears_58 : decode cX6_hears 58 = .ok (.iconst 1, 1) := by decide +kernel
theorem dX6_hears_59 : decode cX6_hears 59 = .ok (.isub, 1) := by decide +kernel
theorem dX6_hears_60 : decode cX6_hears 60 = .ok (.iaload, 1) := by decide +kernel
theorem dX6_hears_61 : decode cX6_hears 61 = .ok (.isub, 1) := by decide +kernel
theorem dX6_hears_62 : decode cX6_hears 62 = .ok (.invokestatic 74, 3) := by decide +kernel
theorem dX6_hears_65 : decode cX6_hears 65 = .ok (.istore 4, 2) := by decide +kernel
theorem dX6_hears_67 : decode cX6_hears 67 = .ok (.iload 4, 2) := by decide +kernel
theorem dX6_hears_69 : decode cX6_hears 69 = .ok (.aload_n 0, 1) := by decide +kernel
theorem dX6_hears_70 : decode cX6_hears 70 = .ok (.getfield 21, 3) := by decide +kernel
theorem dX6_hears_73 : decode cX6_hears 73 = .ok (.getfield 79, 3) := by decide +kernel
theorem dX6_hears_76 : decode cX6_hears 76 = .ok (.iload_n 1, 1) := by decide +kernel
theorem dX6_hears_77 : decode cX6_hears 77 = .ok (.iaload, 1) := by decide +kernel
theorem dX6_hears_78 : decode cX6_hears 78 = .ok (.iload_n 3, 1) := by decide +kernel
theorem dX6_hears_79 : decode cX6_hears 79 = .ok (.iadd, 1) := by decide +kernel
theorem dX6_hears_80 : decode cX6_hears 80 = .ok (.if_icmp .gt 7, 3) := by decide +kernel
theorem dX6_hears_83 : decode cX6_hears 83 = .ok (.iconst 1, 1) := by decide +kernel
theorem dX6_hears_84 : decode cX6_hears 84 = .ok (.goto 4, 3) := by decide +kernel
theorem dX6_hears_87 : decode cX6_hears 87 = .ok (.iconst 0, 1) := by decide +kernel
theorem dX6_hears_88 : decode cX6_hears 88 = .ok (.ireturn, 1) := by decide +kernel
theorem dX6_nearest_0 : decode cX6_nearest 0 = .ok (.iconst (-1), 1) := by decide +kernel
theorem dX6_nearest_1 : decode cX6_nearest 1 = .ok (.istore_n 3, 1) := by decide +kernel
theorem dX6_nearest_2 : decode cX6_nearest 2 = .ok (.bipush 10, 2) := by decide +kernel
theorem dX6_nearest_4 : decode cX6_nearest 4 = .ok (.istore 4, 2) := by decide +kernel
theorem dX6_nearest_6 : decode cX6_nearest 6 = .ok (.aload_n 0, 1) := by decide +kernel
theorem dX6_nearest_7 : decode cX6_nearest 7 = .ok (.iload_n 1, 1) := by decide +kernel
theorem dX6_nearest_8 : decode cX6_nearest 8 = .ok (.invokevirtual 82, 3) := by decide +kernel
theorem dX6_nearest_11 : decode cX6_nearest 11 = .ok (.istore 5, 2) := by decide +kernel
theorem dX6_nearest_13 : decode cX6_nearest 13 = .ok (.iconst 0, 1) := by decide +kernel
theorem dX6_nearest_14 : decode cX6_nearest 14 = .ok (.istore 6, 2) := by decide +kernel
theorem dX6_nearest_16 : decode cX6_nearest 16 = .ok (.iload 6, 2) := by decide +kernel
theorem dX6_nearest_18 : decode cX6_nearest 18 = .ok (.aload_n 0, 1) := by decide +kernel
theorem dX6_nearest_19 : decode cX6_nearest 19 = .ok (.getfield 21, 3) := by decide +kernel
theorem dX6_nearest_22 : decode cX6_nearest 22 = .ok (.getfield 85, 3) := by decide +kernel
theorem dX6_nearest_25 : decode cX6_nearest 25 = .ok (.if_icmp .ge 61, 3) := by decide +kernel
theorem dX6_nearest_28 : decode cX6_nearest 28 = .ok (.aload_n 0, 1) := by decide +kernel
theorem dX6_nearest_29 : decode cX6_nearest 29 = .ok (.getfield 21, 3) := by decide +kernel
theorem dX6_nearest_32 : decode cX6_nearest 32 = .ok (.iload 6, 2) := by decide +kernel
theorem dX6_nearest_34 : decode cX6_nearest 34 = .ok (.invokevirtual 87, 3) := by decide +kernel
theorem dX6_nearest_37 : decode cX6_nearest 37 = .ok (.iload 5, 2) := by decide +kernel
theorem dX6_nearest_39 : decode cX6_nearest 39 = .ok (.isub, 1) := by decide +kernel
theorem dX6_nearest_40 : decode cX6_nearest 40 = .ok (.invokestatic 74, 3) := by decide +kernel
theorem dX6_nearest_43 : decode cX6_nearest 43 = .ok (.istore 7, 2) := by decide +kernel
theorem dX6_nearest_45 : decode cX6_nearest 45 = .ok (.iload 7, 2) := by decide +kernel
theorem dX6_nearest_47 : decode cX6_nearest 47 = .ok (.iload 4, 2) := by decide +kernel
theorem dX6_nearest_49 : decode cX6_nearest 49 = .ok (.if_icmp .ge 31, 3) := by decide +kernel
theorem dX6_nearest_52 : decode cX6_nearest 52 = .ok (.aload_n 0, 1) := by decide +kernel
theorem dX6_nearest_53 : decode cX6_nearest 53 = .ok (.iload 6, 2) := by decide +kernel
theorem dX6_nearest_55 : decode cX6_nearest 55 = .ok (.iload_n 1, 1) := by decide +kernel
theorem dX6_nearest_56 : decode cX6_nearest 56 = .ok (.iload 6, 2) := by decide +kernel
theorem dX6_nearest_58 : decode cX6_nearest 58 = .ok (.iload_n 2, 1) := by decide +kernel
theorem dX6_nearest_59 : decode cX6_nearest 59 = .ok (.if_icmp .ne 7, 3) := by decide +kernel
theorem dX6_nearest_62 : decode cX6_nearest 62 = .ok (.iconst 1, 1) := by decide +kernel
theorem dX6_nearest_63 : decode cX6_nearest 63 = .ok (.goto 4, 3) := by decide +kernel
theorem dX6_nearest_66 : decode cX6_nearest 66 = .ok (.iconst 0, 1) := by decide +kernel
theorem dX6_nearest_67 : decode cX6_nearest 67 = .ok (.invokevirtual 90, 3) := by decide +kernel
theorem dX6_nearest_70 : decode cX6_nearest 70 = .ok (.ifCond .eq 10, 3) := by decide +kernel
theorem dX6_nearest_73 : decode cX6_nearest 73 = .ok (.iload 6, 2) := by decide +kernel
theorem dX6_nearest_75 : decode cX6_nearest 75 = .ok (.istore_n 3, 1) := by decide +kernel
theorem dX6_nearest_76 : decode cX6_nearest 76 = .ok (.iload 7, 2) := by decide +kernel
theorem dX6_nearest_78 : decode cX6_nearest 78 = .ok (.istore 4, 2) := by decide +kernel
theorem dX6_nearest_80 : decode cX6_nearest 80 = .ok (.iinc 6 1, 3) := by decide +kernel
theorem dX6_nearest_83 : decode cX6_nearest 83 = .ok (.goto (-67), 3) := by decide +kernel
theorem dX6_nearest_86 : decode cX6_nearest 86 = .ok (.iload_n 3, 1) := by decide +kernel
theorem dX6_nearest_87 : decode cX6_nearest 87 = .ok (.ireturn, 1) := by decide +kernel
theorem dX6_whispered_0 : decode cX6_whispered 0 = .ok (.iload_n 1, 1) := by decide +kernel
theorem dX6_whispered_1 : decode cX6_whispered 1 = .ok (.ifCond .lt 19, 3) := by decide +kernel
theorem dX6_whispered_4 : decode cX6_whispered 4 = .ok (.iload_n 1, 1) := by decide +kernel
theorem dX6_whispered_5 : decode cX6_whispered 5 = .ok (.bipush 9, 2) := by decide +kernel
theorem dX6_whispered_7 : decode cX6_whispered 7 = .ok (.if_icmp .ge 13, 3) := by decide +kernel
theorem dX6_whispered_10 : decode cX6_whispered 10 = .ok (.iload_n 2, 1) := by decide +kernel
theorem dX6_whispered_11 : decode cX6_whispered 11 = .ok (.ifCond .lt 9, 3) := by decide +kernel
theorem dX6_whispered_14 : decode cX6_whispered 14 = .ok (.iload_n 2, 1) := by decide +kernel
theorem dX6_whispered_15 : decode cX6_whispered 15 = .ok (.bipush 8, 2) := by decide +kernel
theorem dX6_whispered_17 : decode cX6_whispered 17 = .ok (.if_icmp .lt 5, 3) := by decide +kernel
theorem dX6_whispered_20 : decode cX6_whispered 20 = .ok (.iconst (-1), 1) := by decide +kernel
theorem dX6_whispered_21 : decode cX6_whispered 21 = .ok (.ireturn, 1) := by decide +kernel
theorem dX6_whispered_22 : decode cX6_whispered 22 = .ok (.aload_n 0, 1) := by decide +kernel
theorem dX6_whispered_23 : decode cX6_whispered 23 = .ok (.getfield 21, 3) := by decide +kernel
theorem dX6_whispered_26 : decode cX6_whispered 26 = .ok (.getfield 94, 3) := by decide +kernel
theorem dX6_whispered_29 : decode cX6_whispered 29 = .ok (.iload_n 1, 1) := by decide +kernel
theorem dX6_whispered_30 : decode cX6_whispered 30 = .ok (.bipush 8, 2) := by decide +kernel
theorem dX6_whispered_32 : decode cX6_whispered 32 = .ok (.imul, 1) := by decide +kernel
theorem dX6_whispered_33 : decode cX6_whispered 33 = .ok (.iload_n 2, 1) := by decide +kernel
theorem dX6_whispered_34 : decode cX6_whispered 34 = .ok (.iadd, 1) := by decide +kernel
theorem dX6_whispered_35 : decode cX6_whispered 35 = .ok (.iaload, 1) := by decide +kernel
theorem dX6_whispered_36 : decode cX6_whispered 36 = .ok (.istore 4, 2) := by decide +kernel
theorem dX6_whispered_38 : decode cX6_whispered 38 = .ok (.iload_n 3, 1) := by decide +kernel
theorem dX6_whispered_39 : decode cX6_whispered 39 = .ok (.iload_n 1, 1) := by decide +kernel
theorem dX6_whispered_40 : decode cX6_whispered 40 = .ok (.ishr, 1) := by decide +kernel
theorem dX6_whispered_41 : decode cX6_whispered 41 = .ok (.iconst 1, 1) := by decide +kernel
theorem dX6_whispered_42 : decode cX6_whispered 42 = .ok (.iand, 1) := by decide +kernel
theorem dX6_whispered_43 : decode cX6_whispered 43 = .ok (.ifCond .ne 8, 3) := by decide +kernel
theorem dX6_whispered_46 : decode cX6_whispered 46 = .ok (.iload 4, 2) := by decide +kernel
theorem dX6_whispered_48 : decode cX6_whispered 48 = .ok (.goto 10, 3) := by decide +kernel
theorem dX6_whispered_51 : decode cX6_whispered 51 = .ok (.iload 4, 2) := by decide +kernel
theorem dX6_whispered_53 : decode cX6_whispered 53 = .ok (.iconst 1, 1) := by decide +kernel
theorem dX6_whispered_54 : decode cX6_whispered 54 = .ok (.iadd, 1) := by decide +kernel
theorem dX6_whispered_55 : decode cX6_whispered 55 = .ok (.bipush 8, 2) := by decide +kernel
theorem dX6_whispered_57 : decode cX6_whispered 57 = .ok (.irem, 1) := by decide +kernel
theorem dX6_whispered_58 : decode cX6_whispered 58 = .ok (.ireturn, 1) := by decide +kernel
theorem dX6_follow_0 : decode cX6_follow 0 = .ok (.iload_n 1, 1) := by decide +kernel
theorem dX6_follow_1 : decode cX6_follow 1 = .ok (.ifCond .lt 18, 3) := by decide +kernel
theorem dX6_follow_4 : decode cX6_follow 4 = .ok (.iload_n 1, 1) := by decide +kernel
theorem dX6_follow_5 : decode cX6_follow 5 = .ok (.bipush 40, 2) := by decide +kernel
theorem dX6_follow_7 : decode cX6_follow 7 = .ok (.if_icmp .ge 12, 3) := by decide +kernel
theorem dX6_follow_10 : decode cX6_follow 10 = .ok (.aload_n 0, 1) := by decide +kernel
theorem dX6_follow_11 : decode cX6_follow 11 = .ok (.getfield 32, 3) := by decide +kernel
theorem dX6_follow_14 : decode cX6_follow 14 = .ok (.iload_n 1, 1) := by decide +kernel
theorem dX6_follow_15 : decode cX6_follow 15 = .ok (.baload, 1) := by decide +kernel
theorem dX6_follow_16 : decode cX6_follow 16 = .ok (.ifCond .eq 12, 3) := by decide +kernel
theorem dX6_follow_19 : decode cX6_follow 19 = .ok (.aload_n 0, 1) := by decide +kernel
theorem dX6_follow_20 : decode cX6_follow 20 = .ok (.getfield 12, 3) := by decide +kernel
theorem dX6_follow_23 : decode cX6_follow 23 = .ok (.iconst 0, 1) := by decide +kernel
theorem dX6_follow_24 : decode cX6_follow 24 = .ok (.invokevirtual 97, 3) := by decide +kernel
theorem dX6_follow_27 : decode cX6_follow 27 = .ok (.ireturn, 1) := by decide +kernel
theorem dX6_follow_28 : decode cX6_follow 28 = .ok (.iload_n 2, 1) := by decide +kernel
theorem dX6_follow_29 : decode cX6_follow 29 = .ok (.iconst (-1), 1) := by decide +kernel
theorem dX6_follow_30 : decode cX6_follow 30 = .ok (.if_icmp .ne 14, 3) := by decide +kernel
theorem dX6_follow_33 : decode cX6_follow 33 = .ok (.aload_n 0, 1) := by decide +kernel
theorem dX6_follow_34 : decode cX6_follow 34 = .ok (.getfield 12, 3) := by decide +kernel
theorem dX6_follow_37 : decode cX6_follow 37 = .ok (.iload_n 3, 1) := by decide +kernel
theorem dX6_follow_38 : decode cX6_follow 38 = .ok (.invokevirtual 100, 3) := by decide +kernel
theorem dX6_follow_41 : decode cX6_follow 41 = .ok (.goto 11, 3) := by decide +kernel
theorem dX6_follow_44 : decode cX6_follow 44 = .ok (.aload_n 0, 1) := by decide +kernel
theorem dX6_follow_45 : decode cX6_follow 45 = .ok (.iload_n 2, 1) := by decide +kernel
theorem dX6_follow_46 : decode cX6_follow 46 = .ok (.iload_n 3, 1) := by decide +kernel
theorem dX6_follow_47 : decode cX6_follow 47 = .ok (.iload 4, 2) := by decide +kernel
theorem dX6_follow_49 : decode cX6_follow 49 = .ok (.invokevirtual 103, 3) := by decide +kernel
theorem dX6_follow_52 : decode cX6_follow 52 = .ok (.ireturn, 1) := by decide +kernel
theorem dX6_rehearse_0 : decode cX6_rehearse 0 = .ok (.aload_n 0, 1) := by decide +kernel
theorem dX6_rehearse_1 : decode cX6_rehearse 1 = .ok (.iload_n 1, 1) := by decide +kernel
theorem dX6_rehearse_2 : decode cX6_rehearse 2 = .ok (.invokevirtual 107, 3) := by decide +kernel
theorem dX6_rehearse_5 : decode cX6_rehearse 5 = .ok (.istore 4, 2) := by decide +kernel
theorem dX6_rehearse_7 : decode cX6_rehearse 7 = .ok (.iload_n 2, 1) := by decide +kernel
theorem dX6_rehearse_8 : decode cX6_rehearse 8 = .ok (.aload_n 0, 1) := by decide +kernel
theorem dX6_rehearse_9 : decode cX6_rehearse 9 = .ok (.iload_n 1, 1) := by decide +kernel
theorem dX6_rehearse_10 : decode cX6_rehearse 10 = .ok (.invokevirtual 110, 3) := by decide +kernel
theorem dX6_rehearse_13 : decode cX6_rehearse 13 = .ok (.iconst (-1), 1) := by decide +kernel
theorem dX6_rehearse_14 : decode cX6_rehearse 14 = .ok (.ixor, 1) := by decide +kernel
theorem dX6_rehearse_15 : decode cX6_rehearse 15 = .ok (.iand, 1) := by decide +kernel
theorem dX6_rehearse_16 : decode cX6_rehearse 16 = .ok (.istore 5, 2) := by decide +kernel
theorem dX6_rehearse_18 : decode cX6_rehearse 18 = .ok (.iload 4, 2) := by decide +kernel
theorem dX6_rehearse_20 : decode cX6_rehearse 20 = .ok (.iconst (-1), 1) := by decide +kernel
theorem dX6_rehearse_21 : decode cX6_rehearse 21 = .ok (.if_icmp .eq 17, 3) := by decide +kernel
theorem dX6_rehearse_24 : decode cX6_rehearse 24 = .ok (.iload 5, 2) := by decide +kernel
theorem dX6_rehearse_26 : decode cX6_rehearse 26 = .ok (.iload 4, 2) := by decide +kernel
theorem dX6_rehearse_28 : decode cX6_rehearse 28 = .ok (.ishr, 1) := by decide +kernel
theorem dX6_rehearse_29 : decode cX6_rehearse 29 = .ok (.iconst 1, 1) := by decide +kernel
theorem dX6_rehearse_30 : decode cX6_rehearse 30 = .ok (.iand, 1) := by decide +kernel
theorem dX6_rehearse_31 : decode cX6_rehearse 31 = .ok (.ifCond .eq 7, 3) := by decide +kernel
theorem dX6_rehearse_34 : decode cX6_rehearse 34 = .ok (.iload_n 1, 1) := by decide +kernel
theorem dX6_rehearse_35 : decode cX6_rehearse 35 = .ok (.goto 5, 3) := by decide +kernel
theorem dX6_rehearse_38 : decode cX6_rehearse 38 = .ok (.bipush 40, 2) := by decide +kernel
theorem dX6_rehearse_40 : decode cX6_rehearse 40 = .ok (.istore 6, 2) := by decide +kernel
theorem dX6_rehearse_42 : decode cX6_rehearse 42 = .ok (.iconst (-1), 1) := by decide +kernel
theorem dX6_rehearse_43 : decode cX6_rehearse 43 = .ok (.istore 7, 2) := by decide +kernel
theorem dX6_rehearse_45 : decode cX6_rehearse 45 = .ok (.iconst 0, 1) := by decide +kernel
theorem dX6_rehearse_46 : decode cX6_rehearse 46 = .ok (.istore 8, 2) := by decide +kernel
theorem dX6_rehearse_48 : decode cX6_rehearse 48 = .ok (.iload 8, 2) := by decide +kernel
theorem dX6_rehearse_50 : decode cX6_rehearse 50 = .ok (.bipush 40, 2) := by decide +kernel
theorem dX6_rehearse_52 : decode cX6_rehearse 52 = .ok (.if_icmp .ge 86, 3) := by decide +kernel
theorem dX6_rehearse_55 : decode cX6_rehearse 55 = .ok (.iload 8, 2) := by decide +kernel
theorem dX6_rehearse_57 : decode cX6_rehearse 57 = .ok (.aload_n 3, 1) := by decide +kernel
theorem dX6_rehearse_58 : decode cX6_rehearse 58 = .ok (.arraylength, 1) := by decide +kernel
theorem dX6_rehearse_59 : decode cX6_rehearse 59 = .ok (.if_icmp .ge 79, 3) := by decide +kernel
theorem dX6_rehearse_62 : decode cX6_rehearse 62 = .ok (.iload 8, 2) := by decide +kernel
theorem dX6_rehearse_64 : decode cX6_rehearse 64 = .ok (.iload 6, 2) := by decide +kernel
theorem dX6_rehearse_66 : decode cX6_rehearse 66 = .ok (.if_icmp .ne 15, 3) := by decide +kernel
theorem dX6_rehearse_69 : decode cX6_rehearse 69 = .ok (.aload_n 0, 1) := by decide +kernel
theorem dX6_rehearse_70 : decode cX6_rehearse 70 = .ok (.getfield 29, 3) := by decide +kernel
theorem dX6_rehearse_73 : decode cX6_rehearse 73 = .ok (.iload 8, 2) := by decide +kernel
theorem dX6_rehearse_75 : decode cX6_rehearse 75 = .ok (.iaload, 1) := by decide +kernel
theorem dX6_rehearse_76 : decode cX6_rehearse 76 = .ok (.iload_n 2, 1) := by decide +kernel
theorem dX6_rehearse_77 : decode cX6_rehearse 77 = .ok (.ior, 1) := by decide +kernel
theorem dX6_rehearse_78 : decode cX6_rehearse 78 = .ok (.goto 10, 3) := by decide +kernel
theorem dX6_rehearse_81 : decode cX6_rehearse 81 = .ok (.aload_n 0, 1) := by decide +kernel
theorem dX6_rehearse_82 : decode cX6_rehearse 82 = .ok (.getfield 29, 3) := by decide +kernel
theorem dX6_rehearse_85 : decode cX6_rehearse 85 = .ok (.iload 8, 2) := by decide +kernel
theorem dX6_rehearse_87 : decode cX6_rehearse 87 = .ok (.iaload, 1) := by decide +kernel
theorem dX6_rehearse_88 : decode cX6_rehearse 88 = .ok (.istore 9, 2) := by decide +kernel
theorem dX6_rehearse_90 : decode cX6_rehearse 90 = .ok (.iload 8, 2) := by decide +kernel
theorem dX6_rehearse_92 : decode cX6_rehearse 92 = .ok (.iload 6, 2) := by decide +kernel
theorem dX6_rehearse_94 : decode cX6_rehearse 94 = .ok (.if_icmp .ge 13, 3) := by decide +kernel
theorem dX6_rehearse_97 : decode cX6_rehearse 97 = .ok (.aload_n 0, 1) := by decide +kernel
theorem dX6_rehearse_98 : decode cX6_rehearse 98 = .ok (.getfield 39, 3) := by decide +kernel
theorem dX6_rehearse_101 : decode cX6_rehearse 101 = .ok (.iload 8, 2) := by decide +kernel
theorem dX6_rehearse_103 : decode cX6_rehearse 103 = .ok (.iaload, 1) := by decide +kernel
theorem dX6_rehearse_104 : decode cX6_rehearse 104 = .ok (.goto 20, 3) := by decide +kernel
theorem dX6_rehearse_107 : decode cX6_rehearse 107 = .ok (.aload_n 0, 1) := by decide +kernel
theorem dX6_rehearse_108 : decode cX6_rehearse 108 = .ok (.iload 8, 2) := by decide +kernel
theorem dX6_rehearse_110 : decode cX6_rehearse 110 = .ok (.aload_n 0, 1) := by decide +kernel
theorem dX6_rehearse_111 : decode cX6_rehearse 111 = .ok (.getfield 36, 3) := by decide +kernel
theorem dX6_rehearse_114 : decode cX6_rehearse 114 = .ok (.iload 8, 2) := by decide +kernel
theorem dX6_rehearse_116 : decode cX6_rehearse 116 = .ok (.iaload, 1) := by decide +kernel
theorem dX6_rehearse_117 : decode cX6_rehearse 117 = .ok (.iload 7, 2) := by decide +kernel
theorem dX6_rehearse_119 : decode cX6_rehearse 119 = .ok (.iload 9, 2) := by decide +kernel
theorem dX6_rehearse_121 : decode cX6_rehearse 121 = .ok (.invokevirtual 63, 3) := by decide +kernel
theorem dX6_rehearse_124 : decode cX6_rehearse 124 = .ok (.istore 7, 2) := by decide +kernel
theorem dX6_rehearse_126 : decode cX6_rehearse 126 = .ok (.aload_n 3, 1) := by decide +kernel
theorem dX6_rehearse_127 : decode cX6_rehearse 127 = .ok (.iload 8, 2) := by decide +kernel
theorem dX6_rehearse_129 : decode cX6_rehearse 129 = .ok (.iload 7, 2) := by decide +kernel
theorem dX6_rehearse_131 : decode cX6_rehearse 131 = .ok (.iastore, 1) := by decide +kernel
theorem dX6_rehearse_132 : decode cX6_rehearse 132 = .ok (.iinc 8 1, 3) := by decide +kernel
theorem dX6_rehearse_135 : decode cX6_rehearse 135 = .ok (.goto (-87), 3) := by decide +kernel
theorem dX6_rehearse_138 : decode cX6_rehearse 138 = .ok (.return_, 1) := by decide +kernel
theorem dX6_rehearseFiled_0 : decode cX6_rehearseFiled 0 = .ok (.iconst (-1), 1) := by decide +kernel
theorem dX6_rehearseFiled_1 : decode cX6_rehearseFiled 1 = .ok (.istore_n 3, 1) := by decide +kernel
theorem dX6_rehearseFiled_2 : decode cX6_rehearseFiled 2 = .ok (.iconst 0, 1) := by decide +kernel
theorem dX6_rehearseFiled_3 : decode cX6_rehearseFiled 3 = .ok (.istore 4, 2) := by decide +kernel
theorem dX6_rehearseFiled_5 : decode cX6_rehearseFiled 5 = .ok (.iload 4, 2) := by decide +kernel
theorem dX6_rehearseFiled_7 : decode cX6_rehearseFiled 7 = .ok (.bipush 40, 2) := by decide +kernel
theorem dX6_rehearseFiled_9 : decode cX6_rehearseFiled 9 = .ok (.if_icmp .ge 43, 3) := by decide +kernel
theorem dX6_rehearseFiled_12 : decode cX6_rehearseFiled 12 = .ok (.iload 4, 2) := by decide +kernel
theorem dX6_rehearseFiled_14 : decode cX6_rehearseFiled 14 = .ok (.aload_n 2, 1) := by decide +kernel
theorem dX6_rehearseFiled_15 : decode cX6_rehearseFiled 15 = .ok (.arraylength, 1) := by decide +kernel
theorem dX6_rehearseFiled_16 : decode cX6_rehearseFiled 16 = .ok (.if_icmp .ge 36, 3) := by decide +kernel
theorem dX6_rehearseFiled_19 : decode cX6_rehearseFiled 19 = .ok (.aload_n 0, 1) := by decide +kernel
theorem dX6_rehearseFiled_20 : decode cX6_rehearseFiled 20 = .ok (.iload 4, 2) := by decide +kernel
theorem dX6_rehearseFiled_22 : decode cX6_rehearseFiled 22 = .ok (.aload_n 0, 1) := by decide +kernel
theorem dX6_rehearseFiled_23 : decode cX6_rehearseFiled 23 = .ok (.iload 4, 2) := by decide +kernel
theorem dX6_rehearseFiled_25 : decode cX6_rehearseFiled 25 = .ok (.iload_n 1, 1) := by decide +kernel
theorem dX6_rehearseFiled_26 : decode cX6_rehearseFiled 26 = .ok (.invokevirtual 59, 3) := by decide +kernel
theorem dX6_rehearseFiled_29 : decode cX6_rehearseFiled 29 = .ok (.iload_n 3, 1) := by decide +kernel
theorem dX6_rehearseFiled_30 : decode cX6_rehearseFiled 30 = .ok (.aload_n 0, 1) := by decide +kernel
theorem dX6_rehearseFiled_31 : decode cX6_rehearseFiled 31 = .ok (.getfield 29, 3) := by decide +kernel
theorem dX6_rehearseFiled_34 : decode cX6_rehearseFiled 34 = .ok (.iload 4, 2) := by decide +kernel
theorem dX6_rehearseFiled_36 : decode cX6_rehearseFiled 36 = .ok (.iaload, 1) := by decide +kernel
theorem dX6_rehearseFiled_37 : decode cX6_rehearseFiled 37 = .ok (.invokevirtual 63, 3) := by decide +kernel
theorem dX6_rehearseFiled_40 : decode cX6_rehearseFiled 40 = .ok (.istore_n 3, 1) := by decide +kernel
theorem dX6_rehearseFiled_41 : decode cX6_rehearseFiled 41 = .ok (.aload_n 2, 1) := by decide +kernel
theorem dX6_rehearseFiled_42 : decode cX6_rehearseFiled 42 = .ok (.iload 4, 2) := by decide +kernel
theorem dX6_rehearseFiled_44 : decode cX6_rehearseFiled 44 = .ok (.iload_n 3, 1) := by decide +kernel
theorem dX6_rehearseFiled_45 : decode cX6_rehearseFiled 45 = .ok (.iastore, 1) := by decide +kernel
theorem dX6_rehearseFiled_46 : decode cX6_rehearseFiled 46 = .ok (.iinc 4 1, 3) := by decide +kernel
theorem dX6_rehearseFiled_49 : decode cX6_rehearseFiled 49 = .ok (.goto (-44), 3) := by decide +kernel
theorem dX6_rehearseFiled_52 : decode cX6_rehearseFiled 52 = .ok (.return_, 1) := by decide +kernel
theorem dX6_leadingInto_0 : decode cX6_leadingInto 0 = .ok (.aload_n 0, 1) := by decide +kernel
theorem dX6_leadingInto_1 : decode cX6_leadingInto 1 = .ok (.iload_n 1, 1) := by decide +kernel
theorem dX6_leadingInto_2 : decode cX6_leadingInto 2 = .ok (.invokevirtual 107, 3) := by decide +kernel
theorem dX6_leadingInto_5 : decode cX6_leadingInto 5 = .ok (.istore_n 3, 1) := by decide +kernel
theorem dX6_leadingInto_6 : decode cX6_leadingInto 6 = .ok (.aload_n 0, 1) := by decide +kernel
theorem dX6_leadingInto_7 : decode cX6_leadingInto 7 = .ok (.iload_n 1, 1) := by decide +kernel
theorem dX6_leadingInto_8 : decode cX6_leadingInto 8 = .ok (.invokevirtual 110, 3) := by decide +kernel
theorem dX6_leadingInto_11 : decode cX6_leadingInto 11 = .ok (.istore 4, 2) := by decide +kernel
theorem dX6_leadingInto_13 : decode cX6_leadingInto 13 = .ok (.iconst 0, 1) := by decide +kernel
theorem dX6_leadingInto_14 : decode cX6_leadingInto 14 = .ok (.istore 5, 2) := by decide +kernel
theorem dX6_leadingInto_16 : decode cX6_leadingInto 16 = .ok (.iconst 0, 1) := by decide +kernel
theorem dX6_leadingInto_17 : decode cX6_leadingInto 17 = .ok (.istore 6, 2) := by decide +kernel
theorem dX6_leadingInto_19 : decode cX6_leadingInto 19 = .ok (.iload 6, 2) := by decide +kernel
theorem dX6_leadingInto_21 : decode cX6_leadingInto 21 = .ok (.bipush 8, 2) := by decide +kernel
theorem dX6_leadingInto_23 : decode cX6_leadingInto 23 = .ok (.if_icmp .ge 36, 3) := by decide +kernel
theorem dX6_leadingInto_26 : decode cX6_leadingInto 26 = .ok (.aload_n 0, 1) := by decide +kernel
theorem dX6_leadingInto_27 : decode cX6_leadingInto 27 = .ok (.iload_n 1, 1) := by decide +kernel
theorem dX6_leadingInto_28 : decode cX6_leadingInto 28 = .ok (.iload_n 3, 1) := by decide +kernel
theorem dX6_leadingInto_29 : decode cX6_leadingInto 29 = .ok (.iload 6, 2) := by decide +kernel
theorem dX6_leadingInto_31 : decode cX6_leadingInto 31 = .ok (.iload 4, 2) := by decide +kernel
theorem dX6_leadingInto_33 : decode cX6_leadingInto 33 = .ok (.invokevirtual 63, 3) := by decide +kernel
theorem dX6_leadingInto_36 : decode cX6_leadingInto 36 = .ok (.invokestatic 113, 3) := by decide +kernel
theorem dX6_leadingInto_39 : decode cX6_leadingInto 39 = .ok (.iload_n 2, 1) := by decide +kernel
theorem dX6_leadingInto_40 : decode cX6_leadingInto 40 = .ok (.iand, 1) := by decide +kernel
theorem dX6_leadingInto_41 : decode cX6_leadingInto 41 = .ok (.ifCond .eq 12, 3) := by decide +kernel
theorem dX6_leadingInto_44 : decode cX6_leadingInto 44 = .ok (.iload 5, 2) := by decide +kernel
theorem dX6_leadingInto_46 : decode cX6_leadingInto 46 = .ok (.iconst 1, 1) := by decide +kernel
theorem dX6_leadingInto_47 : decode cX6_leadingInto 47 = .ok (.iload 6, 2) := by decide +kernel
theorem dX6_leadingInto_49 : decode cX6_leadingInto 49 = .ok (.ishl, 1) := by decide +kernel
theorem dX6_leadingInto_50 : decode cX6_leadingInto 50 = .ok (.ior, 1) := by decide +kernel
theorem dX6_leadingInto_51 : decode cX6_leadingInto 51 = .ok (.istore 5, 2) := by decide +kernel
theorem dX6_leadingInto_53 : decode cX6_leadingInto 53 = .ok (.iinc 6 1, 3) := by decide +kernel
theorem dX6_leadingInto_56 : decode cX6_leadingInto 56 = .ok (.goto (-37), 3) := by decide +kernel
theorem dX6_leadingInto_59 : decode cX6_leadingInto 59 = .ok (.iload 5, 2) := by decide +kernel
theorem dX6_leadingInto_61 : decode cX6_leadingInto 61 = .ok (.ireturn, 1) := by decide +kernel
theorem dX7_init_0 : decode cX7_init 0 = .ok (.aload_n 0, 1) := by decide +kernel
theorem dX7_init_1 : decode cX7_init 1 = .ok (.invokespecial 1, 3) := by decide +kernel
theorem dX7_init_4 : decode cX7_init 4 = .ok (.aload_n 0, 1) := by decide +kernel
theorem dX7_init_5 : decode cX7_init 5 = .ok (.new 7, 3) := by decide +kernel
theorem dX7_init_8 : decode cX7_init 8 = .ok (.dup, 1) := by decide +kernel
theorem dX7_init_9 : decode cX7_init 9 = .ok (.iload_n 1, 1) := by decide +kernel
theorem dX7_init_10 : decode cX7_init 10 = .ok (.invokespecial 9, 3) := by decide +kernel
theorem dX7_init_13 : decode cX7_init 13 = .ok (.putfield 12, 3) := by decide +kernel
theorem dX7_init_16 : decode cX7_init 16 = .ok (.aload_n 0, 1) := by decide +kernel
theorem dX7_init_17 : decode cX7_init 17 = .ok (.new 7, 3) := by decide +kernel
theorem dX7_init_20 : decode cX7_init 20 = .ok (.dup, 1) := by decide +kernel
theorem dX7_init_21 : decode cX7_init 21 = .ok (.iload_n 1, 1) := by decide +kernel
theorem dX7_init_22 : decode cX7_init 22 = .ok (.invokespecial 9, 3) := by decide +kernel
theorem dX7_init_25 : decode cX7_init 25 = .ok (.putfield 18, 3) := by decide +kernel
theorem dX7_init_28 : decode cX7_init 28 = .ok (.return_, 1) := by decide +kernel
theorem dX7_size_0 : decode cX7_size 0 = .ok (.aload_n 0, 1) := by decide +kernel
theorem dX7_size_1 : decode cX7_size 1 = .ok (.getfield 12, 3) := by decide +kernel
theorem dX7_size_4 : decode cX7_size 4 = .ok (.invokevirtual 21, 3) := by decide +kernel
theorem dX7_size_7 : decode cX7_size 7 = .ok (.ireturn, 1) := by decide +kernel
theorem dX7_isFull_0 : decode cX7_isFull 0 = .ok (.aload_n 0, 1) := by decide +kernel
theorem dX7_isFull_1 : decode cX7_isFull 1 = .ok (.getfield 12, 3) := by decide +kernel
theorem dX7_isFull_4 : decode cX7_isFull 4 = .ok (.invokevirtual 25, 3) := by decide +kernel
theorem dX7_isFull_7 : decode cX7_isFull 7 = .ok (.ireturn, 1) := by decide +kernel
theorem dX7_stepAt_0 : decode cX7_stepAt 0 = .ok (.aload_n 0, 1) := by decide +kernel
theorem dX7_stepAt_1 : decode cX7_stepAt 1 = .ok (.getfield 12, 3) := by decide +kernel
theorem dX7_stepAt_4 : decode cX7_stepAt 4 = .ok (.iload_n 1, 1) := by decide +kernel
theorem dX7_stepAt_5 : decode cX7_stepAt 5 = .ok (.invokevirtual 29, 3) := by decide +kernel
theorem dX7_stepAt_8 : decode cX7_stepAt 8 = .ok (.ireturn, 1) := by decide +kernel
theorem dX7_valueAt_0 : decode cX7_valueAt 0 = .ok (.aload_n 0, 1) := by decide +kernel
theorem dX7_valueAt_1 : decode cX7_valueAt 1 = .ok (.getfield 18, 3) := by decide +kernel
theorem dX7_valueAt_4 : decode cX7_valueAt 4 = .ok (.iload_n 1, 1) := by decide +kernel
theorem dX7_valueAt_5 : decode cX7_valueAt 5 = .ok (.invokevirtual 29, 3) := by decide +kernel
theorem dX7_valueAt_8 : decode cX7_valueAt 8 = .ok (.ireturn, 1) := by decide +kernel
theorem dX7_add_0 : decode cX7_add 0 = .ok (.aload_n 0, 1) := by decide +kernel
theorem dX7_add_1 : decode cX7_add 1 = .ok (.getfield 12, 3) := by decide +kernel
theorem dX7_add_4 : decode cX7_add 4 = .ok (.iload_n 1, 1) := by decide +kernel
theorem dX7_add_5 : decode cX7_add 5 = .ok (.invokevirtual 33, 3) := by decide +kernel
theorem dX7_add_8 : decode cX7_add 8 = .ok (.aload_n 0, 1) := by decide +kernel
theorem dX7_add_9 : decode cX7_add 9 = .ok (.getfield 18, 3) := by decide +kernel
theorem dX7_add_12 : decode cX7_add 12 = .ok (.iload_n 2, 1) := by decide +kernel
theorem dX7_add_13 : decode cX7_add 13 = .ok (.invokevirtual 33, 3) := by decide +kernel
theorem dX7_add_16 : decode cX7_add 16 = .ok (.return_, 1) := by decide +kernel
theorem dX7_cut_0 : decode cX7_cut 0 = .ok (.aload_n 0, 1) := by decide +kernel
theorem dX7_cut_1 : decode cX7_cut 1 = .ok (.getfield 12, 3) := by decide +kernel
theorem dX7_cut_4 : decode cX7_cut 4 = .ok (.invokevirtual 36, 3) := by decide +kernel
theorem dX7_cut_7 : decode cX7_cut 7 = .ok (.aload_n 0, 1) := by decide +kernel
theorem dX7_cut_8 : decode cX7_cut 8 = .ok (.getfield 18, 3) := by decide +kernel
theorem dX7_cut_11 : decode cX7_cut 11 = .ok (.invokevirtual 36, 3) := by decide +kernel
theorem dX7_cut_14 : decode cX7_cut 14 = .ok (.return_, 1) := by decide +kernel
theorem dX7_clear_0 : decode cX7_clear 0 = .ok (.aload_n 0, 1) := by decide +kernel
theorem dX7_clear_1 : decode cX7_clear 1 = .ok (.getfield 12, 3) := by decide +kernel
theorem dX7_clear_4 : decode cX7_clear 4 = .ok (.invokevirtual 39, 3) := by decide +kernel
theorem dX7_clear_7 : decode cX7_clear 7 = .ok (.aload_n 0, 1) := by decide +kernel
theorem dX7_clear_8 : decode cX7_clear 8 = .ok (.getfield 18, 3) := by decide +kernel
theorem dX7_clear_11 : decode cX7_clear 11 = .ok (.invokevirtual 39, 3) := by decide +kernel
theorem dX7_clear_14 : decode cX7_clear 14 = .ok (.return_, 1) := by decide +kernel
theorem dX8_init_0 : decode cX8_init 0 = .ok (.aload_n 0, 1) := by decide +kernel
theorem dX8_init_1 : decode cX8_init 1 = .ok (.invokespecial 3, 3) := by decide +kernel
theorem dX8_init_4 : decode cX8_init 4 = .ok (.aload_n 0, 1) := by decide +kernel
theorem dX8_init_5 : decode cX8_init 5 = .ok (.new 9, 3) := by decide +kernel
theorem dX8_init_8 : decode cX8_init 8 = .ok (.dup, 1) := by decide +kernel
theorem dX8_init_9 : decode cX8_init 9 = .ok (.bipush 24, 2) := by decide +kernel
theorem dX8_init_11 : decode cX8_init 11 = .ok (.invokespecial 11, 3) := by decide +kernel
theorem dX8_init_14 : decode cX8_init 14 = .ok (.putfield 14, 3) := by decide +kernel
theorem dX8_init_17 : decode cX8_init 17 = .ok (.aload_n 0, 1) := by decide +kernel
theorem dX8_init_18 : decode cX8_init 18 = .ok (.new 9, 3) := by decide +kernel
theorem dX8_init_21 : decode cX8_init 21 = .ok (.dup, 1) := by decide +kernel
theorem dX8_init_22 : decode cX8_init 22 = .ok (.bipush 44, 2) := by decide +kernel
theorem dX8_init_24 : decode cX8_init 24 = .ok (.invokespecial 11, 3) := by decide +kernel
theorem dX8_init_27 : decode cX8_init 27 = .ok (.putfield 18, 3) := by decide +kernel
theorem dX8_init_30 : decode cX8_init 30 = .ok (.aload_n 0, 1) := by decide +kernel
theorem dX8_init_31 : decode cX8_init 31 = .ok (.new 21, 3) := by decide +kernel
theorem dX8_init_34 : decode cX8_init 34 = .ok (.dup, 1) := by decide +kernel
theorem dX8_init_35 : decode cX8_init 35 = .ok (.bipush 12, 2) := by decide +kernel
theorem dX8_init_37 : decode cX8_init 37 = .ok (.invokespecial 23, 3) := by decide +kernel
theorem dX8_init_40 : decode cX8_init 40 = .ok (.putfield 24, 3) := by decide +kernel
theorem dX8_init_43 : decode cX8_init 43 = .ok (.aload_n 0, 1) := by decide +kernel
theorem dX8_init_44 : decode cX8_init 44 = .ok (.new 21, 3) := by decide +kernel
theorem dX8_init_47 : decode cX8_init 47 = .ok (.dup, 1) := by decide +kernel
theorem dX8_init_48 : decode cX8_init 48 = .ok (.bipush 12, 2) := by decide +kernel
theorem dX8_init_50 : decode cX8_init 50 = .ok (.invokespecial 23, 3) := by decide +kernel
theorem dX8_init_53 : decode cX8_init 53 = .ok (.putfield 28, 3) := by decide +kernel
theorem dX8_init_56 : decode cX8_init 56 = .ok (.aload_n 0, 1) := by decide +kernel
theorem dX8_init_57 : decode cX8_init 57 = .ok (.new 21, 3) := by decide +kernel
theorem dX8_init_60 : decode cX8_init 60 = .ok (.dup, 1) := by decide +kernel
theorem dX8_init_61 : decode cX8_init 61 = .ok (.bipush 6, 2) := by decide +kernel
theorem dX8_init_63 : decode cX8_init 63 = .ok (.invokespecial 23, 3) := by decide +kernel
theorem dX8_init_66 : decode cX8_init 66 = .ok (.putfield 31, 3) := by decide +kernel
theorem dX8_init_69 : decode cX8_init 69 = .ok (.aload_n 0, 1) := by decide +kernel
theorem dX8_init_70 : decode cX8_init 70 = .ok (.new 21, 3) := by decide +kernel
theorem dX8_init_73 : decode cX8_init 73 = .ok (.dup, 1) := by decide +kernel
theorem dX8_init_74 : decode cX8_init 74 = .ok (.bipush 8, 2) := by decide +kernel
theorem dX8_init_76 : decode cX8_init 76 = .ok (.invokespecial 23, 3) := by decide +kernel
theorem dX8_init_79 : decode cX8_init 79 = .ok (.putfield 34, 3) := by decide +kernel
theorem dX8_init_82 : decode cX8_init 82 = .ok (.aload_n 0, 1) := by decide +kernel
theorem dX8_init_83 : decode cX8_init 83 = .ok (.new 37, 3) := by decide +kernel
theorem dX8_init_86 : decode cX8_init 86 = .ok (.dup, 1) := by decide +kernel
theorem dX8_init_87 : decode cX8_init 87 = .ok (.invokespecial 39, 3) := by decide +kernel
theorem dX8_init_90 : decode cX8_init 90 = .ok (.putfield 40, 3) := by decide +kernel
theorem dX8_init_93 : decode cX8_init 93 = .ok (.aload_n 0, 1) := by decide +kernel
theorem dX8_init_94 : decode cX8_init 94 = .ok (.iconst 1, 1) := by decide +kernel
theorem dX8_init_95 : decode cX8_init 95 = .ok (.putfield 44, 3) := by decide +kernel
theorem dX8_init_98 : decode cX8_init 98 = .ok (.aload_n 0, 1) := by decide +kernel
theorem dX8_init_99 : decode cX8_init 99 = .ok (.new 48, 3) := by decide +kernel
theorem dX8_init_102 : decode cX8_init 102 = .ok (.dup, 1) := by decide +kernel
theorem dX8_init_103 : decode cX8_init 103 = .ok (.invokespecial 50, 3) := by decide +kernel
theorem dX8_init_106 : decode cX8_init 106 = .ok (.putfield 51, 3) := by decide +kernel
theorem dX8_init_109 : decode cX8_init 109 = .ok (.aload_n 0, 1) := by decide +kernel
theorem dX8_init_110 : decode cX8_init 110 = .ok (.new 55, 3) := by decide +kernel
theorem dX8_init_113 : decode cX8_init 113 = .ok (.dup, 1) := by decide +kernel
theorem dX8_init_114 : decode cX8_init 114 = .ok (.invokespecial 57, 3) := by decide +kernel
theorem dX8_init_117 : decode cX8_init 117 = .ok (.putfield 58, 3) := by decide +kernel
theorem dX8_init_120 : decode cX8_init 120 = .ok (.aload_n 0, 1) := by decide +kernel
theorem dX8_init_121 : decode cX8_init 121 = .ok (.bipush 40, 2) := by decide +kernel
theorem dX8_init_123 : decode cX8_init 123 = .ok (.newarray .int, 2) := by decide +kernel
theorem dX8_init_125 : decode cX8_init 125 = .ok (.putfield 62, 3) := by decide +kernel
theorem dX8_init_128 : decode cX8_init 128 = .ok (.aload_n 0, 1) := by decide +kernel
theorem dX8_init_129 : decode cX8_init 129 = .ok (.sipush 320, 3) := by decide +kernel
theorem dX8_init_132 : decode cX8_init 132 = .ok (.newarray .int, 2) := by decide +kernel
theorem dX8_init_134 : decode cX8_init 134 = .ok (.putfield 66, 3) := by decide +kernel
theorem dX8_init_137 : decode cX8_init 137 = .ok (.aload_n 0, 1) := by decide +kernel
theorem dX8_init_138 : decode cX8_init 138 = .ok (.new 69, 3) := by decide +kernel
theorem dX8_init_141 : decode cX8_init 141 = .ok (.dup, 1) := by decide +kernel
theorem dX8_init_142 : decode cX8_init 142 = .ok (.invokespecial 71, 3) := by decide +kernel
theorem dX8_init_145 : decode cX8_init 145 = .ok (.putfield 72, 3) := by decide +kernel
theorem dX8_init_148 : decode cX8_init 148 = .ok (.aload_n 0, 1) := by decide +kernel
theorem dX8_init_149 : decode cX8_init 149 = .ok (.iconst 0, 1) := by decide +kernel
theorem dX8_init_150 : decode cX8_init 150 = .ok (.putfield 76, 3) := by decide +kernel
theorem dX8_init_153 : decode cX8_init 153 = .ok (.return_, 1) := by decide +kernel
theorem dX8_type_0 : decode cX8_type 0 = .ok (.iload_n 1, 1) := by decide +kernel
theorem dX8_type_1 : decode cX8_type 1 = .ok (.iconst 2, 1) := by decide +kernel
theorem dX8_type_2 : decode cX8_type 2 = .ok (.invokestatic 80, 3) := by decide +kernel
theorem dX8_type_5 : decode cX8_type 5 = .ok (.ifCond .eq 13, 3) := by decide +kernel
theorem dX8_type_8 : decode cX8_type 8 = .ok (.iload_n 2, 1) := by decide +kernel
theorem dX8_type_9 : decode cX8_type 9 = .ok (.sipush 256, 3) := by decide +kernel
theorem dX8_type_12 : decode cX8_type 12 = .ok (.invokestatic 80, 3) := by decide +kernel
theorem dX8_type_15 : decode cX8_type 15 = .ok (.ifCond .ne 6, 3) := by decide +kernel
theorem dX8_type_18 : decode cX8_type 18 = .ok (.bipush (-2), 2) := by decide +kernel
theorem dX8_type_20 : decode cX8_type 20 = .ok (.ireturn, 1) := by decide +kernel
theorem dX8_type_21 : decode cX8_type 21 = .ok (.aload_n 0, 1) := by decide +kernel
theorem dX8_type_22 : decode cX8_type 22 = .ok (.iload_n 1, 1) := by decide +kernel
theorem dX8_type_23 : decode cX8_type 23 = .ok (.invokevirtual 84, 3) := by decide +kernel
theorem dX8_type_26 : decode cX8_type 26 = .ok (.astore_n 3, 1) := by decide +kernel
theorem dX8_type_27 : decode cX8_type 27 = .ok (.aload_n 3, 1) := by decide +kernel
theorem dX8_type_28 : decode cX8_type 28 = .ok (.invokevirtual 88, 3) := by decide +kernel
theorem dX8_type_31 : decode cX8_type 31 = .ok (.ifCond .eq 6, 3) := by decide +kernel
theorem dX8_type_34 : decode cX8_type 34 = .ok (.bipush (-4), 2) := by decide +kernel
theorem dX8_type_36 : decode cX8_type 36 = .ok (.ireturn, 1) := by decide +kernel
theorem dX8_type_37 : decode cX8_type 37 = .ok (.aload_n 3, 1) := by decide +kernel
theorem dX8_type_38 : decode cX8_type 38 = .ok (.iload_n 2, 1) := by decide +kernel
theorem dX8_type_39 : decode cX8_type 39 = .ok (.invokevirtual 92, 3) := by decide +kernel
theorem dX8_type_42 : decode cX8_type 42 = .ok (.aload_n 0, 1) := by decide +kernel
theorem dX8_type_43 : decode cX8_type 43 = .ok (.iconst 1, 1) := by decide +kernel
theorem dX8_type_44 : decode cX8_type 44 = .ok (.putfield 44, 3) := by decide +kernel
theorem dX8_type_47 : decode cX8_type 47 = .ok (.aload_n 3, 1) := by decide +kernel
theorem dX8_type_48 : decode cX8_type 48 = .ok (.invokevirtual 95, 3) := by decide +kernel
theorem dX8_type_51 : decode cX8_type 51 = .ok (.ireturn, 1) := by decide +kernel
theorem dX8_wipe_0 : decode cX8_wipe 0 = .ok (.iload_n 1, 1) := by decide +kernel
theorem dX8_wipe_1 : decode cX8_wipe 1 = .ok (.iconst 2, 1) := by decide +kernel
theorem dX8_wipe_2 : decode cX8_wipe 2 = .ok (.invokestatic 80, 3) := by decide +kernel
theorem dX8_wipe_5 : decode cX8_wipe 5 = .ok (.ifCond .ne 6, 3) := by decide +kernel
theorem dX8_wipe_8 : decode cX8_wipe 8 = .ok (.bipush (-2), 2) := by decide +kernel
theorem dX8_wipe_10 : decode cX8_wipe 10 = .ok (.ireturn, 1) := by decide +kernel
theorem dX8_wipe_11 : decode cX8_wipe 11 = .ok (.aload_n 0, 1) := by decide +kernel
theorem dX8_wipe_12 : decode cX8_wipe 12 = .ok (.iload_n 1, 1) := by decide +kernel
theorem dX8_wipe_13 : decode cX8_wipe 13 = .ok (.invokevirtual 84, 3) := by decide +kernel
theorem dX8_wipe_16 : decode cX8_wipe 16 = .ok (.astore_n 2, 1) := by decide +kernel
theorem dX8_wipe_17 : decode cX8_wipe 17 = .ok (.aload_n 2, 1) := by decide +kernel
theorem dX8_wipe_18 : decode cX8_wipe 18 = .ok (.invokevirtual 95, 3) := by decide +kernel
theorem dX8_wipe_21 : decode cX8_wipe 21 = .ok (.istore_n 3, 1) := by decide +kernel
theorem dX8_wipe_22 : decode cX8_wipe 22 = .ok (.aload_n 2, 1) := by decide +kernel
theorem dX8_wipe_23 : decode cX8_wipe 23 = .ok (.invokevirtual 99, 3) := by decide +kernel
theorem dX8_wipe_26 : decode cX8_wipe 26 = .ok (.aload_n 0, 1) := by decide +kernel
theorem dX8_wipe_27 : decode cX8_wipe 27 = .ok (.iconst 1, 1) := by decide +kernel
theorem dX8_wipe_28 : decode cX8_wipe 28 = .ok (.putfield 44, 3) := by decide +kernel
theorem dX8_wipe_31 : decode cX8_wipe 31 = .ok (.iload_n 3, 1) := by decide +kernel
theorem dX8_wipe_32 : decode cX8_wipe 32 = .ok (.ireturn, 1) := by decide +kernel
theorem dX8_undo_0 : decode cX8_undo 0 = .ok (.iload_n 1, 1) := by decide +kernel
theorem dX8_undo_1 : decode cX8_undo 1 = .ok (.iconst 2, 1) := by decide +kernel
theorem dX8_undo_2 : decode cX8_undo 2 = .ok (.invokestatic 80, 3) := by decide +kernel
theorem dX8_undo_5 : decode cX8_undo 5 = .ok (.ifCond .ne 6, 3) := by decide +kernel
theorem dX8_undo_8 : decode cX8_undo 8 = .ok (.bipush (-2), 2) := by decide +kernel
theorem dX8_undo_10 : decode cX8_undo 10 = .ok (.ireturn, 1) := by decide +kernel
end
section
theorem dX8_undo_11 : decode cX8_undo 11 = .ok (.aload_n 0, 1) := by decide +kernel
theorem dX8_undo_12 : decode cX8_undo 12 = .ok (.iload_n 1, 1) := by decide +kernel
theorem dX8_undo_13 : decode cX8_undo 13 = .ok (.invokevirtual 84, 3) := by decide +kernel
theorem dX8_undo_16 : decode cX8_undo 16 = .ok (.astore_n 2, 1) := by decide +kernel
theorem dX8_undo_17 : decode cX8_undo 17 = .ok (.aload_n 2, 1) := by decide +kernel
theorem dX8_undo_18 : decode cX8_undo 18 = .ok (.invokevirtual 95, 3) := by decide +kernel
theorem dX8_undo_21 : decode cX8_undo 21 = .ok (.ifCond .ne 6, 3) := by decide +kernel
theorem dX8_undo_24 : decode cX8_undo 24 = .ok (.bipush (-3), 2) := by decide +kernel
theorem dX8_undo_26 : decode cX8_undo 26 = .ok (.ireturn, 1) := by decide +kernel
theorem dX8_undo_27 : decode cX8_undo 27 = .ok (.aload_n 2, 1) := by decide +kernel
theorem dX8_undo_28 : decode cX8_undo 28 = .ok (.invokevirtual 102, 3) := by decide +kernel
theorem dX8_undo_31 : decode cX8_undo 31 = .ok (.aload_n 0, 1) := by decide +kernel
theorem dX8_undo_32 : decode cX8_undo 32 = .ok (.iconst 1, 1) := by decide +kernel
theorem dX8_undo_33 : decode cX8_undo 33 = .ok (.putfield 44, 3) := by decide +kernel
theorem dX8_undo_36 : decode cX8_undo 36 = .ok (.aload_n 2, 1) := by decide +kernel
theorem dX8_undo_37 : decode cX8_undo 37 = .ok (.invokevirtual 95, 3) := by decide +kernel
theorem dX8_undo_40 : decode cX8_undo 40 = .ok (.ireturn, 1) := by decide +kernel
theorem dX8_fault_0 : decode cX8_fault 0 = .ok (.iload_n 1, 1) := by decide +kernel
theorem dX8_fault_1 : decode cX8_fault 1 = .ok (.iconst 2, 1) := by decide +kernel
theorem dX8_fault_2 : decode cX8_fault 2 = .ok (.invokestatic 80, 3) := by decide +kernel
theorem dX8_fault_5 : decode cX8_fault 5 = .ok (.ifCond .ne 6, 3) := by decide +kernel
theorem dX8_fault_8 : decode cX8_fault 8 = .ok (.bipush (-2), 2) := by decide +kernel
theorem dX8_fault_10 : decode cX8_fault 10 = .ok (.ireturn, 1) := by decide +kernel
theorem dX8_fault_11 : decode cX8_fault 11 = .ok (.aload_n 0, 1) := by decide +kernel
theorem dX8_fault_12 : decode cX8_fault 12 = .ok (.invokevirtual 105, 3) := by decide +kernel
theorem dX8_fault_15 : decode cX8_fault 15 = .ok (.astore_n 2, 1) := by decide +kernel
theorem dX8_fault_16 : decode cX8_fault 16 = .ok (.iload_n 1, 1) := by decide +kernel
theorem dX8_fault_17 : decode cX8_fault 17 = .ok (.ifCond .ne 13, 3) := by decide +kernel
theorem dX8_fault_20 : decode cX8_fault 20 = .ok (.aload_n 2, 1) := by decide +kernel
theorem dX8_fault_21 : decode cX8_fault 21 = .ok (.getfield 109, 3) := by decide +kernel
theorem dX8_fault_24 : decode cX8_fault 24 = .ok (.getfield 113, 3) := by decide +kernel
theorem dX8_fault_27 : decode cX8_fault 27 = .ok (.goto 10, 3) := by decide +kernel
theorem dX8_fault_30 : decode cX8_fault 30 = .ok (.aload_n 2, 1) := by decide +kernel
theorem dX8_fault_31 : decode cX8_fault 31 = .ok (.getfield 118, 3) := by decide +kernel
theorem dX8_fault_34 : decode cX8_fault 34 = .ok (.getfield 122, 3) := by decide +kernel
theorem dX8_fault_37 : decode cX8_fault 37 = .ok (.ireturn, 1) := by decide +kernel
theorem dX8_line_0 : decode cX8_line 0 = .ok (.iload_n 1, 1) := by decide +kernel
theorem dX8_line_1 : decode cX8_line 1 = .ok (.bipush 24, 2) := by decide +kernel
theorem dX8_line_3 : decode cX8_line 3 = .ok (.invokestatic 80, 3) := by decide +kernel
theorem dX8_line_6 : decode cX8_line 6 = .ok (.ifCond .eq 17, 3) := by decide +kernel
theorem dX8_line_9 : decode cX8_line 9 = .ok (.aload_n 0, 1) := by decide +kernel
theorem dX8_line_10 : decode cX8_line 10 = .ok (.invokevirtual 105, 3) := by decide +kernel
theorem dX8_line_13 : decode cX8_line 13 = .ok (.getfield 109, 3) := by decide +kernel
theorem dX8_line_16 : decode cX8_line 16 = .ok (.iload_n 1, 1) := by decide +kernel
theorem dX8_line_17 : decode cX8_line 17 = .ok (.invokevirtual 125, 3) := by decide +kernel
theorem dX8_line_20 : decode cX8_line 20 = .ok (.goto 5, 3) := by decide +kernel
theorem dX8_line_23 : decode cX8_line 23 = .ok (.bipush (-2), 2) := by decide +kernel
theorem dX8_line_25 : decode cX8_line 25 = .ok (.ireturn, 1) := by decide +kernel
theorem dX8_hole_0 : decode cX8_hole 0 = .ok (.aload_n 0, 1) := by decide +kernel
theorem dX8_hole_1 : decode cX8_hole 1 = .ok (.invokevirtual 105, 3) := by decide +kernel
theorem dX8_hole_4 : decode cX8_hole 4 = .ok (.getfield 118, 3) := by decide +kernel
theorem dX8_hole_7 : decode cX8_hole 7 = .ok (.astore_n 3, 1) := by decide +kernel
theorem dX8_hole_8 : decode cX8_hole 8 = .ok (.iload_n 1, 1) := by decide +kernel
theorem dX8_hole_9 : decode cX8_hole 9 = .ok (.aload_n 3, 1) := by decide +kernel
theorem dX8_hole_10 : decode cX8_hole 10 = .ok (.getfield 129, 3) := by decide +kernel
theorem dX8_hole_13 : decode cX8_hole 13 = .ok (.invokestatic 80, 3) := by decide +kernel
theorem dX8_hole_16 : decode cX8_hole 16 = .ok (.ifCond .eq 11, 3) := by decide +kernel
theorem dX8_hole_19 : decode cX8_hole 19 = .ok (.iload_n 2, 1) := by decide +kernel
theorem dX8_hole_20 : decode cX8_hole 20 = .ok (.iconst 4, 1) := by decide +kernel
theorem dX8_hole_21 : decode cX8_hole 21 = .ok (.invokestatic 80, 3) := by decide +kernel
theorem dX8_hole_24 : decode cX8_hole 24 = .ok (.ifCond .ne 6, 3) := by decide +kernel
theorem dX8_hole_27 : decode cX8_hole 27 = .ok (.bipush (-2), 2) := by decide +kernel
theorem dX8_hole_29 : decode cX8_hole 29 = .ok (.ireturn, 1) := by decide +kernel
theorem dX8_hole_30 : decode cX8_hole 30 = .ok (.iload_n 2, 1) := by decide +kernel
theorem dX8_hole_31 : decode cX8_hole 31 = .ok (.tableswitch 43 0 2 #[25, 31, 37], 25) := by decide +kernel
theorem dX8_hole_56 : decode cX8_hole 56 = .ok (.aload_n 3, 1) := by decide +kernel
theorem dX8_hole_57 : decode cX8_hole 57 = .ok (.iload_n 1, 1) := by decide +kernel
theorem dX8_hole_58 : decode cX8_hole 58 = .ok (.invokevirtual 131, 3) := by decide +kernel
theorem dX8_hole_61 : decode cX8_hole 61 = .ok (.ireturn, 1) := by decide +kernel
theorem dX8_hole_62 : decode cX8_hole 62 = .ok (.aload_n 3, 1) := by decide +kernel
theorem dX8_hole_63 : decode cX8_hole 63 = .ok (.iload_n 1, 1) := by decide +kernel
theorem dX8_hole_64 : decode cX8_hole 64 = .ok (.invokevirtual 134, 3) := by decide +kernel
theorem dX8_hole_67 : decode cX8_hole 67 = .ok (.ireturn, 1) := by decide +kernel
theorem dX8_hole_68 : decode cX8_hole 68 = .ok (.aload_n 3, 1) := by decide +kernel
theorem dX8_hole_69 : decode cX8_hole 69 = .ok (.iload_n 1, 1) := by decide +kernel
theorem dX8_hole_70 : decode cX8_hole 70 = .ok (.invokevirtual 137, 3) := by decide +kernel
theorem dX8_hole_73 : decode cX8_hole 73 = .ok (.ireturn, 1) := by decide +kernel
theorem dX8_hole_74 : decode cX8_hole 74 = .ok (.aload_n 3, 1) := by decide +kernel
theorem dX8_hole_75 : decode cX8_hole 75 = .ok (.iload_n 1, 1) := by decide +kernel
theorem dX8_hole_76 : decode cX8_hole 76 = .ok (.invokevirtual 140, 3) := by decide +kernel
theorem dX8_hole_79 : decode cX8_hole 79 = .ok (.ireturn, 1) := by decide +kernel
theorem dX8_printed_0 : decode cX8_printed 0 = .ok (.iload_n 1, 1) := by decide +kernel
theorem dX8_printed_1 : decode cX8_printed 1 = .ok (.bipush 8, 2) := by decide +kernel
theorem dX8_printed_3 : decode cX8_printed 3 = .ok (.invokestatic 80, 3) := by decide +kernel
theorem dX8_printed_6 : decode cX8_printed 6 = .ok (.ifCond .eq 11, 3) := by decide +kernel
theorem dX8_printed_9 : decode cX8_printed 9 = .ok (.iload_n 2, 1) := by decide +kernel
theorem dX8_printed_10 : decode cX8_printed 10 = .ok (.iconst 2, 1) := by decide +kernel
theorem dX8_printed_11 : decode cX8_printed 11 = .ok (.invokestatic 80, 3) := by decide +kernel
theorem dX8_printed_14 : decode cX8_printed 14 = .ok (.ifCond .ne 6, 3) := by decide +kernel
theorem dX8_printed_17 : decode cX8_printed 17 = .ok (.bipush (-2), 2) := by decide +kernel
theorem dX8_printed_19 : decode cX8_printed 19 = .ok (.ireturn, 1) := by decide +kernel
theorem dX8_printed_20 : decode cX8_printed 20 = .ok (.aload_n 0, 1) := by decide +kernel
theorem dX8_printed_21 : decode cX8_printed 21 = .ok (.invokevirtual 105, 3) := by decide +kernel
theorem dX8_printed_24 : decode cX8_printed 24 = .ok (.getfield 109, 3) := by decide +kernel
theorem dX8_printed_27 : decode cX8_printed 27 = .ok (.astore_n 3, 1) := by decide +kernel
theorem dX8_printed_28 : decode cX8_printed 28 = .ok (.iload_n 2, 1) := by decide +kernel
theorem dX8_printed_29 : decode cX8_printed 29 = .ok (.ifCond .ne 11, 3) := by decide +kernel
theorem dX8_printed_32 : decode cX8_printed 32 = .ok (.aload_n 3, 1) := by decide +kernel
theorem dX8_printed_33 : decode cX8_printed 33 = .ok (.iload_n 1, 1) := by decide +kernel
theorem dX8_printed_34 : decode cX8_printed 34 = .ok (.invokevirtual 143, 3) := by decide +kernel
theorem dX8_printed_37 : decode cX8_printed 37 = .ok (.goto 8, 3) := by decide +kernel
theorem dX8_printed_40 : decode cX8_printed 40 = .ok (.aload_n 3, 1) := by decide +kernel
theorem dX8_printed_41 : decode cX8_printed 41 = .ok (.iload_n 1, 1) := by decide +kernel
theorem dX8_printed_42 : decode cX8_printed 42 = .ok (.invokevirtual 146, 3) := by decide +kernel
theorem dX8_printed_45 : decode cX8_printed 45 = .ok (.ireturn, 1) := by decide +kernel
theorem dX8_move_0 : decode cX8_move 0 = .ok (.iload_n 1, 1) := by decide +kernel
theorem dX8_move_1 : decode cX8_move 1 = .ok (.bipush 40, 2) := by decide +kernel
theorem dX8_move_3 : decode cX8_move 3 = .ok (.invokestatic 80, 3) := by decide +kernel
theorem dX8_move_6 : decode cX8_move 6 = .ok (.ifCond .eq 12, 3) := by decide +kernel
theorem dX8_move_9 : decode cX8_move 9 = .ok (.iload_n 2, 1) := by decide +kernel
theorem dX8_move_10 : decode cX8_move 10 = .ok (.bipush 10, 2) := by decide +kernel
theorem dX8_move_12 : decode cX8_move 12 = .ok (.invokestatic 80, 3) := by decide +kernel
theorem dX8_move_15 : decode cX8_move 15 = .ok (.ifCond .ne 6, 3) := by decide +kernel
theorem dX8_move_18 : decode cX8_move 18 = .ok (.bipush (-2), 2) := by decide +kernel
theorem dX8_move_20 : decode cX8_move 20 = .ok (.ireturn, 1) := by decide +kernel
theorem dX8_move_21 : decode cX8_move 21 = .ok (.aload_n 0, 1) := by decide +kernel
theorem dX8_move_22 : decode cX8_move 22 = .ok (.iconst 1, 1) := by decide +kernel
theorem dX8_move_23 : decode cX8_move 23 = .ok (.putfield 44, 3) := by decide +kernel
theorem dX8_move_26 : decode cX8_move 26 = .ok (.aload_n 0, 1) := by decide +kernel
theorem dX8_move_27 : decode cX8_move 27 = .ok (.getfield 24, 3) := by decide +kernel
theorem dX8_move_30 : decode cX8_move 30 = .ok (.iload_n 1, 1) := by decide +kernel
theorem dX8_move_31 : decode cX8_move 31 = .ok (.iload_n 2, 1) := by decide +kernel
theorem dX8_move_32 : decode cX8_move 32 = .ok (.invokestatic 149, 3) := by decide +kernel
theorem dX8_move_35 : decode cX8_move 35 = .ok (.ireturn, 1) := by decide +kernel
theorem dX8_cough_0 : decode cX8_cough 0 = .ok (.iload_n 1, 1) := by decide +kernel
theorem dX8_cough_1 : decode cX8_cough 1 = .ok (.bipush 40, 2) := by decide +kernel
theorem dX8_cough_3 : decode cX8_cough 3 = .ok (.invokestatic 80, 3) := by decide +kernel
theorem dX8_cough_6 : decode cX8_cough 6 = .ok (.ifCond .eq 12, 3) := by decide +kernel
theorem dX8_cough_9 : decode cX8_cough 9 = .ok (.iload_n 2, 1) := by decide +kernel
theorem dX8_cough_10 : decode cX8_cough 10 = .ok (.bipush 9, 2) := by decide +kernel
theorem dX8_cough_12 : decode cX8_cough 12 = .ok (.invokestatic 80, 3) := by decide +kernel
theorem dX8_cough_15 : decode cX8_cough 15 = .ok (.ifCond .ne 6, 3) := by decide +kernel
theorem dX8_cough_18 : decode cX8_cough 18 = .ok (.bipush (-2), 2) := by decide +kernel
theorem dX8_cough_20 : decode cX8_cough 20 = .ok (.ireturn, 1) := by decide +kernel
theorem dX8_cough_21 : decode cX8_cough 21 = .ok (.aload_n 0, 1) := by decide +kernel
theorem dX8_cough_22 : decode cX8_cough 22 = .ok (.iconst 1, 1) := by decide +kernel
theorem dX8_cough_23 : decode cX8_cough 23 = .ok (.putfield 44, 3) := by decide +kernel
theorem dX8_cough_26 : decode cX8_cough 26 = .ok (.aload_n 0, 1) := by decide +kernel
theorem dX8_cough_27 : decode cX8_cough 27 = .ok (.getfield 28, 3) := by decide +kernel
theorem dX8_cough_30 : decode cX8_cough 30 = .ok (.iload_n 1, 1) := by decide +kernel
theorem dX8_cough_31 : decode cX8_cough 31 = .ok (.iload_n 2, 1) := by decide +kernel
theorem dX8_cough_32 : decode cX8_cough 32 = .ok (.invokestatic 149, 3) := by decide +kernel
theorem dX8_cough_35 : decode cX8_cough 35 = .ok (.ireturn, 1) := by decide +kernel
theorem dX8_dark_0 : decode cX8_dark 0 = .ok (.iload_n 1, 1) := by decide +kernel
theorem dX8_dark_1 : decode cX8_dark 1 = .ok (.bipush 40, 2) := by decide +kernel
theorem dX8_dark_3 : decode cX8_dark 3 = .ok (.invokestatic 80, 3) := by decide +kernel
theorem dX8_dark_6 : decode cX8_dark 6 = .ok (.ifCond .ne 6, 3) := by decide +kernel
theorem dX8_dark_9 : decode cX8_dark 9 = .ok (.bipush (-2), 2) := by decide +kernel
theorem dX8_dark_11 : decode cX8_dark 11 = .ok (.ireturn, 1) := by decide +kernel
theorem dX8_dark_12 : decode cX8_dark 12 = .ok (.aload_n 0, 1) := by decide +kernel
theorem dX8_dark_13 : decode cX8_dark 13 = .ok (.iconst 1, 1) := by decide +kernel
theorem dX8_dark_14 : decode cX8_dark 14 = .ok (.putfield 44, 3) := by decide +kernel
theorem dX8_dark_17 : decode cX8_dark 17 = .ok (.aload_n 0, 1) := by decide +kernel
theorem dX8_dark_18 : decode cX8_dark 18 = .ok (.getfield 31, 3) := by decide +kernel
theorem dX8_dark_21 : decode cX8_dark 21 = .ok (.iload_n 1, 1) := by decide +kernel
theorem dX8_dark_22 : decode cX8_dark 22 = .ok (.iconst 0, 1) := by decide +kernel
theorem dX8_dark_23 : decode cX8_dark 23 = .ok (.invokestatic 149, 3) := by decide +kernel
theorem dX8_dark_26 : decode cX8_dark 26 = .ok (.ireturn, 1) := by decide +kernel
theorem dX8_back_0 : decode cX8_back 0 = .ok (.iload_n 1, 1) := by decide +kernel
theorem dX8_back_1 : decode cX8_back 1 = .ok (.iconst 3, 1) := by decide +kernel
theorem dX8_back_2 : decode cX8_back 2 = .ok (.invokestatic 80, 3) := by decide +kernel
theorem dX8_back_5 : decode cX8_back 5 = .ok (.ifCond .ne 6, 3) := by decide +kernel
theorem dX8_back_8 : decode cX8_back 8 = .ok (.bipush (-2), 2) := by decide +kernel
theorem dX8_back_10 : decode cX8_back 10 = .ok (.ireturn, 1) := by decide +kernel
theorem dX8_back_11 : decode cX8_back 11 = .ok (.iload_n 1, 1) := by decide +kernel
theorem dX8_back_12 : decode cX8_back 12 = .ok (.ifCond .ne 10, 3) := by decide +kernel
theorem dX8_back_15 : decode cX8_back 15 = .ok (.aload_n 0, 1) := by decide +kernel
theorem dX8_back_16 : decode cX8_back 16 = .ok (.getfield 24, 3) := by decide +kernel
theorem dX8_back_19 : decode cX8_back 19 = .ok (.goto 19, 3) := by decide +kernel
theorem dX8_back_22 : decode cX8_back 22 = .ok (.iload_n 1, 1) := by decide +kernel
theorem dX8_back_23 : decode cX8_back 23 = .ok (.iconst 1, 1) := by decide +kernel
theorem dX8_back_24 : decode cX8_back 24 = .ok (.if_icmp .ne 10, 3) := by decide +kernel
theorem dX8_back_27 : decode cX8_back 27 = .ok (.aload_n 0, 1) := by decide +kernel
theorem dX8_back_28 : decode cX8_back 28 = .ok (.getfield 28, 3) := by decide +kernel
theorem dX8_back_31 : decode cX8_back 31 = .ok (.goto 7, 3) := by decide +kernel
theorem dX8_back_34 : decode cX8_back 34 = .ok (.aload_n 0, 1) := by decide +kernel
theorem dX8_back_35 : decode cX8_back 35 = .ok (.getfield 31, 3) := by decide +kernel
theorem dX8_back_38 : decode cX8_back 38 = .ok (.astore_n 2, 1) := by decide +kernel
theorem dX8_back_39 : decode cX8_back 39 = .ok (.aload_n 2, 1) := by decide +kernel
theorem dX8_back_40 : decode cX8_back 40 = .ok (.invokevirtual 153, 3) := by decide +kernel
theorem dX8_back_43 : decode cX8_back 43 = .ok (.ifCond .ne 6, 3) := by decide +kernel
theorem dX8_back_46 : decode cX8_back 46 = .ok (.bipush (-3), 2) := by decide +kernel
theorem dX8_back_48 : decode cX8_back 48 = .ok (.ireturn, 1) := by decide +kernel
theorem dX8_back_49 : decode cX8_back 49 = .ok (.aload_n 2, 1) := by decide +kernel
theorem dX8_back_50 : decode cX8_back 50 = .ok (.invokevirtual 154, 3) := by decide +kernel
theorem dX8_back_53 : decode cX8_back 53 = .ok (.aload_n 0, 1) := by decide +kernel
theorem dX8_back_54 : decode cX8_back 54 = .ok (.iconst 1, 1) := by decide +kernel
theorem dX8_back_55 : decode cX8_back 55 = .ok (.putfield 44, 3) := by decide +kernel
theorem dX8_back_58 : decode cX8_back 58 = .ok (.aload_n 2, 1) := by decide +kernel
theorem dX8_back_59 : decode cX8_back 59 = .ok (.invokevirtual 153, 3) := by decide +kernel
theorem dX8_back_62 : decode cX8_back 62 = .ok (.ireturn, 1) := by decide +kernel
theorem dX8_read_0 : decode cX8_read 0 = .ok (.iload_n 1, 1) := by decide +kernel
theorem dX8_read_1 : decode cX8_read 1 = .ok (.iconst 4, 1) := by decide +kernel
theorem dX8_read_2 : decode cX8_read 2 = .ok (.invokestatic 80, 3) := by decide +kernel
theorem dX8_read_5 : decode cX8_read 5 = .ok (.ifCond .ne 6, 3) := by decide +kernel
theorem dX8_read_8 : decode cX8_read 8 = .ok (.bipush (-2), 2) := by decide +kernel
theorem dX8_read_10 : decode cX8_read 10 = .ok (.ireturn, 1) := by decide +kernel
theorem dX8_read_11 : decode cX8_read 11 = .ok (.aload_n 0, 1) := by decide +kernel
theorem dX8_read_12 : decode cX8_read 12 = .ok (.getfield 72, 3) := by decide +kernel
theorem dX8_read_15 : decode cX8_read 15 = .ok (.iload_n 1, 1) := by decide +kernel
theorem dX8_read_16 : decode cX8_read 16 = .ok (.invokevirtual 155, 3) := by decide +kernel
theorem dX8_read_19 : decode cX8_read 19 = .ok (.ifCond .eq 9, 3) := by decide +kernel
theorem dX8_read_22 : decode cX8_read 22 = .ok (.aload_n 0, 1) := by decide +kernel
theorem dX8_read_23 : decode cX8_read 23 = .ok (.iconst 1, 1) := by decide +kernel
theorem dX8_read_24 : decode cX8_read 24 = .ok (.invokevirtual 159, 3) := by decide +kernel
theorem dX8_read_27 : decode cX8_read 27 = .ok (.ireturn, 1) := by decide +kernel
theorem dX8_read_28 : decode cX8_read 28 = .ok (.iconst 0, 1) := by decide +kernel
theorem dX8_read_29 : decode cX8_read 29 = .ok (.istore_n 2, 1) := by decide +kernel
theorem dX8_read_30 : decode cX8_read 30 = .ok (.iconst 0, 1) := by decide +kernel
theorem dX8_read_31 : decode cX8_read 31 = .ok (.istore_n 3, 1) := by decide +kernel
theorem dX8_read_32 : decode cX8_read 32 = .ok (.iload_n 3, 1) := by decide +kernel
theorem dX8_read_33 : decode cX8_read 33 = .ok (.iconst 1, 1) := by decide +kernel
theorem dX8_read_34 : decode cX8_read 34 = .ok (.iadd, 1) := by decide +kernel
theorem dX8_read_35 : decode cX8_read 35 = .ok (.aload_n 0, 1) := by decide +kernel
theorem dX8_read_36 : decode cX8_read 36 = .ok (.getfield 72, 3) := by decide +kernel
theorem dX8_read_39 : decode cX8_read 39 = .ok (.iload_n 1, 1) := by decide +kernel
theorem dX8_read_40 : decode cX8_read 40 = .ok (.invokevirtual 162, 3) := by decide +kernel
theorem dX8_read_43 : decode cX8_read 43 = .ok (.if_icmp .ge 42, 3) := by decide +kernel
theorem dX8_read_46 : decode cX8_read 46 = .ok (.aload_n 0, 1) := by decide +kernel
theorem dX8_read_47 : decode cX8_read 47 = .ok (.aload_n 0, 1) := by decide +kernel
theorem dX8_read_48 : decode cX8_read 48 = .ok (.getfield 72, 3) := by decide +kernel
theorem dX8_read_51 : decode cX8_read 51 = .ok (.iload_n 1, 1) := by decide +kernel
theorem dX8_read_52 : decode cX8_read 52 = .ok (.iload_n 3, 1) := by decide +kernel
theorem dX8_read_53 : decode cX8_read 53 = .ok (.invokevirtual 165, 3) := by decide +kernel
theorem dX8_read_56 : decode cX8_read 56 = .ok (.aload_n 0, 1) := by decide +kernel
theorem dX8_read_57 : decode cX8_read 57 = .ok (.getfield 72, 3) := by decide +kernel
theorem dX8_read_60 : decode cX8_read 60 = .ok (.iload_n 1, 1) := by decide +kernel
theorem dX8_read_61 : decode cX8_read 61 = .ok (.iload_n 3, 1) := by decide +kernel
theorem dX8_read_62 : decode cX8_read 62 = .ok (.iconst 1, 1) := by decide +kernel
theorem dX8_read_63 : decode cX8_read 63 = .ok (.iadd, 1) := by decide +kernel
theorem dX8_read_64 : decode cX8_read 64 = .ok (.invokevirtual 165, 3) := by decide +kernel
theorem dX8_read_67 : decode cX8_read 67 = .ok (.invokevirtual 169, 3) := by decide +kernel
theorem dX8_read_70 : decode cX8_read 70 = .ok (.ifCond .ge 6, 3) := by decide +kernel
theorem dX8_read_73 : decode cX8_read 73 = .ok (.goto 12, 3) := by decide +kernel
theorem dX8_read_76 : decode cX8_read 76 = .ok (.iinc 2 1, 3) := by decide +kernel
theorem dX8_read_79 : decode cX8_read 79 = .ok (.iinc 3 2, 3) := by decide +kernel
theorem dX8_read_82 : decode cX8_read 82 = .ok (.goto (-50), 3) := by decide +kernel
theorem dX8_read_85 : decode cX8_read 85 = .ok (.iload_n 2, 1) := by decide +kernel
theorem dX8_read_86 : decode cX8_read 86 = .ok (.ireturn, 1) := by decide +kernel
theorem dX8_step_0 : decode cX8_step 0 = .ok (.iload_n 1, 1) := by decide +kernel
theorem dX8_step_1 : decode cX8_step 1 = .ok (.bipush 40, 2) := by decide +kernel
theorem dX8_step_3 : decode cX8_step 3 = .ok (.invokestatic 80, 3) := by decide +kernel
theorem dX8_step_6 : decode cX8_step 6 = .ok (.ifCond .eq 11, 3) := by decide +kernel
theorem dX8_step_9 : decode cX8_step 9 = .ok (.iload_n 2, 1) := by decide +kernel
theorem dX8_step_10 : decode cX8_step 10 = .ok (.iconst 4, 1) := by decide +kernel
theorem dX8_step_11 : decode cX8_step 11 = .ok (.invokestatic 80, 3) := by decide +kernel
theorem dX8_step_14 : decode cX8_step 14 = .ok (.ifCond .ne 6, 3) := by decide +kernel
theorem dX8_step_17 : decode cX8_step 17 = .ok (.bipush (-2), 2) := by decide +kernel
theorem dX8_step_19 : decode cX8_step 19 = .ok (.ireturn, 1) := by decide +kernel
theorem dX8_step_20 : decode cX8_step 20 = .ok (.aload_n 0, 1) := by decide +kernel
theorem dX8_step_21 : decode cX8_step 21 = .ok (.invokevirtual 105, 3) := by decide +kernel
theorem dX8_step_24 : decode cX8_step 24 = .ok (.astore_n 3, 1) := by decide +kernel
theorem dX8_step_25 : decode cX8_step 25 = .ok (.iload_n 2, 1) := by decide +kernel
theorem dX8_step_26 : decode cX8_step 26 = .ok (.tableswitch 44 0 2 #[26, 32, 38], 26) := by decide +kernel
theorem dX8_step_52 : decode cX8_step 52 = .ok (.aload_n 3, 1) := by decide +kernel
theorem dX8_step_53 : decode cX8_step 53 = .ok (.iload_n 1, 1) := by decide +kernel
theorem dX8_step_54 : decode cX8_step 54 = .ok (.invokevirtual 172, 3) := by decide +kernel
theorem dX8_step_57 : decode cX8_step 57 = .ok (.ireturn, 1) := by decide +kernel
theorem dX8_step_58 : decode cX8_step 58 = .ok (.aload_n 3, 1) := by decide +kernel
theorem dX8_step_59 : decode cX8_step 59 = .ok (.iload_n 1, 1) := by decide +kernel
theorem dX8_step_60 : decode cX8_step 60 = .ok (.invokevirtual 175, 3) := by decide +kernel
theorem dX8_step_63 : decode cX8_step 63 = .ok (.ireturn, 1) := by decide +kernel
theorem dX8_step_64 : decode cX8_step 64 = .ok (.aload_n 3, 1) := by decide +kernel
theorem dX8_step_65 : decode cX8_step 65 = .ok (.iload_n 1, 1) := by decide +kernel
theorem dX8_step_66 : decode cX8_step 66 = .ok (.invokevirtual 178, 3) := by decide +kernel
theorem dX8_step_69 : decode cX8_step 69 = .ok (.ireturn, 1) := by decide +kernel
theorem dX8_step_70 : decode cX8_step 70 = .ok (.aload_n 3, 1) := by decide +kernel
theorem dX8_step_71 : decode cX8_step 71 = .ok (.getfield 109, 3) := by decide +kernel
theorem dX8_step_74 : decode cX8_step 74 = .ok (.iload_n 1, 1) := by decide +kernel
theorem dX8_step_75 : decode cX8_step 75 = .ok (.invokevirtual 181, 3) := by decide +kernel
theorem dX8_step_78 : decode cX8_step 78 = .ok (.ireturn, 1) := by decide +kernel
theorem dX8_whispers_0 : decode cX8_whispers 0 = .ok (.aload_n 0, 1) := by decide +kernel
theorem dX8_whispers_1 : decode cX8_whispers 1 = .ok (.invokevirtual 105, 3) := by decide +kernel
theorem dX8_whispers_4 : decode cX8_whispers 4 = .ok (.astore_n 3, 1) := by decide +kernel
theorem dX8_whispers_5 : decode cX8_whispers 5 = .ok (.iload_n 1, 1) := by decide +kernel
theorem dX8_whispers_6 : decode cX8_whispers 6 = .ok (.bipush 40, 2) := by decide +kernel
theorem dX8_whispers_8 : decode cX8_whispers 8 = .ok (.invokestatic 80, 3) := by decide +kernel
theorem dX8_whispers_11 : decode cX8_whispers 11 = .ok (.ifCond .eq 17, 3) := by decide +kernel
theorem dX8_whispers_14 : decode cX8_whispers 14 = .ok (.iload_n 2, 1) := by decide +kernel
theorem dX8_whispers_15 : decode cX8_whispers 15 = .ok (.aload_n 3, 1) := by decide +kernel
theorem dX8_whispers_16 : decode cX8_whispers 16 = .ok (.getfield 118, 3) := by decide +kernel
theorem dX8_whispers_19 : decode cX8_whispers 19 = .ok (.getfield 129, 3) := by decide +kernel
theorem dX8_whispers_22 : decode cX8_whispers 22 = .ok (.invokestatic 80, 3) := by decide +kernel
theorem dX8_whispers_25 : decode cX8_whispers 25 = .ok (.ifCond .ne 6, 3) := by decide +kernel
theorem dX8_whispers_28 : decode cX8_whispers 28 = .ok (.bipush (-2), 2) := by decide +kernel
theorem dX8_whispers_30 : decode cX8_whispers 30 = .ok (.ireturn, 1) := by decide +kernel
theorem dX8_whispers_31 : decode cX8_whispers 31 = .ok (.aload_n 3, 1) := by decide +kernel
theorem dX8_whispers_32 : decode cX8_whispers 32 = .ok (.iload_n 2, 1) := by decide +kernel
theorem dX8_whispers_33 : decode cX8_whispers 33 = .ok (.iload_n 1, 1) := by decide +kernel
theorem dX8_whispers_34 : decode cX8_whispers 34 = .ok (.iconst 0, 1) := by decide +kernel
theorem dX8_whispers_35 : decode cX8_whispers 35 = .ok (.invokevirtual 184, 3) := by decide +kernel
theorem dX8_whispers_38 : decode cX8_whispers 38 = .ok (.ifCond .ne 5, 3) := by decide +kernel
theorem dX8_whispers_41 : decode cX8_whispers 41 = .ok (.iconst (-1), 1) := by decide +kernel
theorem dX8_whispers_42 : decode cX8_whispers 42 = .ok (.ireturn, 1) := by decide +kernel
theorem dX8_whispers_43 : decode cX8_whispers 43 = .ok (.aload_n 3, 1) := by decide +kernel
theorem dX8_whispers_44 : decode cX8_whispers 44 = .ok (.iload_n 2, 1) := by decide +kernel
theorem dX8_whispers_45 : decode cX8_whispers 45 = .ok (.aload_n 3, 1) := by decide +kernel
theorem dX8_whispers_46 : decode cX8_whispers 46 = .ok (.iload_n 1, 1) := by decide +kernel
theorem dX8_whispers_47 : decode cX8_whispers 47 = .ok (.iconst 1, 1) := by decide +kernel
theorem dX8_whispers_48 : decode cX8_whispers 48 = .ok (.isub, 1) := by decide +kernel
theorem dX8_whispers_49 : decode cX8_whispers 49 = .ok (.invokevirtual 172, 3) := by decide +kernel
theorem dX8_whispers_52 : decode cX8_whispers 52 = .ok (.aload_n 3, 1) := by decide +kernel
theorem dX8_whispers_53 : decode cX8_whispers 53 = .ok (.iload_n 1, 1) := by decide +kernel
theorem dX8_whispers_54 : decode cX8_whispers 54 = .ok (.invokevirtual 188, 3) := by decide +kernel
theorem dX8_whispers_57 : decode cX8_whispers 57 = .ok (.invokevirtual 191, 3) := by decide +kernel
theorem dX8_whispers_60 : decode cX8_whispers 60 = .ok (.ireturn, 1) := by decide +kernel
theorem dX8_drift_0 : decode cX8_drift 0 = .ok (.iload_n 1, 1) := by decide +kernel
theorem dX8_drift_1 : decode cX8_drift 1 = .ok (.iconst 2, 1) := by decide +kernel
theorem dX8_drift_2 : decode cX8_drift 2 = .ok (.invokestatic 80, 3) := by decide +kernel
theorem dX8_drift_5 : decode cX8_drift 5 = .ok (.ifCond .ne 6, 3) := by decide +kernel
theorem dX8_drift_8 : decode cX8_drift 8 = .ok (.bipush (-2), 2) := by decide +kernel
theorem dX8_drift_10 : decode cX8_drift 10 = .ok (.ireturn, 1) := by decide +kernel
theorem dX8_drift_11 : decode cX8_drift 11 = .ok (.aload_n 0, 1) := by decide +kernel
theorem dX8_drift_12 : decode cX8_drift 12 = .ok (.invokevirtual 105, 3) := by decide +kernel
theorem dX8_drift_15 : decode cX8_drift 15 = .ok (.astore_n 2, 1) := by decide +kernel
theorem dX8_drift_16 : decode cX8_drift 16 = .ok (.iconst (-1), 1) := by decide +kernel
theorem dX8_drift_17 : decode cX8_drift 17 = .ok (.istore_n 3, 1) := by decide +kernel
theorem dX8_drift_18 : decode cX8_drift 18 = .ok (.iconst 0, 1) := by decide +kernel
theorem dX8_drift_19 : decode cX8_drift 19 = .ok (.istore 4, 2) := by decide +kernel
theorem dX8_drift_21 : decode cX8_drift 21 = .ok (.bipush 39, 2) := by decide +kernel
theorem dX8_drift_23 : decode cX8_drift 23 = .ok (.istore 5, 2) := by decide +kernel
theorem dX8_drift_25 : decode cX8_drift 25 = .ok (.iload 5, 2) := by decide +kernel
theorem dX8_drift_27 : decode cX8_drift 27 = .ok (.ifCond .lt 33, 3) := by decide +kernel
theorem dX8_drift_30 : decode cX8_drift 30 = .ok (.aload_n 2, 1) := by decide +kernel
theorem dX8_drift_31 : decode cX8_drift 31 = .ok (.iload 5, 2) := by decide +kernel
theorem dX8_drift_33 : decode cX8_drift 33 = .ok (.invokevirtual 172, 3) := by decide +kernel
theorem dX8_drift_36 : decode cX8_drift 36 = .ok (.aload_n 2, 1) := by decide +kernel
theorem dX8_drift_37 : decode cX8_drift 37 = .ok (.getfield 109, 3) := by decide +kernel
theorem dX8_drift_40 : decode cX8_drift 40 = .ok (.iload 5, 2) := by decide +kernel
theorem dX8_drift_42 : decode cX8_drift 42 = .ok (.invokevirtual 181, 3) := by decide +kernel
theorem dX8_drift_45 : decode cX8_drift 45 = .ok (.if_icmp .eq 9, 3) := by decide +kernel
theorem dX8_drift_48 : decode cX8_drift 48 = .ok (.iload 5, 2) := by decide +kernel
theorem dX8_drift_50 : decode cX8_drift 50 = .ok (.istore_n 3, 1) := by decide +kernel
theorem dX8_drift_51 : decode cX8_drift 51 = .ok (.iinc 4 1, 3) := by decide +kernel
theorem dX8_drift_54 : decode cX8_drift 54 = .ok (.iinc 5 (-1), 3) := by decide +kernel
theorem dX8_drift_57 : decode cX8_drift 57 = .ok (.goto (-32), 3) := by decide +kernel
theorem dX8_drift_60 : decode cX8_drift 60 = .ok (.iload 4, 2) := by decide +kernel
theorem dX8_drift_62 : decode cX8_drift 62 = .ok (.ifCond .ne 7, 3) := by decide +kernel
theorem dX8_drift_65 : decode cX8_drift 65 = .ok (.iconst (-1), 1) := by decide +kernel
theorem dX8_drift_66 : decode cX8_drift 66 = .ok (.goto 13, 3) := by decide +kernel
theorem dX8_drift_69 : decode cX8_drift 69 = .ok (.iload_n 1, 1) := by decide +kernel
theorem dX8_drift_70 : decode cX8_drift 70 = .ok (.ifCond .ne 7, 3) := by decide +kernel
theorem dX8_drift_73 : decode cX8_drift 73 = .ok (.iload_n 3, 1) := by decide +kernel
theorem dX8_drift_74 : decode cX8_drift 74 = .ok (.goto 5, 3) := by decide +kernel
theorem dX8_drift_77 : decode cX8_drift 77 = .ok (.iload 4, 2) := by decide +kernel
theorem dX8_drift_79 : decode cX8_drift 79 = .ok (.ireturn, 1) := by decide +kernel
theorem dX8_round_0 : decode cX8_round 0 = .ok (.aload_n 0, 1) := by decide +kernel
theorem dX8_round_1 : decode cX8_round 1 = .ok (.invokevirtual 105, 3) := by decide +kernel
theorem dX8_round_4 : decode cX8_round 4 = .ok (.astore_n 1, 1) := by decide +kernel
theorem dX8_round_5 : decode cX8_round 5 = .ok (.iconst 1, 1) := by decide +kernel
theorem dX8_round_6 : decode cX8_round 6 = .ok (.istore_n 2, 1) := by decide +kernel
theorem dX8_round_7 : decode cX8_round 7 = .ok (.iload_n 2, 1) := by decide +kernel
theorem dX8_round_8 : decode cX8_round 8 = .ok (.bipush 12, 2) := by decide +kernel
theorem dX8_round_10 : decode cX8_round 10 = .ok (.if_icmp .gt 19, 3) := by decide +kernel
theorem dX8_round_13 : decode cX8_round 13 = .ok (.aload_n 1, 1) := by decide +kernel
theorem dX8_round_14 : decode cX8_round 14 = .ok (.iload_n 2, 1) := by decide +kernel
theorem dX8_round_15 : decode cX8_round 15 = .ok (.invokestatic 195, 3) := by decide +kernel
theorem dX8_round_18 : decode cX8_round 18 = .ok (.ifCond .eq 5, 3) := by decide +kernel
theorem dX8_round_21 : decode cX8_round 21 = .ok (.iload_n 2, 1) := by decide +kernel
theorem dX8_round_22 : decode cX8_round 22 = .ok (.ireturn, 1) := by decide +kernel
theorem dX8_round_23 : decode cX8_round 23 = .ok (.iinc 2 1, 3) := by decide +kernel
theorem dX8_round_26 : decode cX8_round 26 = .ok (.goto (-19), 3) := by decide +kernel
theorem dX8_round_29 : decode cX8_round 29 = .ok (.iconst (-1), 1) := by decide +kernel
theorem dX8_round_30 : decode cX8_round 30 = .ok (.ireturn, 1) := by decide +kernel
theorem dX8_often_0 : decode cX8_often 0 = .ok (.iload_n 1, 1) := by decide +kernel
theorem dX8_often_1 : decode cX8_often 1 = .ok (.bipush 8, 2) := by decide +kernel
theorem dX8_often_3 : decode cX8_often 3 = .ok (.invokestatic 80, 3) := by decide +kernel
theorem dX8_often_6 : decode cX8_often 6 = .ok (.ifCond .eq 11, 3) := by decide +kernel
theorem dX8_often_9 : decode cX8_often 9 = .ok (.iload_n 2, 1) := by decide +kernel
theorem dX8_often_10 : decode cX8_often 10 = .ok (.iconst 2, 1) := by decide +kernel
theorem dX8_often_11 : decode cX8_often 11 = .ok (.invokestatic 80, 3) := by decide +kernel
theorem dX8_often_14 : decode cX8_often 14 = .ok (.ifCond .ne 6, 3) := by decide +kernel
theorem dX8_often_17 : decode cX8_often 17 = .ok (.bipush (-2), 2) := by decide +kernel
theorem dX8_often_19 : decode cX8_often 19 = .ok (.ireturn, 1) := by decide +kernel
theorem dX8_often_20 : decode cX8_often 20 = .ok (.aload_n 0, 1) := by decide +kernel
theorem dX8_often_21 : decode cX8_often 21 = .ok (.invokevirtual 105, 3) := by decide +kernel
theorem dX8_often_24 : decode cX8_often 24 = .ok (.astore_n 3, 1) := by decide +kernel
theorem dX8_often_25 : decode cX8_often 25 = .ok (.iconst 0, 1) := by decide +kernel
theorem dX8_often_26 : decode cX8_often 26 = .ok (.istore 4, 2) := by decide +kernel
theorem dX8_often_28 : decode cX8_often 28 = .ok (.iconst (-1), 1) := by decide +kernel
theorem dX8_often_29 : decode cX8_often 29 = .ok (.istore 5, 2) := by decide +kernel
theorem dX8_often_31 : decode cX8_often 31 = .ok (.iconst 0, 1) := by decide +kernel
theorem dX8_often_32 : decode cX8_often 32 = .ok (.istore 6, 2) := by decide +kernel
theorem dX8_often_34 : decode cX8_often 34 = .ok (.iload 6, 2) := by decide +kernel
theorem dX8_often_36 : decode cX8_often 36 = .ok (.bipush 40, 2) := by decide +kernel
theorem dX8_often_38 : decode cX8_often 38 = .ok (.if_icmp .ge 26, 3) := by decide +kernel
theorem dX8_often_41 : decode cX8_often 41 = .ok (.aload_n 3, 1) := by decide +kernel
theorem dX8_often_42 : decode cX8_often 42 = .ok (.iload 6, 2) := by decide +kernel
theorem dX8_often_44 : decode cX8_often 44 = .ok (.invokevirtual 172, 3) := by decide +kernel
theorem dX8_often_47 : decode cX8_often 47 = .ok (.iload_n 1, 1) := by decide +kernel
theorem dX8_often_48 : decode cX8_often 48 = .ok (.if_icmp .ne 10, 3) := by decide +kernel
theorem dX8_often_51 : decode cX8_often 51 = .ok (.iinc 4 1, 3) := by decide +kernel
theorem dX8_often_54 : decode cX8_often 54 = .ok (.iload 6, 2) := by decide +kernel
theorem dX8_often_56 : decode cX8_often 56 = .ok (.istore 5, 2) := by decide +kernel
theorem dX8_often_58 : decode cX8_often 58 = .ok (.iinc 6 1, 3) := by decide +kernel
theorem dX8_often_61 : decode cX8_often 61 = .ok (.goto (-27), 3) := by decide +kernel
theorem dX8_often_64 : decode cX8_often 64 = .ok (.iload_n 2, 1) := by decide +kernel
theorem dX8_often_65 : decode cX8_often 65 = .ok (.ifCond .ne 8, 3) := by decide +kernel
theorem dX8_often_68 : decode cX8_often 68 = .ok (.iload 4, 2) := by decide +kernel
theorem dX8_often_70 : decode cX8_often 70 = .ok (.goto 5, 3) := by decide +kernel
theorem dX8_often_73 : decode cX8_often 73 = .ok (.iload 5, 2) := by decide +kernel
theorem dX8_often_75 : decode cX8_often 75 = .ok (.ireturn, 1) := by decide +kernel
theorem dX8_may_0 : decode cX8_may 0 = .ok (.iload_n 1, 1) := by decide +kernel
theorem dX8_may_1 : decode cX8_may 1 = .ok (.bipush 40, 2) := by decide +kernel
theorem dX8_may_3 : decode cX8_may 3 = .ok (.invokestatic 80, 3) := by decide +kernel
theorem dX8_may_6 : decode cX8_may 6 = .ok (.ifCond .eq 12, 3) := by decide +kernel
theorem dX8_may_9 : decode cX8_may 9 = .ok (.iload_n 2, 1) := by decide +kernel
theorem dX8_may_10 : decode cX8_may 10 = .ok (.bipush 40, 2) := by decide +kernel
theorem dX8_may_12 : decode cX8_may 12 = .ok (.invokestatic 80, 3) := by decide +kernel
theorem dX8_may_15 : decode cX8_may 15 = .ok (.ifCond .ne 6, 3) := by decide +kernel
theorem dX8_may_18 : decode cX8_may 18 = .ok (.bipush (-2), 2) := by decide +kernel
theorem dX8_may_20 : decode cX8_may 20 = .ok (.ireturn, 1) := by decide +kernel
theorem dX8_may_21 : decode cX8_may 21 = .ok (.aload_n 0, 1) := by decide +kernel
theorem dX8_may_22 : decode cX8_may 22 = .ok (.invokevirtual 105, 3) := by decide +kernel
theorem dX8_may_25 : decode cX8_may 25 = .ok (.astore_n 3, 1) := by decide +kernel
theorem dX8_may_26 : decode cX8_may 26 = .ok (.aload_n 3, 1) := by decide +kernel
theorem dX8_may_27 : decode cX8_may 27 = .ok (.iload_n 1, 1) := by decide +kernel
theorem dX8_may_28 : decode cX8_may 28 = .ok (.sipush 511, 3) := by decide +kernel
theorem dX8_may_31 : decode cX8_may 31 = .ok (.aload_n 0, 1) := by decide +kernel
theorem dX8_may_32 : decode cX8_may 32 = .ok (.getfield 62, 3) := by decide +kernel
theorem dX8_may_35 : decode cX8_may 35 = .ok (.invokevirtual 199, 3) := by decide +kernel
theorem dX8_may_38 : decode cX8_may 38 = .ok (.aload_n 3, 1) := by decide +kernel
theorem dX8_may_39 : decode cX8_may 39 = .ok (.iload_n 2, 1) := by decide +kernel
theorem dX8_may_40 : decode cX8_may 40 = .ok (.invokevirtual 172, 3) := by decide +kernel
theorem dX8_may_43 : decode cX8_may 43 = .ok (.invokestatic 203, 3) := by decide +kernel
theorem dX8_may_46 : decode cX8_may 46 = .ok (.aload_n 0, 1) := by decide +kernel
theorem dX8_may_47 : decode cX8_may 47 = .ok (.getfield 62, 3) := by decide +kernel
theorem dX8_may_50 : decode cX8_may 50 = .ok (.iload_n 2, 1) := by decide +kernel
theorem dX8_may_51 : decode cX8_may 51 = .ok (.iaload, 1) := by decide +kernel
theorem dX8_may_52 : decode cX8_may 52 = .ok (.invokestatic 203, 3) := by decide +kernel
theorem dX8_may_55 : decode cX8_may 55 = .ok (.ior, 1) := by decide +kernel
theorem dX8_may_56 : decode cX8_may 56 = .ok (.ireturn, 1) := by decide +kernel
theorem dX8_prompt_0 : decode cX8_prompt 0 = .ok (.iload_n 1, 1) := by decide +kernel
theorem dX8_prompt_1 : decode cX8_prompt 1 = .ok (.iconst 1, 1) := by decide +kernel
theorem dX8_prompt_2 : decode cX8_prompt 2 = .ok (.if_icmp .lt 17, 3) := by decide +kernel
theorem dX8_prompt_5 : decode cX8_prompt 5 = .ok (.iload_n 2, 1) := by decide +kernel
theorem dX8_prompt_6 : decode cX8_prompt 6 = .ok (.bipush 40, 2) := by decide +kernel
theorem dX8_prompt_8 : decode cX8_prompt 8 = .ok (.invokestatic 80, 3) := by decide +kernel
theorem dX8_prompt_11 : decode cX8_prompt 11 = .ok (.ifCond .eq 8, 3) := by decide +kernel
theorem dX8_prompt_14 : decode cX8_prompt 14 = .ok (.iload_n 1, 1) := by decide +kernel
theorem dX8_prompt_15 : decode cX8_prompt 15 = .ok (.iload_n 2, 1) := by decide +kernel
theorem dX8_prompt_16 : decode cX8_prompt 16 = .ok (.if_icmp .lt 6, 3) := by decide +kernel
theorem dX8_prompt_19 : decode cX8_prompt 19 = .ok (.bipush (-2), 2) := by decide +kernel
theorem dX8_prompt_21 : decode cX8_prompt 21 = .ok (.ireturn, 1) := by decide +kernel
theorem dX8_prompt_22 : decode cX8_prompt 22 = .ok (.iload_n 3, 1) := by decide +kernel
theorem dX8_prompt_23 : decode cX8_prompt 23 = .ok (.bipush 8, 2) := by decide +kernel
theorem dX8_prompt_25 : decode cX8_prompt 25 = .ok (.invokestatic 80, 3) := by decide +kernel
theorem dX8_prompt_28 : decode cX8_prompt 28 = .ok (.ifCond .eq 12, 3) := by decide +kernel
theorem dX8_prompt_31 : decode cX8_prompt 31 = .ok (.iload 4, 2) := by decide +kernel
theorem dX8_prompt_33 : decode cX8_prompt 33 = .ok (.iconst 3, 1) := by decide +kernel
theorem dX8_prompt_34 : decode cX8_prompt 34 = .ok (.invokestatic 80, 3) := by decide +kernel
theorem dX8_prompt_37 : decode cX8_prompt 37 = .ok (.ifCond .ne 6, 3) := by decide +kernel
theorem dX8_prompt_40 : decode cX8_prompt 40 = .ok (.bipush (-2), 2) := by decide +kernel
theorem dX8_prompt_42 : decode cX8_prompt 42 = .ok (.ireturn, 1) := by decide +kernel
theorem dX8_prompt_43 : decode cX8_prompt 43 = .ok (.aload_n 0, 1) := by decide +kernel
theorem dX8_prompt_44 : decode cX8_prompt 44 = .ok (.invokevirtual 105, 3) := by decide +kernel
theorem dX8_prompt_47 : decode cX8_prompt 47 = .ok (.astore 5, 2) := by decide +kernel
theorem dX8_prompt_49 : decode cX8_prompt 49 = .ok (.iconst (-1), 1) := by decide +kernel
theorem dX8_prompt_50 : decode cX8_prompt 50 = .ok (.istore 6, 2) := by decide +kernel
theorem dX8_prompt_52 : decode cX8_prompt 52 = .ok (.iconst (-1), 1) := by decide +kernel
theorem dX8_prompt_53 : decode cX8_prompt 53 = .ok (.istore 7, 2) := by decide +kernel
theorem dX8_prompt_55 : decode cX8_prompt 55 = .ok (.iconst 0, 1) := by decide +kernel
theorem dX8_prompt_56 : decode cX8_prompt 56 = .ok (.istore 8, 2) := by decide +kernel
theorem dX8_prompt_58 : decode cX8_prompt 58 = .ok (.iload_n 3, 1) := by decide +kernel
theorem dX8_prompt_59 : decode cX8_prompt 59 = .ok (.invokestatic 203, 3) := by decide +kernel
theorem dX8_prompt_62 : decode cX8_prompt 62 = .ok (.istore 9, 2) := by decide +kernel
theorem dX8_prompt_64 : decode cX8_prompt 64 = .ok (.iload_n 2, 1) := by decide +kernel
theorem dX8_prompt_65 : decode cX8_prompt 65 = .ok (.iconst 1, 1) := by decide +kernel
theorem dX8_prompt_66 : decode cX8_prompt 66 = .ok (.isub, 1) := by decide +kernel
theorem dX8_prompt_67 : decode cX8_prompt 67 = .ok (.istore 10, 2) := by decide +kernel
theorem dX8_prompt_69 : decode cX8_prompt 69 = .ok (.iload 10, 2) := by decide +kernel
theorem dX8_prompt_71 : decode cX8_prompt 71 = .ok (.iload_n 1, 1) := by decide +kernel
theorem dX8_prompt_72 : decode cX8_prompt 72 = .ok (.if_icmp .lt 59, 3) := by decide +kernel
theorem dX8_prompt_75 : decode cX8_prompt 75 = .ok (.aload 5, 2) := by decide +kernel
theorem dX8_prompt_77 : decode cX8_prompt 77 = .ok (.iload 10, 2) := by decide +kernel
theorem dX8_prompt_79 : decode cX8_prompt 79 = .ok (.iconst 1, 1) := by decide +kernel
theorem dX8_prompt_80 : decode cX8_prompt 80 = .ok (.iadd, 1) := by decide +kernel
theorem dX8_prompt_81 : decode cX8_prompt 81 = .ok (.iload 9, 2) := by decide +kernel
theorem dX8_prompt_83 : decode cX8_prompt 83 = .ok (.invokevirtual 206, 3) := by decide +kernel
theorem dX8_prompt_86 : decode cX8_prompt 86 = .ok (.istore 9, 2) := by decide +kernel
theorem dX8_prompt_88 : decode cX8_prompt 88 = .ok (.iload 9, 2) := by decide +kernel
theorem dX8_prompt_90 : decode cX8_prompt 90 = .ok (.ifCond .eq 35, 3) := by decide +kernel
theorem dX8_prompt_93 : decode cX8_prompt 93 = .ok (.bipush 8, 2) := by decide +kernel
theorem dX8_prompt_95 : decode cX8_prompt 95 = .ok (.iload 10, 2) := by decide +kernel
theorem dX8_prompt_97 : decode cX8_prompt 97 = .ok (.imul, 1) := by decide +kernel
theorem dX8_prompt_98 : decode cX8_prompt 98 = .ok (.iload 9, 2) := by decide +kernel
theorem dX8_prompt_100 : decode cX8_prompt 100 = .ok (.invokestatic 209, 3) := by decide +kernel
theorem dX8_prompt_103 : decode cX8_prompt 103 = .ok (.iadd, 1) := by decide +kernel
theorem dX8_prompt_104 : decode cX8_prompt 104 = .ok (.istore 6, 2) := by decide +kernel
theorem dX8_prompt_106 : decode cX8_prompt 106 = .ok (.iload 7, 2) := by decide +kernel
theorem dX8_prompt_108 : decode cX8_prompt 108 = .ok (.iload 10, 2) := by decide +kernel
theorem dX8_prompt_110 : decode cX8_prompt 110 = .ok (.invokestatic 212, 3) := by decide +kernel
theorem dX8_prompt_113 : decode cX8_prompt 113 = .ok (.istore 7, 2) := by decide +kernel
theorem dX8_prompt_115 : decode cX8_prompt 115 = .ok (.iload 8, 2) := by decide +kernel
theorem dX8_prompt_117 : decode cX8_prompt 117 = .ok (.iload 9, 2) := by decide +kernel
theorem dX8_prompt_119 : decode cX8_prompt 119 = .ok (.invokestatic 217, 3) := by decide +kernel
theorem dX8_prompt_122 : decode cX8_prompt 122 = .ok (.iadd, 1) := by decide +kernel
theorem dX8_prompt_123 : decode cX8_prompt 123 = .ok (.istore 8, 2) := by decide +kernel
theorem dX8_prompt_125 : decode cX8_prompt 125 = .ok (.iinc 10 (-1), 3) := by decide +kernel
theorem dX8_prompt_128 : decode cX8_prompt 128 = .ok (.goto (-59), 3) := by decide +kernel
theorem dX8_prompt_131 : decode cX8_prompt 131 = .ok (.iload 4, 2) := by decide +kernel
theorem dX8_prompt_133 : decode cX8_prompt 133 = .ok (.ifCond .ne 8, 3) := by decide +kernel
theorem dX8_prompt_136 : decode cX8_prompt 136 = .ok (.iload 6, 2) := by decide +kernel
theorem dX8_prompt_138 : decode cX8_prompt 138 = .ok (.goto 16, 3) := by decide +kernel
theorem dX8_prompt_141 : decode cX8_prompt 141 = .ok (.iload 4, 2) := by decide +kernel
theorem dX8_prompt_143 : decode cX8_prompt 143 = .ok (.iconst 1, 1) := by decide +kernel
theorem dX8_prompt_144 : decode cX8_prompt 144 = .ok (.if_icmp .ne 8, 3) := by decide +kernel
theorem dX8_prompt_147 : decode cX8_prompt 147 = .ok (.iload 7, 2) := by decide +kernel
theorem dX8_prompt_149 : decode cX8_prompt 149 = .ok (.goto 5, 3) := by decide +kernel
theorem dX8_prompt_152 : decode cX8_prompt 152 = .ok (.iload 8, 2) := by decide +kernel
theorem dX8_prompt_154 : decode cX8_prompt 154 = .ok (.ireturn, 1) := by decide +kernel
theorem dX8_seen_0 : decode cX8_seen 0 = .ok (.iload_n 1, 1) := by decide +kernel
theorem dX8_seen_1 : decode cX8_seen 1 = .ok (.bipush 40, 2) := by decide +kernel
theorem dX8_seen_3 : decode cX8_seen 3 = .ok (.invokestatic 80, 3) := by decide +kernel
theorem dX8_seen_6 : decode cX8_seen 6 = .ok (.ifCond .eq 12, 3) := by decide +kernel
theorem dX8_seen_9 : decode cX8_seen 9 = .ok (.iload_n 2, 1) := by decide +kernel
theorem dX8_seen_10 : decode cX8_seen 10 = .ok (.bipush 8, 2) := by decide +kernel
theorem dX8_seen_12 : decode cX8_seen 12 = .ok (.invokestatic 80, 3) := by decide +kernel
theorem dX8_seen_15 : decode cX8_seen 15 = .ok (.ifCond .ne 6, 3) := by decide +kernel
theorem dX8_seen_18 : decode cX8_seen 18 = .ok (.bipush (-2), 2) := by decide +kernel
theorem dX8_seen_20 : decode cX8_seen 20 = .ok (.ireturn, 1) := by decide +kernel
theorem dX8_seen_21 : decode cX8_seen 21 = .ok (.aload_n 0, 1) := by decide +kernel
theorem dX8_seen_22 : decode cX8_seen 22 = .ok (.getfield 34, 3) := by decide +kernel
theorem dX8_seen_25 : decode cX8_seen 25 = .ok (.iload_n 1, 1) := by decide +kernel
theorem dX8_seen_26 : decode cX8_seen 26 = .ok (.iload_n 2, 1) := by decide +kernel
theorem dX8_seen_27 : decode cX8_seen 27 = .ok (.invokestatic 149, 3) := by decide +kernel
theorem dX8_seen_30 : decode cX8_seen 30 = .ok (.ireturn, 1) := by decide +kernel
theorem dX8_forget_0 : decode cX8_forget 0 = .ok (.aload_n 0, 1) := by decide +kernel
theorem dX8_forget_1 : decode cX8_forget 1 = .ok (.getfield 34, 3) := by decide +kernel
theorem dX8_forget_4 : decode cX8_forget 4 = .ok (.invokevirtual 153, 3) := by decide +kernel
theorem dX8_forget_7 : decode cX8_forget 7 = .ok (.istore_n 1, 1) := by decide +kernel
theorem dX8_forget_8 : decode cX8_forget 8 = .ok (.aload_n 0, 1) := by decide +kernel
theorem dX8_forget_9 : decode cX8_forget 9 = .ok (.getfield 34, 3) := by decide +kernel
theorem dX8_forget_12 : decode cX8_forget 12 = .ok (.invokevirtual 222, 3) := by decide +kernel
theorem dX8_forget_15 : decode cX8_forget 15 = .ok (.iload_n 1, 1) := by decide +kernel
theorem dX8_forget_16 : decode cX8_forget 16 = .ok (.ireturn, 1) := by decide +kernel
theorem dX8_filed_0 : decode cX8_filed 0 = .ok (.aload_n 0, 1) := by decide +kernel
theorem dX8_filed_1 : decode cX8_filed 1 = .ok (.invokevirtual 105, 3) := by decide +kernel
theorem dX8_filed_4 : decode cX8_filed 4 = .ok (.astore_n 1, 1) := by decide +kernel
theorem dX8_filed_5 : decode cX8_filed 5 = .ok (.iconst 0, 1) := by decide +kernel
theorem dX8_filed_6 : decode cX8_filed 6 = .ok (.istore_n 2, 1) := by decide +kernel
theorem dX8_filed_7 : decode cX8_filed 7 = .ok (.iconst 0, 1) := by decide +kernel
theorem dX8_filed_8 : decode cX8_filed 8 = .ok (.istore_n 3, 1) := by decide +kernel
theorem dX8_filed_9 : decode cX8_filed 9 = .ok (.iload_n 3, 1) := by decide +kernel
theorem dX8_filed_10 : decode cX8_filed 10 = .ok (.aload_n 1, 1) := by decide +kernel
theorem dX8_filed_11 : decode cX8_filed 11 = .ok (.getfield 118, 3) := by decide +kernel
theorem dX8_filed_14 : decode cX8_filed 14 = .ok (.getfield 129, 3) := by decide +kernel
theorem dX8_filed_17 : decode cX8_filed 17 = .ok (.if_icmp .ge 35, 3) := by decide +kernel
theorem dX8_filed_20 : decode cX8_filed 20 = .ok (.aload_n 1, 1) := by decide +kernel
theorem dX8_filed_21 : decode cX8_filed 21 = .ok (.iload_n 3, 1) := by decide +kernel
theorem dX8_filed_22 : decode cX8_filed 22 = .ok (.aload_n 0, 1) := by decide +kernel
theorem dX8_filed_23 : decode cX8_filed 23 = .ok (.getfield 62, 3) := by decide +kernel
theorem dX8_filed_26 : decode cX8_filed 26 = .ok (.invokevirtual 223, 3) := by decide +kernel
theorem dX8_filed_29 : decode cX8_filed 29 = .ok (.aload_n 0, 1) := by decide +kernel
theorem dX8_filed_30 : decode cX8_filed 30 = .ok (.aload_n 0, 1) := by decide +kernel
theorem dX8_filed_31 : decode cX8_filed 31 = .ok (.getfield 62, 3) := by decide +kernel
theorem dX8_filed_34 : decode cX8_filed 34 = .ok (.invokevirtual 227, 3) := by decide +kernel
theorem dX8_filed_37 : decode cX8_filed 37 = .ok (.ifCond .eq 9, 3) := by decide +kernel
theorem dX8_filed_40 : decode cX8_filed 40 = .ok (.iload_n 2, 1) := by decide +kernel
theorem dX8_filed_41 : decode cX8_filed 41 = .ok (.iconst 1, 1) := by decide +kernel
theorem dX8_filed_42 : decode cX8_filed 42 = .ok (.iload_n 3, 1) := by decide +kernel
theorem dX8_filed_43 : decode cX8_filed 43 = .ok (.ishl, 1) := by decide +kernel
theorem dX8_filed_44 : decode cX8_filed 44 = .ok (.ior, 1) := by decide +kernel
theorem dX8_filed_45 : decode cX8_filed 45 = .ok (.istore_n 2, 1) := by decide +kernel
theorem dX8_filed_46 : decode cX8_filed 46 = .ok (.iinc 3 1, 3) := by decide +kernel
theorem dX8_filed_49 : decode cX8_filed 49 = .ok (.goto (-40), 3) := by decide +kernel
theorem dX8_filed_52 : decode cX8_filed 52 = .ok (.iload_n 2, 1) := by decide +kernel
theorem dX8_filed_53 : decode cX8_filed 53 = .ok (.ireturn, 1) := by decide +kernel
theorem dX8_coughed_0 : decode cX8_coughed 0 = .ok (.aload_n 0, 1) := by decide +kernel
theorem dX8_coughed_1 : decode cX8_coughed 1 = .ok (.invokevirtual 105, 3) := by decide +kernel
theorem dX8_coughed_4 : decode cX8_coughed 4 = .ok (.astore_n 2, 1) := by decide +kernel
theorem dX8_coughed_5 : decode cX8_coughed 5 = .ok (.iload_n 1, 1) := by decide +kernel
theorem dX8_coughed_6 : decode cX8_coughed 6 = .ok (.aload_n 2, 1) := by decide +kernel
theorem dX8_coughed_7 : decode cX8_coughed 7 = .ok (.getfield 118, 3) := by decide +kernel
theorem dX8_coughed_10 : decode cX8_coughed 10 = .ok (.getfield 129, 3) := by decide +kernel
theorem dX8_coughed_13 : decode cX8_coughed 13 = .ok (.invokestatic 80, 3) := by decide +kernel
theorem dX8_coughed_16 : decode cX8_coughed 16 = .ok (.ifCond .ne 6, 3) := by decide +kernel
theorem dX8_coughed_19 : decode cX8_coughed 19 = .ok (.bipush (-2), 2) := by decide +kernel
theorem dX8_coughed_21 : decode cX8_coughed 21 = .ok (.ireturn, 1) := by decide +kernel
theorem dX8_coughed_22 : decode cX8_coughed 22 = .ok (.iconst 0, 1) := by decide +kernel
theorem dX8_coughed_23 : decode cX8_coughed 23 = .ok (.istore_n 3, 1) := by decide +kernel
theorem dX8_coughed_24 : decode cX8_coughed 24 = .ok (.iconst 0, 1) := by decide +kernel
theorem dX8_coughed_25 : decode cX8_coughed 25 = .ok (.istore 4, 2) := by decide +kernel
theorem dX8_coughed_27 : decode cX8_coughed 27 = .ok (.iload 4, 2) := by decide +kernel
theorem dX8_coughed_29 : decode cX8_coughed 29 = .ok (.bipush 31, 2) := by decide +kernel
theorem dX8_coughed_31 : decode cX8_coughed 31 = .ok (.if_icmp .ge 40, 3) := by decide +kernel
theorem dX8_coughed_34 : decode cX8_coughed 34 = .ok (.aload_n 2, 1) := by decide +kernel
theorem dX8_coughed_35 : decode cX8_coughed 35 = .ok (.iload 4, 2) := by decide +kernel
theorem dX8_coughed_37 : decode cX8_coughed 37 = .ok (.iconst 1, 1) := by decide +kernel
theorem dX8_coughed_38 : decode cX8_coughed 38 = .ok (.iload_n 1, 1) := by decide +kernel
theorem dX8_coughed_39 : decode cX8_coughed 39 = .ok (.ishl, 1) := by decide +kernel
theorem dX8_coughed_40 : decode cX8_coughed 40 = .ok (.aload_n 0, 1) := by decide +kernel
theorem dX8_coughed_41 : decode cX8_coughed 41 = .ok (.getfield 62, 3) := by decide +kernel
theorem dX8_coughed_44 : decode cX8_coughed 44 = .ok (.invokevirtual 199, 3) := by decide +kernel
theorem dX8_coughed_47 : decode cX8_coughed 47 = .ok (.aload_n 0, 1) := by decide +kernel
theorem dX8_coughed_48 : decode cX8_coughed 48 = .ok (.aload_n 0, 1) := by decide +kernel
theorem dX8_coughed_49 : decode cX8_coughed 49 = .ok (.getfield 62, 3) := by decide +kernel
theorem dX8_coughed_52 : decode cX8_coughed 52 = .ok (.invokevirtual 227, 3) := by decide +kernel
theorem dX8_coughed_55 : decode cX8_coughed 55 = .ok (.ifCond .eq 10, 3) := by decide +kernel
theorem dX8_coughed_58 : decode cX8_coughed 58 = .ok (.iload_n 3, 1) := by decide +kernel
theorem dX8_coughed_59 : decode cX8_coughed 59 = .ok (.iconst 1, 1) := by decide +kernel
theorem dX8_coughed_60 : decode cX8_coughed 60 = .ok (.iload 4, 2) := by decide +kernel
theorem dX8_coughed_62 : decode cX8_coughed 62 = .ok (.ishl, 1) := by decide +kernel
theorem dX8_coughed_63 : decode cX8_coughed 63 = .ok (.ior, 1) := by decide +kernel
theorem dX8_coughed_64 : decode cX8_coughed 64 = .ok (.istore_n 3, 1) := by decide +kernel
theorem dX8_coughed_65 : decode cX8_coughed 65 = .ok (.iinc 4 1, 3) := by decide +kernel
theorem dX8_coughed_68 : decode cX8_coughed 68 = .ok (.goto (-41), 3) := by decide +kernel
theorem dX8_coughed_71 : decode cX8_coughed 71 = .ok (.iload_n 3, 1) := by decide +kernel
theorem dX8_coughed_72 : decode cX8_coughed 72 = .ok (.ireturn, 1) := by decide +kernel
theorem dX8_ask_0 : decode cX8_ask 0 = .ok (.aload_n 0, 1) := by decide +kernel
theorem dX8_ask_1 : decode cX8_ask 1 = .ok (.invokevirtual 105, 3) := by decide +kernel
theorem dX8_ask_4 : decode cX8_ask 4 = .ok (.astore_n 2, 1) := by decide +kernel
theorem dX8_ask_5 : decode cX8_ask 5 = .ok (.iload_n 1, 1) := by decide +kernel
theorem dX8_ask_6 : decode cX8_ask 6 = .ok (.aload_n 2, 1) := by decide +kernel
theorem dX8_ask_7 : decode cX8_ask 7 = .ok (.getfield 118, 3) := by decide +kernel
theorem dX8_ask_10 : decode cX8_ask 10 = .ok (.getfield 129, 3) := by decide +kernel
theorem dX8_ask_13 : decode cX8_ask 13 = .ok (.invokestatic 80, 3) := by decide +kernel
theorem dX8_ask_16 : decode cX8_ask 16 = .ok (.ifCond .ne 6, 3) := by decide +kernel
theorem dX8_ask_19 : decode cX8_ask 19 = .ok (.bipush (-2), 2) := by decide +kernel
theorem dX8_ask_21 : decode cX8_ask 21 = .ok (.ireturn, 1) := by decide +kernel
theorem dX8_ask_22 : decode cX8_ask 22 = .ok (.iconst 0, 1) := by decide +kernel
theorem dX8_ask_23 : decode cX8_ask 23 = .ok (.istore_n 3, 1) := by decide +kernel
theorem dX8_ask_24 : decode cX8_ask 24 = .ok (.iload_n 3, 1) := by decide +kernel
theorem dX8_ask_25 : decode cX8_ask 25 = .ok (.aload_n 0, 1) := by decide +kernel
theorem dX8_ask_26 : decode cX8_ask 26 = .ok (.getfield 66, 3) := by decide +kernel
theorem dX8_ask_29 : decode cX8_ask 29 = .ok (.arraylength, 1) := by decide +kernel
theorem dX8_ask_30 : decode cX8_ask 30 = .ok (.if_icmp .ge 16, 3) := by decide +kernel
theorem dX8_ask_33 : decode cX8_ask 33 = .ok (.aload_n 0, 1) := by decide +kernel
theorem dX8_ask_34 : decode cX8_ask 34 = .ok (.getfield 66, 3) := by decide +kernel
theorem dX8_ask_37 : decode cX8_ask 37 = .ok (.iload_n 3, 1) := by decide +kernel
theorem dX8_ask_38 : decode cX8_ask 38 = .ok (.iconst 0, 1) := by decide +kernel
theorem dX8_ask_39 : decode cX8_ask 39 = .ok (.iastore, 1) := by decide +kernel
theorem dX8_ask_40 : decode cX8_ask 40 = .ok (.iinc 3 1, 3) := by decide +kernel
theorem dX8_ask_43 : decode cX8_ask 43 = .ok (.goto (-19), 3) := by decide +kernel
theorem dX8_ask_46 : decode cX8_ask 46 = .ok (.iconst 0, 1) := by decide +kernel
theorem dX8_ask_47 : decode cX8_ask 47 = .ok (.istore_n 3, 1) := by decide +kernel
theorem dX8_ask_48 : decode cX8_ask 48 = .ok (.iload_n 3, 1) := by decide +kernel
theorem dX8_ask_49 : decode cX8_ask 49 = .ok (.bipush 31, 2) := by decide +kernel
theorem dX8_ask_51 : decode cX8_ask 51 = .ok (.if_icmp .ge 36, 3) := by decide +kernel
theorem dX8_ask_54 : decode cX8_ask 54 = .ok (.aload_n 2, 1) := by decide +kernel
theorem dX8_ask_55 : decode cX8_ask 55 = .ok (.iload_n 3, 1) := by decide +kernel
theorem dX8_ask_56 : decode cX8_ask 56 = .ok (.iconst 1, 1) := by decide +kernel
theorem dX8_ask_57 : decode cX8_ask 57 = .ok (.iload_n 1, 1) := by decide +kernel
theorem dX8_ask_58 : decode cX8_ask 58 = .ok (.ishl, 1) := by decide +kernel
theorem dX8_ask_59 : decode cX8_ask 59 = .ok (.aload_n 0, 1) := by decide +kernel
theorem dX8_ask_60 : decode cX8_ask 60 = .ok (.getfield 62, 3) := by decide +kernel
theorem dX8_ask_63 : decode cX8_ask 63 = .ok (.invokevirtual 199, 3) := by decide +kernel
theorem dX8_ask_66 : decode cX8_ask 66 = .ok (.aload_n 0, 1) := by decide +kernel
theorem dX8_ask_67 : decode cX8_ask 67 = .ok (.aload_n 0, 1) := by decide +kernel
theorem dX8_ask_68 : decode cX8_ask 68 = .ok (.getfield 62, 3) := by decide +kernel
theorem dX8_ask_71 : decode cX8_ask 71 = .ok (.invokevirtual 227, 3) := by decide +kernel
theorem dX8_ask_74 : decode cX8_ask 74 = .ok (.ifCond .eq 7, 3) := by decide +kernel
theorem dX8_ask_77 : decode cX8_ask 77 = .ok (.aload_n 0, 1) := by decide +kernel
theorem dX8_ask_78 : decode cX8_ask 78 = .ok (.invokevirtual 231, 3) := by decide +kernel
theorem dX8_ask_81 : decode cX8_ask 81 = .ok (.iinc 3 1, 3) := by decide +kernel
theorem dX8_ask_84 : decode cX8_ask 84 = .ok (.goto (-36), 3) := by decide +kernel
theorem dX8_ask_87 : decode cX8_ask 87 = .ok (.iconst 0, 1) := by decide +kernel
theorem dX8_ask_88 : decode cX8_ask 88 = .ok (.istore_n 3, 1) := by decide +kernel
theorem dX8_ask_89 : decode cX8_ask 89 = .ok (.iconst 1, 1) := by decide +kernel
theorem dX8_ask_90 : decode cX8_ask 90 = .ok (.istore 4, 2) := by decide +kernel
theorem dX8_ask_92 : decode cX8_ask 92 = .ok (.iload 4, 2) := by decide +kernel
theorem dX8_ask_94 : decode cX8_ask 94 = .ok (.bipush 40, 2) := by decide +kernel
theorem dX8_ask_96 : decode cX8_ask 96 = .ok (.if_icmp .ge 26, 3) := by decide +kernel
theorem dX8_ask_99 : decode cX8_ask 99 = .ok (.aload_n 0, 1) := by decide +kernel
theorem dX8_ask_100 : decode cX8_ask 100 = .ok (.iload 4, 2) := by decide +kernel
theorem dX8_ask_102 : decode cX8_ask 102 = .ok (.invokevirtual 234, 3) := by decide +kernel
theorem dX8_ask_105 : decode cX8_ask 105 = .ok (.aload_n 0, 1) := by decide +kernel
theorem dX8_ask_106 : decode cX8_ask 106 = .ok (.iload_n 3, 1) := by decide +kernel
theorem dX8_ask_107 : decode cX8_ask 107 = .ok (.invokevirtual 234, 3) := by decide +kernel
theorem dX8_ask_110 : decode cX8_ask 110 = .ok (.if_icmp .ge 6, 3) := by decide +kernel
theorem dX8_ask_113 : decode cX8_ask 113 = .ok (.iload 4, 2) := by decide +kernel
theorem dX8_ask_115 : decode cX8_ask 115 = .ok (.istore_n 3, 1) := by decide +kernel
theorem dX8_ask_116 : decode cX8_ask 116 = .ok (.iinc 4 1, 3) := by decide +kernel
theorem dX8_ask_119 : decode cX8_ask 119 = .ok (.goto (-27), 3) := by decide +kernel
theorem dX8_ask_122 : decode cX8_ask 122 = .ok (.iload_n 3, 1) := by decide +kernel
theorem dX8_ask_123 : decode cX8_ask 123 = .ok (.ireturn, 1) := by decide +kernel
theorem dX8_slips_0 : decode cX8_slips 0 = .ok (.aload_n 0, 1) := by decide +kernel
theorem dX8_slips_1 : decode cX8_slips 1 = .ok (.invokevirtual 105, 3) := by decide +kernel
theorem dX8_slips_4 : decode cX8_slips 4 = .ok (.astore 6, 2) := by decide +kernel
theorem dX8_slips_6 : decode cX8_slips 6 = .ok (.iload_n 1, 1) := by decide +kernel
theorem dX8_slips_7 : decode cX8_slips 7 = .ok (.bipush 17, 2) := by decide +kernel
theorem dX8_slips_9 : decode cX8_slips 9 = .ok (.invokestatic 80, 3) := by decide +kernel
theorem dX8_slips_12 : decode cX8_slips 12 = .ok (.ifCond .eq 27, 3) := by decide +kernel
theorem dX8_slips_15 : decode cX8_slips 15 = .ok (.iload_n 2, 1) := by decide +kernel
theorem dX8_slips_16 : decode cX8_slips 16 = .ok (.aload 6, 2) := by decide +kernel
theorem dX8_slips_18 : decode cX8_slips 18 = .ok (.getfield 118, 3) := by decide +kernel
theorem dX8_slips_21 : decode cX8_slips 21 = .ok (.getfield 129, 3) := by decide +kernel
theorem dX8_slips_24 : decode cX8_slips 24 = .ok (.invokestatic 80, 3) := by decide +kernel
theorem dX8_slips_27 : decode cX8_slips 27 = .ok (.ifCond .eq 12, 3) := by decide +kernel
theorem dX8_slips_30 : decode cX8_slips 30 = .ok (.iload_n 3, 1) := by decide +kernel
theorem dX8_slips_31 : decode cX8_slips 31 = .ok (.bipush 8, 2) := by decide +kernel
theorem dX8_slips_33 : decode cX8_slips 33 = .ok (.invokestatic 80, 3) := by decide +kernel
theorem dX8_slips_36 : decode cX8_slips 36 = .ok (.ifCond .ne 7, 3) := by decide +kernel
theorem dX8_slips_39 : decode cX8_slips 39 = .ok (.ldc2_w 239, 3) := by decide +kernel
theorem dX8_slips_42 : decode cX8_slips 42 = .ok (.lreturn, 1) := by decide +kernel
theorem dX8_slips_43 : decode cX8_slips 43 = .ok (.iload 4, 2) := by decide +kernel
theorem dX8_slips_45 : decode cX8_slips 45 = .ok (.iconst 1, 1) := by decide +kernel
theorem dX8_slips_46 : decode cX8_slips 46 = .ok (.if_icmp .lt 19, 3) := by decide +kernel
theorem dX8_slips_49 : decode cX8_slips 49 = .ok (.iload 4, 2) := by decide +kernel
theorem dX8_slips_51 : decode cX8_slips 51 = .ok (.bipush 9, 2) := by decide +kernel
theorem dX8_slips_53 : decode cX8_slips 53 = .ok (.if_icmp .gt 12, 3) := by decide +kernel
theorem dX8_slips_56 : decode cX8_slips 56 = .ok (.iload 5, 2) := by decide +kernel
theorem dX8_slips_58 : decode cX8_slips 58 = .ok (.iconst 2, 1) := by decide +kernel
theorem dX8_slips_59 : decode cX8_slips 59 = .ok (.invokestatic 80, 3) := by decide +kernel
theorem dX8_slips_62 : decode cX8_slips 62 = .ok (.ifCond .ne 7, 3) := by decide +kernel
theorem dX8_slips_65 : decode cX8_slips 65 = .ok (.ldc2_w 239, 3) := by decide +kernel
theorem dX8_slips_68 : decode cX8_slips 68 = .ok (.lreturn, 1) := by decide +kernel
theorem dX8_slips_69 : decode cX8_slips 69 = .ok (.aload_n 0, 1) := by decide +kernel
theorem dX8_slips_70 : decode cX8_slips 70 = .ok (.getfield 58, 3) := by decide +kernel
theorem dX8_slips_73 : decode cX8_slips 73 = .ok (.aload 6, 2) := by decide +kernel
theorem dX8_slips_75 : decode cX8_slips 75 = .ok (.iconst 0, 1) := by decide +kernel
theorem dX8_slips_76 : decode cX8_slips 76 = .ok (.invokevirtual 172, 3) := by decide +kernel
theorem dX8_slips_79 : decode cX8_slips 79 = .ok (.invokevirtual 241, 3) := by decide +kernel
theorem dX8_slips_82 : decode cX8_slips 82 = .ok (.iconst 1, 1) := by decide +kernel
theorem dX8_slips_83 : decode cX8_slips 83 = .ok (.istore 7, 2) := by decide +kernel
theorem dX8_slips_85 : decode cX8_slips 85 = .ok (.iload 7, 2) := by decide +kernel
theorem dX8_slips_87 : decode cX8_slips 87 = .ok (.iload 4, 2) := by decide +kernel
theorem dX8_slips_89 : decode cX8_slips 89 = .ok (.if_icmp .gt 22, 3) := by decide +kernel
theorem dX8_slips_92 : decode cX8_slips 92 = .ok (.aload_n 0, 1) := by decide +kernel
theorem dX8_slips_93 : decode cX8_slips 93 = .ok (.getfield 58, 3) := by decide +kernel
theorem dX8_slips_96 : decode cX8_slips 96 = .ok (.aload 6, 2) := by decide +kernel
theorem dX8_slips_98 : decode cX8_slips 98 = .ok (.iload 7, 2) := by decide +kernel
theorem dX8_slips_100 : decode cX8_slips 100 = .ok (.iload_n 2, 1) := by decide +kernel
theorem dX8_slips_101 : decode cX8_slips 101 = .ok (.iload_n 1, 1) := by decide +kernel
theorem dX8_slips_102 : decode cX8_slips 102 = .ok (.invokevirtual 244, 3) := by decide +kernel
theorem dX8_slips_105 : decode cX8_slips 105 = .ok (.iinc 7 1, 3) := by decide +kernel
theorem dX8_slips_108 : decode cX8_slips 108 = .ok (.goto (-23), 3) := by decide +kernel
theorem dX8_slips_111 : decode cX8_slips 111 = .ok (.aload_n 0, 1) := by decide +kernel
theorem dX8_slips_112 : decode cX8_slips 112 = .ok (.getfield 58, 3) := by decide +kernel
theorem dX8_slips_115 : decode cX8_slips 115 = .ok (.iload_n 3, 1) := by decide +kernel
theorem dX8_slips_116 : decode cX8_slips 116 = .ok (.invokevirtual 248, 3) := by decide +kernel
theorem dX8_slips_119 : decode cX8_slips 119 = .ok (.iload 5, 2) := by decide +kernel
theorem dX8_slips_121 : decode cX8_slips 121 = .ok (.ifCond .ne 13, 3) := by decide +kernel
theorem dX8_slips_124 : decode cX8_slips 124 = .ok (.aload_n 0, 1) := by decide +kernel
theorem dX8_slips_125 : decode cX8_slips 125 = .ok (.getfield 58, 3) := by decide +kernel
theorem dX8_slips_128 : decode cX8_slips 128 = .ok (.getfield 251, 3) := by decide +kernel
theorem dX8_slips_131 : decode cX8_slips 131 = .ok (.goto 10, 3) := by decide +kernel
theorem dX8_slips_134 : decode cX8_slips 134 = .ok (.aload_n 0, 1) := by decide +kernel
theorem dX8_slips_135 : decode cX8_slips 135 = .ok (.getfield 58, 3) := by decide +kernel
theorem dX8_slips_138 : decode cX8_slips 138 = .ok (.getfield 255, 3) := by decide +kernel
theorem dX8_slips_141 : decode cX8_slips 141 = .ok (.lreturn, 1) := by decide +kernel
theorem dX8_evening_0 : decode cX8_evening 0 = .ok (.iload_n 2, 1) := by decide +kernel
theorem dX8_evening_1 : decode cX8_evening 1 = .ok (.bipush 40, 2) := by decide +kernel
theorem dX8_evening_3 : decode cX8_evening 3 = .ok (.invokestatic 80, 3) := by decide +kernel
theorem dX8_evening_6 : decode cX8_evening 6 = .ok (.ifCond .eq 11, 3) := by decide +kernel
theorem dX8_evening_9 : decode cX8_evening 9 = .ok (.iload_n 3, 1) := by decide +kernel
theorem dX8_evening_10 : decode cX8_evening 10 = .ok (.iconst 2, 1) := by decide +kernel
theorem dX8_evening_11 : decode cX8_evening 11 = .ok (.invokestatic 80, 3) := by decide +kernel
theorem dX8_evening_14 : decode cX8_evening 14 = .ok (.ifCond .ne 6, 3) := by decide +kernel
theorem dX8_evening_17 : decode cX8_evening 17 = .ok (.bipush (-2), 2) := by decide +kernel
theorem dX8_evening_19 : decode cX8_evening 19 = .ok (.ireturn, 1) := by decide +kernel
theorem dX8_evening_20 : decode cX8_evening 20 = .ok (.aload_n 0, 1) := by decide +kernel
theorem dX8_evening_21 : decode cX8_evening 21 = .ok (.invokevirtual 105, 3) := by decide +kernel
theorem dX8_evening_24 : decode cX8_evening 24 = .ok (.astore 4, 2) := by decide +kernel
theorem dX8_evening_26 : decode cX8_evening 26 = .ok (.aload_n 0, 1) := by decide +kernel
theorem dX8_evening_27 : decode cX8_evening 27 = .ok (.getfield 51, 3) := by decide +kernel
theorem dX8_evening_30 : decode cX8_evening 30 = .ok (.iload_n 1, 1) := by decide +kernel
theorem dX8_evening_31 : decode cX8_evening 31 = .ok (.invokevirtual 258, 3) := by decide +kernel
theorem dX8_evening_34 : decode cX8_evening 34 = .ok (.aload 4, 2) := by decide +kernel
theorem dX8_evening_36 : decode cX8_evening 36 = .ok (.iconst 0, 1) := by decide +kernel
theorem dX8_evening_37 : decode cX8_evening 37 = .ok (.invokevirtual 172, 3) := by decide +kernel
theorem dX8_evening_40 : decode cX8_evening 40 = .ok (.istore 5, 2) := by decide +kernel
theorem dX8_evening_42 : decode cX8_evening 42 = .ok (.iconst 0, 1) := by decide +kernel
theorem dX8_evening_43 : decode cX8_evening 43 = .ok (.istore 6, 2) := by decide +kernel
theorem dX8_evening_45 : decode cX8_evening 45 = .ok (.iconst 1, 1) := by decide +kernel
theorem dX8_evening_46 : decode cX8_evening 46 = .ok (.istore 7, 2) := by decide +kernel
theorem dX8_evening_48 : decode cX8_evening 48 = .ok (.iload 7, 2) := by decide +kernel
theorem dX8_evening_50 : decode cX8_evening 50 = .ok (.iload_n 2, 1) := by decide +kernel
theorem dX8_evening_51 : decode cX8_evening 51 = .ok (.if_icmp .gt 72, 3) := by decide +kernel
theorem dX8_evening_54 : decode cX8_evening 54 = .ok (.aload 4, 2) := by decide +kernel
theorem dX8_evening_56 : decode cX8_evening 56 = .ok (.iload 7, 2) := by decide +kernel
theorem dX8_evening_58 : decode cX8_evening 58 = .ok (.invokevirtual 188, 3) := by decide +kernel
theorem dX8_evening_61 : decode cX8_evening 61 = .ok (.aload_n 0, 1) := by decide +kernel
theorem dX8_evening_62 : decode cX8_evening 62 = .ok (.getfield 51, 3) := by decide +kernel
theorem dX8_evening_65 : decode cX8_evening 65 = .ok (.aload 4, 2) := by decide +kernel
theorem dX8_evening_67 : decode cX8_evening 67 = .ok (.getfield 118, 3) := by decide +kernel
theorem dX8_evening_70 : decode cX8_evening 70 = .ok (.getfield 129, 3) := by decide +kernel
theorem dX8_evening_73 : decode cX8_evening 73 = .ok (.invokevirtual 259, 3) := by decide +kernel
theorem dX8_evening_76 : decode cX8_evening 76 = .ok (.ior, 1) := by decide +kernel
theorem dX8_evening_77 : decode cX8_evening 77 = .ok (.istore 8, 2) := by decide +kernel
theorem dX8_evening_79 : decode cX8_evening 79 = .ok (.aload 4, 2) := by decide +kernel
theorem dX8_evening_81 : decode cX8_evening 81 = .ok (.iload 7, 2) := by decide +kernel
theorem dX8_evening_83 : decode cX8_evening 83 = .ok (.aload 4, 2) := by decide +kernel
theorem dX8_evening_85 : decode cX8_evening 85 = .ok (.iload 7, 2) := by decide +kernel
theorem dX8_evening_87 : decode cX8_evening 87 = .ok (.invokevirtual 175, 3) := by decide +kernel
theorem dX8_evening_90 : decode cX8_evening 90 = .ok (.iload 5, 2) := by decide +kernel
theorem dX8_evening_92 : decode cX8_evening 92 = .ok (.iload 8, 2) := by decide +kernel
theorem dX8_evening_94 : decode cX8_evening 94 = .ok (.invokevirtual 262, 3) := by decide +kernel
theorem dX8_evening_97 : decode cX8_evening 97 = .ok (.istore 5, 2) := by decide +kernel
theorem dX8_evening_99 : decode cX8_evening 99 = .ok (.iload 5, 2) := by decide +kernel
theorem dX8_evening_101 : decode cX8_evening 101 = .ok (.aload 4, 2) := by decide +kernel
theorem dX8_evening_103 : decode cX8_evening 103 = .ok (.getfield 109, 3) := by decide +kernel
theorem dX8_evening_106 : decode cX8_evening 106 = .ok (.iload 7, 2) := by decide +kernel
theorem dX8_evening_108 : decode cX8_evening 108 = .ok (.invokevirtual 181, 3) := by decide +kernel
theorem dX8_evening_111 : decode cX8_evening 111 = .ok (.if_icmp .eq 6, 3) := by decide +kernel
theorem dX8_evening_114 : decode cX8_evening 114 = .ok (.iinc 6 1, 3) := by decide +kernel
theorem dX8_evening_117 : decode cX8_evening 117 = .ok (.iinc 7 1, 3) := by decide +kernel
theorem dX8_evening_120 : decode cX8_evening 120 = .ok (.goto (-72), 3) := by decide +kernel
theorem dX8_evening_123 : decode cX8_evening 123 = .ok (.iload_n 3, 1) := by decide +kernel
theorem dX8_evening_124 : decode cX8_evening 124 = .ok (.ifCond .ne 8, 3) := by decide +kernel
theorem dX8_evening_127 : decode cX8_evening 127 = .ok (.iload 5, 2) := by decide +kernel
theorem dX8_evening_129 : decode cX8_evening 129 = .ok (.goto 5, 3) := by decide +kernel
theorem dX8_evening_132 : decode cX8_evening 132 = .ok (.iload 6, 2) := by decide +kernel
theorem dX8_evening_134 : decode cX8_evening 134 = .ok (.ireturn, 1) := by decide +kernel
theorem dX8_sheet_0 : decode cX8_sheet 0 = .ok (.iload_n 1, 1) := by decide +kernel
theorem dX8_sheet_1 : decode cX8_sheet 1 = .ok (.iconst 4, 1) := by decide +kernel
theorem dX8_sheet_2 : decode cX8_sheet 2 = .ok (.invokestatic 80, 3) := by decide +kernel
theorem dX8_sheet_5 : decode cX8_sheet 5 = .ok (.ifCond .eq 17, 3) := by decide +kernel
theorem dX8_sheet_8 : decode cX8_sheet 8 = .ok (.iload_n 2, 1) := by decide +kernel
theorem dX8_sheet_9 : decode cX8_sheet 9 = .ok (.iconst 3, 1) := by decide +kernel
theorem dX8_sheet_10 : decode cX8_sheet 10 = .ok (.invokestatic 80, 3) := by decide +kernel
theorem dX8_sheet_13 : decode cX8_sheet 13 = .ok (.ifCond .eq 9, 3) := by decide +kernel
theorem dX8_sheet_16 : decode cX8_sheet 16 = .ok (.iload_n 3, 1) := by decide +kernel
theorem dX8_sheet_17 : decode cX8_sheet 17 = .ok (.bipush 60, 2) := by decide +kernel
theorem dX8_sheet_19 : decode cX8_sheet 19 = .ok (.if_icmp .le 6, 3) := by decide +kernel
theorem dX8_sheet_22 : decode cX8_sheet 22 = .ok (.bipush (-2), 2) := by decide +kernel
theorem dX8_sheet_24 : decode cX8_sheet 24 = .ok (.ireturn, 1) := by decide +kernel
theorem dX8_sheet_25 : decode cX8_sheet 25 = .ok (.iload_n 3, 1) := by decide +kernel
theorem dX8_sheet_26 : decode cX8_sheet 26 = .ok (.ifCond .ge 9, 3) := by decide +kernel
theorem dX8_sheet_29 : decode cX8_sheet 29 = .ok (.aload_n 0, 1) := by decide +kernel
theorem dX8_sheet_30 : decode cX8_sheet 30 = .ok (.iconst 5, 1) := by decide +kernel
theorem dX8_sheet_31 : decode cX8_sheet 31 = .ok (.invokevirtual 159, 3) := by decide +kernel
theorem dX8_sheet_34 : decode cX8_sheet 34 = .ok (.ireturn, 1) := by decide +kernel
theorem dX8_sheet_35 : decode cX8_sheet 35 = .ok (.aload_n 0, 1) := by decide +kernel
theorem dX8_sheet_36 : decode cX8_sheet 36 = .ok (.getfield 72, 3) := by decide +kernel
theorem dX8_sheet_39 : decode cX8_sheet 39 = .ok (.iload_n 1, 1) := by decide +kernel
theorem dX8_sheet_40 : decode cX8_sheet 40 = .ok (.iload_n 2, 1) := by decide +kernel
theorem dX8_sheet_41 : decode cX8_sheet 41 = .ok (.iload_n 3, 1) := by decide +kernel
theorem dX8_sheet_42 : decode cX8_sheet 42 = .ok (.invokevirtual 266, 3) := by decide +kernel
theorem dX8_sheet_45 : decode cX8_sheet 45 = .ok (.iload_n 3, 1) := by decide +kernel
theorem dX8_sheet_46 : decode cX8_sheet 46 = .ok (.ireturn, 1) := by decide +kernel
theorem dX8_lose_0 : decode cX8_lose 0 = .ok (.iload_n 1, 1) := by decide +kernel
theorem dX8_lose_1 : decode cX8_lose 1 = .ok (.iconst 4, 1) := by decide +kernel
theorem dX8_lose_2 : decode cX8_lose 2 = .ok (.invokestatic 80, 3) := by decide +kernel
theorem dX8_lose_5 : decode cX8_lose 5 = .ok (.ifCond .ne 6, 3) := by decide +kernel
theorem dX8_lose_8 : decode cX8_lose 8 = .ok (.bipush (-2), 2) := by decide +kernel
theorem dX8_lose_10 : decode cX8_lose 10 = .ok (.ireturn, 1) := by decide +kernel
theorem dX8_lose_11 : decode cX8_lose 11 = .ok (.aload_n 0, 1) := by decide +kernel
theorem dX8_lose_12 : decode cX8_lose 12 = .ok (.getfield 72, 3) := by decide +kernel
theorem dX8_lose_15 : decode cX8_lose 15 = .ok (.iload_n 1, 1) := by decide +kernel
theorem dX8_lose_16 : decode cX8_lose 16 = .ok (.invokevirtual 155, 3) := by decide +kernel
theorem dX8_lose_19 : decode cX8_lose 19 = .ok (.ifCond .eq 9, 3) := by decide +kernel
theorem dX8_lose_22 : decode cX8_lose 22 = .ok (.aload_n 0, 1) := by decide +kernel
theorem dX8_lose_23 : decode cX8_lose 23 = .ok (.iconst 1, 1) := by decide +kernel
theorem dX8_lose_24 : decode cX8_lose 24 = .ok (.invokevirtual 159, 3) := by decide +kernel
theorem dX8_lose_27 : decode cX8_lose 27 = .ok (.ireturn, 1) := by decide +kernel
theorem dX8_lose_28 : decode cX8_lose 28 = .ok (.aload_n 0, 1) := by decide +kernel
theorem dX8_lose_29 : decode cX8_lose 29 = .ok (.getfield 72, 3) := by decide +kernel
theorem dX8_lose_32 : decode cX8_lose 32 = .ok (.iload_n 1, 1) := by decide +kernel
theorem dX8_lose_33 : decode cX8_lose 33 = .ok (.invokevirtual 162, 3) := by decide +kernel
theorem dX8_lose_36 : decode cX8_lose 36 = .ok (.istore_n 2, 1) := by decide +kernel
theorem dX8_lose_37 : decode cX8_lose 37 = .ok (.aload_n 0, 1) := by decide +kernel
theorem dX8_lose_38 : decode cX8_lose 38 = .ok (.getfield 72, 3) := by decide +kernel
theorem dX8_lose_41 : decode cX8_lose 41 = .ok (.iload_n 1, 1) := by decide +kernel
theorem dX8_lose_42 : decode cX8_lose 42 = .ok (.invokevirtual 270, 3) := by decide +kernel
theorem dX8_lose_45 : decode cX8_lose 45 = .ok (.iload_n 2, 1) := by decide +kernel
theorem dX8_lose_46 : decode cX8_lose 46 = .ok (.ireturn, 1) := by decide +kernel
theorem dX8_lay_0 : decode cX8_lay 0 = .ok (.iload_n 1, 1) := by decide +kernel
theorem dX8_lay_1 : decode cX8_lay 1 = .ok (.iconst 4, 1) := by decide +kernel
theorem dX8_lay_2 : decode cX8_lay 2 = .ok (.invokestatic 80, 3) := by decide +kernel
theorem dX8_lay_5 : decode cX8_lay 5 = .ok (.ifCond .eq 11, 3) := by decide +kernel
theorem dX8_lay_8 : decode cX8_lay 8 = .ok (.iload_n 2, 1) := by decide +kernel
theorem dX8_lay_9 : decode cX8_lay 9 = .ok (.iconst 3, 1) := by decide +kernel
theorem dX8_lay_10 : decode cX8_lay 10 = .ok (.invokestatic 80, 3) := by decide +kernel
theorem dX8_lay_13 : decode cX8_lay 13 = .ok (.ifCond .ne 6, 3) := by decide +kernel
theorem dX8_lay_16 : decode cX8_lay 16 = .ok (.bipush (-2), 2) := by decide +kernel
theorem dX8_lay_18 : decode cX8_lay 18 = .ok (.ireturn, 1) := by decide +kernel
theorem dX8_lay_19 : decode cX8_lay 19 = .ok (.aload_n 0, 1) := by decide +kernel
theorem dX8_lay_20 : decode cX8_lay 20 = .ok (.getfield 72, 3) := by decide +kernel
theorem dX8_lay_23 : decode cX8_lay 23 = .ok (.iload_n 1, 1) := by decide +kernel
theorem dX8_lay_24 : decode cX8_lay 24 = .ok (.iload_n 2, 1) := by decide +kernel
theorem dX8_lay_25 : decode cX8_lay 25 = .ok (.iload_n 3, 1) := by decide +kernel
theorem dX8_lay_26 : decode cX8_lay 26 = .ok (.invokevirtual 273, 3) := by decide +kernel
theorem dX8_lay_29 : decode cX8_lay 29 = .ok (.istore 5, 2) := by decide +kernel
theorem dX8_lay_31 : decode cX8_lay 31 = .ok (.iload 5, 2) := by decide +kernel
theorem dX8_lay_33 : decode cX8_lay 33 = .ok (.ifCond .eq 10, 3) := by decide +kernel
theorem dX8_lay_36 : decode cX8_lay 36 = .ok (.aload_n 0, 1) := by decide +kernel
theorem dX8_lay_37 : decode cX8_lay 37 = .ok (.iload 5, 2) := by decide +kernel
theorem dX8_lay_39 : decode cX8_lay 39 = .ok (.invokevirtual 159, 3) := by decide +kernel
theorem dX8_lay_42 : decode cX8_lay 42 = .ok (.ireturn, 1) := by decide +kernel
theorem dX8_lay_43 : decode cX8_lay 43 = .ok (.aload_n 0, 1) := by decide +kernel
theorem dX8_lay_44 : decode cX8_lay 44 = .ok (.getfield 72, 3) := by decide +kernel
theorem dX8_lay_47 : decode cX8_lay 47 = .ok (.iload_n 1, 1) := by decide +kernel
theorem dX8_lay_48 : decode cX8_lay 48 = .ok (.iload_n 3, 1) := by decide +kernel
theorem dX8_lay_49 : decode cX8_lay 49 = .ok (.iload 4, 2) := by decide +kernel
theorem dX8_lay_51 : decode cX8_lay 51 = .ok (.invokevirtual 276, 3) := by decide +kernel
theorem dX8_lay_54 : decode cX8_lay 54 = .ok (.iconst 1, 1) := by decide +kernel
theorem dX8_lay_55 : decode cX8_lay 55 = .ok (.ireturn, 1) := by decide +kernel
theorem dX8_get_0 : decode cX8_get 0 = .ok (.iload_n 1, 1) := by decide +kernel
theorem dX8_get_1 : decode cX8_get 1 = .ok (.iconst 4, 1) := by decide +kernel
theorem dX8_get_2 : decode cX8_get 2 = .ok (.invokestatic 80, 3) := by decide +kernel
theorem dX8_get_5 : decode cX8_get 5 = .ok (.ifCond .eq 11, 3) := by decide +kernel
theorem dX8_get_8 : decode cX8_get 8 = .ok (.iload_n 2, 1) := by decide +kernel
theorem dX8_get_9 : decode cX8_get 9 = .ok (.iconst 3, 1) := by decide +kernel
theorem dX8_get_10 : decode cX8_get 10 = .ok (.invokestatic 80, 3) := by decide +kernel
theorem dX8_get_13 : decode cX8_get 13 = .ok (.ifCond .ne 7, 3) := by decide +kernel
theorem dX8_get_16 : decode cX8_get 16 = .ok (.ldc_w 279, 3) := by decide +kernel
theorem dX8_get_19 : decode cX8_get 19 = .ok (.ireturn, 1) := by decide +kernel
theorem dX8_get_20 : decode cX8_get 20 = .ok (.aload_n 0, 1) := by decide +kernel
theorem dX8_get_21 : decode cX8_get 21 = .ok (.getfield 72, 3) := by decide +kernel
theorem dX8_get_24 : decode cX8_get 24 = .ok (.iload_n 1, 1) := by decide +kernel
theorem dX8_get_25 : decode cX8_get 25 = .ok (.iload_n 2, 1) := by decide +kernel
theorem dX8_get_26 : decode cX8_get 26 = .ok (.iload_n 3, 1) := by decide +kernel
theorem dX8_get_27 : decode cX8_get 27 = .ok (.invokevirtual 273, 3) := by decide +kernel
theorem dX8_get_30 : decode cX8_get 30 = .ok (.istore 4, 2) := by decide +kernel
theorem dX8_get_32 : decode cX8_get 32 = .ok (.iload 4, 2) := by decide +kernel
theorem dX8_get_34 : decode cX8_get 34 = .ok (.ifCond .eq 13, 3) := by decide +kernel
theorem dX8_get_37 : decode cX8_get 37 = .ok (.aload_n 0, 1) := by decide +kernel
theorem dX8_get_38 : decode cX8_get 38 = .ok (.iload 4, 2) := by decide +kernel
theorem dX8_get_40 : decode cX8_get 40 = .ok (.putfield 76, 3) := by decide +kernel
theorem dX8_get_43 : decode cX8_get 43 = .ok (.ldc_w 279, 3) := by decide +kernel
theorem dX8_get_46 : decode cX8_get 46 = .ok (.ireturn, 1) := by decide +kernel
theorem dX8_get_47 : decode cX8_get 47 = .ok (.aload_n 0, 1) := by decide +kernel
theorem dX8_get_48 : decode cX8_get 48 = .ok (.getfield 72, 3) := by decide +kernel
theorem dX8_get_51 : decode cX8_get 51 = .ok (.iload_n 1, 1) := by decide +kernel
theorem dX8_get_52 : decode cX8_get 52 = .ok (.iload_n 3, 1) := by decide +kernel
theorem dX8_get_53 : decode cX8_get 53 = .ok (.invokevirtual 165, 3) := by decide +kernel
theorem dX8_get_56 : decode cX8_get 56 = .ok (.ireturn, 1) := by decide +kernel
theorem dX8_copy_0 : decode cX8_copy 0 = .ok (.iload_n 1, 1) := by decide +kernel
theorem dX8_copy_1 : decode cX8_copy 1 = .ok (.iconst 4, 1) := by decide +kernel
theorem dX8_copy_2 : decode cX8_copy 2 = .ok (.invokestatic 80, 3) := by decide +kernel
theorem dX8_copy_5 : decode cX8_copy 5 = .ok (.ifCond .eq 11, 3) := by decide +kernel
theorem dX8_copy_8 : decode cX8_copy 8 = .ok (.iload_n 3, 1) := by decide +kernel
theorem dX8_copy_9 : decode cX8_copy 9 = .ok (.iconst 4, 1) := by decide +kernel
theorem dX8_copy_10 : decode cX8_copy 10 = .ok (.invokestatic 80, 3) := by decide +kernel
theorem dX8_copy_13 : decode cX8_copy 13 = .ok (.ifCond .ne 6, 3) := by decide +kernel
theorem dX8_copy_16 : decode cX8_copy 16 = .ok (.bipush (-2), 2) := by decide +kernel
theorem dX8_copy_18 : decode cX8_copy 18 = .ok (.ireturn, 1) := by decide +kernel
theorem dX8_copy_19 : decode cX8_copy 19 = .ok (.aload_n 0, 1) := by decide +kernel
theorem dX8_copy_20 : decode cX8_copy 20 = .ok (.getfield 72, 3) := by decide +kernel
theorem dX8_copy_23 : decode cX8_copy 23 = .ok (.iload_n 1, 1) := by decide +kernel
theorem dX8_copy_24 : decode cX8_copy 24 = .ok (.invokevirtual 155, 3) := by decide +kernel
theorem dX8_copy_27 : decode cX8_copy 27 = .ok (.ifCond .ne 14, 3) := by decide +kernel
theorem dX8_copy_30 : decode cX8_copy 30 = .ok (.aload_n 0, 1) := by decide +kernel
theorem dX8_copy_31 : decode cX8_copy 31 = .ok (.getfield 72, 3) := by decide +kernel
theorem dX8_copy_34 : decode cX8_copy 34 = .ok (.iload_n 3, 1) := by decide +kernel
theorem dX8_copy_35 : decode cX8_copy 35 = .ok (.invokevirtual 155, 3) := by decide +kernel
theorem dX8_copy_38 : decode cX8_copy 38 = .ok (.ifCond .eq 9, 3) := by decide +kernel
theorem dX8_copy_41 : decode cX8_copy 41 = .ok (.aload_n 0, 1) := by decide +kernel
theorem dX8_copy_42 : decode cX8_copy 42 = .ok (.iconst 1, 1) := by decide +kernel
theorem dX8_copy_43 : decode cX8_copy 43 = .ok (.invokevirtual 159, 3) := by decide +kernel
theorem dX8_copy_46 : decode cX8_copy 46 = .ok (.ireturn, 1) := by decide +kernel
theorem dX8_copy_47 : decode cX8_copy 47 = .ok (.aload_n 0, 1) := by decide +kernel
theorem dX8_copy_48 : decode cX8_copy 48 = .ok (.getfield 72, 3) := by decide +kernel
theorem dX8_copy_51 : decode cX8_copy 51 = .ok (.iload_n 1, 1) := by decide +kernel
theorem dX8_copy_52 : decode cX8_copy 52 = .ok (.invokevirtual 280, 3) := by decide +kernel
theorem dX8_copy_55 : decode cX8_copy 55 = .ok (.aload_n 0, 1) := by decide +kernel
theorem dX8_copy_56 : decode cX8_copy 56 = .ok (.getfield 72, 3) := by decide +kernel
theorem dX8_copy_59 : decode cX8_copy 59 = .ok (.iload_n 3, 1) := by decide +kernel
theorem dX8_copy_60 : decode cX8_copy 60 = .ok (.invokevirtual 280, 3) := by decide +kernel
theorem dX8_copy_63 : decode cX8_copy 63 = .ok (.if_icmp .eq 9, 3) := by decide +kernel
theorem dX8_copy_66 : decode cX8_copy 66 = .ok (.aload_n 0, 1) := by decide +kernel
theorem dX8_copy_67 : decode cX8_copy 67 = .ok (.iconst 4, 1) := by decide +kernel
theorem dX8_copy_68 : decode cX8_copy 68 = .ok (.invokevirtual 159, 3) := by decide +kernel
theorem dX8_copy_71 : decode cX8_copy 71 = .ok (.ireturn, 1) := by decide +kernel
theorem dX8_copy_72 : decode cX8_copy 72 = .ok (.aload_n 0, 1) := by decide +kernel
theorem dX8_copy_73 : decode cX8_copy 73 = .ok (.getfield 72, 3) := by decide +kernel
theorem dX8_copy_76 : decode cX8_copy 76 = .ok (.iload_n 1, 1) := by decide +kernel
theorem dX8_copy_77 : decode cX8_copy 77 = .ok (.iload_n 2, 1) := by decide +kernel
theorem dX8_copy_78 : decode cX8_copy 78 = .ok (.iload 5, 2) := by decide +kernel
theorem dX8_copy_80 : decode cX8_copy 80 = .ok (.invokevirtual 283, 3) := by decide +kernel
theorem dX8_copy_83 : decode cX8_copy 83 = .ok (.ifCond .eq 18, 3) := by decide +kernel
theorem dX8_copy_86 : decode cX8_copy 86 = .ok (.aload_n 0, 1) := by decide +kernel
theorem dX8_copy_87 : decode cX8_copy 87 = .ok (.getfield 72, 3) := by decide +kernel
theorem dX8_copy_90 : decode cX8_copy 90 = .ok (.iload_n 3, 1) := by decide +kernel
theorem dX8_copy_91 : decode cX8_copy 91 = .ok (.iload 4, 2) := by decide +kernel
theorem dX8_copy_93 : decode cX8_copy 93 = .ok (.iload 5, 2) := by decide +kernel
theorem dX8_copy_95 : decode cX8_copy 95 = .ok (.invokevirtual 283, 3) := by decide +kernel
theorem dX8_copy_98 : decode cX8_copy 98 = .ok (.ifCond .ne 9, 3) := by decide +kernel
theorem dX8_copy_101 : decode cX8_copy 101 = .ok (.aload_n 0, 1) := by decide +kernel
theorem dX8_copy_102 : decode cX8_copy 102 = .ok (.iconst 2, 1) := by decide +kernel
theorem dX8_copy_103 : decode cX8_copy 103 = .ok (.invokevirtual 159, 3) := by decide +kernel
theorem dX8_copy_106 : decode cX8_copy 106 = .ok (.ireturn, 1) := by decide +kernel
theorem dX8_copy_107 : decode cX8_copy 107 = .ok (.aload_n 0, 1) := by decide +kernel
theorem dX8_copy_108 : decode cX8_copy 108 = .ok (.getfield 72, 3) := by decide +kernel
theorem dX8_copy_111 : decode cX8_copy 111 = .ok (.iload_n 1, 1) := by decide +kernel
theorem dX8_copy_112 : decode cX8_copy 112 = .ok (.iload_n 2, 1) := by decide +kernel
theorem dX8_copy_113 : decode cX8_copy 113 = .ok (.iload_n 3, 1) := by decide +kernel
theorem dX8_copy_114 : decode cX8_copy 114 = .ok (.iload 4, 2) := by decide +kernel
theorem dX8_copy_116 : decode cX8_copy 116 = .ok (.iload 5, 2) := by decide +kernel
theorem dX8_copy_118 : decode cX8_copy 118 = .ok (.invokevirtual 286, 3) := by decide +kernel
theorem dX8_copy_121 : decode cX8_copy 121 = .ok (.iconst 1, 1) := by decide +kernel
theorem dX8_copy_122 : decode cX8_copy 122 = .ok (.ireturn, 1) := by decide +kernel
theorem dX8_write_0 : decode cX8_write 0 = .ok (.iload_n 1, 1) := by decide +kernel
theorem dX8_write_1 : decode cX8_write 1 = .ok (.iconst 2, 1) := by decide +kernel
theorem dX8_write_2 : decode cX8_write 2 = .ok (.invokestatic 80, 3) := by decide +kernel
theorem dX8_write_5 : decode cX8_write 5 = .ok (.ifCond .eq 11, 3) := by decide +kernel
theorem dX8_write_8 : decode cX8_write 8 = .ok (.iload_n 2, 1) := by decide +kernel
theorem dX8_write_9 : decode cX8_write 9 = .ok (.iconst 4, 1) := by decide +kernel
theorem dX8_write_10 : decode cX8_write 10 = .ok (.invokestatic 80, 3) := by decide +kernel
theorem dX8_write_13 : decode cX8_write 13 = .ok (.ifCond .ne 6, 3) := by decide +kernel
theorem dX8_write_16 : decode cX8_write 16 = .ok (.bipush (-2), 2) := by decide +kernel
theorem dX8_write_18 : decode cX8_write 18 = .ok (.ireturn, 1) := by decide +kernel
theorem dX8_write_19 : decode cX8_write 19 = .ok (.aload_n 0, 1) := by decide +kernel
theorem dX8_write_20 : decode cX8_write 20 = .ok (.getfield 72, 3) := by decide +kernel
theorem dX8_write_23 : decode cX8_write 23 = .ok (.iload_n 2, 1) := by decide +kernel
theorem dX8_write_24 : decode cX8_write 24 = .ok (.invokevirtual 155, 3) := by decide +kernel
theorem dX8_write_27 : decode cX8_write 27 = .ok (.ifCond .eq 9, 3) := by decide +kernel
theorem dX8_write_30 : decode cX8_write 30 = .ok (.aload_n 0, 1) := by decide +kernel
theorem dX8_write_31 : decode cX8_write 31 = .ok (.iconst 1, 1) := by decide +kernel
theorem dX8_write_32 : decode cX8_write 32 = .ok (.invokevirtual 159, 3) := by decide +kernel
theorem dX8_write_35 : decode cX8_write 35 = .ok (.ireturn, 1) := by decide +kernel
theorem dX8_write_36 : decode cX8_write 36 = .ok (.aload_n 0, 1) := by decide +kernel
theorem dX8_write_37 : decode cX8_write 37 = .ok (.invokevirtual 105, 3) := by decide +kernel
theorem dX8_write_40 : decode cX8_write 40 = .ok (.astore_n 3, 1) := by decide +kernel
theorem dX8_write_41 : decode cX8_write 41 = .ok (.aload_n 0, 1) := by decide +kernel
theorem dX8_write_42 : decode cX8_write 42 = .ok (.getfield 72, 3) := by decide +kernel
theorem dX8_write_45 : decode cX8_write 45 = .ok (.iload_n 2, 1) := by decide +kernel
theorem dX8_write_46 : decode cX8_write 46 = .ok (.invokevirtual 162, 3) := by decide +kernel
theorem dX8_write_49 : decode cX8_write 49 = .ok (.bipush 40, 2) := by decide +kernel
theorem dX8_write_51 : decode cX8_write 51 = .ok (.invokestatic 290, 3) := by decide +kernel
theorem dX8_write_54 : decode cX8_write 54 = .ok (.istore 4, 2) := by decide +kernel
theorem dX8_write_56 : decode cX8_write 56 = .ok (.iconst 0, 1) := by decide +kernel
theorem dX8_write_57 : decode cX8_write 57 = .ok (.istore 5, 2) := by decide +kernel
theorem dX8_write_59 : decode cX8_write 59 = .ok (.iload 5, 2) := by decide +kernel
theorem dX8_write_61 : decode cX8_write 61 = .ok (.iload 4, 2) := by decide +kernel
theorem dX8_write_63 : decode cX8_write 63 = .ok (.if_icmp .ge 38, 3) := by decide +kernel
theorem dX8_write_66 : decode cX8_write 66 = .ok (.aload_n 0, 1) := by decide +kernel
theorem dX8_write_67 : decode cX8_write 67 = .ok (.getfield 72, 3) := by decide +kernel
theorem dX8_write_70 : decode cX8_write 70 = .ok (.iload_n 2, 1) := by decide +kernel
theorem dX8_write_71 : decode cX8_write 71 = .ok (.iload 5, 2) := by decide +kernel
theorem dX8_write_73 : decode cX8_write 73 = .ok (.iload_n 1, 1) := by decide +kernel
theorem dX8_write_74 : decode cX8_write 74 = .ok (.ifCond .ne 12, 3) := by decide +kernel
theorem dX8_write_77 : decode cX8_write 77 = .ok (.aload_n 3, 1) := by decide +kernel
theorem dX8_write_78 : decode cX8_write 78 = .ok (.iload 5, 2) := by decide +kernel
theorem dX8_write_80 : decode cX8_write 80 = .ok (.invokevirtual 172, 3) := by decide +kernel
theorem dX8_write_83 : decode cX8_write 83 = .ok (.goto 9, 3) := by decide +kernel
theorem dX8_write_86 : decode cX8_write 86 = .ok (.aload_n 3, 1) := by decide +kernel
theorem dX8_write_87 : decode cX8_write 87 = .ok (.iload 5, 2) := by decide +kernel
theorem dX8_write_89 : decode cX8_write 89 = .ok (.invokevirtual 175, 3) := by decide +kernel
theorem dX8_write_92 : decode cX8_write 92 = .ok (.invokevirtual 276, 3) := by decide +kernel
theorem dX8_write_95 : decode cX8_write 95 = .ok (.iinc 5 1, 3) := by decide +kernel
theorem dX8_write_98 : decode cX8_write 98 = .ok (.goto (-39), 3) := by decide +kernel
theorem dX8_write_101 : decode cX8_write 101 = .ok (.iload 4, 2) := by decide +kernel
theorem dX8_write_103 : decode cX8_write 103 = .ok (.ireturn, 1) := by decide +kernel
theorem dX8_count_0 : decode cX8_count 0 = .ok (.iload_n 1, 1) := by decide +kernel
theorem dX8_count_1 : decode cX8_count 1 = .ok (.tableswitch 126 0 8 #[51, 62, 73, 81, 89, 97, 105, 113, 121], 51) := by decide +kernel
theorem dX8_count_52 : decode cX8_count 52 = .ok (.aload_n 0, 1) := by decide +kernel
theorem dX8_count_53 : decode cX8_count 53 = .ok (.invokevirtual 105, 3) := by decide +kernel
theorem dX8_count_56 : decode cX8_count 56 = .ok (.getfield 109, 3) := by decide +kernel
theorem dX8_count_59 : decode cX8_count 59 = .ok (.getfield 293, 3) := by decide +kernel
theorem dX8_count_62 : decode cX8_count 62 = .ok (.ireturn, 1) := by decide +kernel
theorem dX8_count_63 : decode cX8_count 63 = .ok (.aload_n 0, 1) := by decide +kernel
theorem dX8_count_64 : decode cX8_count 64 = .ok (.invokevirtual 105, 3) := by decide +kernel
theorem dX8_count_67 : decode cX8_count 67 = .ok (.getfield 118, 3) := by decide +kernel
theorem dX8_count_70 : decode cX8_count 70 = .ok (.getfield 129, 3) := by decide +kernel
theorem dX8_count_73 : decode cX8_count 73 = .ok (.ireturn, 1) := by decide +kernel
theorem dX8_count_74 : decode cX8_count 74 = .ok (.aload_n 0, 1) := by decide +kernel
theorem dX8_count_75 : decode cX8_count 75 = .ok (.getfield 14, 3) := by decide +kernel
theorem dX8_count_78 : decode cX8_count 78 = .ok (.invokevirtual 95, 3) := by decide +kernel
theorem dX8_count_81 : decode cX8_count 81 = .ok (.ireturn, 1) := by decide +kernel
theorem dX8_count_82 : decode cX8_count 82 = .ok (.aload_n 0, 1) := by decide +kernel
theorem dX8_count_83 : decode cX8_count 83 = .ok (.getfield 18, 3) := by decide +kernel
theorem dX8_count_86 : decode cX8_count 86 = .ok (.invokevirtual 95, 3) := by decide +kernel
theorem dX8_count_89 : decode cX8_count 89 = .ok (.ireturn, 1) := by decide +kernel
theorem dX8_count_90 : decode cX8_count 90 = .ok (.aload_n 0, 1) := by decide +kernel
theorem dX8_count_91 : decode cX8_count 91 = .ok (.getfield 24, 3) := by decide +kernel
theorem dX8_count_94 : decode cX8_count 94 = .ok (.invokevirtual 153, 3) := by decide +kernel
theorem dX8_count_97 : decode cX8_count 97 = .ok (.ireturn, 1) := by decide +kernel
theorem dX8_count_98 : decode cX8_count 98 = .ok (.aload_n 0, 1) := by decide +kernel
theorem dX8_count_99 : decode cX8_count 99 = .ok (.getfield 28, 3) := by decide +kernel
theorem dX8_count_102 : decode cX8_count 102 = .ok (.invokevirtual 153, 3) := by decide +kernel
theorem dX8_count_105 : decode cX8_count 105 = .ok (.ireturn, 1) := by decide +kernel
theorem dX8_count_106 : decode cX8_count 106 = .ok (.aload_n 0, 1) := by decide +kernel
theorem dX8_count_107 : decode cX8_count 107 = .ok (.getfield 31, 3) := by decide +kernel
theorem dX8_count_110 : decode cX8_count 110 = .ok (.invokevirtual 153, 3) := by decide +kernel
theorem dX8_count_113 : decode cX8_count 113 = .ok (.ireturn, 1) := by decide +kernel
theorem dX8_count_114 : decode cX8_count 114 = .ok (.aload_n 0, 1) := by decide +kernel
theorem dX8_count_115 : decode cX8_count 115 = .ok (.getfield 34, 3) := by decide +kernel
theorem dX8_count_118 : decode cX8_count 118 = .ok (.invokevirtual 153, 3) := by decide +kernel
theorem dX8_count_121 : decode cX8_count 121 = .ok (.ireturn, 1) := by decide +kernel
theorem dX8_count_122 : decode cX8_count 122 = .ok (.aload_n 0, 1) := by decide +kernel
theorem dX8_count_123 : decode cX8_count 123 = .ok (.getfield 76, 3) := by decide +kernel
theorem dX8_count_126 : decode cX8_count 126 = .ok (.ireturn, 1) := by decide +kernel
theorem dX8_count_127 : decode cX8_count 127 = .ok (.bipush (-2), 2) := by decide +kernel
theorem dX8_count_129 : decode cX8_count 129 = .ok (.ireturn, 1) := by decide +kernel
theorem dX8_digest_0 : decode cX8_digest 0 = .ok (.ldc2_w 296, 3) := by decide +kernel
theorem dX8_digest_3 : decode cX8_digest 3 = .ok (.lstore_n 1, 1) := by decide +kernel
theorem dX8_digest_4 : decode cX8_digest 4 = .ok (.iconst 0, 1) := by decide +kernel
theorem dX8_digest_5 : decode cX8_digest 5 = .ok (.istore_n 3, 1) := by decide +kernel
theorem dX8_digest_6 : decode cX8_digest 6 = .ok (.iload_n 3, 1) := by decide +kernel
theorem dX8_digest_7 : decode cX8_digest 7 = .ok (.bipush 8, 2) := by decide +kernel
theorem dX8_digest_9 : decode cX8_digest 9 = .ok (.if_icmp .ge 22, 3) := by decide +kernel
theorem dX8_digest_12 : decode cX8_digest 12 = .ok (.ldc2_w 298, 3) := by decide +kernel
theorem dX8_digest_15 : decode cX8_digest 15 = .ok (.lload_n 1, 1) := by decide +kernel
theorem dX8_digest_16 : decode cX8_digest 16 = .ok (.lmul, 1) := by decide +kernel
theorem dX8_digest_17 : decode cX8_digest 17 = .ok (.aload_n 0, 1) := by decide +kernel
theorem dX8_digest_18 : decode cX8_digest 18 = .ok (.iload_n 3, 1) := by decide +kernel
theorem dX8_digest_19 : decode cX8_digest 19 = .ok (.invokevirtual 300, 3) := by decide +kernel
theorem dX8_digest_22 : decode cX8_digest 22 = .ok (.i2l, 1) := by decide +kernel
theorem dX8_digest_23 : decode cX8_digest 23 = .ok (.ladd, 1) := by decide +kernel
theorem dX8_digest_24 : decode cX8_digest 24 = .ok (.lstore_n 1, 1) := by decide +kernel
theorem dX8_digest_25 : decode cX8_digest 25 = .ok (.iinc 3 1, 3) := by decide +kernel
theorem dX8_digest_28 : decode cX8_digest 28 = .ok (.goto (-22), 3) := by decide +kernel
theorem dX8_digest_31 : decode cX8_digest 31 = .ok (.ldc2_w 298, 3) := by decide +kernel
theorem dX8_digest_34 : decode cX8_digest 34 = .ok (.lload_n 1, 1) := by decide +kernel
theorem dX8_digest_35 : decode cX8_digest 35 = .ok (.lmul, 1) := by decide +kernel
theorem dX8_digest_36 : decode cX8_digest 36 = .ok (.aload_n 0, 1) := by decide +kernel
theorem dX8_digest_37 : decode cX8_digest 37 = .ok (.iconst 0, 1) := by decide +kernel
theorem dX8_digest_38 : decode cX8_digest 38 = .ok (.invokevirtual 303, 3) := by decide +kernel
theorem dX8_digest_41 : decode cX8_digest 41 = .ok (.i2l, 1) := by decide +kernel
theorem dX8_digest_42 : decode cX8_digest 42 = .ok (.ladd, 1) := by decide +kernel
theorem dX8_digest_43 : decode cX8_digest 43 = .ok (.lstore_n 1, 1) := by decide +kernel
theorem dX8_digest_44 : decode cX8_digest 44 = .ok (.ldc2_w 298, 3) := by decide +kernel
theorem dX8_digest_47 : decode cX8_digest 47 = .ok (.lload_n 1, 1) := by decide +kernel
theorem dX8_digest_48 : decode cX8_digest 48 = .ok (.lmul, 1) := by decide +kernel
theorem dX8_digest_49 : decode cX8_digest 49 = .ok (.aload_n 0, 1) := by decide +kernel
theorem dX8_digest_50 : decode cX8_digest 50 = .ok (.iconst 1, 1) := by decide +kernel
theorem dX8_digest_51 : decode cX8_digest 51 = .ok (.invokevirtual 303, 3) := by decide +kernel
theorem dX8_digest_54 : decode cX8_digest 54 = .ok (.i2l, 1) := by decide +kernel
theorem dX8_digest_55 : decode cX8_digest 55 = .ok (.ladd, 1) := by decide +kernel
theorem dX8_digest_56 : decode cX8_digest 56 = .ok (.lstore_n 1, 1) := by decide +kernel
theorem dX8_digest_57 : decode cX8_digest 57 = .ok (.iconst 0, 1) := by decide +kernel
theorem dX8_digest_58 : decode cX8_digest 58 = .ok (.istore_n 3, 1) := by decide +kernel
theorem dX8_digest_59 : decode cX8_digest 59 = .ok (.iload_n 3, 1) := by decide +kernel
theorem dX8_digest_60 : decode cX8_digest 60 = .ok (.bipush 8, 2) := by decide +kernel
theorem dX8_digest_62 : decode cX8_digest 62 = .ok (.if_icmp .ge 16, 3) := by decide +kernel
theorem dX8_digest_65 : decode cX8_digest 65 = .ok (.aload_n 0, 1) := by decide +kernel
theorem dX8_digest_66 : decode cX8_digest 66 = .ok (.lload_n 1, 1) := by decide +kernel
theorem dX8_digest_67 : decode cX8_digest 67 = .ok (.iload_n 3, 1) := by decide +kernel
theorem dX8_digest_68 : decode cX8_digest 68 = .ok (.invokevirtual 305, 3) := by decide +kernel
theorem dX8_digest_71 : decode cX8_digest 71 = .ok (.lstore_n 1, 1) := by decide +kernel
theorem dX8_digest_72 : decode cX8_digest 72 = .ok (.iinc 3 1, 3) := by decide +kernel
theorem dX8_digest_75 : decode cX8_digest 75 = .ok (.goto (-16), 3) := by decide +kernel
theorem dX8_digest_78 : decode cX8_digest 78 = .ok (.aload_n 0, 1) := by decide +kernel
theorem dX8_digest_79 : decode cX8_digest 79 = .ok (.iconst 1, 1) := by decide +kernel
theorem dX8_digest_80 : decode cX8_digest 80 = .ok (.invokevirtual 300, 3) := by decide +kernel
theorem dX8_digest_83 : decode cX8_digest 83 = .ok (.istore_n 3, 1) := by decide +kernel
theorem dX8_digest_84 : decode cX8_digest 84 = .ok (.iconst 0, 1) := by decide +kernel
theorem dX8_digest_85 : decode cX8_digest 85 = .ok (.istore 4, 2) := by decide +kernel
theorem dX8_digest_87 : decode cX8_digest 87 = .ok (.iload 4, 2) := by decide +kernel
theorem dX8_digest_89 : decode cX8_digest 89 = .ok (.iload_n 3, 1) := by decide +kernel
theorem dX8_digest_90 : decode cX8_digest 90 = .ok (.if_icmp .ge 17, 3) := by decide +kernel
theorem dX8_digest_93 : decode cX8_digest 93 = .ok (.aload_n 0, 1) := by decide +kernel
theorem dX8_digest_94 : decode cX8_digest 94 = .ok (.lload_n 1, 1) := by decide +kernel
theorem dX8_digest_95 : decode cX8_digest 95 = .ok (.iload 4, 2) := by decide +kernel
theorem dX8_digest_97 : decode cX8_digest 97 = .ok (.invokevirtual 309, 3) := by decide +kernel
theorem dX8_digest_100 : decode cX8_digest 100 = .ok (.lstore_n 1, 1) := by decide +kernel
theorem dX8_digest_101 : decode cX8_digest 101 = .ok (.iinc 4 1, 3) := by decide +kernel
theorem dX8_digest_104 : decode cX8_digest 104 = .ok (.goto (-17), 3) := by decide +kernel
theorem dX8_digest_107 : decode cX8_digest 107 = .ok (.iconst 0, 1) := by decide +kernel
theorem dX8_digest_108 : decode cX8_digest 108 = .ok (.istore 4, 2) := by decide +kernel
theorem dX8_digest_110 : decode cX8_digest 110 = .ok (.iload 4, 2) := by decide +kernel
theorem dX8_digest_112 : decode cX8_digest 112 = .ok (.getstatic 312, 3) := by decide +kernel
theorem dX8_digest_115 : decode cX8_digest 115 = .ok (.arraylength, 1) := by decide +kernel
theorem dX8_digest_116 : decode cX8_digest 116 = .ok (.if_icmp .ge 21, 3) := by decide +kernel
theorem dX8_digest_119 : decode cX8_digest 119 = .ok (.aload_n 0, 1) := by decide +kernel
theorem dX8_digest_120 : decode cX8_digest 120 = .ok (.lload_n 1, 1) := by decide +kernel
theorem dX8_digest_121 : decode cX8_digest 121 = .ok (.getstatic 312, 3) := by decide +kernel
theorem dX8_digest_124 : decode cX8_digest 124 = .ok (.iload 4, 2) := by decide +kernel
theorem dX8_digest_126 : decode cX8_digest 126 = .ok (.iaload, 1) := by decide +kernel
theorem dX8_digest_127 : decode cX8_digest 127 = .ok (.invokevirtual 315, 3) := by decide +kernel
theorem dX8_digest_130 : decode cX8_digest 130 = .ok (.lstore_n 1, 1) := by decide +kernel
theorem dX8_digest_131 : decode cX8_digest 131 = .ok (.iinc 4 1, 3) := by decide +kernel
theorem dX8_digest_134 : decode cX8_digest 134 = .ok (.goto (-24), 3) := by decide +kernel
theorem dX8_digest_137 : decode cX8_digest 137 = .ok (.ldc2_w 298, 3) := by decide +kernel
theorem dX8_digest_140 : decode cX8_digest 140 = .ok (.lload_n 1, 1) := by decide +kernel
theorem dX8_digest_141 : decode cX8_digest 141 = .ok (.lmul, 1) := by decide +kernel
theorem dX8_digest_142 : decode cX8_digest 142 = .ok (.aload_n 0, 1) := by decide +kernel
theorem dX8_digest_143 : decode cX8_digest 143 = .ok (.iconst 0, 1) := by decide +kernel
theorem dX8_digest_144 : decode cX8_digest 144 = .ok (.invokevirtual 318, 3) := by decide +kernel
theorem dX8_digest_147 : decode cX8_digest 147 = .ok (.i2l, 1) := by decide +kernel
theorem dX8_digest_148 : decode cX8_digest 148 = .ok (.ladd, 1) := by decide +kernel
theorem dX8_digest_149 : decode cX8_digest 149 = .ok (.lstore_n 1, 1) := by decide +kernel
theorem dX8_digest_150 : decode cX8_digest 150 = .ok (.ldc2_w 298, 3) := by decide +kernel
theorem dX8_digest_153 : decode cX8_digest 153 = .ok (.lload_n 1, 1) := by decide +kernel
theorem dX8_digest_154 : decode cX8_digest 154 = .ok (.lmul, 1) := by decide +kernel
theorem dX8_digest_155 : decode cX8_digest 155 = .ok (.aload_n 0, 1) := by decide +kernel
theorem dX8_digest_156 : decode cX8_digest 156 = .ok (.iconst 1, 1) := by decide +kernel
theorem dX8_digest_157 : decode cX8_digest 157 = .ok (.invokevirtual 318, 3) := by decide +kernel
theorem dX8_digest_160 : decode cX8_digest 160 = .ok (.i2l, 1) := by decide +kernel
theorem dX8_digest_161 : decode cX8_digest 161 = .ok (.ladd, 1) := by decide +kernel
theorem dX8_digest_162 : decode cX8_digest 162 = .ok (.lstore_n 1, 1) := by decide +kernel
theorem dX8_digest_163 : decode cX8_digest 163 = .ok (.ldc2_w 298, 3) := by decide +kernel
theorem dX8_digest_166 : decode cX8_digest 166 = .ok (.lload_n 1, 1) := by decide +kernel
theorem dX8_digest_167 : decode cX8_digest 167 = .ok (.lmul, 1) := by decide +kernel
theorem dX8_digest_168 : decode cX8_digest 168 = .ok (.aload_n 0, 1) := by decide +kernel
theorem dX8_digest_169 : decode cX8_digest 169 = .ok (.invokevirtual 321, 3) := by decide +kernel
theorem dX8_digest_172 : decode cX8_digest 172 = .ok (.i2l, 1) := by decide +kernel
theorem dX8_digest_173 : decode cX8_digest 173 = .ok (.ladd, 1) := by decide +kernel
theorem dX8_digest_174 : decode cX8_digest 174 = .ok (.lstore_n 1, 1) := by decide +kernel
theorem dX8_digest_175 : decode cX8_digest 175 = .ok (.ldc2_w 298, 3) := by decide +kernel
theorem dX8_digest_178 : decode cX8_digest 178 = .ok (.lload_n 1, 1) := by decide +kernel
theorem dX8_digest_179 : decode cX8_digest 179 = .ok (.lmul, 1) := by decide +kernel
theorem dX8_digest_180 : decode cX8_digest 180 = .ok (.aload_n 0, 1) := by decide +kernel
theorem dX8_digest_181 : decode cX8_digest 181 = .ok (.invokevirtual 324, 3) := by decide +kernel
theorem dX8_digest_184 : decode cX8_digest 184 = .ok (.i2l, 1) := by decide +kernel
theorem dX8_digest_185 : decode cX8_digest 185 = .ok (.ladd, 1) := by decide +kernel
theorem dX8_digest_186 : decode cX8_digest 186 = .ok (.lreturn, 1) := by decide +kernel
theorem dX8_within_0 : decode cX8_within 0 = .ok (.iload_n 0, 1) := by decide +kernel
theorem dX8_within_1 : decode cX8_within 1 = .ok (.ifCond .lt 12, 3) := by decide +kernel
theorem dX8_within_4 : decode cX8_within 4 = .ok (.iload_n 0, 1) := by decide +kernel
theorem dX8_within_5 : decode cX8_within 5 = .ok (.iload_n 1, 1) := by decide +kernel
theorem dX8_within_6 : decode cX8_within 6 = .ok (.if_icmp .ge 7, 3) := by decide +kernel
theorem dX8_within_9 : decode cX8_within 9 = .ok (.iconst 1, 1) := by decide +kernel
theorem dX8_within_10 : decode cX8_within 10 = .ok (.goto 4, 3) := by decide +kernel
theorem dX8_within_13 : decode cX8_within 13 = .ok (.iconst 0, 1) := by decide +kernel
theorem dX8_within_14 : decode cX8_within 14 = .ok (.ireturn, 1) := by decide +kernel
theorem dX8_bitOf_0 : decode cX8_bitOf 0 = .ok (.iload_n 0, 1) := by decide +kernel
theorem dX8_bitOf_1 : decode cX8_bitOf 1 = .ok (.bipush 8, 2) := by decide +kernel
theorem dX8_bitOf_3 : decode cX8_bitOf 3 = .ok (.invokestatic 80, 3) := by decide +kernel
theorem dX8_bitOf_6 : decode cX8_bitOf 6 = .ok (.ifCond .eq 9, 3) := by decide +kernel
theorem dX8_bitOf_9 : decode cX8_bitOf 9 = .ok (.iconst 1, 1) := by decide +kernel
theorem dX8_bitOf_10 : decode cX8_bitOf 10 = .ok (.iload_n 0, 1) := by decide +kernel
theorem dX8_bitOf_11 : decode cX8_bitOf 11 = .ok (.ishl, 1) := by decide +kernel
theorem dX8_bitOf_12 : decode cX8_bitOf 12 = .ok (.goto 4, 3) := by decide +kernel
theorem dX8_bitOf_15 : decode cX8_bitOf 15 = .ok (.iconst 0, 1) := by decide +kernel
theorem dX8_bitOf_16 : decode cX8_bitOf 16 = .ok (.ireturn, 1) := by decide +kernel
theorem dX8_lowestBit_0 : decode cX8_lowestBit 0 = .ok (.iconst 0, 1) := by decide +kernel
theorem dX8_lowestBit_1 : decode cX8_lowestBit 1 = .ok (.istore_n 1, 1) := by decide +kernel
theorem dX8_lowestBit_2 : decode cX8_lowestBit 2 = .ok (.iload_n 1, 1) := by decide +kernel
theorem dX8_lowestBit_3 : decode cX8_lowestBit 3 = .ok (.bipush 8, 2) := by decide +kernel
theorem dX8_lowestBit_5 : decode cX8_lowestBit 5 = .ok (.if_icmp .ge 20, 3) := by decide +kernel
theorem dX8_lowestBit_8 : decode cX8_lowestBit 8 = .ok (.iload_n 0, 1) := by decide +kernel
theorem dX8_lowestBit_9 : decode cX8_lowestBit 9 = .ok (.iload_n 1, 1) := by decide +kernel
theorem dX8_lowestBit_10 : decode cX8_lowestBit 10 = .ok (.invokestatic 203, 3) := by decide +kernel
theorem dX8_lowestBit_13 : decode cX8_lowestBit 13 = .ok (.iand, 1) := by decide +kernel
theorem dX8_lowestBit_14 : decode cX8_lowestBit 14 = .ok (.ifCond .eq 5, 3) := by decide +kernel
theorem dX8_lowestBit_17 : decode cX8_lowestBit 17 = .ok (.iload_n 1, 1) := by decide +kernel
theorem dX8_lowestBit_18 : decode cX8_lowestBit 18 = .ok (.ireturn, 1) := by decide +kernel
theorem dX8_lowestBit_19 : decode cX8_lowestBit 19 = .ok (.iinc 1 1, 3) := by decide +kernel
theorem dX8_lowestBit_22 : decode cX8_lowestBit 22 = .ok (.goto (-20), 3) := by decide +kernel
theorem dX8_lowestBit_25 : decode cX8_lowestBit 25 = .ok (.iconst (-1), 1) := by decide +kernel
theorem dX8_lowestBit_26 : decode cX8_lowestBit 26 = .ok (.ireturn, 1) := by decide +kernel
theorem dX8_textOf_0 : decode cX8_textOf 0 = .ok (.iload_n 1, 1) := by decide +kernel
theorem dX8_textOf_1 : decode cX8_textOf 1 = .ok (.ifCond .ne 10, 3) := by decide +kernel
theorem dX8_textOf_4 : decode cX8_textOf 4 = .ok (.aload_n 0, 1) := by decide +kernel
theorem dX8_textOf_5 : decode cX8_textOf 5 = .ok (.getfield 14, 3) := by decide +kernel
theorem dX8_textOf_8 : decode cX8_textOf 8 = .ok (.goto 7, 3) := by decide +kernel
theorem dX8_textOf_11 : decode cX8_textOf 11 = .ok (.aload_n 0, 1) := by decide +kernel
theorem dX8_textOf_12 : decode cX8_textOf 12 = .ok (.getfield 18, 3) := by decide +kernel
theorem dX8_textOf_15 : decode cX8_textOf 15 = .ok (.areturn, 1) := by decide +kernel
theorem dX8_staged_0 : decode cX8_staged 0 = .ok (.aload_n 0, 1) := by decide +kernel
theorem dX8_staged_1 : decode cX8_staged 1 = .ok (.getfield 44, 3) := by decide +kernel
theorem dX8_staged_4 : decode cX8_staged 4 = .ok (.ifCond .eq 79, 3) := by decide +kernel
theorem dX8_staged_7 : decode cX8_staged 7 = .ok (.aload_n 0, 1) := by decide +kernel
theorem dX8_staged_8 : decode cX8_staged 8 = .ok (.getfield 40, 3) := by decide +kernel
theorem dX8_staged_11 : decode cX8_staged 11 = .ok (.getfield 109, 3) := by decide +kernel
theorem dX8_staged_14 : decode cX8_staged 14 = .ok (.aload_n 0, 1) := by decide +kernel
theorem dX8_staged_15 : decode cX8_staged 15 = .ok (.getfield 14, 3) := by decide +kernel
theorem dX8_staged_18 : decode cX8_staged 18 = .ok (.invokevirtual 327, 3) := by decide +kernel
theorem dX8_staged_21 : decode cX8_staged 21 = .ok (.aload_n 0, 1) := by decide +kernel
theorem dX8_staged_22 : decode cX8_staged 22 = .ok (.getfield 40, 3) := by decide +kernel
theorem dX8_staged_25 : decode cX8_staged 25 = .ok (.getfield 118, 3) := by decide +kernel
theorem dX8_staged_28 : decode cX8_staged 28 = .ok (.aload_n 0, 1) := by decide +kernel
theorem dX8_staged_29 : decode cX8_staged 29 = .ok (.getfield 18, 3) := by decide +kernel
theorem dX8_staged_32 : decode cX8_staged 32 = .ok (.invokevirtual 331, 3) := by decide +kernel
theorem dX8_staged_35 : decode cX8_staged 35 = .ok (.aload_n 0, 1) := by decide +kernel
theorem dX8_staged_36 : decode cX8_staged 36 = .ok (.getfield 40, 3) := by decide +kernel
theorem dX8_staged_39 : decode cX8_staged 39 = .ok (.getfield 118, 3) := by decide +kernel
theorem dX8_staged_42 : decode cX8_staged 42 = .ok (.aload_n 0, 1) := by decide +kernel
theorem dX8_staged_43 : decode cX8_staged 43 = .ok (.getfield 40, 3) := by decide +kernel
theorem dX8_staged_46 : decode cX8_staged 46 = .ok (.getfield 109, 3) := by decide +kernel
theorem dX8_staged_49 : decode cX8_staged 49 = .ok (.invokevirtual 332, 3) := by decide +kernel
theorem dX8_staged_52 : decode cX8_staged 52 = .ok (.aload_n 0, 1) := by decide +kernel
theorem dX8_staged_53 : decode cX8_staged 53 = .ok (.getfield 40, 3) := by decide +kernel
theorem dX8_staged_56 : decode cX8_staged 56 = .ok (.aload_n 0, 1) := by decide +kernel
theorem dX8_staged_57 : decode cX8_staged 57 = .ok (.getfield 24, 3) := by decide +kernel
theorem dX8_staged_60 : decode cX8_staged 60 = .ok (.aload_n 0, 1) := by decide +kernel
theorem dX8_staged_61 : decode cX8_staged 61 = .ok (.getfield 28, 3) := by decide +kernel
theorem dX8_staged_64 : decode cX8_staged 64 = .ok (.aload_n 0, 1) := by decide +kernel
theorem dX8_staged_65 : decode cX8_staged 65 = .ok (.getfield 31, 3) := by decide +kernel
theorem dX8_staged_68 : decode cX8_staged 68 = .ok (.invokevirtual 336, 3) := by decide +kernel
theorem dX8_staged_71 : decode cX8_staged 71 = .ok (.aload_n 0, 1) := by decide +kernel
theorem dX8_staged_72 : decode cX8_staged 72 = .ok (.getfield 40, 3) := by decide +kernel
theorem dX8_staged_75 : decode cX8_staged 75 = .ok (.invokevirtual 340, 3) := by decide +kernel
theorem dX8_staged_78 : decode cX8_staged 78 = .ok (.aload_n 0, 1) := by decide +kernel
theorem dX8_staged_79 : decode cX8_staged 79 = .ok (.iconst 0, 1) := by decide +kernel
theorem dX8_staged_80 : decode cX8_staged 80 = .ok (.putfield 44, 3) := by decide +kernel
theorem dX8_staged_83 : decode cX8_staged 83 = .ok (.aload_n 0, 1) := by decide +kernel
theorem dX8_staged_84 : decode cX8_staged 84 = .ok (.getfield 40, 3) := by decide +kernel
theorem dX8_staged_87 : decode cX8_staged 87 = .ok (.areturn, 1) := by decide +kernel
theorem dX8_tell_0 : decode cX8_tell 0 = .ok (.aload_n 0, 1) := by decide +kernel
theorem dX8_tell_1 : decode cX8_tell 1 = .ok (.invokevirtual 343, 3) := by decide +kernel
theorem dX8_tell_4 : decode cX8_tell 4 = .ok (.ifCond .eq 6, 3) := by decide +kernel
theorem dX8_tell_7 : decode cX8_tell 7 = .ok (.bipush (-4), 2) := by decide +kernel
theorem dX8_tell_9 : decode cX8_tell 9 = .ok (.ireturn, 1) := by decide +kernel
theorem dX8_tell_10 : decode cX8_tell 10 = .ok (.aload_n 0, 1) := by decide +kernel
theorem dX8_tell_11 : decode cX8_tell 11 = .ok (.iload_n 1, 1) := by decide +kernel
theorem dX8_tell_12 : decode cX8_tell 12 = .ok (.iload_n 2, 1) := by decide +kernel
theorem dX8_tell_13 : decode cX8_tell 13 = .ok (.invokevirtual 344, 3) := by decide +kernel
theorem dX8_tell_16 : decode cX8_tell 16 = .ok (.aload_n 0, 1) := by decide +kernel
theorem dX8_tell_17 : decode cX8_tell 17 = .ok (.invokevirtual 153, 3) := by decide +kernel
theorem dX8_tell_20 : decode cX8_tell 20 = .ok (.ireturn, 1) := by decide +kernel
theorem dX8_found_0 : decode cX8_found 0 = .ok (.aload_n 0, 1) := by decide +kernel
theorem dX8_found_1 : decode cX8_found 1 = .ok (.iload_n 1, 1) := by decide +kernel
theorem dX8_found_2 : decode cX8_found 2 = .ok (.putfield 76, 3) := by decide +kernel
theorem dX8_found_5 : decode cX8_found 5 = .ok (.bipush (-10), 2) := by decide +kernel
theorem dX8_found_7 : decode cX8_found 7 = .ok (.iload_n 1, 1) := by decide +kernel
theorem dX8_found_8 : decode cX8_found 8 = .ok (.isub, 1) := by decide +kernel
theorem dX8_found_9 : decode cX8_found 9 = .ok (.ireturn, 1) := by decide +kernel
theorem dX8_goesRound_0 : decode cX8_goesRound 0 = .ok (.bipush 16, 2) := by decide +kernel
theorem dX8_goesRound_2 : decode cX8_goesRound 2 = .ok (.istore_n 2, 1) := by decide +kernel
theorem dX8_goesRound_3 : decode cX8_goesRound 3 = .ok (.iload_n 2, 1) := by decide +kernel
theorem dX8_goesRound_4 : decode cX8_goesRound 4 = .ok (.iload_n 1, 1) := by decide +kernel
theorem dX8_goesRound_5 : decode cX8_goesRound 5 = .ok (.iadd, 1) := by decide +kernel
theorem dX8_goesRound_6 : decode cX8_goesRound 6 = .ok (.bipush 40, 2) := by decide +kernel
theorem dX8_goesRound_8 : decode cX8_goesRound 8 = .ok (.if_icmp .ge 26, 3) := by decide +kernel
theorem dX8_goesRound_11 : decode cX8_goesRound 11 = .ok (.aload_n 0, 1) := by decide +kernel
theorem dX8_goesRound_12 : decode cX8_goesRound 12 = .ok (.iload_n 2, 1) := by decide +kernel
theorem dX8_goesRound_13 : decode cX8_goesRound 13 = .ok (.invokevirtual 172, 3) := by decide +kernel
theorem dX8_goesRound_16 : decode cX8_goesRound 16 = .ok (.aload_n 0, 1) := by decide +kernel
theorem dX8_goesRound_17 : decode cX8_goesRound 17 = .ok (.iload_n 2, 1) := by decide +kernel
theorem dX8_goesRound_18 : decode cX8_goesRound 18 = .ok (.iload_n 1, 1) := by decide +kernel
theorem dX8_goesRound_19 : decode cX8_goesRound 19 = .ok (.iadd, 1) := by decide +kernel
theorem dX8_goesRound_20 : decode cX8_goesRound 20 = .ok (.invokevirtual 172, 3) := by decide +kernel
theorem dX8_goesRound_23 : decode cX8_goesRound 23 = .ok (.if_icmp .eq 5, 3) := by decide +kernel
theorem dX8_goesRound_26 : decode cX8_goesRound 26 = .ok (.iconst 0, 1) := by decide +kernel
theorem dX8_goesRound_27 : decode cX8_goesRound 27 = .ok (.ireturn, 1) := by decide +kernel
theorem dX8_goesRound_28 : decode cX8_goesRound 28 = .ok (.iinc 2 1, 3) := by decide +kernel
theorem dX8_goesRound_31 : decode cX8_goesRound 31 = .ok (.goto (-28), 3) := by decide +kernel
theorem dX8_goesRound_34 : decode cX8_goesRound 34 = .ok (.iconst 1, 1) := by decide +kernel
theorem dX8_goesRound_35 : decode cX8_goesRound 35 = .ok (.ireturn, 1) := by decide +kernel
theorem dX8_allSeenIn_0 : decode cX8_allSeenIn 0 = .ok (.iconst 0, 1) := by decide +kernel
theorem dX8_allSeenIn_1 : decode cX8_allSeenIn 1 = .ok (.istore_n 2, 1) := by decide +kernel
theorem dX8_allSeenIn_2 : decode cX8_allSeenIn 2 = .ok (.iload_n 2, 1) := by decide +kernel
theorem dX8_allSeenIn_3 : decode cX8_allSeenIn 3 = .ok (.aload_n 0, 1) := by decide +kernel
theorem dX8_allSeenIn_4 : decode cX8_allSeenIn 4 = .ok (.getfield 34, 3) := by decide +kernel
theorem dX8_allSeenIn_7 : decode cX8_allSeenIn 7 = .ok (.invokevirtual 153, 3) := by decide +kernel
theorem dX8_allSeenIn_10 : decode cX8_allSeenIn 10 = .ok (.if_icmp .ge 43, 3) := by decide +kernel
theorem dX8_allSeenIn_13 : decode cX8_allSeenIn 13 = .ok (.aload_n 0, 1) := by decide +kernel
theorem dX8_allSeenIn_14 : decode cX8_allSeenIn 14 = .ok (.getfield 34, 3) := by decide +kernel
theorem dX8_allSeenIn_17 : decode cX8_allSeenIn 17 = .ok (.iload_n 2, 1) := by decide +kernel
theorem dX8_allSeenIn_18 : decode cX8_allSeenIn 18 = .ok (.invokevirtual 347, 3) := by decide +kernel
theorem dX8_allSeenIn_21 : decode cX8_allSeenIn 21 = .ok (.istore_n 3, 1) := by decide +kernel
theorem dX8_allSeenIn_22 : decode cX8_allSeenIn 22 = .ok (.iload_n 3, 1) := by decide +kernel
theorem dX8_allSeenIn_23 : decode cX8_allSeenIn 23 = .ok (.aload_n 1, 1) := by decide +kernel
theorem dX8_allSeenIn_24 : decode cX8_allSeenIn 24 = .ok (.arraylength, 1) := by decide +kernel
theorem dX8_allSeenIn_25 : decode cX8_allSeenIn 25 = .ok (.invokestatic 80, 3) := by decide +kernel
theorem dX8_allSeenIn_28 : decode cX8_allSeenIn 28 = .ok (.ifCond .eq 17, 3) := by decide +kernel
theorem dX8_allSeenIn_31 : decode cX8_allSeenIn 31 = .ok (.aload_n 1, 1) := by decide +kernel
theorem dX8_allSeenIn_32 : decode cX8_allSeenIn 32 = .ok (.iload_n 3, 1) := by decide +kernel
theorem dX8_allSeenIn_33 : decode cX8_allSeenIn 33 = .ok (.iaload, 1) := by decide +kernel
theorem dX8_allSeenIn_34 : decode cX8_allSeenIn 34 = .ok (.aload_n 0, 1) := by decide +kernel
theorem dX8_allSeenIn_35 : decode cX8_allSeenIn 35 = .ok (.getfield 34, 3) := by decide +kernel
theorem dX8_allSeenIn_38 : decode cX8_allSeenIn 38 = .ok (.iload_n 2, 1) := by decide +kernel
theorem dX8_allSeenIn_39 : decode cX8_allSeenIn 39 = .ok (.invokevirtual 350, 3) := by decide +kernel
theorem dX8_allSeenIn_42 : decode cX8_allSeenIn 42 = .ok (.if_icmp .eq 5, 3) := by decide +kernel
theorem dX8_allSeenIn_45 : decode cX8_allSeenIn 45 = .ok (.iconst 0, 1) := by decide +kernel
theorem dX8_allSeenIn_46 : decode cX8_allSeenIn 46 = .ok (.ireturn, 1) := by decide +kernel
theorem dX8_allSeenIn_47 : decode cX8_allSeenIn 47 = .ok (.iinc 2 1, 3) := by decide +kernel
theorem dX8_allSeenIn_50 : decode cX8_allSeenIn 50 = .ok (.goto (-48), 3) := by decide +kernel
theorem dX8_allSeenIn_53 : decode cX8_allSeenIn 53 = .ok (.iconst 1, 1) := by decide +kernel
theorem dX8_allSeenIn_54 : decode cX8_allSeenIn 54 = .ok (.ireturn, 1) := by decide +kernel
theorem dX8_tallyRehearsal_0 : decode cX8_tallyRehearsal 0 = .ok (.iconst 0, 1) := by decide +kernel
theorem dX8_tallyRehearsal_1 : decode cX8_tallyRehearsal 1 = .ok (.istore_n 1, 1) := by decide +kernel
theorem dX8_tallyRehearsal_2 : decode cX8_tallyRehearsal 2 = .ok (.iload_n 1, 1) := by decide +kernel
theorem dX8_tallyRehearsal_3 : decode cX8_tallyRehearsal 3 = .ok (.bipush 40, 2) := by decide +kernel
theorem dX8_tallyRehearsal_5 : decode cX8_tallyRehearsal 5 = .ok (.if_icmp .ge 40, 3) := by decide +kernel
theorem dX8_tallyRehearsal_8 : decode cX8_tallyRehearsal 8 = .ok (.aload_n 0, 1) := by decide +kernel
theorem dX8_tallyRehearsal_9 : decode cX8_tallyRehearsal 9 = .ok (.getfield 62, 3) := by decide +kernel
theorem dX8_tallyRehearsal_12 : decode cX8_tallyRehearsal 12 = .ok (.iload_n 1, 1) := by decide +kernel
theorem dX8_tallyRehearsal_13 : decode cX8_tallyRehearsal 13 = .ok (.iaload, 1) := by decide +kernel
theorem dX8_tallyRehearsal_14 : decode cX8_tallyRehearsal 14 = .ok (.istore_n 2, 1) := by decide +kernel
theorem dX8_tallyRehearsal_15 : decode cX8_tallyRehearsal 15 = .ok (.iload_n 2, 1) := by decide +kernel
theorem dX8_tallyRehearsal_16 : decode cX8_tallyRehearsal 16 = .ok (.bipush 8, 2) := by decide +kernel
theorem dX8_tallyRehearsal_18 : decode cX8_tallyRehearsal 18 = .ok (.invokestatic 80, 3) := by decide +kernel
theorem dX8_tallyRehearsal_21 : decode cX8_tallyRehearsal 21 = .ok (.ifCond .eq 18, 3) := by decide +kernel
theorem dX8_tallyRehearsal_24 : decode cX8_tallyRehearsal 24 = .ok (.aload_n 0, 1) := by decide +kernel
theorem dX8_tallyRehearsal_25 : decode cX8_tallyRehearsal 25 = .ok (.getfield 66, 3) := by decide +kernel
theorem dX8_tallyRehearsal_28 : decode cX8_tallyRehearsal 28 = .ok (.iload_n 1, 1) := by decide +kernel
theorem dX8_tallyRehearsal_29 : decode cX8_tallyRehearsal 29 = .ok (.bipush 8, 2) := by decide +kernel
theorem dX8_tallyRehearsal_31 : decode cX8_tallyRehearsal 31 = .ok (.imul, 1) := by decide +kernel
theorem dX8_tallyRehearsal_32 : decode cX8_tallyRehearsal 32 = .ok (.iload_n 2, 1) := by decide +kernel
theorem dX8_tallyRehearsal_33 : decode cX8_tallyRehearsal 33 = .ok (.iadd, 1) := by decide +kernel
theorem dX8_tallyRehearsal_34 : decode cX8_tallyRehearsal 34 = .ok (.dup2, 1) := by decide +kernel
theorem dX8_tallyRehearsal_35 : decode cX8_tallyRehearsal 35 = .ok (.iaload, 1) := by decide +kernel
theorem dX8_tallyRehearsal_36 : decode cX8_tallyRehearsal 36 = .ok (.iconst 1, 1) := by decide +kernel
theorem dX8_tallyRehearsal_37 : decode cX8_tallyRehearsal 37 = .ok (.iadd, 1) := by decide +kernel
theorem dX8_tallyRehearsal_38 : decode cX8_tallyRehearsal 38 = .ok (.iastore, 1) := by decide +kernel
theorem dX8_tallyRehearsal_39 : decode cX8_tallyRehearsal 39 = .ok (.iinc 1 1, 3) := by decide +kernel
theorem dX8_tallyRehearsal_42 : decode cX8_tallyRehearsal 42 = .ok (.goto (-40), 3) := by decide +kernel
theorem dX8_tallyRehearsal_45 : decode cX8_tallyRehearsal 45 = .ok (.return_, 1) := by decide +kernel
theorem dX8_greatestTally_0 : decode cX8_greatestTally 0 = .ok (.iconst 0, 1) := by decide +kernel
theorem dX8_greatestTally_1 : decode cX8_greatestTally 1 = .ok (.istore_n 2, 1) := by decide +kernel
theorem dX8_greatestTally_2 : decode cX8_greatestTally 2 = .ok (.iconst 0, 1) := by decide +kernel
theorem dX8_greatestTally_3 : decode cX8_greatestTally 3 = .ok (.istore_n 3, 1) := by decide +kernel
theorem dX8_greatestTally_4 : decode cX8_greatestTally 4 = .ok (.iload_n 3, 1) := by decide +kernel
theorem dX8_greatestTally_5 : decode cX8_greatestTally 5 = .ok (.bipush 8, 2) := by decide +kernel
theorem dX8_greatestTally_7 : decode cX8_greatestTally 7 = .ok (.if_icmp .ge 25, 3) := by decide +kernel
theorem dX8_greatestTally_10 : decode cX8_greatestTally 10 = .ok (.iload_n 2, 1) := by decide +kernel
theorem dX8_greatestTally_11 : decode cX8_greatestTally 11 = .ok (.aload_n 0, 1) := by decide +kernel
theorem dX8_greatestTally_12 : decode cX8_greatestTally 12 = .ok (.getfield 66, 3) := by decide +kernel
theorem dX8_greatestTally_15 : decode cX8_greatestTally 15 = .ok (.iload_n 1, 1) := by decide +kernel
theorem dX8_greatestTally_16 : decode cX8_greatestTally 16 = .ok (.bipush 8, 2) := by decide +kernel
theorem dX8_greatestTally_18 : decode cX8_greatestTally 18 = .ok (.imul, 1) := by decide +kernel
theorem dX8_greatestTally_19 : decode cX8_greatestTally 19 = .ok (.iload_n 3, 1) := by decide +kernel
theorem dX8_greatestTally_20 : decode cX8_greatestTally 20 = .ok (.iadd, 1) := by decide +kernel
theorem dX8_greatestTally_21 : decode cX8_greatestTally 21 = .ok (.iaload, 1) := by decide +kernel
theorem dX8_greatestTally_22 : decode cX8_greatestTally 22 = .ok (.invokestatic 212, 3) := by decide +kernel
theorem dX8_greatestTally_25 : decode cX8_greatestTally 25 = .ok (.istore_n 2, 1) := by decide +kernel
theorem dX8_greatestTally_26 : decode cX8_greatestTally 26 = .ok (.iinc 3 1, 3) := by decide +kernel
theorem dX8_greatestTally_29 : decode cX8_greatestTally 29 = .ok (.goto (-25), 3) := by decide +kernel
theorem dX8_greatestTally_32 : decode cX8_greatestTally 32 = .ok (.iload_n 2, 1) := by decide +kernel
theorem dX8_greatestTally_33 : decode cX8_greatestTally 33 = .ok (.ireturn, 1) := by decide +kernel
theorem dX8_mixLine_0 : decode cX8_mixLine 0 = .ok (.lload_n 1, 1) := by decide +kernel
theorem dX8_mixLine_1 : decode cX8_mixLine 1 = .ok (.lstore 4, 2) := by decide +kernel
theorem dX8_mixLine_3 : decode cX8_mixLine 3 = .ok (.ldc2_w 298, 3) := by decide +kernel
theorem dX8_mixLine_6 : decode cX8_mixLine 6 = .ok (.lload 4, 2) := by decide +kernel
theorem dX8_mixLine_8 : decode cX8_mixLine 8 = .ok (.lmul, 1) := by decide +kernel
theorem dX8_mixLine_9 : decode cX8_mixLine 9 = .ok (.aload_n 0, 1) := by decide +kernel
theorem dX8_mixLine_10 : decode cX8_mixLine 10 = .ok (.iload_n 3, 1) := by decide +kernel
theorem dX8_mixLine_11 : decode cX8_mixLine 11 = .ok (.iconst 0, 1) := by decide +kernel
theorem dX8_mixLine_12 : decode cX8_mixLine 12 = .ok (.invokevirtual 353, 3) := by decide +kernel
theorem dX8_mixLine_15 : decode cX8_mixLine 15 = .ok (.i2l, 1) := by decide +kernel
theorem dX8_mixLine_16 : decode cX8_mixLine 16 = .ok (.ladd, 1) := by decide +kernel
theorem dX8_mixLine_17 : decode cX8_mixLine 17 = .ok (.lstore 4, 2) := by decide +kernel
theorem dX8_mixLine_19 : decode cX8_mixLine 19 = .ok (.ldc2_w 298, 3) := by decide +kernel
theorem dX8_mixLine_22 : decode cX8_mixLine 22 = .ok (.lload 4, 2) := by decide +kernel
theorem dX8_mixLine_24 : decode cX8_mixLine 24 = .ok (.lmul, 1) := by decide +kernel
theorem dX8_mixLine_25 : decode cX8_mixLine 25 = .ok (.aload_n 0, 1) := by decide +kernel
theorem dX8_mixLine_26 : decode cX8_mixLine 26 = .ok (.iload_n 3, 1) := by decide +kernel
theorem dX8_mixLine_27 : decode cX8_mixLine 27 = .ok (.iconst 1, 1) := by decide +kernel
theorem dX8_mixLine_28 : decode cX8_mixLine 28 = .ok (.invokevirtual 353, 3) := by decide +kernel
theorem dX8_mixLine_31 : decode cX8_mixLine 31 = .ok (.i2l, 1) := by decide +kernel
theorem dX8_mixLine_32 : decode cX8_mixLine 32 = .ok (.ladd, 1) := by decide +kernel
theorem dX8_mixLine_33 : decode cX8_mixLine 33 = .ok (.lstore 4, 2) := by decide +kernel
theorem dX8_mixLine_35 : decode cX8_mixLine 35 = .ok (.ldc2_w 298, 3) := by decide +kernel
theorem dX8_mixLine_38 : decode cX8_mixLine 38 = .ok (.lload 4, 2) := by decide +kernel
theorem dX8_mixLine_40 : decode cX8_mixLine 40 = .ok (.lmul, 1) := by decide +kernel
theorem dX8_mixLine_41 : decode cX8_mixLine 41 = .ok (.aload_n 0, 1) := by decide +kernel
theorem dX8_mixLine_42 : decode cX8_mixLine 42 = .ok (.iload_n 3, 1) := by decide +kernel
theorem dX8_mixLine_43 : decode cX8_mixLine 43 = .ok (.iconst 0, 1) := by decide +kernel
theorem dX8_mixLine_44 : decode cX8_mixLine 44 = .ok (.invokevirtual 356, 3) := by decide +kernel
theorem dX8_mixLine_47 : decode cX8_mixLine 47 = .ok (.i2l, 1) := by decide +kernel
theorem dX8_mixLine_48 : decode cX8_mixLine 48 = .ok (.ladd, 1) := by decide +kernel
theorem dX8_mixLine_49 : decode cX8_mixLine 49 = .ok (.lstore 4, 2) := by decide +kernel
theorem dX8_mixLine_51 : decode cX8_mixLine 51 = .ok (.ldc2_w 298, 3) := by decide +kernel
theorem dX8_mixLine_54 : decode cX8_mixLine 54 = .ok (.lload 4, 2) := by decide +kernel
theorem dX8_mixLine_56 : decode cX8_mixLine 56 = .ok (.lmul, 1) := by decide +kernel
theorem dX8_mixLine_57 : decode cX8_mixLine 57 = .ok (.aload_n 0, 1) := by decide +kernel
theorem dX8_mixLine_58 : decode cX8_mixLine 58 = .ok (.iload_n 3, 1) := by decide +kernel
theorem dX8_mixLine_59 : decode cX8_mixLine 59 = .ok (.iconst 1, 1) := by decide +kernel
theorem dX8_mixLine_60 : decode cX8_mixLine 60 = .ok (.invokevirtual 356, 3) := by decide +kernel
theorem dX8_mixLine_63 : decode cX8_mixLine 63 = .ok (.i2l, 1) := by decide +kernel
theorem dX8_mixLine_64 : decode cX8_mixLine 64 = .ok (.ladd, 1) := by decide +kernel
theorem dX8_mixLine_65 : decode cX8_mixLine 65 = .ok (.lstore 4, 2) := by decide +kernel
theorem dX8_mixLine_67 : decode cX8_mixLine 67 = .ok (.ldc2_w 298, 3) := by decide +kernel
theorem dX8_mixLine_70 : decode cX8_mixLine 70 = .ok (.lload 4, 2) := by decide +kernel
theorem dX8_mixLine_72 : decode cX8_mixLine 72 = .ok (.lmul, 1) := by decide +kernel
theorem dX8_mixLine_73 : decode cX8_mixLine 73 = .ok (.aload_n 0, 1) := by decide +kernel
theorem dX8_mixLine_74 : decode cX8_mixLine 74 = .ok (.iconst 5, 1) := by decide +kernel
theorem dX8_mixLine_75 : decode cX8_mixLine 75 = .ok (.iconst 0, 1) := by decide +kernel
theorem dX8_mixLine_76 : decode cX8_mixLine 76 = .ok (.iload_n 3, 1) := by decide +kernel
theorem dX8_mixLine_77 : decode cX8_mixLine 77 = .ok (.iconst 5, 1) := by decide +kernel
theorem dX8_mixLine_78 : decode cX8_mixLine 78 = .ok (.iconst 0, 1) := by decide +kernel
theorem dX8_mixLine_79 : decode cX8_mixLine 79 = .ok (.invokevirtual 359, 3) := by decide +kernel
theorem dX8_mixLine_82 : decode cX8_mixLine 82 = .ok (.ladd, 1) := by decide +kernel
theorem dX8_mixLine_83 : decode cX8_mixLine 83 = .ok (.lstore 4, 2) := by decide +kernel
theorem dX8_mixLine_85 : decode cX8_mixLine 85 = .ok (.ldc2_w 298, 3) := by decide +kernel
theorem dX8_mixLine_88 : decode cX8_mixLine 88 = .ok (.lload 4, 2) := by decide +kernel
theorem dX8_mixLine_90 : decode cX8_mixLine 90 = .ok (.lmul, 1) := by decide +kernel
theorem dX8_mixLine_91 : decode cX8_mixLine 91 = .ok (.aload_n 0, 1) := by decide +kernel
theorem dX8_mixLine_92 : decode cX8_mixLine 92 = .ok (.iconst 5, 1) := by decide +kernel
theorem dX8_mixLine_93 : decode cX8_mixLine 93 = .ok (.iconst 0, 1) := by decide +kernel
theorem dX8_mixLine_94 : decode cX8_mixLine 94 = .ok (.iload_n 3, 1) := by decide +kernel
theorem dX8_mixLine_95 : decode cX8_mixLine 95 = .ok (.iconst 5, 1) := by decide +kernel
theorem dX8_mixLine_96 : decode cX8_mixLine 96 = .ok (.iconst 1, 1) := by decide +kernel
theorem dX8_mixLine_97 : decode cX8_mixLine 97 = .ok (.invokevirtual 359, 3) := by decide +kernel
theorem dX8_mixLine_100 : decode cX8_mixLine 100 = .ok (.ladd, 1) := by decide +kernel
theorem dX8_mixLine_101 : decode cX8_mixLine 101 = .ok (.lstore 4, 2) := by decide +kernel
theorem dX8_mixLine_103 : decode cX8_mixLine 103 = .ok (.iconst 0, 1) := by decide +kernel
theorem dX8_mixLine_104 : decode cX8_mixLine 104 = .ok (.istore 6, 2) := by decide +kernel
theorem dX8_mixLine_106 : decode cX8_mixLine 106 = .ok (.iload 6, 2) := by decide +kernel
theorem dX8_mixLine_108 : decode cX8_mixLine 108 = .ok (.iconst 3, 1) := by decide +kernel
theorem dX8_mixLine_109 : decode cX8_mixLine 109 = .ok (.if_icmp .ge 29, 3) := by decide +kernel
theorem dX8_mixLine_112 : decode cX8_mixLine 112 = .ok (.ldc2_w 298, 3) := by decide +kernel
theorem dX8_mixLine_115 : decode cX8_mixLine 115 = .ok (.lload 4, 2) := by decide +kernel
theorem dX8_mixLine_117 : decode cX8_mixLine 117 = .ok (.lmul, 1) := by decide +kernel
theorem dX8_mixLine_118 : decode cX8_mixLine 118 = .ok (.aload_n 0, 1) := by decide +kernel
theorem dX8_mixLine_119 : decode cX8_mixLine 119 = .ok (.iconst 3, 1) := by decide +kernel
theorem dX8_mixLine_120 : decode cX8_mixLine 120 = .ok (.bipush 6, 2) := by decide +kernel
theorem dX8_mixLine_122 : decode cX8_mixLine 122 = .ok (.iload_n 3, 1) := by decide +kernel
theorem dX8_mixLine_123 : decode cX8_mixLine 123 = .ok (.iload 6, 2) := by decide +kernel
theorem dX8_mixLine_125 : decode cX8_mixLine 125 = .ok (.invokevirtual 363, 3) := by decide +kernel
theorem dX8_mixLine_128 : decode cX8_mixLine 128 = .ok (.i2l, 1) := by decide +kernel
theorem dX8_mixLine_129 : decode cX8_mixLine 129 = .ok (.ladd, 1) := by decide +kernel
theorem dX8_mixLine_130 : decode cX8_mixLine 130 = .ok (.lstore 4, 2) := by decide +kernel
theorem dX8_mixLine_132 : decode cX8_mixLine 132 = .ok (.iinc 6 1, 3) := by decide +kernel
theorem dX8_mixLine_135 : decode cX8_mixLine 135 = .ok (.goto (-29), 3) := by decide +kernel
theorem dX8_mixLine_138 : decode cX8_mixLine 138 = .ok (.lload 4, 2) := by decide +kernel
theorem dX8_mixLine_140 : decode cX8_mixLine 140 = .ok (.lreturn, 1) := by decide +kernel
theorem dX8_mixHole_0 : decode cX8_mixHole 0 = .ok (.lload_n 1, 1) := by decide +kernel
theorem dX8_mixHole_1 : decode cX8_mixHole 1 = .ok (.lstore 4, 2) := by decide +kernel
theorem dX8_mixHole_3 : decode cX8_mixHole 3 = .ok (.iconst 0, 1) := by decide +kernel
theorem dX8_mixHole_4 : decode cX8_mixHole 4 = .ok (.istore 6, 2) := by decide +kernel
theorem dX8_mixHole_6 : decode cX8_mixHole 6 = .ok (.iload 6, 2) := by decide +kernel
theorem dX8_mixHole_8 : decode cX8_mixHole 8 = .ok (.iconst 4, 1) := by decide +kernel
theorem dX8_mixHole_9 : decode cX8_mixHole 9 = .ok (.if_icmp .ge 26, 3) := by decide +kernel
theorem dX8_mixHole_12 : decode cX8_mixHole 12 = .ok (.ldc2_w 298, 3) := by decide +kernel
theorem dX8_mixHole_15 : decode cX8_mixHole 15 = .ok (.lload 4, 2) := by decide +kernel
theorem dX8_mixHole_17 : decode cX8_mixHole 17 = .ok (.lmul, 1) := by decide +kernel
theorem dX8_mixHole_18 : decode cX8_mixHole 18 = .ok (.aload_n 0, 1) := by decide +kernel
theorem dX8_mixHole_19 : decode cX8_mixHole 19 = .ok (.iload_n 3, 1) := by decide +kernel
theorem dX8_mixHole_20 : decode cX8_mixHole 20 = .ok (.iload 6, 2) := by decide +kernel
theorem dX8_mixHole_22 : decode cX8_mixHole 22 = .ok (.invokevirtual 366, 3) := by decide +kernel
theorem dX8_mixHole_25 : decode cX8_mixHole 25 = .ok (.i2l, 1) := by decide +kernel
theorem dX8_mixHole_26 : decode cX8_mixHole 26 = .ok (.ladd, 1) := by decide +kernel
theorem dX8_mixHole_27 : decode cX8_mixHole 27 = .ok (.lstore 4, 2) := by decide +kernel
theorem dX8_mixHole_29 : decode cX8_mixHole 29 = .ok (.iinc 6 1, 3) := by decide +kernel
theorem dX8_mixHole_32 : decode cX8_mixHole 32 = .ok (.goto (-26), 3) := by decide +kernel
theorem dX8_mixHole_35 : decode cX8_mixHole 35 = .ok (.ldc2_w 298, 3) := by decide +kernel
theorem dX8_mixHole_38 : decode cX8_mixHole 38 = .ok (.lload 4, 2) := by decide +kernel
theorem dX8_mixHole_40 : decode cX8_mixHole 40 = .ok (.lmul, 1) := by decide +kernel
theorem dX8_mixHole_41 : decode cX8_mixHole 41 = .ok (.aload_n 0, 1) := by decide +kernel
theorem dX8_mixHole_42 : decode cX8_mixHole 42 = .ok (.iconst 3, 1) := by decide +kernel
theorem dX8_mixHole_43 : decode cX8_mixHole 43 = .ok (.iload_n 3, 1) := by decide +kernel
theorem dX8_mixHole_44 : decode cX8_mixHole 44 = .ok (.invokevirtual 369, 3) := by decide +kernel
theorem dX8_mixHole_47 : decode cX8_mixHole 47 = .ok (.i2l, 1) := by decide +kernel
theorem dX8_mixHole_48 : decode cX8_mixHole 48 = .ok (.ladd, 1) := by decide +kernel
theorem dX8_mixHole_49 : decode cX8_mixHole 49 = .ok (.lstore 4, 2) := by decide +kernel
theorem dX8_mixHole_51 : decode cX8_mixHole 51 = .ok (.ldc2_w 298, 3) := by decide +kernel
theorem dX8_mixHole_54 : decode cX8_mixHole 54 = .ok (.lload 4, 2) := by decide +kernel
theorem dX8_mixHole_56 : decode cX8_mixHole 56 = .ok (.lmul, 1) := by decide +kernel
theorem dX8_mixHole_57 : decode cX8_mixHole 57 = .ok (.aload_n 0, 1) := by decide +kernel
theorem dX8_mixHole_58 : decode cX8_mixHole 58 = .ok (.iload_n 3, 1) := by decide +kernel
theorem dX8_mixHole_59 : decode cX8_mixHole 59 = .ok (.invokevirtual 372, 3) := by decide +kernel
theorem dX8_mixHole_62 : decode cX8_mixHole 62 = .ok (.i2l, 1) := by decide +kernel
theorem dX8_mixHole_63 : decode cX8_mixHole 63 = .ok (.ladd, 1) := by decide +kernel
theorem dX8_mixHole_64 : decode cX8_mixHole 64 = .ok (.lstore 4, 2) := by decide +kernel
theorem dX8_mixHole_66 : decode cX8_mixHole 66 = .ok (.ldc2_w 298, 3) := by decide +kernel
theorem dX8_mixHole_69 : decode cX8_mixHole 69 = .ok (.lload 4, 2) := by decide +kernel
theorem dX8_mixHole_71 : decode cX8_mixHole 71 = .ok (.lmul, 1) := by decide +kernel
theorem dX8_mixHole_72 : decode cX8_mixHole 72 = .ok (.aload_n 0, 1) := by decide +kernel
theorem dX8_mixHole_73 : decode cX8_mixHole 73 = .ok (.iload_n 3, 1) := by decide +kernel
theorem dX8_mixHole_74 : decode cX8_mixHole 74 = .ok (.invokevirtual 375, 3) := by decide +kernel
theorem dX8_mixHole_77 : decode cX8_mixHole 77 = .ok (.i2l, 1) := by decide +kernel
theorem dX8_mixHole_78 : decode cX8_mixHole 78 = .ok (.ladd, 1) := by decide +kernel
theorem dX8_mixHole_79 : decode cX8_mixHole 79 = .ok (.lreturn, 1) := by decide +kernel
theorem dX8_mixStep_0 : decode cX8_mixStep 0 = .ok (.lload_n 1, 1) := by decide +kernel
theorem dX8_mixStep_1 : decode cX8_mixStep 1 = .ok (.lstore 4, 2) := by decide +kernel
theorem dX8_mixStep_3 : decode cX8_mixStep 3 = .ok (.iconst 0, 1) := by decide +kernel
theorem dX8_mixStep_4 : decode cX8_mixStep 4 = .ok (.istore 6, 2) := by decide +kernel
theorem dX8_mixStep_6 : decode cX8_mixStep 6 = .ok (.iload 6, 2) := by decide +kernel
theorem dX8_mixStep_8 : decode cX8_mixStep 8 = .ok (.iconst 4, 1) := by decide +kernel
theorem dX8_mixStep_9 : decode cX8_mixStep 9 = .ok (.if_icmp .ge 26, 3) := by decide +kernel
theorem dX8_mixStep_12 : decode cX8_mixStep 12 = .ok (.ldc2_w 298, 3) := by decide +kernel
theorem dX8_mixStep_15 : decode cX8_mixStep 15 = .ok (.lload 4, 2) := by decide +kernel
theorem dX8_mixStep_17 : decode cX8_mixStep 17 = .ok (.lmul, 1) := by decide +kernel
theorem dX8_mixStep_18 : decode cX8_mixStep 18 = .ok (.aload_n 0, 1) := by decide +kernel
theorem dX8_mixStep_19 : decode cX8_mixStep 19 = .ok (.iload_n 3, 1) := by decide +kernel
theorem dX8_mixStep_20 : decode cX8_mixStep 20 = .ok (.iload 6, 2) := by decide +kernel
theorem dX8_mixStep_22 : decode cX8_mixStep 22 = .ok (.invokevirtual 378, 3) := by decide +kernel
theorem dX8_mixStep_25 : decode cX8_mixStep 25 = .ok (.i2l, 1) := by decide +kernel
theorem dX8_mixStep_26 : decode cX8_mixStep 26 = .ok (.ladd, 1) := by decide +kernel
theorem dX8_mixStep_27 : decode cX8_mixStep 27 = .ok (.lstore 4, 2) := by decide +kernel
theorem dX8_mixStep_29 : decode cX8_mixStep 29 = .ok (.iinc 6 1, 3) := by decide +kernel
theorem dX8_mixStep_32 : decode cX8_mixStep 32 = .ok (.goto (-26), 3) := by decide +kernel
theorem dX8_mixStep_35 : decode cX8_mixStep 35 = .ok (.ldc2_w 298, 3) := by decide +kernel
theorem dX8_mixStep_38 : decode cX8_mixStep 38 = .ok (.lload 4, 2) := by decide +kernel
theorem dX8_mixStep_40 : decode cX8_mixStep 40 = .ok (.lmul, 1) := by decide +kernel
theorem dX8_mixStep_41 : decode cX8_mixStep 41 = .ok (.aload_n 0, 1) := by decide +kernel
theorem dX8_mixStep_42 : decode cX8_mixStep 42 = .ok (.iconst 3, 1) := by decide +kernel
theorem dX8_mixStep_43 : decode cX8_mixStep 43 = .ok (.iload_n 3, 1) := by decide +kernel
theorem dX8_mixStep_44 : decode cX8_mixStep 44 = .ok (.invokevirtual 381, 3) := by decide +kernel
theorem dX8_mixStep_47 : decode cX8_mixStep 47 = .ok (.i2l, 1) := by decide +kernel
theorem dX8_mixStep_48 : decode cX8_mixStep 48 = .ok (.ladd, 1) := by decide +kernel
theorem dX8_mixStep_49 : decode cX8_mixStep 49 = .ok (.lstore 4, 2) := by decide +kernel
theorem dX8_mixStep_51 : decode cX8_mixStep 51 = .ok (.ldc2_w 298, 3) := by decide +kernel
theorem dX8_mixStep_54 : decode cX8_mixStep 54 = .ok (.lload 4, 2) := by decide +kernel
theorem dX8_mixStep_56 : decode cX8_mixStep 56 = .ok (.lmul, 1) := by decide +kernel
theorem dX8_mixStep_57 : decode cX8_mixStep 57 = .ok (.aload_n 0, 1) := by decide +kernel
theorem dX8_mixStep_58 : decode cX8_mixStep 58 = .ok (.bipush 7, 2) := by decide +kernel
theorem dX8_mixStep_60 : decode cX8_mixStep 60 = .ok (.iload_n 3, 1) := by decide +kernel
theorem dX8_mixStep_61 : decode cX8_mixStep 61 = .ok (.iconst 0, 1) := by decide +kernel
theorem dX8_mixStep_62 : decode cX8_mixStep 62 = .ok (.invokevirtual 384, 3) := by decide +kernel
theorem dX8_mixStep_65 : decode cX8_mixStep 65 = .ok (.i2l, 1) := by decide +kernel
theorem dX8_mixStep_66 : decode cX8_mixStep 66 = .ok (.ladd, 1) := by decide +kernel
theorem dX8_mixStep_67 : decode cX8_mixStep 67 = .ok (.lstore 4, 2) := by decide +kernel
theorem dX8_mixStep_69 : decode cX8_mixStep 69 = .ok (.ldc2_w 298, 3) := by decide +kernel
theorem dX8_mixStep_72 : decode cX8_mixStep 72 = .ok (.lload 4, 2) := by decide +kernel
theorem dX8_mixStep_74 : decode cX8_mixStep 74 = .ok (.lmul, 1) := by decide +kernel
theorem dX8_mixStep_75 : decode cX8_mixStep 75 = .ok (.aload_n 0, 1) := by decide +kernel
theorem dX8_mixStep_76 : decode cX8_mixStep 76 = .ok (.bipush 7, 2) := by decide +kernel
theorem dX8_mixStep_78 : decode cX8_mixStep 78 = .ok (.iload_n 3, 1) := by decide +kernel
theorem dX8_mixStep_79 : decode cX8_mixStep 79 = .ok (.iconst 1, 1) := by decide +kernel
theorem dX8_mixStep_80 : decode cX8_mixStep 80 = .ok (.invokevirtual 384, 3) := by decide +kernel
theorem dX8_mixStep_83 : decode cX8_mixStep 83 = .ok (.i2l, 1) := by decide +kernel
theorem dX8_mixStep_84 : decode cX8_mixStep 84 = .ok (.ladd, 1) := by decide +kernel
theorem dX8_mixStep_85 : decode cX8_mixStep 85 = .ok (.lreturn, 1) := by decide +kernel
theorem dX9_init_0 : decode cX9_init 0 = .ok (.aload_n 0, 1) := by decide +kernel
theorem dX9_init_1 : decode cX9_init 1 = .ok (.invokespecial 1, 3) := by decide +kernel
theorem dX9_init_4 : decode cX9_init 4 = .ok (.aload_n 0, 1) := by decide +kernel
theorem dX9_init_5 : decode cX9_init 5 = .ok (.iconst 4, 1) := by decide +kernel
theorem dX9_init_6 : decode cX9_init 6 = .ok (.newarray .int, 2) := by decide +kernel
theorem dX9_init_8 : decode cX9_init 8 = .ok (.putfield 7, 3) := by decide +kernel
theorem dX9_init_11 : decode cX9_init 11 = .ok (.aload_n 0, 1) := by decide +kernel
theorem dX9_init_12 : decode cX9_init 12 = .ok (.iconst 4, 1) := by decide +kernel
theorem dX9_init_13 : decode cX9_init 13 = .ok (.newarray .int, 2) := by decide +kernel
theorem dX9_init_15 : decode cX9_init 15 = .ok (.putfield 13, 3) := by decide +kernel
theorem dX9_init_18 : decode cX9_init 18 = .ok (.aload_n 0, 1) := by decide +kernel
theorem dX9_init_19 : decode cX9_init 19 = .ok (.sipush 240, 3) := by decide +kernel
theorem dX9_init_22 : decode cX9_init 22 = .ok (.newarray .int, 2) := by decide +kernel
theorem dX9_init_24 : decode cX9_init 24 = .ok (.putfield 16, 3) := by decide +kernel
theorem dX9_init_27 : decode cX9_init 27 = .ok (.aload_n 0, 1) := by decide +kernel
theorem dX9_init_28 : decode cX9_init 28 = .ok (.bipush 60, 2) := by decide +kernel
theorem dX9_init_30 : decode cX9_init 30 = .ok (.newarray .int, 2) := by decide +kernel
theorem dX9_init_32 : decode cX9_init 32 = .ok (.putfield 19, 3) := by decide +kernel
theorem dX9_init_35 : decode cX9_init 35 = .ok (.aload_n 0, 1) := by decide +kernel
theorem dX9_init_36 : decode cX9_init 36 = .ok (.bipush 88, 2) := by decide +kernel
theorem dX9_init_38 : decode cX9_init 38 = .ok (.newarray .int, 2) := by decide +kernel
theorem dX9_init_40 : decode cX9_init 40 = .ok (.putfield 22, 3) := by decide +kernel
theorem dX9_init_43 : decode cX9_init 43 = .ok (.aload_n 0, 1) := by decide +kernel
theorem dX9_init_44 : decode cX9_init 44 = .ok (.iconst 2, 1) := by decide +kernel
theorem dX9_init_45 : decode cX9_init 45 = .ok (.newarray .int, 2) := by decide +kernel
theorem dX9_init_47 : decode cX9_init 47 = .ok (.putfield 25, 3) := by decide +kernel
theorem dX9_init_50 : decode cX9_init 50 = .ok (.aload_n 0, 1) := by decide +kernel
theorem dX9_init_51 : decode cX9_init 51 = .ok (.bipush 24, 2) := by decide +kernel
theorem dX9_init_53 : decode cX9_init 53 = .ok (.newarray .int, 2) := by decide +kernel
theorem dX9_init_55 : decode cX9_init 55 = .ok (.putfield 28, 3) := by decide +kernel
theorem dX9_init_58 : decode cX9_init 58 = .ok (.aload_n 0, 1) := by decide +kernel
theorem dX9_init_59 : decode cX9_init 59 = .ok (.bipush 36, 2) := by decide +kernel
theorem dX9_init_61 : decode cX9_init 61 = .ok (.newarray .int, 2) := by decide +kernel
theorem dX9_init_63 : decode cX9_init 63 = .ok (.putfield 31, 3) := by decide +kernel
theorem dX9_init_66 : decode cX9_init 66 = .ok (.aload_n 0, 1) := by decide +kernel
theorem dX9_init_67 : decode cX9_init 67 = .ok (.bipush 24, 2) := by decide +kernel
theorem dX9_init_69 : decode cX9_init 69 = .ok (.newarray .int, 2) := by decide +kernel
theorem dX9_init_71 : decode cX9_init 71 = .ok (.putfield 34, 3) := by decide +kernel
theorem dX9_init_74 : decode cX9_init 74 = .ok (.aload_n 0, 1) := by decide +kernel
theorem dX9_init_75 : decode cX9_init 75 = .ok (.bipush 24, 2) := by decide +kernel
theorem dX9_init_77 : decode cX9_init 77 = .ok (.newarray .int, 2) := by decide +kernel
theorem dX9_init_79 : decode cX9_init 79 = .ok (.putfield 37, 3) := by decide +kernel
theorem dX9_init_82 : decode cX9_init 82 = .ok (.aload_n 0, 1) := by decide +kernel
theorem dX9_init_83 : decode cX9_init 83 = .ok (.bipush 6, 2) := by decide +kernel
theorem dX9_init_85 : decode cX9_init 85 = .ok (.newarray .int, 2) := by decide +kernel
theorem dX9_init_87 : decode cX9_init 87 = .ok (.putfield 40, 3) := by decide +kernel
theorem dX9_init_90 : decode cX9_init 90 = .ok (.aload_n 0, 1) := by decide +kernel
theorem dX9_init_91 : decode cX9_init 91 = .ok (.bipush 40, 2) := by decide +kernel
theorem dX9_init_93 : decode cX9_init 93 = .ok (.newarray .int, 2) := by decide +kernel
theorem dX9_init_95 : decode cX9_init 95 = .ok (.putfield 43, 3) := by decide +kernel
theorem dX9_init_98 : decode cX9_init 98 = .ok (.aload_n 0, 1) := by decide +kernel
theorem dX9_init_99 : decode cX9_init 99 = .ok (.bipush 40, 2) := by decide +kernel
theorem dX9_init_101 : decode cX9_init 101 = .ok (.newarray .int, 2) := by decide +kernel
theorem dX9_init_103 : decode cX9_init 103 = .ok (.putfield 46, 3) := by decide +kernel
theorem dX9_init_106 : decode cX9_init 106 = .ok (.aload_n 0, 1) := by decide +kernel
theorem dX9_init_107 : decode cX9_init 107 = .ok (.bipush 40, 2) := by decide +kernel
theorem dX9_init_109 : decode cX9_init 109 = .ok (.newarray .int, 2) := by decide +kernel
theorem dX9_init_111 : decode cX9_init 111 = .ok (.putfield 49, 3) := by decide +kernel
theorem dX9_init_114 : decode cX9_init 114 = .ok (.aload_n 0, 1) := by decide +kernel
theorem dX9_init_115 : decode cX9_init 115 = .ok (.bipush 40, 2) := by decide +kernel
theorem dX9_init_117 : decode cX9_init 117 = .ok (.newarray .int, 2) := by decide +kernel
theorem dX9_init_119 : decode cX9_init 119 = .ok (.putfield 52, 3) := by decide +kernel
theorem dX9_init_122 : decode cX9_init 122 = .ok (.aload_n 0, 1) := by decide +kernel
theorem dX9_init_123 : decode cX9_init 123 = .ok (.bipush 16, 2) := by decide +kernel
theorem dX9_init_125 : decode cX9_init 125 = .ok (.newarray .int, 2) := by decide +kernel
theorem dX9_init_127 : decode cX9_init 127 = .ok (.putfield 55, 3) := by decide +kernel
theorem dX9_init_130 : decode cX9_init 130 = .ok (.aload_n 0, 1) := by decide +kernel
theorem dX9_init_131 : decode cX9_init 131 = .ok (.sipush 360, 3) := by decide +kernel
theorem dX9_init_134 : decode cX9_init 134 = .ok (.newarray .int, 2) := by decide +kernel
theorem dX9_init_136 : decode cX9_init 136 = .ok (.putfield 58, 3) := by decide +kernel
theorem dX9_init_139 : decode cX9_init 139 = .ok (.iconst 0, 1) := by decide +kernel
theorem dX9_init_140 : decode cX9_init 140 = .ok (.istore_n 1, 1) := by decide +kernel
theorem dX9_init_141 : decode cX9_init 141 = .ok (.iload_n 1, 1) := by decide +kernel
theorem dX9_init_142 : decode cX9_init 142 = .ok (.iconst 4, 1) := by decide +kernel
theorem dX9_init_143 : decode cX9_init 143 = .ok (.if_icmp .ge 16, 3) := by decide +kernel
theorem dX9_init_146 : decode cX9_init 146 = .ok (.aload_n 0, 1) := by decide +kernel
theorem dX9_init_147 : decode cX9_init 147 = .ok (.getfield 7, 3) := by decide +kernel
theorem dX9_init_150 : decode cX9_init 150 = .ok (.iload_n 1, 1) := by decide +kernel
theorem dX9_init_151 : decode cX9_init 151 = .ok (.iconst (-1), 1) := by decide +kernel
theorem dX9_init_152 : decode cX9_init 152 = .ok (.iastore, 1) := by decide +kernel
theorem dX9_init_153 : decode cX9_init 153 = .ok (.iinc 1 1, 3) := by decide +kernel
theorem dX9_init_156 : decode cX9_init 156 = .ok (.goto (-15), 3) := by decide +kernel
theorem dX9_init_159 : decode cX9_init 159 = .ok (.aload_n 0, 1) := by decide +kernel
theorem dX9_init_160 : decode cX9_init 160 = .ok (.iconst (-1), 1) := by decide +kernel
theorem dX9_init_161 : decode cX9_init 161 = .ok (.putfield 61, 3) := by decide +kernel
theorem dX9_init_164 : decode cX9_init 164 = .ok (.aload_n 0, 1) := by decide +kernel
theorem dX9_init_165 : decode cX9_init 165 = .ok (.iconst (-1), 1) := by decide +kernel
theorem dX9_init_166 : decode cX9_init 166 = .ok (.putfield 65, 3) := by decide +kernel
theorem dX9_init_169 : decode cX9_init 169 = .ok (.return_, 1) := by decide +kernel
theorem dX9_in_0 : decode cX9_in 0 = .ok (.lload_n 0, 1) := by decide +kernel
theorem dX9_in_1 : decode cX9_in 1 = .ok (.lload_n 2, 1) := by decide +kernel
theorem dX9_in_2 : decode cX9_in 2 = .ok (.lcmp, 1) := by decide +kernel
theorem dX9_in_3 : decode cX9_in 3 = .ok (.ifCond .lt 14, 3) := by decide +kernel
theorem dX9_in_6 : decode cX9_in 6 = .ok (.lload_n 0, 1) := by decide +kernel
theorem dX9_in_7 : decode cX9_in 7 = .ok (.lload 4, 2) := by decide +kernel
theorem dX9_in_9 : decode cX9_in 9 = .ok (.lcmp, 1) := by decide +kernel
theorem dX9_in_10 : decode cX9_in 10 = .ok (.ifCond .gt 7, 3) := by decide +kernel
theorem dX9_in_13 : decode cX9_in 13 = .ok (.iconst 1, 1) := by decide +kernel
theorem dX9_in_14 : decode cX9_in 14 = .ok (.goto 4, 3) := by decide +kernel
theorem dX9_in_17 : decode cX9_in 17 = .ok (.iconst 0, 1) := by decide +kernel
theorem dX9_in_18 : decode cX9_in 18 = .ok (.ireturn, 1) := by decide +kernel
theorem dX9_no_0 : decode cX9_no 0 = .ok (.ldc2_w 68, 3) := by decide +kernel
theorem dX9_no_3 : decode cX9_no 3 = .ok (.iload_n 0, 1) := by decide +kernel
theorem dX9_no_4 : decode cX9_no 4 = .ok (.i2l, 1) := by decide +kernel
theorem dX9_no_5 : decode cX9_no 5 = .ok (.lsub, 1) := by decide +kernel
theorem dX9_no_6 : decode cX9_no 6 = .ok (.lreturn, 1) := by decide +kernel
theorem dX9_isTwo_0 : decode cX9_isTwo 0 = .ok (.iload_n 0, 1) := by decide +kernel
theorem dX9_isTwo_1 : decode cX9_isTwo 1 = .ok (.i2l, 1) := by decide +kernel
theorem dX9_isTwo_2 : decode cX9_isTwo 2 = .ok (.lconst 0, 1) := by decide +kernel
theorem dX9_isTwo_3 : decode cX9_isTwo 3 = .ok (.lconst 1, 1) := by decide +kernel
theorem dX9_isTwo_4 : decode cX9_isTwo 4 = .ok (.invokestatic 70, 3) := by decide +kernel
theorem dX9_isTwo_7 : decode cX9_isTwo 7 = .ok (.ireturn, 1) := by decide +kernel
theorem dX9_isIn_0 : decode cX9_isIn 0 = .ok (.iload_n 0, 1) := by decide +kernel
theorem dX9_isIn_1 : decode cX9_isIn 1 = .ok (.iload_n 1, 1) := by decide +kernel
theorem dX9_isIn_2 : decode cX9_isIn 2 = .ok (.ishr, 1) := by decide +kernel
theorem dX9_isIn_3 : decode cX9_isIn 3 = .ok (.iconst 1, 1) := by decide +kernel
theorem dX9_isIn_4 : decode cX9_isIn 4 = .ok (.iand, 1) := by decide +kernel
theorem dX9_isIn_5 : decode cX9_isIn 5 = .ok (.iconst 1, 1) := by decide +kernel
theorem dX9_isIn_6 : decode cX9_isIn 6 = .ok (.if_icmp .ne 7, 3) := by decide +kernel
theorem dX9_isIn_9 : decode cX9_isIn 9 = .ok (.iconst 1, 1) := by decide +kernel
theorem dX9_isIn_10 : decode cX9_isIn 10 = .ok (.goto 4, 3) := by decide +kernel
theorem dX9_isIn_13 : decode cX9_isIn 13 = .ok (.iconst 0, 1) := by decide +kernel
theorem dX9_isIn_14 : decode cX9_isIn 14 = .ok (.ireturn, 1) := by decide +kernel
theorem dX9_lesser_0 : decode cX9_lesser 0 = .ok (.iload_n 0, 1) := by decide +kernel
theorem dX9_lesser_1 : decode cX9_lesser 1 = .ok (.iload_n 1, 1) := by decide +kernel
theorem dX9_lesser_2 : decode cX9_lesser 2 = .ok (.if_icmp .ge 7, 3) := by decide +kernel
theorem dX9_lesser_5 : decode cX9_lesser 5 = .ok (.iload_n 0, 1) := by decide +kernel
theorem dX9_lesser_6 : decode cX9_lesser 6 = .ok (.goto 4, 3) := by decide +kernel
theorem dX9_lesser_9 : decode cX9_lesser 9 = .ok (.iload_n 1, 1) := by decide +kernel
theorem dX9_lesser_10 : decode cX9_lesser 10 = .ok (.ireturn, 1) := by decide +kernel
theorem dX9_amount_0 : decode cX9_amount 0 = .ok (.iload_n 0, 1) := by decide +kernel
theorem dX9_amount_1 : decode cX9_amount 1 = .ok (.ifCond .ge 8, 3) := by decide +kernel
theorem dX9_amount_4 : decode cX9_amount 4 = .ok (.iload_n 0, 1) := by decide +kernel
theorem dX9_amount_5 : decode cX9_amount 5 = .ok (.ineg, 1) := by decide +kernel
theorem dX9_amount_6 : decode cX9_amount 6 = .ok (.goto 4, 3) := by decide +kernel
theorem dX9_amount_9 : decode cX9_amount 9 = .ok (.iload_n 0, 1) := by decide +kernel
theorem dX9_amount_10 : decode cX9_amount 10 = .ok (.ireturn, 1) := by decide +kernel
theorem dX9_part_0 : decode cX9_part 0 = .ok (.lload_n 0, 1) := by decide +kernel
theorem dX9_part_1 : decode cX9_part 1 = .ok (.lstore 5, 2) := by decide +kernel
theorem dX9_part_3 : decode cX9_part 3 = .ok (.lload_n 2, 1) := by decide +kernel
theorem dX9_part_4 : decode cX9_part 4 = .ok (.lstore 7, 2) := by decide +kernel
theorem dX9_part_6 : decode cX9_part 6 = .ok (.lload 7, 2) := by decide +kernel
theorem dX9_part_8 : decode cX9_part 8 = .ok (.lconst 0, 1) := by decide +kernel
theorem dX9_part_9 : decode cX9_part 9 = .ok (.lcmp, 1) := by decide +kernel
theorem dX9_part_10 : decode cX9_part 10 = .ok (.ifCond .eq 21, 3) := by decide +kernel
theorem dX9_part_13 : decode cX9_part 13 = .ok (.lload 5, 2) := by decide +kernel
theorem dX9_part_15 : decode cX9_part 15 = .ok (.lload 7, 2) := by decide +kernel
theorem dX9_part_17 : decode cX9_part 17 = .ok (.lrem, 1) := by decide +kernel
theorem dX9_part_18 : decode cX9_part 18 = .ok (.lstore 9, 2) := by decide +kernel
theorem dX9_part_20 : decode cX9_part 20 = .ok (.lload 7, 2) := by decide +kernel
theorem dX9_part_22 : decode cX9_part 22 = .ok (.lstore 5, 2) := by decide +kernel
theorem dX9_part_24 : decode cX9_part 24 = .ok (.lload 9, 2) := by decide +kernel
theorem dX9_part_26 : decode cX9_part 26 = .ok (.lstore 7, 2) := by decide +kernel
theorem dX9_part_28 : decode cX9_part 28 = .ok (.goto (-22), 3) := by decide +kernel
theorem dX9_part_31 : decode cX9_part 31 = .ok (.iload 4, 2) := by decide +kernel
theorem dX9_part_33 : decode cX9_part 33 = .ok (.ifCond .ne 7, 3) := by decide +kernel
theorem dX9_part_36 : decode cX9_part 36 = .ok (.lload_n 0, 1) := by decide +kernel
theorem dX9_part_37 : decode cX9_part 37 = .ok (.goto 4, 3) := by decide +kernel
theorem dX9_part_40 : decode cX9_part 40 = .ok (.lload_n 2, 1) := by decide +kernel
theorem dX9_part_41 : decode cX9_part 41 = .ok (.lload 5, 2) := by decide +kernel
theorem dX9_part_43 : decode cX9_part 43 = .ok (.ldiv, 1) := by decide +kernel
theorem dX9_part_44 : decode cX9_part 44 = .ok (.lreturn, 1) := by decide +kernel
theorem dX9_finds_0 : decode cX9_finds 0 = .ok (.aload_n 0, 1) := by decide +kernel
theorem dX9_finds_1 : decode cX9_finds 1 = .ok (.iload_n 1, 1) := by decide +kernel
theorem dX9_finds_2 : decode cX9_finds 2 = .ok (.putfield 74, 3) := by decide +kernel
theorem dX9_finds_5 : decode cX9_finds 5 = .ok (.bipush (-10), 2) := by decide +kernel
theorem dX9_finds_7 : decode cX9_finds 7 = .ok (.iload_n 1, 1) := by decide +kernel
theorem dX9_finds_8 : decode cX9_finds 8 = .ok (.isub, 1) := by decide +kernel
theorem dX9_finds_9 : decode cX9_finds 9 = .ok (.ireturn, 1) := by decide +kernel
theorem dX9_isSheet_0 : decode cX9_isSheet 0 = .ok (.iload_n 0, 1) := by decide +kernel
theorem dX9_isSheet_1 : decode cX9_isSheet 1 = .ok (.i2l, 1) := by decide +kernel
theorem dX9_isSheet_2 : decode cX9_isSheet 2 = .ok (.lconst 0, 1) := by decide +kernel
theorem dX9_isSheet_3 : decode cX9_isSheet 3 = .ok (.ldc2_w 77, 3) := by decide +kernel
theorem dX9_isSheet_6 : decode cX9_isSheet 6 = .ok (.invokestatic 70, 3) := by decide +kernel
theorem dX9_isSheet_9 : decode cX9_isSheet 9 = .ok (.ireturn, 1) := by decide +kernel
theorem dX9_sheet_0 : decode cX9_sheet 0 = .ok (.iload_n 1, 1) := by decide +kernel
theorem dX9_sheet_1 : decode cX9_sheet 1 = .ok (.invokestatic 79, 3) := by decide +kernel
theorem dX9_sheet_4 : decode cX9_sheet 4 = .ok (.ifCond .eq 21, 3) := by decide +kernel
theorem dX9_sheet_7 : decode cX9_sheet 7 = .ok (.iload_n 2, 1) := by decide +kernel
theorem dX9_sheet_8 : decode cX9_sheet 8 = .ok (.i2l, 1) := by decide +kernel
theorem dX9_sheet_9 : decode cX9_sheet 9 = .ok (.lconst 0, 1) := by decide +kernel
theorem dX9_sheet_10 : decode cX9_sheet 10 = .ok (.ldc2_w 83, 3) := by decide +kernel
theorem dX9_sheet_13 : decode cX9_sheet 13 = .ok (.invokestatic 70, 3) := by decide +kernel
theorem dX9_sheet_16 : decode cX9_sheet 16 = .ok (.ifCond .eq 9, 3) := by decide +kernel
theorem dX9_sheet_19 : decode cX9_sheet 19 = .ok (.iload_n 3, 1) := by decide +kernel
theorem dX9_sheet_20 : decode cX9_sheet 20 = .ok (.bipush 60, 2) := by decide +kernel
theorem dX9_sheet_22 : decode cX9_sheet 22 = .ok (.if_icmp .le 6, 3) := by decide +kernel
theorem dX9_sheet_25 : decode cX9_sheet 25 = .ok (.bipush (-2), 2) := by decide +kernel
theorem dX9_sheet_27 : decode cX9_sheet 27 = .ok (.ireturn, 1) := by decide +kernel
theorem dX9_sheet_28 : decode cX9_sheet 28 = .ok (.iload_n 3, 1) := by decide +kernel
theorem dX9_sheet_29 : decode cX9_sheet 29 = .ok (.ifCond .ge 9, 3) := by decide +kernel
theorem dX9_sheet_32 : decode cX9_sheet 32 = .ok (.aload_n 0, 1) := by decide +kernel
theorem dX9_sheet_33 : decode cX9_sheet 33 = .ok (.iconst 5, 1) := by decide +kernel
theorem dX9_sheet_34 : decode cX9_sheet 34 = .ok (.invokevirtual 85, 3) := by decide +kernel
theorem dX9_sheet_37 : decode cX9_sheet 37 = .ok (.ireturn, 1) := by decide +kernel
theorem dX9_sheet_38 : decode cX9_sheet 38 = .ok (.aload_n 0, 1) := by decide +kernel
theorem dX9_sheet_39 : decode cX9_sheet 39 = .ok (.getfield 7, 3) := by decide +kernel
theorem dX9_sheet_42 : decode cX9_sheet 42 = .ok (.iload_n 1, 1) := by decide +kernel
theorem dX9_sheet_43 : decode cX9_sheet 43 = .ok (.iload_n 2, 1) := by decide +kernel
theorem dX9_sheet_44 : decode cX9_sheet 44 = .ok (.iastore, 1) := by decide +kernel
theorem dX9_sheet_45 : decode cX9_sheet 45 = .ok (.aload_n 0, 1) := by decide +kernel
theorem dX9_sheet_46 : decode cX9_sheet 46 = .ok (.getfield 13, 3) := by decide +kernel
theorem dX9_sheet_49 : decode cX9_sheet 49 = .ok (.iload_n 1, 1) := by decide +kernel
theorem dX9_sheet_50 : decode cX9_sheet 50 = .ok (.iload_n 3, 1) := by decide +kernel
theorem dX9_sheet_51 : decode cX9_sheet 51 = .ok (.iastore, 1) := by decide +kernel
theorem dX9_sheet_52 : decode cX9_sheet 52 = .ok (.iconst 0, 1) := by decide +kernel
theorem dX9_sheet_53 : decode cX9_sheet 53 = .ok (.istore 4, 2) := by decide +kernel
theorem dX9_sheet_55 : decode cX9_sheet 55 = .ok (.iload 4, 2) := by decide +kernel
theorem dX9_sheet_57 : decode cX9_sheet 57 = .ok (.iload_n 3, 1) := by decide +kernel
theorem dX9_sheet_58 : decode cX9_sheet 58 = .ok (.if_icmp .ge 22, 3) := by decide +kernel
theorem dX9_sheet_61 : decode cX9_sheet 61 = .ok (.aload_n 0, 1) := by decide +kernel
theorem dX9_sheet_62 : decode cX9_sheet 62 = .ok (.getfield 16, 3) := by decide +kernel
theorem dX9_sheet_65 : decode cX9_sheet 65 = .ok (.bipush 60, 2) := by decide +kernel
theorem dX9_sheet_67 : decode cX9_sheet 67 = .ok (.iload_n 1, 1) := by decide +kernel
theorem dX9_sheet_68 : decode cX9_sheet 68 = .ok (.imul, 1) := by decide +kernel
theorem dX9_sheet_69 : decode cX9_sheet 69 = .ok (.iload 4, 2) := by decide +kernel
theorem dX9_sheet_71 : decode cX9_sheet 71 = .ok (.iadd, 1) := by decide +kernel
theorem dX9_sheet_72 : decode cX9_sheet 72 = .ok (.iconst 0, 1) := by decide +kernel
theorem dX9_sheet_73 : decode cX9_sheet 73 = .ok (.iastore, 1) := by decide +kernel
theorem dX9_sheet_74 : decode cX9_sheet 74 = .ok (.iinc 4 1, 3) := by decide +kernel
end
section
theorem dX9_sheet_77 : decode cX9_sheet 77 = .ok (.goto (-22), 3) := by decide +kernel
theorem dX9_sheet_80 : decode cX9_sheet 80 = .ok (.iload_n 3, 1) := by decide +kernel
theorem dX9_sheet_81 : decode cX9_sheet 81 = .ok (.ireturn, 1) := by decide +kernel
theorem dX9_lose_0 : decode cX9_lose 0 = .ok (.iload_n 1, 1) := by decide +kernel
theorem dX9_lose_1 : decode cX9_lose 1 = .ok (.invokestatic 79, 3) := by decide +kernel
theorem dX9_lose_4 : decode cX9_lose 4 = .ok (.ifCond .ne 6, 3) := by decide +kernel
theorem dX9_lose_7 : decode cX9_lose 7 = .ok (.bipush (-2), 2) := by decide +kernel
theorem dX9_lose_9 : decode cX9_lose 9 = .ok (.ireturn, 1) := by decide +kernel
theorem dX9_lose_10 : decode cX9_lose 10 = .ok (.aload_n 0, 1) := by decide +kernel
theorem dX9_lose_11 : decode cX9_lose 11 = .ok (.getfield 7, 3) := by decide +kernel
theorem dX9_lose_14 : decode cX9_lose 14 = .ok (.iload_n 1, 1) := by decide +kernel
theorem dX9_lose_15 : decode cX9_lose 15 = .ok (.iaload, 1) := by decide +kernel
theorem dX9_lose_16 : decode cX9_lose 16 = .ok (.ifCond .ge 9, 3) := by decide +kernel
theorem dX9_lose_19 : decode cX9_lose 19 = .ok (.aload_n 0, 1) := by decide +kernel
theorem dX9_lose_20 : decode cX9_lose 20 = .ok (.iconst 1, 1) := by decide +kernel
theorem dX9_lose_21 : decode cX9_lose 21 = .ok (.invokevirtual 85, 3) := by decide +kernel
theorem dX9_lose_24 : decode cX9_lose 24 = .ok (.ireturn, 1) := by decide +kernel
theorem dX9_lose_25 : decode cX9_lose 25 = .ok (.aload_n 0, 1) := by decide +kernel
theorem dX9_lose_26 : decode cX9_lose 26 = .ok (.getfield 7, 3) := by decide +kernel
theorem dX9_lose_29 : decode cX9_lose 29 = .ok (.iload_n 1, 1) := by decide +kernel
theorem dX9_lose_30 : decode cX9_lose 30 = .ok (.iconst (-1), 1) := by decide +kernel
theorem dX9_lose_31 : decode cX9_lose 31 = .ok (.iastore, 1) := by decide +kernel
theorem dX9_lose_32 : decode cX9_lose 32 = .ok (.aload_n 0, 1) := by decide +kernel
theorem dX9_lose_33 : decode cX9_lose 33 = .ok (.getfield 13, 3) := by decide +kernel
theorem dX9_lose_36 : decode cX9_lose 36 = .ok (.iload_n 1, 1) := by decide +kernel
theorem dX9_lose_37 : decode cX9_lose 37 = .ok (.iaload, 1) := by decide +kernel
theorem dX9_lose_38 : decode cX9_lose 38 = .ok (.ireturn, 1) := by decide +kernel
theorem dX9_lacks_0 : decode cX9_lacks 0 = .ok (.aload_n 0, 1) := by decide +kernel
theorem dX9_lacks_1 : decode cX9_lacks 1 = .ok (.getfield 7, 3) := by decide +kernel
theorem dX9_lacks_4 : decode cX9_lacks 4 = .ok (.iload_n 1, 1) := by decide +kernel
theorem dX9_lacks_5 : decode cX9_lacks 5 = .ok (.iaload, 1) := by decide +kernel
theorem dX9_lacks_6 : decode cX9_lacks 6 = .ok (.ifCond .ge 9, 3) := by decide +kernel
theorem dX9_lacks_9 : decode cX9_lacks 9 = .ok (.aload_n 0, 1) := by decide +kernel
theorem dX9_lacks_10 : decode cX9_lacks 10 = .ok (.iconst 1, 1) := by decide +kernel
theorem dX9_lacks_11 : decode cX9_lacks 11 = .ok (.invokevirtual 85, 3) := by decide +kernel
theorem dX9_lacks_14 : decode cX9_lacks 14 = .ok (.ireturn, 1) := by decide +kernel
theorem dX9_lacks_15 : decode cX9_lacks 15 = .ok (.aload_n 0, 1) := by decide +kernel
theorem dX9_lacks_16 : decode cX9_lacks 16 = .ok (.getfield 7, 3) := by decide +kernel
theorem dX9_lacks_19 : decode cX9_lacks 19 = .ok (.iload_n 1, 1) := by decide +kernel
theorem dX9_lacks_20 : decode cX9_lacks 20 = .ok (.iaload, 1) := by decide +kernel
theorem dX9_lacks_21 : decode cX9_lacks 21 = .ok (.iload_n 2, 1) := by decide +kernel
theorem dX9_lacks_22 : decode cX9_lacks 22 = .ok (.if_icmp .eq 9, 3) := by decide +kernel
theorem dX9_lacks_25 : decode cX9_lacks 25 = .ok (.aload_n 0, 1) := by decide +kernel
theorem dX9_lacks_26 : decode cX9_lacks 26 = .ok (.iconst 3, 1) := by decide +kernel
theorem dX9_lacks_27 : decode cX9_lacks 27 = .ok (.invokevirtual 85, 3) := by decide +kernel
theorem dX9_lacks_30 : decode cX9_lacks 30 = .ok (.ireturn, 1) := by decide +kernel
theorem dX9_lacks_31 : decode cX9_lacks 31 = .ok (.iload_n 3, 1) := by decide +kernel
theorem dX9_lacks_32 : decode cX9_lacks 32 = .ok (.i2l, 1) := by decide +kernel
theorem dX9_lacks_33 : decode cX9_lacks 33 = .ok (.lconst 0, 1) := by decide +kernel
theorem dX9_lacks_34 : decode cX9_lacks 34 = .ok (.aload_n 0, 1) := by decide +kernel
theorem dX9_lacks_35 : decode cX9_lacks 35 = .ok (.getfield 13, 3) := by decide +kernel
theorem dX9_lacks_38 : decode cX9_lacks 38 = .ok (.iload_n 1, 1) := by decide +kernel
theorem dX9_lacks_39 : decode cX9_lacks 39 = .ok (.iaload, 1) := by decide +kernel
theorem dX9_lacks_40 : decode cX9_lacks 40 = .ok (.iconst 1, 1) := by decide +kernel
theorem dX9_lacks_41 : decode cX9_lacks 41 = .ok (.isub, 1) := by decide +kernel
theorem dX9_lacks_42 : decode cX9_lacks 42 = .ok (.i2l, 1) := by decide +kernel
theorem dX9_lacks_43 : decode cX9_lacks 43 = .ok (.invokestatic 70, 3) := by decide +kernel
theorem dX9_lacks_46 : decode cX9_lacks 46 = .ok (.ifCond .eq 7, 3) := by decide +kernel
theorem dX9_lacks_49 : decode cX9_lacks 49 = .ok (.iconst 0, 1) := by decide +kernel
theorem dX9_lacks_50 : decode cX9_lacks 50 = .ok (.goto 8, 3) := by decide +kernel
theorem dX9_lacks_53 : decode cX9_lacks 53 = .ok (.aload_n 0, 1) := by decide +kernel
theorem dX9_lacks_54 : decode cX9_lacks 54 = .ok (.iconst 2, 1) := by decide +kernel
theorem dX9_lacks_55 : decode cX9_lacks 55 = .ok (.invokevirtual 85, 3) := by decide +kernel
theorem dX9_lacks_58 : decode cX9_lacks 58 = .ok (.ireturn, 1) := by decide +kernel
theorem dX9_cut_0 : decode cX9_cut 0 = .ok (.iload_n 0, 1) := by decide +kernel
theorem dX9_cut_1 : decode cX9_cut 1 = .ok (.ifCond .ne 8, 3) := by decide +kernel
theorem dX9_cut_4 : decode cX9_cut 4 = .ok (.iload_n 1, 1) := by decide +kernel
theorem dX9_cut_5 : decode cX9_cut 5 = .ok (.i2b, 1) := by decide +kernel
theorem dX9_cut_6 : decode cX9_cut 6 = .ok (.goto 14, 3) := by decide +kernel
theorem dX9_cut_9 : decode cX9_cut 9 = .ok (.iload_n 0, 1) := by decide +kernel
theorem dX9_cut_10 : decode cX9_cut 10 = .ok (.iconst 1, 1) := by decide +kernel
theorem dX9_cut_11 : decode cX9_cut 11 = .ok (.if_icmp .ne 8, 3) := by decide +kernel
theorem dX9_cut_14 : decode cX9_cut 14 = .ok (.iload_n 1, 1) := by decide +kernel
theorem dX9_cut_15 : decode cX9_cut 15 = .ok (.i2s, 1) := by decide +kernel
theorem dX9_cut_16 : decode cX9_cut 16 = .ok (.goto 4, 3) := by decide +kernel
theorem dX9_cut_19 : decode cX9_cut 19 = .ok (.iload_n 1, 1) := by decide +kernel
theorem dX9_cut_20 : decode cX9_cut 20 = .ok (.ireturn, 1) := by decide +kernel
theorem dX9_lay_0 : decode cX9_lay 0 = .ok (.iload_n 1, 1) := by decide +kernel
theorem dX9_lay_1 : decode cX9_lay 1 = .ok (.invokestatic 79, 3) := by decide +kernel
theorem dX9_lay_4 : decode cX9_lay 4 = .ok (.ifCond .eq 15, 3) := by decide +kernel
theorem dX9_lay_7 : decode cX9_lay 7 = .ok (.iload_n 2, 1) := by decide +kernel
theorem dX9_lay_8 : decode cX9_lay 8 = .ok (.i2l, 1) := by decide +kernel
theorem dX9_lay_9 : decode cX9_lay 9 = .ok (.lconst 0, 1) := by decide +kernel
theorem dX9_lay_10 : decode cX9_lay 10 = .ok (.ldc2_w 83, 3) := by decide +kernel
theorem dX9_lay_13 : decode cX9_lay 13 = .ok (.invokestatic 70, 3) := by decide +kernel
theorem dX9_lay_16 : decode cX9_lay 16 = .ok (.ifCond .ne 6, 3) := by decide +kernel
theorem dX9_lay_19 : decode cX9_lay 19 = .ok (.bipush (-2), 2) := by decide +kernel
theorem dX9_lay_21 : decode cX9_lay 21 = .ok (.ireturn, 1) := by decide +kernel
theorem dX9_lay_22 : decode cX9_lay 22 = .ok (.aload_n 0, 1) := by decide +kernel
theorem dX9_lay_23 : decode cX9_lay 23 = .ok (.iload_n 1, 1) := by decide +kernel
theorem dX9_lay_24 : decode cX9_lay 24 = .ok (.iload_n 2, 1) := by decide +kernel
theorem dX9_lay_25 : decode cX9_lay 25 = .ok (.iload_n 3, 1) := by decide +kernel
theorem dX9_lay_26 : decode cX9_lay 26 = .ok (.invokevirtual 89, 3) := by decide +kernel
theorem dX9_lay_29 : decode cX9_lay 29 = .ok (.istore 5, 2) := by decide +kernel
theorem dX9_lay_31 : decode cX9_lay 31 = .ok (.iload 5, 2) := by decide +kernel
theorem dX9_lay_33 : decode cX9_lay 33 = .ok (.ifCond .eq 6, 3) := by decide +kernel
theorem dX9_lay_36 : decode cX9_lay 36 = .ok (.iload 5, 2) := by decide +kernel
theorem dX9_lay_38 : decode cX9_lay 38 = .ok (.ireturn, 1) := by decide +kernel
theorem dX9_lay_39 : decode cX9_lay 39 = .ok (.aload_n 0, 1) := by decide +kernel
theorem dX9_lay_40 : decode cX9_lay 40 = .ok (.getfield 16, 3) := by decide +kernel
theorem dX9_lay_43 : decode cX9_lay 43 = .ok (.bipush 60, 2) := by decide +kernel
theorem dX9_lay_45 : decode cX9_lay 45 = .ok (.iload_n 1, 1) := by decide +kernel
theorem dX9_lay_46 : decode cX9_lay 46 = .ok (.imul, 1) := by decide +kernel
theorem dX9_lay_47 : decode cX9_lay 47 = .ok (.iload_n 3, 1) := by decide +kernel
theorem dX9_lay_48 : decode cX9_lay 48 = .ok (.iadd, 1) := by decide +kernel
theorem dX9_lay_49 : decode cX9_lay 49 = .ok (.iload_n 2, 1) := by decide +kernel
theorem dX9_lay_50 : decode cX9_lay 50 = .ok (.iload 4, 2) := by decide +kernel
theorem dX9_lay_52 : decode cX9_lay 52 = .ok (.invokestatic 93, 3) := by decide +kernel
theorem dX9_lay_55 : decode cX9_lay 55 = .ok (.iastore, 1) := by decide +kernel
theorem dX9_lay_56 : decode cX9_lay 56 = .ok (.iconst 1, 1) := by decide +kernel
theorem dX9_lay_57 : decode cX9_lay 57 = .ok (.ireturn, 1) := by decide +kernel
theorem dX9_get_0 : decode cX9_get 0 = .ok (.iload_n 1, 1) := by decide +kernel
theorem dX9_get_1 : decode cX9_get 1 = .ok (.invokestatic 79, 3) := by decide +kernel
theorem dX9_get_4 : decode cX9_get 4 = .ok (.ifCond .eq 25, 3) := by decide +kernel
theorem dX9_get_7 : decode cX9_get 7 = .ok (.iload_n 2, 1) := by decide +kernel
theorem dX9_get_8 : decode cX9_get 8 = .ok (.i2l, 1) := by decide +kernel
theorem dX9_get_9 : decode cX9_get 9 = .ok (.lconst 0, 1) := by decide +kernel
theorem dX9_get_10 : decode cX9_get 10 = .ok (.ldc2_w 83, 3) := by decide +kernel
theorem dX9_get_13 : decode cX9_get 13 = .ok (.invokestatic 70, 3) := by decide +kernel
theorem dX9_get_16 : decode cX9_get 16 = .ok (.ifCond .eq 13, 3) := by decide +kernel
theorem dX9_get_19 : decode cX9_get 19 = .ok (.aload_n 0, 1) := by decide +kernel
theorem dX9_get_20 : decode cX9_get 20 = .ok (.iload_n 1, 1) := by decide +kernel
theorem dX9_get_21 : decode cX9_get 21 = .ok (.iload_n 2, 1) := by decide +kernel
theorem dX9_get_22 : decode cX9_get 22 = .ok (.iload_n 3, 1) := by decide +kernel
theorem dX9_get_23 : decode cX9_get 23 = .ok (.invokevirtual 89, 3) := by decide +kernel
theorem dX9_get_26 : decode cX9_get 26 = .ok (.ifCond .eq 6, 3) := by decide +kernel
theorem dX9_get_29 : decode cX9_get 29 = .ok (.ldc 97, 2) := by decide +kernel
theorem dX9_get_31 : decode cX9_get 31 = .ok (.ireturn, 1) := by decide +kernel
theorem dX9_get_32 : decode cX9_get 32 = .ok (.aload_n 0, 1) := by decide +kernel
theorem dX9_get_33 : decode cX9_get 33 = .ok (.getfield 16, 3) := by decide +kernel
theorem dX9_get_36 : decode cX9_get 36 = .ok (.bipush 60, 2) := by decide +kernel
theorem dX9_get_38 : decode cX9_get 38 = .ok (.iload_n 1, 1) := by decide +kernel
theorem dX9_get_39 : decode cX9_get 39 = .ok (.imul, 1) := by decide +kernel
theorem dX9_get_40 : decode cX9_get 40 = .ok (.iload_n 3, 1) := by decide +kernel
theorem dX9_get_41 : decode cX9_get 41 = .ok (.iadd, 1) := by decide +kernel
theorem dX9_get_42 : decode cX9_get 42 = .ok (.iaload, 1) := by decide +kernel
theorem dX9_get_43 : decode cX9_get 43 = .ok (.ireturn, 1) := by decide +kernel
theorem dX9_copy_0 : decode cX9_copy 0 = .ok (.iload_n 1, 1) := by decide +kernel
theorem dX9_copy_1 : decode cX9_copy 1 = .ok (.invokestatic 79, 3) := by decide +kernel
theorem dX9_copy_4 : decode cX9_copy 4 = .ok (.ifCond .eq 10, 3) := by decide +kernel
theorem dX9_copy_7 : decode cX9_copy 7 = .ok (.iload_n 3, 1) := by decide +kernel
theorem dX9_copy_8 : decode cX9_copy 8 = .ok (.invokestatic 79, 3) := by decide +kernel
theorem dX9_copy_11 : decode cX9_copy 11 = .ok (.ifCond .ne 6, 3) := by decide +kernel
theorem dX9_copy_14 : decode cX9_copy 14 = .ok (.bipush (-2), 2) := by decide +kernel
theorem dX9_copy_16 : decode cX9_copy 16 = .ok (.ireturn, 1) := by decide +kernel
theorem dX9_copy_17 : decode cX9_copy 17 = .ok (.aload_n 0, 1) := by decide +kernel
theorem dX9_copy_18 : decode cX9_copy 18 = .ok (.getfield 7, 3) := by decide +kernel
theorem dX9_copy_21 : decode cX9_copy 21 = .ok (.iload_n 1, 1) := by decide +kernel
theorem dX9_copy_22 : decode cX9_copy 22 = .ok (.iaload, 1) := by decide +kernel
theorem dX9_copy_23 : decode cX9_copy 23 = .ok (.ifCond .lt 12, 3) := by decide +kernel
theorem dX9_copy_26 : decode cX9_copy 26 = .ok (.aload_n 0, 1) := by decide +kernel
theorem dX9_copy_27 : decode cX9_copy 27 = .ok (.getfield 7, 3) := by decide +kernel
theorem dX9_copy_30 : decode cX9_copy 30 = .ok (.iload_n 3, 1) := by decide +kernel
theorem dX9_copy_31 : decode cX9_copy 31 = .ok (.iaload, 1) := by decide +kernel
theorem dX9_copy_32 : decode cX9_copy 32 = .ok (.ifCond .ge 9, 3) := by decide +kernel
theorem dX9_copy_35 : decode cX9_copy 35 = .ok (.aload_n 0, 1) := by decide +kernel
theorem dX9_copy_36 : decode cX9_copy 36 = .ok (.iconst 1, 1) := by decide +kernel
theorem dX9_copy_37 : decode cX9_copy 37 = .ok (.invokevirtual 85, 3) := by decide +kernel
theorem dX9_copy_40 : decode cX9_copy 40 = .ok (.ireturn, 1) := by decide +kernel
theorem dX9_copy_41 : decode cX9_copy 41 = .ok (.aload_n 0, 1) := by decide +kernel
theorem dX9_copy_42 : decode cX9_copy 42 = .ok (.getfield 7, 3) := by decide +kernel
theorem dX9_copy_45 : decode cX9_copy 45 = .ok (.iload_n 1, 1) := by decide +kernel
theorem dX9_copy_46 : decode cX9_copy 46 = .ok (.iaload, 1) := by decide +kernel
theorem dX9_copy_47 : decode cX9_copy 47 = .ok (.aload_n 0, 1) := by decide +kernel
theorem dX9_copy_48 : decode cX9_copy 48 = .ok (.getfield 7, 3) := by decide +kernel
theorem dX9_copy_51 : decode cX9_copy 51 = .ok (.iload_n 3, 1) := by decide +kernel
theorem dX9_copy_52 : decode cX9_copy 52 = .ok (.iaload, 1) := by decide +kernel
theorem dX9_copy_53 : decode cX9_copy 53 = .ok (.if_icmp .eq 9, 3) := by decide +kernel
theorem dX9_copy_56 : decode cX9_copy 56 = .ok (.aload_n 0, 1) := by decide +kernel
theorem dX9_copy_57 : decode cX9_copy 57 = .ok (.iconst 4, 1) := by decide +kernel
theorem dX9_copy_58 : decode cX9_copy 58 = .ok (.invokevirtual 85, 3) := by decide +kernel
theorem dX9_copy_61 : decode cX9_copy 61 = .ok (.ireturn, 1) := by decide +kernel
theorem dX9_copy_62 : decode cX9_copy 62 = .ok (.iload_n 2, 1) := by decide +kernel
theorem dX9_copy_63 : decode cX9_copy 63 = .ok (.ifCond .lt 48, 3) := by decide +kernel
theorem dX9_copy_66 : decode cX9_copy 66 = .ok (.iload 4, 2) := by decide +kernel
theorem dX9_copy_68 : decode cX9_copy 68 = .ok (.ifCond .lt 43, 3) := by decide +kernel
theorem dX9_copy_71 : decode cX9_copy 71 = .ok (.iload 5, 2) := by decide +kernel
theorem dX9_copy_73 : decode cX9_copy 73 = .ok (.ifCond .lt 38, 3) := by decide +kernel
theorem dX9_copy_76 : decode cX9_copy 76 = .ok (.iload_n 2, 1) := by decide +kernel
theorem dX9_copy_77 : decode cX9_copy 77 = .ok (.i2l, 1) := by decide +kernel
theorem dX9_copy_78 : decode cX9_copy 78 = .ok (.iload 5, 2) := by decide +kernel
theorem dX9_copy_80 : decode cX9_copy 80 = .ok (.i2l, 1) := by decide +kernel
theorem dX9_copy_81 : decode cX9_copy 81 = .ok (.ladd, 1) := by decide +kernel
theorem dX9_copy_82 : decode cX9_copy 82 = .ok (.aload_n 0, 1) := by decide +kernel
theorem dX9_copy_83 : decode cX9_copy 83 = .ok (.getfield 13, 3) := by decide +kernel
theorem dX9_copy_86 : decode cX9_copy 86 = .ok (.iload_n 1, 1) := by decide +kernel
theorem dX9_copy_87 : decode cX9_copy 87 = .ok (.iaload, 1) := by decide +kernel
theorem dX9_copy_88 : decode cX9_copy 88 = .ok (.i2l, 1) := by decide +kernel
theorem dX9_copy_89 : decode cX9_copy 89 = .ok (.lcmp, 1) := by decide +kernel
theorem dX9_copy_90 : decode cX9_copy 90 = .ok (.ifCond .gt 21, 3) := by decide +kernel
theorem dX9_copy_93 : decode cX9_copy 93 = .ok (.iload 4, 2) := by decide +kernel
theorem dX9_copy_95 : decode cX9_copy 95 = .ok (.i2l, 1) := by decide +kernel
theorem dX9_copy_96 : decode cX9_copy 96 = .ok (.iload 5, 2) := by decide +kernel
theorem dX9_copy_98 : decode cX9_copy 98 = .ok (.i2l, 1) := by decide +kernel
theorem dX9_copy_99 : decode cX9_copy 99 = .ok (.ladd, 1) := by decide +kernel
theorem dX9_copy_100 : decode cX9_copy 100 = .ok (.aload_n 0, 1) := by decide +kernel
theorem dX9_copy_101 : decode cX9_copy 101 = .ok (.getfield 13, 3) := by decide +kernel
theorem dX9_copy_104 : decode cX9_copy 104 = .ok (.iload_n 3, 1) := by decide +kernel
theorem dX9_copy_105 : decode cX9_copy 105 = .ok (.iaload, 1) := by decide +kernel
theorem dX9_copy_106 : decode cX9_copy 106 = .ok (.i2l, 1) := by decide +kernel
theorem dX9_copy_107 : decode cX9_copy 107 = .ok (.lcmp, 1) := by decide +kernel
theorem dX9_copy_108 : decode cX9_copy 108 = .ok (.ifCond .le 9, 3) := by decide +kernel
theorem dX9_copy_111 : decode cX9_copy 111 = .ok (.aload_n 0, 1) := by decide +kernel
theorem dX9_copy_112 : decode cX9_copy 112 = .ok (.iconst 2, 1) := by decide +kernel
theorem dX9_copy_113 : decode cX9_copy 113 = .ok (.invokevirtual 85, 3) := by decide +kernel
theorem dX9_copy_116 : decode cX9_copy 116 = .ok (.ireturn, 1) := by decide +kernel
theorem dX9_copy_117 : decode cX9_copy 117 = .ok (.iconst 0, 1) := by decide +kernel
theorem dX9_copy_118 : decode cX9_copy 118 = .ok (.istore 6, 2) := by decide +kernel
theorem dX9_copy_120 : decode cX9_copy 120 = .ok (.iload 6, 2) := by decide +kernel
theorem dX9_copy_122 : decode cX9_copy 122 = .ok (.iload 5, 2) := by decide +kernel
theorem dX9_copy_124 : decode cX9_copy 124 = .ok (.if_icmp .ge 30, 3) := by decide +kernel
theorem dX9_copy_127 : decode cX9_copy 127 = .ok (.aload_n 0, 1) := by decide +kernel
theorem dX9_copy_128 : decode cX9_copy 128 = .ok (.getfield 19, 3) := by decide +kernel
theorem dX9_copy_131 : decode cX9_copy 131 = .ok (.iload 6, 2) := by decide +kernel
theorem dX9_copy_133 : decode cX9_copy 133 = .ok (.aload_n 0, 1) := by decide +kernel
theorem dX9_copy_134 : decode cX9_copy 134 = .ok (.getfield 16, 3) := by decide +kernel
theorem dX9_copy_137 : decode cX9_copy 137 = .ok (.bipush 60, 2) := by decide +kernel
theorem dX9_copy_139 : decode cX9_copy 139 = .ok (.iload_n 1, 1) := by decide +kernel
theorem dX9_copy_140 : decode cX9_copy 140 = .ok (.imul, 1) := by decide +kernel
theorem dX9_copy_141 : decode cX9_copy 141 = .ok (.iload_n 2, 1) := by decide +kernel
theorem dX9_copy_142 : decode cX9_copy 142 = .ok (.iadd, 1) := by decide +kernel
theorem dX9_copy_143 : decode cX9_copy 143 = .ok (.iload 6, 2) := by decide +kernel
theorem dX9_copy_145 : decode cX9_copy 145 = .ok (.iadd, 1) := by decide +kernel
theorem dX9_copy_146 : decode cX9_copy 146 = .ok (.iaload, 1) := by decide +kernel
theorem dX9_copy_147 : decode cX9_copy 147 = .ok (.iastore, 1) := by decide +kernel
theorem dX9_copy_148 : decode cX9_copy 148 = .ok (.iinc 6 1, 3) := by decide +kernel
theorem dX9_copy_151 : decode cX9_copy 151 = .ok (.goto (-31), 3) := by decide +kernel
theorem dX9_copy_154 : decode cX9_copy 154 = .ok (.iconst 0, 1) := by decide +kernel
theorem dX9_copy_155 : decode cX9_copy 155 = .ok (.istore 6, 2) := by decide +kernel
theorem dX9_copy_157 : decode cX9_copy 157 = .ok (.iload 6, 2) := by decide +kernel
theorem dX9_copy_159 : decode cX9_copy 159 = .ok (.iload 5, 2) := by decide +kernel
theorem dX9_copy_161 : decode cX9_copy 161 = .ok (.if_icmp .ge 31, 3) := by decide +kernel
theorem dX9_copy_164 : decode cX9_copy 164 = .ok (.aload_n 0, 1) := by decide +kernel
theorem dX9_copy_165 : decode cX9_copy 165 = .ok (.getfield 16, 3) := by decide +kernel
theorem dX9_copy_168 : decode cX9_copy 168 = .ok (.bipush 60, 2) := by decide +kernel
theorem dX9_copy_170 : decode cX9_copy 170 = .ok (.iload_n 3, 1) := by decide +kernel
theorem dX9_copy_171 : decode cX9_copy 171 = .ok (.imul, 1) := by decide +kernel
theorem dX9_copy_172 : decode cX9_copy 172 = .ok (.iload 4, 2) := by decide +kernel
theorem dX9_copy_174 : decode cX9_copy 174 = .ok (.iadd, 1) := by decide +kernel
theorem dX9_copy_175 : decode cX9_copy 175 = .ok (.iload 6, 2) := by decide +kernel
theorem dX9_copy_177 : decode cX9_copy 177 = .ok (.iadd, 1) := by decide +kernel
theorem dX9_copy_178 : decode cX9_copy 178 = .ok (.aload_n 0, 1) := by decide +kernel
theorem dX9_copy_179 : decode cX9_copy 179 = .ok (.getfield 19, 3) := by decide +kernel
theorem dX9_copy_182 : decode cX9_copy 182 = .ok (.iload 6, 2) := by decide +kernel
theorem dX9_copy_184 : decode cX9_copy 184 = .ok (.iaload, 1) := by decide +kernel
theorem dX9_copy_185 : decode cX9_copy 185 = .ok (.iastore, 1) := by decide +kernel
theorem dX9_copy_186 : decode cX9_copy 186 = .ok (.iinc 6 1, 3) := by decide +kernel
theorem dX9_copy_189 : decode cX9_copy 189 = .ok (.goto (-32), 3) := by decide +kernel
theorem dX9_copy_192 : decode cX9_copy 192 = .ok (.iconst 1, 1) := by decide +kernel
theorem dX9_copy_193 : decode cX9_copy 193 = .ok (.ireturn, 1) := by decide +kernel
theorem dX9_type_0 : decode cX9_type 0 = .ok (.iload_n 1, 1) := by decide +kernel
theorem dX9_type_1 : decode cX9_type 1 = .ok (.invokestatic 98, 3) := by decide +kernel
theorem dX9_type_4 : decode cX9_type 4 = .ok (.ifCond .eq 15, 3) := by decide +kernel
theorem dX9_type_7 : decode cX9_type 7 = .ok (.iload_n 2, 1) := by decide +kernel
theorem dX9_type_8 : decode cX9_type 8 = .ok (.i2l, 1) := by decide +kernel
theorem dX9_type_9 : decode cX9_type 9 = .ok (.lconst 0, 1) := by decide +kernel
theorem dX9_type_10 : decode cX9_type 10 = .ok (.ldc2_w 101, 3) := by decide +kernel
theorem dX9_type_13 : decode cX9_type 13 = .ok (.invokestatic 70, 3) := by decide +kernel
theorem dX9_type_16 : decode cX9_type 16 = .ok (.ifCond .ne 6, 3) := by decide +kernel
theorem dX9_type_19 : decode cX9_type 19 = .ok (.bipush (-2), 2) := by decide +kernel
theorem dX9_type_21 : decode cX9_type 21 = .ok (.ireturn, 1) := by decide +kernel
theorem dX9_type_22 : decode cX9_type 22 = .ok (.aload_n 0, 1) := by decide +kernel
theorem dX9_type_23 : decode cX9_type 23 = .ok (.getfield 25, 3) := by decide +kernel
theorem dX9_type_26 : decode cX9_type 26 = .ok (.iload_n 1, 1) := by decide +kernel
theorem dX9_type_27 : decode cX9_type 27 = .ok (.iaload, 1) := by decide +kernel
theorem dX9_type_28 : decode cX9_type 28 = .ok (.iload_n 1, 1) := by decide +kernel
theorem dX9_type_29 : decode cX9_type 29 = .ok (.ifCond .ne 8, 3) := by decide +kernel
theorem dX9_type_32 : decode cX9_type 32 = .ok (.bipush 24, 2) := by decide +kernel
theorem dX9_type_34 : decode cX9_type 34 = .ok (.goto 5, 3) := by decide +kernel
theorem dX9_type_37 : decode cX9_type 37 = .ok (.bipush 44, 2) := by decide +kernel
theorem dX9_type_39 : decode cX9_type 39 = .ok (.if_icmp .ne 6, 3) := by decide +kernel
theorem dX9_type_42 : decode cX9_type 42 = .ok (.bipush (-4), 2) := by decide +kernel
theorem dX9_type_44 : decode cX9_type 44 = .ok (.ireturn, 1) := by decide +kernel
theorem dX9_type_45 : decode cX9_type 45 = .ok (.aload_n 0, 1) := by decide +kernel
theorem dX9_type_46 : decode cX9_type 46 = .ok (.getfield 22, 3) := by decide +kernel
theorem dX9_type_49 : decode cX9_type 49 = .ok (.bipush 44, 2) := by decide +kernel
theorem dX9_type_51 : decode cX9_type 51 = .ok (.iload_n 1, 1) := by decide +kernel
theorem dX9_type_52 : decode cX9_type 52 = .ok (.imul, 1) := by decide +kernel
theorem dX9_type_53 : decode cX9_type 53 = .ok (.aload_n 0, 1) := by decide +kernel
theorem dX9_type_54 : decode cX9_type 54 = .ok (.getfield 25, 3) := by decide +kernel
theorem dX9_type_57 : decode cX9_type 57 = .ok (.iload_n 1, 1) := by decide +kernel
theorem dX9_type_58 : decode cX9_type 58 = .ok (.iaload, 1) := by decide +kernel
theorem dX9_type_59 : decode cX9_type 59 = .ok (.iadd, 1) := by decide +kernel
theorem dX9_type_60 : decode cX9_type 60 = .ok (.iload_n 2, 1) := by decide +kernel
theorem dX9_type_61 : decode cX9_type 61 = .ok (.iastore, 1) := by decide +kernel
theorem dX9_type_62 : decode cX9_type 62 = .ok (.aload_n 0, 1) := by decide +kernel
theorem dX9_type_63 : decode cX9_type 63 = .ok (.getfield 25, 3) := by decide +kernel
theorem dX9_type_66 : decode cX9_type 66 = .ok (.iload_n 1, 1) := by decide +kernel
theorem dX9_type_67 : decode cX9_type 67 = .ok (.dup2, 1) := by decide +kernel
theorem dX9_type_68 : decode cX9_type 68 = .ok (.iaload, 1) := by decide +kernel
theorem dX9_type_69 : decode cX9_type 69 = .ok (.iconst 1, 1) := by decide +kernel
theorem dX9_type_70 : decode cX9_type 70 = .ok (.iadd, 1) := by decide +kernel
theorem dX9_type_71 : decode cX9_type 71 = .ok (.iastore, 1) := by decide +kernel
theorem dX9_type_72 : decode cX9_type 72 = .ok (.aload_n 0, 1) := by decide +kernel
theorem dX9_type_73 : decode cX9_type 73 = .ok (.getfield 25, 3) := by decide +kernel
theorem dX9_type_76 : decode cX9_type 76 = .ok (.iload_n 1, 1) := by decide +kernel
theorem dX9_type_77 : decode cX9_type 77 = .ok (.iaload, 1) := by decide +kernel
theorem dX9_type_78 : decode cX9_type 78 = .ok (.ireturn, 1) := by decide +kernel
theorem dX9_wipe_0 : decode cX9_wipe 0 = .ok (.iload_n 1, 1) := by decide +kernel
theorem dX9_wipe_1 : decode cX9_wipe 1 = .ok (.invokestatic 98, 3) := by decide +kernel
theorem dX9_wipe_4 : decode cX9_wipe 4 = .ok (.ifCond .ne 6, 3) := by decide +kernel
theorem dX9_wipe_7 : decode cX9_wipe 7 = .ok (.bipush (-2), 2) := by decide +kernel
theorem dX9_wipe_9 : decode cX9_wipe 9 = .ok (.ireturn, 1) := by decide +kernel
theorem dX9_wipe_10 : decode cX9_wipe 10 = .ok (.aload_n 0, 1) := by decide +kernel
theorem dX9_wipe_11 : decode cX9_wipe 11 = .ok (.getfield 25, 3) := by decide +kernel
theorem dX9_wipe_14 : decode cX9_wipe 14 = .ok (.iload_n 1, 1) := by decide +kernel
theorem dX9_wipe_15 : decode cX9_wipe 15 = .ok (.iaload, 1) := by decide +kernel
theorem dX9_wipe_16 : decode cX9_wipe 16 = .ok (.istore_n 2, 1) := by decide +kernel
theorem dX9_wipe_17 : decode cX9_wipe 17 = .ok (.aload_n 0, 1) := by decide +kernel
theorem dX9_wipe_18 : decode cX9_wipe 18 = .ok (.getfield 25, 3) := by decide +kernel
theorem dX9_wipe_21 : decode cX9_wipe 21 = .ok (.iload_n 1, 1) := by decide +kernel
theorem dX9_wipe_22 : decode cX9_wipe 22 = .ok (.iconst 0, 1) := by decide +kernel
theorem dX9_wipe_23 : decode cX9_wipe 23 = .ok (.iastore, 1) := by decide +kernel
theorem dX9_wipe_24 : decode cX9_wipe 24 = .ok (.iload_n 2, 1) := by decide +kernel
theorem dX9_wipe_25 : decode cX9_wipe 25 = .ok (.ireturn, 1) := by decide +kernel
theorem dX9_undo_0 : decode cX9_undo 0 = .ok (.iload_n 1, 1) := by decide +kernel
theorem dX9_undo_1 : decode cX9_undo 1 = .ok (.invokestatic 98, 3) := by decide +kernel
theorem dX9_undo_4 : decode cX9_undo 4 = .ok (.ifCond .ne 6, 3) := by decide +kernel
theorem dX9_undo_7 : decode cX9_undo 7 = .ok (.bipush (-2), 2) := by decide +kernel
theorem dX9_undo_9 : decode cX9_undo 9 = .ok (.ireturn, 1) := by decide +kernel
theorem dX9_undo_10 : decode cX9_undo 10 = .ok (.aload_n 0, 1) := by decide +kernel
theorem dX9_undo_11 : decode cX9_undo 11 = .ok (.getfield 25, 3) := by decide +kernel
theorem dX9_undo_14 : decode cX9_undo 14 = .ok (.iload_n 1, 1) := by decide +kernel
theorem dX9_undo_15 : decode cX9_undo 15 = .ok (.iaload, 1) := by decide +kernel
theorem dX9_undo_16 : decode cX9_undo 16 = .ok (.ifCond .ne 6, 3) := by decide +kernel
theorem dX9_undo_19 : decode cX9_undo 19 = .ok (.bipush (-3), 2) := by decide +kernel
theorem dX9_undo_21 : decode cX9_undo 21 = .ok (.ireturn, 1) := by decide +kernel
theorem dX9_undo_22 : decode cX9_undo 22 = .ok (.aload_n 0, 1) := by decide +kernel
theorem dX9_undo_23 : decode cX9_undo 23 = .ok (.getfield 25, 3) := by decide +kernel
theorem dX9_undo_26 : decode cX9_undo 26 = .ok (.iload_n 1, 1) := by decide +kernel
theorem dX9_undo_27 : decode cX9_undo 27 = .ok (.dup2, 1) := by decide +kernel
theorem dX9_undo_28 : decode cX9_undo 28 = .ok (.iaload, 1) := by decide +kernel
theorem dX9_undo_29 : decode cX9_undo 29 = .ok (.iconst 1, 1) := by decide +kernel
theorem dX9_undo_30 : decode cX9_undo 30 = .ok (.isub, 1) := by decide +kernel
theorem dX9_undo_31 : decode cX9_undo 31 = .ok (.iastore, 1) := by decide +kernel
theorem dX9_undo_32 : decode cX9_undo 32 = .ok (.aload_n 0, 1) := by decide +kernel
theorem dX9_undo_33 : decode cX9_undo 33 = .ok (.getfield 25, 3) := by decide +kernel
theorem dX9_undo_36 : decode cX9_undo 36 = .ok (.iload_n 1, 1) := by decide +kernel
theorem dX9_undo_37 : decode cX9_undo 37 = .ok (.iaload, 1) := by decide +kernel
theorem dX9_undo_38 : decode cX9_undo 38 = .ok (.ireturn, 1) := by decide +kernel
theorem dX9_readsPlay_0 : decode cX9_readsPlay 0 = .ok (.aload_n 0, 1) := by decide +kernel
theorem dX9_readsPlay_1 : decode cX9_readsPlay 1 = .ok (.iconst 0, 1) := by decide +kernel
theorem dX9_readsPlay_2 : decode cX9_readsPlay 2 = .ok (.putfield 103, 3) := by decide +kernel
theorem dX9_readsPlay_5 : decode cX9_readsPlay 5 = .ok (.iconst 0, 1) := by decide +kernel
theorem dX9_readsPlay_6 : decode cX9_readsPlay 6 = .ok (.istore_n 1, 1) := by decide +kernel
theorem dX9_readsPlay_7 : decode cX9_readsPlay 7 = .ok (.iload_n 1, 1) := by decide +kernel
theorem dX9_readsPlay_8 : decode cX9_readsPlay 8 = .ok (.aload_n 0, 1) := by decide +kernel
theorem dX9_readsPlay_9 : decode cX9_readsPlay 9 = .ok (.getfield 25, 3) := by decide +kernel
theorem dX9_readsPlay_12 : decode cX9_readsPlay 12 = .ok (.iconst 0, 1) := by decide +kernel
theorem dX9_readsPlay_13 : decode cX9_readsPlay 13 = .ok (.iaload, 1) := by decide +kernel
theorem dX9_readsPlay_14 : decode cX9_readsPlay 14 = .ok (.if_icmp .ge 60, 3) := by decide +kernel
theorem dX9_readsPlay_17 : decode cX9_readsPlay 17 = .ok (.aload_n 0, 1) := by decide +kernel
theorem dX9_readsPlay_18 : decode cX9_readsPlay 18 = .ok (.getfield 22, 3) := by decide +kernel
theorem dX9_readsPlay_21 : decode cX9_readsPlay 21 = .ok (.iload_n 1, 1) := by decide +kernel
theorem dX9_readsPlay_22 : decode cX9_readsPlay 22 = .ok (.iaload, 1) := by decide +kernel
theorem dX9_readsPlay_23 : decode cX9_readsPlay 23 = .ok (.i2l, 1) := by decide +kernel
theorem dX9_readsPlay_24 : decode cX9_readsPlay 24 = .ok (.ldc2_w 106, 3) := by decide +kernel
theorem dX9_readsPlay_27 : decode cX9_readsPlay 27 = .ok (.ldc2_w 108, 3) := by decide +kernel
theorem dX9_readsPlay_30 : decode cX9_readsPlay 30 = .ok (.invokestatic 70, 3) := by decide +kernel
theorem dX9_readsPlay_33 : decode cX9_readsPlay 33 = .ok (.ifCond .ne 10, 3) := by decide +kernel
theorem dX9_readsPlay_36 : decode cX9_readsPlay 36 = .ok (.aload_n 0, 1) := by decide +kernel
theorem dX9_readsPlay_37 : decode cX9_readsPlay 37 = .ok (.iconst 0, 1) := by decide +kernel
theorem dX9_readsPlay_38 : decode cX9_readsPlay 38 = .ok (.putfield 103, 3) := by decide +kernel
theorem dX9_readsPlay_41 : decode cX9_readsPlay 41 = .ok (.iload_n 1, 1) := by decide +kernel
theorem dX9_readsPlay_42 : decode cX9_readsPlay 42 = .ok (.ireturn, 1) := by decide +kernel
theorem dX9_readsPlay_43 : decode cX9_readsPlay 43 = .ok (.aload_n 0, 1) := by decide +kernel
theorem dX9_readsPlay_44 : decode cX9_readsPlay 44 = .ok (.getfield 28, 3) := by decide +kernel
theorem dX9_readsPlay_47 : decode cX9_readsPlay 47 = .ok (.iload_n 1, 1) := by decide +kernel
theorem dX9_readsPlay_48 : decode cX9_readsPlay 48 = .ok (.aload_n 0, 1) := by decide +kernel
theorem dX9_readsPlay_49 : decode cX9_readsPlay 49 = .ok (.getfield 22, 3) := by decide +kernel
theorem dX9_readsPlay_52 : decode cX9_readsPlay 52 = .ok (.iload_n 1, 1) := by decide +kernel
theorem dX9_readsPlay_53 : decode cX9_readsPlay 53 = .ok (.iaload, 1) := by decide +kernel
theorem dX9_readsPlay_54 : decode cX9_readsPlay 54 = .ok (.bipush 97, 2) := by decide +kernel
theorem dX9_readsPlay_56 : decode cX9_readsPlay 56 = .ok (.isub, 1) := by decide +kernel
theorem dX9_readsPlay_57 : decode cX9_readsPlay 57 = .ok (.iastore, 1) := by decide +kernel
theorem dX9_readsPlay_58 : decode cX9_readsPlay 58 = .ok (.aload_n 0, 1) := by decide +kernel
theorem dX9_readsPlay_59 : decode cX9_readsPlay 59 = .ok (.dup, 1) := by decide +kernel
theorem dX9_readsPlay_60 : decode cX9_readsPlay 60 = .ok (.getfield 103, 3) := by decide +kernel
theorem dX9_readsPlay_63 : decode cX9_readsPlay 63 = .ok (.iconst 1, 1) := by decide +kernel
theorem dX9_readsPlay_64 : decode cX9_readsPlay 64 = .ok (.iadd, 1) := by decide +kernel
theorem dX9_readsPlay_65 : decode cX9_readsPlay 65 = .ok (.putfield 103, 3) := by decide +kernel
theorem dX9_readsPlay_68 : decode cX9_readsPlay 68 = .ok (.iinc 1 1, 3) := by decide +kernel
theorem dX9_readsPlay_71 : decode cX9_readsPlay 71 = .ok (.goto (-64), 3) := by decide +kernel
theorem dX9_readsPlay_74 : decode cX9_readsPlay 74 = .ok (.iconst (-1), 1) := by decide +kernel
theorem dX9_readsPlay_75 : decode cX9_readsPlay 75 = .ok (.ireturn, 1) := by decide +kernel
theorem dX9_within_0 : decode cX9_within 0 = .ok (.iload_n 0, 1) := by decide +kernel
theorem dX9_within_1 : decode cX9_within 1 = .ok (.i2l, 1) := by decide +kernel
theorem dX9_within_2 : decode cX9_within 2 = .ok (.iload_n 1, 1) := by decide +kernel
theorem dX9_within_3 : decode cX9_within 3 = .ok (.i2l, 1) := by decide +kernel
theorem dX9_within_4 : decode cX9_within 4 = .ok (.iload_n 2, 1) := by decide +kernel
theorem dX9_within_5 : decode cX9_within 5 = .ok (.i2l, 1) := by decide +kernel
theorem dX9_within_6 : decode cX9_within 6 = .ok (.invokestatic 70, 3) := by decide +kernel
theorem dX9_within_9 : decode cX9_within 9 = .ok (.ifCond .eq 9, 3) := by decide +kernel
theorem dX9_within_12 : decode cX9_within 12 = .ok (.iload_n 0, 1) := by decide +kernel
theorem dX9_within_13 : decode cX9_within 13 = .ok (.iload_n 1, 1) := by decide +kernel
theorem dX9_within_14 : decode cX9_within 14 = .ok (.isub, 1) := by decide +kernel
theorem dX9_within_15 : decode cX9_within 15 = .ok (.goto 4, 3) := by decide +kernel
theorem dX9_within_18 : decode cX9_within 18 = .ok (.iconst (-1), 1) := by decide +kernel
theorem dX9_within_19 : decode cX9_within 19 = .ok (.ireturn, 1) := by decide +kernel
theorem dX9_tellsOf_0 : decode cX9_tellsOf 0 = .ok (.iload_n 0, 1) := by decide +kernel
theorem dX9_tellsOf_1 : decode cX9_tellsOf 1 = .ok (.tableswitch 100 0 3 #[31, 40, 49, 91], 31) := by decide +kernel
theorem dX9_tellsOf_32 : decode cX9_tellsOf 32 = .ok (.iload_n 1, 1) := by decide +kernel
theorem dX9_tellsOf_33 : decode cX9_tellsOf 33 = .ok (.bipush 97, 2) := by decide +kernel
theorem dX9_tellsOf_35 : decode cX9_tellsOf 35 = .ok (.bipush 106, 2) := by decide +kernel
theorem dX9_tellsOf_37 : decode cX9_tellsOf 37 = .ok (.invokestatic 110, 3) := by decide +kernel
theorem dX9_tellsOf_40 : decode cX9_tellsOf 40 = .ok (.ireturn, 1) := by decide +kernel
theorem dX9_tellsOf_41 : decode cX9_tellsOf 41 = .ok (.iload_n 1, 1) := by decide +kernel
theorem dX9_tellsOf_42 : decode cX9_tellsOf 42 = .ok (.bipush 48, 2) := by decide +kernel
theorem dX9_tellsOf_44 : decode cX9_tellsOf 44 = .ok (.bipush 57, 2) := by decide +kernel
theorem dX9_tellsOf_46 : decode cX9_tellsOf 46 = .ok (.invokestatic 110, 3) := by decide +kernel
theorem dX9_tellsOf_49 : decode cX9_tellsOf 49 = .ok (.ireturn, 1) := by decide +kernel
theorem dX9_tellsOf_50 : decode cX9_tellsOf 50 = .ok (.iload_n 1, 1) := by decide +kernel
theorem dX9_tellsOf_51 : decode cX9_tellsOf 51 = .ok (.bipush 110, 2) := by decide +kernel
theorem dX9_tellsOf_53 : decode cX9_tellsOf 53 = .ok (.if_icmp .ne 7, 3) := by decide +kernel
theorem dX9_tellsOf_56 : decode cX9_tellsOf 56 = .ok (.iconst 0, 1) := by decide +kernel
theorem dX9_tellsOf_57 : decode cX9_tellsOf 57 = .ok (.goto 34, 3) := by decide +kernel
theorem dX9_tellsOf_60 : decode cX9_tellsOf 60 = .ok (.iload_n 1, 1) := by decide +kernel
theorem dX9_tellsOf_61 : decode cX9_tellsOf 61 = .ok (.bipush 114, 2) := by decide +kernel
theorem dX9_tellsOf_63 : decode cX9_tellsOf 63 = .ok (.if_icmp .ne 7, 3) := by decide +kernel
theorem dX9_tellsOf_66 : decode cX9_tellsOf 66 = .ok (.iconst 1, 1) := by decide +kernel
theorem dX9_tellsOf_67 : decode cX9_tellsOf 67 = .ok (.goto 24, 3) := by decide +kernel
theorem dX9_tellsOf_70 : decode cX9_tellsOf 70 = .ok (.iload_n 1, 1) := by decide +kernel
theorem dX9_tellsOf_71 : decode cX9_tellsOf 71 = .ok (.bipush 121, 2) := by decide +kernel
theorem dX9_tellsOf_73 : decode cX9_tellsOf 73 = .ok (.if_icmp .ne 7, 3) := by decide +kernel
theorem dX9_tellsOf_76 : decode cX9_tellsOf 76 = .ok (.iconst 2, 1) := by decide +kernel
theorem dX9_tellsOf_77 : decode cX9_tellsOf 77 = .ok (.goto 14, 3) := by decide +kernel
theorem dX9_tellsOf_80 : decode cX9_tellsOf 80 = .ok (.iload_n 1, 1) := by decide +kernel
theorem dX9_tellsOf_81 : decode cX9_tellsOf 81 = .ok (.bipush 108, 2) := by decide +kernel
theorem dX9_tellsOf_83 : decode cX9_tellsOf 83 = .ok (.if_icmp .ne 7, 3) := by decide +kernel
theorem dX9_tellsOf_86 : decode cX9_tellsOf 86 = .ok (.iconst 3, 1) := by decide +kernel
theorem dX9_tellsOf_87 : decode cX9_tellsOf 87 = .ok (.goto 4, 3) := by decide +kernel
theorem dX9_tellsOf_90 : decode cX9_tellsOf 90 = .ok (.iconst (-1), 1) := by decide +kernel
theorem dX9_tellsOf_91 : decode cX9_tellsOf 91 = .ok (.ireturn, 1) := by decide +kernel
theorem dX9_tellsOf_92 : decode cX9_tellsOf 92 = .ok (.iload_n 1, 1) := by decide +kernel
theorem dX9_tellsOf_93 : decode cX9_tellsOf 93 = .ok (.bipush 97, 2) := by decide +kernel
theorem dX9_tellsOf_95 : decode cX9_tellsOf 95 = .ok (.bipush 104, 2) := by decide +kernel
theorem dX9_tellsOf_97 : decode cX9_tellsOf 97 = .ok (.invokestatic 110, 3) := by decide +kernel
theorem dX9_tellsOf_100 : decode cX9_tellsOf 100 = .ok (.ireturn, 1) := by decide +kernel
theorem dX9_tellsOf_101 : decode cX9_tellsOf 101 = .ok (.iload_n 1, 1) := by decide +kernel
theorem dX9_tellsOf_102 : decode cX9_tellsOf 102 = .ok (.bipush 59, 2) := by decide +kernel
theorem dX9_tellsOf_104 : decode cX9_tellsOf 104 = .ok (.if_icmp .ne 7, 3) := by decide +kernel
theorem dX9_tellsOf_107 : decode cX9_tellsOf 107 = .ok (.iconst 0, 1) := by decide +kernel
theorem dX9_tellsOf_108 : decode cX9_tellsOf 108 = .ok (.goto 4, 3) := by decide +kernel
theorem dX9_tellsOf_111 : decode cX9_tellsOf 111 = .ok (.iconst (-1), 1) := by decide +kernel
theorem dX9_tellsOf_112 : decode cX9_tellsOf 112 = .ok (.ireturn, 1) := by decide +kernel
theorem dX9_readsHoles_0 : decode cX9_readsHoles 0 = .ok (.aload_n 0, 1) := by decide +kernel
theorem dX9_readsHoles_1 : decode cX9_readsHoles 1 = .ok (.iconst 0, 1) := by decide +kernel
theorem dX9_readsHoles_2 : decode cX9_readsHoles 2 = .ok (.putfield 113, 3) := by decide +kernel
theorem dX9_readsHoles_5 : decode cX9_readsHoles 5 = .ok (.aload_n 0, 1) := by decide +kernel
theorem dX9_readsHoles_6 : decode cX9_readsHoles 6 = .ok (.getfield 25, 3) := by decide +kernel
theorem dX9_readsHoles_9 : decode cX9_readsHoles 9 = .ok (.iconst 1, 1) := by decide +kernel
theorem dX9_readsHoles_10 : decode cX9_readsHoles 10 = .ok (.iaload, 1) := by decide +kernel
theorem dX9_readsHoles_11 : decode cX9_readsHoles 11 = .ok (.istore_n 1, 1) := by decide +kernel
theorem dX9_readsHoles_12 : decode cX9_readsHoles 12 = .ok (.iconst 0, 1) := by decide +kernel
theorem dX9_readsHoles_13 : decode cX9_readsHoles 13 = .ok (.istore_n 2, 1) := by decide +kernel
theorem dX9_readsHoles_14 : decode cX9_readsHoles 14 = .ok (.iload_n 2, 1) := by decide +kernel
theorem dX9_readsHoles_15 : decode cX9_readsHoles 15 = .ok (.iload_n 1, 1) := by decide +kernel
theorem dX9_readsHoles_16 : decode cX9_readsHoles 16 = .ok (.if_icmp .ge 91, 3) := by decide +kernel
theorem dX9_readsHoles_19 : decode cX9_readsHoles 19 = .ok (.iload_n 2, 1) := by decide +kernel
theorem dX9_readsHoles_20 : decode cX9_readsHoles 20 = .ok (.iconst 5, 1) := by decide +kernel
theorem dX9_readsHoles_21 : decode cX9_readsHoles 21 = .ok (.irem, 1) := by decide +kernel
theorem dX9_readsHoles_22 : decode cX9_readsHoles 22 = .ok (.istore_n 3, 1) := by decide +kernel
theorem dX9_readsHoles_23 : decode cX9_readsHoles 23 = .ok (.iload_n 2, 1) := by decide +kernel
theorem dX9_readsHoles_24 : decode cX9_readsHoles 24 = .ok (.iconst 5, 1) := by decide +kernel
theorem dX9_readsHoles_25 : decode cX9_readsHoles 25 = .ok (.idiv, 1) := by decide +kernel
theorem dX9_readsHoles_26 : decode cX9_readsHoles 26 = .ok (.bipush 9, 2) := by decide +kernel
theorem dX9_readsHoles_28 : decode cX9_readsHoles 28 = .ok (.if_icmp .ne 7, 3) := by decide +kernel
theorem dX9_readsHoles_31 : decode cX9_readsHoles 31 = .ok (.iconst (-1), 1) := by decide +kernel
theorem dX9_readsHoles_32 : decode cX9_readsHoles 32 = .ok (.goto 16, 3) := by decide +kernel
theorem dX9_readsHoles_35 : decode cX9_readsHoles 35 = .ok (.iload_n 3, 1) := by decide +kernel
theorem dX9_readsHoles_36 : decode cX9_readsHoles 36 = .ok (.aload_n 0, 1) := by decide +kernel
theorem dX9_readsHoles_37 : decode cX9_readsHoles 37 = .ok (.getfield 22, 3) := by decide +kernel
theorem dX9_readsHoles_40 : decode cX9_readsHoles 40 = .ok (.bipush 44, 2) := by decide +kernel
theorem dX9_readsHoles_42 : decode cX9_readsHoles 42 = .ok (.iload_n 2, 1) := by decide +kernel
theorem dX9_readsHoles_43 : decode cX9_readsHoles 43 = .ok (.iadd, 1) := by decide +kernel
theorem dX9_readsHoles_44 : decode cX9_readsHoles 44 = .ok (.iaload, 1) := by decide +kernel
theorem dX9_readsHoles_45 : decode cX9_readsHoles 45 = .ok (.invokestatic 116, 3) := by decide +kernel
theorem dX9_readsHoles_48 : decode cX9_readsHoles 48 = .ok (.istore 4, 2) := by decide +kernel
theorem dX9_readsHoles_50 : decode cX9_readsHoles 50 = .ok (.iload 4, 2) := by decide +kernel
theorem dX9_readsHoles_52 : decode cX9_readsHoles 52 = .ok (.iconst (-1), 1) := by decide +kernel
theorem dX9_readsHoles_53 : decode cX9_readsHoles 53 = .ok (.if_icmp .ne 10, 3) := by decide +kernel
theorem dX9_readsHoles_56 : decode cX9_readsHoles 56 = .ok (.aload_n 0, 1) := by decide +kernel
theorem dX9_readsHoles_57 : decode cX9_readsHoles 57 = .ok (.iconst 0, 1) := by decide +kernel
theorem dX9_readsHoles_58 : decode cX9_readsHoles 58 = .ok (.putfield 113, 3) := by decide +kernel
theorem dX9_readsHoles_61 : decode cX9_readsHoles 61 = .ok (.iload_n 2, 1) := by decide +kernel
theorem dX9_readsHoles_62 : decode cX9_readsHoles 62 = .ok (.ireturn, 1) := by decide +kernel
theorem dX9_readsHoles_63 : decode cX9_readsHoles 63 = .ok (.iload_n 3, 1) := by decide +kernel
theorem dX9_readsHoles_64 : decode cX9_readsHoles 64 = .ok (.iconst 4, 1) := by decide +kernel
theorem dX9_readsHoles_65 : decode cX9_readsHoles 65 = .ok (.if_icmp .ge 17, 3) := by decide +kernel
theorem dX9_readsHoles_68 : decode cX9_readsHoles 68 = .ok (.aload_n 0, 1) := by decide +kernel
theorem dX9_readsHoles_69 : decode cX9_readsHoles 69 = .ok (.getfield 31, 3) := by decide +kernel
theorem dX9_readsHoles_72 : decode cX9_readsHoles 72 = .ok (.iconst 4, 1) := by decide +kernel
theorem dX9_readsHoles_73 : decode cX9_readsHoles 73 = .ok (.iload_n 2, 1) := by decide +kernel
theorem dX9_readsHoles_74 : decode cX9_readsHoles 74 = .ok (.iconst 5, 1) := by decide +kernel
theorem dX9_readsHoles_75 : decode cX9_readsHoles 75 = .ok (.idiv, 1) := by decide +kernel
theorem dX9_readsHoles_76 : decode cX9_readsHoles 76 = .ok (.imul, 1) := by decide +kernel
theorem dX9_readsHoles_77 : decode cX9_readsHoles 77 = .ok (.iload_n 3, 1) := by decide +kernel
theorem dX9_readsHoles_78 : decode cX9_readsHoles 78 = .ok (.iadd, 1) := by decide +kernel
theorem dX9_readsHoles_79 : decode cX9_readsHoles 79 = .ok (.iload 4, 2) := by decide +kernel
theorem dX9_readsHoles_81 : decode cX9_readsHoles 81 = .ok (.iastore, 1) := by decide +kernel
theorem dX9_readsHoles_82 : decode cX9_readsHoles 82 = .ok (.aload_n 0, 1) := by decide +kernel
theorem dX9_readsHoles_83 : decode cX9_readsHoles 83 = .ok (.dup, 1) := by decide +kernel
theorem dX9_readsHoles_84 : decode cX9_readsHoles 84 = .ok (.getfield 113, 3) := by decide +kernel
theorem dX9_readsHoles_87 : decode cX9_readsHoles 87 = .ok (.iload_n 3, 1) := by decide +kernel
theorem dX9_readsHoles_88 : decode cX9_readsHoles 88 = .ok (.iconst 3, 1) := by decide +kernel
theorem dX9_readsHoles_89 : decode cX9_readsHoles 89 = .ok (.if_icmp .ne 7, 3) := by decide +kernel
theorem dX9_readsHoles_92 : decode cX9_readsHoles 92 = .ok (.iconst 1, 1) := by decide +kernel
theorem dX9_readsHoles_93 : decode cX9_readsHoles 93 = .ok (.goto 4, 3) := by decide +kernel
theorem dX9_readsHoles_96 : decode cX9_readsHoles 96 = .ok (.iconst 0, 1) := by decide +kernel
theorem dX9_readsHoles_97 : decode cX9_readsHoles 97 = .ok (.iadd, 1) := by decide +kernel
theorem dX9_readsHoles_98 : decode cX9_readsHoles 98 = .ok (.putfield 113, 3) := by decide +kernel
theorem dX9_readsHoles_101 : decode cX9_readsHoles 101 = .ok (.iinc 2 1, 3) := by decide +kernel
theorem dX9_readsHoles_104 : decode cX9_readsHoles 104 = .ok (.goto (-90), 3) := by decide +kernel
theorem dX9_readsHoles_107 : decode cX9_readsHoles 107 = .ok (.iload_n 1, 1) := by decide +kernel
theorem dX9_readsHoles_108 : decode cX9_readsHoles 108 = .ok (.ifCond .le 17, 3) := by decide +kernel
theorem dX9_readsHoles_111 : decode cX9_readsHoles 111 = .ok (.iload_n 1, 1) := by decide +kernel
theorem dX9_readsHoles_112 : decode cX9_readsHoles 112 = .ok (.iconst 5, 1) := by decide +kernel
theorem dX9_readsHoles_113 : decode cX9_readsHoles 113 = .ok (.irem, 1) := by decide +kernel
theorem dX9_readsHoles_114 : decode cX9_readsHoles 114 = .ok (.iconst 4, 1) := by decide +kernel
theorem dX9_readsHoles_115 : decode cX9_readsHoles 115 = .ok (.if_icmp .eq 10, 3) := by decide +kernel
theorem dX9_readsHoles_118 : decode cX9_readsHoles 118 = .ok (.aload_n 0, 1) := by decide +kernel
theorem dX9_readsHoles_119 : decode cX9_readsHoles 119 = .ok (.iconst 0, 1) := by decide +kernel
theorem dX9_readsHoles_120 : decode cX9_readsHoles 120 = .ok (.putfield 113, 3) := by decide +kernel
theorem dX9_readsHoles_123 : decode cX9_readsHoles 123 = .ok (.iload_n 1, 1) := by decide +kernel
theorem dX9_readsHoles_124 : decode cX9_readsHoles 124 = .ok (.ireturn, 1) := by decide +kernel
theorem dX9_readsHoles_125 : decode cX9_readsHoles 125 = .ok (.iconst (-1), 1) := by decide +kernel
theorem dX9_readsHoles_126 : decode cX9_readsHoles 126 = .ok (.ireturn, 1) := by decide +kernel
theorem dX9_reads_0 : decode cX9_reads 0 = .ok (.aload_n 0, 1) := by decide +kernel
theorem dX9_reads_1 : decode cX9_reads 1 = .ok (.invokevirtual 119, 3) := by decide +kernel
theorem dX9_reads_4 : decode cX9_reads 4 = .ok (.pop, 1) := by decide +kernel
theorem dX9_reads_5 : decode cX9_reads 5 = .ok (.aload_n 0, 1) := by decide +kernel
theorem dX9_reads_6 : decode cX9_reads 6 = .ok (.invokevirtual 123, 3) := by decide +kernel
theorem dX9_reads_9 : decode cX9_reads 9 = .ok (.pop, 1) := by decide +kernel
theorem dX9_reads_10 : decode cX9_reads 10 = .ok (.return_, 1) := by decide +kernel
theorem dX9_fault_0 : decode cX9_fault 0 = .ok (.iload_n 1, 1) := by decide +kernel
theorem dX9_fault_1 : decode cX9_fault 1 = .ok (.invokestatic 98, 3) := by decide +kernel
theorem dX9_fault_4 : decode cX9_fault 4 = .ok (.ifCond .ne 8, 3) := by decide +kernel
theorem dX9_fault_7 : decode cX9_fault 7 = .ok (.bipush (-2), 2) := by decide +kernel
theorem dX9_fault_9 : decode cX9_fault 9 = .ok (.goto 18, 3) := by decide +kernel
theorem dX9_fault_12 : decode cX9_fault 12 = .ok (.iload_n 1, 1) := by decide +kernel
theorem dX9_fault_13 : decode cX9_fault 13 = .ok (.ifCond .ne 10, 3) := by decide +kernel
theorem dX9_fault_16 : decode cX9_fault 16 = .ok (.aload_n 0, 1) := by decide +kernel
theorem dX9_fault_17 : decode cX9_fault 17 = .ok (.invokevirtual 119, 3) := by decide +kernel
theorem dX9_fault_20 : decode cX9_fault 20 = .ok (.goto 7, 3) := by decide +kernel
theorem dX9_fault_23 : decode cX9_fault 23 = .ok (.aload_n 0, 1) := by decide +kernel
theorem dX9_fault_24 : decode cX9_fault 24 = .ok (.invokevirtual 123, 3) := by decide +kernel
theorem dX9_fault_27 : decode cX9_fault 27 = .ok (.ireturn, 1) := by decide +kernel
theorem dX9_isHole_0 : decode cX9_isHole 0 = .ok (.iload_n 1, 1) := by decide +kernel
theorem dX9_isHole_1 : decode cX9_isHole 1 = .ok (.i2l, 1) := by decide +kernel
theorem dX9_isHole_2 : decode cX9_isHole 2 = .ok (.lconst 0, 1) := by decide +kernel
theorem dX9_isHole_3 : decode cX9_isHole 3 = .ok (.aload_n 0, 1) := by decide +kernel
theorem dX9_isHole_4 : decode cX9_isHole 4 = .ok (.getfield 113, 3) := by decide +kernel
theorem dX9_isHole_7 : decode cX9_isHole 7 = .ok (.iconst 1, 1) := by decide +kernel
theorem dX9_isHole_8 : decode cX9_isHole 8 = .ok (.isub, 1) := by decide +kernel
theorem dX9_isHole_9 : decode cX9_isHole 9 = .ok (.i2l, 1) := by decide +kernel
theorem dX9_isHole_10 : decode cX9_isHole 10 = .ok (.invokestatic 70, 3) := by decide +kernel
theorem dX9_isHole_13 : decode cX9_isHole 13 = .ok (.ireturn, 1) := by decide +kernel
theorem dX9_isLine_0 : decode cX9_isLine 0 = .ok (.iload_n 0, 1) := by decide +kernel
theorem dX9_isLine_1 : decode cX9_isLine 1 = .ok (.i2l, 1) := by decide +kernel
theorem dX9_isLine_2 : decode cX9_isLine 2 = .ok (.lconst 0, 1) := by decide +kernel
theorem dX9_isLine_3 : decode cX9_isLine 3 = .ok (.ldc2_w 126, 3) := by decide +kernel
theorem dX9_isLine_6 : decode cX9_isLine 6 = .ok (.invokestatic 70, 3) := by decide +kernel
theorem dX9_isLine_9 : decode cX9_isLine 9 = .ok (.ireturn, 1) := by decide +kernel
theorem dX9_isStep_0 : decode cX9_isStep 0 = .ok (.iload_n 0, 1) := by decide +kernel
theorem dX9_isStep_1 : decode cX9_isStep 1 = .ok (.i2l, 1) := by decide +kernel
theorem dX9_isStep_2 : decode cX9_isStep 2 = .ok (.lconst 0, 1) := by decide +kernel
theorem dX9_isStep_3 : decode cX9_isStep 3 = .ok (.ldc2_w 128, 3) := by decide +kernel
theorem dX9_isStep_6 : decode cX9_isStep 6 = .ok (.invokestatic 70, 3) := by decide +kernel
theorem dX9_isStep_9 : decode cX9_isStep 9 = .ok (.ireturn, 1) := by decide +kernel
theorem dX9_line_0 : decode cX9_line 0 = .ok (.aload_n 0, 1) := by decide +kernel
theorem dX9_line_1 : decode cX9_line 1 = .ok (.invokevirtual 130, 3) := by decide +kernel
theorem dX9_line_4 : decode cX9_line 4 = .ok (.iload_n 1, 1) := by decide +kernel
theorem dX9_line_5 : decode cX9_line 5 = .ok (.i2l, 1) := by decide +kernel
theorem dX9_line_6 : decode cX9_line 6 = .ok (.lconst 0, 1) := by decide +kernel
theorem dX9_line_7 : decode cX9_line 7 = .ok (.ldc2_w 133, 3) := by decide +kernel
theorem dX9_line_10 : decode cX9_line 10 = .ok (.invokestatic 70, 3) := by decide +kernel
theorem dX9_line_13 : decode cX9_line 13 = .ok (.ifCond .ne 8, 3) := by decide +kernel
theorem dX9_line_16 : decode cX9_line 16 = .ok (.bipush (-2), 2) := by decide +kernel
theorem dX9_line_18 : decode cX9_line 18 = .ok (.goto 21, 3) := by decide +kernel
theorem dX9_line_21 : decode cX9_line 21 = .ok (.iload_n 1, 1) := by decide +kernel
theorem dX9_line_22 : decode cX9_line 22 = .ok (.aload_n 0, 1) := by decide +kernel
theorem dX9_line_23 : decode cX9_line 23 = .ok (.getfield 103, 3) := by decide +kernel
theorem dX9_line_26 : decode cX9_line 26 = .ok (.if_icmp .ge 12, 3) := by decide +kernel
theorem dX9_line_29 : decode cX9_line 29 = .ok (.aload_n 0, 1) := by decide +kernel
theorem dX9_line_30 : decode cX9_line 30 = .ok (.getfield 28, 3) := by decide +kernel
theorem dX9_line_33 : decode cX9_line 33 = .ok (.iload_n 1, 1) := by decide +kernel
theorem dX9_line_34 : decode cX9_line 34 = .ok (.iaload, 1) := by decide +kernel
theorem dX9_line_35 : decode cX9_line 35 = .ok (.goto 4, 3) := by decide +kernel
theorem dX9_line_38 : decode cX9_line 38 = .ok (.iconst (-1), 1) := by decide +kernel
theorem dX9_line_39 : decode cX9_line 39 = .ok (.ireturn, 1) := by decide +kernel
theorem dX9_hole_0 : decode cX9_hole 0 = .ok (.aload_n 0, 1) := by decide +kernel
theorem dX9_hole_1 : decode cX9_hole 1 = .ok (.invokevirtual 130, 3) := by decide +kernel
theorem dX9_hole_4 : decode cX9_hole 4 = .ok (.aload_n 0, 1) := by decide +kernel
theorem dX9_hole_5 : decode cX9_hole 5 = .ok (.iload_n 1, 1) := by decide +kernel
theorem dX9_hole_6 : decode cX9_hole 6 = .ok (.invokevirtual 135, 3) := by decide +kernel
theorem dX9_hole_9 : decode cX9_hole 9 = .ok (.ifCond .eq 28, 3) := by decide +kernel
theorem dX9_hole_12 : decode cX9_hole 12 = .ok (.iload_n 2, 1) := by decide +kernel
theorem dX9_hole_13 : decode cX9_hole 13 = .ok (.i2l, 1) := by decide +kernel
theorem dX9_hole_14 : decode cX9_hole 14 = .ok (.lconst 0, 1) := by decide +kernel
theorem dX9_hole_15 : decode cX9_hole 15 = .ok (.ldc2_w 77, 3) := by decide +kernel
theorem dX9_hole_18 : decode cX9_hole 18 = .ok (.invokestatic 70, 3) := by decide +kernel
theorem dX9_hole_21 : decode cX9_hole 21 = .ok (.ifCond .eq 16, 3) := by decide +kernel
theorem dX9_hole_24 : decode cX9_hole 24 = .ok (.aload_n 0, 1) := by decide +kernel
theorem dX9_hole_25 : decode cX9_hole 25 = .ok (.getfield 31, 3) := by decide +kernel
theorem dX9_hole_28 : decode cX9_hole 28 = .ok (.iconst 4, 1) := by decide +kernel
theorem dX9_hole_29 : decode cX9_hole 29 = .ok (.iload_n 1, 1) := by decide +kernel
theorem dX9_hole_30 : decode cX9_hole 30 = .ok (.imul, 1) := by decide +kernel
theorem dX9_hole_31 : decode cX9_hole 31 = .ok (.iload_n 2, 1) := by decide +kernel
theorem dX9_hole_32 : decode cX9_hole 32 = .ok (.iadd, 1) := by decide +kernel
theorem dX9_hole_33 : decode cX9_hole 33 = .ok (.iaload, 1) := by decide +kernel
theorem dX9_hole_34 : decode cX9_hole 34 = .ok (.goto 5, 3) := by decide +kernel
theorem dX9_hole_37 : decode cX9_hole 37 = .ok (.bipush (-2), 2) := by decide +kernel
theorem dX9_hole_39 : decode cX9_hole 39 = .ok (.ireturn, 1) := by decide +kernel
theorem dX9_printedBy_0 : decode cX9_printedBy 0 = .ok (.aload_n 0, 1) := by decide +kernel
theorem dX9_printedBy_1 : decode cX9_printedBy 1 = .ok (.getfield 103, 3) := by decide +kernel
theorem dX9_printedBy_4 : decode cX9_printedBy 4 = .ok (.ifCond .ne 5, 3) := by decide +kernel
theorem dX9_printedBy_7 : decode cX9_printedBy 7 = .ok (.iconst (-1), 1) := by decide +kernel
theorem dX9_printedBy_8 : decode cX9_printedBy 8 = .ok (.ireturn, 1) := by decide +kernel
theorem dX9_printedBy_9 : decode cX9_printedBy 9 = .ok (.iconst 0, 1) := by decide +kernel
theorem dX9_printedBy_10 : decode cX9_printedBy 10 = .ok (.istore_n 3, 1) := by decide +kernel
theorem dX9_printedBy_11 : decode cX9_printedBy 11 = .ok (.iload_n 3, 1) := by decide +kernel
theorem dX9_printedBy_12 : decode cX9_printedBy 12 = .ok (.aload_n 0, 1) := by decide +kernel
theorem dX9_printedBy_13 : decode cX9_printedBy 13 = .ok (.getfield 103, 3) := by decide +kernel
theorem dX9_printedBy_16 : decode cX9_printedBy 16 = .ok (.if_icmp .ge 38, 3) := by decide +kernel
theorem dX9_printedBy_19 : decode cX9_printedBy 19 = .ok (.aload_n 0, 1) := by decide +kernel
theorem dX9_printedBy_20 : decode cX9_printedBy 20 = .ok (.getfield 28, 3) := by decide +kernel
theorem dX9_printedBy_23 : decode cX9_printedBy 23 = .ok (.iload_n 3, 1) := by decide +kernel
theorem dX9_printedBy_24 : decode cX9_printedBy 24 = .ok (.iaload, 1) := by decide +kernel
theorem dX9_printedBy_25 : decode cX9_printedBy 25 = .ok (.iload_n 1, 1) := by decide +kernel
theorem dX9_printedBy_26 : decode cX9_printedBy 26 = .ok (.if_icmp .ne 22, 3) := by decide +kernel
theorem dX9_printedBy_29 : decode cX9_printedBy 29 = .ok (.aload_n 0, 1) := by decide +kernel
theorem dX9_printedBy_30 : decode cX9_printedBy 30 = .ok (.getfield 28, 3) := by decide +kernel
theorem dX9_printedBy_33 : decode cX9_printedBy 33 = .ok (.iload_n 3, 1) := by decide +kernel
theorem dX9_printedBy_34 : decode cX9_printedBy 34 = .ok (.iload_n 2, 1) := by decide +kernel
theorem dX9_printedBy_35 : decode cX9_printedBy 35 = .ok (.iadd, 1) := by decide +kernel
theorem dX9_printedBy_36 : decode cX9_printedBy 36 = .ok (.aload_n 0, 1) := by decide +kernel
theorem dX9_printedBy_37 : decode cX9_printedBy 37 = .ok (.getfield 103, 3) := by decide +kernel
theorem dX9_printedBy_40 : decode cX9_printedBy 40 = .ok (.iadd, 1) := by decide +kernel
theorem dX9_printedBy_41 : decode cX9_printedBy 41 = .ok (.aload_n 0, 1) := by decide +kernel
theorem dX9_printedBy_42 : decode cX9_printedBy 42 = .ok (.getfield 103, 3) := by decide +kernel
theorem dX9_printedBy_45 : decode cX9_printedBy 45 = .ok (.irem, 1) := by decide +kernel
theorem dX9_printedBy_46 : decode cX9_printedBy 46 = .ok (.iaload, 1) := by decide +kernel
theorem dX9_printedBy_47 : decode cX9_printedBy 47 = .ok (.ireturn, 1) := by decide +kernel
theorem dX9_printedBy_48 : decode cX9_printedBy 48 = .ok (.iinc 3 1, 3) := by decide +kernel
theorem dX9_printedBy_51 : decode cX9_printedBy 51 = .ok (.goto (-40), 3) := by decide +kernel
theorem dX9_printedBy_54 : decode cX9_printedBy 54 = .ok (.aload_n 0, 1) := by decide +kernel
theorem dX9_printedBy_55 : decode cX9_printedBy 55 = .ok (.getfield 28, 3) := by decide +kernel
theorem dX9_printedBy_58 : decode cX9_printedBy 58 = .ok (.iconst 0, 1) := by decide +kernel
theorem dX9_printedBy_59 : decode cX9_printedBy 59 = .ok (.iaload, 1) := by decide +kernel
theorem dX9_printedBy_60 : decode cX9_printedBy 60 = .ok (.ireturn, 1) := by decide +kernel
theorem dX9_printed_0 : decode cX9_printed 0 = .ok (.aload_n 0, 1) := by decide +kernel
theorem dX9_printed_1 : decode cX9_printed 1 = .ok (.invokevirtual 130, 3) := by decide +kernel
theorem dX9_printed_4 : decode cX9_printed 4 = .ok (.iload_n 1, 1) := by decide +kernel
theorem dX9_printed_5 : decode cX9_printed 5 = .ok (.invokestatic 138, 3) := by decide +kernel
theorem dX9_printed_8 : decode cX9_printed 8 = .ok (.ifCond .eq 27, 3) := by decide +kernel
theorem dX9_printed_11 : decode cX9_printed 11 = .ok (.iload_n 2, 1) := by decide +kernel
theorem dX9_printed_12 : decode cX9_printed 12 = .ok (.invokestatic 98, 3) := by decide +kernel
theorem dX9_printed_15 : decode cX9_printed 15 = .ok (.ifCond .eq 20, 3) := by decide +kernel
theorem dX9_printed_18 : decode cX9_printed 18 = .ok (.aload_n 0, 1) := by decide +kernel
theorem dX9_printed_19 : decode cX9_printed 19 = .ok (.iload_n 1, 1) := by decide +kernel
theorem dX9_printed_20 : decode cX9_printed 20 = .ok (.iload_n 2, 1) := by decide +kernel
theorem dX9_printed_21 : decode cX9_printed 21 = .ok (.ifCond .ne 7, 3) := by decide +kernel
theorem dX9_printed_24 : decode cX9_printed 24 = .ok (.iconst 1, 1) := by decide +kernel
theorem dX9_printed_25 : decode cX9_printed 25 = .ok (.goto 4, 3) := by decide +kernel
theorem dX9_printed_28 : decode cX9_printed 28 = .ok (.iconst (-1), 1) := by decide +kernel
theorem dX9_printed_29 : decode cX9_printed 29 = .ok (.invokevirtual 141, 3) := by decide +kernel
theorem dX9_printed_32 : decode cX9_printed 32 = .ok (.goto 5, 3) := by decide +kernel
theorem dX9_printed_35 : decode cX9_printed 35 = .ok (.bipush (-2), 2) := by decide +kernel
theorem dX9_printed_37 : decode cX9_printed 37 = .ok (.ireturn, 1) := by decide +kernel
theorem dX9_move_0 : decode cX9_move 0 = .ok (.iload_n 1, 1) := by decide +kernel
theorem dX9_move_1 : decode cX9_move 1 = .ok (.invokestatic 144, 3) := by decide +kernel
theorem dX9_move_4 : decode cX9_move 4 = .ok (.ifCond .eq 15, 3) := by decide +kernel
theorem dX9_move_7 : decode cX9_move 7 = .ok (.iload_n 2, 1) := by decide +kernel
theorem dX9_move_8 : decode cX9_move 8 = .ok (.i2l, 1) := by decide +kernel
theorem dX9_move_9 : decode cX9_move 9 = .ok (.lconst 0, 1) := by decide +kernel
theorem dX9_move_10 : decode cX9_move 10 = .ok (.ldc2_w 147, 3) := by decide +kernel
theorem dX9_move_13 : decode cX9_move 13 = .ok (.invokestatic 70, 3) := by decide +kernel
theorem dX9_move_16 : decode cX9_move 16 = .ok (.ifCond .ne 6, 3) := by decide +kernel
theorem dX9_move_19 : decode cX9_move 19 = .ok (.bipush (-2), 2) := by decide +kernel
theorem dX9_move_21 : decode cX9_move 21 = .ok (.ireturn, 1) := by decide +kernel
theorem dX9_move_22 : decode cX9_move 22 = .ok (.aload_n 0, 1) := by decide +kernel
theorem dX9_move_23 : decode cX9_move 23 = .ok (.getfield 149, 3) := by decide +kernel
theorem dX9_move_26 : decode cX9_move 26 = .ok (.bipush 12, 2) := by decide +kernel
theorem dX9_move_28 : decode cX9_move 28 = .ok (.if_icmp .ne 6, 3) := by decide +kernel
theorem dX9_move_31 : decode cX9_move 31 = .ok (.bipush (-4), 2) := by decide +kernel
theorem dX9_move_33 : decode cX9_move 33 = .ok (.ireturn, 1) := by decide +kernel
theorem dX9_move_34 : decode cX9_move 34 = .ok (.aload_n 0, 1) := by decide +kernel
theorem dX9_move_35 : decode cX9_move 35 = .ok (.getfield 34, 3) := by decide +kernel
theorem dX9_move_38 : decode cX9_move 38 = .ok (.iconst 2, 1) := by decide +kernel
theorem dX9_move_39 : decode cX9_move 39 = .ok (.aload_n 0, 1) := by decide +kernel
theorem dX9_move_40 : decode cX9_move 40 = .ok (.getfield 149, 3) := by decide +kernel
theorem dX9_move_43 : decode cX9_move 43 = .ok (.imul, 1) := by decide +kernel
theorem dX9_move_44 : decode cX9_move 44 = .ok (.iload_n 1, 1) := by decide +kernel
theorem dX9_move_45 : decode cX9_move 45 = .ok (.iastore, 1) := by decide +kernel
theorem dX9_move_46 : decode cX9_move 46 = .ok (.aload_n 0, 1) := by decide +kernel
theorem dX9_move_47 : decode cX9_move 47 = .ok (.getfield 34, 3) := by decide +kernel
theorem dX9_move_50 : decode cX9_move 50 = .ok (.iconst 2, 1) := by decide +kernel
theorem dX9_move_51 : decode cX9_move 51 = .ok (.aload_n 0, 1) := by decide +kernel
theorem dX9_move_52 : decode cX9_move 52 = .ok (.getfield 149, 3) := by decide +kernel
theorem dX9_move_55 : decode cX9_move 55 = .ok (.imul, 1) := by decide +kernel
theorem dX9_move_56 : decode cX9_move 56 = .ok (.iconst 1, 1) := by decide +kernel
theorem dX9_move_57 : decode cX9_move 57 = .ok (.iadd, 1) := by decide +kernel
theorem dX9_move_58 : decode cX9_move 58 = .ok (.iload_n 2, 1) := by decide +kernel
theorem dX9_move_59 : decode cX9_move 59 = .ok (.iastore, 1) := by decide +kernel
theorem dX9_move_60 : decode cX9_move 60 = .ok (.aload_n 0, 1) := by decide +kernel
theorem dX9_move_61 : decode cX9_move 61 = .ok (.dup, 1) := by decide +kernel
theorem dX9_move_62 : decode cX9_move 62 = .ok (.getfield 149, 3) := by decide +kernel
theorem dX9_move_65 : decode cX9_move 65 = .ok (.iconst 1, 1) := by decide +kernel
theorem dX9_move_66 : decode cX9_move 66 = .ok (.iadd, 1) := by decide +kernel
theorem dX9_move_67 : decode cX9_move 67 = .ok (.putfield 149, 3) := by decide +kernel
theorem dX9_move_70 : decode cX9_move 70 = .ok (.aload_n 0, 1) := by decide +kernel
theorem dX9_move_71 : decode cX9_move 71 = .ok (.getfield 149, 3) := by decide +kernel
theorem dX9_move_74 : decode cX9_move 74 = .ok (.ireturn, 1) := by decide +kernel
theorem dX9_cough_0 : decode cX9_cough 0 = .ok (.iload_n 1, 1) := by decide +kernel
theorem dX9_cough_1 : decode cX9_cough 1 = .ok (.invokestatic 144, 3) := by decide +kernel
theorem dX9_cough_4 : decode cX9_cough 4 = .ok (.ifCond .eq 15, 3) := by decide +kernel
theorem dX9_cough_7 : decode cX9_cough 7 = .ok (.iload_n 2, 1) := by decide +kernel
theorem dX9_cough_8 : decode cX9_cough 8 = .ok (.i2l, 1) := by decide +kernel
theorem dX9_cough_9 : decode cX9_cough 9 = .ok (.lconst 0, 1) := by decide +kernel
theorem dX9_cough_10 : decode cX9_cough 10 = .ok (.ldc2_w 152, 3) := by decide +kernel
theorem dX9_cough_13 : decode cX9_cough 13 = .ok (.invokestatic 70, 3) := by decide +kernel
theorem dX9_cough_16 : decode cX9_cough 16 = .ok (.ifCond .ne 6, 3) := by decide +kernel
theorem dX9_cough_19 : decode cX9_cough 19 = .ok (.bipush (-2), 2) := by decide +kernel
theorem dX9_cough_21 : decode cX9_cough 21 = .ok (.ireturn, 1) := by decide +kernel
theorem dX9_cough_22 : decode cX9_cough 22 = .ok (.aload_n 0, 1) := by decide +kernel
theorem dX9_cough_23 : decode cX9_cough 23 = .ok (.getfield 154, 3) := by decide +kernel
theorem dX9_cough_26 : decode cX9_cough 26 = .ok (.bipush 12, 2) := by decide +kernel
theorem dX9_cough_28 : decode cX9_cough 28 = .ok (.if_icmp .ne 6, 3) := by decide +kernel
theorem dX9_cough_31 : decode cX9_cough 31 = .ok (.bipush (-4), 2) := by decide +kernel
theorem dX9_cough_33 : decode cX9_cough 33 = .ok (.ireturn, 1) := by decide +kernel
theorem dX9_cough_34 : decode cX9_cough 34 = .ok (.aload_n 0, 1) := by decide +kernel
theorem dX9_cough_35 : decode cX9_cough 35 = .ok (.getfield 37, 3) := by decide +kernel
theorem dX9_cough_38 : decode cX9_cough 38 = .ok (.iconst 2, 1) := by decide +kernel
theorem dX9_cough_39 : decode cX9_cough 39 = .ok (.aload_n 0, 1) := by decide +kernel
theorem dX9_cough_40 : decode cX9_cough 40 = .ok (.getfield 154, 3) := by decide +kernel
theorem dX9_cough_43 : decode cX9_cough 43 = .ok (.imul, 1) := by decide +kernel
theorem dX9_cough_44 : decode cX9_cough 44 = .ok (.iload_n 1, 1) := by decide +kernel
theorem dX9_cough_45 : decode cX9_cough 45 = .ok (.iastore, 1) := by decide +kernel
theorem dX9_cough_46 : decode cX9_cough 46 = .ok (.aload_n 0, 1) := by decide +kernel
theorem dX9_cough_47 : decode cX9_cough 47 = .ok (.getfield 37, 3) := by decide +kernel
theorem dX9_cough_50 : decode cX9_cough 50 = .ok (.iconst 2, 1) := by decide +kernel
theorem dX9_cough_51 : decode cX9_cough 51 = .ok (.aload_n 0, 1) := by decide +kernel
theorem dX9_cough_52 : decode cX9_cough 52 = .ok (.getfield 154, 3) := by decide +kernel
theorem dX9_cough_55 : decode cX9_cough 55 = .ok (.imul, 1) := by decide +kernel
theorem dX9_cough_56 : decode cX9_cough 56 = .ok (.iconst 1, 1) := by decide +kernel
theorem dX9_cough_57 : decode cX9_cough 57 = .ok (.iadd, 1) := by decide +kernel
theorem dX9_cough_58 : decode cX9_cough 58 = .ok (.iload_n 2, 1) := by decide +kernel
theorem dX9_cough_59 : decode cX9_cough 59 = .ok (.iastore, 1) := by decide +kernel
theorem dX9_cough_60 : decode cX9_cough 60 = .ok (.aload_n 0, 1) := by decide +kernel
theorem dX9_cough_61 : decode cX9_cough 61 = .ok (.dup, 1) := by decide +kernel
theorem dX9_cough_62 : decode cX9_cough 62 = .ok (.getfield 154, 3) := by decide +kernel
theorem dX9_cough_65 : decode cX9_cough 65 = .ok (.iconst 1, 1) := by decide +kernel
theorem dX9_cough_66 : decode cX9_cough 66 = .ok (.iadd, 1) := by decide +kernel
theorem dX9_cough_67 : decode cX9_cough 67 = .ok (.putfield 154, 3) := by decide +kernel
theorem dX9_cough_70 : decode cX9_cough 70 = .ok (.aload_n 0, 1) := by decide +kernel
theorem dX9_cough_71 : decode cX9_cough 71 = .ok (.getfield 154, 3) := by decide +kernel
theorem dX9_cough_74 : decode cX9_cough 74 = .ok (.ireturn, 1) := by decide +kernel
theorem dX9_dark_0 : decode cX9_dark 0 = .ok (.iload_n 1, 1) := by decide +kernel
theorem dX9_dark_1 : decode cX9_dark 1 = .ok (.invokestatic 144, 3) := by decide +kernel
theorem dX9_dark_4 : decode cX9_dark 4 = .ok (.ifCond .ne 6, 3) := by decide +kernel
theorem dX9_dark_7 : decode cX9_dark 7 = .ok (.bipush (-2), 2) := by decide +kernel
theorem dX9_dark_9 : decode cX9_dark 9 = .ok (.ireturn, 1) := by decide +kernel
theorem dX9_dark_10 : decode cX9_dark 10 = .ok (.aload_n 0, 1) := by decide +kernel
theorem dX9_dark_11 : decode cX9_dark 11 = .ok (.getfield 157, 3) := by decide +kernel
theorem dX9_dark_14 : decode cX9_dark 14 = .ok (.bipush 6, 2) := by decide +kernel
theorem dX9_dark_16 : decode cX9_dark 16 = .ok (.if_icmp .ne 6, 3) := by decide +kernel
theorem dX9_dark_19 : decode cX9_dark 19 = .ok (.bipush (-4), 2) := by decide +kernel
theorem dX9_dark_21 : decode cX9_dark 21 = .ok (.ireturn, 1) := by decide +kernel
theorem dX9_dark_22 : decode cX9_dark 22 = .ok (.aload_n 0, 1) := by decide +kernel
theorem dX9_dark_23 : decode cX9_dark 23 = .ok (.getfield 40, 3) := by decide +kernel
theorem dX9_dark_26 : decode cX9_dark 26 = .ok (.aload_n 0, 1) := by decide +kernel
theorem dX9_dark_27 : decode cX9_dark 27 = .ok (.getfield 157, 3) := by decide +kernel
theorem dX9_dark_30 : decode cX9_dark 30 = .ok (.iload_n 1, 1) := by decide +kernel
theorem dX9_dark_31 : decode cX9_dark 31 = .ok (.iastore, 1) := by decide +kernel
theorem dX9_dark_32 : decode cX9_dark 32 = .ok (.aload_n 0, 1) := by decide +kernel
theorem dX9_dark_33 : decode cX9_dark 33 = .ok (.dup, 1) := by decide +kernel
theorem dX9_dark_34 : decode cX9_dark 34 = .ok (.getfield 157, 3) := by decide +kernel
theorem dX9_dark_37 : decode cX9_dark 37 = .ok (.iconst 1, 1) := by decide +kernel
theorem dX9_dark_38 : decode cX9_dark 38 = .ok (.iadd, 1) := by decide +kernel
theorem dX9_dark_39 : decode cX9_dark 39 = .ok (.putfield 157, 3) := by decide +kernel
theorem dX9_dark_42 : decode cX9_dark 42 = .ok (.aload_n 0, 1) := by decide +kernel
theorem dX9_dark_43 : decode cX9_dark 43 = .ok (.getfield 157, 3) := by decide +kernel
theorem dX9_dark_46 : decode cX9_dark 46 = .ok (.ireturn, 1) := by decide +kernel
theorem dX9_back_0 : decode cX9_back 0 = .ok (.iload_n 1, 1) := by decide +kernel
theorem dX9_back_1 : decode cX9_back 1 = .ok (.i2l, 1) := by decide +kernel
theorem dX9_back_2 : decode cX9_back 2 = .ok (.lconst 0, 1) := by decide +kernel
theorem dX9_back_3 : decode cX9_back 3 = .ok (.ldc2_w 83, 3) := by decide +kernel
theorem dX9_back_6 : decode cX9_back 6 = .ok (.invokestatic 70, 3) := by decide +kernel
theorem dX9_back_9 : decode cX9_back 9 = .ok (.ifCond .ne 6, 3) := by decide +kernel
theorem dX9_back_12 : decode cX9_back 12 = .ok (.bipush (-2), 2) := by decide +kernel
theorem dX9_back_14 : decode cX9_back 14 = .ok (.ireturn, 1) := by decide +kernel
theorem dX9_back_15 : decode cX9_back 15 = .ok (.iload_n 1, 1) := by decide +kernel
theorem dX9_back_16 : decode cX9_back 16 = .ok (.ifCond .ne 10, 3) := by decide +kernel
theorem dX9_back_19 : decode cX9_back 19 = .ok (.aload_n 0, 1) := by decide +kernel
theorem dX9_back_20 : decode cX9_back 20 = .ok (.getfield 149, 3) := by decide +kernel
theorem dX9_back_23 : decode cX9_back 23 = .ok (.goto 19, 3) := by decide +kernel
theorem dX9_back_26 : decode cX9_back 26 = .ok (.iload_n 1, 1) := by decide +kernel
theorem dX9_back_27 : decode cX9_back 27 = .ok (.iconst 1, 1) := by decide +kernel
theorem dX9_back_28 : decode cX9_back 28 = .ok (.if_icmp .ne 10, 3) := by decide +kernel
theorem dX9_back_31 : decode cX9_back 31 = .ok (.aload_n 0, 1) := by decide +kernel
theorem dX9_back_32 : decode cX9_back 32 = .ok (.getfield 154, 3) := by decide +kernel
theorem dX9_back_35 : decode cX9_back 35 = .ok (.goto 7, 3) := by decide +kernel
theorem dX9_back_38 : decode cX9_back 38 = .ok (.aload_n 0, 1) := by decide +kernel
theorem dX9_back_39 : decode cX9_back 39 = .ok (.getfield 157, 3) := by decide +kernel
theorem dX9_back_42 : decode cX9_back 42 = .ok (.istore_n 2, 1) := by decide +kernel
theorem dX9_back_43 : decode cX9_back 43 = .ok (.iload_n 2, 1) := by decide +kernel
theorem dX9_back_44 : decode cX9_back 44 = .ok (.ifCond .ne 6, 3) := by decide +kernel
theorem dX9_back_47 : decode cX9_back 47 = .ok (.bipush (-3), 2) := by decide +kernel
theorem dX9_back_49 : decode cX9_back 49 = .ok (.ireturn, 1) := by decide +kernel
theorem dX9_back_50 : decode cX9_back 50 = .ok (.aload_n 0, 1) := by decide +kernel
theorem dX9_back_51 : decode cX9_back 51 = .ok (.dup, 1) := by decide +kernel
theorem dX9_back_52 : decode cX9_back 52 = .ok (.getfield 149, 3) := by decide +kernel
theorem dX9_back_55 : decode cX9_back 55 = .ok (.iload_n 1, 1) := by decide +kernel
theorem dX9_back_56 : decode cX9_back 56 = .ok (.ifCond .ne 7, 3) := by decide +kernel
theorem dX9_back_59 : decode cX9_back 59 = .ok (.iconst 1, 1) := by decide +kernel
theorem dX9_back_60 : decode cX9_back 60 = .ok (.goto 4, 3) := by decide +kernel
theorem dX9_back_63 : decode cX9_back 63 = .ok (.iconst 0, 1) := by decide +kernel
theorem dX9_back_64 : decode cX9_back 64 = .ok (.isub, 1) := by decide +kernel
theorem dX9_back_65 : decode cX9_back 65 = .ok (.putfield 149, 3) := by decide +kernel
theorem dX9_back_68 : decode cX9_back 68 = .ok (.aload_n 0, 1) := by decide +kernel
theorem dX9_back_69 : decode cX9_back 69 = .ok (.dup, 1) := by decide +kernel
theorem dX9_back_70 : decode cX9_back 70 = .ok (.getfield 154, 3) := by decide +kernel
theorem dX9_back_73 : decode cX9_back 73 = .ok (.iload_n 1, 1) := by decide +kernel
theorem dX9_back_74 : decode cX9_back 74 = .ok (.iconst 1, 1) := by decide +kernel
theorem dX9_back_75 : decode cX9_back 75 = .ok (.if_icmp .ne 7, 3) := by decide +kernel
theorem dX9_back_78 : decode cX9_back 78 = .ok (.iconst 1, 1) := by decide +kernel
theorem dX9_back_79 : decode cX9_back 79 = .ok (.goto 4, 3) := by decide +kernel
theorem dX9_back_82 : decode cX9_back 82 = .ok (.iconst 0, 1) := by decide +kernel
theorem dX9_back_83 : decode cX9_back 83 = .ok (.isub, 1) := by decide +kernel
theorem dX9_back_84 : decode cX9_back 84 = .ok (.putfield 154, 3) := by decide +kernel
theorem dX9_back_87 : decode cX9_back 87 = .ok (.aload_n 0, 1) := by decide +kernel
theorem dX9_back_88 : decode cX9_back 88 = .ok (.dup, 1) := by decide +kernel
theorem dX9_back_89 : decode cX9_back 89 = .ok (.getfield 157, 3) := by decide +kernel
theorem dX9_back_92 : decode cX9_back 92 = .ok (.iload_n 1, 1) := by decide +kernel
theorem dX9_back_93 : decode cX9_back 93 = .ok (.iconst 2, 1) := by decide +kernel
theorem dX9_back_94 : decode cX9_back 94 = .ok (.if_icmp .ne 7, 3) := by decide +kernel
theorem dX9_back_97 : decode cX9_back 97 = .ok (.iconst 1, 1) := by decide +kernel
theorem dX9_back_98 : decode cX9_back 98 = .ok (.goto 4, 3) := by decide +kernel
theorem dX9_back_101 : decode cX9_back 101 = .ok (.iconst 0, 1) := by decide +kernel
theorem dX9_back_102 : decode cX9_back 102 = .ok (.isub, 1) := by decide +kernel
theorem dX9_back_103 : decode cX9_back 103 = .ok (.putfield 157, 3) := by decide +kernel
theorem dX9_back_106 : decode cX9_back 106 = .ok (.iload_n 2, 1) := by decide +kernel
theorem dX9_back_107 : decode cX9_back 107 = .ok (.iconst 1, 1) := by decide +kernel
theorem dX9_back_108 : decode cX9_back 108 = .ok (.isub, 1) := by decide +kernel
theorem dX9_back_109 : decode cX9_back 109 = .ok (.ireturn, 1) := by decide +kernel
theorem dX9_read_0 : decode cX9_read 0 = .ok (.iload_n 1, 1) := by decide +kernel
theorem dX9_read_1 : decode cX9_read 1 = .ok (.invokestatic 79, 3) := by decide +kernel
theorem dX9_read_4 : decode cX9_read 4 = .ok (.ifCond .ne 6, 3) := by decide +kernel
theorem dX9_read_7 : decode cX9_read 7 = .ok (.bipush (-2), 2) := by decide +kernel
theorem dX9_read_9 : decode cX9_read 9 = .ok (.ireturn, 1) := by decide +kernel
theorem dX9_read_10 : decode cX9_read 10 = .ok (.aload_n 0, 1) := by decide +kernel
theorem dX9_read_11 : decode cX9_read 11 = .ok (.getfield 7, 3) := by decide +kernel
theorem dX9_read_14 : decode cX9_read 14 = .ok (.iload_n 1, 1) := by decide +kernel
theorem dX9_read_15 : decode cX9_read 15 = .ok (.iaload, 1) := by decide +kernel
theorem dX9_read_16 : decode cX9_read 16 = .ok (.ifCond .ge 9, 3) := by decide +kernel
theorem dX9_read_19 : decode cX9_read 19 = .ok (.aload_n 0, 1) := by decide +kernel
theorem dX9_read_20 : decode cX9_read 20 = .ok (.iconst 1, 1) := by decide +kernel
theorem dX9_read_21 : decode cX9_read 21 = .ok (.invokevirtual 85, 3) := by decide +kernel
theorem dX9_read_24 : decode cX9_read 24 = .ok (.ireturn, 1) := by decide +kernel
theorem dX9_read_25 : decode cX9_read 25 = .ok (.iconst 0, 1) := by decide +kernel
theorem dX9_read_26 : decode cX9_read 26 = .ok (.istore_n 2, 1) := by decide +kernel
theorem dX9_read_27 : decode cX9_read 27 = .ok (.iconst 1, 1) := by decide +kernel
theorem dX9_read_28 : decode cX9_read 28 = .ok (.istore_n 3, 1) := by decide +kernel
theorem dX9_read_29 : decode cX9_read 29 = .ok (.iload_n 3, 1) := by decide +kernel
theorem dX9_read_30 : decode cX9_read 30 = .ok (.ifCond .eq 73, 3) := by decide +kernel
theorem dX9_read_33 : decode cX9_read 33 = .ok (.iconst 2, 1) := by decide +kernel
theorem dX9_read_34 : decode cX9_read 34 = .ok (.iload_n 2, 1) := by decide +kernel
theorem dX9_read_35 : decode cX9_read 35 = .ok (.imul, 1) := by decide +kernel
theorem dX9_read_36 : decode cX9_read 36 = .ok (.iconst 2, 1) := by decide +kernel
theorem dX9_read_37 : decode cX9_read 37 = .ok (.iadd, 1) := by decide +kernel
theorem dX9_read_38 : decode cX9_read 38 = .ok (.aload_n 0, 1) := by decide +kernel
theorem dX9_read_39 : decode cX9_read 39 = .ok (.getfield 13, 3) := by decide +kernel
theorem dX9_read_42 : decode cX9_read 42 = .ok (.iload_n 1, 1) := by decide +kernel
theorem dX9_read_43 : decode cX9_read 43 = .ok (.iaload, 1) := by decide +kernel
theorem dX9_read_44 : decode cX9_read 44 = .ok (.if_icmp .gt 59, 3) := by decide +kernel
theorem dX9_read_47 : decode cX9_read 47 = .ok (.aload_n 0, 1) := by decide +kernel
theorem dX9_read_48 : decode cX9_read 48 = .ok (.aload_n 0, 1) := by decide +kernel
theorem dX9_read_49 : decode cX9_read 49 = .ok (.getfield 16, 3) := by decide +kernel
theorem dX9_read_52 : decode cX9_read 52 = .ok (.bipush 60, 2) := by decide +kernel
theorem dX9_read_54 : decode cX9_read 54 = .ok (.iload_n 1, 1) := by decide +kernel
theorem dX9_read_55 : decode cX9_read 55 = .ok (.imul, 1) := by decide +kernel
theorem dX9_read_56 : decode cX9_read 56 = .ok (.iconst 2, 1) := by decide +kernel
theorem dX9_read_57 : decode cX9_read 57 = .ok (.iload_n 2, 1) := by decide +kernel
theorem dX9_read_58 : decode cX9_read 58 = .ok (.imul, 1) := by decide +kernel
theorem dX9_read_59 : decode cX9_read 59 = .ok (.iadd, 1) := by decide +kernel
theorem dX9_read_60 : decode cX9_read 60 = .ok (.iaload, 1) := by decide +kernel
theorem dX9_read_61 : decode cX9_read 61 = .ok (.aload_n 0, 1) := by decide +kernel
theorem dX9_read_62 : decode cX9_read 62 = .ok (.getfield 16, 3) := by decide +kernel
theorem dX9_read_65 : decode cX9_read 65 = .ok (.bipush 60, 2) := by decide +kernel
theorem dX9_read_67 : decode cX9_read 67 = .ok (.iload_n 1, 1) := by decide +kernel
theorem dX9_read_68 : decode cX9_read 68 = .ok (.imul, 1) := by decide +kernel
theorem dX9_read_69 : decode cX9_read 69 = .ok (.iconst 2, 1) := by decide +kernel
theorem dX9_read_70 : decode cX9_read 70 = .ok (.iload_n 2, 1) := by decide +kernel
theorem dX9_read_71 : decode cX9_read 71 = .ok (.imul, 1) := by decide +kernel
theorem dX9_read_72 : decode cX9_read 72 = .ok (.iadd, 1) := by decide +kernel
theorem dX9_read_73 : decode cX9_read 73 = .ok (.iconst 1, 1) := by decide +kernel
theorem dX9_read_74 : decode cX9_read 74 = .ok (.iadd, 1) := by decide +kernel
theorem dX9_read_75 : decode cX9_read 75 = .ok (.iaload, 1) := by decide +kernel
theorem dX9_read_76 : decode cX9_read 76 = .ok (.invokevirtual 160, 3) := by decide +kernel
theorem dX9_read_79 : decode cX9_read 79 = .ok (.ifCond .lt 7, 3) := by decide +kernel
theorem dX9_read_82 : decode cX9_read 82 = .ok (.iconst 1, 1) := by decide +kernel
theorem dX9_read_83 : decode cX9_read 83 = .ok (.goto 4, 3) := by decide +kernel
theorem dX9_read_86 : decode cX9_read 86 = .ok (.iconst 0, 1) := by decide +kernel
theorem dX9_read_87 : decode cX9_read 87 = .ok (.istore_n 3, 1) := by decide +kernel
theorem dX9_read_88 : decode cX9_read 88 = .ok (.iload_n 2, 1) := by decide +kernel
theorem dX9_read_89 : decode cX9_read 89 = .ok (.iload_n 3, 1) := by decide +kernel
theorem dX9_read_90 : decode cX9_read 90 = .ok (.ifCond .eq 7, 3) := by decide +kernel
theorem dX9_read_93 : decode cX9_read 93 = .ok (.iconst 1, 1) := by decide +kernel
theorem dX9_read_94 : decode cX9_read 94 = .ok (.goto 4, 3) := by decide +kernel
theorem dX9_read_97 : decode cX9_read 97 = .ok (.iconst 0, 1) := by decide +kernel
theorem dX9_read_98 : decode cX9_read 98 = .ok (.iadd, 1) := by decide +kernel
theorem dX9_read_99 : decode cX9_read 99 = .ok (.istore_n 2, 1) := by decide +kernel
theorem dX9_read_100 : decode cX9_read 100 = .ok (.goto (-71), 3) := by decide +kernel
theorem dX9_read_103 : decode cX9_read 103 = .ok (.iload_n 2, 1) := by decide +kernel
theorem dX9_read_104 : decode cX9_read 104 = .ok (.ireturn, 1) := by decide +kernel
theorem dX9_isDark_0 : decode cX9_isDark 0 = .ok (.iload_n 1, 1) := by decide +kernel
theorem dX9_isDark_1 : decode cX9_isDark 1 = .ok (.ifCond .ne 7, 3) := by decide +kernel
theorem dX9_isDark_4 : decode cX9_isDark 4 = .ok (.iconst 1, 1) := by decide +kernel
theorem dX9_isDark_5 : decode cX9_isDark 5 = .ok (.goto 4, 3) := by decide +kernel
theorem dX9_isDark_8 : decode cX9_isDark 8 = .ok (.iconst 0, 1) := by decide +kernel
theorem dX9_isDark_9 : decode cX9_isDark 9 = .ok (.istore_n 2, 1) := by decide +kernel
theorem dX9_isDark_10 : decode cX9_isDark 10 = .ok (.iconst 0, 1) := by decide +kernel
theorem dX9_isDark_11 : decode cX9_isDark 11 = .ok (.istore_n 3, 1) := by decide +kernel
theorem dX9_isDark_12 : decode cX9_isDark 12 = .ok (.iload_n 3, 1) := by decide +kernel
theorem dX9_isDark_13 : decode cX9_isDark 13 = .ok (.aload_n 0, 1) := by decide +kernel
theorem dX9_isDark_14 : decode cX9_isDark 14 = .ok (.getfield 157, 3) := by decide +kernel
theorem dX9_isDark_17 : decode cX9_isDark 17 = .ok (.if_icmp .ge 29, 3) := by decide +kernel
theorem dX9_isDark_20 : decode cX9_isDark 20 = .ok (.iload_n 2, 1) := by decide +kernel
theorem dX9_isDark_21 : decode cX9_isDark 21 = .ok (.ifCond .ne 13, 3) := by decide +kernel
theorem dX9_isDark_24 : decode cX9_isDark 24 = .ok (.aload_n 0, 1) := by decide +kernel
theorem dX9_isDark_25 : decode cX9_isDark 25 = .ok (.getfield 40, 3) := by decide +kernel
theorem dX9_isDark_28 : decode cX9_isDark 28 = .ok (.iload_n 3, 1) := by decide +kernel
theorem dX9_isDark_29 : decode cX9_isDark 29 = .ok (.iaload, 1) := by decide +kernel
theorem dX9_isDark_30 : decode cX9_isDark 30 = .ok (.iload_n 1, 1) := by decide +kernel
theorem dX9_isDark_31 : decode cX9_isDark 31 = .ok (.if_icmp .ne 7, 3) := by decide +kernel
theorem dX9_isDark_34 : decode cX9_isDark 34 = .ok (.iconst 1, 1) := by decide +kernel
theorem dX9_isDark_35 : decode cX9_isDark 35 = .ok (.goto 4, 3) := by decide +kernel
theorem dX9_isDark_38 : decode cX9_isDark 38 = .ok (.iconst 0, 1) := by decide +kernel
theorem dX9_isDark_39 : decode cX9_isDark 39 = .ok (.istore_n 2, 1) := by decide +kernel
theorem dX9_isDark_40 : decode cX9_isDark 40 = .ok (.iinc 3 1, 3) := by decide +kernel
theorem dX9_isDark_43 : decode cX9_isDark 43 = .ok (.goto (-31), 3) := by decide +kernel
theorem dX9_isDark_46 : decode cX9_isDark 46 = .ok (.iload_n 2, 1) := by decide +kernel
theorem dX9_isDark_47 : decode cX9_isDark 47 = .ok (.ireturn, 1) := by decide +kernel
theorem dX9_whereAt_0 : decode cX9_whereAt 0 = .ok (.iconst (-1), 1) := by decide +kernel
theorem dX9_whereAt_1 : decode cX9_whereAt 1 = .ok (.istore_n 2, 1) := by decide +kernel
theorem dX9_whereAt_2 : decode cX9_whereAt 2 = .ok (.iconst 0, 1) := by decide +kernel
theorem dX9_whereAt_3 : decode cX9_whereAt 3 = .ok (.istore_n 3, 1) := by decide +kernel
theorem dX9_whereAt_4 : decode cX9_whereAt 4 = .ok (.iconst 0, 1) := by decide +kernel
theorem dX9_whereAt_5 : decode cX9_whereAt 5 = .ok (.istore 4, 2) := by decide +kernel
theorem dX9_whereAt_7 : decode cX9_whereAt 7 = .ok (.iload 4, 2) := by decide +kernel
theorem dX9_whereAt_9 : decode cX9_whereAt 9 = .ok (.aload_n 0, 1) := by decide +kernel
theorem dX9_whereAt_10 : decode cX9_whereAt 10 = .ok (.getfield 149, 3) := by decide +kernel
theorem dX9_whereAt_13 : decode cX9_whereAt 13 = .ok (.if_icmp .ge 51, 3) := by decide +kernel
theorem dX9_whereAt_16 : decode cX9_whereAt 16 = .ok (.aload_n 0, 1) := by decide +kernel
theorem dX9_whereAt_17 : decode cX9_whereAt 17 = .ok (.getfield 34, 3) := by decide +kernel
theorem dX9_whereAt_20 : decode cX9_whereAt 20 = .ok (.iconst 2, 1) := by decide +kernel
theorem dX9_whereAt_21 : decode cX9_whereAt 21 = .ok (.iload 4, 2) := by decide +kernel
theorem dX9_whereAt_23 : decode cX9_whereAt 23 = .ok (.imul, 1) := by decide +kernel
theorem dX9_whereAt_24 : decode cX9_whereAt 24 = .ok (.iaload, 1) := by decide +kernel
theorem dX9_whereAt_25 : decode cX9_whereAt 25 = .ok (.i2l, 1) := by decide +kernel
theorem dX9_whereAt_26 : decode cX9_whereAt 26 = .ok (.iload_n 2, 1) := by decide +kernel
theorem dX9_whereAt_27 : decode cX9_whereAt 27 = .ok (.i2l, 1) := by decide +kernel
theorem dX9_whereAt_28 : decode cX9_whereAt 28 = .ok (.iload_n 1, 1) := by decide +kernel
theorem dX9_whereAt_29 : decode cX9_whereAt 29 = .ok (.i2l, 1) := by decide +kernel
theorem dX9_whereAt_30 : decode cX9_whereAt 30 = .ok (.invokestatic 70, 3) := by decide +kernel
theorem dX9_whereAt_33 : decode cX9_whereAt 33 = .ok (.ifCond .eq 25, 3) := by decide +kernel
theorem dX9_whereAt_36 : decode cX9_whereAt 36 = .ok (.aload_n 0, 1) := by decide +kernel
theorem dX9_whereAt_37 : decode cX9_whereAt 37 = .ok (.getfield 34, 3) := by decide +kernel
theorem dX9_whereAt_40 : decode cX9_whereAt 40 = .ok (.iconst 2, 1) := by decide +kernel
theorem dX9_whereAt_41 : decode cX9_whereAt 41 = .ok (.iload 4, 2) := by decide +kernel
theorem dX9_whereAt_43 : decode cX9_whereAt 43 = .ok (.imul, 1) := by decide +kernel
theorem dX9_whereAt_44 : decode cX9_whereAt 44 = .ok (.iaload, 1) := by decide +kernel
theorem dX9_whereAt_45 : decode cX9_whereAt 45 = .ok (.istore_n 2, 1) := by decide +kernel
theorem dX9_whereAt_46 : decode cX9_whereAt 46 = .ok (.aload_n 0, 1) := by decide +kernel
theorem dX9_whereAt_47 : decode cX9_whereAt 47 = .ok (.getfield 34, 3) := by decide +kernel
theorem dX9_whereAt_50 : decode cX9_whereAt 50 = .ok (.iconst 2, 1) := by decide +kernel
theorem dX9_whereAt_51 : decode cX9_whereAt 51 = .ok (.iload 4, 2) := by decide +kernel
theorem dX9_whereAt_53 : decode cX9_whereAt 53 = .ok (.imul, 1) := by decide +kernel
theorem dX9_whereAt_54 : decode cX9_whereAt 54 = .ok (.iconst 1, 1) := by decide +kernel
theorem dX9_whereAt_55 : decode cX9_whereAt 55 = .ok (.iadd, 1) := by decide +kernel
theorem dX9_whereAt_56 : decode cX9_whereAt 56 = .ok (.iaload, 1) := by decide +kernel
theorem dX9_whereAt_57 : decode cX9_whereAt 57 = .ok (.istore_n 3, 1) := by decide +kernel
theorem dX9_whereAt_58 : decode cX9_whereAt 58 = .ok (.iinc 4 1, 3) := by decide +kernel
theorem dX9_whereAt_61 : decode cX9_whereAt 61 = .ok (.goto (-54), 3) := by decide +kernel
theorem dX9_whereAt_64 : decode cX9_whereAt 64 = .ok (.iload_n 3, 1) := by decide +kernel
theorem dX9_whereAt_65 : decode cX9_whereAt 65 = .ok (.ireturn, 1) := by decide +kernel
theorem dX9_plain_0 : decode cX9_plain 0 = .ok (.aload_n 0, 1) := by decide +kernel
theorem dX9_plain_1 : decode cX9_plain 1 = .ok (.invokevirtual 130, 3) := by decide +kernel
theorem dX9_plain_4 : decode cX9_plain 4 = .ok (.iconst 0, 1) := by decide +kernel
theorem dX9_plain_5 : decode cX9_plain 5 = .ok (.istore_n 1, 1) := by decide +kernel
theorem dX9_plain_6 : decode cX9_plain 6 = .ok (.iload_n 1, 1) := by decide +kernel
theorem dX9_plain_7 : decode cX9_plain 7 = .ok (.bipush 40, 2) := by decide +kernel
theorem dX9_plain_9 : decode cX9_plain 9 = .ok (.if_icmp .ge 27, 3) := by decide +kernel
theorem dX9_plain_12 : decode cX9_plain 12 = .ok (.aload_n 0, 1) := by decide +kernel
theorem dX9_plain_13 : decode cX9_plain 13 = .ok (.getfield 43, 3) := by decide +kernel
theorem dX9_plain_16 : decode cX9_plain 16 = .ok (.iload_n 1, 1) := by decide +kernel
theorem dX9_plain_17 : decode cX9_plain 17 = .ok (.iconst 0, 1) := by decide +kernel
theorem dX9_plain_18 : decode cX9_plain 18 = .ok (.iastore, 1) := by decide +kernel
theorem dX9_plain_19 : decode cX9_plain 19 = .ok (.aload_n 0, 1) := by decide +kernel
theorem dX9_plain_20 : decode cX9_plain 20 = .ok (.getfield 46, 3) := by decide +kernel
theorem dX9_plain_23 : decode cX9_plain 23 = .ok (.iload_n 1, 1) := by decide +kernel
theorem dX9_plain_24 : decode cX9_plain 24 = .ok (.aload_n 0, 1) := by decide +kernel
theorem dX9_plain_25 : decode cX9_plain 25 = .ok (.iload_n 1, 1) := by decide +kernel
theorem dX9_plain_26 : decode cX9_plain 26 = .ok (.invokevirtual 162, 3) := by decide +kernel
theorem dX9_plain_29 : decode cX9_plain 29 = .ok (.iastore, 1) := by decide +kernel
theorem dX9_plain_30 : decode cX9_plain 30 = .ok (.iinc 1 1, 3) := by decide +kernel
theorem dX9_plain_33 : decode cX9_plain 33 = .ok (.goto (-27), 3) := by decide +kernel
theorem dX9_plain_36 : decode cX9_plain 36 = .ok (.iconst 0, 1) := by decide +kernel
theorem dX9_plain_37 : decode cX9_plain 37 = .ok (.istore_n 1, 1) := by decide +kernel
theorem dX9_plain_38 : decode cX9_plain 38 = .ok (.iload_n 1, 1) := by decide +kernel
theorem dX9_plain_39 : decode cX9_plain 39 = .ok (.aload_n 0, 1) := by decide +kernel
theorem dX9_plain_40 : decode cX9_plain 40 = .ok (.getfield 154, 3) := by decide +kernel
theorem dX9_plain_43 : decode cX9_plain 43 = .ok (.if_icmp .ge 37, 3) := by decide +kernel
theorem dX9_plain_46 : decode cX9_plain 46 = .ok (.aload_n 0, 1) := by decide +kernel
theorem dX9_plain_47 : decode cX9_plain 47 = .ok (.getfield 43, 3) := by decide +kernel
theorem dX9_plain_50 : decode cX9_plain 50 = .ok (.aload_n 0, 1) := by decide +kernel
theorem dX9_plain_51 : decode cX9_plain 51 = .ok (.getfield 37, 3) := by decide +kernel
theorem dX9_plain_54 : decode cX9_plain 54 = .ok (.iconst 2, 1) := by decide +kernel
theorem dX9_plain_55 : decode cX9_plain 55 = .ok (.iload_n 1, 1) := by decide +kernel
theorem dX9_plain_56 : decode cX9_plain 56 = .ok (.imul, 1) := by decide +kernel
theorem dX9_plain_57 : decode cX9_plain 57 = .ok (.iaload, 1) := by decide +kernel
theorem dX9_plain_58 : decode cX9_plain 58 = .ok (.dup2, 1) := by decide +kernel
theorem dX9_plain_59 : decode cX9_plain 59 = .ok (.iaload, 1) := by decide +kernel
theorem dX9_plain_60 : decode cX9_plain 60 = .ok (.iconst 1, 1) := by decide +kernel
theorem dX9_plain_61 : decode cX9_plain 61 = .ok (.aload_n 0, 1) := by decide +kernel
theorem dX9_plain_62 : decode cX9_plain 62 = .ok (.getfield 37, 3) := by decide +kernel
theorem dX9_plain_65 : decode cX9_plain 65 = .ok (.iconst 2, 1) := by decide +kernel
theorem dX9_plain_66 : decode cX9_plain 66 = .ok (.iload_n 1, 1) := by decide +kernel
theorem dX9_plain_67 : decode cX9_plain 67 = .ok (.imul, 1) := by decide +kernel
theorem dX9_plain_68 : decode cX9_plain 68 = .ok (.iconst 1, 1) := by decide +kernel
theorem dX9_plain_69 : decode cX9_plain 69 = .ok (.iadd, 1) := by decide +kernel
theorem dX9_plain_70 : decode cX9_plain 70 = .ok (.iaload, 1) := by decide +kernel
theorem dX9_plain_71 : decode cX9_plain 71 = .ok (.ishl, 1) := by decide +kernel
theorem dX9_plain_72 : decode cX9_plain 72 = .ok (.ior, 1) := by decide +kernel
theorem dX9_plain_73 : decode cX9_plain 73 = .ok (.iastore, 1) := by decide +kernel
theorem dX9_plain_74 : decode cX9_plain 74 = .ok (.iinc 1 1, 3) := by decide +kernel
theorem dX9_plain_77 : decode cX9_plain 77 = .ok (.goto (-39), 3) := by decide +kernel
theorem dX9_plain_80 : decode cX9_plain 80 = .ok (.return_, 1) := by decide +kernel
theorem dX9_habitOf_0 : decode cX9_habitOf 0 = .ok (.aload_n 0, 1) := by decide +kernel
theorem dX9_habitOf_1 : decode cX9_habitOf 1 = .ok (.getfield 31, 3) := by decide +kernel
theorem dX9_habitOf_4 : decode cX9_habitOf 4 = .ok (.iconst 4, 1) := by decide +kernel
theorem dX9_habitOf_5 : decode cX9_habitOf 5 = .ok (.iload_n 1, 1) := by decide +kernel
theorem dX9_habitOf_6 : decode cX9_habitOf 6 = .ok (.imul, 1) := by decide +kernel
theorem dX9_habitOf_7 : decode cX9_habitOf 7 = .ok (.iconst 3, 1) := by decide +kernel
theorem dX9_habitOf_8 : decode cX9_habitOf 8 = .ok (.iadd, 1) := by decide +kernel
theorem dX9_habitOf_9 : decode cX9_habitOf 9 = .ok (.iaload, 1) := by decide +kernel
theorem dX9_habitOf_10 : decode cX9_habitOf 10 = .ok (.istore_n 3, 1) := by decide +kernel
theorem dX9_habitOf_11 : decode cX9_habitOf 11 = .ok (.aload_n 0, 1) := by decide +kernel
theorem dX9_habitOf_12 : decode cX9_habitOf 12 = .ok (.iload_n 2, 1) := by decide +kernel
theorem dX9_habitOf_13 : decode cX9_habitOf 13 = .ok (.iconst 1, 1) := by decide +kernel
theorem dX9_habitOf_14 : decode cX9_habitOf 14 = .ok (.invokevirtual 141, 3) := by decide +kernel
theorem dX9_habitOf_17 : decode cX9_habitOf 17 = .ok (.istore 4, 2) := by decide +kernel
theorem dX9_habitOf_19 : decode cX9_habitOf 19 = .ok (.aload_n 0, 1) := by decide +kernel
theorem dX9_habitOf_20 : decode cX9_habitOf 20 = .ok (.getfield 31, 3) := by decide +kernel
theorem dX9_habitOf_23 : decode cX9_habitOf 23 = .ok (.iconst 4, 1) := by decide +kernel
theorem dX9_habitOf_24 : decode cX9_habitOf 24 = .ok (.iload_n 1, 1) := by decide +kernel
theorem dX9_habitOf_25 : decode cX9_habitOf 25 = .ok (.imul, 1) := by decide +kernel
theorem dX9_habitOf_26 : decode cX9_habitOf 26 = .ok (.iconst 2, 1) := by decide +kernel
theorem dX9_habitOf_27 : decode cX9_habitOf 27 = .ok (.iadd, 1) := by decide +kernel
theorem dX9_habitOf_28 : decode cX9_habitOf 28 = .ok (.iaload, 1) := by decide +kernel
theorem dX9_habitOf_29 : decode cX9_habitOf 29 = .ok (.tableswitch 44 0 2 #[27, 30, 32], 27) := by decide +kernel
theorem dX9_habitOf_56 : decode cX9_habitOf 56 = .ok (.iload 4, 2) := by decide +kernel
theorem dX9_habitOf_58 : decode cX9_habitOf 58 = .ok (.ireturn, 1) := by decide +kernel
theorem dX9_habitOf_59 : decode cX9_habitOf 59 = .ok (.iload_n 2, 1) := by decide +kernel
theorem dX9_habitOf_60 : decode cX9_habitOf 60 = .ok (.ireturn, 1) := by decide +kernel
theorem dX9_habitOf_61 : decode cX9_habitOf 61 = .ok (.iload_n 2, 1) := by decide +kernel
theorem dX9_habitOf_62 : decode cX9_habitOf 62 = .ok (.iload_n 3, 1) := by decide +kernel
theorem dX9_habitOf_63 : decode cX9_habitOf 63 = .ok (.if_icmp .ne 8, 3) := by decide +kernel
theorem dX9_habitOf_66 : decode cX9_habitOf 66 = .ok (.iload 4, 2) := by decide +kernel
theorem dX9_habitOf_68 : decode cX9_habitOf 68 = .ok (.goto 4, 3) := by decide +kernel
theorem dX9_habitOf_71 : decode cX9_habitOf 71 = .ok (.iload_n 3, 1) := by decide +kernel
theorem dX9_habitOf_72 : decode cX9_habitOf 72 = .ok (.ireturn, 1) := by decide +kernel
theorem dX9_habitOf_73 : decode cX9_habitOf 73 = .ok (.iload 4, 2) := by decide +kernel
theorem dX9_habitOf_75 : decode cX9_habitOf 75 = .ok (.iload_n 3, 1) := by decide +kernel
theorem dX9_habitOf_76 : decode cX9_habitOf 76 = .ok (.if_icmp .eq 13, 3) := by decide +kernel
theorem dX9_habitOf_79 : decode cX9_habitOf 79 = .ok (.aload_n 0, 1) := by decide +kernel
theorem dX9_habitOf_80 : decode cX9_habitOf 80 = .ok (.iload_n 2, 1) := by decide +kernel
theorem dX9_habitOf_81 : decode cX9_habitOf 81 = .ok (.iconst (-1), 1) := by decide +kernel
theorem dX9_habitOf_82 : decode cX9_habitOf 82 = .ok (.invokevirtual 141, 3) := by decide +kernel
theorem dX9_habitOf_85 : decode cX9_habitOf 85 = .ok (.iload_n 3, 1) := by decide +kernel
theorem dX9_habitOf_86 : decode cX9_habitOf 86 = .ok (.if_icmp .ne 7, 3) := by decide +kernel
theorem dX9_habitOf_89 : decode cX9_habitOf 89 = .ok (.iload_n 3, 1) := by decide +kernel
theorem dX9_habitOf_90 : decode cX9_habitOf 90 = .ok (.goto 4, 3) := by decide +kernel
theorem dX9_habitOf_93 : decode cX9_habitOf 93 = .ok (.iload_n 2, 1) := by decide +kernel
theorem dX9_habitOf_94 : decode cX9_habitOf 94 = .ok (.ireturn, 1) := by decide +kernel
theorem dX9_whispersNow_0 : decode cX9_whispersNow 0 = .ok (.aload_n 0, 1) := by decide +kernel
theorem dX9_whispersNow_1 : decode cX9_whispersNow 1 = .ok (.iload_n 1, 1) := by decide +kernel
theorem dX9_whispersNow_2 : decode cX9_whispersNow 2 = .ok (.invokevirtual 165, 3) := by decide +kernel
theorem dX9_whispersNow_5 : decode cX9_whispersNow 5 = .ok (.ifCond .ne 10, 3) := by decide +kernel
theorem dX9_whispersNow_8 : decode cX9_whispersNow 8 = .ok (.aload_n 0, 1) := by decide +kernel
theorem dX9_whispersNow_9 : decode cX9_whispersNow 9 = .ok (.getfield 103, 3) := by decide +kernel
theorem dX9_whispersNow_12 : decode cX9_whispersNow 12 = .ok (.ifCond .ne 5, 3) := by decide +kernel
theorem dX9_whispersNow_15 : decode cX9_whispersNow 15 = .ok (.iconst (-1), 1) := by decide +kernel
theorem dX9_whispersNow_16 : decode cX9_whispersNow 16 = .ok (.ireturn, 1) := by decide +kernel
theorem dX9_whispersNow_17 : decode cX9_whispersNow 17 = .ok (.aload_n 0, 1) := by decide +kernel
theorem dX9_whispersNow_18 : decode cX9_whispersNow 18 = .ok (.getfield 31, 3) := by decide +kernel
theorem dX9_whispersNow_21 : decode cX9_whispersNow 21 = .ok (.iconst 4, 1) := by decide +kernel
theorem dX9_whispersNow_22 : decode cX9_whispersNow 22 = .ok (.iload_n 2, 1) := by decide +kernel
theorem dX9_whispersNow_23 : decode cX9_whispersNow 23 = .ok (.imul, 1) := by decide +kernel
theorem dX9_whispersNow_24 : decode cX9_whispersNow 24 = .ok (.iconst 1, 1) := by decide +kernel
theorem dX9_whispersNow_25 : decode cX9_whispersNow 25 = .ok (.iadd, 1) := by decide +kernel
theorem dX9_whispersNow_26 : decode cX9_whispersNow 26 = .ok (.iaload, 1) := by decide +kernel
theorem dX9_whispersNow_27 : decode cX9_whispersNow 27 = .ok (.iload_n 2, 1) := by decide +kernel
theorem dX9_whispersNow_28 : decode cX9_whispersNow 28 = .ok (.aload_n 0, 1) := by decide +kernel
theorem dX9_whispersNow_29 : decode cX9_whispersNow 29 = .ok (.getfield 61, 3) := by decide +kernel
theorem dX9_whispersNow_32 : decode cX9_whispersNow 32 = .ok (.if_icmp .ne 7, 3) := by decide +kernel
theorem dX9_whispersNow_35 : decode cX9_whispersNow 35 = .ok (.iconst 1, 1) := by decide +kernel
theorem dX9_whispersNow_36 : decode cX9_whispersNow 36 = .ok (.goto 4, 3) := by decide +kernel
theorem dX9_whispersNow_39 : decode cX9_whispersNow 39 = .ok (.iconst 0, 1) := by decide +kernel
theorem dX9_whispersNow_40 : decode cX9_whispersNow 40 = .ok (.iadd, 1) := by decide +kernel
theorem dX9_whispersNow_41 : decode cX9_whispersNow 41 = .ok (.istore_n 3, 1) := by decide +kernel
theorem dX9_whispersNow_42 : decode cX9_whispersNow 42 = .ok (.aload_n 0, 1) := by decide +kernel
theorem dX9_whispersNow_43 : decode cX9_whispersNow 43 = .ok (.getfield 46, 3) := by decide +kernel
theorem dX9_whispersNow_46 : decode cX9_whispersNow 46 = .ok (.iload_n 1, 1) := by decide +kernel
theorem dX9_whispersNow_47 : decode cX9_whispersNow 47 = .ok (.iconst 1, 1) := by decide +kernel
theorem dX9_whispersNow_48 : decode cX9_whispersNow 48 = .ok (.isub, 1) := by decide +kernel
theorem dX9_whispersNow_49 : decode cX9_whispersNow 49 = .ok (.iaload, 1) := by decide +kernel
theorem dX9_whispersNow_50 : decode cX9_whispersNow 50 = .ok (.aload_n 0, 1) := by decide +kernel
theorem dX9_whispersNow_51 : decode cX9_whispersNow 51 = .ok (.getfield 31, 3) := by decide +kernel
theorem dX9_whispersNow_54 : decode cX9_whispersNow 54 = .ok (.iconst 4, 1) := by decide +kernel
theorem dX9_whispersNow_55 : decode cX9_whispersNow 55 = .ok (.iload_n 2, 1) := by decide +kernel
theorem dX9_whispersNow_56 : decode cX9_whispersNow 56 = .ok (.imul, 1) := by decide +kernel
theorem dX9_whispersNow_57 : decode cX9_whispersNow 57 = .ok (.iaload, 1) := by decide +kernel
theorem dX9_whispersNow_58 : decode cX9_whispersNow 58 = .ok (.isub, 1) := by decide +kernel
theorem dX9_whispersNow_59 : decode cX9_whispersNow 59 = .ok (.invokestatic 168, 3) := by decide +kernel
theorem dX9_whispersNow_62 : decode cX9_whispersNow 62 = .ok (.iload_n 3, 1) := by decide +kernel
theorem dX9_whispersNow_63 : decode cX9_whispersNow 63 = .ok (.if_icmp .le 5, 3) := by decide +kernel
theorem dX9_whispersNow_66 : decode cX9_whispersNow 66 = .ok (.iconst (-1), 1) := by decide +kernel
theorem dX9_whispersNow_67 : decode cX9_whispersNow 67 = .ok (.ireturn, 1) := by decide +kernel
theorem dX9_whispersNow_68 : decode cX9_whispersNow 68 = .ok (.aload_n 0, 1) := by decide +kernel
theorem dX9_whispersNow_69 : decode cX9_whispersNow 69 = .ok (.iload_n 2, 1) := by decide +kernel
theorem dX9_whispersNow_70 : decode cX9_whispersNow 70 = .ok (.aload_n 0, 1) := by decide +kernel
theorem dX9_whispersNow_71 : decode cX9_whispersNow 71 = .ok (.getfield 49, 3) := by decide +kernel
theorem dX9_whispersNow_74 : decode cX9_whispersNow 74 = .ok (.iload_n 1, 1) := by decide +kernel
theorem dX9_whispersNow_75 : decode cX9_whispersNow 75 = .ok (.iconst 1, 1) := by decide +kernel
theorem dX9_whispersNow_76 : decode cX9_whispersNow 76 = .ok (.isub, 1) := by decide +kernel
theorem dX9_whispersNow_77 : decode cX9_whispersNow 77 = .ok (.iaload, 1) := by decide +kernel
theorem dX9_whispersNow_78 : decode cX9_whispersNow 78 = .ok (.invokevirtual 171, 3) := by decide +kernel
theorem dX9_whispersNow_81 : decode cX9_whispersNow 81 = .ok (.istore 4, 2) := by decide +kernel
theorem dX9_whispersNow_83 : decode cX9_whispersNow 83 = .ok (.aload_n 0, 1) := by decide +kernel
theorem dX9_whispersNow_84 : decode cX9_whispersNow 84 = .ok (.getfield 43, 3) := by decide +kernel
theorem dX9_whispersNow_87 : decode cX9_whispersNow 87 = .ok (.iload_n 1, 1) := by decide +kernel
theorem dX9_whispersNow_88 : decode cX9_whispersNow 88 = .ok (.iaload, 1) := by decide +kernel
theorem dX9_whispersNow_89 : decode cX9_whispersNow 89 = .ok (.iload_n 2, 1) := by decide +kernel
theorem dX9_whispersNow_90 : decode cX9_whispersNow 90 = .ok (.invokestatic 174, 3) := by decide +kernel
theorem dX9_whispersNow_93 : decode cX9_whispersNow 93 = .ok (.ifCond .eq 13, 3) := by decide +kernel
theorem dX9_whispersNow_96 : decode cX9_whispersNow 96 = .ok (.iload 4, 2) := by decide +kernel
theorem dX9_whispersNow_98 : decode cX9_whispersNow 98 = .ok (.iconst 1, 1) := by decide +kernel
theorem dX9_whispersNow_99 : decode cX9_whispersNow 99 = .ok (.iadd, 1) := by decide +kernel
theorem dX9_whispersNow_100 : decode cX9_whispersNow 100 = .ok (.bipush 8, 2) := by decide +kernel
theorem dX9_whispersNow_102 : decode cX9_whispersNow 102 = .ok (.irem, 1) := by decide +kernel
theorem dX9_whispersNow_103 : decode cX9_whispersNow 103 = .ok (.goto 5, 3) := by decide +kernel
theorem dX9_whispersNow_106 : decode cX9_whispersNow 106 = .ok (.iload 4, 2) := by decide +kernel
theorem dX9_whispersNow_108 : decode cX9_whispersNow 108 = .ok (.ireturn, 1) := by decide +kernel
theorem dX9_plays_0 : decode cX9_plays 0 = .ok (.aload_n 0, 1) := by decide +kernel
theorem dX9_plays_1 : decode cX9_plays 1 = .ok (.getfield 52, 3) := by decide +kernel
theorem dX9_plays_4 : decode cX9_plays 4 = .ok (.iload_n 1, 1) := by decide +kernel
theorem dX9_plays_5 : decode cX9_plays 5 = .ok (.iconst (-1), 1) := by decide +kernel
theorem dX9_plays_6 : decode cX9_plays 6 = .ok (.iastore, 1) := by decide +kernel
theorem dX9_plays_7 : decode cX9_plays 7 = .ok (.aload_n 0, 1) := by decide +kernel
theorem dX9_plays_8 : decode cX9_plays 8 = .ok (.getfield 103, 3) := by decide +kernel
theorem dX9_plays_11 : decode cX9_plays 11 = .ok (.ifCond .ne 13, 3) := by decide +kernel
theorem dX9_plays_14 : decode cX9_plays 14 = .ok (.aload_n 0, 1) := by decide +kernel
theorem dX9_plays_15 : decode cX9_plays 15 = .ok (.getfield 49, 3) := by decide +kernel
theorem dX9_plays_18 : decode cX9_plays 18 = .ok (.iload_n 1, 1) := by decide +kernel
theorem dX9_plays_19 : decode cX9_plays 19 = .ok (.iconst (-1), 1) := by decide +kernel
theorem dX9_plays_20 : decode cX9_plays 20 = .ok (.iastore, 1) := by decide +kernel
theorem dX9_plays_21 : decode cX9_plays 21 = .ok (.goto 143, 3) := by decide +kernel
theorem dX9_plays_24 : decode cX9_plays 24 = .ok (.iload_n 1, 1) := by decide +kernel
theorem dX9_plays_25 : decode cX9_plays 25 = .ok (.aload_n 0, 1) := by decide +kernel
theorem dX9_plays_26 : decode cX9_plays 26 = .ok (.getfield 65, 3) := by decide +kernel
theorem dX9_plays_29 : decode cX9_plays 29 = .ok (.if_icmp .ne 16, 3) := by decide +kernel
theorem dX9_plays_32 : decode cX9_plays 32 = .ok (.aload_n 0, 1) := by decide +kernel
theorem dX9_plays_33 : decode cX9_plays 33 = .ok (.getfield 49, 3) := by decide +kernel
theorem dX9_plays_36 : decode cX9_plays 36 = .ok (.iload_n 1, 1) := by decide +kernel
theorem dX9_plays_37 : decode cX9_plays 37 = .ok (.aload_n 0, 1) := by decide +kernel
theorem dX9_plays_38 : decode cX9_plays 38 = .ok (.getfield 178, 3) := by decide +kernel
theorem dX9_plays_41 : decode cX9_plays 41 = .ok (.iastore, 1) := by decide +kernel
theorem dX9_plays_42 : decode cX9_plays 42 = .ok (.goto 122, 3) := by decide +kernel
theorem dX9_plays_45 : decode cX9_plays 45 = .ok (.aload_n 0, 1) := by decide +kernel
theorem dX9_plays_46 : decode cX9_plays 46 = .ok (.iload_n 1, 1) := by decide +kernel
theorem dX9_plays_47 : decode cX9_plays 47 = .ok (.invokevirtual 165, 3) := by decide +kernel
theorem dX9_plays_50 : decode cX9_plays 50 = .ok (.ifCond .eq 18, 3) := by decide +kernel
theorem dX9_plays_53 : decode cX9_plays 53 = .ok (.aload_n 0, 1) := by decide +kernel
theorem dX9_plays_54 : decode cX9_plays 54 = .ok (.getfield 49, 3) := by decide +kernel
theorem dX9_plays_57 : decode cX9_plays 57 = .ok (.iload_n 1, 1) := by decide +kernel
theorem dX9_plays_58 : decode cX9_plays 58 = .ok (.aload_n 0, 1) := by decide +kernel
theorem dX9_plays_59 : decode cX9_plays 59 = .ok (.getfield 28, 3) := by decide +kernel
theorem dX9_plays_62 : decode cX9_plays 62 = .ok (.iconst 0, 1) := by decide +kernel
theorem dX9_plays_63 : decode cX9_plays 63 = .ok (.iaload, 1) := by decide +kernel
theorem dX9_plays_64 : decode cX9_plays 64 = .ok (.iastore, 1) := by decide +kernel
theorem dX9_plays_65 : decode cX9_plays 65 = .ok (.goto 99, 3) := by decide +kernel
theorem dX9_plays_68 : decode cX9_plays 68 = .ok (.aload_n 0, 1) := by decide +kernel
theorem dX9_plays_69 : decode cX9_plays 69 = .ok (.getfield 49, 3) := by decide +kernel
theorem dX9_plays_72 : decode cX9_plays 72 = .ok (.iload_n 1, 1) := by decide +kernel
theorem dX9_plays_73 : decode cX9_plays 73 = .ok (.aload_n 0, 1) := by decide +kernel
theorem dX9_plays_74 : decode cX9_plays 74 = .ok (.aload_n 0, 1) := by decide +kernel
theorem dX9_plays_75 : decode cX9_plays 75 = .ok (.getfield 49, 3) := by decide +kernel
theorem dX9_plays_78 : decode cX9_plays 78 = .ok (.iload_n 1, 1) := by decide +kernel
theorem dX9_plays_79 : decode cX9_plays 79 = .ok (.iconst 1, 1) := by decide +kernel
theorem dX9_plays_80 : decode cX9_plays 80 = .ok (.isub, 1) := by decide +kernel
theorem dX9_plays_81 : decode cX9_plays 81 = .ok (.iaload, 1) := by decide +kernel
theorem dX9_plays_82 : decode cX9_plays 82 = .ok (.iconst 1, 1) := by decide +kernel
theorem dX9_plays_83 : decode cX9_plays 83 = .ok (.invokevirtual 141, 3) := by decide +kernel
theorem dX9_plays_86 : decode cX9_plays 86 = .ok (.iastore, 1) := by decide +kernel
theorem dX9_plays_87 : decode cX9_plays 87 = .ok (.bipush 99, 2) := by decide +kernel
theorem dX9_plays_89 : decode cX9_plays 89 = .ok (.istore_n 2, 1) := by decide +kernel
theorem dX9_plays_90 : decode cX9_plays 90 = .ok (.iconst 0, 1) := by decide +kernel
theorem dX9_plays_91 : decode cX9_plays 91 = .ok (.istore_n 3, 1) := by decide +kernel
theorem dX9_plays_92 : decode cX9_plays 92 = .ok (.iload_n 3, 1) := by decide +kernel
theorem dX9_plays_93 : decode cX9_plays 93 = .ok (.aload_n 0, 1) := by decide +kernel
theorem dX9_plays_94 : decode cX9_plays 94 = .ok (.getfield 113, 3) := by decide +kernel
theorem dX9_plays_97 : decode cX9_plays 97 = .ok (.if_icmp .ge 67, 3) := by decide +kernel
theorem dX9_plays_100 : decode cX9_plays 100 = .ok (.aload_n 0, 1) := by decide +kernel
theorem dX9_plays_101 : decode cX9_plays 101 = .ok (.iload_n 1, 1) := by decide +kernel
theorem dX9_plays_102 : decode cX9_plays 102 = .ok (.iload_n 3, 1) := by decide +kernel
theorem dX9_plays_103 : decode cX9_plays 103 = .ok (.invokevirtual 181, 3) := by decide +kernel
theorem dX9_plays_106 : decode cX9_plays 106 = .ok (.istore 4, 2) := by decide +kernel
theorem dX9_plays_108 : decode cX9_plays 108 = .ok (.aload_n 0, 1) := by decide +kernel
theorem dX9_plays_109 : decode cX9_plays 109 = .ok (.getfield 46, 3) := by decide +kernel
theorem dX9_plays_112 : decode cX9_plays 112 = .ok (.iload_n 1, 1) := by decide +kernel
theorem dX9_plays_113 : decode cX9_plays 113 = .ok (.iaload, 1) := by decide +kernel
theorem dX9_plays_114 : decode cX9_plays 114 = .ok (.aload_n 0, 1) := by decide +kernel
theorem dX9_plays_115 : decode cX9_plays 115 = .ok (.getfield 31, 3) := by decide +kernel
theorem dX9_plays_118 : decode cX9_plays 118 = .ok (.iconst 4, 1) := by decide +kernel
theorem dX9_plays_119 : decode cX9_plays 119 = .ok (.iload_n 3, 1) := by decide +kernel
theorem dX9_plays_120 : decode cX9_plays 120 = .ok (.imul, 1) := by decide +kernel
theorem dX9_plays_121 : decode cX9_plays 121 = .ok (.iaload, 1) := by decide +kernel
theorem dX9_plays_122 : decode cX9_plays 122 = .ok (.isub, 1) := by decide +kernel
theorem dX9_plays_123 : decode cX9_plays 123 = .ok (.invokestatic 168, 3) := by decide +kernel
theorem dX9_plays_126 : decode cX9_plays 126 = .ok (.istore 5, 2) := by decide +kernel
theorem dX9_plays_128 : decode cX9_plays 128 = .ok (.iload 4, 2) := by decide +kernel
theorem dX9_plays_130 : decode cX9_plays 130 = .ok (.iconst (-1), 1) := by decide +kernel
theorem dX9_plays_131 : decode cX9_plays 131 = .ok (.if_icmp .eq 27, 3) := by decide +kernel
theorem dX9_plays_134 : decode cX9_plays 134 = .ok (.iload 5, 2) := by decide +kernel
theorem dX9_plays_136 : decode cX9_plays 136 = .ok (.iload_n 2, 1) := by decide +kernel
theorem dX9_plays_137 : decode cX9_plays 137 = .ok (.if_icmp .ge 21, 3) := by decide +kernel
theorem dX9_plays_140 : decode cX9_plays 140 = .ok (.iload 5, 2) := by decide +kernel
theorem dX9_plays_142 : decode cX9_plays 142 = .ok (.istore_n 2, 1) := by decide +kernel
theorem dX9_plays_143 : decode cX9_plays 143 = .ok (.aload_n 0, 1) := by decide +kernel
theorem dX9_plays_144 : decode cX9_plays 144 = .ok (.getfield 49, 3) := by decide +kernel
theorem dX9_plays_147 : decode cX9_plays 147 = .ok (.iload_n 1, 1) := by decide +kernel
theorem dX9_plays_148 : decode cX9_plays 148 = .ok (.iload 4, 2) := by decide +kernel
theorem dX9_plays_150 : decode cX9_plays 150 = .ok (.iastore, 1) := by decide +kernel
theorem dX9_plays_151 : decode cX9_plays 151 = .ok (.aload_n 0, 1) := by decide +kernel
theorem dX9_plays_152 : decode cX9_plays 152 = .ok (.getfield 52, 3) := by decide +kernel
theorem dX9_plays_155 : decode cX9_plays 155 = .ok (.iload_n 1, 1) := by decide +kernel
theorem dX9_plays_156 : decode cX9_plays 156 = .ok (.iload_n 3, 1) := by decide +kernel
theorem dX9_plays_157 : decode cX9_plays 157 = .ok (.iastore, 1) := by decide +kernel
theorem dX9_plays_158 : decode cX9_plays 158 = .ok (.iinc 3 1, 3) := by decide +kernel
theorem dX9_plays_161 : decode cX9_plays 161 = .ok (.goto (-69), 3) := by decide +kernel
theorem dX9_plays_164 : decode cX9_plays 164 = .ok (.return_, 1) := by decide +kernel
theorem dX9_lives_0 : decode cX9_lives 0 = .ok (.iload_n 1, 1) := by decide +kernel
theorem dX9_lives_1 : decode cX9_lives 1 = .ok (.istore_n 3, 1) := by decide +kernel
theorem dX9_lives_2 : decode cX9_lives 2 = .ok (.iload_n 3, 1) := by decide +kernel
theorem dX9_lives_3 : decode cX9_lives 3 = .ok (.iload_n 2, 1) := by decide +kernel
theorem dX9_lives_4 : decode cX9_lives 4 = .ok (.if_icmp .gt 14, 3) := by decide +kernel
theorem dX9_lives_7 : decode cX9_lives 7 = .ok (.aload_n 0, 1) := by decide +kernel
theorem dX9_lives_8 : decode cX9_lives 8 = .ok (.iload_n 3, 1) := by decide +kernel
theorem dX9_lives_9 : decode cX9_lives 9 = .ok (.invokevirtual 184, 3) := by decide +kernel
theorem dX9_lives_12 : decode cX9_lives 12 = .ok (.iinc 3 1, 3) := by decide +kernel
theorem dX9_lives_15 : decode cX9_lives 15 = .ok (.goto (-13), 3) := by decide +kernel
theorem dX9_lives_18 : decode cX9_lives 18 = .ok (.return_, 1) := by decide +kernel
theorem dX9_find_0 : decode cX9_find 0 = .ok (.aload_n 0, 1) := by decide +kernel
theorem dX9_find_1 : decode cX9_find 1 = .ok (.invokevirtual 188, 3) := by decide +kernel
theorem dX9_find_4 : decode cX9_find 4 = .ok (.aload_n 0, 1) := by decide +kernel
theorem dX9_find_5 : decode cX9_find 5 = .ok (.iconst 0, 1) := by decide +kernel
theorem dX9_find_6 : decode cX9_find 6 = .ok (.bipush 39, 2) := by decide +kernel
theorem dX9_find_8 : decode cX9_find 8 = .ok (.invokevirtual 191, 3) := by decide +kernel
theorem dX9_find_11 : decode cX9_find 11 = .ok (.return_, 1) := by decide +kernel
theorem dX9_printedIn_0 : decode cX9_printedIn 0 = .ok (.aload_n 0, 1) := by decide +kernel
theorem dX9_printedIn_1 : decode cX9_printedIn 1 = .ok (.getfield 103, 3) := by decide +kernel
theorem dX9_printedIn_4 : decode cX9_printedIn 4 = .ok (.ifCond .ne 7, 3) := by decide +kernel
theorem dX9_printedIn_7 : decode cX9_printedIn 7 = .ok (.iconst (-1), 1) := by decide +kernel
theorem dX9_printedIn_8 : decode cX9_printedIn 8 = .ok (.goto 14, 3) := by decide +kernel
theorem dX9_printedIn_11 : decode cX9_printedIn 11 = .ok (.aload_n 0, 1) := by decide +kernel
theorem dX9_printedIn_12 : decode cX9_printedIn 12 = .ok (.getfield 28, 3) := by decide +kernel
theorem dX9_printedIn_15 : decode cX9_printedIn 15 = .ok (.iload_n 1, 1) := by decide +kernel
theorem dX9_printedIn_16 : decode cX9_printedIn 16 = .ok (.aload_n 0, 1) := by decide +kernel
theorem dX9_printedIn_17 : decode cX9_printedIn 17 = .ok (.getfield 103, 3) := by decide +kernel
theorem dX9_printedIn_20 : decode cX9_printedIn 20 = .ok (.irem, 1) := by decide +kernel
theorem dX9_printedIn_21 : decode cX9_printedIn 21 = .ok (.iaload, 1) := by decide +kernel
theorem dX9_printedIn_22 : decode cX9_printedIn 22 = .ok (.ireturn, 1) := by decide +kernel
theorem dX9_stepOf_0 : decode cX9_stepOf 0 = .ok (.iload_n 2, 1) := by decide +kernel
theorem dX9_stepOf_1 : decode cX9_stepOf 1 = .ok (.ifCond .ne 12, 3) := by decide +kernel
theorem dX9_stepOf_4 : decode cX9_stepOf 4 = .ok (.aload_n 0, 1) := by decide +kernel
theorem dX9_stepOf_5 : decode cX9_stepOf 5 = .ok (.getfield 49, 3) := by decide +kernel
theorem dX9_stepOf_8 : decode cX9_stepOf 8 = .ok (.iload_n 1, 1) := by decide +kernel
theorem dX9_stepOf_9 : decode cX9_stepOf 9 = .ok (.iaload, 1) := by decide +kernel
theorem dX9_stepOf_10 : decode cX9_stepOf 10 = .ok (.goto 36, 3) := by decide +kernel
theorem dX9_stepOf_13 : decode cX9_stepOf 13 = .ok (.iload_n 2, 1) := by decide +kernel
theorem dX9_stepOf_14 : decode cX9_stepOf 14 = .ok (.iconst 1, 1) := by decide +kernel
theorem dX9_stepOf_15 : decode cX9_stepOf 15 = .ok (.if_icmp .ne 12, 3) := by decide +kernel
theorem dX9_stepOf_18 : decode cX9_stepOf 18 = .ok (.aload_n 0, 1) := by decide +kernel
theorem dX9_stepOf_19 : decode cX9_stepOf 19 = .ok (.getfield 52, 3) := by decide +kernel
theorem dX9_stepOf_22 : decode cX9_stepOf 22 = .ok (.iload_n 1, 1) := by decide +kernel
theorem dX9_stepOf_23 : decode cX9_stepOf 23 = .ok (.iaload, 1) := by decide +kernel
theorem dX9_stepOf_24 : decode cX9_stepOf 24 = .ok (.goto 22, 3) := by decide +kernel
theorem dX9_stepOf_27 : decode cX9_stepOf 27 = .ok (.iload_n 2, 1) := by decide +kernel
theorem dX9_stepOf_28 : decode cX9_stepOf 28 = .ok (.iconst 2, 1) := by decide +kernel
theorem dX9_stepOf_29 : decode cX9_stepOf 29 = .ok (.if_icmp .ne 12, 3) := by decide +kernel
theorem dX9_stepOf_32 : decode cX9_stepOf 32 = .ok (.aload_n 0, 1) := by decide +kernel
theorem dX9_stepOf_33 : decode cX9_stepOf 33 = .ok (.getfield 46, 3) := by decide +kernel
theorem dX9_stepOf_36 : decode cX9_stepOf 36 = .ok (.iload_n 1, 1) := by decide +kernel
theorem dX9_stepOf_37 : decode cX9_stepOf 37 = .ok (.iaload, 1) := by decide +kernel
theorem dX9_stepOf_38 : decode cX9_stepOf 38 = .ok (.goto 8, 3) := by decide +kernel
theorem dX9_stepOf_41 : decode cX9_stepOf 41 = .ok (.aload_n 0, 1) := by decide +kernel
theorem dX9_stepOf_42 : decode cX9_stepOf 42 = .ok (.iload_n 1, 1) := by decide +kernel
theorem dX9_stepOf_43 : decode cX9_stepOf 43 = .ok (.invokevirtual 195, 3) := by decide +kernel
theorem dX9_stepOf_46 : decode cX9_stepOf 46 = .ok (.ireturn, 1) := by decide +kernel
theorem dX9_step_0 : decode cX9_step 0 = .ok (.aload_n 0, 1) := by decide +kernel
theorem dX9_step_1 : decode cX9_step 1 = .ok (.invokevirtual 198, 3) := by decide +kernel
theorem dX9_step_4 : decode cX9_step 4 = .ok (.iload_n 1, 1) := by decide +kernel
theorem dX9_step_5 : decode cX9_step 5 = .ok (.invokestatic 144, 3) := by decide +kernel
theorem dX9_step_8 : decode cX9_step 8 = .ok (.ifCond .eq 24, 3) := by decide +kernel
theorem dX9_step_11 : decode cX9_step 11 = .ok (.iload_n 2, 1) := by decide +kernel
theorem dX9_step_12 : decode cX9_step 12 = .ok (.i2l, 1) := by decide +kernel
theorem dX9_step_13 : decode cX9_step 13 = .ok (.lconst 0, 1) := by decide +kernel
theorem dX9_step_14 : decode cX9_step 14 = .ok (.ldc2_w 77, 3) := by decide +kernel
theorem dX9_step_17 : decode cX9_step 17 = .ok (.invokestatic 70, 3) := by decide +kernel
theorem dX9_step_20 : decode cX9_step 20 = .ok (.ifCond .eq 12, 3) := by decide +kernel
theorem dX9_step_23 : decode cX9_step 23 = .ok (.aload_n 0, 1) := by decide +kernel
theorem dX9_step_24 : decode cX9_step 24 = .ok (.iload_n 1, 1) := by decide +kernel
theorem dX9_step_25 : decode cX9_step 25 = .ok (.iload_n 2, 1) := by decide +kernel
theorem dX9_step_26 : decode cX9_step 26 = .ok (.invokevirtual 201, 3) := by decide +kernel
theorem dX9_step_29 : decode cX9_step 29 = .ok (.goto 5, 3) := by decide +kernel
theorem dX9_step_32 : decode cX9_step 32 = .ok (.bipush (-2), 2) := by decide +kernel
theorem dX9_step_34 : decode cX9_step 34 = .ok (.ireturn, 1) := by decide +kernel
theorem dX9_whispers_0 : decode cX9_whispers 0 = .ok (.aload_n 0, 1) := by decide +kernel
theorem dX9_whispers_1 : decode cX9_whispers 1 = .ok (.invokevirtual 198, 3) := by decide +kernel
theorem dX9_whispers_4 : decode cX9_whispers 4 = .ok (.iload_n 1, 1) := by decide +kernel
theorem dX9_whispers_5 : decode cX9_whispers 5 = .ok (.invokestatic 144, 3) := by decide +kernel
theorem dX9_whispers_8 : decode cX9_whispers 8 = .ok (.ifCond .eq 20, 3) := by decide +kernel
theorem dX9_whispers_11 : decode cX9_whispers 11 = .ok (.aload_n 0, 1) := by decide +kernel
theorem dX9_whispers_12 : decode cX9_whispers 12 = .ok (.iload_n 2, 1) := by decide +kernel
theorem dX9_whispers_13 : decode cX9_whispers 13 = .ok (.invokevirtual 135, 3) := by decide +kernel
theorem dX9_whispers_16 : decode cX9_whispers 16 = .ok (.ifCond .eq 12, 3) := by decide +kernel
theorem dX9_whispers_19 : decode cX9_whispers 19 = .ok (.aload_n 0, 1) := by decide +kernel
theorem dX9_whispers_20 : decode cX9_whispers 20 = .ok (.iload_n 1, 1) := by decide +kernel
theorem dX9_whispers_21 : decode cX9_whispers 21 = .ok (.iload_n 2, 1) := by decide +kernel
theorem dX9_whispers_22 : decode cX9_whispers 22 = .ok (.invokevirtual 181, 3) := by decide +kernel
theorem dX9_whispers_25 : decode cX9_whispers 25 = .ok (.goto 5, 3) := by decide +kernel
theorem dX9_whispers_28 : decode cX9_whispers 28 = .ok (.bipush (-2), 2) := by decide +kernel
theorem dX9_whispers_30 : decode cX9_whispers 30 = .ok (.ireturn, 1) := by decide +kernel
theorem dX9_driftTo_0 : decode cX9_driftTo 0 = .ok (.iconst 0, 1) := by decide +kernel
theorem dX9_driftTo_1 : decode cX9_driftTo 1 = .ok (.istore_n 2, 1) := by decide +kernel
theorem dX9_driftTo_2 : decode cX9_driftTo 2 = .ok (.iconst 0, 1) := by decide +kernel
theorem dX9_driftTo_3 : decode cX9_driftTo 3 = .ok (.istore_n 3, 1) := by decide +kernel
theorem dX9_driftTo_4 : decode cX9_driftTo 4 = .ok (.iload_n 3, 1) := by decide +kernel
theorem dX9_driftTo_5 : decode cX9_driftTo 5 = .ok (.iload_n 1, 1) := by decide +kernel
theorem dX9_driftTo_6 : decode cX9_driftTo 6 = .ok (.if_icmp .gt 31, 3) := by decide +kernel
theorem dX9_driftTo_9 : decode cX9_driftTo 9 = .ok (.iload_n 2, 1) := by decide +kernel
theorem dX9_driftTo_10 : decode cX9_driftTo 10 = .ok (.aload_n 0, 1) := by decide +kernel
theorem dX9_driftTo_11 : decode cX9_driftTo 11 = .ok (.getfield 49, 3) := by decide +kernel
theorem dX9_driftTo_14 : decode cX9_driftTo 14 = .ok (.iload_n 3, 1) := by decide +kernel
theorem dX9_driftTo_15 : decode cX9_driftTo 15 = .ok (.iaload, 1) := by decide +kernel
theorem dX9_driftTo_16 : decode cX9_driftTo 16 = .ok (.aload_n 0, 1) := by decide +kernel
theorem dX9_driftTo_17 : decode cX9_driftTo 17 = .ok (.iload_n 3, 1) := by decide +kernel
theorem dX9_driftTo_18 : decode cX9_driftTo 18 = .ok (.invokevirtual 195, 3) := by decide +kernel
theorem dX9_driftTo_21 : decode cX9_driftTo 21 = .ok (.if_icmp .eq 7, 3) := by decide +kernel
theorem dX9_driftTo_24 : decode cX9_driftTo 24 = .ok (.iconst 1, 1) := by decide +kernel
theorem dX9_driftTo_25 : decode cX9_driftTo 25 = .ok (.goto 4, 3) := by decide +kernel
theorem dX9_driftTo_28 : decode cX9_driftTo 28 = .ok (.iconst 0, 1) := by decide +kernel
theorem dX9_driftTo_29 : decode cX9_driftTo 29 = .ok (.iadd, 1) := by decide +kernel
theorem dX9_driftTo_30 : decode cX9_driftTo 30 = .ok (.istore_n 2, 1) := by decide +kernel
theorem dX9_driftTo_31 : decode cX9_driftTo 31 = .ok (.iinc 3 1, 3) := by decide +kernel
theorem dX9_driftTo_34 : decode cX9_driftTo 34 = .ok (.goto (-30), 3) := by decide +kernel
theorem dX9_driftTo_37 : decode cX9_driftTo 37 = .ok (.iload_n 2, 1) := by decide +kernel
theorem dX9_driftTo_38 : decode cX9_driftTo 38 = .ok (.ireturn, 1) := by decide +kernel
theorem dX9_driftOf_0 : decode cX9_driftOf 0 = .ok (.iconst 0, 1) := by decide +kernel
theorem dX9_driftOf_1 : decode cX9_driftOf 1 = .ok (.istore_n 2, 1) := by decide +kernel
theorem dX9_driftOf_2 : decode cX9_driftOf 2 = .ok (.iload_n 2, 1) := by decide +kernel
theorem dX9_driftOf_3 : decode cX9_driftOf 3 = .ok (.bipush 40, 2) := by decide +kernel
theorem dX9_driftOf_5 : decode cX9_driftOf 5 = .ok (.if_icmp .ge 38, 3) := by decide +kernel
theorem dX9_driftOf_8 : decode cX9_driftOf 8 = .ok (.aload_n 0, 1) := by decide +kernel
theorem dX9_driftOf_9 : decode cX9_driftOf 9 = .ok (.getfield 49, 3) := by decide +kernel
theorem dX9_driftOf_12 : decode cX9_driftOf 12 = .ok (.iload_n 2, 1) := by decide +kernel
theorem dX9_driftOf_13 : decode cX9_driftOf 13 = .ok (.iaload, 1) := by decide +kernel
theorem dX9_driftOf_14 : decode cX9_driftOf 14 = .ok (.aload_n 0, 1) := by decide +kernel
theorem dX9_driftOf_15 : decode cX9_driftOf 15 = .ok (.iload_n 2, 1) := by decide +kernel
theorem dX9_driftOf_16 : decode cX9_driftOf 16 = .ok (.invokevirtual 195, 3) := by decide +kernel
theorem dX9_driftOf_19 : decode cX9_driftOf 19 = .ok (.if_icmp .eq 18, 3) := by decide +kernel
theorem dX9_driftOf_22 : decode cX9_driftOf 22 = .ok (.iload_n 1, 1) := by decide +kernel
theorem dX9_driftOf_23 : decode cX9_driftOf 23 = .ok (.ifCond .ne 7, 3) := by decide +kernel
theorem dX9_driftOf_26 : decode cX9_driftOf 26 = .ok (.iload_n 2, 1) := by decide +kernel
theorem dX9_driftOf_27 : decode cX9_driftOf 27 = .ok (.goto 9, 3) := by decide +kernel
theorem dX9_driftOf_30 : decode cX9_driftOf 30 = .ok (.aload_n 0, 1) := by decide +kernel
theorem dX9_driftOf_31 : decode cX9_driftOf 31 = .ok (.bipush 39, 2) := by decide +kernel
theorem dX9_driftOf_33 : decode cX9_driftOf 33 = .ok (.invokevirtual 204, 3) := by decide +kernel
theorem dX9_driftOf_36 : decode cX9_driftOf 36 = .ok (.ireturn, 1) := by decide +kernel
theorem dX9_driftOf_37 : decode cX9_driftOf 37 = .ok (.iinc 2 1, 3) := by decide +kernel
theorem dX9_driftOf_40 : decode cX9_driftOf 40 = .ok (.goto (-38), 3) := by decide +kernel
theorem dX9_driftOf_43 : decode cX9_driftOf 43 = .ok (.iconst (-1), 1) := by decide +kernel
theorem dX9_driftOf_44 : decode cX9_driftOf 44 = .ok (.ireturn, 1) := by decide +kernel
theorem dX9_drift_0 : decode cX9_drift 0 = .ok (.aload_n 0, 1) := by decide +kernel
theorem dX9_drift_1 : decode cX9_drift 1 = .ok (.invokevirtual 198, 3) := by decide +kernel
theorem dX9_drift_4 : decode cX9_drift 4 = .ok (.iload_n 1, 1) := by decide +kernel
theorem dX9_drift_5 : decode cX9_drift 5 = .ok (.invokestatic 98, 3) := by decide +kernel
theorem dX9_drift_8 : decode cX9_drift 8 = .ok (.ifCond .eq 11, 3) := by decide +kernel
theorem dX9_drift_11 : decode cX9_drift 11 = .ok (.aload_n 0, 1) := by decide +kernel
theorem dX9_drift_12 : decode cX9_drift 12 = .ok (.iload_n 1, 1) := by decide +kernel
theorem dX9_drift_13 : decode cX9_drift 13 = .ok (.invokevirtual 207, 3) := by decide +kernel
theorem dX9_drift_16 : decode cX9_drift 16 = .ok (.goto 5, 3) := by decide +kernel
theorem dX9_drift_19 : decode cX9_drift 19 = .ok (.bipush (-2), 2) := by decide +kernel
theorem dX9_drift_21 : decode cX9_drift 21 = .ok (.ireturn, 1) := by decide +kernel
theorem dX9_roundNow_0 : decode cX9_roundNow 0 = .ok (.iconst 1, 1) := by decide +kernel
theorem dX9_roundNow_1 : decode cX9_roundNow 1 = .ok (.istore_n 1, 1) := by decide +kernel
theorem dX9_roundNow_2 : decode cX9_roundNow 2 = .ok (.iload_n 1, 1) := by decide +kernel
theorem dX9_roundNow_3 : decode cX9_roundNow 3 = .ok (.bipush 13, 2) := by decide +kernel
theorem dX9_roundNow_5 : decode cX9_roundNow 5 = .ok (.if_icmp .ge 61, 3) := by decide +kernel
theorem dX9_roundNow_8 : decode cX9_roundNow 8 = .ok (.iconst 1, 1) := by decide +kernel
theorem dX9_roundNow_9 : decode cX9_roundNow 9 = .ok (.istore_n 2, 1) := by decide +kernel
theorem dX9_roundNow_10 : decode cX9_roundNow 10 = .ok (.bipush 16, 2) := by decide +kernel
theorem dX9_roundNow_12 : decode cX9_roundNow 12 = .ok (.istore_n 3, 1) := by decide +kernel
theorem dX9_roundNow_13 : decode cX9_roundNow 13 = .ok (.iload_n 3, 1) := by decide +kernel
theorem dX9_roundNow_14 : decode cX9_roundNow 14 = .ok (.iload_n 1, 1) := by decide +kernel
theorem dX9_roundNow_15 : decode cX9_roundNow 15 = .ok (.iadd, 1) := by decide +kernel
theorem dX9_roundNow_16 : decode cX9_roundNow 16 = .ok (.bipush 40, 2) := by decide +kernel
theorem dX9_roundNow_18 : decode cX9_roundNow 18 = .ok (.if_icmp .ge 36, 3) := by decide +kernel
theorem dX9_roundNow_21 : decode cX9_roundNow 21 = .ok (.iload_n 2, 1) := by decide +kernel
theorem dX9_roundNow_22 : decode cX9_roundNow 22 = .ok (.ifCond .eq 24, 3) := by decide +kernel
theorem dX9_roundNow_25 : decode cX9_roundNow 25 = .ok (.aload_n 0, 1) := by decide +kernel
theorem dX9_roundNow_26 : decode cX9_roundNow 26 = .ok (.getfield 49, 3) := by decide +kernel
theorem dX9_roundNow_29 : decode cX9_roundNow 29 = .ok (.iload_n 3, 1) := by decide +kernel
theorem dX9_roundNow_30 : decode cX9_roundNow 30 = .ok (.iaload, 1) := by decide +kernel
theorem dX9_roundNow_31 : decode cX9_roundNow 31 = .ok (.aload_n 0, 1) := by decide +kernel
theorem dX9_roundNow_32 : decode cX9_roundNow 32 = .ok (.getfield 49, 3) := by decide +kernel
theorem dX9_roundNow_35 : decode cX9_roundNow 35 = .ok (.iload_n 3, 1) := by decide +kernel
theorem dX9_roundNow_36 : decode cX9_roundNow 36 = .ok (.iload_n 1, 1) := by decide +kernel
theorem dX9_roundNow_37 : decode cX9_roundNow 37 = .ok (.iadd, 1) := by decide +kernel
theorem dX9_roundNow_38 : decode cX9_roundNow 38 = .ok (.iaload, 1) := by decide +kernel
theorem dX9_roundNow_39 : decode cX9_roundNow 39 = .ok (.if_icmp .ne 7, 3) := by decide +kernel
theorem dX9_roundNow_42 : decode cX9_roundNow 42 = .ok (.iconst 1, 1) := by decide +kernel
theorem dX9_roundNow_43 : decode cX9_roundNow 43 = .ok (.goto 4, 3) := by decide +kernel
theorem dX9_roundNow_46 : decode cX9_roundNow 46 = .ok (.iconst 0, 1) := by decide +kernel
theorem dX9_roundNow_47 : decode cX9_roundNow 47 = .ok (.istore_n 2, 1) := by decide +kernel
theorem dX9_roundNow_48 : decode cX9_roundNow 48 = .ok (.iinc 3 1, 3) := by decide +kernel
theorem dX9_roundNow_51 : decode cX9_roundNow 51 = .ok (.goto (-38), 3) := by decide +kernel
theorem dX9_roundNow_54 : decode cX9_roundNow 54 = .ok (.iload_n 2, 1) := by decide +kernel
theorem dX9_roundNow_55 : decode cX9_roundNow 55 = .ok (.ifCond .eq 5, 3) := by decide +kernel
theorem dX9_roundNow_58 : decode cX9_roundNow 58 = .ok (.iload_n 1, 1) := by decide +kernel
theorem dX9_roundNow_59 : decode cX9_roundNow 59 = .ok (.ireturn, 1) := by decide +kernel
theorem dX9_roundNow_60 : decode cX9_roundNow 60 = .ok (.iinc 1 1, 3) := by decide +kernel
theorem dX9_roundNow_63 : decode cX9_roundNow 63 = .ok (.goto (-61), 3) := by decide +kernel
theorem dX9_roundNow_66 : decode cX9_roundNow 66 = .ok (.iconst (-1), 1) := by decide +kernel
theorem dX9_roundNow_67 : decode cX9_roundNow 67 = .ok (.ireturn, 1) := by decide +kernel
theorem dX9_round_0 : decode cX9_round 0 = .ok (.aload_n 0, 1) := by decide +kernel
theorem dX9_round_1 : decode cX9_round 1 = .ok (.invokevirtual 198, 3) := by decide +kernel
theorem dX9_round_4 : decode cX9_round 4 = .ok (.aload_n 0, 1) := by decide +kernel
theorem dX9_round_5 : decode cX9_round 5 = .ok (.invokevirtual 210, 3) := by decide +kernel
theorem dX9_round_8 : decode cX9_round 8 = .ok (.ireturn, 1) := by decide +kernel
theorem dX9_oftenOf_0 : decode cX9_oftenOf 0 = .ok (.iconst 0, 1) := by decide +kernel
theorem dX9_oftenOf_1 : decode cX9_oftenOf 1 = .ok (.istore_n 3, 1) := by decide +kernel
theorem dX9_oftenOf_2 : decode cX9_oftenOf 2 = .ok (.iconst (-1), 1) := by decide +kernel
theorem dX9_oftenOf_3 : decode cX9_oftenOf 3 = .ok (.istore 4, 2) := by decide +kernel
theorem dX9_oftenOf_5 : decode cX9_oftenOf 5 = .ok (.iconst 0, 1) := by decide +kernel
theorem dX9_oftenOf_6 : decode cX9_oftenOf 6 = .ok (.istore 5, 2) := by decide +kernel
theorem dX9_oftenOf_8 : decode cX9_oftenOf 8 = .ok (.iload 5, 2) := by decide +kernel
theorem dX9_oftenOf_10 : decode cX9_oftenOf 10 = .ok (.bipush 40, 2) := by decide +kernel
theorem dX9_oftenOf_12 : decode cX9_oftenOf 12 = .ok (.if_icmp .ge 48, 3) := by decide +kernel
theorem dX9_oftenOf_15 : decode cX9_oftenOf 15 = .ok (.iload_n 3, 1) := by decide +kernel
theorem dX9_oftenOf_16 : decode cX9_oftenOf 16 = .ok (.aload_n 0, 1) := by decide +kernel
theorem dX9_oftenOf_17 : decode cX9_oftenOf 17 = .ok (.getfield 49, 3) := by decide +kernel
theorem dX9_oftenOf_20 : decode cX9_oftenOf 20 = .ok (.iload 5, 2) := by decide +kernel
theorem dX9_oftenOf_22 : decode cX9_oftenOf 22 = .ok (.iaload, 1) := by decide +kernel
theorem dX9_oftenOf_23 : decode cX9_oftenOf 23 = .ok (.iload_n 1, 1) := by decide +kernel
theorem dX9_oftenOf_24 : decode cX9_oftenOf 24 = .ok (.if_icmp .ne 7, 3) := by decide +kernel
theorem dX9_oftenOf_27 : decode cX9_oftenOf 27 = .ok (.iconst 1, 1) := by decide +kernel
theorem dX9_oftenOf_28 : decode cX9_oftenOf 28 = .ok (.goto 4, 3) := by decide +kernel
theorem dX9_oftenOf_31 : decode cX9_oftenOf 31 = .ok (.iconst 0, 1) := by decide +kernel
theorem dX9_oftenOf_32 : decode cX9_oftenOf 32 = .ok (.iadd, 1) := by decide +kernel
theorem dX9_oftenOf_33 : decode cX9_oftenOf 33 = .ok (.istore_n 3, 1) := by decide +kernel
theorem dX9_oftenOf_34 : decode cX9_oftenOf 34 = .ok (.aload_n 0, 1) := by decide +kernel
theorem dX9_oftenOf_35 : decode cX9_oftenOf 35 = .ok (.getfield 49, 3) := by decide +kernel
theorem dX9_oftenOf_38 : decode cX9_oftenOf 38 = .ok (.iload 5, 2) := by decide +kernel
theorem dX9_oftenOf_40 : decode cX9_oftenOf 40 = .ok (.iaload, 1) := by decide +kernel
theorem dX9_oftenOf_41 : decode cX9_oftenOf 41 = .ok (.iload_n 1, 1) := by decide +kernel
theorem dX9_oftenOf_42 : decode cX9_oftenOf 42 = .ok (.if_icmp .ne 8, 3) := by decide +kernel
theorem dX9_oftenOf_45 : decode cX9_oftenOf 45 = .ok (.iload 5, 2) := by decide +kernel
theorem dX9_oftenOf_47 : decode cX9_oftenOf 47 = .ok (.goto 5, 3) := by decide +kernel
theorem dX9_oftenOf_50 : decode cX9_oftenOf 50 = .ok (.iload 4, 2) := by decide +kernel
theorem dX9_oftenOf_52 : decode cX9_oftenOf 52 = .ok (.istore 4, 2) := by decide +kernel
theorem dX9_oftenOf_54 : decode cX9_oftenOf 54 = .ok (.iinc 5 1, 3) := by decide +kernel
theorem dX9_oftenOf_57 : decode cX9_oftenOf 57 = .ok (.goto (-49), 3) := by decide +kernel
theorem dX9_oftenOf_60 : decode cX9_oftenOf 60 = .ok (.iload_n 2, 1) := by decide +kernel
theorem dX9_oftenOf_61 : decode cX9_oftenOf 61 = .ok (.ifCond .ne 7, 3) := by decide +kernel
theorem dX9_oftenOf_64 : decode cX9_oftenOf 64 = .ok (.iload_n 3, 1) := by decide +kernel
theorem dX9_oftenOf_65 : decode cX9_oftenOf 65 = .ok (.goto 5, 3) := by decide +kernel
theorem dX9_oftenOf_68 : decode cX9_oftenOf 68 = .ok (.iload 4, 2) := by decide +kernel
theorem dX9_oftenOf_70 : decode cX9_oftenOf 70 = .ok (.ireturn, 1) := by decide +kernel
theorem dX9_often_0 : decode cX9_often 0 = .ok (.aload_n 0, 1) := by decide +kernel
theorem dX9_often_1 : decode cX9_often 1 = .ok (.invokevirtual 198, 3) := by decide +kernel
theorem dX9_often_4 : decode cX9_often 4 = .ok (.iload_n 1, 1) := by decide +kernel
theorem dX9_often_5 : decode cX9_often 5 = .ok (.invokestatic 138, 3) := by decide +kernel
theorem dX9_often_8 : decode cX9_often 8 = .ok (.ifCond .eq 19, 3) := by decide +kernel
theorem dX9_often_11 : decode cX9_often 11 = .ok (.iload_n 2, 1) := by decide +kernel
theorem dX9_often_12 : decode cX9_often 12 = .ok (.invokestatic 98, 3) := by decide +kernel
theorem dX9_often_15 : decode cX9_often 15 = .ok (.ifCond .eq 12, 3) := by decide +kernel
theorem dX9_often_18 : decode cX9_often 18 = .ok (.aload_n 0, 1) := by decide +kernel
theorem dX9_often_19 : decode cX9_often 19 = .ok (.iload_n 1, 1) := by decide +kernel
theorem dX9_often_20 : decode cX9_often 20 = .ok (.iload_n 2, 1) := by decide +kernel
theorem dX9_often_21 : decode cX9_often 21 = .ok (.invokevirtual 213, 3) := by decide +kernel
theorem dX9_often_24 : decode cX9_often 24 = .ok (.goto 5, 3) := by decide +kernel
theorem dX9_often_27 : decode cX9_often 27 = .ok (.bipush (-2), 2) := by decide +kernel
theorem dX9_often_29 : decode cX9_often 29 = .ok (.ireturn, 1) := by decide +kernel
theorem dX9_mayOf_0 : decode cX9_mayOf 0 = .ok (.aload_n 0, 1) := by decide +kernel
theorem dX9_mayOf_1 : decode cX9_mayOf 1 = .ok (.getfield 43, 3) := by decide +kernel
theorem dX9_mayOf_4 : decode cX9_mayOf 4 = .ok (.iload_n 1, 1) := by decide +kernel
theorem dX9_mayOf_5 : decode cX9_mayOf 5 = .ok (.iaload, 1) := by decide +kernel
theorem dX9_mayOf_6 : decode cX9_mayOf 6 = .ok (.istore_n 3, 1) := by decide +kernel
theorem dX9_mayOf_7 : decode cX9_mayOf 7 = .ok (.iconst 0, 1) := by decide +kernel
theorem dX9_mayOf_8 : decode cX9_mayOf 8 = .ok (.istore 4, 2) := by decide +kernel
theorem dX9_mayOf_10 : decode cX9_mayOf 10 = .ok (.iconst 0, 1) := by decide +kernel
theorem dX9_mayOf_11 : decode cX9_mayOf 11 = .ok (.istore 5, 2) := by decide +kernel
theorem dX9_mayOf_13 : decode cX9_mayOf 13 = .ok (.iload 5, 2) := by decide +kernel
theorem dX9_mayOf_15 : decode cX9_mayOf 15 = .ok (.iconst 1, 1) := by decide +kernel
theorem dX9_mayOf_16 : decode cX9_mayOf 16 = .ok (.aload_n 0, 1) := by decide +kernel
theorem dX9_mayOf_17 : decode cX9_mayOf 17 = .ok (.getfield 113, 3) := by decide +kernel
theorem dX9_mayOf_20 : decode cX9_mayOf 20 = .ok (.ishl, 1) := by decide +kernel
theorem dX9_mayOf_21 : decode cX9_mayOf 21 = .ok (.if_icmp .ge 49, 3) := by decide +kernel
theorem dX9_mayOf_24 : decode cX9_mayOf 24 = .ok (.aload_n 0, 1) := by decide +kernel
theorem dX9_mayOf_25 : decode cX9_mayOf 25 = .ok (.getfield 43, 3) := by decide +kernel
theorem dX9_mayOf_28 : decode cX9_mayOf 28 = .ok (.iload_n 1, 1) := by decide +kernel
theorem dX9_mayOf_29 : decode cX9_mayOf 29 = .ok (.iload_n 3, 1) := by decide +kernel
theorem dX9_mayOf_30 : decode cX9_mayOf 30 = .ok (.iload 5, 2) := by decide +kernel
theorem dX9_mayOf_32 : decode cX9_mayOf 32 = .ok (.ior, 1) := by decide +kernel
theorem dX9_mayOf_33 : decode cX9_mayOf 33 = .ok (.iastore, 1) := by decide +kernel
theorem dX9_mayOf_34 : decode cX9_mayOf 34 = .ok (.aload_n 0, 1) := by decide +kernel
theorem dX9_mayOf_35 : decode cX9_mayOf 35 = .ok (.iconst 0, 1) := by decide +kernel
theorem dX9_mayOf_36 : decode cX9_mayOf 36 = .ok (.iload_n 2, 1) := by decide +kernel
theorem dX9_mayOf_37 : decode cX9_mayOf 37 = .ok (.invokevirtual 191, 3) := by decide +kernel
theorem dX9_mayOf_40 : decode cX9_mayOf 40 = .ok (.iload 4, 2) := by decide +kernel
theorem dX9_mayOf_42 : decode cX9_mayOf 42 = .ok (.aload_n 0, 1) := by decide +kernel
theorem dX9_mayOf_43 : decode cX9_mayOf 43 = .ok (.getfield 103, 3) := by decide +kernel
theorem dX9_mayOf_46 : decode cX9_mayOf 46 = .ok (.ifCond .ne 7, 3) := by decide +kernel
theorem dX9_mayOf_49 : decode cX9_mayOf 49 = .ok (.iconst 0, 1) := by decide +kernel
theorem dX9_mayOf_50 : decode cX9_mayOf 50 = .ok (.goto 11, 3) := by decide +kernel
theorem dX9_mayOf_53 : decode cX9_mayOf 53 = .ok (.iconst 1, 1) := by decide +kernel
theorem dX9_mayOf_54 : decode cX9_mayOf 54 = .ok (.aload_n 0, 1) := by decide +kernel
theorem dX9_mayOf_55 : decode cX9_mayOf 55 = .ok (.getfield 49, 3) := by decide +kernel
theorem dX9_mayOf_58 : decode cX9_mayOf 58 = .ok (.iload_n 2, 1) := by decide +kernel
theorem dX9_mayOf_59 : decode cX9_mayOf 59 = .ok (.iaload, 1) := by decide +kernel
theorem dX9_mayOf_60 : decode cX9_mayOf 60 = .ok (.ishl, 1) := by decide +kernel
theorem dX9_mayOf_61 : decode cX9_mayOf 61 = .ok (.ior, 1) := by decide +kernel
theorem dX9_mayOf_62 : decode cX9_mayOf 62 = .ok (.istore 4, 2) := by decide +kernel
theorem dX9_mayOf_64 : decode cX9_mayOf 64 = .ok (.iinc 5 1, 3) := by decide +kernel
theorem dX9_mayOf_67 : decode cX9_mayOf 67 = .ok (.goto (-54), 3) := by decide +kernel
theorem dX9_mayOf_70 : decode cX9_mayOf 70 = .ok (.aload_n 0, 1) := by decide +kernel
theorem dX9_mayOf_71 : decode cX9_mayOf 71 = .ok (.getfield 43, 3) := by decide +kernel
theorem dX9_mayOf_74 : decode cX9_mayOf 74 = .ok (.iload_n 1, 1) := by decide +kernel
theorem dX9_mayOf_75 : decode cX9_mayOf 75 = .ok (.iload_n 3, 1) := by decide +kernel
theorem dX9_mayOf_76 : decode cX9_mayOf 76 = .ok (.iastore, 1) := by decide +kernel
theorem dX9_mayOf_77 : decode cX9_mayOf 77 = .ok (.aload_n 0, 1) := by decide +kernel
theorem dX9_mayOf_78 : decode cX9_mayOf 78 = .ok (.iconst 0, 1) := by decide +kernel
theorem dX9_mayOf_79 : decode cX9_mayOf 79 = .ok (.bipush 39, 2) := by decide +kernel
theorem dX9_mayOf_81 : decode cX9_mayOf 81 = .ok (.invokevirtual 191, 3) := by decide +kernel
theorem dX9_mayOf_84 : decode cX9_mayOf 84 = .ok (.iload 4, 2) := by decide +kernel
theorem dX9_mayOf_86 : decode cX9_mayOf 86 = .ok (.ireturn, 1) := by decide +kernel
theorem dX9_may_0 : decode cX9_may 0 = .ok (.aload_n 0, 1) := by decide +kernel
theorem dX9_may_1 : decode cX9_may 1 = .ok (.invokevirtual 198, 3) := by decide +kernel
theorem dX9_may_4 : decode cX9_may 4 = .ok (.iload_n 1, 1) := by decide +kernel
theorem dX9_may_5 : decode cX9_may 5 = .ok (.invokestatic 144, 3) := by decide +kernel
theorem dX9_may_8 : decode cX9_may 8 = .ok (.ifCond .eq 19, 3) := by decide +kernel
theorem dX9_may_11 : decode cX9_may 11 = .ok (.iload_n 2, 1) := by decide +kernel
theorem dX9_may_12 : decode cX9_may 12 = .ok (.invokestatic 144, 3) := by decide +kernel
theorem dX9_may_15 : decode cX9_may 15 = .ok (.ifCond .eq 12, 3) := by decide +kernel
theorem dX9_may_18 : decode cX9_may 18 = .ok (.aload_n 0, 1) := by decide +kernel
theorem dX9_may_19 : decode cX9_may 19 = .ok (.iload_n 1, 1) := by decide +kernel
theorem dX9_may_20 : decode cX9_may 20 = .ok (.iload_n 2, 1) := by decide +kernel
theorem dX9_may_21 : decode cX9_may 21 = .ok (.invokevirtual 216, 3) := by decide +kernel
theorem dX9_may_24 : decode cX9_may 24 = .ok (.goto 5, 3) := by decide +kernel
theorem dX9_may_27 : decode cX9_may 27 = .ok (.bipush (-2), 2) := by decide +kernel
theorem dX9_may_29 : decode cX9_may 29 = .ok (.ireturn, 1) := by decide +kernel
theorem dX9_promptOf_0 : decode cX9_promptOf 0 = .ok (.iconst (-1), 1) := by decide +kernel
theorem dX9_promptOf_1 : decode cX9_promptOf 1 = .ok (.istore 5, 2) := by decide +kernel
theorem dX9_promptOf_3 : decode cX9_promptOf 3 = .ok (.iconst (-1), 1) := by decide +kernel
theorem dX9_promptOf_4 : decode cX9_promptOf 4 = .ok (.istore 6, 2) := by decide +kernel
theorem dX9_promptOf_6 : decode cX9_promptOf 6 = .ok (.iconst 0, 1) := by decide +kernel
theorem dX9_promptOf_7 : decode cX9_promptOf 7 = .ok (.istore 7, 2) := by decide +kernel
theorem dX9_promptOf_9 : decode cX9_promptOf 9 = .ok (.iload_n 1, 1) := by decide +kernel
theorem dX9_promptOf_10 : decode cX9_promptOf 10 = .ok (.istore 8, 2) := by decide +kernel
theorem dX9_promptOf_12 : decode cX9_promptOf 12 = .ok (.iload 8, 2) := by decide +kernel
theorem dX9_promptOf_14 : decode cX9_promptOf 14 = .ok (.iload_n 2, 1) := by decide +kernel
theorem dX9_promptOf_15 : decode cX9_promptOf 15 = .ok (.if_icmp .ge 100, 3) := by decide +kernel
theorem dX9_promptOf_18 : decode cX9_promptOf 18 = .ok (.aload_n 0, 1) := by decide +kernel
theorem dX9_promptOf_19 : decode cX9_promptOf 19 = .ok (.getfield 103, 3) := by decide +kernel
theorem dX9_promptOf_22 : decode cX9_promptOf 22 = .ok (.ifCond .le 93, 3) := by decide +kernel
theorem dX9_promptOf_25 : decode cX9_promptOf 25 = .ok (.iconst 0, 1) := by decide +kernel
theorem dX9_promptOf_26 : decode cX9_promptOf 26 = .ok (.istore 9, 2) := by decide +kernel
theorem dX9_promptOf_28 : decode cX9_promptOf 28 = .ok (.iload 9, 2) := by decide +kernel
theorem dX9_promptOf_30 : decode cX9_promptOf 30 = .ok (.bipush 8, 2) := by decide +kernel
theorem dX9_promptOf_32 : decode cX9_promptOf 32 = .ok (.if_icmp .ge 65, 3) := by decide +kernel
theorem dX9_promptOf_35 : decode cX9_promptOf 35 = .ok (.aload_n 0, 1) := by decide +kernel
theorem dX9_promptOf_36 : decode cX9_promptOf 36 = .ok (.iload 8, 2) := by decide +kernel
theorem dX9_promptOf_38 : decode cX9_promptOf 38 = .ok (.putfield 65, 3) := by decide +kernel
theorem dX9_promptOf_41 : decode cX9_promptOf 41 = .ok (.aload_n 0, 1) := by decide +kernel
theorem dX9_promptOf_42 : decode cX9_promptOf 42 = .ok (.iload 9, 2) := by decide +kernel
theorem dX9_promptOf_44 : decode cX9_promptOf 44 = .ok (.putfield 178, 3) := by decide +kernel
theorem dX9_promptOf_47 : decode cX9_promptOf 47 = .ok (.aload_n 0, 1) := by decide +kernel
theorem dX9_promptOf_48 : decode cX9_promptOf 48 = .ok (.iload 8, 2) := by decide +kernel
theorem dX9_promptOf_50 : decode cX9_promptOf 50 = .ok (.iload_n 2, 1) := by decide +kernel
theorem dX9_promptOf_51 : decode cX9_promptOf 51 = .ok (.invokevirtual 191, 3) := by decide +kernel
theorem dX9_promptOf_54 : decode cX9_promptOf 54 = .ok (.aload_n 0, 1) := by decide +kernel
theorem dX9_promptOf_55 : decode cX9_promptOf 55 = .ok (.getfield 49, 3) := by decide +kernel
theorem dX9_promptOf_58 : decode cX9_promptOf 58 = .ok (.iload_n 2, 1) := by decide +kernel
theorem dX9_promptOf_59 : decode cX9_promptOf 59 = .ok (.iaload, 1) := by decide +kernel
theorem dX9_promptOf_60 : decode cX9_promptOf 60 = .ok (.iload_n 3, 1) := by decide +kernel
theorem dX9_promptOf_61 : decode cX9_promptOf 61 = .ok (.if_icmp .ne 30, 3) := by decide +kernel
theorem dX9_promptOf_64 : decode cX9_promptOf 64 = .ok (.iload 7, 2) := by decide +kernel
theorem dX9_promptOf_66 : decode cX9_promptOf 66 = .ok (.ifCond .ne 14, 3) := by decide +kernel
theorem dX9_promptOf_69 : decode cX9_promptOf 69 = .ok (.bipush 8, 2) := by decide +kernel
theorem dX9_promptOf_71 : decode cX9_promptOf 71 = .ok (.iload 8, 2) := by decide +kernel
theorem dX9_promptOf_73 : decode cX9_promptOf 73 = .ok (.imul, 1) := by decide +kernel
theorem dX9_promptOf_74 : decode cX9_promptOf 74 = .ok (.iload 9, 2) := by decide +kernel
theorem dX9_promptOf_76 : decode cX9_promptOf 76 = .ok (.iadd, 1) := by decide +kernel
theorem dX9_promptOf_77 : decode cX9_promptOf 77 = .ok (.goto 5, 3) := by decide +kernel
theorem dX9_promptOf_80 : decode cX9_promptOf 80 = .ok (.iload 5, 2) := by decide +kernel
theorem dX9_promptOf_82 : decode cX9_promptOf 82 = .ok (.istore 5, 2) := by decide +kernel
theorem dX9_promptOf_84 : decode cX9_promptOf 84 = .ok (.iload 8, 2) := by decide +kernel
theorem dX9_promptOf_86 : decode cX9_promptOf 86 = .ok (.istore 6, 2) := by decide +kernel
theorem dX9_promptOf_88 : decode cX9_promptOf 88 = .ok (.iinc 7 1, 3) := by decide +kernel
theorem dX9_promptOf_91 : decode cX9_promptOf 91 = .ok (.iinc 9 1, 3) := by decide +kernel
theorem dX9_promptOf_94 : decode cX9_promptOf 94 = .ok (.goto (-66), 3) := by decide +kernel
theorem dX9_promptOf_97 : decode cX9_promptOf 97 = .ok (.aload_n 0, 1) := by decide +kernel
theorem dX9_promptOf_98 : decode cX9_promptOf 98 = .ok (.iconst (-1), 1) := by decide +kernel
theorem dX9_promptOf_99 : decode cX9_promptOf 99 = .ok (.putfield 65, 3) := by decide +kernel
theorem dX9_promptOf_102 : decode cX9_promptOf 102 = .ok (.aload_n 0, 1) := by decide +kernel
theorem dX9_promptOf_103 : decode cX9_promptOf 103 = .ok (.iload 8, 2) := by decide +kernel
theorem dX9_promptOf_105 : decode cX9_promptOf 105 = .ok (.iload_n 2, 1) := by decide +kernel
theorem dX9_promptOf_106 : decode cX9_promptOf 106 = .ok (.invokevirtual 191, 3) := by decide +kernel
theorem dX9_promptOf_109 : decode cX9_promptOf 109 = .ok (.iinc 8 1, 3) := by decide +kernel
theorem dX9_promptOf_112 : decode cX9_promptOf 112 = .ok (.goto (-100), 3) := by decide +kernel
theorem dX9_promptOf_115 : decode cX9_promptOf 115 = .ok (.aload_n 0, 1) := by decide +kernel
theorem dX9_promptOf_116 : decode cX9_promptOf 116 = .ok (.iconst (-1), 1) := by decide +kernel
theorem dX9_promptOf_117 : decode cX9_promptOf 117 = .ok (.putfield 65, 3) := by decide +kernel
theorem dX9_promptOf_120 : decode cX9_promptOf 120 = .ok (.aload_n 0, 1) := by decide +kernel
theorem dX9_promptOf_121 : decode cX9_promptOf 121 = .ok (.iconst 0, 1) := by decide +kernel
theorem dX9_promptOf_122 : decode cX9_promptOf 122 = .ok (.bipush 39, 2) := by decide +kernel
theorem dX9_promptOf_124 : decode cX9_promptOf 124 = .ok (.invokevirtual 191, 3) := by decide +kernel
theorem dX9_promptOf_127 : decode cX9_promptOf 127 = .ok (.iload 4, 2) := by decide +kernel
theorem dX9_promptOf_129 : decode cX9_promptOf 129 = .ok (.ifCond .ne 8, 3) := by decide +kernel
theorem dX9_promptOf_132 : decode cX9_promptOf 132 = .ok (.iload 5, 2) := by decide +kernel
theorem dX9_promptOf_134 : decode cX9_promptOf 134 = .ok (.goto 16, 3) := by decide +kernel
theorem dX9_promptOf_137 : decode cX9_promptOf 137 = .ok (.iload 4, 2) := by decide +kernel
theorem dX9_promptOf_139 : decode cX9_promptOf 139 = .ok (.iconst 1, 1) := by decide +kernel
theorem dX9_promptOf_140 : decode cX9_promptOf 140 = .ok (.if_icmp .ne 8, 3) := by decide +kernel
theorem dX9_promptOf_143 : decode cX9_promptOf 143 = .ok (.iload 6, 2) := by decide +kernel
theorem dX9_promptOf_145 : decode cX9_promptOf 145 = .ok (.goto 5, 3) := by decide +kernel
theorem dX9_promptOf_148 : decode cX9_promptOf 148 = .ok (.iload 7, 2) := by decide +kernel
theorem dX9_promptOf_150 : decode cX9_promptOf 150 = .ok (.ireturn, 1) := by decide +kernel
theorem dX9_prompt_0 : decode cX9_prompt 0 = .ok (.aload_n 0, 1) := by decide +kernel
theorem dX9_prompt_1 : decode cX9_prompt 1 = .ok (.invokevirtual 198, 3) := by decide +kernel
theorem dX9_prompt_4 : decode cX9_prompt 4 = .ok (.iload_n 1, 1) := by decide +kernel
theorem dX9_prompt_5 : decode cX9_prompt 5 = .ok (.ifCond .le 47, 3) := by decide +kernel
theorem dX9_prompt_8 : decode cX9_prompt 8 = .ok (.iload_n 2, 1) := by decide +kernel
theorem dX9_prompt_9 : decode cX9_prompt 9 = .ok (.invokestatic 144, 3) := by decide +kernel
theorem dX9_prompt_12 : decode cX9_prompt 12 = .ok (.ifCond .eq 40, 3) := by decide +kernel
theorem dX9_prompt_15 : decode cX9_prompt 15 = .ok (.iload_n 2, 1) := by decide +kernel
theorem dX9_prompt_16 : decode cX9_prompt 16 = .ok (.iload_n 1, 1) := by decide +kernel
theorem dX9_prompt_17 : decode cX9_prompt 17 = .ok (.if_icmp .le 35, 3) := by decide +kernel
theorem dX9_prompt_20 : decode cX9_prompt 20 = .ok (.iload_n 3, 1) := by decide +kernel
theorem dX9_prompt_21 : decode cX9_prompt 21 = .ok (.invokestatic 138, 3) := by decide +kernel
theorem dX9_prompt_24 : decode cX9_prompt 24 = .ok (.ifCond .eq 28, 3) := by decide +kernel
theorem dX9_prompt_27 : decode cX9_prompt 27 = .ok (.iload 4, 2) := by decide +kernel
theorem dX9_prompt_29 : decode cX9_prompt 29 = .ok (.i2l, 1) := by decide +kernel
theorem dX9_prompt_30 : decode cX9_prompt 30 = .ok (.lconst 0, 1) := by decide +kernel
theorem dX9_prompt_31 : decode cX9_prompt 31 = .ok (.ldc2_w 83, 3) := by decide +kernel
theorem dX9_prompt_34 : decode cX9_prompt 34 = .ok (.invokestatic 70, 3) := by decide +kernel
theorem dX9_prompt_37 : decode cX9_prompt 37 = .ok (.ifCond .eq 15, 3) := by decide +kernel
theorem dX9_prompt_40 : decode cX9_prompt 40 = .ok (.aload_n 0, 1) := by decide +kernel
theorem dX9_prompt_41 : decode cX9_prompt 41 = .ok (.iload_n 1, 1) := by decide +kernel
theorem dX9_prompt_42 : decode cX9_prompt 42 = .ok (.iload_n 2, 1) := by decide +kernel
theorem dX9_prompt_43 : decode cX9_prompt 43 = .ok (.iload_n 3, 1) := by decide +kernel
theorem dX9_prompt_44 : decode cX9_prompt 44 = .ok (.iload 4, 2) := by decide +kernel
theorem dX9_prompt_46 : decode cX9_prompt 46 = .ok (.invokevirtual 219, 3) := by decide +kernel
theorem dX9_prompt_49 : decode cX9_prompt 49 = .ok (.goto 5, 3) := by decide +kernel
theorem dX9_prompt_52 : decode cX9_prompt 52 = .ok (.bipush (-2), 2) := by decide +kernel
theorem dX9_prompt_54 : decode cX9_prompt 54 = .ok (.ireturn, 1) := by decide +kernel
theorem dX9_seen_0 : decode cX9_seen 0 = .ok (.iload_n 1, 1) := by decide +kernel
theorem dX9_seen_1 : decode cX9_seen 1 = .ok (.invokestatic 144, 3) := by decide +kernel
theorem dX9_seen_4 : decode cX9_seen 4 = .ok (.ifCond .eq 10, 3) := by decide +kernel
theorem dX9_seen_7 : decode cX9_seen 7 = .ok (.iload_n 2, 1) := by decide +kernel
theorem dX9_seen_8 : decode cX9_seen 8 = .ok (.invokestatic 138, 3) := by decide +kernel
theorem dX9_seen_11 : decode cX9_seen 11 = .ok (.ifCond .ne 6, 3) := by decide +kernel
theorem dX9_seen_14 : decode cX9_seen 14 = .ok (.bipush (-2), 2) := by decide +kernel
theorem dX9_seen_16 : decode cX9_seen 16 = .ok (.ireturn, 1) := by decide +kernel
theorem dX9_seen_17 : decode cX9_seen 17 = .ok (.aload_n 0, 1) := by decide +kernel
theorem dX9_seen_18 : decode cX9_seen 18 = .ok (.getfield 223, 3) := by decide +kernel
theorem dX9_seen_21 : decode cX9_seen 21 = .ok (.bipush 8, 2) := by decide +kernel
theorem dX9_seen_23 : decode cX9_seen 23 = .ok (.if_icmp .ne 6, 3) := by decide +kernel
theorem dX9_seen_26 : decode cX9_seen 26 = .ok (.bipush (-4), 2) := by decide +kernel
theorem dX9_seen_28 : decode cX9_seen 28 = .ok (.ireturn, 1) := by decide +kernel
theorem dX9_seen_29 : decode cX9_seen 29 = .ok (.aload_n 0, 1) := by decide +kernel
theorem dX9_seen_30 : decode cX9_seen 30 = .ok (.getfield 55, 3) := by decide +kernel
theorem dX9_seen_33 : decode cX9_seen 33 = .ok (.iconst 2, 1) := by decide +kernel
theorem dX9_seen_34 : decode cX9_seen 34 = .ok (.aload_n 0, 1) := by decide +kernel
theorem dX9_seen_35 : decode cX9_seen 35 = .ok (.getfield 223, 3) := by decide +kernel
theorem dX9_seen_38 : decode cX9_seen 38 = .ok (.imul, 1) := by decide +kernel
theorem dX9_seen_39 : decode cX9_seen 39 = .ok (.iload_n 1, 1) := by decide +kernel
theorem dX9_seen_40 : decode cX9_seen 40 = .ok (.iastore, 1) := by decide +kernel
theorem dX9_seen_41 : decode cX9_seen 41 = .ok (.aload_n 0, 1) := by decide +kernel
theorem dX9_seen_42 : decode cX9_seen 42 = .ok (.getfield 55, 3) := by decide +kernel
theorem dX9_seen_45 : decode cX9_seen 45 = .ok (.iconst 2, 1) := by decide +kernel
theorem dX9_seen_46 : decode cX9_seen 46 = .ok (.aload_n 0, 1) := by decide +kernel
theorem dX9_seen_47 : decode cX9_seen 47 = .ok (.getfield 223, 3) := by decide +kernel
theorem dX9_seen_50 : decode cX9_seen 50 = .ok (.imul, 1) := by decide +kernel
theorem dX9_seen_51 : decode cX9_seen 51 = .ok (.iconst 1, 1) := by decide +kernel
theorem dX9_seen_52 : decode cX9_seen 52 = .ok (.iadd, 1) := by decide +kernel
theorem dX9_seen_53 : decode cX9_seen 53 = .ok (.iload_n 2, 1) := by decide +kernel
theorem dX9_seen_54 : decode cX9_seen 54 = .ok (.iastore, 1) := by decide +kernel
theorem dX9_seen_55 : decode cX9_seen 55 = .ok (.aload_n 0, 1) := by decide +kernel
theorem dX9_seen_56 : decode cX9_seen 56 = .ok (.dup, 1) := by decide +kernel
theorem dX9_seen_57 : decode cX9_seen 57 = .ok (.getfield 223, 3) := by decide +kernel
theorem dX9_seen_60 : decode cX9_seen 60 = .ok (.iconst 1, 1) := by decide +kernel
theorem dX9_seen_61 : decode cX9_seen 61 = .ok (.iadd, 1) := by decide +kernel
theorem dX9_seen_62 : decode cX9_seen 62 = .ok (.putfield 223, 3) := by decide +kernel
theorem dX9_seen_65 : decode cX9_seen 65 = .ok (.aload_n 0, 1) := by decide +kernel
theorem dX9_seen_66 : decode cX9_seen 66 = .ok (.getfield 223, 3) := by decide +kernel
theorem dX9_seen_69 : decode cX9_seen 69 = .ok (.ireturn, 1) := by decide +kernel
theorem dX9_forget_0 : decode cX9_forget 0 = .ok (.aload_n 0, 1) := by decide +kernel
theorem dX9_forget_1 : decode cX9_forget 1 = .ok (.getfield 223, 3) := by decide +kernel
theorem dX9_forget_4 : decode cX9_forget 4 = .ok (.istore_n 1, 1) := by decide +kernel
theorem dX9_forget_5 : decode cX9_forget 5 = .ok (.aload_n 0, 1) := by decide +kernel
theorem dX9_forget_6 : decode cX9_forget 6 = .ok (.iconst 0, 1) := by decide +kernel
theorem dX9_forget_7 : decode cX9_forget 7 = .ok (.putfield 223, 3) := by decide +kernel
theorem dX9_forget_10 : decode cX9_forget 10 = .ok (.iload_n 1, 1) := by decide +kernel
theorem dX9_forget_11 : decode cX9_forget 11 = .ok (.ireturn, 1) := by decide +kernel
theorem dX9_isSeen_0 : decode cX9_isSeen 0 = .ok (.aload_n 0, 1) := by decide +kernel
theorem dX9_isSeen_1 : decode cX9_isSeen 1 = .ok (.iconst 0, 1) := by decide +kernel
theorem dX9_isSeen_2 : decode cX9_isSeen 2 = .ok (.bipush 39, 2) := by decide +kernel
theorem dX9_isSeen_4 : decode cX9_isSeen 4 = .ok (.invokevirtual 191, 3) := by decide +kernel
theorem dX9_isSeen_7 : decode cX9_isSeen 7 = .ok (.iconst 1, 1) := by decide +kernel
theorem dX9_isSeen_8 : decode cX9_isSeen 8 = .ok (.istore_n 1, 1) := by decide +kernel
theorem dX9_isSeen_9 : decode cX9_isSeen 9 = .ok (.iconst 0, 1) := by decide +kernel
theorem dX9_isSeen_10 : decode cX9_isSeen 10 = .ok (.istore_n 2, 1) := by decide +kernel
theorem dX9_isSeen_11 : decode cX9_isSeen 11 = .ok (.iload_n 2, 1) := by decide +kernel
theorem dX9_isSeen_12 : decode cX9_isSeen 12 = .ok (.aload_n 0, 1) := by decide +kernel
theorem dX9_isSeen_13 : decode cX9_isSeen 13 = .ok (.getfield 223, 3) := by decide +kernel
theorem dX9_isSeen_16 : decode cX9_isSeen 16 = .ok (.if_icmp .ge 45, 3) := by decide +kernel
theorem dX9_isSeen_19 : decode cX9_isSeen 19 = .ok (.iload_n 1, 1) := by decide +kernel
theorem dX9_isSeen_20 : decode cX9_isSeen 20 = .ok (.ifCond .eq 33, 3) := by decide +kernel
theorem dX9_isSeen_23 : decode cX9_isSeen 23 = .ok (.aload_n 0, 1) := by decide +kernel
theorem dX9_isSeen_24 : decode cX9_isSeen 24 = .ok (.getfield 49, 3) := by decide +kernel
theorem dX9_isSeen_27 : decode cX9_isSeen 27 = .ok (.aload_n 0, 1) := by decide +kernel
theorem dX9_isSeen_28 : decode cX9_isSeen 28 = .ok (.getfield 55, 3) := by decide +kernel
theorem dX9_isSeen_31 : decode cX9_isSeen 31 = .ok (.iconst 2, 1) := by decide +kernel
theorem dX9_isSeen_32 : decode cX9_isSeen 32 = .ok (.iload_n 2, 1) := by decide +kernel
theorem dX9_isSeen_33 : decode cX9_isSeen 33 = .ok (.imul, 1) := by decide +kernel
theorem dX9_isSeen_34 : decode cX9_isSeen 34 = .ok (.iaload, 1) := by decide +kernel
theorem dX9_isSeen_35 : decode cX9_isSeen 35 = .ok (.iaload, 1) := by decide +kernel
theorem dX9_isSeen_36 : decode cX9_isSeen 36 = .ok (.aload_n 0, 1) := by decide +kernel
theorem dX9_isSeen_37 : decode cX9_isSeen 37 = .ok (.getfield 55, 3) := by decide +kernel
theorem dX9_isSeen_40 : decode cX9_isSeen 40 = .ok (.iconst 2, 1) := by decide +kernel
theorem dX9_isSeen_41 : decode cX9_isSeen 41 = .ok (.iload_n 2, 1) := by decide +kernel
theorem dX9_isSeen_42 : decode cX9_isSeen 42 = .ok (.imul, 1) := by decide +kernel
theorem dX9_isSeen_43 : decode cX9_isSeen 43 = .ok (.iconst 1, 1) := by decide +kernel
theorem dX9_isSeen_44 : decode cX9_isSeen 44 = .ok (.iadd, 1) := by decide +kernel
theorem dX9_isSeen_45 : decode cX9_isSeen 45 = .ok (.iaload, 1) := by decide +kernel
theorem dX9_isSeen_46 : decode cX9_isSeen 46 = .ok (.if_icmp .ne 7, 3) := by decide +kernel
theorem dX9_isSeen_49 : decode cX9_isSeen 49 = .ok (.iconst 1, 1) := by decide +kernel
theorem dX9_isSeen_50 : decode cX9_isSeen 50 = .ok (.goto 4, 3) := by decide +kernel
theorem dX9_isSeen_53 : decode cX9_isSeen 53 = .ok (.iconst 0, 1) := by decide +kernel
theorem dX9_isSeen_54 : decode cX9_isSeen 54 = .ok (.istore_n 1, 1) := by decide +kernel
theorem dX9_isSeen_55 : decode cX9_isSeen 55 = .ok (.iinc 2 1, 3) := by decide +kernel
theorem dX9_isSeen_58 : decode cX9_isSeen 58 = .ok (.goto (-47), 3) := by decide +kernel
theorem dX9_isSeen_61 : decode cX9_isSeen 61 = .ok (.iload_n 1, 1) := by decide +kernel
theorem dX9_isSeen_62 : decode cX9_isSeen 62 = .ok (.ireturn, 1) := by decide +kernel
theorem dX9_filedNow_0 : decode cX9_filedNow 0 = .ok (.iconst 0, 1) := by decide +kernel
theorem dX9_filedNow_1 : decode cX9_filedNow 1 = .ok (.istore_n 1, 1) := by decide +kernel
theorem dX9_filedNow_2 : decode cX9_filedNow 2 = .ok (.iconst 0, 1) := by decide +kernel
theorem dX9_filedNow_3 : decode cX9_filedNow 3 = .ok (.istore_n 2, 1) := by decide +kernel
theorem dX9_filedNow_4 : decode cX9_filedNow 4 = .ok (.iload_n 2, 1) := by decide +kernel
theorem dX9_filedNow_5 : decode cX9_filedNow 5 = .ok (.aload_n 0, 1) := by decide +kernel
theorem dX9_filedNow_6 : decode cX9_filedNow 6 = .ok (.getfield 113, 3) := by decide +kernel
theorem dX9_filedNow_9 : decode cX9_filedNow 9 = .ok (.if_icmp .ge 31, 3) := by decide +kernel
theorem dX9_filedNow_12 : decode cX9_filedNow 12 = .ok (.aload_n 0, 1) := by decide +kernel
theorem dX9_filedNow_13 : decode cX9_filedNow 13 = .ok (.iload_n 2, 1) := by decide +kernel
theorem dX9_filedNow_14 : decode cX9_filedNow 14 = .ok (.putfield 61, 3) := by decide +kernel
theorem dX9_filedNow_17 : decode cX9_filedNow 17 = .ok (.iload_n 1, 1) := by decide +kernel
theorem dX9_filedNow_18 : decode cX9_filedNow 18 = .ok (.aload_n 0, 1) := by decide +kernel
theorem dX9_filedNow_19 : decode cX9_filedNow 19 = .ok (.invokevirtual 226, 3) := by decide +kernel
theorem dX9_filedNow_22 : decode cX9_filedNow 22 = .ok (.ifCond .eq 9, 3) := by decide +kernel
theorem dX9_filedNow_25 : decode cX9_filedNow 25 = .ok (.iconst 1, 1) := by decide +kernel
theorem dX9_filedNow_26 : decode cX9_filedNow 26 = .ok (.iload_n 2, 1) := by decide +kernel
theorem dX9_filedNow_27 : decode cX9_filedNow 27 = .ok (.ishl, 1) := by decide +kernel
theorem dX9_filedNow_28 : decode cX9_filedNow 28 = .ok (.goto 4, 3) := by decide +kernel
theorem dX9_filedNow_31 : decode cX9_filedNow 31 = .ok (.iconst 0, 1) := by decide +kernel
theorem dX9_filedNow_32 : decode cX9_filedNow 32 = .ok (.ior, 1) := by decide +kernel
theorem dX9_filedNow_33 : decode cX9_filedNow 33 = .ok (.istore_n 1, 1) := by decide +kernel
theorem dX9_filedNow_34 : decode cX9_filedNow 34 = .ok (.iinc 2 1, 3) := by decide +kernel
theorem dX9_filedNow_37 : decode cX9_filedNow 37 = .ok (.goto (-33), 3) := by decide +kernel
theorem dX9_filedNow_40 : decode cX9_filedNow 40 = .ok (.aload_n 0, 1) := by decide +kernel
theorem dX9_filedNow_41 : decode cX9_filedNow 41 = .ok (.iconst (-1), 1) := by decide +kernel
theorem dX9_filedNow_42 : decode cX9_filedNow 42 = .ok (.putfield 61, 3) := by decide +kernel
theorem dX9_filedNow_45 : decode cX9_filedNow 45 = .ok (.aload_n 0, 1) := by decide +kernel
theorem dX9_filedNow_46 : decode cX9_filedNow 46 = .ok (.iconst 0, 1) := by decide +kernel
theorem dX9_filedNow_47 : decode cX9_filedNow 47 = .ok (.bipush 39, 2) := by decide +kernel
theorem dX9_filedNow_49 : decode cX9_filedNow 49 = .ok (.invokevirtual 191, 3) := by decide +kernel
theorem dX9_filedNow_52 : decode cX9_filedNow 52 = .ok (.iload_n 1, 1) := by decide +kernel
theorem dX9_filedNow_53 : decode cX9_filedNow 53 = .ok (.ireturn, 1) := by decide +kernel
end
section
theorem dX9_filed_0 : decode cX9_filed 0 = .ok (.aload_n 0, 1) := by decide +kernel
theorem dX9_filed_1 : decode cX9_filed 1 = .ok (.invokevirtual 198, 3) := by decide +kernel
theorem dX9_filed_4 : decode cX9_filed 4 = .ok (.aload_n 0, 1) := by decide +kernel
theorem dX9_filed_5 : decode cX9_filed 5 = .ok (.invokevirtual 230, 3) := by decide +kernel
theorem dX9_filed_8 : decode cX9_filed 8 = .ok (.ireturn, 1) := by decide +kernel
theorem dX9_coughedOf_0 : decode cX9_coughedOf 0 = .ok (.iconst 0, 1) := by decide +kernel
theorem dX9_coughedOf_1 : decode cX9_coughedOf 1 = .ok (.istore_n 2, 1) := by decide +kernel
theorem dX9_coughedOf_2 : decode cX9_coughedOf 2 = .ok (.iconst 0, 1) := by decide +kernel
theorem dX9_coughedOf_3 : decode cX9_coughedOf 3 = .ok (.istore_n 3, 1) := by decide +kernel
theorem dX9_coughedOf_4 : decode cX9_coughedOf 4 = .ok (.iload_n 3, 1) := by decide +kernel
theorem dX9_coughedOf_5 : decode cX9_coughedOf 5 = .ok (.bipush 31, 2) := by decide +kernel
theorem dX9_coughedOf_7 : decode cX9_coughedOf 7 = .ok (.if_icmp .ge 54, 3) := by decide +kernel
theorem dX9_coughedOf_10 : decode cX9_coughedOf 10 = .ok (.aload_n 0, 1) := by decide +kernel
theorem dX9_coughedOf_11 : decode cX9_coughedOf 11 = .ok (.getfield 43, 3) := by decide +kernel
theorem dX9_coughedOf_14 : decode cX9_coughedOf 14 = .ok (.iload_n 3, 1) := by decide +kernel
theorem dX9_coughedOf_15 : decode cX9_coughedOf 15 = .ok (.iaload, 1) := by decide +kernel
theorem dX9_coughedOf_16 : decode cX9_coughedOf 16 = .ok (.istore 4, 2) := by decide +kernel
theorem dX9_coughedOf_18 : decode cX9_coughedOf 18 = .ok (.aload_n 0, 1) := by decide +kernel
theorem dX9_coughedOf_19 : decode cX9_coughedOf 19 = .ok (.getfield 43, 3) := by decide +kernel
theorem dX9_coughedOf_22 : decode cX9_coughedOf 22 = .ok (.iload_n 3, 1) := by decide +kernel
theorem dX9_coughedOf_23 : decode cX9_coughedOf 23 = .ok (.dup2, 1) := by decide +kernel
theorem dX9_coughedOf_24 : decode cX9_coughedOf 24 = .ok (.iaload, 1) := by decide +kernel
theorem dX9_coughedOf_25 : decode cX9_coughedOf 25 = .ok (.iconst 1, 1) := by decide +kernel
theorem dX9_coughedOf_26 : decode cX9_coughedOf 26 = .ok (.iload_n 1, 1) := by decide +kernel
theorem dX9_coughedOf_27 : decode cX9_coughedOf 27 = .ok (.ishl, 1) := by decide +kernel
theorem dX9_coughedOf_28 : decode cX9_coughedOf 28 = .ok (.ior, 1) := by decide +kernel
theorem dX9_coughedOf_29 : decode cX9_coughedOf 29 = .ok (.iastore, 1) := by decide +kernel
theorem dX9_coughedOf_30 : decode cX9_coughedOf 30 = .ok (.iload_n 2, 1) := by decide +kernel
theorem dX9_coughedOf_31 : decode cX9_coughedOf 31 = .ok (.aload_n 0, 1) := by decide +kernel
theorem dX9_coughedOf_32 : decode cX9_coughedOf 32 = .ok (.invokevirtual 226, 3) := by decide +kernel
theorem dX9_coughedOf_35 : decode cX9_coughedOf 35 = .ok (.ifCond .eq 9, 3) := by decide +kernel
theorem dX9_coughedOf_38 : decode cX9_coughedOf 38 = .ok (.iconst 1, 1) := by decide +kernel
theorem dX9_coughedOf_39 : decode cX9_coughedOf 39 = .ok (.iload_n 3, 1) := by decide +kernel
theorem dX9_coughedOf_40 : decode cX9_coughedOf 40 = .ok (.ishl, 1) := by decide +kernel
theorem dX9_coughedOf_41 : decode cX9_coughedOf 41 = .ok (.goto 4, 3) := by decide +kernel
theorem dX9_coughedOf_44 : decode cX9_coughedOf 44 = .ok (.iconst 0, 1) := by decide +kernel
theorem dX9_coughedOf_45 : decode cX9_coughedOf 45 = .ok (.ior, 1) := by decide +kernel
theorem dX9_coughedOf_46 : decode cX9_coughedOf 46 = .ok (.istore_n 2, 1) := by decide +kernel
theorem dX9_coughedOf_47 : decode cX9_coughedOf 47 = .ok (.aload_n 0, 1) := by decide +kernel
theorem dX9_coughedOf_48 : decode cX9_coughedOf 48 = .ok (.getfield 43, 3) := by decide +kernel
theorem dX9_coughedOf_51 : decode cX9_coughedOf 51 = .ok (.iload_n 3, 1) := by decide +kernel
theorem dX9_coughedOf_52 : decode cX9_coughedOf 52 = .ok (.iload 4, 2) := by decide +kernel
theorem dX9_coughedOf_54 : decode cX9_coughedOf 54 = .ok (.iastore, 1) := by decide +kernel
theorem dX9_coughedOf_55 : decode cX9_coughedOf 55 = .ok (.iinc 3 1, 3) := by decide +kernel
theorem dX9_coughedOf_58 : decode cX9_coughedOf 58 = .ok (.goto (-54), 3) := by decide +kernel
theorem dX9_coughedOf_61 : decode cX9_coughedOf 61 = .ok (.aload_n 0, 1) := by decide +kernel
theorem dX9_coughedOf_62 : decode cX9_coughedOf 62 = .ok (.iconst 0, 1) := by decide +kernel
theorem dX9_coughedOf_63 : decode cX9_coughedOf 63 = .ok (.bipush 39, 2) := by decide +kernel
theorem dX9_coughedOf_65 : decode cX9_coughedOf 65 = .ok (.invokevirtual 191, 3) := by decide +kernel
theorem dX9_coughedOf_68 : decode cX9_coughedOf 68 = .ok (.iload_n 2, 1) := by decide +kernel
theorem dX9_coughedOf_69 : decode cX9_coughedOf 69 = .ok (.ireturn, 1) := by decide +kernel
theorem dX9_coughed_0 : decode cX9_coughed 0 = .ok (.aload_n 0, 1) := by decide +kernel
theorem dX9_coughed_1 : decode cX9_coughed 1 = .ok (.invokevirtual 198, 3) := by decide +kernel
theorem dX9_coughed_4 : decode cX9_coughed 4 = .ok (.aload_n 0, 1) := by decide +kernel
theorem dX9_coughed_5 : decode cX9_coughed 5 = .ok (.iload_n 1, 1) := by decide +kernel
theorem dX9_coughed_6 : decode cX9_coughed 6 = .ok (.invokevirtual 135, 3) := by decide +kernel
theorem dX9_coughed_9 : decode cX9_coughed 9 = .ok (.ifCond .eq 11, 3) := by decide +kernel
theorem dX9_coughed_12 : decode cX9_coughed 12 = .ok (.aload_n 0, 1) := by decide +kernel
theorem dX9_coughed_13 : decode cX9_coughed 13 = .ok (.iload_n 1, 1) := by decide +kernel
theorem dX9_coughed_14 : decode cX9_coughed 14 = .ok (.invokevirtual 233, 3) := by decide +kernel
theorem dX9_coughed_17 : decode cX9_coughed 17 = .ok (.goto 5, 3) := by decide +kernel
theorem dX9_coughed_20 : decode cX9_coughed 20 = .ok (.bipush (-2), 2) := by decide +kernel
theorem dX9_coughed_22 : decode cX9_coughed 22 = .ok (.ireturn, 1) := by decide +kernel
theorem dX9_askOf_0 : decode cX9_askOf 0 = .ok (.aload_n 0, 1) := by decide +kernel
theorem dX9_askOf_1 : decode cX9_askOf 1 = .ok (.iload_n 1, 1) := by decide +kernel
theorem dX9_askOf_2 : decode cX9_askOf 2 = .ok (.invokevirtual 233, 3) := by decide +kernel
theorem dX9_askOf_5 : decode cX9_askOf 5 = .ok (.istore_n 2, 1) := by decide +kernel
theorem dX9_askOf_6 : decode cX9_askOf 6 = .ok (.iconst 0, 1) := by decide +kernel
theorem dX9_askOf_7 : decode cX9_askOf 7 = .ok (.istore_n 3, 1) := by decide +kernel
theorem dX9_askOf_8 : decode cX9_askOf 8 = .ok (.iload_n 3, 1) := by decide +kernel
theorem dX9_askOf_9 : decode cX9_askOf 9 = .ok (.sipush 360, 3) := by decide +kernel
theorem dX9_askOf_12 : decode cX9_askOf 12 = .ok (.if_icmp .ge 16, 3) := by decide +kernel
theorem dX9_askOf_15 : decode cX9_askOf 15 = .ok (.aload_n 0, 1) := by decide +kernel
theorem dX9_askOf_16 : decode cX9_askOf 16 = .ok (.getfield 58, 3) := by decide +kernel
theorem dX9_askOf_19 : decode cX9_askOf 19 = .ok (.iload_n 3, 1) := by decide +kernel
theorem dX9_askOf_20 : decode cX9_askOf 20 = .ok (.iconst 0, 1) := by decide +kernel
theorem dX9_askOf_21 : decode cX9_askOf 21 = .ok (.iastore, 1) := by decide +kernel
theorem dX9_askOf_22 : decode cX9_askOf 22 = .ok (.iinc 3 1, 3) := by decide +kernel
theorem dX9_askOf_25 : decode cX9_askOf 25 = .ok (.goto (-17), 3) := by decide +kernel
theorem dX9_askOf_28 : decode cX9_askOf 28 = .ok (.iconst 0, 1) := by decide +kernel
theorem dX9_askOf_29 : decode cX9_askOf 29 = .ok (.istore_n 3, 1) := by decide +kernel
theorem dX9_askOf_30 : decode cX9_askOf 30 = .ok (.iload_n 3, 1) := by decide +kernel
theorem dX9_askOf_31 : decode cX9_askOf 31 = .ok (.bipush 31, 2) := by decide +kernel
theorem dX9_askOf_33 : decode cX9_askOf 33 = .ok (.if_icmp .ge 92, 3) := by decide +kernel
theorem dX9_askOf_36 : decode cX9_askOf 36 = .ok (.iload_n 2, 1) := by decide +kernel
theorem dX9_askOf_37 : decode cX9_askOf 37 = .ok (.iload_n 3, 1) := by decide +kernel
theorem dX9_askOf_38 : decode cX9_askOf 38 = .ok (.invokestatic 174, 3) := by decide +kernel
theorem dX9_askOf_41 : decode cX9_askOf 41 = .ok (.ifCond .eq 78, 3) := by decide +kernel
theorem dX9_askOf_44 : decode cX9_askOf 44 = .ok (.aload_n 0, 1) := by decide +kernel
theorem dX9_askOf_45 : decode cX9_askOf 45 = .ok (.getfield 43, 3) := by decide +kernel
theorem dX9_askOf_48 : decode cX9_askOf 48 = .ok (.iload_n 3, 1) := by decide +kernel
theorem dX9_askOf_49 : decode cX9_askOf 49 = .ok (.iaload, 1) := by decide +kernel
theorem dX9_askOf_50 : decode cX9_askOf 50 = .ok (.istore 4, 2) := by decide +kernel
theorem dX9_askOf_52 : decode cX9_askOf 52 = .ok (.aload_n 0, 1) := by decide +kernel
theorem dX9_askOf_53 : decode cX9_askOf 53 = .ok (.getfield 43, 3) := by decide +kernel
theorem dX9_askOf_56 : decode cX9_askOf 56 = .ok (.iload_n 3, 1) := by decide +kernel
theorem dX9_askOf_57 : decode cX9_askOf 57 = .ok (.dup2, 1) := by decide +kernel
theorem dX9_askOf_58 : decode cX9_askOf 58 = .ok (.iaload, 1) := by decide +kernel
theorem dX9_askOf_59 : decode cX9_askOf 59 = .ok (.iconst 1, 1) := by decide +kernel
theorem dX9_askOf_60 : decode cX9_askOf 60 = .ok (.iload_n 1, 1) := by decide +kernel
theorem dX9_askOf_61 : decode cX9_askOf 61 = .ok (.ishl, 1) := by decide +kernel
theorem dX9_askOf_62 : decode cX9_askOf 62 = .ok (.ior, 1) := by decide +kernel
theorem dX9_askOf_63 : decode cX9_askOf 63 = .ok (.iastore, 1) := by decide +kernel
theorem dX9_askOf_64 : decode cX9_askOf 64 = .ok (.aload_n 0, 1) := by decide +kernel
theorem dX9_askOf_65 : decode cX9_askOf 65 = .ok (.iconst 0, 1) := by decide +kernel
theorem dX9_askOf_66 : decode cX9_askOf 66 = .ok (.bipush 39, 2) := by decide +kernel
theorem dX9_askOf_68 : decode cX9_askOf 68 = .ok (.invokevirtual 191, 3) := by decide +kernel
theorem dX9_askOf_71 : decode cX9_askOf 71 = .ok (.aload_n 0, 1) := by decide +kernel
theorem dX9_askOf_72 : decode cX9_askOf 72 = .ok (.getfield 43, 3) := by decide +kernel
theorem dX9_askOf_75 : decode cX9_askOf 75 = .ok (.iload_n 3, 1) := by decide +kernel
theorem dX9_askOf_76 : decode cX9_askOf 76 = .ok (.iload 4, 2) := by decide +kernel
theorem dX9_askOf_78 : decode cX9_askOf 78 = .ok (.iastore, 1) := by decide +kernel
theorem dX9_askOf_79 : decode cX9_askOf 79 = .ok (.iconst 0, 1) := by decide +kernel
theorem dX9_askOf_80 : decode cX9_askOf 80 = .ok (.istore 5, 2) := by decide +kernel
theorem dX9_askOf_82 : decode cX9_askOf 82 = .ok (.iload 5, 2) := by decide +kernel
theorem dX9_askOf_84 : decode cX9_askOf 84 = .ok (.bipush 40, 2) := by decide +kernel
theorem dX9_askOf_86 : decode cX9_askOf 86 = .ok (.if_icmp .ge 33, 3) := by decide +kernel
theorem dX9_askOf_89 : decode cX9_askOf 89 = .ok (.aload_n 0, 1) := by decide +kernel
theorem dX9_askOf_90 : decode cX9_askOf 90 = .ok (.getfield 58, 3) := by decide +kernel
theorem dX9_askOf_93 : decode cX9_askOf 93 = .ok (.bipush 9, 2) := by decide +kernel
theorem dX9_askOf_95 : decode cX9_askOf 95 = .ok (.iload 5, 2) := by decide +kernel
theorem dX9_askOf_97 : decode cX9_askOf 97 = .ok (.imul, 1) := by decide +kernel
theorem dX9_askOf_98 : decode cX9_askOf 98 = .ok (.aload_n 0, 1) := by decide +kernel
theorem dX9_askOf_99 : decode cX9_askOf 99 = .ok (.getfield 49, 3) := by decide +kernel
theorem dX9_askOf_102 : decode cX9_askOf 102 = .ok (.iload 5, 2) := by decide +kernel
theorem dX9_askOf_104 : decode cX9_askOf 104 = .ok (.iaload, 1) := by decide +kernel
theorem dX9_askOf_105 : decode cX9_askOf 105 = .ok (.iadd, 1) := by decide +kernel
theorem dX9_askOf_106 : decode cX9_askOf 106 = .ok (.iconst 1, 1) := by decide +kernel
theorem dX9_askOf_107 : decode cX9_askOf 107 = .ok (.iadd, 1) := by decide +kernel
theorem dX9_askOf_108 : decode cX9_askOf 108 = .ok (.dup2, 1) := by decide +kernel
theorem dX9_askOf_109 : decode cX9_askOf 109 = .ok (.iaload, 1) := by decide +kernel
theorem dX9_askOf_110 : decode cX9_askOf 110 = .ok (.iconst 1, 1) := by decide +kernel
theorem dX9_askOf_111 : decode cX9_askOf 111 = .ok (.iadd, 1) := by decide +kernel
theorem dX9_askOf_112 : decode cX9_askOf 112 = .ok (.iastore, 1) := by decide +kernel
theorem dX9_askOf_113 : decode cX9_askOf 113 = .ok (.iinc 5 1, 3) := by decide +kernel
theorem dX9_askOf_116 : decode cX9_askOf 116 = .ok (.goto (-34), 3) := by decide +kernel
theorem dX9_askOf_119 : decode cX9_askOf 119 = .ok (.iinc 3 1, 3) := by decide +kernel
theorem dX9_askOf_122 : decode cX9_askOf 122 = .ok (.goto (-92), 3) := by decide +kernel
theorem dX9_askOf_125 : decode cX9_askOf 125 = .ok (.aload_n 0, 1) := by decide +kernel
theorem dX9_askOf_126 : decode cX9_askOf 126 = .ok (.iconst 0, 1) := by decide +kernel
theorem dX9_askOf_127 : decode cX9_askOf 127 = .ok (.bipush 39, 2) := by decide +kernel
theorem dX9_askOf_129 : decode cX9_askOf 129 = .ok (.invokevirtual 191, 3) := by decide +kernel
theorem dX9_askOf_132 : decode cX9_askOf 132 = .ok (.iconst 0, 1) := by decide +kernel
theorem dX9_askOf_133 : decode cX9_askOf 133 = .ok (.istore_n 3, 1) := by decide +kernel
theorem dX9_askOf_134 : decode cX9_askOf 134 = .ok (.iconst (-1), 1) := by decide +kernel
theorem dX9_askOf_135 : decode cX9_askOf 135 = .ok (.istore 4, 2) := by decide +kernel
theorem dX9_askOf_137 : decode cX9_askOf 137 = .ok (.iconst 0, 1) := by decide +kernel
theorem dX9_askOf_138 : decode cX9_askOf 138 = .ok (.istore 5, 2) := by decide +kernel
theorem dX9_askOf_140 : decode cX9_askOf 140 = .ok (.iload 5, 2) := by decide +kernel
theorem dX9_askOf_142 : decode cX9_askOf 142 = .ok (.bipush 40, 2) := by decide +kernel
theorem dX9_askOf_144 : decode cX9_askOf 144 = .ok (.if_icmp .ge 112, 3) := by decide +kernel
theorem dX9_askOf_147 : decode cX9_askOf 147 = .ok (.iconst 0, 1) := by decide +kernel
theorem dX9_askOf_148 : decode cX9_askOf 148 = .ok (.istore 6, 2) := by decide +kernel
theorem dX9_askOf_150 : decode cX9_askOf 150 = .ok (.iconst 0, 1) := by decide +kernel
theorem dX9_askOf_151 : decode cX9_askOf 151 = .ok (.istore 7, 2) := by decide +kernel
theorem dX9_askOf_153 : decode cX9_askOf 153 = .ok (.iload 7, 2) := by decide +kernel
theorem dX9_askOf_155 : decode cX9_askOf 155 = .ok (.bipush 9, 2) := by decide +kernel
theorem dX9_askOf_157 : decode cX9_askOf 157 = .ok (.if_icmp .ge 47, 3) := by decide +kernel
theorem dX9_askOf_160 : decode cX9_askOf 160 = .ok (.aload_n 0, 1) := by decide +kernel
theorem dX9_askOf_161 : decode cX9_askOf 161 = .ok (.getfield 58, 3) := by decide +kernel
theorem dX9_askOf_164 : decode cX9_askOf 164 = .ok (.bipush 9, 2) := by decide +kernel
theorem dX9_askOf_166 : decode cX9_askOf 166 = .ok (.iload 5, 2) := by decide +kernel
theorem dX9_askOf_168 : decode cX9_askOf 168 = .ok (.imul, 1) := by decide +kernel
theorem dX9_askOf_169 : decode cX9_askOf 169 = .ok (.iload 7, 2) := by decide +kernel
theorem dX9_askOf_171 : decode cX9_askOf 171 = .ok (.iadd, 1) := by decide +kernel
theorem dX9_askOf_172 : decode cX9_askOf 172 = .ok (.iaload, 1) := by decide +kernel
theorem dX9_askOf_173 : decode cX9_askOf 173 = .ok (.iload 6, 2) := by decide +kernel
theorem dX9_askOf_175 : decode cX9_askOf 175 = .ok (.if_icmp .le 19, 3) := by decide +kernel
theorem dX9_askOf_178 : decode cX9_askOf 178 = .ok (.aload_n 0, 1) := by decide +kernel
theorem dX9_askOf_179 : decode cX9_askOf 179 = .ok (.getfield 58, 3) := by decide +kernel
theorem dX9_askOf_182 : decode cX9_askOf 182 = .ok (.bipush 9, 2) := by decide +kernel
theorem dX9_askOf_184 : decode cX9_askOf 184 = .ok (.iload 5, 2) := by decide +kernel
theorem dX9_askOf_186 : decode cX9_askOf 186 = .ok (.imul, 1) := by decide +kernel
theorem dX9_askOf_187 : decode cX9_askOf 187 = .ok (.iload 7, 2) := by decide +kernel
theorem dX9_askOf_189 : decode cX9_askOf 189 = .ok (.iadd, 1) := by decide +kernel
theorem dX9_askOf_190 : decode cX9_askOf 190 = .ok (.iaload, 1) := by decide +kernel
theorem dX9_askOf_191 : decode cX9_askOf 191 = .ok (.goto 5, 3) := by decide +kernel
theorem dX9_askOf_194 : decode cX9_askOf 194 = .ok (.iload 6, 2) := by decide +kernel
theorem dX9_askOf_196 : decode cX9_askOf 196 = .ok (.istore 6, 2) := by decide +kernel
theorem dX9_askOf_198 : decode cX9_askOf 198 = .ok (.iinc 7 1, 3) := by decide +kernel
theorem dX9_askOf_201 : decode cX9_askOf 201 = .ok (.goto (-48), 3) := by decide +kernel
theorem dX9_askOf_204 : decode cX9_askOf 204 = .ok (.iload 4, 2) := by decide +kernel
theorem dX9_askOf_206 : decode cX9_askOf 206 = .ok (.iconst (-1), 1) := by decide +kernel
theorem dX9_askOf_207 : decode cX9_askOf 207 = .ok (.if_icmp .eq 10, 3) := by decide +kernel
theorem dX9_askOf_210 : decode cX9_askOf 210 = .ok (.iload 6, 2) := by decide +kernel
theorem dX9_askOf_212 : decode cX9_askOf 212 = .ok (.iload 4, 2) := by decide +kernel
theorem dX9_askOf_214 : decode cX9_askOf 214 = .ok (.if_icmp .ge 7, 3) := by decide +kernel
theorem dX9_askOf_217 : decode cX9_askOf 217 = .ok (.iconst 1, 1) := by decide +kernel
theorem dX9_askOf_218 : decode cX9_askOf 218 = .ok (.goto 4, 3) := by decide +kernel
theorem dX9_askOf_221 : decode cX9_askOf 221 = .ok (.iconst 0, 1) := by decide +kernel
theorem dX9_askOf_222 : decode cX9_askOf 222 = .ok (.istore 7, 2) := by decide +kernel
theorem dX9_askOf_224 : decode cX9_askOf 224 = .ok (.iload 7, 2) := by decide +kernel
theorem dX9_askOf_226 : decode cX9_askOf 226 = .ok (.ifCond .eq 8, 3) := by decide +kernel
theorem dX9_askOf_229 : decode cX9_askOf 229 = .ok (.iload 5, 2) := by decide +kernel
theorem dX9_askOf_231 : decode cX9_askOf 231 = .ok (.goto 4, 3) := by decide +kernel
theorem dX9_askOf_234 : decode cX9_askOf 234 = .ok (.iload_n 3, 1) := by decide +kernel
theorem dX9_askOf_235 : decode cX9_askOf 235 = .ok (.istore_n 3, 1) := by decide +kernel
theorem dX9_askOf_236 : decode cX9_askOf 236 = .ok (.iload 7, 2) := by decide +kernel
theorem dX9_askOf_238 : decode cX9_askOf 238 = .ok (.ifCond .eq 8, 3) := by decide +kernel
theorem dX9_askOf_241 : decode cX9_askOf 241 = .ok (.iload 6, 2) := by decide +kernel
theorem dX9_askOf_243 : decode cX9_askOf 243 = .ok (.goto 5, 3) := by decide +kernel
theorem dX9_askOf_246 : decode cX9_askOf 246 = .ok (.iload 4, 2) := by decide +kernel
theorem dX9_askOf_248 : decode cX9_askOf 248 = .ok (.istore 4, 2) := by decide +kernel
theorem dX9_askOf_250 : decode cX9_askOf 250 = .ok (.iinc 5 1, 3) := by decide +kernel
theorem dX9_askOf_253 : decode cX9_askOf 253 = .ok (.goto (-113), 3) := by decide +kernel
theorem dX9_askOf_256 : decode cX9_askOf 256 = .ok (.iload_n 3, 1) := by decide +kernel
theorem dX9_askOf_257 : decode cX9_askOf 257 = .ok (.ireturn, 1) := by decide +kernel
theorem dX9_ask_0 : decode cX9_ask 0 = .ok (.aload_n 0, 1) := by decide +kernel
theorem dX9_ask_1 : decode cX9_ask 1 = .ok (.invokevirtual 198, 3) := by decide +kernel
theorem dX9_ask_4 : decode cX9_ask 4 = .ok (.aload_n 0, 1) := by decide +kernel
theorem dX9_ask_5 : decode cX9_ask 5 = .ok (.iload_n 1, 1) := by decide +kernel
theorem dX9_ask_6 : decode cX9_ask 6 = .ok (.invokevirtual 135, 3) := by decide +kernel
theorem dX9_ask_9 : decode cX9_ask 9 = .ok (.ifCond .eq 11, 3) := by decide +kernel
theorem dX9_ask_12 : decode cX9_ask 12 = .ok (.aload_n 0, 1) := by decide +kernel
theorem dX9_ask_13 : decode cX9_ask 13 = .ok (.iload_n 1, 1) := by decide +kernel
theorem dX9_ask_14 : decode cX9_ask 14 = .ok (.invokevirtual 236, 3) := by decide +kernel
theorem dX9_ask_17 : decode cX9_ask 17 = .ok (.goto 5, 3) := by decide +kernel
theorem dX9_ask_20 : decode cX9_ask 20 = .ok (.bipush (-2), 2) := by decide +kernel
theorem dX9_ask_22 : decode cX9_ask 22 = .ok (.ireturn, 1) := by decide +kernel
theorem dX9_slipsOf_0 : decode cX9_slipsOf 0 = .ok (.lconst 0, 1) := by decide +kernel
theorem dX9_slipsOf_1 : decode cX9_slipsOf 1 = .ok (.lstore 6, 2) := by decide +kernel
theorem dX9_slipsOf_3 : decode cX9_slipsOf 3 = .ok (.lconst 1, 1) := by decide +kernel
theorem dX9_slipsOf_4 : decode cX9_slipsOf 4 = .ok (.lstore 8, 2) := by decide +kernel
theorem dX9_slipsOf_6 : decode cX9_slipsOf 6 = .ok (.iconst 0, 1) := by decide +kernel
theorem dX9_slipsOf_7 : decode cX9_slipsOf 7 = .ok (.istore 10, 2) := by decide +kernel
theorem dX9_slipsOf_9 : decode cX9_slipsOf 9 = .ok (.iload 10, 2) := by decide +kernel
theorem dX9_slipsOf_11 : decode cX9_slipsOf 11 = .ok (.iload 4, 2) := by decide +kernel
theorem dX9_slipsOf_13 : decode cX9_slipsOf 13 = .ok (.if_icmp .ge 17, 3) := by decide +kernel
theorem dX9_slipsOf_16 : decode cX9_slipsOf 16 = .ok (.lload 8, 2) := by decide +kernel
theorem dX9_slipsOf_18 : decode cX9_slipsOf 18 = .ok (.ldc2_w 239, 3) := by decide +kernel
theorem dX9_slipsOf_21 : decode cX9_slipsOf 21 = .ok (.lmul, 1) := by decide +kernel
theorem dX9_slipsOf_22 : decode cX9_slipsOf 22 = .ok (.lstore 8, 2) := by decide +kernel
theorem dX9_slipsOf_24 : decode cX9_slipsOf 24 = .ok (.iinc 10 1, 3) := by decide +kernel
theorem dX9_slipsOf_27 : decode cX9_slipsOf 27 = .ok (.goto (-18), 3) := by decide +kernel
theorem dX9_slipsOf_30 : decode cX9_slipsOf 30 = .ok (.iconst 0, 1) := by decide +kernel
theorem dX9_slipsOf_31 : decode cX9_slipsOf 31 = .ok (.istore 10, 2) := by decide +kernel
theorem dX9_slipsOf_33 : decode cX9_slipsOf 33 = .ok (.iload 10, 2) := by decide +kernel
theorem dX9_slipsOf_35 : decode cX9_slipsOf 35 = .ok (.iconst 1, 1) := by decide +kernel
theorem dX9_slipsOf_36 : decode cX9_slipsOf 36 = .ok (.iload 4, 2) := by decide +kernel
theorem dX9_slipsOf_38 : decode cX9_slipsOf 38 = .ok (.ishl, 1) := by decide +kernel
theorem dX9_slipsOf_39 : decode cX9_slipsOf 39 = .ok (.if_icmp .ge 121, 3) := by decide +kernel
theorem dX9_slipsOf_42 : decode cX9_slipsOf 42 = .ok (.lconst 1, 1) := by decide +kernel
theorem dX9_slipsOf_43 : decode cX9_slipsOf 43 = .ok (.lstore 11, 2) := by decide +kernel
theorem dX9_slipsOf_45 : decode cX9_slipsOf 45 = .ok (.iconst 1, 1) := by decide +kernel
theorem dX9_slipsOf_46 : decode cX9_slipsOf 46 = .ok (.istore 13, 2) := by decide +kernel
theorem dX9_slipsOf_48 : decode cX9_slipsOf 48 = .ok (.iload 13, 2) := by decide +kernel
theorem dX9_slipsOf_50 : decode cX9_slipsOf 50 = .ok (.iload 4, 2) := by decide +kernel
theorem dX9_slipsOf_52 : decode cX9_slipsOf 52 = .ok (.if_icmp .gt 73, 3) := by decide +kernel
theorem dX9_slipsOf_55 : decode cX9_slipsOf 55 = .ok (.iload 10, 2) := by decide +kernel
theorem dX9_slipsOf_57 : decode cX9_slipsOf 57 = .ok (.iload 13, 2) := by decide +kernel
theorem dX9_slipsOf_59 : decode cX9_slipsOf 59 = .ok (.iconst 1, 1) := by decide +kernel
theorem dX9_slipsOf_60 : decode cX9_slipsOf 60 = .ok (.isub, 1) := by decide +kernel
theorem dX9_slipsOf_61 : decode cX9_slipsOf 61 = .ok (.invokestatic 174, 3) := by decide +kernel
theorem dX9_slipsOf_64 : decode cX9_slipsOf 64 = .ok (.istore 14, 2) := by decide +kernel
theorem dX9_slipsOf_66 : decode cX9_slipsOf 66 = .ok (.lload 11, 2) := by decide +kernel
theorem dX9_slipsOf_68 : decode cX9_slipsOf 68 = .ok (.iload 14, 2) := by decide +kernel
theorem dX9_slipsOf_70 : decode cX9_slipsOf 70 = .ok (.ifCond .eq 8, 3) := by decide +kernel
theorem dX9_slipsOf_73 : decode cX9_slipsOf 73 = .ok (.iload_n 1, 1) := by decide +kernel
theorem dX9_slipsOf_74 : decode cX9_slipsOf 74 = .ok (.i2l, 1) := by decide +kernel
theorem dX9_slipsOf_75 : decode cX9_slipsOf 75 = .ok (.goto 8, 3) := by decide +kernel
theorem dX9_slipsOf_78 : decode cX9_slipsOf 78 = .ok (.bipush 16, 2) := by decide +kernel
theorem dX9_slipsOf_80 : decode cX9_slipsOf 80 = .ok (.iload_n 1, 1) := by decide +kernel
theorem dX9_slipsOf_81 : decode cX9_slipsOf 81 = .ok (.isub, 1) := by decide +kernel
theorem dX9_slipsOf_82 : decode cX9_slipsOf 82 = .ok (.i2l, 1) := by decide +kernel
theorem dX9_slipsOf_83 : decode cX9_slipsOf 83 = .ok (.lmul, 1) := by decide +kernel
theorem dX9_slipsOf_84 : decode cX9_slipsOf 84 = .ok (.lstore 11, 2) := by decide +kernel
theorem dX9_slipsOf_86 : decode cX9_slipsOf 86 = .ok (.aload_n 0, 1) := by decide +kernel
theorem dX9_slipsOf_87 : decode cX9_slipsOf 87 = .ok (.getfield 43, 3) := by decide +kernel
theorem dX9_slipsOf_90 : decode cX9_slipsOf 90 = .ok (.iload 13, 2) := by decide +kernel
theorem dX9_slipsOf_92 : decode cX9_slipsOf 92 = .ok (.aload_n 0, 1) := by decide +kernel
theorem dX9_slipsOf_93 : decode cX9_slipsOf 93 = .ok (.getfield 43, 3) := by decide +kernel
theorem dX9_slipsOf_96 : decode cX9_slipsOf 96 = .ok (.iload 13, 2) := by decide +kernel
theorem dX9_slipsOf_98 : decode cX9_slipsOf 98 = .ok (.iaload, 1) := by decide +kernel
theorem dX9_slipsOf_99 : decode cX9_slipsOf 99 = .ok (.iconst 1, 1) := by decide +kernel
theorem dX9_slipsOf_100 : decode cX9_slipsOf 100 = .ok (.iload_n 2, 1) := by decide +kernel
theorem dX9_slipsOf_101 : decode cX9_slipsOf 101 = .ok (.ishl, 1) := by decide +kernel
theorem dX9_slipsOf_102 : decode cX9_slipsOf 102 = .ok (.iconst (-1), 1) := by decide +kernel
theorem dX9_slipsOf_103 : decode cX9_slipsOf 103 = .ok (.ixor, 1) := by decide +kernel
theorem dX9_slipsOf_104 : decode cX9_slipsOf 104 = .ok (.iand, 1) := by decide +kernel
theorem dX9_slipsOf_105 : decode cX9_slipsOf 105 = .ok (.iload 14, 2) := by decide +kernel
theorem dX9_slipsOf_107 : decode cX9_slipsOf 107 = .ok (.ifCond .eq 9, 3) := by decide +kernel
theorem dX9_slipsOf_110 : decode cX9_slipsOf 110 = .ok (.iconst 1, 1) := by decide +kernel
theorem dX9_slipsOf_111 : decode cX9_slipsOf 111 = .ok (.iload_n 2, 1) := by decide +kernel
theorem dX9_slipsOf_112 : decode cX9_slipsOf 112 = .ok (.ishl, 1) := by decide +kernel
theorem dX9_slipsOf_113 : decode cX9_slipsOf 113 = .ok (.goto 4, 3) := by decide +kernel
theorem dX9_slipsOf_116 : decode cX9_slipsOf 116 = .ok (.iconst 0, 1) := by decide +kernel
theorem dX9_slipsOf_117 : decode cX9_slipsOf 117 = .ok (.ior, 1) := by decide +kernel
theorem dX9_slipsOf_118 : decode cX9_slipsOf 118 = .ok (.iastore, 1) := by decide +kernel
theorem dX9_slipsOf_119 : decode cX9_slipsOf 119 = .ok (.iinc 13 1, 3) := by decide +kernel
theorem dX9_slipsOf_122 : decode cX9_slipsOf 122 = .ok (.goto (-74), 3) := by decide +kernel
theorem dX9_slipsOf_125 : decode cX9_slipsOf 125 = .ok (.aload_n 0, 1) := by decide +kernel
theorem dX9_slipsOf_126 : decode cX9_slipsOf 126 = .ok (.iconst 0, 1) := by decide +kernel
theorem dX9_slipsOf_127 : decode cX9_slipsOf 127 = .ok (.iload 4, 2) := by decide +kernel
theorem dX9_slipsOf_129 : decode cX9_slipsOf 129 = .ok (.invokevirtual 191, 3) := by decide +kernel
theorem dX9_slipsOf_132 : decode cX9_slipsOf 132 = .ok (.lload 6, 2) := by decide +kernel
theorem dX9_slipsOf_134 : decode cX9_slipsOf 134 = .ok (.aload_n 0, 1) := by decide +kernel
theorem dX9_slipsOf_135 : decode cX9_slipsOf 135 = .ok (.getfield 49, 3) := by decide +kernel
theorem dX9_slipsOf_138 : decode cX9_slipsOf 138 = .ok (.iload 4, 2) := by decide +kernel
theorem dX9_slipsOf_140 : decode cX9_slipsOf 140 = .ok (.iaload, 1) := by decide +kernel
theorem dX9_slipsOf_141 : decode cX9_slipsOf 141 = .ok (.iload_n 3, 1) := by decide +kernel
theorem dX9_slipsOf_142 : decode cX9_slipsOf 142 = .ok (.if_icmp .ne 8, 3) := by decide +kernel
theorem dX9_slipsOf_145 : decode cX9_slipsOf 145 = .ok (.lload 11, 2) := by decide +kernel
theorem dX9_slipsOf_147 : decode cX9_slipsOf 147 = .ok (.goto 4, 3) := by decide +kernel
theorem dX9_slipsOf_150 : decode cX9_slipsOf 150 = .ok (.lconst 0, 1) := by decide +kernel
theorem dX9_slipsOf_151 : decode cX9_slipsOf 151 = .ok (.ladd, 1) := by decide +kernel
theorem dX9_slipsOf_152 : decode cX9_slipsOf 152 = .ok (.lstore 6, 2) := by decide +kernel
theorem dX9_slipsOf_154 : decode cX9_slipsOf 154 = .ok (.iinc 10 1, 3) := by decide +kernel
theorem dX9_slipsOf_157 : decode cX9_slipsOf 157 = .ok (.goto (-124), 3) := by decide +kernel
theorem dX9_slipsOf_160 : decode cX9_slipsOf 160 = .ok (.aload_n 0, 1) := by decide +kernel
theorem dX9_slipsOf_161 : decode cX9_slipsOf 161 = .ok (.invokevirtual 198, 3) := by decide +kernel
theorem dX9_slipsOf_164 : decode cX9_slipsOf 164 = .ok (.lload 6, 2) := by decide +kernel
theorem dX9_slipsOf_166 : decode cX9_slipsOf 166 = .ok (.lload 8, 2) := by decide +kernel
theorem dX9_slipsOf_168 : decode cX9_slipsOf 168 = .ok (.iload 5, 2) := by decide +kernel
theorem dX9_slipsOf_170 : decode cX9_slipsOf 170 = .ok (.invokestatic 241, 3) := by decide +kernel
theorem dX9_slipsOf_173 : decode cX9_slipsOf 173 = .ok (.lreturn, 1) := by decide +kernel
theorem dX9_slips_0 : decode cX9_slips 0 = .ok (.aload_n 0, 1) := by decide +kernel
theorem dX9_slips_1 : decode cX9_slips 1 = .ok (.invokevirtual 198, 3) := by decide +kernel
theorem dX9_slips_4 : decode cX9_slips 4 = .ok (.iload_n 1, 1) := by decide +kernel
theorem dX9_slips_5 : decode cX9_slips 5 = .ok (.i2l, 1) := by decide +kernel
theorem dX9_slips_6 : decode cX9_slips 6 = .ok (.lconst 0, 1) := by decide +kernel
theorem dX9_slips_7 : decode cX9_slips 7 = .ok (.ldc2_w 239, 3) := by decide +kernel
theorem dX9_slips_10 : decode cX9_slips 10 = .ok (.invokestatic 70, 3) := by decide +kernel
theorem dX9_slips_13 : decode cX9_slips 13 = .ok (.ifCond .eq 43, 3) := by decide +kernel
theorem dX9_slips_16 : decode cX9_slips 16 = .ok (.aload_n 0, 1) := by decide +kernel
theorem dX9_slips_17 : decode cX9_slips 17 = .ok (.iload_n 2, 1) := by decide +kernel
theorem dX9_slips_18 : decode cX9_slips 18 = .ok (.invokevirtual 135, 3) := by decide +kernel
theorem dX9_slips_21 : decode cX9_slips 21 = .ok (.ifCond .eq 35, 3) := by decide +kernel
theorem dX9_slips_24 : decode cX9_slips 24 = .ok (.iload_n 3, 1) := by decide +kernel
theorem dX9_slips_25 : decode cX9_slips 25 = .ok (.invokestatic 138, 3) := by decide +kernel
theorem dX9_slips_28 : decode cX9_slips 28 = .ok (.ifCond .eq 28, 3) := by decide +kernel
theorem dX9_slips_31 : decode cX9_slips 31 = .ok (.iload 4, 2) := by decide +kernel
theorem dX9_slips_33 : decode cX9_slips 33 = .ok (.i2l, 1) := by decide +kernel
theorem dX9_slips_34 : decode cX9_slips 34 = .ok (.lconst 1, 1) := by decide +kernel
theorem dX9_slips_35 : decode cX9_slips 35 = .ok (.ldc2_w 147, 3) := by decide +kernel
theorem dX9_slips_38 : decode cX9_slips 38 = .ok (.invokestatic 70, 3) := by decide +kernel
theorem dX9_slips_41 : decode cX9_slips 41 = .ok (.ifCond .eq 15, 3) := by decide +kernel
theorem dX9_slips_44 : decode cX9_slips 44 = .ok (.iload 5, 2) := by decide +kernel
theorem dX9_slips_46 : decode cX9_slips 46 = .ok (.invokestatic 98, 3) := by decide +kernel
theorem dX9_slips_49 : decode cX9_slips 49 = .ok (.ifCond .eq 7, 3) := by decide +kernel
theorem dX9_slips_52 : decode cX9_slips 52 = .ok (.iconst 1, 1) := by decide +kernel
theorem dX9_slips_53 : decode cX9_slips 53 = .ok (.goto 4, 3) := by decide +kernel
theorem dX9_slips_56 : decode cX9_slips 56 = .ok (.iconst 0, 1) := by decide +kernel
theorem dX9_slips_57 : decode cX9_slips 57 = .ok (.istore 6, 2) := by decide +kernel
theorem dX9_slips_59 : decode cX9_slips 59 = .ok (.iload 6, 2) := by decide +kernel
theorem dX9_slips_61 : decode cX9_slips 61 = .ok (.ifCond .eq 17, 3) := by decide +kernel
theorem dX9_slips_64 : decode cX9_slips 64 = .ok (.aload_n 0, 1) := by decide +kernel
theorem dX9_slips_65 : decode cX9_slips 65 = .ok (.iload_n 1, 1) := by decide +kernel
theorem dX9_slips_66 : decode cX9_slips 66 = .ok (.iload_n 2, 1) := by decide +kernel
theorem dX9_slips_67 : decode cX9_slips 67 = .ok (.iload_n 3, 1) := by decide +kernel
theorem dX9_slips_68 : decode cX9_slips 68 = .ok (.iload 4, 2) := by decide +kernel
theorem dX9_slips_70 : decode cX9_slips 70 = .ok (.iload 5, 2) := by decide +kernel
theorem dX9_slips_72 : decode cX9_slips 72 = .ok (.invokevirtual 245, 3) := by decide +kernel
theorem dX9_slips_75 : decode cX9_slips 75 = .ok (.goto 8, 3) := by decide +kernel
theorem dX9_slips_78 : decode cX9_slips 78 = .ok (.bipush (-2), 2) := by decide +kernel
theorem dX9_slips_80 : decode cX9_slips 80 = .ok (.invokestatic 249, 3) := by decide +kernel
theorem dX9_slips_83 : decode cX9_slips 83 = .ok (.lreturn, 1) := by decide +kernel
theorem dX9_lot_0 : decode cX9_lot 0 = .ok (.aload_n 0, 1) := by decide +kernel
theorem dX9_lot_1 : decode cX9_lot 1 = .ok (.ldc 253, 2) := by decide +kernel
theorem dX9_lot_3 : decode cX9_lot 3 = .ok (.aload_n 0, 1) := by decide +kernel
theorem dX9_lot_4 : decode cX9_lot 4 = .ok (.getfield 254, 3) := by decide +kernel
theorem dX9_lot_7 : decode cX9_lot 7 = .ok (.imul, 1) := by decide +kernel
theorem dX9_lot_8 : decode cX9_lot 8 = .ok (.sipush 12345, 3) := by decide +kernel
theorem dX9_lot_11 : decode cX9_lot 11 = .ok (.iadd, 1) := by decide +kernel
theorem dX9_lot_12 : decode cX9_lot 12 = .ok (.putfield 254, 3) := by decide +kernel
theorem dX9_lot_15 : decode cX9_lot 15 = .ok (.aload_n 0, 1) := by decide +kernel
theorem dX9_lot_16 : decode cX9_lot 16 = .ok (.getfield 254, 3) := by decide +kernel
theorem dX9_lot_19 : decode cX9_lot 19 = .ok (.bipush 16, 2) := by decide +kernel
theorem dX9_lot_21 : decode cX9_lot 21 = .ok (.iushr, 1) := by decide +kernel
theorem dX9_lot_22 : decode cX9_lot 22 = .ok (.iload_n 1, 1) := by decide +kernel
theorem dX9_lot_23 : decode cX9_lot 23 = .ok (.irem, 1) := by decide +kernel
theorem dX9_lot_24 : decode cX9_lot 24 = .ok (.ireturn, 1) := by decide +kernel
theorem dX9_eveningOf_0 : decode cX9_eveningOf 0 = .ok (.aload_n 0, 1) := by decide +kernel
theorem dX9_eveningOf_1 : decode cX9_eveningOf 1 = .ok (.iload_n 1, 1) := by decide +kernel
theorem dX9_eveningOf_2 : decode cX9_eveningOf 2 = .ok (.putfield 254, 3) := by decide +kernel
theorem dX9_eveningOf_5 : decode cX9_eveningOf 5 = .ok (.iconst 1, 1) := by decide +kernel
theorem dX9_eveningOf_6 : decode cX9_eveningOf 6 = .ok (.istore 4, 2) := by decide +kernel
theorem dX9_eveningOf_8 : decode cX9_eveningOf 8 = .ok (.iload 4, 2) := by decide +kernel
theorem dX9_eveningOf_10 : decode cX9_eveningOf 10 = .ok (.iload_n 2, 1) := by decide +kernel
theorem dX9_eveningOf_11 : decode cX9_eveningOf 11 = .ok (.if_icmp .gt 52, 3) := by decide +kernel
theorem dX9_eveningOf_14 : decode cX9_eveningOf 14 = .ok (.aload_n 0, 1) := by decide +kernel
theorem dX9_eveningOf_15 : decode cX9_eveningOf 15 = .ok (.getfield 113, 3) := by decide +kernel
theorem dX9_eveningOf_18 : decode cX9_eveningOf 18 = .ok (.ifCond .le 45, 3) := by decide +kernel
theorem dX9_eveningOf_21 : decode cX9_eveningOf 21 = .ok (.aload_n 0, 1) := by decide +kernel
theorem dX9_eveningOf_22 : decode cX9_eveningOf 22 = .ok (.aload_n 0, 1) := by decide +kernel
theorem dX9_eveningOf_23 : decode cX9_eveningOf 23 = .ok (.getfield 113, 3) := by decide +kernel
theorem dX9_eveningOf_26 : decode cX9_eveningOf 26 = .ok (.invokevirtual 257, 3) := by decide +kernel
theorem dX9_eveningOf_29 : decode cX9_eveningOf 29 = .ok (.istore 5, 2) := by decide +kernel
theorem dX9_eveningOf_31 : decode cX9_eveningOf 31 = .ok (.aload_n 0, 1) := by decide +kernel
theorem dX9_eveningOf_32 : decode cX9_eveningOf 32 = .ok (.getfield 43, 3) := by decide +kernel
theorem dX9_eveningOf_35 : decode cX9_eveningOf 35 = .ok (.iload 4, 2) := by decide +kernel
theorem dX9_eveningOf_37 : decode cX9_eveningOf 37 = .ok (.dup2, 1) := by decide +kernel
theorem dX9_eveningOf_38 : decode cX9_eveningOf 38 = .ok (.iaload, 1) := by decide +kernel
theorem dX9_eveningOf_39 : decode cX9_eveningOf 39 = .ok (.aload_n 0, 1) := by decide +kernel
theorem dX9_eveningOf_40 : decode cX9_eveningOf 40 = .ok (.iconst 4, 1) := by decide +kernel
theorem dX9_eveningOf_41 : decode cX9_eveningOf 41 = .ok (.invokevirtual 257, 3) := by decide +kernel
theorem dX9_eveningOf_44 : decode cX9_eveningOf 44 = .ok (.ifCond .ne 10, 3) := by decide +kernel
theorem dX9_eveningOf_47 : decode cX9_eveningOf 47 = .ok (.iconst 1, 1) := by decide +kernel
theorem dX9_eveningOf_48 : decode cX9_eveningOf 48 = .ok (.iload 5, 2) := by decide +kernel
theorem dX9_eveningOf_50 : decode cX9_eveningOf 50 = .ok (.ishl, 1) := by decide +kernel
theorem dX9_eveningOf_51 : decode cX9_eveningOf 51 = .ok (.goto 4, 3) := by decide +kernel
theorem dX9_eveningOf_54 : decode cX9_eveningOf 54 = .ok (.iconst 0, 1) := by decide +kernel
theorem dX9_eveningOf_55 : decode cX9_eveningOf 55 = .ok (.ior, 1) := by decide +kernel
theorem dX9_eveningOf_56 : decode cX9_eveningOf 56 = .ok (.iastore, 1) := by decide +kernel
theorem dX9_eveningOf_57 : decode cX9_eveningOf 57 = .ok (.iinc 4 1, 3) := by decide +kernel
theorem dX9_eveningOf_60 : decode cX9_eveningOf 60 = .ok (.goto (-52), 3) := by decide +kernel
theorem dX9_eveningOf_63 : decode cX9_eveningOf 63 = .ok (.aload_n 0, 1) := by decide +kernel
theorem dX9_eveningOf_64 : decode cX9_eveningOf 64 = .ok (.iconst 0, 1) := by decide +kernel
theorem dX9_eveningOf_65 : decode cX9_eveningOf 65 = .ok (.iload_n 2, 1) := by decide +kernel
theorem dX9_eveningOf_66 : decode cX9_eveningOf 66 = .ok (.invokevirtual 191, 3) := by decide +kernel
theorem dX9_eveningOf_69 : decode cX9_eveningOf 69 = .ok (.iload_n 3, 1) := by decide +kernel
theorem dX9_eveningOf_70 : decode cX9_eveningOf 70 = .ok (.ifCond .ne 12, 3) := by decide +kernel
theorem dX9_eveningOf_73 : decode cX9_eveningOf 73 = .ok (.aload_n 0, 1) := by decide +kernel
theorem dX9_eveningOf_74 : decode cX9_eveningOf 74 = .ok (.getfield 49, 3) := by decide +kernel
theorem dX9_eveningOf_77 : decode cX9_eveningOf 77 = .ok (.iload_n 2, 1) := by decide +kernel
theorem dX9_eveningOf_78 : decode cX9_eveningOf 78 = .ok (.iaload, 1) := by decide +kernel
theorem dX9_eveningOf_79 : decode cX9_eveningOf 79 = .ok (.goto 8, 3) := by decide +kernel
theorem dX9_eveningOf_82 : decode cX9_eveningOf 82 = .ok (.aload_n 0, 1) := by decide +kernel
theorem dX9_eveningOf_83 : decode cX9_eveningOf 83 = .ok (.iload_n 2, 1) := by decide +kernel
theorem dX9_eveningOf_84 : decode cX9_eveningOf 84 = .ok (.invokevirtual 204, 3) := by decide +kernel
theorem dX9_eveningOf_87 : decode cX9_eveningOf 87 = .ok (.istore 4, 2) := by decide +kernel
theorem dX9_eveningOf_89 : decode cX9_eveningOf 89 = .ok (.aload_n 0, 1) := by decide +kernel
theorem dX9_eveningOf_90 : decode cX9_eveningOf 90 = .ok (.invokevirtual 198, 3) := by decide +kernel
theorem dX9_eveningOf_93 : decode cX9_eveningOf 93 = .ok (.iload 4, 2) := by decide +kernel
theorem dX9_eveningOf_95 : decode cX9_eveningOf 95 = .ok (.ireturn, 1) := by decide +kernel
theorem dX9_evening_0 : decode cX9_evening 0 = .ok (.aload_n 0, 1) := by decide +kernel
theorem dX9_evening_1 : decode cX9_evening 1 = .ok (.invokevirtual 198, 3) := by decide +kernel
theorem dX9_evening_4 : decode cX9_evening 4 = .ok (.iload_n 2, 1) := by decide +kernel
theorem dX9_evening_5 : decode cX9_evening 5 = .ok (.invokestatic 144, 3) := by decide +kernel
theorem dX9_evening_8 : decode cX9_evening 8 = .ok (.ifCond .eq 20, 3) := by decide +kernel
theorem dX9_evening_11 : decode cX9_evening 11 = .ok (.iload_n 3, 1) := by decide +kernel
theorem dX9_evening_12 : decode cX9_evening 12 = .ok (.invokestatic 98, 3) := by decide +kernel
theorem dX9_evening_15 : decode cX9_evening 15 = .ok (.ifCond .eq 13, 3) := by decide +kernel
theorem dX9_evening_18 : decode cX9_evening 18 = .ok (.aload_n 0, 1) := by decide +kernel
theorem dX9_evening_19 : decode cX9_evening 19 = .ok (.iload_n 1, 1) := by decide +kernel
theorem dX9_evening_20 : decode cX9_evening 20 = .ok (.iload_n 2, 1) := by decide +kernel
theorem dX9_evening_21 : decode cX9_evening 21 = .ok (.iload_n 3, 1) := by decide +kernel
theorem dX9_evening_22 : decode cX9_evening 22 = .ok (.invokevirtual 260, 3) := by decide +kernel
theorem dX9_evening_25 : decode cX9_evening 25 = .ok (.goto 5, 3) := by decide +kernel
theorem dX9_evening_28 : decode cX9_evening 28 = .ok (.bipush (-2), 2) := by decide +kernel
theorem dX9_evening_30 : decode cX9_evening 30 = .ok (.ireturn, 1) := by decide +kernel
theorem dX9_write_0 : decode cX9_write 0 = .ok (.iload_n 1, 1) := by decide +kernel
theorem dX9_write_1 : decode cX9_write 1 = .ok (.invokestatic 98, 3) := by decide +kernel
theorem dX9_write_4 : decode cX9_write 4 = .ok (.ifCond .eq 10, 3) := by decide +kernel
theorem dX9_write_7 : decode cX9_write 7 = .ok (.iload_n 2, 1) := by decide +kernel
theorem dX9_write_8 : decode cX9_write 8 = .ok (.invokestatic 79, 3) := by decide +kernel
theorem dX9_write_11 : decode cX9_write 11 = .ok (.ifCond .ne 6, 3) := by decide +kernel
theorem dX9_write_14 : decode cX9_write 14 = .ok (.bipush (-2), 2) := by decide +kernel
theorem dX9_write_16 : decode cX9_write 16 = .ok (.ireturn, 1) := by decide +kernel
theorem dX9_write_17 : decode cX9_write 17 = .ok (.aload_n 0, 1) := by decide +kernel
theorem dX9_write_18 : decode cX9_write 18 = .ok (.getfield 7, 3) := by decide +kernel
theorem dX9_write_21 : decode cX9_write 21 = .ok (.iload_n 2, 1) := by decide +kernel
theorem dX9_write_22 : decode cX9_write 22 = .ok (.iaload, 1) := by decide +kernel
theorem dX9_write_23 : decode cX9_write 23 = .ok (.ifCond .ge 9, 3) := by decide +kernel
theorem dX9_write_26 : decode cX9_write 26 = .ok (.aload_n 0, 1) := by decide +kernel
theorem dX9_write_27 : decode cX9_write 27 = .ok (.iconst 1, 1) := by decide +kernel
theorem dX9_write_28 : decode cX9_write 28 = .ok (.invokevirtual 85, 3) := by decide +kernel
theorem dX9_write_31 : decode cX9_write 31 = .ok (.ireturn, 1) := by decide +kernel
theorem dX9_write_32 : decode cX9_write 32 = .ok (.aload_n 0, 1) := by decide +kernel
theorem dX9_write_33 : decode cX9_write 33 = .ok (.invokevirtual 198, 3) := by decide +kernel
theorem dX9_write_36 : decode cX9_write 36 = .ok (.aload_n 0, 1) := by decide +kernel
theorem dX9_write_37 : decode cX9_write 37 = .ok (.getfield 13, 3) := by decide +kernel
theorem dX9_write_40 : decode cX9_write 40 = .ok (.iload_n 2, 1) := by decide +kernel
theorem dX9_write_41 : decode cX9_write 41 = .ok (.iaload, 1) := by decide +kernel
theorem dX9_write_42 : decode cX9_write 42 = .ok (.bipush 40, 2) := by decide +kernel
theorem dX9_write_44 : decode cX9_write 44 = .ok (.invokestatic 263, 3) := by decide +kernel
theorem dX9_write_47 : decode cX9_write 47 = .ok (.istore_n 3, 1) := by decide +kernel
theorem dX9_write_48 : decode cX9_write 48 = .ok (.iconst 0, 1) := by decide +kernel
theorem dX9_write_49 : decode cX9_write 49 = .ok (.istore 4, 2) := by decide +kernel
theorem dX9_write_51 : decode cX9_write 51 = .ok (.iload 4, 2) := by decide +kernel
theorem dX9_write_53 : decode cX9_write 53 = .ok (.iload_n 3, 1) := by decide +kernel
theorem dX9_write_54 : decode cX9_write 54 = .ok (.if_icmp .ge 37, 3) := by decide +kernel
theorem dX9_write_57 : decode cX9_write 57 = .ok (.aload_n 0, 1) := by decide +kernel
theorem dX9_write_58 : decode cX9_write 58 = .ok (.getfield 16, 3) := by decide +kernel
theorem dX9_write_61 : decode cX9_write 61 = .ok (.bipush 60, 2) := by decide +kernel
theorem dX9_write_63 : decode cX9_write 63 = .ok (.iload_n 2, 1) := by decide +kernel
theorem dX9_write_64 : decode cX9_write 64 = .ok (.imul, 1) := by decide +kernel
theorem dX9_write_65 : decode cX9_write 65 = .ok (.iload 4, 2) := by decide +kernel
theorem dX9_write_67 : decode cX9_write 67 = .ok (.iadd, 1) := by decide +kernel
theorem dX9_write_68 : decode cX9_write 68 = .ok (.aload_n 0, 1) := by decide +kernel
theorem dX9_write_69 : decode cX9_write 69 = .ok (.getfield 7, 3) := by decide +kernel
theorem dX9_write_72 : decode cX9_write 72 = .ok (.iload_n 2, 1) := by decide +kernel
theorem dX9_write_73 : decode cX9_write 73 = .ok (.iaload, 1) := by decide +kernel
theorem dX9_write_74 : decode cX9_write 74 = .ok (.aload_n 0, 1) := by decide +kernel
theorem dX9_write_75 : decode cX9_write 75 = .ok (.iload 4, 2) := by decide +kernel
theorem dX9_write_77 : decode cX9_write 77 = .ok (.iload_n 1, 1) := by decide +kernel
theorem dX9_write_78 : decode cX9_write 78 = .ok (.invokevirtual 201, 3) := by decide +kernel
theorem dX9_write_81 : decode cX9_write 81 = .ok (.invokestatic 93, 3) := by decide +kernel
theorem dX9_write_84 : decode cX9_write 84 = .ok (.iastore, 1) := by decide +kernel
theorem dX9_write_85 : decode cX9_write 85 = .ok (.iinc 4 1, 3) := by decide +kernel
theorem dX9_write_88 : decode cX9_write 88 = .ok (.goto (-37), 3) := by decide +kernel
theorem dX9_write_91 : decode cX9_write 91 = .ok (.iload_n 3, 1) := by decide +kernel
theorem dX9_write_92 : decode cX9_write 92 = .ok (.ireturn, 1) := by decide +kernel
theorem dX9_count_0 : decode cX9_count 0 = .ok (.aload_n 0, 1) := by decide +kernel
theorem dX9_count_1 : decode cX9_count 1 = .ok (.invokevirtual 130, 3) := by decide +kernel
theorem dX9_count_4 : decode cX9_count 4 = .ok (.iload_n 1, 1) := by decide +kernel
theorem dX9_count_5 : decode cX9_count 5 = .ok (.tableswitch 95 0 8 #[51, 56, 61, 61, 70, 75, 80, 85, 90], 51) := by decide +kernel
theorem dX9_count_56 : decode cX9_count 56 = .ok (.aload_n 0, 1) := by decide +kernel
theorem dX9_count_57 : decode cX9_count 57 = .ok (.getfield 103, 3) := by decide +kernel
theorem dX9_count_60 : decode cX9_count 60 = .ok (.ireturn, 1) := by decide +kernel
theorem dX9_count_61 : decode cX9_count 61 = .ok (.aload_n 0, 1) := by decide +kernel
theorem dX9_count_62 : decode cX9_count 62 = .ok (.getfield 113, 3) := by decide +kernel
theorem dX9_count_65 : decode cX9_count 65 = .ok (.ireturn, 1) := by decide +kernel
theorem dX9_count_66 : decode cX9_count 66 = .ok (.aload_n 0, 1) := by decide +kernel
theorem dX9_count_67 : decode cX9_count 67 = .ok (.getfield 25, 3) := by decide +kernel
theorem dX9_count_70 : decode cX9_count 70 = .ok (.iload_n 1, 1) := by decide +kernel
theorem dX9_count_71 : decode cX9_count 71 = .ok (.iconst 2, 1) := by decide +kernel
theorem dX9_count_72 : decode cX9_count 72 = .ok (.isub, 1) := by decide +kernel
theorem dX9_count_73 : decode cX9_count 73 = .ok (.iaload, 1) := by decide +kernel
theorem dX9_count_74 : decode cX9_count 74 = .ok (.ireturn, 1) := by decide +kernel
theorem dX9_count_75 : decode cX9_count 75 = .ok (.aload_n 0, 1) := by decide +kernel
theorem dX9_count_76 : decode cX9_count 76 = .ok (.getfield 149, 3) := by decide +kernel
theorem dX9_count_79 : decode cX9_count 79 = .ok (.ireturn, 1) := by decide +kernel
theorem dX9_count_80 : decode cX9_count 80 = .ok (.aload_n 0, 1) := by decide +kernel
theorem dX9_count_81 : decode cX9_count 81 = .ok (.getfield 154, 3) := by decide +kernel
theorem dX9_count_84 : decode cX9_count 84 = .ok (.ireturn, 1) := by decide +kernel
theorem dX9_count_85 : decode cX9_count 85 = .ok (.aload_n 0, 1) := by decide +kernel
theorem dX9_count_86 : decode cX9_count 86 = .ok (.getfield 157, 3) := by decide +kernel
theorem dX9_count_89 : decode cX9_count 89 = .ok (.ireturn, 1) := by decide +kernel
theorem dX9_count_90 : decode cX9_count 90 = .ok (.aload_n 0, 1) := by decide +kernel
theorem dX9_count_91 : decode cX9_count 91 = .ok (.getfield 223, 3) := by decide +kernel
theorem dX9_count_94 : decode cX9_count 94 = .ok (.ireturn, 1) := by decide +kernel
theorem dX9_count_95 : decode cX9_count 95 = .ok (.aload_n 0, 1) := by decide +kernel
theorem dX9_count_96 : decode cX9_count 96 = .ok (.getfield 74, 3) := by decide +kernel
theorem dX9_count_99 : decode cX9_count 99 = .ok (.ireturn, 1) := by decide +kernel
theorem dX9_count_100 : decode cX9_count 100 = .ok (.bipush (-2), 2) := by decide +kernel
theorem dX9_count_102 : decode cX9_count 102 = .ok (.ireturn, 1) := by decide +kernel
theorem dX9_tellsLine_0 : decode cX9_tellsLine 0 = .ok (.ldc2_w 266, 3) := by decide +kernel
theorem dX9_tellsLine_3 : decode cX9_tellsLine 3 = .ok (.lload_n 1, 1) := by decide +kernel
theorem dX9_tellsLine_4 : decode cX9_tellsLine 4 = .ok (.lmul, 1) := by decide +kernel
theorem dX9_tellsLine_5 : decode cX9_tellsLine 5 = .ok (.aload_n 0, 1) := by decide +kernel
theorem dX9_tellsLine_6 : decode cX9_tellsLine 6 = .ok (.iload_n 3, 1) := by decide +kernel
theorem dX9_tellsLine_7 : decode cX9_tellsLine 7 = .ok (.iconst 1, 1) := by decide +kernel
theorem dX9_tellsLine_8 : decode cX9_tellsLine 8 = .ok (.invokevirtual 141, 3) := by decide +kernel
theorem dX9_tellsLine_11 : decode cX9_tellsLine 11 = .ok (.i2l, 1) := by decide +kernel
theorem dX9_tellsLine_12 : decode cX9_tellsLine 12 = .ok (.ladd, 1) := by decide +kernel
theorem dX9_tellsLine_13 : decode cX9_tellsLine 13 = .ok (.lstore 4, 2) := by decide +kernel
theorem dX9_tellsLine_15 : decode cX9_tellsLine 15 = .ok (.ldc2_w 266, 3) := by decide +kernel
theorem dX9_tellsLine_18 : decode cX9_tellsLine 18 = .ok (.lload 4, 2) := by decide +kernel
theorem dX9_tellsLine_20 : decode cX9_tellsLine 20 = .ok (.lmul, 1) := by decide +kernel
theorem dX9_tellsLine_21 : decode cX9_tellsLine 21 = .ok (.aload_n 0, 1) := by decide +kernel
theorem dX9_tellsLine_22 : decode cX9_tellsLine 22 = .ok (.iload_n 3, 1) := by decide +kernel
theorem dX9_tellsLine_23 : decode cX9_tellsLine 23 = .ok (.iconst (-1), 1) := by decide +kernel
theorem dX9_tellsLine_24 : decode cX9_tellsLine 24 = .ok (.invokevirtual 141, 3) := by decide +kernel
theorem dX9_tellsLine_27 : decode cX9_tellsLine 27 = .ok (.i2l, 1) := by decide +kernel
theorem dX9_tellsLine_28 : decode cX9_tellsLine 28 = .ok (.ladd, 1) := by decide +kernel
theorem dX9_tellsLine_29 : decode cX9_tellsLine 29 = .ok (.lstore 4, 2) := by decide +kernel
theorem dX9_tellsLine_31 : decode cX9_tellsLine 31 = .ok (.ldc2_w 266, 3) := by decide +kernel
theorem dX9_tellsLine_34 : decode cX9_tellsLine 34 = .ok (.lload 4, 2) := by decide +kernel
theorem dX9_tellsLine_36 : decode cX9_tellsLine 36 = .ok (.lmul, 1) := by decide +kernel
theorem dX9_tellsLine_37 : decode cX9_tellsLine 37 = .ok (.aload_n 0, 1) := by decide +kernel
theorem dX9_tellsLine_38 : decode cX9_tellsLine 38 = .ok (.iload_n 3, 1) := by decide +kernel
theorem dX9_tellsLine_39 : decode cX9_tellsLine 39 = .ok (.iconst 0, 1) := by decide +kernel
theorem dX9_tellsLine_40 : decode cX9_tellsLine 40 = .ok (.invokevirtual 213, 3) := by decide +kernel
theorem dX9_tellsLine_43 : decode cX9_tellsLine 43 = .ok (.i2l, 1) := by decide +kernel
theorem dX9_tellsLine_44 : decode cX9_tellsLine 44 = .ok (.ladd, 1) := by decide +kernel
theorem dX9_tellsLine_45 : decode cX9_tellsLine 45 = .ok (.lstore 4, 2) := by decide +kernel
theorem dX9_tellsLine_47 : decode cX9_tellsLine 47 = .ok (.ldc2_w 266, 3) := by decide +kernel
theorem dX9_tellsLine_50 : decode cX9_tellsLine 50 = .ok (.lload 4, 2) := by decide +kernel
theorem dX9_tellsLine_52 : decode cX9_tellsLine 52 = .ok (.lmul, 1) := by decide +kernel
theorem dX9_tellsLine_53 : decode cX9_tellsLine 53 = .ok (.aload_n 0, 1) := by decide +kernel
theorem dX9_tellsLine_54 : decode cX9_tellsLine 54 = .ok (.iload_n 3, 1) := by decide +kernel
theorem dX9_tellsLine_55 : decode cX9_tellsLine 55 = .ok (.iconst 1, 1) := by decide +kernel
theorem dX9_tellsLine_56 : decode cX9_tellsLine 56 = .ok (.invokevirtual 213, 3) := by decide +kernel
theorem dX9_tellsLine_59 : decode cX9_tellsLine 59 = .ok (.i2l, 1) := by decide +kernel
theorem dX9_tellsLine_60 : decode cX9_tellsLine 60 = .ok (.ladd, 1) := by decide +kernel
theorem dX9_tellsLine_61 : decode cX9_tellsLine 61 = .ok (.lstore 4, 2) := by decide +kernel
theorem dX9_tellsLine_63 : decode cX9_tellsLine 63 = .ok (.ldc2_w 266, 3) := by decide +kernel
theorem dX9_tellsLine_66 : decode cX9_tellsLine 66 = .ok (.lload 4, 2) := by decide +kernel
theorem dX9_tellsLine_68 : decode cX9_tellsLine 68 = .ok (.lmul, 1) := by decide +kernel
theorem dX9_tellsLine_69 : decode cX9_tellsLine 69 = .ok (.aload_n 0, 1) := by decide +kernel
theorem dX9_tellsLine_70 : decode cX9_tellsLine 70 = .ok (.iconst 5, 1) := by decide +kernel
theorem dX9_tellsLine_71 : decode cX9_tellsLine 71 = .ok (.iconst 0, 1) := by decide +kernel
theorem dX9_tellsLine_72 : decode cX9_tellsLine 72 = .ok (.iload_n 3, 1) := by decide +kernel
theorem dX9_tellsLine_73 : decode cX9_tellsLine 73 = .ok (.iconst 5, 1) := by decide +kernel
theorem dX9_tellsLine_74 : decode cX9_tellsLine 74 = .ok (.iconst 0, 1) := by decide +kernel
theorem dX9_tellsLine_75 : decode cX9_tellsLine 75 = .ok (.invokevirtual 268, 3) := by decide +kernel
theorem dX9_tellsLine_78 : decode cX9_tellsLine 78 = .ok (.ladd, 1) := by decide +kernel
theorem dX9_tellsLine_79 : decode cX9_tellsLine 79 = .ok (.lstore 4, 2) := by decide +kernel
theorem dX9_tellsLine_81 : decode cX9_tellsLine 81 = .ok (.ldc2_w 266, 3) := by decide +kernel
theorem dX9_tellsLine_84 : decode cX9_tellsLine 84 = .ok (.lload 4, 2) := by decide +kernel
theorem dX9_tellsLine_86 : decode cX9_tellsLine 86 = .ok (.lmul, 1) := by decide +kernel
theorem dX9_tellsLine_87 : decode cX9_tellsLine 87 = .ok (.aload_n 0, 1) := by decide +kernel
theorem dX9_tellsLine_88 : decode cX9_tellsLine 88 = .ok (.iconst 5, 1) := by decide +kernel
theorem dX9_tellsLine_89 : decode cX9_tellsLine 89 = .ok (.iconst 0, 1) := by decide +kernel
theorem dX9_tellsLine_90 : decode cX9_tellsLine 90 = .ok (.iload_n 3, 1) := by decide +kernel
theorem dX9_tellsLine_91 : decode cX9_tellsLine 91 = .ok (.iconst 5, 1) := by decide +kernel
theorem dX9_tellsLine_92 : decode cX9_tellsLine 92 = .ok (.iconst 1, 1) := by decide +kernel
theorem dX9_tellsLine_93 : decode cX9_tellsLine 93 = .ok (.invokevirtual 268, 3) := by decide +kernel
theorem dX9_tellsLine_96 : decode cX9_tellsLine 96 = .ok (.ladd, 1) := by decide +kernel
theorem dX9_tellsLine_97 : decode cX9_tellsLine 97 = .ok (.lstore 4, 2) := by decide +kernel
theorem dX9_tellsLine_99 : decode cX9_tellsLine 99 = .ok (.iconst 0, 1) := by decide +kernel
theorem dX9_tellsLine_100 : decode cX9_tellsLine 100 = .ok (.istore 6, 2) := by decide +kernel
theorem dX9_tellsLine_102 : decode cX9_tellsLine 102 = .ok (.iload 6, 2) := by decide +kernel
theorem dX9_tellsLine_104 : decode cX9_tellsLine 104 = .ok (.iconst 3, 1) := by decide +kernel
theorem dX9_tellsLine_105 : decode cX9_tellsLine 105 = .ok (.if_icmp .ge 29, 3) := by decide +kernel
theorem dX9_tellsLine_108 : decode cX9_tellsLine 108 = .ok (.ldc2_w 266, 3) := by decide +kernel
theorem dX9_tellsLine_111 : decode cX9_tellsLine 111 = .ok (.lload 4, 2) := by decide +kernel
theorem dX9_tellsLine_113 : decode cX9_tellsLine 113 = .ok (.lmul, 1) := by decide +kernel
theorem dX9_tellsLine_114 : decode cX9_tellsLine 114 = .ok (.aload_n 0, 1) := by decide +kernel
theorem dX9_tellsLine_115 : decode cX9_tellsLine 115 = .ok (.iconst 3, 1) := by decide +kernel
theorem dX9_tellsLine_116 : decode cX9_tellsLine 116 = .ok (.bipush 6, 2) := by decide +kernel
theorem dX9_tellsLine_118 : decode cX9_tellsLine 118 = .ok (.iload_n 3, 1) := by decide +kernel
theorem dX9_tellsLine_119 : decode cX9_tellsLine 119 = .ok (.iload 6, 2) := by decide +kernel
theorem dX9_tellsLine_121 : decode cX9_tellsLine 121 = .ok (.invokevirtual 219, 3) := by decide +kernel
theorem dX9_tellsLine_124 : decode cX9_tellsLine 124 = .ok (.i2l, 1) := by decide +kernel
theorem dX9_tellsLine_125 : decode cX9_tellsLine 125 = .ok (.ladd, 1) := by decide +kernel
theorem dX9_tellsLine_126 : decode cX9_tellsLine 126 = .ok (.lstore 4, 2) := by decide +kernel
theorem dX9_tellsLine_128 : decode cX9_tellsLine 128 = .ok (.iinc 6 1, 3) := by decide +kernel
theorem dX9_tellsLine_131 : decode cX9_tellsLine 131 = .ok (.goto (-29), 3) := by decide +kernel
theorem dX9_tellsLine_134 : decode cX9_tellsLine 134 = .ok (.lload 4, 2) := by decide +kernel
theorem dX9_tellsLine_136 : decode cX9_tellsLine 136 = .ok (.lreturn, 1) := by decide +kernel
theorem dX9_digest_0 : decode cX9_digest 0 = .ok (.ldc2_w 271, 3) := by decide +kernel
theorem dX9_digest_3 : decode cX9_digest 3 = .ok (.lstore_n 1, 1) := by decide +kernel
theorem dX9_digest_4 : decode cX9_digest 4 = .ok (.iconst 0, 1) := by decide +kernel
theorem dX9_digest_5 : decode cX9_digest 5 = .ok (.istore_n 3, 1) := by decide +kernel
theorem dX9_digest_6 : decode cX9_digest 6 = .ok (.iload_n 3, 1) := by decide +kernel
theorem dX9_digest_7 : decode cX9_digest 7 = .ok (.bipush 8, 2) := by decide +kernel
theorem dX9_digest_9 : decode cX9_digest 9 = .ok (.if_icmp .ge 22, 3) := by decide +kernel
theorem dX9_digest_12 : decode cX9_digest 12 = .ok (.ldc2_w 266, 3) := by decide +kernel
theorem dX9_digest_15 : decode cX9_digest 15 = .ok (.lload_n 1, 1) := by decide +kernel
theorem dX9_digest_16 : decode cX9_digest 16 = .ok (.lmul, 1) := by decide +kernel
theorem dX9_digest_17 : decode cX9_digest 17 = .ok (.aload_n 0, 1) := by decide +kernel
theorem dX9_digest_18 : decode cX9_digest 18 = .ok (.iload_n 3, 1) := by decide +kernel
theorem dX9_digest_19 : decode cX9_digest 19 = .ok (.invokevirtual 273, 3) := by decide +kernel
theorem dX9_digest_22 : decode cX9_digest 22 = .ok (.i2l, 1) := by decide +kernel
theorem dX9_digest_23 : decode cX9_digest 23 = .ok (.ladd, 1) := by decide +kernel
theorem dX9_digest_24 : decode cX9_digest 24 = .ok (.lstore_n 1, 1) := by decide +kernel
theorem dX9_digest_25 : decode cX9_digest 25 = .ok (.iinc 3 1, 3) := by decide +kernel
theorem dX9_digest_28 : decode cX9_digest 28 = .ok (.goto (-22), 3) := by decide +kernel
theorem dX9_digest_31 : decode cX9_digest 31 = .ok (.ldc2_w 266, 3) := by decide +kernel
theorem dX9_digest_34 : decode cX9_digest 34 = .ok (.lload_n 1, 1) := by decide +kernel
theorem dX9_digest_35 : decode cX9_digest 35 = .ok (.lmul, 1) := by decide +kernel
theorem dX9_digest_36 : decode cX9_digest 36 = .ok (.aload_n 0, 1) := by decide +kernel
theorem dX9_digest_37 : decode cX9_digest 37 = .ok (.invokevirtual 119, 3) := by decide +kernel
theorem dX9_digest_40 : decode cX9_digest 40 = .ok (.i2l, 1) := by decide +kernel
theorem dX9_digest_41 : decode cX9_digest 41 = .ok (.ladd, 1) := by decide +kernel
theorem dX9_digest_42 : decode cX9_digest 42 = .ok (.lstore_n 1, 1) := by decide +kernel
theorem dX9_digest_43 : decode cX9_digest 43 = .ok (.ldc2_w 266, 3) := by decide +kernel
theorem dX9_digest_46 : decode cX9_digest 46 = .ok (.lload_n 1, 1) := by decide +kernel
theorem dX9_digest_47 : decode cX9_digest 47 = .ok (.lmul, 1) := by decide +kernel
theorem dX9_digest_48 : decode cX9_digest 48 = .ok (.aload_n 0, 1) := by decide +kernel
theorem dX9_digest_49 : decode cX9_digest 49 = .ok (.invokevirtual 123, 3) := by decide +kernel
theorem dX9_digest_52 : decode cX9_digest 52 = .ok (.i2l, 1) := by decide +kernel
theorem dX9_digest_53 : decode cX9_digest 53 = .ok (.ladd, 1) := by decide +kernel
theorem dX9_digest_54 : decode cX9_digest 54 = .ok (.lstore_n 1, 1) := by decide +kernel
theorem dX9_digest_55 : decode cX9_digest 55 = .ok (.aload_n 0, 1) := by decide +kernel
theorem dX9_digest_56 : decode cX9_digest 56 = .ok (.invokevirtual 198, 3) := by decide +kernel
theorem dX9_digest_59 : decode cX9_digest 59 = .ok (.iconst 0, 1) := by decide +kernel
theorem dX9_digest_60 : decode cX9_digest 60 = .ok (.istore_n 3, 1) := by decide +kernel
theorem dX9_digest_61 : decode cX9_digest 61 = .ok (.iload_n 3, 1) := by decide +kernel
theorem dX9_digest_62 : decode cX9_digest 62 = .ok (.bipush 8, 2) := by decide +kernel
theorem dX9_digest_64 : decode cX9_digest 64 = .ok (.if_icmp .ge 16, 3) := by decide +kernel
theorem dX9_digest_67 : decode cX9_digest 67 = .ok (.aload_n 0, 1) := by decide +kernel
theorem dX9_digest_68 : decode cX9_digest 68 = .ok (.lload_n 1, 1) := by decide +kernel
theorem dX9_digest_69 : decode cX9_digest 69 = .ok (.iload_n 3, 1) := by decide +kernel
theorem dX9_digest_70 : decode cX9_digest 70 = .ok (.invokevirtual 276, 3) := by decide +kernel
theorem dX9_digest_73 : decode cX9_digest 73 = .ok (.lstore_n 1, 1) := by decide +kernel
theorem dX9_digest_74 : decode cX9_digest 74 = .ok (.iinc 3 1, 3) := by decide +kernel
theorem dX9_digest_77 : decode cX9_digest 77 = .ok (.goto (-16), 3) := by decide +kernel
theorem dX9_digest_80 : decode cX9_digest 80 = .ok (.iconst 0, 1) := by decide +kernel
theorem dX9_digest_81 : decode cX9_digest 81 = .ok (.istore_n 3, 1) := by decide +kernel
theorem dX9_digest_82 : decode cX9_digest 82 = .ok (.iload_n 3, 1) := by decide +kernel
theorem dX9_digest_83 : decode cX9_digest 83 = .ok (.aload_n 0, 1) := by decide +kernel
theorem dX9_digest_84 : decode cX9_digest 84 = .ok (.getfield 113, 3) := by decide +kernel
theorem dX9_digest_87 : decode cX9_digest 87 = .ok (.if_icmp .ge 83, 3) := by decide +kernel
theorem dX9_digest_90 : decode cX9_digest 90 = .ok (.iconst 0, 1) := by decide +kernel
theorem dX9_digest_91 : decode cX9_digest 91 = .ok (.istore 4, 2) := by decide +kernel
theorem dX9_digest_93 : decode cX9_digest 93 = .ok (.iload 4, 2) := by decide +kernel
theorem dX9_digest_95 : decode cX9_digest 95 = .ok (.iconst 4, 1) := by decide +kernel
theorem dX9_digest_96 : decode cX9_digest 96 = .ok (.if_icmp .ge 28, 3) := by decide +kernel
theorem dX9_digest_99 : decode cX9_digest 99 = .ok (.ldc2_w 266, 3) := by decide +kernel
theorem dX9_digest_102 : decode cX9_digest 102 = .ok (.lload_n 1, 1) := by decide +kernel
theorem dX9_digest_103 : decode cX9_digest 103 = .ok (.lmul, 1) := by decide +kernel
theorem dX9_digest_104 : decode cX9_digest 104 = .ok (.aload_n 0, 1) := by decide +kernel
theorem dX9_digest_105 : decode cX9_digest 105 = .ok (.getfield 31, 3) := by decide +kernel
theorem dX9_digest_108 : decode cX9_digest 108 = .ok (.iconst 4, 1) := by decide +kernel
theorem dX9_digest_109 : decode cX9_digest 109 = .ok (.iload_n 3, 1) := by decide +kernel
theorem dX9_digest_110 : decode cX9_digest 110 = .ok (.imul, 1) := by decide +kernel
theorem dX9_digest_111 : decode cX9_digest 111 = .ok (.iload 4, 2) := by decide +kernel
theorem dX9_digest_113 : decode cX9_digest 113 = .ok (.iadd, 1) := by decide +kernel
theorem dX9_digest_114 : decode cX9_digest 114 = .ok (.iaload, 1) := by decide +kernel
theorem dX9_digest_115 : decode cX9_digest 115 = .ok (.i2l, 1) := by decide +kernel
theorem dX9_digest_116 : decode cX9_digest 116 = .ok (.ladd, 1) := by decide +kernel
theorem dX9_digest_117 : decode cX9_digest 117 = .ok (.lstore_n 1, 1) := by decide +kernel
theorem dX9_digest_118 : decode cX9_digest 118 = .ok (.iinc 4 1, 3) := by decide +kernel
theorem dX9_digest_121 : decode cX9_digest 121 = .ok (.goto (-28), 3) := by decide +kernel
theorem dX9_digest_124 : decode cX9_digest 124 = .ok (.ldc2_w 266, 3) := by decide +kernel
theorem dX9_digest_127 : decode cX9_digest 127 = .ok (.lload_n 1, 1) := by decide +kernel
theorem dX9_digest_128 : decode cX9_digest 128 = .ok (.lmul, 1) := by decide +kernel
theorem dX9_digest_129 : decode cX9_digest 129 = .ok (.aload_n 0, 1) := by decide +kernel
theorem dX9_digest_130 : decode cX9_digest 130 = .ok (.iconst 3, 1) := by decide +kernel
theorem dX9_digest_131 : decode cX9_digest 131 = .ok (.iload_n 3, 1) := by decide +kernel
theorem dX9_digest_132 : decode cX9_digest 132 = .ok (.invokevirtual 181, 3) := by decide +kernel
theorem dX9_digest_135 : decode cX9_digest 135 = .ok (.i2l, 1) := by decide +kernel
theorem dX9_digest_136 : decode cX9_digest 136 = .ok (.ladd, 1) := by decide +kernel
theorem dX9_digest_137 : decode cX9_digest 137 = .ok (.lstore_n 1, 1) := by decide +kernel
theorem dX9_digest_138 : decode cX9_digest 138 = .ok (.ldc2_w 266, 3) := by decide +kernel
theorem dX9_digest_141 : decode cX9_digest 141 = .ok (.lload_n 1, 1) := by decide +kernel
theorem dX9_digest_142 : decode cX9_digest 142 = .ok (.lmul, 1) := by decide +kernel
theorem dX9_digest_143 : decode cX9_digest 143 = .ok (.aload_n 0, 1) := by decide +kernel
theorem dX9_digest_144 : decode cX9_digest 144 = .ok (.iload_n 3, 1) := by decide +kernel
theorem dX9_digest_145 : decode cX9_digest 145 = .ok (.invokevirtual 233, 3) := by decide +kernel
theorem dX9_digest_148 : decode cX9_digest 148 = .ok (.i2l, 1) := by decide +kernel
theorem dX9_digest_149 : decode cX9_digest 149 = .ok (.ladd, 1) := by decide +kernel
theorem dX9_digest_150 : decode cX9_digest 150 = .ok (.lstore_n 1, 1) := by decide +kernel
theorem dX9_digest_151 : decode cX9_digest 151 = .ok (.ldc2_w 266, 3) := by decide +kernel
theorem dX9_digest_154 : decode cX9_digest 154 = .ok (.lload_n 1, 1) := by decide +kernel
theorem dX9_digest_155 : decode cX9_digest 155 = .ok (.lmul, 1) := by decide +kernel
theorem dX9_digest_156 : decode cX9_digest 156 = .ok (.aload_n 0, 1) := by decide +kernel
theorem dX9_digest_157 : decode cX9_digest 157 = .ok (.iload_n 3, 1) := by decide +kernel
theorem dX9_digest_158 : decode cX9_digest 158 = .ok (.invokevirtual 236, 3) := by decide +kernel
theorem dX9_digest_161 : decode cX9_digest 161 = .ok (.i2l, 1) := by decide +kernel
theorem dX9_digest_162 : decode cX9_digest 162 = .ok (.ladd, 1) := by decide +kernel
theorem dX9_digest_163 : decode cX9_digest 163 = .ok (.lstore_n 1, 1) := by decide +kernel
theorem dX9_digest_164 : decode cX9_digest 164 = .ok (.iinc 3 1, 3) := by decide +kernel
theorem dX9_digest_167 : decode cX9_digest 167 = .ok (.goto (-85), 3) := by decide +kernel
theorem dX9_digest_170 : decode cX9_digest 170 = .ok (.iconst 0, 1) := by decide +kernel
theorem dX9_digest_171 : decode cX9_digest 171 = .ok (.istore_n 3, 1) := by decide +kernel
theorem dX9_digest_172 : decode cX9_digest 172 = .ok (.iload_n 3, 1) := by decide +kernel
theorem dX9_digest_173 : decode cX9_digest 173 = .ok (.iconst 5, 1) := by decide +kernel
theorem dX9_digest_174 : decode cX9_digest 174 = .ok (.if_icmp .ge 112, 3) := by decide +kernel
theorem dX9_digest_177 : decode cX9_digest 177 = .ok (.iload_n 3, 1) := by decide +kernel
theorem dX9_digest_178 : decode cX9_digest 178 = .ok (.iconst 3, 1) := by decide +kernel
theorem dX9_digest_179 : decode cX9_digest 179 = .ok (.if_icmp .ge 7, 3) := by decide +kernel
theorem dX9_digest_182 : decode cX9_digest 182 = .ok (.iload_n 3, 1) := by decide +kernel
theorem dX9_digest_183 : decode cX9_digest 183 = .ok (.goto 15, 3) := by decide +kernel
theorem dX9_digest_186 : decode cX9_digest 186 = .ok (.iload_n 3, 1) := by decide +kernel
theorem dX9_digest_187 : decode cX9_digest 187 = .ok (.iconst 3, 1) := by decide +kernel
theorem dX9_digest_188 : decode cX9_digest 188 = .ok (.if_icmp .ne 8, 3) := by decide +kernel
theorem dX9_digest_191 : decode cX9_digest 191 = .ok (.bipush 9, 2) := by decide +kernel
theorem dX9_digest_193 : decode cX9_digest 193 = .ok (.goto 5, 3) := by decide +kernel
theorem dX9_digest_196 : decode cX9_digest 196 = .ok (.bipush 39, 2) := by decide +kernel
theorem dX9_digest_198 : decode cX9_digest 198 = .ok (.istore 4, 2) := by decide +kernel
theorem dX9_digest_200 : decode cX9_digest 200 = .ok (.iconst 0, 1) := by decide +kernel
theorem dX9_digest_201 : decode cX9_digest 201 = .ok (.istore 5, 2) := by decide +kernel
theorem dX9_digest_203 : decode cX9_digest 203 = .ok (.iload 5, 2) := by decide +kernel
theorem dX9_digest_205 : decode cX9_digest 205 = .ok (.iconst 4, 1) := by decide +kernel
theorem dX9_digest_206 : decode cX9_digest 206 = .ok (.if_icmp .ge 25, 3) := by decide +kernel
theorem dX9_digest_209 : decode cX9_digest 209 = .ok (.ldc2_w 266, 3) := by decide +kernel
theorem dX9_digest_212 : decode cX9_digest 212 = .ok (.lload_n 1, 1) := by decide +kernel
theorem dX9_digest_213 : decode cX9_digest 213 = .ok (.lmul, 1) := by decide +kernel
theorem dX9_digest_214 : decode cX9_digest 214 = .ok (.aload_n 0, 1) := by decide +kernel
theorem dX9_digest_215 : decode cX9_digest 215 = .ok (.iload 4, 2) := by decide +kernel
theorem dX9_digest_217 : decode cX9_digest 217 = .ok (.iload 5, 2) := by decide +kernel
theorem dX9_digest_219 : decode cX9_digest 219 = .ok (.invokevirtual 201, 3) := by decide +kernel
theorem dX9_digest_222 : decode cX9_digest 222 = .ok (.i2l, 1) := by decide +kernel
theorem dX9_digest_223 : decode cX9_digest 223 = .ok (.ladd, 1) := by decide +kernel
theorem dX9_digest_224 : decode cX9_digest 224 = .ok (.lstore_n 1, 1) := by decide +kernel
theorem dX9_digest_225 : decode cX9_digest 225 = .ok (.iinc 5 1, 3) := by decide +kernel
theorem dX9_digest_228 : decode cX9_digest 228 = .ok (.goto (-25), 3) := by decide +kernel
theorem dX9_digest_231 : decode cX9_digest 231 = .ok (.ldc2_w 266, 3) := by decide +kernel
theorem dX9_digest_234 : decode cX9_digest 234 = .ok (.lload_n 1, 1) := by decide +kernel
theorem dX9_digest_235 : decode cX9_digest 235 = .ok (.lmul, 1) := by decide +kernel
theorem dX9_digest_236 : decode cX9_digest 236 = .ok (.aload_n 0, 1) := by decide +kernel
theorem dX9_digest_237 : decode cX9_digest 237 = .ok (.iconst 3, 1) := by decide +kernel
theorem dX9_digest_238 : decode cX9_digest 238 = .ok (.iload 4, 2) := by decide +kernel
theorem dX9_digest_240 : decode cX9_digest 240 = .ok (.invokevirtual 216, 3) := by decide +kernel
theorem dX9_digest_243 : decode cX9_digest 243 = .ok (.i2l, 1) := by decide +kernel
theorem dX9_digest_244 : decode cX9_digest 244 = .ok (.ladd, 1) := by decide +kernel
theorem dX9_digest_245 : decode cX9_digest 245 = .ok (.lstore_n 1, 1) := by decide +kernel
theorem dX9_digest_246 : decode cX9_digest 246 = .ok (.ldc2_w 266, 3) := by decide +kernel
theorem dX9_digest_249 : decode cX9_digest 249 = .ok (.lload_n 1, 1) := by decide +kernel
theorem dX9_digest_250 : decode cX9_digest 250 = .ok (.lmul, 1) := by decide +kernel
theorem dX9_digest_251 : decode cX9_digest 251 = .ok (.aload_n 0, 1) := by decide +kernel
theorem dX9_digest_252 : decode cX9_digest 252 = .ok (.bipush 7, 2) := by decide +kernel
theorem dX9_digest_254 : decode cX9_digest 254 = .ok (.iload 4, 2) := by decide +kernel
theorem dX9_digest_256 : decode cX9_digest 256 = .ok (.iconst 0, 1) := by decide +kernel
theorem dX9_digest_257 : decode cX9_digest 257 = .ok (.invokevirtual 260, 3) := by decide +kernel
theorem dX9_digest_260 : decode cX9_digest 260 = .ok (.i2l, 1) := by decide +kernel
theorem dX9_digest_261 : decode cX9_digest 261 = .ok (.ladd, 1) := by decide +kernel
theorem dX9_digest_262 : decode cX9_digest 262 = .ok (.lstore_n 1, 1) := by decide +kernel
theorem dX9_digest_263 : decode cX9_digest 263 = .ok (.ldc2_w 266, 3) := by decide +kernel
theorem dX9_digest_266 : decode cX9_digest 266 = .ok (.lload_n 1, 1) := by decide +kernel
theorem dX9_digest_267 : decode cX9_digest 267 = .ok (.lmul, 1) := by decide +kernel
theorem dX9_digest_268 : decode cX9_digest 268 = .ok (.aload_n 0, 1) := by decide +kernel
theorem dX9_digest_269 : decode cX9_digest 269 = .ok (.bipush 7, 2) := by decide +kernel
theorem dX9_digest_271 : decode cX9_digest 271 = .ok (.iload 4, 2) := by decide +kernel
theorem dX9_digest_273 : decode cX9_digest 273 = .ok (.iconst 1, 1) := by decide +kernel
theorem dX9_digest_274 : decode cX9_digest 274 = .ok (.invokevirtual 260, 3) := by decide +kernel
theorem dX9_digest_277 : decode cX9_digest 277 = .ok (.i2l, 1) := by decide +kernel
theorem dX9_digest_278 : decode cX9_digest 278 = .ok (.ladd, 1) := by decide +kernel
theorem dX9_digest_279 : decode cX9_digest 279 = .ok (.lstore_n 1, 1) := by decide +kernel
theorem dX9_digest_280 : decode cX9_digest 280 = .ok (.iinc 3 1, 3) := by decide +kernel
theorem dX9_digest_283 : decode cX9_digest 283 = .ok (.goto (-111), 3) := by decide +kernel
theorem dX9_digest_286 : decode cX9_digest 286 = .ok (.ldc2_w 266, 3) := by decide +kernel
theorem dX9_digest_289 : decode cX9_digest 289 = .ok (.lload_n 1, 1) := by decide +kernel
theorem dX9_digest_290 : decode cX9_digest 290 = .ok (.lmul, 1) := by decide +kernel
theorem dX9_digest_291 : decode cX9_digest 291 = .ok (.aload_n 0, 1) := by decide +kernel
theorem dX9_digest_292 : decode cX9_digest 292 = .ok (.iconst 0, 1) := by decide +kernel
theorem dX9_digest_293 : decode cX9_digest 293 = .ok (.invokevirtual 207, 3) := by decide +kernel
theorem dX9_digest_296 : decode cX9_digest 296 = .ok (.i2l, 1) := by decide +kernel
theorem dX9_digest_297 : decode cX9_digest 297 = .ok (.ladd, 1) := by decide +kernel
theorem dX9_digest_298 : decode cX9_digest 298 = .ok (.lstore_n 1, 1) := by decide +kernel
theorem dX9_digest_299 : decode cX9_digest 299 = .ok (.ldc2_w 266, 3) := by decide +kernel
theorem dX9_digest_302 : decode cX9_digest 302 = .ok (.lload_n 1, 1) := by decide +kernel
theorem dX9_digest_303 : decode cX9_digest 303 = .ok (.lmul, 1) := by decide +kernel
theorem dX9_digest_304 : decode cX9_digest 304 = .ok (.aload_n 0, 1) := by decide +kernel
theorem dX9_digest_305 : decode cX9_digest 305 = .ok (.iconst 1, 1) := by decide +kernel
theorem dX9_digest_306 : decode cX9_digest 306 = .ok (.invokevirtual 207, 3) := by decide +kernel
theorem dX9_digest_309 : decode cX9_digest 309 = .ok (.i2l, 1) := by decide +kernel
theorem dX9_digest_310 : decode cX9_digest 310 = .ok (.ladd, 1) := by decide +kernel
theorem dX9_digest_311 : decode cX9_digest 311 = .ok (.lstore_n 1, 1) := by decide +kernel
theorem dX9_digest_312 : decode cX9_digest 312 = .ok (.ldc2_w 266, 3) := by decide +kernel
theorem dX9_digest_315 : decode cX9_digest 315 = .ok (.lload_n 1, 1) := by decide +kernel
theorem dX9_digest_316 : decode cX9_digest 316 = .ok (.lmul, 1) := by decide +kernel
theorem dX9_digest_317 : decode cX9_digest 317 = .ok (.aload_n 0, 1) := by decide +kernel
theorem dX9_digest_318 : decode cX9_digest 318 = .ok (.invokevirtual 210, 3) := by decide +kernel
theorem dX9_digest_321 : decode cX9_digest 321 = .ok (.i2l, 1) := by decide +kernel
theorem dX9_digest_322 : decode cX9_digest 322 = .ok (.ladd, 1) := by decide +kernel
theorem dX9_digest_323 : decode cX9_digest 323 = .ok (.lstore_n 1, 1) := by decide +kernel
theorem dX9_digest_324 : decode cX9_digest 324 = .ok (.ldc2_w 266, 3) := by decide +kernel
theorem dX9_digest_327 : decode cX9_digest 327 = .ok (.lload_n 1, 1) := by decide +kernel
theorem dX9_digest_328 : decode cX9_digest 328 = .ok (.lmul, 1) := by decide +kernel
theorem dX9_digest_329 : decode cX9_digest 329 = .ok (.aload_n 0, 1) := by decide +kernel
theorem dX9_digest_330 : decode cX9_digest 330 = .ok (.invokevirtual 230, 3) := by decide +kernel
theorem dX9_digest_333 : decode cX9_digest 333 = .ok (.i2l, 1) := by decide +kernel
theorem dX9_digest_334 : decode cX9_digest 334 = .ok (.ladd, 1) := by decide +kernel
theorem dX9_digest_335 : decode cX9_digest 335 = .ok (.lreturn, 1) := by decide +kernel
theorem dJ6_bitCount_0f7a4_0 : decode cJ6_bitCount_0f7a4 0 = .ok (.iload_n 0, 1) := by decide +kernel
theorem dJ6_bitCount_0f7a4_1 : decode cJ6_bitCount_0f7a4 1 = .ok (.iload_n 0, 1) := by decide +kernel
theorem dJ6_bitCount_0f7a4_2 : decode cJ6_bitCount_0f7a4 2 = .ok (.iconst 1, 1) := by decide +kernel
theorem dJ6_bitCount_0f7a4_3 : decode cJ6_bitCount_0f7a4 3 = .ok (.iushr, 1) := by decide +kernel
theorem dJ6_bitCount_0f7a4_4 : decode cJ6_bitCount_0f7a4 4 = .ok (.ldc_w 265, 3) := by decide +kernel
theorem dJ6_bitCount_0f7a4_7 : decode cJ6_bitCount_0f7a4 7 = .ok (.iand, 1) := by decide +kernel
theorem dJ6_bitCount_0f7a4_8 : decode cJ6_bitCount_0f7a4 8 = .ok (.isub, 1) := by decide +kernel
theorem dJ6_bitCount_0f7a4_9 : decode cJ6_bitCount_0f7a4 9 = .ok (.istore_n 0, 1) := by decide +kernel
theorem dJ6_bitCount_0f7a4_10 : decode cJ6_bitCount_0f7a4 10 = .ok (.iload_n 0, 1) := by decide +kernel
theorem dJ6_bitCount_0f7a4_11 : decode cJ6_bitCount_0f7a4 11 = .ok (.ldc_w 266, 3) := by decide +kernel
theorem dJ6_bitCount_0f7a4_14 : decode cJ6_bitCount_0f7a4 14 = .ok (.iand, 1) := by decide +kernel
theorem dJ6_bitCount_0f7a4_15 : decode cJ6_bitCount_0f7a4 15 = .ok (.iload_n 0, 1) := by decide +kernel
theorem dJ6_bitCount_0f7a4_16 : decode cJ6_bitCount_0f7a4 16 = .ok (.iconst 2, 1) := by decide +kernel
theorem dJ6_bitCount_0f7a4_17 : decode cJ6_bitCount_0f7a4 17 = .ok (.iushr, 1) := by decide +kernel
theorem dJ6_bitCount_0f7a4_18 : decode cJ6_bitCount_0f7a4 18 = .ok (.ldc_w 266, 3) := by decide +kernel
theorem dJ6_bitCount_0f7a4_21 : decode cJ6_bitCount_0f7a4 21 = .ok (.iand, 1) := by decide +kernel
theorem dJ6_bitCount_0f7a4_22 : decode cJ6_bitCount_0f7a4 22 = .ok (.iadd, 1) := by decide +kernel
theorem dJ6_bitCount_0f7a4_23 : decode cJ6_bitCount_0f7a4 23 = .ok (.istore_n 0, 1) := by decide +kernel
theorem dJ6_bitCount_0f7a4_24 : decode cJ6_bitCount_0f7a4 24 = .ok (.iload_n 0, 1) := by decide +kernel
theorem dJ6_bitCount_0f7a4_25 : decode cJ6_bitCount_0f7a4 25 = .ok (.iload_n 0, 1) := by decide +kernel
theorem dJ6_bitCount_0f7a4_26 : decode cJ6_bitCount_0f7a4 26 = .ok (.iconst 4, 1) := by decide +kernel
theorem dJ6_bitCount_0f7a4_27 : decode cJ6_bitCount_0f7a4 27 = .ok (.iushr, 1) := by decide +kernel
theorem dJ6_bitCount_0f7a4_28 : decode cJ6_bitCount_0f7a4 28 = .ok (.iadd, 1) := by decide +kernel
theorem dJ6_bitCount_0f7a4_29 : decode cJ6_bitCount_0f7a4 29 = .ok (.ldc_w 267, 3) := by decide +kernel
theorem dJ6_bitCount_0f7a4_32 : decode cJ6_bitCount_0f7a4 32 = .ok (.iand, 1) := by decide +kernel
theorem dJ6_bitCount_0f7a4_33 : decode cJ6_bitCount_0f7a4 33 = .ok (.istore_n 0, 1) := by decide +kernel
theorem dJ6_bitCount_0f7a4_34 : decode cJ6_bitCount_0f7a4 34 = .ok (.iload_n 0, 1) := by decide +kernel
theorem dJ6_bitCount_0f7a4_35 : decode cJ6_bitCount_0f7a4 35 = .ok (.iload_n 0, 1) := by decide +kernel
theorem dJ6_bitCount_0f7a4_36 : decode cJ6_bitCount_0f7a4 36 = .ok (.bipush 8, 2) := by decide +kernel
theorem dJ6_bitCount_0f7a4_38 : decode cJ6_bitCount_0f7a4 38 = .ok (.iushr, 1) := by decide +kernel
theorem dJ6_bitCount_0f7a4_39 : decode cJ6_bitCount_0f7a4 39 = .ok (.iadd, 1) := by decide +kernel
theorem dJ6_bitCount_0f7a4_40 : decode cJ6_bitCount_0f7a4 40 = .ok (.istore_n 0, 1) := by decide +kernel
theorem dJ6_bitCount_0f7a4_41 : decode cJ6_bitCount_0f7a4 41 = .ok (.iload_n 0, 1) := by decide +kernel
theorem dJ6_bitCount_0f7a4_42 : decode cJ6_bitCount_0f7a4 42 = .ok (.iload_n 0, 1) := by decide +kernel
theorem dJ6_bitCount_0f7a4_43 : decode cJ6_bitCount_0f7a4 43 = .ok (.bipush 16, 2) := by decide +kernel
theorem dJ6_bitCount_0f7a4_45 : decode cJ6_bitCount_0f7a4 45 = .ok (.iushr, 1) := by decide +kernel
theorem dJ6_bitCount_0f7a4_46 : decode cJ6_bitCount_0f7a4 46 = .ok (.iadd, 1) := by decide +kernel
theorem dJ6_bitCount_0f7a4_47 : decode cJ6_bitCount_0f7a4 47 = .ok (.istore_n 0, 1) := by decide +kernel
theorem dJ6_bitCount_0f7a4_48 : decode cJ6_bitCount_0f7a4 48 = .ok (.iload_n 0, 1) := by decide +kernel
theorem dJ6_bitCount_0f7a4_49 : decode cJ6_bitCount_0f7a4 49 = .ok (.bipush 63, 2) := by decide +kernel
theorem dJ6_bitCount_0f7a4_51 : decode cJ6_bitCount_0f7a4 51 = .ok (.iand, 1) := by decide +kernel
theorem dJ6_bitCount_0f7a4_52 : decode cJ6_bitCount_0f7a4 52 = .ok (.ireturn, 1) := by decide +kernel
theorem dJ9_abs_0f7a4_0 : decode cJ9_abs_0f7a4 0 = .ok (.iload_n 0, 1) := by decide +kernel
theorem dJ9_abs_0f7a4_1 : decode cJ9_abs_0f7a4 1 = .ok (.ifCond .ge 8, 3) := by decide +kernel
theorem dJ9_abs_0f7a4_4 : decode cJ9_abs_0f7a4 4 = .ok (.iload_n 0, 1) := by decide +kernel
theorem dJ9_abs_0f7a4_5 : decode cJ9_abs_0f7a4 5 = .ok (.ineg, 1) := by decide +kernel
theorem dJ9_abs_0f7a4_6 : decode cJ9_abs_0f7a4 6 = .ok (.goto 4, 3) := by decide +kernel
theorem dJ9_abs_0f7a4_9 : decode cJ9_abs_0f7a4 9 = .ok (.iload_n 0, 1) := by decide +kernel
theorem dJ9_abs_0f7a4_10 : decode cJ9_abs_0f7a4 10 = .ok (.ireturn, 1) := by decide +kernel
theorem dJ9_max_7cf53_0 : decode cJ9_max_7cf53 0 = .ok (.iload_n 0, 1) := by decide +kernel
theorem dJ9_max_7cf53_1 : decode cJ9_max_7cf53 1 = .ok (.iload_n 1, 1) := by decide +kernel
theorem dJ9_max_7cf53_2 : decode cJ9_max_7cf53 2 = .ok (.if_icmp .lt 7, 3) := by decide +kernel
theorem dJ9_max_7cf53_5 : decode cJ9_max_7cf53 5 = .ok (.iload_n 0, 1) := by decide +kernel
theorem dJ9_max_7cf53_6 : decode cJ9_max_7cf53 6 = .ok (.goto 4, 3) := by decide +kernel
theorem dJ9_max_7cf53_9 : decode cJ9_max_7cf53 9 = .ok (.iload_n 1, 1) := by decide +kernel
theorem dJ9_max_7cf53_10 : decode cJ9_max_7cf53 10 = .ok (.ireturn, 1) := by decide +kernel
theorem dJ9_min_7cf53_0 : decode cJ9_min_7cf53 0 = .ok (.iload_n 0, 1) := by decide +kernel
theorem dJ9_min_7cf53_1 : decode cJ9_min_7cf53 1 = .ok (.iload_n 1, 1) := by decide +kernel
theorem dJ9_min_7cf53_2 : decode cJ9_min_7cf53 2 = .ok (.if_icmp .gt 7, 3) := by decide +kernel
theorem dJ9_min_7cf53_5 : decode cJ9_min_7cf53 5 = .ok (.iload_n 0, 1) := by decide +kernel
theorem dJ9_min_7cf53_6 : decode cJ9_min_7cf53 6 = .ok (.goto 4, 3) := by decide +kernel
theorem dJ9_min_7cf53_9 : decode cJ9_min_7cf53 9 = .ok (.iload_n 1, 1) := by decide +kernel
theorem dJ9_min_7cf53_10 : decode cJ9_min_7cf53 10 = .ok (.ireturn, 1) := by decide +kernel
theorem dL_law_0 : decode cL_law 0 = .ok (.new 7, 3) := by decide +kernel
theorem dL_law_3 : decode cL_law 3 = .ok (.dup, 1) := by decide +kernel
theorem dL_law_4 : decode cL_law 4 = .ok (.invokespecial 9, 3) := by decide +kernel
theorem dL_law_7 : decode cL_law 7 = .ok (.astore_n 1, 1) := by decide +kernel
theorem dL_law_8 : decode cL_law 8 = .ok (.new 10, 3) := by decide +kernel
theorem dL_law_11 : decode cL_law 11 = .ok (.dup, 1) := by decide +kernel
theorem dL_law_12 : decode cL_law 12 = .ok (.invokespecial 12, 3) := by decide +kernel
theorem dL_law_15 : decode cL_law 15 = .ok (.astore_n 2, 1) := by decide +kernel
theorem dL_law_16 : decode cL_law 16 = .ok (.iconst 0, 1) := by decide +kernel
theorem dL_law_17 : decode cL_law 17 = .ok (.istore_n 3, 1) := by decide +kernel
theorem dL_law_18 : decode cL_law 18 = .ok (.iload_n 3, 1) := by decide +kernel
theorem dL_law_19 : decode cL_law 19 = .ok (.aload_n 0, 1) := by decide +kernel
theorem dL_law_20 : decode cL_law 20 = .ok (.arraylength, 1) := by decide +kernel
theorem dL_law_21 : decode cL_law 21 = .ok (.bipush 6, 2) := by decide +kernel
theorem dL_law_23 : decode cL_law 23 = .ok (.isub, 1) := by decide +kernel
theorem dL_law_24 : decode cL_law 24 = .ok (.if_icmp .gt 1220, 3) := by decide +kernel
theorem dL_law_27 : decode cL_law 27 = .ok (.aload_n 0, 1) := by decide +kernel
theorem dL_law_28 : decode cL_law 28 = .ok (.iload_n 3, 1) := by decide +kernel
theorem dL_law_29 : decode cL_law 29 = .ok (.iaload, 1) := by decide +kernel
theorem dL_law_30 : decode cL_law 30 = .ok (.bipush 63, 2) := by decide +kernel
theorem dL_law_32 : decode cL_law 32 = .ok (.iand, 1) := by decide +kernel
theorem dL_law_33 : decode cL_law 33 = .ok (.tableswitch 1205 0 33 #[151, 184, 207, 230, 253, 276, 309, 342, 375, 408, 431, 454, 477, 510, 543, 566, 579, 612, 645, 698, 731, 744, 757, 780, 803, 867, 910, 953, 976, 1029, 1072, 1135, 1168, 1191], 151) := by decide +kernel
theorem dL_law_184 : decode cL_law 184 = .ok (.aload_n 1, 1) := by decide +kernel
theorem dL_law_185 : decode cL_law 185 = .ok (.aload_n 0, 1) := by decide +kernel
theorem dL_law_186 : decode cL_law 186 = .ok (.iload_n 3, 1) := by decide +kernel
theorem dL_law_187 : decode cL_law 187 = .ok (.iconst 1, 1) := by decide +kernel
theorem dL_law_188 : decode cL_law 188 = .ok (.iadd, 1) := by decide +kernel
theorem dL_law_189 : decode cL_law 189 = .ok (.iaload, 1) := by decide +kernel
theorem dL_law_190 : decode cL_law 190 = .ok (.aload_n 0, 1) := by decide +kernel
theorem dL_law_191 : decode cL_law 191 = .ok (.iload_n 3, 1) := by decide +kernel
theorem dL_law_192 : decode cL_law 192 = .ok (.iconst 2, 1) := by decide +kernel
theorem dL_law_193 : decode cL_law 193 = .ok (.iadd, 1) := by decide +kernel
theorem dL_law_194 : decode cL_law 194 = .ok (.iaload, 1) := by decide +kernel
theorem dL_law_195 : decode cL_law 195 = .ok (.invokevirtual 13, 3) := by decide +kernel
theorem dL_law_198 : decode cL_law 198 = .ok (.aload_n 2, 1) := by decide +kernel
theorem dL_law_199 : decode cL_law 199 = .ok (.aload_n 0, 1) := by decide +kernel
theorem dL_law_200 : decode cL_law 200 = .ok (.iload_n 3, 1) := by decide +kernel
theorem dL_law_201 : decode cL_law 201 = .ok (.iconst 1, 1) := by decide +kernel
theorem dL_law_202 : decode cL_law 202 = .ok (.iadd, 1) := by decide +kernel
theorem dL_law_203 : decode cL_law 203 = .ok (.iaload, 1) := by decide +kernel
theorem dL_law_204 : decode cL_law 204 = .ok (.aload_n 0, 1) := by decide +kernel
theorem dL_law_205 : decode cL_law 205 = .ok (.iload_n 3, 1) := by decide +kernel
theorem dL_law_206 : decode cL_law 206 = .ok (.iconst 2, 1) := by decide +kernel
theorem dL_law_207 : decode cL_law 207 = .ok (.iadd, 1) := by decide +kernel
theorem dL_law_208 : decode cL_law 208 = .ok (.iaload, 1) := by decide +kernel
theorem dL_law_209 : decode cL_law 209 = .ok (.invokevirtual 17, 3) := by decide +kernel
theorem dL_law_212 : decode cL_law 212 = .ok (.if_icmp .eq 1026, 3) := by decide +kernel
theorem dL_law_215 : decode cL_law 215 = .ok (.iconst 0, 1) := by decide +kernel
theorem dL_law_216 : decode cL_law 216 = .ok (.ireturn, 1) := by decide +kernel
theorem dL_law_217 : decode cL_law 217 = .ok (.aload_n 1, 1) := by decide +kernel
theorem dL_law_218 : decode cL_law 218 = .ok (.aload_n 0, 1) := by decide +kernel
theorem dL_law_219 : decode cL_law 219 = .ok (.iload_n 3, 1) := by decide +kernel
theorem dL_law_220 : decode cL_law 220 = .ok (.iconst 1, 1) := by decide +kernel
theorem dL_law_221 : decode cL_law 221 = .ok (.iadd, 1) := by decide +kernel
theorem dL_law_222 : decode cL_law 222 = .ok (.iaload, 1) := by decide +kernel
theorem dL_law_223 : decode cL_law 223 = .ok (.invokevirtual 18, 3) := by decide +kernel
theorem dL_law_226 : decode cL_law 226 = .ok (.aload_n 2, 1) := by decide +kernel
theorem dL_law_227 : decode cL_law 227 = .ok (.aload_n 0, 1) := by decide +kernel
theorem dL_law_228 : decode cL_law 228 = .ok (.iload_n 3, 1) := by decide +kernel
theorem dL_law_229 : decode cL_law 229 = .ok (.iconst 1, 1) := by decide +kernel
theorem dL_law_230 : decode cL_law 230 = .ok (.iadd, 1) := by decide +kernel
theorem dL_law_231 : decode cL_law 231 = .ok (.iaload, 1) := by decide +kernel
theorem dL_law_232 : decode cL_law 232 = .ok (.invokevirtual 22, 3) := by decide +kernel
theorem dL_law_235 : decode cL_law 235 = .ok (.if_icmp .eq 1003, 3) := by decide +kernel
theorem dL_law_238 : decode cL_law 238 = .ok (.iconst 0, 1) := by decide +kernel
theorem dL_law_239 : decode cL_law 239 = .ok (.ireturn, 1) := by decide +kernel
theorem dL_law_240 : decode cL_law 240 = .ok (.aload_n 1, 1) := by decide +kernel
theorem dL_law_241 : decode cL_law 241 = .ok (.aload_n 0, 1) := by decide +kernel
theorem dL_law_242 : decode cL_law 242 = .ok (.iload_n 3, 1) := by decide +kernel
theorem dL_law_243 : decode cL_law 243 = .ok (.iconst 1, 1) := by decide +kernel
theorem dL_law_244 : decode cL_law 244 = .ok (.iadd, 1) := by decide +kernel
theorem dL_law_245 : decode cL_law 245 = .ok (.iaload, 1) := by decide +kernel
theorem dL_law_246 : decode cL_law 246 = .ok (.invokevirtual 23, 3) := by decide +kernel
theorem dL_law_249 : decode cL_law 249 = .ok (.aload_n 2, 1) := by decide +kernel
theorem dL_law_250 : decode cL_law 250 = .ok (.aload_n 0, 1) := by decide +kernel
theorem dL_law_251 : decode cL_law 251 = .ok (.iload_n 3, 1) := by decide +kernel
theorem dL_law_252 : decode cL_law 252 = .ok (.iconst 1, 1) := by decide +kernel
theorem dL_law_253 : decode cL_law 253 = .ok (.iadd, 1) := by decide +kernel
theorem dL_law_254 : decode cL_law 254 = .ok (.iaload, 1) := by decide +kernel
theorem dL_law_255 : decode cL_law 255 = .ok (.invokevirtual 26, 3) := by decide +kernel
theorem dL_law_258 : decode cL_law 258 = .ok (.if_icmp .eq 980, 3) := by decide +kernel
theorem dL_law_261 : decode cL_law 261 = .ok (.iconst 0, 1) := by decide +kernel
theorem dL_law_262 : decode cL_law 262 = .ok (.ireturn, 1) := by decide +kernel
theorem dL_law_263 : decode cL_law 263 = .ok (.aload_n 1, 1) := by decide +kernel
theorem dL_law_264 : decode cL_law 264 = .ok (.aload_n 0, 1) := by decide +kernel
theorem dL_law_265 : decode cL_law 265 = .ok (.iload_n 3, 1) := by decide +kernel
theorem dL_law_266 : decode cL_law 266 = .ok (.iconst 1, 1) := by decide +kernel
theorem dL_law_267 : decode cL_law 267 = .ok (.iadd, 1) := by decide +kernel
theorem dL_law_268 : decode cL_law 268 = .ok (.iaload, 1) := by decide +kernel
theorem dL_law_269 : decode cL_law 269 = .ok (.invokevirtual 27, 3) := by decide +kernel
theorem dL_law_272 : decode cL_law 272 = .ok (.aload_n 2, 1) := by decide +kernel
theorem dL_law_273 : decode cL_law 273 = .ok (.aload_n 0, 1) := by decide +kernel
theorem dL_law_274 : decode cL_law 274 = .ok (.iload_n 3, 1) := by decide +kernel
theorem dL_law_275 : decode cL_law 275 = .ok (.iconst 1, 1) := by decide +kernel
theorem dL_law_276 : decode cL_law 276 = .ok (.iadd, 1) := by decide +kernel
theorem dL_law_277 : decode cL_law 277 = .ok (.iaload, 1) := by decide +kernel
theorem dL_law_278 : decode cL_law 278 = .ok (.invokevirtual 30, 3) := by decide +kernel
theorem dL_law_281 : decode cL_law 281 = .ok (.if_icmp .eq 957, 3) := by decide +kernel
theorem dL_law_284 : decode cL_law 284 = .ok (.iconst 0, 1) := by decide +kernel
theorem dL_law_285 : decode cL_law 285 = .ok (.ireturn, 1) := by decide +kernel
theorem dL_law_286 : decode cL_law 286 = .ok (.aload_n 1, 1) := by decide +kernel
theorem dL_law_287 : decode cL_law 287 = .ok (.aload_n 0, 1) := by decide +kernel
theorem dL_law_288 : decode cL_law 288 = .ok (.iload_n 3, 1) := by decide +kernel
theorem dL_law_289 : decode cL_law 289 = .ok (.iconst 1, 1) := by decide +kernel
theorem dL_law_290 : decode cL_law 290 = .ok (.iadd, 1) := by decide +kernel
theorem dL_law_291 : decode cL_law 291 = .ok (.iaload, 1) := by decide +kernel
theorem dL_law_292 : decode cL_law 292 = .ok (.invokevirtual 31, 3) := by decide +kernel
theorem dL_law_295 : decode cL_law 295 = .ok (.aload_n 2, 1) := by decide +kernel
theorem dL_law_296 : decode cL_law 296 = .ok (.aload_n 0, 1) := by decide +kernel
theorem dL_law_297 : decode cL_law 297 = .ok (.iload_n 3, 1) := by decide +kernel
theorem dL_law_298 : decode cL_law 298 = .ok (.iconst 1, 1) := by decide +kernel
theorem dL_law_299 : decode cL_law 299 = .ok (.iadd, 1) := by decide +kernel
theorem dL_law_300 : decode cL_law 300 = .ok (.iaload, 1) := by decide +kernel
theorem dL_law_301 : decode cL_law 301 = .ok (.invokevirtual 34, 3) := by decide +kernel
theorem dL_law_304 : decode cL_law 304 = .ok (.if_icmp .eq 934, 3) := by decide +kernel
theorem dL_law_307 : decode cL_law 307 = .ok (.iconst 0, 1) := by decide +kernel
theorem dL_law_308 : decode cL_law 308 = .ok (.ireturn, 1) := by decide +kernel
theorem dL_law_309 : decode cL_law 309 = .ok (.aload_n 1, 1) := by decide +kernel
theorem dL_law_310 : decode cL_law 310 = .ok (.aload_n 0, 1) := by decide +kernel
theorem dL_law_311 : decode cL_law 311 = .ok (.iload_n 3, 1) := by decide +kernel
theorem dL_law_312 : decode cL_law 312 = .ok (.iconst 1, 1) := by decide +kernel
theorem dL_law_313 : decode cL_law 313 = .ok (.iadd, 1) := by decide +kernel
theorem dL_law_314 : decode cL_law 314 = .ok (.iaload, 1) := by decide +kernel
theorem dL_law_315 : decode cL_law 315 = .ok (.aload_n 0, 1) := by decide +kernel
theorem dL_law_316 : decode cL_law 316 = .ok (.iload_n 3, 1) := by decide +kernel
theorem dL_law_317 : decode cL_law 317 = .ok (.iconst 2, 1) := by decide +kernel
theorem dL_law_318 : decode cL_law 318 = .ok (.iadd, 1) := by decide +kernel
theorem dL_law_319 : decode cL_law 319 = .ok (.iaload, 1) := by decide +kernel
theorem dL_law_320 : decode cL_law 320 = .ok (.invokevirtual 35, 3) := by decide +kernel
theorem dL_law_323 : decode cL_law 323 = .ok (.aload_n 2, 1) := by decide +kernel
theorem dL_law_324 : decode cL_law 324 = .ok (.aload_n 0, 1) := by decide +kernel
theorem dL_law_325 : decode cL_law 325 = .ok (.iload_n 3, 1) := by decide +kernel
theorem dL_law_326 : decode cL_law 326 = .ok (.iconst 1, 1) := by decide +kernel
theorem dL_law_327 : decode cL_law 327 = .ok (.iadd, 1) := by decide +kernel
theorem dL_law_328 : decode cL_law 328 = .ok (.iaload, 1) := by decide +kernel
theorem dL_law_329 : decode cL_law 329 = .ok (.aload_n 0, 1) := by decide +kernel
theorem dL_law_330 : decode cL_law 330 = .ok (.iload_n 3, 1) := by decide +kernel
theorem dL_law_331 : decode cL_law 331 = .ok (.iconst 2, 1) := by decide +kernel
theorem dL_law_332 : decode cL_law 332 = .ok (.iadd, 1) := by decide +kernel
theorem dL_law_333 : decode cL_law 333 = .ok (.iaload, 1) := by decide +kernel
theorem dL_law_334 : decode cL_law 334 = .ok (.invokevirtual 38, 3) := by decide +kernel
theorem dL_law_337 : decode cL_law 337 = .ok (.if_icmp .eq 901, 3) := by decide +kernel
theorem dL_law_340 : decode cL_law 340 = .ok (.iconst 0, 1) := by decide +kernel
theorem dL_law_341 : decode cL_law 341 = .ok (.ireturn, 1) := by decide +kernel
theorem dL_law_342 : decode cL_law 342 = .ok (.aload_n 1, 1) := by decide +kernel
theorem dL_law_343 : decode cL_law 343 = .ok (.aload_n 0, 1) := by decide +kernel
theorem dL_law_344 : decode cL_law 344 = .ok (.iload_n 3, 1) := by decide +kernel
theorem dL_law_345 : decode cL_law 345 = .ok (.iconst 1, 1) := by decide +kernel
theorem dL_law_346 : decode cL_law 346 = .ok (.iadd, 1) := by decide +kernel
theorem dL_law_347 : decode cL_law 347 = .ok (.iaload, 1) := by decide +kernel
theorem dL_law_348 : decode cL_law 348 = .ok (.aload_n 0, 1) := by decide +kernel
theorem dL_law_349 : decode cL_law 349 = .ok (.iload_n 3, 1) := by decide +kernel
theorem dL_law_350 : decode cL_law 350 = .ok (.iconst 2, 1) := by decide +kernel
theorem dL_law_351 : decode cL_law 351 = .ok (.iadd, 1) := by decide +kernel
theorem dL_law_352 : decode cL_law 352 = .ok (.iaload, 1) := by decide +kernel
theorem dL_law_353 : decode cL_law 353 = .ok (.invokevirtual 39, 3) := by decide +kernel
theorem dL_law_356 : decode cL_law 356 = .ok (.aload_n 2, 1) := by decide +kernel
theorem dL_law_357 : decode cL_law 357 = .ok (.aload_n 0, 1) := by decide +kernel
theorem dL_law_358 : decode cL_law 358 = .ok (.iload_n 3, 1) := by decide +kernel
theorem dL_law_359 : decode cL_law 359 = .ok (.iconst 1, 1) := by decide +kernel
theorem dL_law_360 : decode cL_law 360 = .ok (.iadd, 1) := by decide +kernel
theorem dL_law_361 : decode cL_law 361 = .ok (.iaload, 1) := by decide +kernel
theorem dL_law_362 : decode cL_law 362 = .ok (.aload_n 0, 1) := by decide +kernel
theorem dL_law_363 : decode cL_law 363 = .ok (.iload_n 3, 1) := by decide +kernel
theorem dL_law_364 : decode cL_law 364 = .ok (.iconst 2, 1) := by decide +kernel
theorem dL_law_365 : decode cL_law 365 = .ok (.iadd, 1) := by decide +kernel
theorem dL_law_366 : decode cL_law 366 = .ok (.iaload, 1) := by decide +kernel
theorem dL_law_367 : decode cL_law 367 = .ok (.invokevirtual 42, 3) := by decide +kernel
theorem dL_law_370 : decode cL_law 370 = .ok (.if_icmp .eq 868, 3) := by decide +kernel
theorem dL_law_373 : decode cL_law 373 = .ok (.iconst 0, 1) := by decide +kernel
theorem dL_law_374 : decode cL_law 374 = .ok (.ireturn, 1) := by decide +kernel
theorem dL_law_375 : decode cL_law 375 = .ok (.aload_n 1, 1) := by decide +kernel
theorem dL_law_376 : decode cL_law 376 = .ok (.aload_n 0, 1) := by decide +kernel
theorem dL_law_377 : decode cL_law 377 = .ok (.iload_n 3, 1) := by decide +kernel
theorem dL_law_378 : decode cL_law 378 = .ok (.iconst 1, 1) := by decide +kernel
theorem dL_law_379 : decode cL_law 379 = .ok (.iadd, 1) := by decide +kernel
theorem dL_law_380 : decode cL_law 380 = .ok (.iaload, 1) := by decide +kernel
theorem dL_law_381 : decode cL_law 381 = .ok (.aload_n 0, 1) := by decide +kernel
theorem dL_law_382 : decode cL_law 382 = .ok (.iload_n 3, 1) := by decide +kernel
theorem dL_law_383 : decode cL_law 383 = .ok (.iconst 2, 1) := by decide +kernel
theorem dL_law_384 : decode cL_law 384 = .ok (.iadd, 1) := by decide +kernel
theorem dL_law_385 : decode cL_law 385 = .ok (.iaload, 1) := by decide +kernel
theorem dL_law_386 : decode cL_law 386 = .ok (.invokevirtual 43, 3) := by decide +kernel
theorem dL_law_389 : decode cL_law 389 = .ok (.aload_n 2, 1) := by decide +kernel
theorem dL_law_390 : decode cL_law 390 = .ok (.aload_n 0, 1) := by decide +kernel
theorem dL_law_391 : decode cL_law 391 = .ok (.iload_n 3, 1) := by decide +kernel
theorem dL_law_392 : decode cL_law 392 = .ok (.iconst 1, 1) := by decide +kernel
theorem dL_law_393 : decode cL_law 393 = .ok (.iadd, 1) := by decide +kernel
theorem dL_law_394 : decode cL_law 394 = .ok (.iaload, 1) := by decide +kernel
theorem dL_law_395 : decode cL_law 395 = .ok (.aload_n 0, 1) := by decide +kernel
theorem dL_law_396 : decode cL_law 396 = .ok (.iload_n 3, 1) := by decide +kernel
theorem dL_law_397 : decode cL_law 397 = .ok (.iconst 2, 1) := by decide +kernel
theorem dL_law_398 : decode cL_law 398 = .ok (.iadd, 1) := by decide +kernel
theorem dL_law_399 : decode cL_law 399 = .ok (.iaload, 1) := by decide +kernel
theorem dL_law_400 : decode cL_law 400 = .ok (.invokevirtual 46, 3) := by decide +kernel
theorem dL_law_403 : decode cL_law 403 = .ok (.if_icmp .eq 835, 3) := by decide +kernel
theorem dL_law_406 : decode cL_law 406 = .ok (.iconst 0, 1) := by decide +kernel
theorem dL_law_407 : decode cL_law 407 = .ok (.ireturn, 1) := by decide +kernel
theorem dL_law_408 : decode cL_law 408 = .ok (.aload_n 1, 1) := by decide +kernel
theorem dL_law_409 : decode cL_law 409 = .ok (.aload_n 0, 1) := by decide +kernel
theorem dL_law_410 : decode cL_law 410 = .ok (.iload_n 3, 1) := by decide +kernel
theorem dL_law_411 : decode cL_law 411 = .ok (.iconst 1, 1) := by decide +kernel
theorem dL_law_412 : decode cL_law 412 = .ok (.iadd, 1) := by decide +kernel
theorem dL_law_413 : decode cL_law 413 = .ok (.iaload, 1) := by decide +kernel
theorem dL_law_414 : decode cL_law 414 = .ok (.aload_n 0, 1) := by decide +kernel
theorem dL_law_415 : decode cL_law 415 = .ok (.iload_n 3, 1) := by decide +kernel
theorem dL_law_416 : decode cL_law 416 = .ok (.iconst 2, 1) := by decide +kernel
theorem dL_law_417 : decode cL_law 417 = .ok (.iadd, 1) := by decide +kernel
theorem dL_law_418 : decode cL_law 418 = .ok (.iaload, 1) := by decide +kernel
theorem dL_law_419 : decode cL_law 419 = .ok (.invokevirtual 47, 3) := by decide +kernel
theorem dL_law_422 : decode cL_law 422 = .ok (.aload_n 2, 1) := by decide +kernel
theorem dL_law_423 : decode cL_law 423 = .ok (.aload_n 0, 1) := by decide +kernel
theorem dL_law_424 : decode cL_law 424 = .ok (.iload_n 3, 1) := by decide +kernel
theorem dL_law_425 : decode cL_law 425 = .ok (.iconst 1, 1) := by decide +kernel
theorem dL_law_426 : decode cL_law 426 = .ok (.iadd, 1) := by decide +kernel
theorem dL_law_427 : decode cL_law 427 = .ok (.iaload, 1) := by decide +kernel
theorem dL_law_428 : decode cL_law 428 = .ok (.aload_n 0, 1) := by decide +kernel
theorem dL_law_429 : decode cL_law 429 = .ok (.iload_n 3, 1) := by decide +kernel
theorem dL_law_430 : decode cL_law 430 = .ok (.iconst 2, 1) := by decide +kernel
theorem dL_law_431 : decode cL_law 431 = .ok (.iadd, 1) := by decide +kernel
theorem dL_law_432 : decode cL_law 432 = .ok (.iaload, 1) := by decide +kernel
theorem dL_law_433 : decode cL_law 433 = .ok (.invokevirtual 50, 3) := by decide +kernel
theorem dL_law_436 : decode cL_law 436 = .ok (.if_icmp .eq 802, 3) := by decide +kernel
theorem dL_law_439 : decode cL_law 439 = .ok (.iconst 0, 1) := by decide +kernel
theorem dL_law_440 : decode cL_law 440 = .ok (.ireturn, 1) := by decide +kernel
theorem dL_law_441 : decode cL_law 441 = .ok (.aload_n 1, 1) := by decide +kernel
theorem dL_law_442 : decode cL_law 442 = .ok (.aload_n 0, 1) := by decide +kernel
theorem dL_law_443 : decode cL_law 443 = .ok (.iload_n 3, 1) := by decide +kernel
theorem dL_law_444 : decode cL_law 444 = .ok (.iconst 1, 1) := by decide +kernel
theorem dL_law_445 : decode cL_law 445 = .ok (.iadd, 1) := by decide +kernel
theorem dL_law_446 : decode cL_law 446 = .ok (.iaload, 1) := by decide +kernel
theorem dL_law_447 : decode cL_law 447 = .ok (.invokevirtual 51, 3) := by decide +kernel
theorem dL_law_450 : decode cL_law 450 = .ok (.aload_n 2, 1) := by decide +kernel
theorem dL_law_451 : decode cL_law 451 = .ok (.aload_n 0, 1) := by decide +kernel
theorem dL_law_452 : decode cL_law 452 = .ok (.iload_n 3, 1) := by decide +kernel
theorem dL_law_453 : decode cL_law 453 = .ok (.iconst 1, 1) := by decide +kernel
theorem dL_law_454 : decode cL_law 454 = .ok (.iadd, 1) := by decide +kernel
theorem dL_law_455 : decode cL_law 455 = .ok (.iaload, 1) := by decide +kernel
theorem dL_law_456 : decode cL_law 456 = .ok (.invokevirtual 54, 3) := by decide +kernel
theorem dL_law_459 : decode cL_law 459 = .ok (.if_icmp .eq 779, 3) := by decide +kernel
theorem dL_law_462 : decode cL_law 462 = .ok (.iconst 0, 1) := by decide +kernel
theorem dL_law_463 : decode cL_law 463 = .ok (.ireturn, 1) := by decide +kernel
theorem dL_law_464 : decode cL_law 464 = .ok (.aload_n 1, 1) := by decide +kernel
theorem dL_law_465 : decode cL_law 465 = .ok (.aload_n 0, 1) := by decide +kernel
theorem dL_law_466 : decode cL_law 466 = .ok (.iload_n 3, 1) := by decide +kernel
theorem dL_law_467 : decode cL_law 467 = .ok (.iconst 1, 1) := by decide +kernel
theorem dL_law_468 : decode cL_law 468 = .ok (.iadd, 1) := by decide +kernel
theorem dL_law_469 : decode cL_law 469 = .ok (.iaload, 1) := by decide +kernel
theorem dL_law_470 : decode cL_law 470 = .ok (.invokevirtual 55, 3) := by decide +kernel
theorem dL_law_473 : decode cL_law 473 = .ok (.aload_n 2, 1) := by decide +kernel
theorem dL_law_474 : decode cL_law 474 = .ok (.aload_n 0, 1) := by decide +kernel
theorem dL_law_475 : decode cL_law 475 = .ok (.iload_n 3, 1) := by decide +kernel
theorem dL_law_476 : decode cL_law 476 = .ok (.iconst 1, 1) := by decide +kernel
theorem dL_law_477 : decode cL_law 477 = .ok (.iadd, 1) := by decide +kernel
theorem dL_law_478 : decode cL_law 478 = .ok (.iaload, 1) := by decide +kernel
theorem dL_law_479 : decode cL_law 479 = .ok (.invokevirtual 58, 3) := by decide +kernel
theorem dL_law_482 : decode cL_law 482 = .ok (.if_icmp .eq 756, 3) := by decide +kernel
theorem dL_law_485 : decode cL_law 485 = .ok (.iconst 0, 1) := by decide +kernel
theorem dL_law_486 : decode cL_law 486 = .ok (.ireturn, 1) := by decide +kernel
theorem dL_law_487 : decode cL_law 487 = .ok (.aload_n 1, 1) := by decide +kernel
theorem dL_law_488 : decode cL_law 488 = .ok (.aload_n 0, 1) := by decide +kernel
theorem dL_law_489 : decode cL_law 489 = .ok (.iload_n 3, 1) := by decide +kernel
theorem dL_law_490 : decode cL_law 490 = .ok (.iconst 1, 1) := by decide +kernel
theorem dL_law_491 : decode cL_law 491 = .ok (.iadd, 1) := by decide +kernel
theorem dL_law_492 : decode cL_law 492 = .ok (.iaload, 1) := by decide +kernel
theorem dL_law_493 : decode cL_law 493 = .ok (.invokevirtual 59, 3) := by decide +kernel
theorem dL_law_496 : decode cL_law 496 = .ok (.aload_n 2, 1) := by decide +kernel
theorem dL_law_497 : decode cL_law 497 = .ok (.aload_n 0, 1) := by decide +kernel
theorem dL_law_498 : decode cL_law 498 = .ok (.iload_n 3, 1) := by decide +kernel
theorem dL_law_499 : decode cL_law 499 = .ok (.iconst 1, 1) := by decide +kernel
theorem dL_law_500 : decode cL_law 500 = .ok (.iadd, 1) := by decide +kernel
theorem dL_law_501 : decode cL_law 501 = .ok (.iaload, 1) := by decide +kernel
theorem dL_law_502 : decode cL_law 502 = .ok (.invokevirtual 62, 3) := by decide +kernel
theorem dL_law_505 : decode cL_law 505 = .ok (.if_icmp .eq 733, 3) := by decide +kernel
theorem dL_law_508 : decode cL_law 508 = .ok (.iconst 0, 1) := by decide +kernel
theorem dL_law_509 : decode cL_law 509 = .ok (.ireturn, 1) := by decide +kernel
theorem dL_law_510 : decode cL_law 510 = .ok (.aload_n 1, 1) := by decide +kernel
theorem dL_law_511 : decode cL_law 511 = .ok (.aload_n 0, 1) := by decide +kernel
theorem dL_law_512 : decode cL_law 512 = .ok (.iload_n 3, 1) := by decide +kernel
theorem dL_law_513 : decode cL_law 513 = .ok (.iconst 1, 1) := by decide +kernel
theorem dL_law_514 : decode cL_law 514 = .ok (.iadd, 1) := by decide +kernel
theorem dL_law_515 : decode cL_law 515 = .ok (.iaload, 1) := by decide +kernel
theorem dL_law_516 : decode cL_law 516 = .ok (.aload_n 0, 1) := by decide +kernel
theorem dL_law_517 : decode cL_law 517 = .ok (.iload_n 3, 1) := by decide +kernel
theorem dL_law_518 : decode cL_law 518 = .ok (.iconst 2, 1) := by decide +kernel
theorem dL_law_519 : decode cL_law 519 = .ok (.iadd, 1) := by decide +kernel
theorem dL_law_520 : decode cL_law 520 = .ok (.iaload, 1) := by decide +kernel
theorem dL_law_521 : decode cL_law 521 = .ok (.invokevirtual 63, 3) := by decide +kernel
theorem dL_law_524 : decode cL_law 524 = .ok (.aload_n 2, 1) := by decide +kernel
theorem dL_law_525 : decode cL_law 525 = .ok (.aload_n 0, 1) := by decide +kernel
theorem dL_law_526 : decode cL_law 526 = .ok (.iload_n 3, 1) := by decide +kernel
theorem dL_law_527 : decode cL_law 527 = .ok (.iconst 1, 1) := by decide +kernel
theorem dL_law_528 : decode cL_law 528 = .ok (.iadd, 1) := by decide +kernel
theorem dL_law_529 : decode cL_law 529 = .ok (.iaload, 1) := by decide +kernel
theorem dL_law_530 : decode cL_law 530 = .ok (.aload_n 0, 1) := by decide +kernel
theorem dL_law_531 : decode cL_law 531 = .ok (.iload_n 3, 1) := by decide +kernel
theorem dL_law_532 : decode cL_law 532 = .ok (.iconst 2, 1) := by decide +kernel
theorem dL_law_533 : decode cL_law 533 = .ok (.iadd, 1) := by decide +kernel
theorem dL_law_534 : decode cL_law 534 = .ok (.iaload, 1) := by decide +kernel
theorem dL_law_535 : decode cL_law 535 = .ok (.invokevirtual 66, 3) := by decide +kernel
theorem dL_law_538 : decode cL_law 538 = .ok (.if_icmp .eq 700, 3) := by decide +kernel
theorem dL_law_541 : decode cL_law 541 = .ok (.iconst 0, 1) := by decide +kernel
theorem dL_law_542 : decode cL_law 542 = .ok (.ireturn, 1) := by decide +kernel
theorem dL_law_543 : decode cL_law 543 = .ok (.aload_n 1, 1) := by decide +kernel
theorem dL_law_544 : decode cL_law 544 = .ok (.aload_n 0, 1) := by decide +kernel
theorem dL_law_545 : decode cL_law 545 = .ok (.iload_n 3, 1) := by decide +kernel
theorem dL_law_546 : decode cL_law 546 = .ok (.iconst 1, 1) := by decide +kernel
theorem dL_law_547 : decode cL_law 547 = .ok (.iadd, 1) := by decide +kernel
theorem dL_law_548 : decode cL_law 548 = .ok (.iaload, 1) := by decide +kernel
theorem dL_law_549 : decode cL_law 549 = .ok (.aload_n 0, 1) := by decide +kernel
theorem dL_law_550 : decode cL_law 550 = .ok (.iload_n 3, 1) := by decide +kernel
theorem dL_law_551 : decode cL_law 551 = .ok (.iconst 2, 1) := by decide +kernel
theorem dL_law_552 : decode cL_law 552 = .ok (.iadd, 1) := by decide +kernel
theorem dL_law_553 : decode cL_law 553 = .ok (.iaload, 1) := by decide +kernel
theorem dL_law_554 : decode cL_law 554 = .ok (.invokevirtual 67, 3) := by decide +kernel
theorem dL_law_557 : decode cL_law 557 = .ok (.aload_n 2, 1) := by decide +kernel
theorem dL_law_558 : decode cL_law 558 = .ok (.aload_n 0, 1) := by decide +kernel
theorem dL_law_559 : decode cL_law 559 = .ok (.iload_n 3, 1) := by decide +kernel
theorem dL_law_560 : decode cL_law 560 = .ok (.iconst 1, 1) := by decide +kernel
theorem dL_law_561 : decode cL_law 561 = .ok (.iadd, 1) := by decide +kernel
theorem dL_law_562 : decode cL_law 562 = .ok (.iaload, 1) := by decide +kernel
theorem dL_law_563 : decode cL_law 563 = .ok (.aload_n 0, 1) := by decide +kernel
theorem dL_law_564 : decode cL_law 564 = .ok (.iload_n 3, 1) := by decide +kernel
theorem dL_law_565 : decode cL_law 565 = .ok (.iconst 2, 1) := by decide +kernel
theorem dL_law_566 : decode cL_law 566 = .ok (.iadd, 1) := by decide +kernel
theorem dL_law_567 : decode cL_law 567 = .ok (.iaload, 1) := by decide +kernel
theorem dL_law_568 : decode cL_law 568 = .ok (.invokevirtual 70, 3) := by decide +kernel
theorem dL_law_571 : decode cL_law 571 = .ok (.if_icmp .eq 667, 3) := by decide +kernel
theorem dL_law_574 : decode cL_law 574 = .ok (.iconst 0, 1) := by decide +kernel
theorem dL_law_575 : decode cL_law 575 = .ok (.ireturn, 1) := by decide +kernel
theorem dL_law_576 : decode cL_law 576 = .ok (.aload_n 1, 1) := by decide +kernel
theorem dL_law_577 : decode cL_law 577 = .ok (.aload_n 0, 1) := by decide +kernel
theorem dL_law_578 : decode cL_law 578 = .ok (.iload_n 3, 1) := by decide +kernel
theorem dL_law_579 : decode cL_law 579 = .ok (.iconst 1, 1) := by decide +kernel
theorem dL_law_580 : decode cL_law 580 = .ok (.iadd, 1) := by decide +kernel
theorem dL_law_581 : decode cL_law 581 = .ok (.iaload, 1) := by decide +kernel
theorem dL_law_582 : decode cL_law 582 = .ok (.invokevirtual 71, 3) := by decide +kernel
theorem dL_law_585 : decode cL_law 585 = .ok (.aload_n 2, 1) := by decide +kernel
theorem dL_law_586 : decode cL_law 586 = .ok (.aload_n 0, 1) := by decide +kernel
theorem dL_law_587 : decode cL_law 587 = .ok (.iload_n 3, 1) := by decide +kernel
theorem dL_law_588 : decode cL_law 588 = .ok (.iconst 1, 1) := by decide +kernel
theorem dL_law_589 : decode cL_law 589 = .ok (.iadd, 1) := by decide +kernel
theorem dL_law_590 : decode cL_law 590 = .ok (.iaload, 1) := by decide +kernel
theorem dL_law_591 : decode cL_law 591 = .ok (.invokevirtual 74, 3) := by decide +kernel
theorem dL_law_594 : decode cL_law 594 = .ok (.if_icmp .eq 644, 3) := by decide +kernel
theorem dL_law_597 : decode cL_law 597 = .ok (.iconst 0, 1) := by decide +kernel
theorem dL_law_598 : decode cL_law 598 = .ok (.ireturn, 1) := by decide +kernel
theorem dL_law_599 : decode cL_law 599 = .ok (.aload_n 1, 1) := by decide +kernel
theorem dL_law_600 : decode cL_law 600 = .ok (.invokevirtual 75, 3) := by decide +kernel
theorem dL_law_603 : decode cL_law 603 = .ok (.aload_n 2, 1) := by decide +kernel
theorem dL_law_604 : decode cL_law 604 = .ok (.invokevirtual 79, 3) := by decide +kernel
theorem dL_law_607 : decode cL_law 607 = .ok (.if_icmp .eq 631, 3) := by decide +kernel
theorem dL_law_610 : decode cL_law 610 = .ok (.iconst 0, 1) := by decide +kernel
theorem dL_law_611 : decode cL_law 611 = .ok (.ireturn, 1) := by decide +kernel
theorem dL_law_612 : decode cL_law 612 = .ok (.aload_n 1, 1) := by decide +kernel
theorem dL_law_613 : decode cL_law 613 = .ok (.aload_n 0, 1) := by decide +kernel
theorem dL_law_614 : decode cL_law 614 = .ok (.iload_n 3, 1) := by decide +kernel
theorem dL_law_615 : decode cL_law 615 = .ok (.iconst 1, 1) := by decide +kernel
theorem dL_law_616 : decode cL_law 616 = .ok (.iadd, 1) := by decide +kernel
theorem dL_law_617 : decode cL_law 617 = .ok (.iaload, 1) := by decide +kernel
theorem dL_law_618 : decode cL_law 618 = .ok (.aload_n 0, 1) := by decide +kernel
theorem dL_law_619 : decode cL_law 619 = .ok (.iload_n 3, 1) := by decide +kernel
theorem dL_law_620 : decode cL_law 620 = .ok (.iconst 2, 1) := by decide +kernel
theorem dL_law_621 : decode cL_law 621 = .ok (.iadd, 1) := by decide +kernel
theorem dL_law_622 : decode cL_law 622 = .ok (.iaload, 1) := by decide +kernel
theorem dL_law_623 : decode cL_law 623 = .ok (.invokevirtual 80, 3) := by decide +kernel
theorem dL_law_626 : decode cL_law 626 = .ok (.aload_n 2, 1) := by decide +kernel
theorem dL_law_627 : decode cL_law 627 = .ok (.aload_n 0, 1) := by decide +kernel
theorem dL_law_628 : decode cL_law 628 = .ok (.iload_n 3, 1) := by decide +kernel
theorem dL_law_629 : decode cL_law 629 = .ok (.iconst 1, 1) := by decide +kernel
theorem dL_law_630 : decode cL_law 630 = .ok (.iadd, 1) := by decide +kernel
theorem dL_law_631 : decode cL_law 631 = .ok (.iaload, 1) := by decide +kernel
theorem dL_law_632 : decode cL_law 632 = .ok (.aload_n 0, 1) := by decide +kernel
theorem dL_law_633 : decode cL_law 633 = .ok (.iload_n 3, 1) := by decide +kernel
theorem dL_law_634 : decode cL_law 634 = .ok (.iconst 2, 1) := by decide +kernel
theorem dL_law_635 : decode cL_law 635 = .ok (.iadd, 1) := by decide +kernel
theorem dL_law_636 : decode cL_law 636 = .ok (.iaload, 1) := by decide +kernel
theorem dL_law_637 : decode cL_law 637 = .ok (.invokevirtual 83, 3) := by decide +kernel
theorem dL_law_640 : decode cL_law 640 = .ok (.if_icmp .eq 598, 3) := by decide +kernel
theorem dL_law_643 : decode cL_law 643 = .ok (.iconst 0, 1) := by decide +kernel
theorem dL_law_644 : decode cL_law 644 = .ok (.ireturn, 1) := by decide +kernel
theorem dL_law_645 : decode cL_law 645 = .ok (.aload_n 1, 1) := by decide +kernel
theorem dL_law_646 : decode cL_law 646 = .ok (.aload_n 0, 1) := by decide +kernel
theorem dL_law_647 : decode cL_law 647 = .ok (.iload_n 3, 1) := by decide +kernel
theorem dL_law_648 : decode cL_law 648 = .ok (.iconst 1, 1) := by decide +kernel
theorem dL_law_649 : decode cL_law 649 = .ok (.iadd, 1) := by decide +kernel
theorem dL_law_650 : decode cL_law 650 = .ok (.iaload, 1) := by decide +kernel
theorem dL_law_651 : decode cL_law 651 = .ok (.aload_n 0, 1) := by decide +kernel
theorem dL_law_652 : decode cL_law 652 = .ok (.iload_n 3, 1) := by decide +kernel
theorem dL_law_653 : decode cL_law 653 = .ok (.iconst 2, 1) := by decide +kernel
theorem dL_law_654 : decode cL_law 654 = .ok (.iadd, 1) := by decide +kernel
theorem dL_law_655 : decode cL_law 655 = .ok (.iaload, 1) := by decide +kernel
theorem dL_law_656 : decode cL_law 656 = .ok (.invokevirtual 84, 3) := by decide +kernel
theorem dL_law_659 : decode cL_law 659 = .ok (.aload_n 2, 1) := by decide +kernel
theorem dL_law_660 : decode cL_law 660 = .ok (.aload_n 0, 1) := by decide +kernel
theorem dL_law_661 : decode cL_law 661 = .ok (.iload_n 3, 1) := by decide +kernel
theorem dL_law_662 : decode cL_law 662 = .ok (.iconst 1, 1) := by decide +kernel
theorem dL_law_663 : decode cL_law 663 = .ok (.iadd, 1) := by decide +kernel
theorem dL_law_664 : decode cL_law 664 = .ok (.iaload, 1) := by decide +kernel
theorem dL_law_665 : decode cL_law 665 = .ok (.aload_n 0, 1) := by decide +kernel
theorem dL_law_666 : decode cL_law 666 = .ok (.iload_n 3, 1) := by decide +kernel
theorem dL_law_667 : decode cL_law 667 = .ok (.iconst 2, 1) := by decide +kernel
theorem dL_law_668 : decode cL_law 668 = .ok (.iadd, 1) := by decide +kernel
theorem dL_law_669 : decode cL_law 669 = .ok (.iaload, 1) := by decide +kernel
theorem dL_law_670 : decode cL_law 670 = .ok (.invokevirtual 87, 3) := by decide +kernel
theorem dL_law_673 : decode cL_law 673 = .ok (.if_icmp .eq 565, 3) := by decide +kernel
theorem dL_law_676 : decode cL_law 676 = .ok (.iconst 0, 1) := by decide +kernel
theorem dL_law_677 : decode cL_law 677 = .ok (.ireturn, 1) := by decide +kernel
theorem dL_law_678 : decode cL_law 678 = .ok (.aload_n 1, 1) := by decide +kernel
theorem dL_law_679 : decode cL_law 679 = .ok (.aload_n 0, 1) := by decide +kernel
theorem dL_law_680 : decode cL_law 680 = .ok (.iload_n 3, 1) := by decide +kernel
theorem dL_law_681 : decode cL_law 681 = .ok (.iconst 1, 1) := by decide +kernel
theorem dL_law_682 : decode cL_law 682 = .ok (.iadd, 1) := by decide +kernel
theorem dL_law_683 : decode cL_law 683 = .ok (.iaload, 1) := by decide +kernel
theorem dL_law_684 : decode cL_law 684 = .ok (.aload_n 0, 1) := by decide +kernel
theorem dL_law_685 : decode cL_law 685 = .ok (.iload_n 3, 1) := by decide +kernel
theorem dL_law_686 : decode cL_law 686 = .ok (.iconst 2, 1) := by decide +kernel
theorem dL_law_687 : decode cL_law 687 = .ok (.iadd, 1) := by decide +kernel
theorem dL_law_688 : decode cL_law 688 = .ok (.iaload, 1) := by decide +kernel
theorem dL_law_689 : decode cL_law 689 = .ok (.aload_n 0, 1) := by decide +kernel
theorem dL_law_690 : decode cL_law 690 = .ok (.iload_n 3, 1) := by decide +kernel
theorem dL_law_691 : decode cL_law 691 = .ok (.iconst 3, 1) := by decide +kernel
theorem dL_law_692 : decode cL_law 692 = .ok (.iadd, 1) := by decide +kernel
theorem dL_law_693 : decode cL_law 693 = .ok (.iaload, 1) := by decide +kernel
theorem dL_law_694 : decode cL_law 694 = .ok (.aload_n 0, 1) := by decide +kernel
theorem dL_law_695 : decode cL_law 695 = .ok (.iload_n 3, 1) := by decide +kernel
theorem dL_law_696 : decode cL_law 696 = .ok (.iconst 4, 1) := by decide +kernel
theorem dL_law_697 : decode cL_law 697 = .ok (.iadd, 1) := by decide +kernel
theorem dL_law_698 : decode cL_law 698 = .ok (.iaload, 1) := by decide +kernel
theorem dL_law_699 : decode cL_law 699 = .ok (.invokevirtual 88, 3) := by decide +kernel
theorem dL_law_702 : decode cL_law 702 = .ok (.aload_n 2, 1) := by decide +kernel
theorem dL_law_703 : decode cL_law 703 = .ok (.aload_n 0, 1) := by decide +kernel
theorem dL_law_704 : decode cL_law 704 = .ok (.iload_n 3, 1) := by decide +kernel
theorem dL_law_705 : decode cL_law 705 = .ok (.iconst 1, 1) := by decide +kernel
theorem dL_law_706 : decode cL_law 706 = .ok (.iadd, 1) := by decide +kernel
theorem dL_law_707 : decode cL_law 707 = .ok (.iaload, 1) := by decide +kernel
theorem dL_law_708 : decode cL_law 708 = .ok (.aload_n 0, 1) := by decide +kernel
theorem dL_law_709 : decode cL_law 709 = .ok (.iload_n 3, 1) := by decide +kernel
theorem dL_law_710 : decode cL_law 710 = .ok (.iconst 2, 1) := by decide +kernel
theorem dL_law_711 : decode cL_law 711 = .ok (.iadd, 1) := by decide +kernel
theorem dL_law_712 : decode cL_law 712 = .ok (.iaload, 1) := by decide +kernel
theorem dL_law_713 : decode cL_law 713 = .ok (.aload_n 0, 1) := by decide +kernel
theorem dL_law_714 : decode cL_law 714 = .ok (.iload_n 3, 1) := by decide +kernel
theorem dL_law_715 : decode cL_law 715 = .ok (.iconst 3, 1) := by decide +kernel
theorem dL_law_716 : decode cL_law 716 = .ok (.iadd, 1) := by decide +kernel
theorem dL_law_717 : decode cL_law 717 = .ok (.iaload, 1) := by decide +kernel
theorem dL_law_718 : decode cL_law 718 = .ok (.aload_n 0, 1) := by decide +kernel
theorem dL_law_719 : decode cL_law 719 = .ok (.iload_n 3, 1) := by decide +kernel
theorem dL_law_720 : decode cL_law 720 = .ok (.iconst 4, 1) := by decide +kernel
theorem dL_law_721 : decode cL_law 721 = .ok (.iadd, 1) := by decide +kernel
theorem dL_law_722 : decode cL_law 722 = .ok (.iaload, 1) := by decide +kernel
theorem dL_law_723 : decode cL_law 723 = .ok (.invokevirtual 92, 3) := by decide +kernel
theorem dL_law_726 : decode cL_law 726 = .ok (.if_icmp .eq 512, 3) := by decide +kernel
theorem dL_law_729 : decode cL_law 729 = .ok (.iconst 0, 1) := by decide +kernel
theorem dL_law_730 : decode cL_law 730 = .ok (.ireturn, 1) := by decide +kernel
theorem dL_law_731 : decode cL_law 731 = .ok (.aload_n 1, 1) := by decide +kernel
theorem dL_law_732 : decode cL_law 732 = .ok (.aload_n 0, 1) := by decide +kernel
theorem dL_law_733 : decode cL_law 733 = .ok (.iload_n 3, 1) := by decide +kernel
theorem dL_law_734 : decode cL_law 734 = .ok (.iconst 1, 1) := by decide +kernel
theorem dL_law_735 : decode cL_law 735 = .ok (.iadd, 1) := by decide +kernel
theorem dL_law_736 : decode cL_law 736 = .ok (.iaload, 1) := by decide +kernel
theorem dL_law_737 : decode cL_law 737 = .ok (.aload_n 0, 1) := by decide +kernel
theorem dL_law_738 : decode cL_law 738 = .ok (.iload_n 3, 1) := by decide +kernel
theorem dL_law_739 : decode cL_law 739 = .ok (.iconst 2, 1) := by decide +kernel
theorem dL_law_740 : decode cL_law 740 = .ok (.iadd, 1) := by decide +kernel
theorem dL_law_741 : decode cL_law 741 = .ok (.iaload, 1) := by decide +kernel
theorem dL_law_742 : decode cL_law 742 = .ok (.invokevirtual 93, 3) := by decide +kernel
theorem dL_law_745 : decode cL_law 745 = .ok (.aload_n 2, 1) := by decide +kernel
theorem dL_law_746 : decode cL_law 746 = .ok (.aload_n 0, 1) := by decide +kernel
theorem dL_law_747 : decode cL_law 747 = .ok (.iload_n 3, 1) := by decide +kernel
theorem dL_law_748 : decode cL_law 748 = .ok (.iconst 1, 1) := by decide +kernel
theorem dL_law_749 : decode cL_law 749 = .ok (.iadd, 1) := by decide +kernel
theorem dL_law_750 : decode cL_law 750 = .ok (.iaload, 1) := by decide +kernel
theorem dL_law_751 : decode cL_law 751 = .ok (.aload_n 0, 1) := by decide +kernel
theorem dL_law_752 : decode cL_law 752 = .ok (.iload_n 3, 1) := by decide +kernel
theorem dL_law_753 : decode cL_law 753 = .ok (.iconst 2, 1) := by decide +kernel
theorem dL_law_754 : decode cL_law 754 = .ok (.iadd, 1) := by decide +kernel
theorem dL_law_755 : decode cL_law 755 = .ok (.iaload, 1) := by decide +kernel
theorem dL_law_756 : decode cL_law 756 = .ok (.invokevirtual 96, 3) := by decide +kernel
theorem dL_law_759 : decode cL_law 759 = .ok (.if_icmp .eq 479, 3) := by decide +kernel
theorem dL_law_762 : decode cL_law 762 = .ok (.iconst 0, 1) := by decide +kernel
theorem dL_law_763 : decode cL_law 763 = .ok (.ireturn, 1) := by decide +kernel
theorem dL_law_764 : decode cL_law 764 = .ok (.aload_n 1, 1) := by decide +kernel
theorem dL_law_765 : decode cL_law 765 = .ok (.invokevirtual 97, 3) := by decide +kernel
theorem dL_law_768 : decode cL_law 768 = .ok (.aload_n 2, 1) := by decide +kernel
theorem dL_law_769 : decode cL_law 769 = .ok (.invokevirtual 100, 3) := by decide +kernel
theorem dL_law_772 : decode cL_law 772 = .ok (.if_icmp .eq 466, 3) := by decide +kernel
theorem dL_law_775 : decode cL_law 775 = .ok (.iconst 0, 1) := by decide +kernel
theorem dL_law_776 : decode cL_law 776 = .ok (.ireturn, 1) := by decide +kernel
theorem dL_law_777 : decode cL_law 777 = .ok (.aload_n 1, 1) := by decide +kernel
theorem dL_law_778 : decode cL_law 778 = .ok (.invokevirtual 101, 3) := by decide +kernel
theorem dL_law_781 : decode cL_law 781 = .ok (.aload_n 2, 1) := by decide +kernel
theorem dL_law_782 : decode cL_law 782 = .ok (.invokevirtual 104, 3) := by decide +kernel
theorem dL_law_785 : decode cL_law 785 = .ok (.if_icmp .eq 453, 3) := by decide +kernel
theorem dL_law_788 : decode cL_law 788 = .ok (.iconst 0, 1) := by decide +kernel
theorem dL_law_789 : decode cL_law 789 = .ok (.ireturn, 1) := by decide +kernel
theorem dL_law_790 : decode cL_law 790 = .ok (.aload_n 1, 1) := by decide +kernel
theorem dL_law_791 : decode cL_law 791 = .ok (.aload_n 0, 1) := by decide +kernel
theorem dL_law_792 : decode cL_law 792 = .ok (.iload_n 3, 1) := by decide +kernel
theorem dL_law_793 : decode cL_law 793 = .ok (.iconst 1, 1) := by decide +kernel
theorem dL_law_794 : decode cL_law 794 = .ok (.iadd, 1) := by decide +kernel
theorem dL_law_795 : decode cL_law 795 = .ok (.iaload, 1) := by decide +kernel
theorem dL_law_796 : decode cL_law 796 = .ok (.invokevirtual 105, 3) := by decide +kernel
theorem dL_law_799 : decode cL_law 799 = .ok (.aload_n 2, 1) := by decide +kernel
theorem dL_law_800 : decode cL_law 800 = .ok (.aload_n 0, 1) := by decide +kernel
theorem dL_law_801 : decode cL_law 801 = .ok (.iload_n 3, 1) := by decide +kernel
theorem dL_law_802 : decode cL_law 802 = .ok (.iconst 1, 1) := by decide +kernel
theorem dL_law_803 : decode cL_law 803 = .ok (.iadd, 1) := by decide +kernel
theorem dL_law_804 : decode cL_law 804 = .ok (.iaload, 1) := by decide +kernel
theorem dL_law_805 : decode cL_law 805 = .ok (.invokevirtual 108, 3) := by decide +kernel
theorem dL_law_808 : decode cL_law 808 = .ok (.if_icmp .eq 430, 3) := by decide +kernel
theorem dL_law_811 : decode cL_law 811 = .ok (.iconst 0, 1) := by decide +kernel
theorem dL_law_812 : decode cL_law 812 = .ok (.ireturn, 1) := by decide +kernel
theorem dL_law_813 : decode cL_law 813 = .ok (.aload_n 1, 1) := by decide +kernel
theorem dL_law_814 : decode cL_law 814 = .ok (.aload_n 0, 1) := by decide +kernel
theorem dL_law_815 : decode cL_law 815 = .ok (.iload_n 3, 1) := by decide +kernel
theorem dL_law_816 : decode cL_law 816 = .ok (.iconst 1, 1) := by decide +kernel
theorem dL_law_817 : decode cL_law 817 = .ok (.iadd, 1) := by decide +kernel
theorem dL_law_818 : decode cL_law 818 = .ok (.iaload, 1) := by decide +kernel
theorem dL_law_819 : decode cL_law 819 = .ok (.invokevirtual 109, 3) := by decide +kernel
theorem dL_law_822 : decode cL_law 822 = .ok (.aload_n 2, 1) := by decide +kernel
theorem dL_law_823 : decode cL_law 823 = .ok (.aload_n 0, 1) := by decide +kernel
theorem dL_law_824 : decode cL_law 824 = .ok (.iload_n 3, 1) := by decide +kernel
theorem dL_law_825 : decode cL_law 825 = .ok (.iconst 1, 1) := by decide +kernel
theorem dL_law_826 : decode cL_law 826 = .ok (.iadd, 1) := by decide +kernel
theorem dL_law_827 : decode cL_law 827 = .ok (.iaload, 1) := by decide +kernel
theorem dL_law_828 : decode cL_law 828 = .ok (.invokevirtual 112, 3) := by decide +kernel
theorem dL_law_831 : decode cL_law 831 = .ok (.if_icmp .eq 407, 3) := by decide +kernel
theorem dL_law_834 : decode cL_law 834 = .ok (.iconst 0, 1) := by decide +kernel
theorem dL_law_835 : decode cL_law 835 = .ok (.ireturn, 1) := by decide +kernel
theorem dL_law_836 : decode cL_law 836 = .ok (.aload_n 1, 1) := by decide +kernel
theorem dL_law_837 : decode cL_law 837 = .ok (.aload_n 0, 1) := by decide +kernel
theorem dL_law_838 : decode cL_law 838 = .ok (.iload_n 3, 1) := by decide +kernel
theorem dL_law_839 : decode cL_law 839 = .ok (.iconst 1, 1) := by decide +kernel
theorem dL_law_840 : decode cL_law 840 = .ok (.iadd, 1) := by decide +kernel
theorem dL_law_841 : decode cL_law 841 = .ok (.iaload, 1) := by decide +kernel
theorem dL_law_842 : decode cL_law 842 = .ok (.aload_n 0, 1) := by decide +kernel
theorem dL_law_843 : decode cL_law 843 = .ok (.iload_n 3, 1) := by decide +kernel
theorem dL_law_844 : decode cL_law 844 = .ok (.iconst 2, 1) := by decide +kernel
theorem dL_law_845 : decode cL_law 845 = .ok (.iadd, 1) := by decide +kernel
theorem dL_law_846 : decode cL_law 846 = .ok (.iaload, 1) := by decide +kernel
theorem dL_law_847 : decode cL_law 847 = .ok (.aload_n 0, 1) := by decide +kernel
theorem dL_law_848 : decode cL_law 848 = .ok (.iload_n 3, 1) := by decide +kernel
theorem dL_law_849 : decode cL_law 849 = .ok (.iconst 3, 1) := by decide +kernel
theorem dL_law_850 : decode cL_law 850 = .ok (.iadd, 1) := by decide +kernel
theorem dL_law_851 : decode cL_law 851 = .ok (.iaload, 1) := by decide +kernel
theorem dL_law_852 : decode cL_law 852 = .ok (.aload_n 0, 1) := by decide +kernel
theorem dL_law_853 : decode cL_law 853 = .ok (.iload_n 3, 1) := by decide +kernel
theorem dL_law_854 : decode cL_law 854 = .ok (.iconst 4, 1) := by decide +kernel
theorem dL_law_855 : decode cL_law 855 = .ok (.iadd, 1) := by decide +kernel
theorem dL_law_856 : decode cL_law 856 = .ok (.iaload, 1) := by decide +kernel
theorem dL_law_857 : decode cL_law 857 = .ok (.aload_n 0, 1) := by decide +kernel
theorem dL_law_858 : decode cL_law 858 = .ok (.iload_n 3, 1) := by decide +kernel
theorem dL_law_859 : decode cL_law 859 = .ok (.iconst 5, 1) := by decide +kernel
theorem dL_law_860 : decode cL_law 860 = .ok (.iadd, 1) := by decide +kernel
theorem dL_law_861 : decode cL_law 861 = .ok (.iaload, 1) := by decide +kernel
theorem dL_law_862 : decode cL_law 862 = .ok (.invokevirtual 113, 3) := by decide +kernel
theorem dL_law_865 : decode cL_law 865 = .ok (.aload_n 2, 1) := by decide +kernel
theorem dL_law_866 : decode cL_law 866 = .ok (.aload_n 0, 1) := by decide +kernel
theorem dL_law_867 : decode cL_law 867 = .ok (.iload_n 3, 1) := by decide +kernel
theorem dL_law_868 : decode cL_law 868 = .ok (.iconst 1, 1) := by decide +kernel
theorem dL_law_869 : decode cL_law 869 = .ok (.iadd, 1) := by decide +kernel
theorem dL_law_870 : decode cL_law 870 = .ok (.iaload, 1) := by decide +kernel
theorem dL_law_871 : decode cL_law 871 = .ok (.aload_n 0, 1) := by decide +kernel
theorem dL_law_872 : decode cL_law 872 = .ok (.iload_n 3, 1) := by decide +kernel
theorem dL_law_873 : decode cL_law 873 = .ok (.iconst 2, 1) := by decide +kernel
theorem dL_law_874 : decode cL_law 874 = .ok (.iadd, 1) := by decide +kernel
theorem dL_law_875 : decode cL_law 875 = .ok (.iaload, 1) := by decide +kernel
theorem dL_law_876 : decode cL_law 876 = .ok (.aload_n 0, 1) := by decide +kernel
theorem dL_law_877 : decode cL_law 877 = .ok (.iload_n 3, 1) := by decide +kernel
theorem dL_law_878 : decode cL_law 878 = .ok (.iconst 3, 1) := by decide +kernel
theorem dL_law_879 : decode cL_law 879 = .ok (.iadd, 1) := by decide +kernel
theorem dL_law_880 : decode cL_law 880 = .ok (.iaload, 1) := by decide +kernel
theorem dL_law_881 : decode cL_law 881 = .ok (.aload_n 0, 1) := by decide +kernel
theorem dL_law_882 : decode cL_law 882 = .ok (.iload_n 3, 1) := by decide +kernel
theorem dL_law_883 : decode cL_law 883 = .ok (.iconst 4, 1) := by decide +kernel
theorem dL_law_884 : decode cL_law 884 = .ok (.iadd, 1) := by decide +kernel
theorem dL_law_885 : decode cL_law 885 = .ok (.iaload, 1) := by decide +kernel
theorem dL_law_886 : decode cL_law 886 = .ok (.aload_n 0, 1) := by decide +kernel
theorem dL_law_887 : decode cL_law 887 = .ok (.iload_n 3, 1) := by decide +kernel
theorem dL_law_888 : decode cL_law 888 = .ok (.iconst 5, 1) := by decide +kernel
theorem dL_law_889 : decode cL_law 889 = .ok (.iadd, 1) := by decide +kernel
theorem dL_law_890 : decode cL_law 890 = .ok (.iaload, 1) := by decide +kernel
theorem dL_law_891 : decode cL_law 891 = .ok (.invokevirtual 117, 3) := by decide +kernel
theorem dL_law_894 : decode cL_law 894 = .ok (.lcmp, 1) := by decide +kernel
theorem dL_law_895 : decode cL_law 895 = .ok (.ifCond .eq 343, 3) := by decide +kernel
theorem dL_law_898 : decode cL_law 898 = .ok (.iconst 0, 1) := by decide +kernel
theorem dL_law_899 : decode cL_law 899 = .ok (.ireturn, 1) := by decide +kernel
theorem dL_law_900 : decode cL_law 900 = .ok (.aload_n 1, 1) := by decide +kernel
theorem dL_law_901 : decode cL_law 901 = .ok (.aload_n 0, 1) := by decide +kernel
theorem dL_law_902 : decode cL_law 902 = .ok (.iload_n 3, 1) := by decide +kernel
theorem dL_law_903 : decode cL_law 903 = .ok (.iconst 1, 1) := by decide +kernel
theorem dL_law_904 : decode cL_law 904 = .ok (.iadd, 1) := by decide +kernel
theorem dL_law_905 : decode cL_law 905 = .ok (.iaload, 1) := by decide +kernel
theorem dL_law_906 : decode cL_law 906 = .ok (.aload_n 0, 1) := by decide +kernel
theorem dL_law_907 : decode cL_law 907 = .ok (.iload_n 3, 1) := by decide +kernel
theorem dL_law_908 : decode cL_law 908 = .ok (.iconst 2, 1) := by decide +kernel
theorem dL_law_909 : decode cL_law 909 = .ok (.iadd, 1) := by decide +kernel
theorem dL_law_910 : decode cL_law 910 = .ok (.iaload, 1) := by decide +kernel
theorem dL_law_911 : decode cL_law 911 = .ok (.aload_n 0, 1) := by decide +kernel
theorem dL_law_912 : decode cL_law 912 = .ok (.iload_n 3, 1) := by decide +kernel
theorem dL_law_913 : decode cL_law 913 = .ok (.iconst 3, 1) := by decide +kernel
theorem dL_law_914 : decode cL_law 914 = .ok (.iadd, 1) := by decide +kernel
theorem dL_law_915 : decode cL_law 915 = .ok (.iaload, 1) := by decide +kernel
theorem dL_law_916 : decode cL_law 916 = .ok (.invokevirtual 118, 3) := by decide +kernel
theorem dL_law_919 : decode cL_law 919 = .ok (.aload_n 2, 1) := by decide +kernel
theorem dL_law_920 : decode cL_law 920 = .ok (.aload_n 0, 1) := by decide +kernel
theorem dL_law_921 : decode cL_law 921 = .ok (.iload_n 3, 1) := by decide +kernel
theorem dL_law_922 : decode cL_law 922 = .ok (.iconst 1, 1) := by decide +kernel
theorem dL_law_923 : decode cL_law 923 = .ok (.iadd, 1) := by decide +kernel
theorem dL_law_924 : decode cL_law 924 = .ok (.iaload, 1) := by decide +kernel
theorem dL_law_925 : decode cL_law 925 = .ok (.aload_n 0, 1) := by decide +kernel
theorem dL_law_926 : decode cL_law 926 = .ok (.iload_n 3, 1) := by decide +kernel
theorem dL_law_927 : decode cL_law 927 = .ok (.iconst 2, 1) := by decide +kernel
theorem dL_law_928 : decode cL_law 928 = .ok (.iadd, 1) := by decide +kernel
theorem dL_law_929 : decode cL_law 929 = .ok (.iaload, 1) := by decide +kernel
theorem dL_law_930 : decode cL_law 930 = .ok (.aload_n 0, 1) := by decide +kernel
theorem dL_law_931 : decode cL_law 931 = .ok (.iload_n 3, 1) := by decide +kernel
theorem dL_law_932 : decode cL_law 932 = .ok (.iconst 3, 1) := by decide +kernel
theorem dL_law_933 : decode cL_law 933 = .ok (.iadd, 1) := by decide +kernel
theorem dL_law_934 : decode cL_law 934 = .ok (.iaload, 1) := by decide +kernel
theorem dL_law_935 : decode cL_law 935 = .ok (.invokevirtual 122, 3) := by decide +kernel
theorem dL_law_938 : decode cL_law 938 = .ok (.if_icmp .eq 300, 3) := by decide +kernel
theorem dL_law_941 : decode cL_law 941 = .ok (.iconst 0, 1) := by decide +kernel
theorem dL_law_942 : decode cL_law 942 = .ok (.ireturn, 1) := by decide +kernel
theorem dL_law_943 : decode cL_law 943 = .ok (.aload_n 1, 1) := by decide +kernel
theorem dL_law_944 : decode cL_law 944 = .ok (.aload_n 0, 1) := by decide +kernel
theorem dL_law_945 : decode cL_law 945 = .ok (.iload_n 3, 1) := by decide +kernel
theorem dL_law_946 : decode cL_law 946 = .ok (.iconst 1, 1) := by decide +kernel
theorem dL_law_947 : decode cL_law 947 = .ok (.iadd, 1) := by decide +kernel
theorem dL_law_948 : decode cL_law 948 = .ok (.iaload, 1) := by decide +kernel
theorem dL_law_949 : decode cL_law 949 = .ok (.aload_n 0, 1) := by decide +kernel
theorem dL_law_950 : decode cL_law 950 = .ok (.iload_n 3, 1) := by decide +kernel
theorem dL_law_951 : decode cL_law 951 = .ok (.iconst 2, 1) := by decide +kernel
theorem dL_law_952 : decode cL_law 952 = .ok (.iadd, 1) := by decide +kernel
theorem dL_law_953 : decode cL_law 953 = .ok (.iaload, 1) := by decide +kernel
theorem dL_law_954 : decode cL_law 954 = .ok (.aload_n 0, 1) := by decide +kernel
theorem dL_law_955 : decode cL_law 955 = .ok (.iload_n 3, 1) := by decide +kernel
theorem dL_law_956 : decode cL_law 956 = .ok (.iconst 3, 1) := by decide +kernel
theorem dL_law_957 : decode cL_law 957 = .ok (.iadd, 1) := by decide +kernel
theorem dL_law_958 : decode cL_law 958 = .ok (.iaload, 1) := by decide +kernel
theorem dL_law_959 : decode cL_law 959 = .ok (.invokevirtual 123, 3) := by decide +kernel
theorem dL_law_962 : decode cL_law 962 = .ok (.aload_n 2, 1) := by decide +kernel
theorem dL_law_963 : decode cL_law 963 = .ok (.aload_n 0, 1) := by decide +kernel
theorem dL_law_964 : decode cL_law 964 = .ok (.iload_n 3, 1) := by decide +kernel
theorem dL_law_965 : decode cL_law 965 = .ok (.iconst 1, 1) := by decide +kernel
theorem dL_law_966 : decode cL_law 966 = .ok (.iadd, 1) := by decide +kernel
theorem dL_law_967 : decode cL_law 967 = .ok (.iaload, 1) := by decide +kernel
theorem dL_law_968 : decode cL_law 968 = .ok (.aload_n 0, 1) := by decide +kernel
theorem dL_law_969 : decode cL_law 969 = .ok (.iload_n 3, 1) := by decide +kernel
theorem dL_law_970 : decode cL_law 970 = .ok (.iconst 2, 1) := by decide +kernel
theorem dL_law_971 : decode cL_law 971 = .ok (.iadd, 1) := by decide +kernel
theorem dL_law_972 : decode cL_law 972 = .ok (.iaload, 1) := by decide +kernel
theorem dL_law_973 : decode cL_law 973 = .ok (.aload_n 0, 1) := by decide +kernel
theorem dL_law_974 : decode cL_law 974 = .ok (.iload_n 3, 1) := by decide +kernel
theorem dL_law_975 : decode cL_law 975 = .ok (.iconst 3, 1) := by decide +kernel
theorem dL_law_976 : decode cL_law 976 = .ok (.iadd, 1) := by decide +kernel
theorem dL_law_977 : decode cL_law 977 = .ok (.iaload, 1) := by decide +kernel
theorem dL_law_978 : decode cL_law 978 = .ok (.invokevirtual 126, 3) := by decide +kernel
theorem dL_law_981 : decode cL_law 981 = .ok (.if_icmp .eq 257, 3) := by decide +kernel
theorem dL_law_984 : decode cL_law 984 = .ok (.iconst 0, 1) := by decide +kernel
theorem dL_law_985 : decode cL_law 985 = .ok (.ireturn, 1) := by decide +kernel
theorem dL_law_986 : decode cL_law 986 = .ok (.aload_n 1, 1) := by decide +kernel
theorem dL_law_987 : decode cL_law 987 = .ok (.aload_n 0, 1) := by decide +kernel
theorem dL_law_988 : decode cL_law 988 = .ok (.iload_n 3, 1) := by decide +kernel
theorem dL_law_989 : decode cL_law 989 = .ok (.iconst 1, 1) := by decide +kernel
theorem dL_law_990 : decode cL_law 990 = .ok (.iadd, 1) := by decide +kernel
theorem dL_law_991 : decode cL_law 991 = .ok (.iaload, 1) := by decide +kernel
theorem dL_law_992 : decode cL_law 992 = .ok (.invokevirtual 127, 3) := by decide +kernel
theorem dL_law_995 : decode cL_law 995 = .ok (.aload_n 2, 1) := by decide +kernel
theorem dL_law_996 : decode cL_law 996 = .ok (.aload_n 0, 1) := by decide +kernel
theorem dL_law_997 : decode cL_law 997 = .ok (.iload_n 3, 1) := by decide +kernel
theorem dL_law_998 : decode cL_law 998 = .ok (.iconst 1, 1) := by decide +kernel
theorem dL_law_999 : decode cL_law 999 = .ok (.iadd, 1) := by decide +kernel
theorem dL_law_1000 : decode cL_law 1000 = .ok (.iaload, 1) := by decide +kernel
theorem dL_law_1001 : decode cL_law 1001 = .ok (.invokevirtual 130, 3) := by decide +kernel
theorem dL_law_1004 : decode cL_law 1004 = .ok (.if_icmp .eq 234, 3) := by decide +kernel
theorem dL_law_1007 : decode cL_law 1007 = .ok (.iconst 0, 1) := by decide +kernel
theorem dL_law_1008 : decode cL_law 1008 = .ok (.ireturn, 1) := by decide +kernel
theorem dL_law_1009 : decode cL_law 1009 = .ok (.aload_n 1, 1) := by decide +kernel
theorem dL_law_1010 : decode cL_law 1010 = .ok (.aload_n 0, 1) := by decide +kernel
theorem dL_law_1011 : decode cL_law 1011 = .ok (.iload_n 3, 1) := by decide +kernel
theorem dL_law_1012 : decode cL_law 1012 = .ok (.iconst 1, 1) := by decide +kernel
theorem dL_law_1013 : decode cL_law 1013 = .ok (.iadd, 1) := by decide +kernel
theorem dL_law_1014 : decode cL_law 1014 = .ok (.iaload, 1) := by decide +kernel
theorem dL_law_1015 : decode cL_law 1015 = .ok (.aload_n 0, 1) := by decide +kernel
theorem dL_law_1016 : decode cL_law 1016 = .ok (.iload_n 3, 1) := by decide +kernel
theorem dL_law_1017 : decode cL_law 1017 = .ok (.iconst 2, 1) := by decide +kernel
theorem dL_law_1018 : decode cL_law 1018 = .ok (.iadd, 1) := by decide +kernel
theorem dL_law_1019 : decode cL_law 1019 = .ok (.iaload, 1) := by decide +kernel
theorem dL_law_1020 : decode cL_law 1020 = .ok (.aload_n 0, 1) := by decide +kernel
theorem dL_law_1021 : decode cL_law 1021 = .ok (.iload_n 3, 1) := by decide +kernel
theorem dL_law_1022 : decode cL_law 1022 = .ok (.iconst 3, 1) := by decide +kernel
theorem dL_law_1023 : decode cL_law 1023 = .ok (.iadd, 1) := by decide +kernel
theorem dL_law_1024 : decode cL_law 1024 = .ok (.iaload, 1) := by decide +kernel
theorem dL_law_1025 : decode cL_law 1025 = .ok (.aload_n 0, 1) := by decide +kernel
theorem dL_law_1026 : decode cL_law 1026 = .ok (.iload_n 3, 1) := by decide +kernel
theorem dL_law_1027 : decode cL_law 1027 = .ok (.iconst 4, 1) := by decide +kernel
theorem dL_law_1028 : decode cL_law 1028 = .ok (.iadd, 1) := by decide +kernel
theorem dL_law_1029 : decode cL_law 1029 = .ok (.iaload, 1) := by decide +kernel
theorem dL_law_1030 : decode cL_law 1030 = .ok (.invokevirtual 131, 3) := by decide +kernel
theorem dL_law_1033 : decode cL_law 1033 = .ok (.aload_n 2, 1) := by decide +kernel
theorem dL_law_1034 : decode cL_law 1034 = .ok (.aload_n 0, 1) := by decide +kernel
theorem dL_law_1035 : decode cL_law 1035 = .ok (.iload_n 3, 1) := by decide +kernel
theorem dL_law_1036 : decode cL_law 1036 = .ok (.iconst 1, 1) := by decide +kernel
theorem dL_law_1037 : decode cL_law 1037 = .ok (.iadd, 1) := by decide +kernel
theorem dL_law_1038 : decode cL_law 1038 = .ok (.iaload, 1) := by decide +kernel
theorem dL_law_1039 : decode cL_law 1039 = .ok (.aload_n 0, 1) := by decide +kernel
theorem dL_law_1040 : decode cL_law 1040 = .ok (.iload_n 3, 1) := by decide +kernel
theorem dL_law_1041 : decode cL_law 1041 = .ok (.iconst 2, 1) := by decide +kernel
theorem dL_law_1042 : decode cL_law 1042 = .ok (.iadd, 1) := by decide +kernel
theorem dL_law_1043 : decode cL_law 1043 = .ok (.iaload, 1) := by decide +kernel
theorem dL_law_1044 : decode cL_law 1044 = .ok (.aload_n 0, 1) := by decide +kernel
theorem dL_law_1045 : decode cL_law 1045 = .ok (.iload_n 3, 1) := by decide +kernel
theorem dL_law_1046 : decode cL_law 1046 = .ok (.iconst 3, 1) := by decide +kernel
theorem dL_law_1047 : decode cL_law 1047 = .ok (.iadd, 1) := by decide +kernel
theorem dL_law_1048 : decode cL_law 1048 = .ok (.iaload, 1) := by decide +kernel
theorem dL_law_1049 : decode cL_law 1049 = .ok (.aload_n 0, 1) := by decide +kernel
theorem dL_law_1050 : decode cL_law 1050 = .ok (.iload_n 3, 1) := by decide +kernel
theorem dL_law_1051 : decode cL_law 1051 = .ok (.iconst 4, 1) := by decide +kernel
theorem dL_law_1052 : decode cL_law 1052 = .ok (.iadd, 1) := by decide +kernel
theorem dL_law_1053 : decode cL_law 1053 = .ok (.iaload, 1) := by decide +kernel
theorem dL_law_1054 : decode cL_law 1054 = .ok (.invokevirtual 134, 3) := by decide +kernel
theorem dL_law_1057 : decode cL_law 1057 = .ok (.if_icmp .eq 181, 3) := by decide +kernel
theorem dL_law_1060 : decode cL_law 1060 = .ok (.iconst 0, 1) := by decide +kernel
theorem dL_law_1061 : decode cL_law 1061 = .ok (.ireturn, 1) := by decide +kernel
theorem dL_law_1062 : decode cL_law 1062 = .ok (.aload_n 1, 1) := by decide +kernel
theorem dL_law_1063 : decode cL_law 1063 = .ok (.aload_n 0, 1) := by decide +kernel
theorem dL_law_1064 : decode cL_law 1064 = .ok (.iload_n 3, 1) := by decide +kernel
theorem dL_law_1065 : decode cL_law 1065 = .ok (.iconst 1, 1) := by decide +kernel
theorem dL_law_1066 : decode cL_law 1066 = .ok (.iadd, 1) := by decide +kernel
theorem dL_law_1067 : decode cL_law 1067 = .ok (.iaload, 1) := by decide +kernel
theorem dL_law_1068 : decode cL_law 1068 = .ok (.aload_n 0, 1) := by decide +kernel
theorem dL_law_1069 : decode cL_law 1069 = .ok (.iload_n 3, 1) := by decide +kernel
theorem dL_law_1070 : decode cL_law 1070 = .ok (.iconst 2, 1) := by decide +kernel
theorem dL_law_1071 : decode cL_law 1071 = .ok (.iadd, 1) := by decide +kernel
theorem dL_law_1072 : decode cL_law 1072 = .ok (.iaload, 1) := by decide +kernel
theorem dL_law_1073 : decode cL_law 1073 = .ok (.aload_n 0, 1) := by decide +kernel
theorem dL_law_1074 : decode cL_law 1074 = .ok (.iload_n 3, 1) := by decide +kernel
theorem dL_law_1075 : decode cL_law 1075 = .ok (.iconst 3, 1) := by decide +kernel
theorem dL_law_1076 : decode cL_law 1076 = .ok (.iadd, 1) := by decide +kernel
theorem dL_law_1077 : decode cL_law 1077 = .ok (.iaload, 1) := by decide +kernel
theorem dL_law_1078 : decode cL_law 1078 = .ok (.invokevirtual 135, 3) := by decide +kernel
theorem dL_law_1081 : decode cL_law 1081 = .ok (.aload_n 2, 1) := by decide +kernel
theorem dL_law_1082 : decode cL_law 1082 = .ok (.aload_n 0, 1) := by decide +kernel
theorem dL_law_1083 : decode cL_law 1083 = .ok (.iload_n 3, 1) := by decide +kernel
theorem dL_law_1084 : decode cL_law 1084 = .ok (.iconst 1, 1) := by decide +kernel
theorem dL_law_1085 : decode cL_law 1085 = .ok (.iadd, 1) := by decide +kernel
theorem dL_law_1086 : decode cL_law 1086 = .ok (.iaload, 1) := by decide +kernel
theorem dL_law_1087 : decode cL_law 1087 = .ok (.aload_n 0, 1) := by decide +kernel
theorem dL_law_1088 : decode cL_law 1088 = .ok (.iload_n 3, 1) := by decide +kernel
theorem dL_law_1089 : decode cL_law 1089 = .ok (.iconst 2, 1) := by decide +kernel
theorem dL_law_1090 : decode cL_law 1090 = .ok (.iadd, 1) := by decide +kernel
theorem dL_law_1091 : decode cL_law 1091 = .ok (.iaload, 1) := by decide +kernel
theorem dL_law_1092 : decode cL_law 1092 = .ok (.aload_n 0, 1) := by decide +kernel
theorem dL_law_1093 : decode cL_law 1093 = .ok (.iload_n 3, 1) := by decide +kernel
theorem dL_law_1094 : decode cL_law 1094 = .ok (.iconst 3, 1) := by decide +kernel
theorem dL_law_1095 : decode cL_law 1095 = .ok (.iadd, 1) := by decide +kernel
theorem dL_law_1096 : decode cL_law 1096 = .ok (.iaload, 1) := by decide +kernel
theorem dL_law_1097 : decode cL_law 1097 = .ok (.invokevirtual 138, 3) := by decide +kernel
theorem dL_law_1100 : decode cL_law 1100 = .ok (.if_icmp .eq 138, 3) := by decide +kernel
theorem dL_law_1103 : decode cL_law 1103 = .ok (.iconst 0, 1) := by decide +kernel
theorem dL_law_1104 : decode cL_law 1104 = .ok (.ireturn, 1) := by decide +kernel
theorem dL_law_1105 : decode cL_law 1105 = .ok (.aload_n 1, 1) := by decide +kernel
theorem dL_law_1106 : decode cL_law 1106 = .ok (.aload_n 0, 1) := by decide +kernel
theorem dL_law_1107 : decode cL_law 1107 = .ok (.iload_n 3, 1) := by decide +kernel
theorem dL_law_1108 : decode cL_law 1108 = .ok (.iconst 1, 1) := by decide +kernel
theorem dL_law_1109 : decode cL_law 1109 = .ok (.iadd, 1) := by decide +kernel
theorem dL_law_1110 : decode cL_law 1110 = .ok (.iaload, 1) := by decide +kernel
theorem dL_law_1111 : decode cL_law 1111 = .ok (.aload_n 0, 1) := by decide +kernel
theorem dL_law_1112 : decode cL_law 1112 = .ok (.iload_n 3, 1) := by decide +kernel
theorem dL_law_1113 : decode cL_law 1113 = .ok (.iconst 2, 1) := by decide +kernel
theorem dL_law_1114 : decode cL_law 1114 = .ok (.iadd, 1) := by decide +kernel
theorem dL_law_1115 : decode cL_law 1115 = .ok (.iaload, 1) := by decide +kernel
theorem dL_law_1116 : decode cL_law 1116 = .ok (.aload_n 0, 1) := by decide +kernel
theorem dL_law_1117 : decode cL_law 1117 = .ok (.iload_n 3, 1) := by decide +kernel
theorem dL_law_1118 : decode cL_law 1118 = .ok (.iconst 3, 1) := by decide +kernel
theorem dL_law_1119 : decode cL_law 1119 = .ok (.iadd, 1) := by decide +kernel
theorem dL_law_1120 : decode cL_law 1120 = .ok (.iaload, 1) := by decide +kernel
theorem dL_law_1121 : decode cL_law 1121 = .ok (.aload_n 0, 1) := by decide +kernel
theorem dL_law_1122 : decode cL_law 1122 = .ok (.iload_n 3, 1) := by decide +kernel
theorem dL_law_1123 : decode cL_law 1123 = .ok (.iconst 4, 1) := by decide +kernel
theorem dL_law_1124 : decode cL_law 1124 = .ok (.iadd, 1) := by decide +kernel
theorem dL_law_1125 : decode cL_law 1125 = .ok (.iaload, 1) := by decide +kernel
theorem dL_law_1126 : decode cL_law 1126 = .ok (.aload_n 0, 1) := by decide +kernel
theorem dL_law_1127 : decode cL_law 1127 = .ok (.iload_n 3, 1) := by decide +kernel
theorem dL_law_1128 : decode cL_law 1128 = .ok (.iconst 5, 1) := by decide +kernel
theorem dL_law_1129 : decode cL_law 1129 = .ok (.iadd, 1) := by decide +kernel
theorem dL_law_1130 : decode cL_law 1130 = .ok (.iaload, 1) := by decide +kernel
theorem dL_law_1131 : decode cL_law 1131 = .ok (.invokevirtual 139, 3) := by decide +kernel
theorem dL_law_1134 : decode cL_law 1134 = .ok (.aload_n 2, 1) := by decide +kernel
theorem dL_law_1135 : decode cL_law 1135 = .ok (.aload_n 0, 1) := by decide +kernel
theorem dL_law_1136 : decode cL_law 1136 = .ok (.iload_n 3, 1) := by decide +kernel
theorem dL_law_1137 : decode cL_law 1137 = .ok (.iconst 1, 1) := by decide +kernel
theorem dL_law_1138 : decode cL_law 1138 = .ok (.iadd, 1) := by decide +kernel
theorem dL_law_1139 : decode cL_law 1139 = .ok (.iaload, 1) := by decide +kernel
theorem dL_law_1140 : decode cL_law 1140 = .ok (.aload_n 0, 1) := by decide +kernel
theorem dL_law_1141 : decode cL_law 1141 = .ok (.iload_n 3, 1) := by decide +kernel
theorem dL_law_1142 : decode cL_law 1142 = .ok (.iconst 2, 1) := by decide +kernel
theorem dL_law_1143 : decode cL_law 1143 = .ok (.iadd, 1) := by decide +kernel
theorem dL_law_1144 : decode cL_law 1144 = .ok (.iaload, 1) := by decide +kernel
theorem dL_law_1145 : decode cL_law 1145 = .ok (.aload_n 0, 1) := by decide +kernel
theorem dL_law_1146 : decode cL_law 1146 = .ok (.iload_n 3, 1) := by decide +kernel
theorem dL_law_1147 : decode cL_law 1147 = .ok (.iconst 3, 1) := by decide +kernel
theorem dL_law_1148 : decode cL_law 1148 = .ok (.iadd, 1) := by decide +kernel
theorem dL_law_1149 : decode cL_law 1149 = .ok (.iaload, 1) := by decide +kernel
theorem dL_law_1150 : decode cL_law 1150 = .ok (.aload_n 0, 1) := by decide +kernel
theorem dL_law_1151 : decode cL_law 1151 = .ok (.iload_n 3, 1) := by decide +kernel
theorem dL_law_1152 : decode cL_law 1152 = .ok (.iconst 4, 1) := by decide +kernel
theorem dL_law_1153 : decode cL_law 1153 = .ok (.iadd, 1) := by decide +kernel
theorem dL_law_1154 : decode cL_law 1154 = .ok (.iaload, 1) := by decide +kernel
theorem dL_law_1155 : decode cL_law 1155 = .ok (.aload_n 0, 1) := by decide +kernel
theorem dL_law_1156 : decode cL_law 1156 = .ok (.iload_n 3, 1) := by decide +kernel
theorem dL_law_1157 : decode cL_law 1157 = .ok (.iconst 5, 1) := by decide +kernel
theorem dL_law_1158 : decode cL_law 1158 = .ok (.iadd, 1) := by decide +kernel
theorem dL_law_1159 : decode cL_law 1159 = .ok (.iaload, 1) := by decide +kernel
theorem dL_law_1160 : decode cL_law 1160 = .ok (.invokevirtual 143, 3) := by decide +kernel
theorem dL_law_1163 : decode cL_law 1163 = .ok (.if_icmp .eq 75, 3) := by decide +kernel
theorem dL_law_1166 : decode cL_law 1166 = .ok (.iconst 0, 1) := by decide +kernel
theorem dL_law_1167 : decode cL_law 1167 = .ok (.ireturn, 1) := by decide +kernel
theorem dL_law_1168 : decode cL_law 1168 = .ok (.aload_n 1, 1) := by decide +kernel
theorem dL_law_1169 : decode cL_law 1169 = .ok (.aload_n 0, 1) := by decide +kernel
theorem dL_law_1170 : decode cL_law 1170 = .ok (.iload_n 3, 1) := by decide +kernel
theorem dL_law_1171 : decode cL_law 1171 = .ok (.iconst 1, 1) := by decide +kernel
theorem dL_law_1172 : decode cL_law 1172 = .ok (.iadd, 1) := by decide +kernel
theorem dL_law_1173 : decode cL_law 1173 = .ok (.iaload, 1) := by decide +kernel
theorem dL_law_1174 : decode cL_law 1174 = .ok (.aload_n 0, 1) := by decide +kernel
theorem dL_law_1175 : decode cL_law 1175 = .ok (.iload_n 3, 1) := by decide +kernel
theorem dL_law_1176 : decode cL_law 1176 = .ok (.iconst 2, 1) := by decide +kernel
theorem dL_law_1177 : decode cL_law 1177 = .ok (.iadd, 1) := by decide +kernel
theorem dL_law_1178 : decode cL_law 1178 = .ok (.iaload, 1) := by decide +kernel
theorem dL_law_1179 : decode cL_law 1179 = .ok (.invokevirtual 144, 3) := by decide +kernel
theorem dL_law_1182 : decode cL_law 1182 = .ok (.aload_n 2, 1) := by decide +kernel
theorem dL_law_1183 : decode cL_law 1183 = .ok (.aload_n 0, 1) := by decide +kernel
theorem dL_law_1184 : decode cL_law 1184 = .ok (.iload_n 3, 1) := by decide +kernel
theorem dL_law_1185 : decode cL_law 1185 = .ok (.iconst 1, 1) := by decide +kernel
theorem dL_law_1186 : decode cL_law 1186 = .ok (.iadd, 1) := by decide +kernel
theorem dL_law_1187 : decode cL_law 1187 = .ok (.iaload, 1) := by decide +kernel
theorem dL_law_1188 : decode cL_law 1188 = .ok (.aload_n 0, 1) := by decide +kernel
theorem dL_law_1189 : decode cL_law 1189 = .ok (.iload_n 3, 1) := by decide +kernel
theorem dL_law_1190 : decode cL_law 1190 = .ok (.iconst 2, 1) := by decide +kernel
theorem dL_law_1191 : decode cL_law 1191 = .ok (.iadd, 1) := by decide +kernel
theorem dL_law_1192 : decode cL_law 1192 = .ok (.iaload, 1) := by decide +kernel
theorem dL_law_1193 : decode cL_law 1193 = .ok (.invokevirtual 147, 3) := by decide +kernel
theorem dL_law_1196 : decode cL_law 1196 = .ok (.if_icmp .eq 42, 3) := by decide +kernel
theorem dL_law_1199 : decode cL_law 1199 = .ok (.iconst 0, 1) := by decide +kernel
theorem dL_law_1200 : decode cL_law 1200 = .ok (.ireturn, 1) := by decide +kernel
theorem dL_law_1201 : decode cL_law 1201 = .ok (.aload_n 1, 1) := by decide +kernel
theorem dL_law_1202 : decode cL_law 1202 = .ok (.aload_n 0, 1) := by decide +kernel
theorem dL_law_1203 : decode cL_law 1203 = .ok (.iload_n 3, 1) := by decide +kernel
theorem dL_law_1204 : decode cL_law 1204 = .ok (.iconst 1, 1) := by decide +kernel
theorem dL_law_1205 : decode cL_law 1205 = .ok (.iadd, 1) := by decide +kernel
theorem dL_law_1206 : decode cL_law 1206 = .ok (.iaload, 1) := by decide +kernel
theorem dL_law_1207 : decode cL_law 1207 = .ok (.invokevirtual 148, 3) := by decide +kernel
theorem dL_law_1210 : decode cL_law 1210 = .ok (.aload_n 2, 1) := by decide +kernel
theorem dL_law_1211 : decode cL_law 1211 = .ok (.aload_n 0, 1) := by decide +kernel
theorem dL_law_1212 : decode cL_law 1212 = .ok (.iload_n 3, 1) := by decide +kernel
theorem dL_law_1213 : decode cL_law 1213 = .ok (.iconst 1, 1) := by decide +kernel
theorem dL_law_1214 : decode cL_law 1214 = .ok (.iadd, 1) := by decide +kernel
theorem dL_law_1215 : decode cL_law 1215 = .ok (.iaload, 1) := by decide +kernel
theorem dL_law_1216 : decode cL_law 1216 = .ok (.invokevirtual 151, 3) := by decide +kernel
theorem dL_law_1219 : decode cL_law 1219 = .ok (.if_icmp .eq 19, 3) := by decide +kernel
theorem dL_law_1222 : decode cL_law 1222 = .ok (.iconst 0, 1) := by decide +kernel
theorem dL_law_1223 : decode cL_law 1223 = .ok (.ireturn, 1) := by decide +kernel
theorem dL_law_1224 : decode cL_law 1224 = .ok (.aload_n 1, 1) := by decide +kernel
theorem dL_law_1225 : decode cL_law 1225 = .ok (.invokevirtual 152, 3) := by decide +kernel
theorem dL_law_1228 : decode cL_law 1228 = .ok (.aload_n 2, 1) := by decide +kernel
theorem dL_law_1229 : decode cL_law 1229 = .ok (.invokevirtual 156, 3) := by decide +kernel
theorem dL_law_1232 : decode cL_law 1232 = .ok (.lcmp, 1) := by decide +kernel
theorem dL_law_1233 : decode cL_law 1233 = .ok (.ifCond .eq 5, 3) := by decide +kernel
theorem dL_law_1236 : decode cL_law 1236 = .ok (.iconst 0, 1) := by decide +kernel
theorem dL_law_1237 : decode cL_law 1237 = .ok (.ireturn, 1) := by decide +kernel
theorem dL_law_1238 : decode cL_law 1238 = .ok (.iinc 3 6, 3) := by decide +kernel
theorem dL_law_1241 : decode cL_law 1241 = .ok (.goto (-1223), 3) := by decide +kernel
theorem dL_law_1244 : decode cL_law 1244 = .ok (.iconst 1, 1) := by decide +kernel
theorem dL_law_1245 : decode cL_law 1245 = .ok (.ireturn, 1) := by decide +kernel
end
section
-- the pure heap: ints (and booleans) by cell and place, longs by cell and place; the shape of the cells
abbrev ph_Hp : Type := (Nat → Nat → Int32) × (Nat → Nat → Int64)
def ph_sI (h : ph_Hp) (i k : Nat) (x : Int32) : ph_Hp := (fun i2 => if i2 = i then upd (h.1 i) k x else h.1 i2, h.2)
def ph_sJ (h : ph_Hp) (i k : Nat) (x : Int64) : ph_Hp := (h.1, fun i2 => if i2 = i then vp_updL (h.2 i) k x else h.2 i2)
def ph_shp : List (Nat × Nat × List Nat) := [(8, 14, [1, 3, 5, 10, 15, 20, 25, 0, 41, 42, 45, 46, 47, 0]), (4, 2, [2, 0]), (10, 24, []), (4, 2, [4, 0]), (10, 44, []), (7, 2, [6, 8]), (4, 2, [7, 0]), (10, 12, []), (4, 2, [9, 0]), (10, 12, []), (7, 2, [11, 13]), (4, 2, [12, 0]), (10, 12, []), (4, 2, [14, 0]), (10, 12, []), (7, 2, [16, 18]), (4, 2, [17, 0]), (10, 6, []), (4, 2, [19, 0]), (10, 6, []), (7, 2, [21, 23]), (4, 2, [22, 0]), (10, 8, []), (4, 2, [24, 0]), (10, 8, []), (6, 7, [26, 30, 36, 37, 38, 39, 40]), (3, 5, [27, 28, 29, 0, 0]), (10, 24, []), (10, 8, []), (10, 8, []), (1, 7, [31, 32, 33, 34, 35, 0, 0]), (10, 9, []), (10, 9, []), (10, 9, []), (10, 9, []), (10, 72, []), (10, 40, []), (10, 40, []), (11, 40, []), (10, 40, []), (10, 40, []), (2, 1, [0]), (0, 5, [43, 44, 0, 0, 0]), (12, 8, []), (12, 8, []), (10, 40, []), (10, 320, []), (5, 3, [48, 49, 50]), (10, 4, []), (10, 4, []), (10, 240, []), (9, 28, [52, 53, 54, 55, 0, 56, 57, 0, 58, 0, 59, 0, 60, 0, 61, 0, 62, 63, 64, 65, 66, 0, 0, 0, 0, 67, 68, 0]), (10, 4, []), (10, 4, []), (10, 240, []), (10, 60, []), (10, 88, []), (10, 2, []), (10, 24, []), (10, 36, []), (10, 24, []), (10, 24, []), (10, 6, []), (10, 40, []), (10, 40, []), (10, 40, []), (10, 40, []), (10, 16, []), (10, 360, [])]
def ph_N : Nat := 69
def ph_kd (i : Nat) : Nat := (ph_shp.getD i (99, 0, [])).1
def ph_ln (i : Nat) : Nat := (ph_shp.getD i (99, 0, [])).2.1
def ph_rf (i k : Nat) : Nat := (ph_shp.getD i (99, 0, [])).2.2.getD k 0
def ph_fks : List (List Nat) := [[3, 3, 2, 2, 2], [3, 3, 3, 3, 3, 0, 0], [0], [3, 3, 3, 0, 0], [3, 0], [3, 3, 3], [3, 3, 3, 3, 3, 3, 3], [3, 3], [3, 3, 3, 3, 3, 3, 3, 1, 3, 3, 3, 3, 3, 0], [3, 3, 3, 3, 0, 3, 3, 0, 3, 0, 3, 0, 3, 0, 3, 0, 3, 3, 3, 3, 3, 0, 0, 0, 0, 3, 3, 0]]
def ph_fk (ci k : Nat) : Nat := (ph_fks.getD ci []).getD k 3
def ph_cn (ci : Nat) : Nat := ([5, 7, 1, 5, 2, 3, 7, 2, 14, 28] : List Nat).getD ci 0
def ph_dg (j : Nat) : Int32 := ([0, 1, 2, 9, 39] : List Int32).getD j 0
-- what is given of the machine
abbrev ph_L : Type := Launch × va_G × (Nat → Nat) × (ClassId × ClassId × ClassId) × (Nat × Nat × (Nat → Int32)) × Nat
abbrev ph_l (Z : ph_L) : Launch := Z.1
abbrev ph_D (Z : ph_L) : va_G := Z.2.1
def ph_a (Z : ph_L) (i : Nat) : Nat := Z.2.2.1 i
abbrev ph_cI (Z : ph_L) : ClassId := Z.2.2.2.1.1
abbrev ph_cZ (Z : ph_L) : ClassId := Z.2.2.2.1.2.1
abbrev ph_cJ (Z : ph_L) : ClassId := Z.2.2.2.1.2.2
def ph_b (Z : ph_L) : Nat := Z.2.2.2.2.1.1
def ph_n (Z : ph_L) : Nat := Z.2.2.2.2.1.2.1
def ph_x (Z : ph_L) : Nat → Int32 := Z.2.2.2.2.1.2.2
def ph_t (Z : ph_L) : Nat := Z.2.2.2.2.2
def ph_tys (Z : ph_L) : List (ClassId × FieldType) := [(ph_cI Z, .int), (ph_cZ Z, .boolean), (ph_cJ Z, .long)]
def ph_val (Z : ph_L) (f : Nat → Int32) (g : Nat → Int64) (kd k r : Nat) : Value := if kd = 2 then .long (g k) else if kd = 3 then .ref (ph_a Z r) else .int (f k)
def ph_flds (Z : ph_L) (f : Nat → Int32) (g : Nat → Int64) (i : Nat) : List Value := (List.range (ph_cn (ph_kd i))).map fun k => ph_val Z f g (ph_fk (ph_kd i) k) k (ph_rf i k)
def ph_cell (Z : ph_L) (f : Nat → Int32) (g : Nat → Int64) (i : Nat) : va_E :=
  if ph_kd i = 10 then .inl (ph_cI Z, ph_ln i, .inl f) else if ph_kd i = 11 then .inl (ph_cZ Z, ph_ln i, .inl f) else if ph_kd i = 12 then .inl (ph_cJ Z, ph_ln i, .inr (.inl g)) else .inr (ph_kd i, ph_flds Z f g i)
def ph_ws (Z : ph_L) (h : ph_Hp) : va_W := (List.range ph_N).map fun i => (ph_a Z i, ph_cell Z (h.1 i) (h.2 i) i)
def ph_Wd (Z : ph_L) : Nat → Prop := fun q => ∃ i, i < ph_N ∧ ph_a Z i = q
def ph_inj (Z : ph_L) : Prop := ∀ i j, i < ph_N → j < ph_N → ph_a Z i = ph_a Z j → i = j
theorem ph_lt {i : Nat} (h : ph_kd i < 13) : i < ph_N := by
  rcases Nat.lt_or_ge i ph_N with q | q
  · exact q
  · exfalso
    have e : ph_kd i = 99 := by
      unfold ph_kd
      have h1 : ph_shp[i]? = none := List.getElem?_eq_none (show ph_shp.length ≤ i from q)
      rw [List.getD_eq_getElem?_getD, h1]
      rfl
    omega
theorem ph_ws_at (Z : ph_L) (h : ph_Hp) {i : Nat} (hi : i < ph_N) : (ph_ws Z h)[i]? = some (ph_a Z i, ph_cell Z (h.1 i) (h.2 i) i) := by
  unfold ph_ws
  rw [List.getElem?_map, List.getElem?_range hi]
  rfl
theorem ph_ws_some {Z : ph_L} {h : ph_Hp} {k : Nat} {q : Nat × va_E} (e : (ph_ws Z h)[k]? = some q) : k < ph_N ∧ q = (ph_a Z k, ph_cell Z (h.1 k) (h.2 k) k) := by
  have hk : k < ph_N := by
    have := (List.getElem?_eq_some_iff.mp e).1
    unfold ph_ws at this
    rwa [List.length_map, List.length_range] at this
  refine ⟨hk, ?_⟩
  rw [ph_ws_at Z h hk] at e
  exact (Option.some.inj e).symm
theorem ph_dd {Z : ph_L} {h : ph_Hp} {A : Nat → Prop} (hi : ph_inj Z) (hA : ∀ i, i < ph_N → A (ph_a Z i)) : va_D A (ph_ws Z h) := by
  refine ⟨fun i j p q h1 h2 e => ?_, fun k q h1 => ?_⟩
  · obtain ⟨a1, rfl⟩ := ph_ws_some h1
    obtain ⟨a2, rfl⟩ := ph_ws_some h2
    exact hi i j a1 a2 e
  · obtain ⟨a1, rfl⟩ := ph_ws_some h1
    exact hA k a1
theorem ph_ws_set {Z : ph_L} {h h1 : ph_Hp} {i : Nat} {c : va_E} (hc : ph_cell Z (h1.1 i) (h1.2 i) i = c) (ho : ∀ j, j ≠ i → h1.1 j = h.1 j ∧ h1.2 j = h.2 j) : (ph_ws Z h).set i (ph_a Z i, c) = ph_ws Z h1 := by
  apply List.ext_getElem?
  intro k
  by_cases hk : k < ph_N
  · by_cases hki : k = i
    · subst hki
      rw [List.getElem?_set_self (by unfold ph_ws; rw [List.length_map, List.length_range]; exact hk), ph_ws_at Z h1 hk, hc]
    · rw [List.getElem?_set_ne (fun q => hki q.symm), ph_ws_at Z h hk, ph_ws_at Z h1 hk, (ho k hki).1, (ho k hki).2]
  · have l1 : (ph_ws Z h1).length ≤ k := by unfold ph_ws; rw [List.length_map, List.length_range]; omega
    have l2 : ((ph_ws Z h).set i (ph_a Z i, c)).length ≤ k := by rw [List.length_set]; unfold ph_ws; rw [List.length_map, List.length_range]; omega
    rw [List.getElem?_eq_none l1, List.getElem?_eq_none l2]
theorem ph_sI_o (h : ph_Hp) (i k : Nat) (x : Int32) : ∀ j, j ≠ i → (ph_sI h i k x).1 j = h.1 j ∧ (ph_sI h i k x).2 j = h.2 j := fun j hj => ⟨if_neg hj, rfl⟩
theorem ph_sJ_o (h : ph_Hp) (i k : Nat) (x : Int64) : ∀ j, j ≠ i → (ph_sJ h i k x).1 j = h.1 j ∧ (ph_sJ h i k x).2 j = h.2 j := fun j hj => ⟨rfl, if_neg hj⟩
theorem ph_sI_i (h : ph_Hp) (i k : Nat) (x : Int32) : (ph_sI h i k x).1 i = upd (h.1 i) k x := if_pos rfl
theorem ph_sJ_i (h : ph_Hp) (i k : Nat) (x : Int64) : (ph_sJ h i k x).2 i = vp_updL (h.2 i) k x := if_pos rfl
theorem ph_flds_at (Z : ph_L) (f : Nat → Int32) (g : Nat → Int64) (i : Nat) {k : Nat} (hk : k < ph_cn (ph_kd i)) : (ph_flds Z f g i)[k]? = some (ph_val Z f g (ph_fk (ph_kd i) k) k (ph_rf i k)) := by
  unfold ph_flds
  rw [List.getElem?_map, List.getElem?_range hk]
  rfl
theorem ph_flds_len (Z : ph_L) (f : Nat → Int32) (g : Nat → Int64) (i : Nat) : (ph_flds Z f g i).length = ph_cn (ph_kd i) := by
  unfold ph_flds
  rw [List.length_map, List.length_range]
theorem ph_flds_setI (Z : ph_L) (f : Nat → Int32) (g : Nat → Int64) (i : Nat) {k : Nat} (x : Int32) (h2 : ph_fk (ph_kd i) k ≠ 2) (h3 : ph_fk (ph_kd i) k ≠ 3) : ph_flds Z (upd f k x) g i = (ph_flds Z f g i).set k (.int x) := by
  apply List.ext_getElem?
  intro j
  by_cases hj : j < ph_cn (ph_kd i)
  · rw [ph_flds_at Z _ g i hj]
    by_cases e : j = k
    · subst e
      rw [List.getElem?_set_self (by rw [ph_flds_len]; exact hj)]
      simp [ph_val, h2, h3, upd]
    · rw [List.getElem?_set_ne (fun q => e q.symm), ph_flds_at Z f g i hj]
      simp [ph_val, upd, e]
  · rw [List.getElem?_eq_none (by rw [ph_flds_len]; omega), List.getElem?_eq_none (by rw [List.length_set, ph_flds_len]; omega)]
theorem ph_flds_setJ (Z : ph_L) (f : Nat → Int32) (g : Nat → Int64) (i : Nat) {k : Nat} (x : Int64) (h2 : ph_fk (ph_kd i) k = 2) : ph_flds Z f (vp_updL g k x) i = (ph_flds Z f g i).set k (.long x) := by
  apply List.ext_getElem?
  intro j
  by_cases hj : j < ph_cn (ph_kd i)
  · rw [ph_flds_at Z f _ i hj]
    by_cases e : j = k
    · subst e
      rw [List.getElem?_set_self (by rw [ph_flds_len]; exact hj)]
      simp [ph_val, h2, vp_updL]
    · rw [List.getElem?_set_ne (fun q => e q.symm), ph_flds_at Z f g i hj]
      simp [ph_val, vp_updL, e]
  · rw [List.getElem?_eq_none (by rw [ph_flds_len]; omega), List.getElem?_eq_none (by rw [List.length_set, ph_flds_len]; omega)]
-- the words: those that stay true over calls; those of nest mates
def ph_tb : List Cond := lw_tbl.filter goodWord
def ph_isN : Cond → Bool
  | .fieldLinkNest _ _ _ _ _ _ => true
  | .methodLinkNest _ _ _ _ => true
  | _ => false
def ph_ns : List Cond := tables_1.filter ph_isN
theorem ph_tb_of {w : Cond} (i : Nat) (h : lw_tbl[i]? = some w) (hg : goodWord w = true) : w ∈ ph_tb := List.mem_filter.mpr ⟨List.mem_of_getElem? h, hg⟩
theorem ph_ns_of {w : Cond} (i : Nat) (h : lw_tbl[i + 44]? = some w) (hg : ph_isN w = true) : w ∈ ph_ns := by
  refine List.mem_filter.mpr ⟨?_, hg⟩
  have e : lw_tbl[i + 44]? = tables_1[i]? := by
    unfold lw_tbl
    rw [List.getElem?_append_right (by show (k2_sels lw_privs).length ≤ i + 44; exact Nat.le_trans (by decide +kernel) (Nat.le_add_left 44 i))]
    congr 1
  exact List.mem_of_getElem? (e ▸ h)
theorem ph_ns_on {w : Cond} (h : w ∈ ph_ns) : w.onTables = true := by
  have h1 := (List.mem_filter.mp h).2
  cases w <;> first | rfl | (exact absurd (show false = true from h1) Bool.false_ne_true)
theorem ph_ns_warm {w : Cond} {s U : State} (h : w ∈ ph_ns) (hW : s.WarmedH U.vm) (hs : va_Nw w s) : va_Nw w U := by
  have h1 := (List.mem_filter.mp h).2
  cases w <;> first | (exact va_Nw.warmF hW hs) | (exact va_Nw.warmM hW hs) | (exact absurd (show false = true from h1) Bool.false_ne_true)
def ph_Stat (Z : ph_L) (A : Nat → Prop) (s : State) (H : Heap) : Prop := va_Z "PromptHoles" "DIGEST_STEPS" "[I" (.ref (ph_t Z)) A s H ∧ va_T .int (ph_t Z) 5 (fun j => .int (ph_dg j)) A s H
def ph_Ok (Z : ph_L) (own : String) (cc : ByteArray) (nL : Nat) (ret : Option FieldType) (d : Nat) (p : Program) (e : Env) (R : Room) (s : State) (m : MethodId) (args : Array Value) (meth : Method) (c : Code) (A : Nat → Prop) (cells slots : Nat) : Prop :=
  p.tables.exec = Jvm.exec ∧ c.code = cc ∧ c.maxLocals = nL ∧ meth.sig.returnType = ret ∧ s.vm.findClass own = some m.cls ∧ (∀ w ∈ ph_tb, w.before args s = true) ∧ (∀ w ∈ ph_ns, va_Nw w s) ∧ va_K (ph_D Z) vwCl (ph_tys Z) s ∧ ph_inj Z ∧ (∀ i, i < ph_N → A (ph_a Z i)) ∧ ph_Stat Z A s s.heap ∧ d ≤ R.frames ∧ 40 * d ≤ R.locals ∧ cells ≤ R.cells ∧ slots ≤ R.slots ∧ meth.locks = false ∧ (own = RL → va_X (ph_b Z) (ph_n Z) (ph_x Z) s s.heap ∧ ph_b Z < s.heap.size ∧ ¬ A (ph_b Z))
section PHOK
variable {Z : ph_L} {own : String} {cc : ByteArray} {nL : Nat} {ret : Option FieldType} {d : Nat} {p : Program} {e : Env} {R : Room} {s : State} {m : MethodId} {args : Array Value} {meth : Method} {c : Code} {A : Nat → Prop} {cells slots : Nat}
theorem ph_Ok.ex (X : ph_Ok Z own cc nL ret d p e R s m args meth c A cells slots) : p.tables.exec = Jvm.exec := X.1
theorem ph_Ok.bt (X : ph_Ok Z own cc nL ret d p e R s m args meth c A cells slots) : c.code = cc := X.2.1
theorem ph_Ok.ml (X : ph_Ok Z own cc nL ret d p e R s m args meth c A cells slots) : c.maxLocals = nL := X.2.2.1
theorem ph_Ok.rt (X : ph_Ok Z own cc nL ret d p e R s m args meth c A cells slots) : meth.sig.returnType = ret := X.2.2.2.1
theorem ph_Ok.ow (X : ph_Ok Z own cc nL ret d p e R s m args meth c A cells slots) : s.vm.findClass own = some m.cls := X.2.2.2.2.1
theorem ph_Ok.ts (X : ph_Ok Z own cc nL ret d p e R s m args meth c A cells slots) : ∀ w ∈ ph_tb, w.before args s = true := X.2.2.2.2.2.1
theorem ph_Ok.ns (X : ph_Ok Z own cc nL ret d p e R s m args meth c A cells slots) : ∀ w ∈ ph_ns, va_Nw w s := X.2.2.2.2.2.2.1
theorem ph_Ok.kk (X : ph_Ok Z own cc nL ret d p e R s m args meth c A cells slots) : va_K (ph_D Z) vwCl (ph_tys Z) s := X.2.2.2.2.2.2.2.1
theorem ph_Ok.ij (X : ph_Ok Z own cc nL ret d p e R s m args meth c A cells slots) : ph_inj Z := X.2.2.2.2.2.2.2.2.1
theorem ph_Ok.aa (X : ph_Ok Z own cc nL ret d p e R s m args meth c A cells slots) : ∀ i, i < ph_N → A (ph_a Z i) := X.2.2.2.2.2.2.2.2.2.1
theorem ph_Ok.sa (X : ph_Ok Z own cc nL ret d p e R s m args meth c A cells slots) : ph_Stat Z A s s.heap := X.2.2.2.2.2.2.2.2.2.2.1
theorem ph_Ok.fr (X : ph_Ok Z own cc nL ret d p e R s m args meth c A cells slots) : d ≤ R.frames := X.2.2.2.2.2.2.2.2.2.2.2.1
theorem ph_Ok.lo (X : ph_Ok Z own cc nL ret d p e R s m args meth c A cells slots) : 40 * d ≤ R.locals := X.2.2.2.2.2.2.2.2.2.2.2.2.1
theorem ph_Ok.ce (X : ph_Ok Z own cc nL ret d p e R s m args meth c A cells slots) : cells ≤ R.cells := X.2.2.2.2.2.2.2.2.2.2.2.2.2.1
theorem ph_Ok.sl (X : ph_Ok Z own cc nL ret d p e R s m args meth c A cells slots) : slots ≤ R.slots := X.2.2.2.2.2.2.2.2.2.2.2.2.2.2.1
theorem ph_Ok.lk (X : ph_Ok Z own cc nL ret d p e R s m args meth c A cells slots) : meth.locks = false := X.2.2.2.2.2.2.2.2.2.2.2.2.2.2.2.1
theorem ph_Ok.sc (X : ph_Ok Z own cc nL ret d p e R s m args meth c A cells slots) : own = RL → va_X (ph_b Z) (ph_n Z) (ph_x Z) s s.heap ∧ ph_b Z < s.heap.size ∧ ¬ A (ph_b Z) := X.2.2.2.2.2.2.2.2.2.2.2.2.2.2.2.2
theorem ph_Ok.dd (X : ph_Ok Z own cc nL ret d p e R s m args meth c A cells slots) {h : ph_Hp} : va_D A (ph_ws Z h) := ph_dd X.ij X.aa
end PHOK
-- locals: a list by place; none: not known
def ph_kn : Nat → List (Option Value) → List (Nat × Value)
  | _, [] => []
  | i, some v :: t => (i, v) :: ph_kn (i + 1) t
  | i, none :: t => ph_kn (i + 1) t
theorem ph_kn_mem : ∀ (ls : List (Option Value)) (i j : Nat) (v : Value), (j, v) ∈ ph_kn i ls ↔ ∃ k, ls[k]? = some (some v) ∧ j = i + k
  | [], i, j, v => by simp [ph_kn]
  | none :: t, i, j, v => by
    rw [ph_kn, ph_kn_mem t (i + 1) j v]
    constructor
    · rintro ⟨k, h1, h2⟩
      exact ⟨k + 1, by simpa using h1, by omega⟩
    · rintro ⟨k, h1, h2⟩
      cases k with
      | zero => simp at h1
      | succ k => exact ⟨k, by simpa using h1, by omega⟩
  | some u :: t, i, j, v => by
    rw [ph_kn, List.mem_cons, ph_kn_mem t (i + 1) j v]
    constructor
    · rintro (h | ⟨k, h1, h2⟩)
      · cases h
        exact ⟨0, by simp, rfl⟩
      · exact ⟨k + 1, by simpa using h1, by omega⟩
    · rintro ⟨k, h1, h2⟩
      cases k with
      | zero =>
        left
        simp at h1
        rw [h2, h1]
        rfl
      | succ k => exact Or.inr ⟨k, by simpa using h1, by omega⟩
abbrev ph_lv (lsA : Array Slot) (nL : Nat) (ls : List (Option Value)) : Prop := lv_has lsA nL (ph_kn 0 ls)
theorem ph_lv.ta {lsA : Array Slot} {nL : Nat} {ls : List (Option Value)} (h : ph_lv lsA nL ls) {i : Nat} {v : Value} (e : ls[i]? = some (some v)) : lsA[i]? = some (.val v) :=
  h.2.2 (i, v) ((ph_kn_mem ls 0 i v).mpr ⟨i, e, by omega⟩)
def ph_clr (ls : List (Option Value)) : Nat → List (Option Value)
  | 0 => ls
  | j + 1 => match ls[j]? with
    | some (some v) => if v.category = 2 then ls.set j none else ls
    | _ => ls
def ph_set1 (ls : List (Option Value)) (i : Nat) (v : Value) : List (Option Value) := (ph_clr ls i).set i (some v)
def ph_set2 (ls : List (Option Value)) (i : Nat) (v : Value) : List (Option Value) := ((ph_clr ls i).set i (some v)).set (i + 1) none
theorem ph_clr_at {ls : List (Option Value)} {i j : Nat} {w : Value} (hj : j ≠ i) (e : (ph_clr ls i)[j]? = some (some w)) : ls[j]? = some (some w) ∧ ¬ (j + 1 = i ∧ w.category = 2) := by
  cases i with
  | zero => exact ⟨e, fun h => by omega⟩
  | succ k =>
    by_cases hk : j = k
    · subst hk
      simp only [ph_clr] at e
      cases hg : ls[j]? with
      | none => rw [hg] at e; simp [hg] at e
      | some x =>
        cases x with
        | none => rw [hg] at e; simp [hg] at e
        | some v =>
          rw [hg] at e
          by_cases hc : v.category = 2
          · simp only [hc, if_true] at e
            obtain ⟨h3, h4⟩ := List.getElem?_eq_some_iff.mp e
            rw [List.getElem_set_self] at h4
            cases h4
          · simp [hc] at e
            rw [hg] at e
            have : v = w := Option.some.inj (Option.some.inj e)
            subst this
            exact ⟨rfl, fun h => hc h.2⟩
    · refine ⟨?_, fun h => by omega⟩
      simp only [ph_clr] at e
      split at e
      · split at e
        · rwa [List.getElem?_set_ne (fun q => hk q.symm)] at e
        · exact e
      · exact e
theorem ph_lv_of1 {ls2 : Array Slot} {nL : Nat} {ls : List (Option Value)} {i : Nat} {v : Value} (h : lv_has ls2 nL ((i, v) :: (ph_kn 0 ls).filter (fun q => !(q.1 == i) && !(q.1 + 1 == i && q.2.category == 2)))) : ph_lv ls2 nL (ph_set1 ls i v) := by
  refine ⟨h.1, h.2.1, ?_⟩
  rintro ⟨j, w⟩ hq
  obtain ⟨k, h1, h2⟩ := (ph_kn_mem _ 0 j w).mp hq
  rw [Nat.zero_add] at h2
  subst h2
  apply h.2.2
  unfold ph_set1 at h1
  by_cases hj : j = i
  · subst hj
    have := List.getElem?_eq_some_iff.mp h1
    obtain ⟨h3, h4⟩ := this
    rw [List.getElem_set_self] at h4
    have : v = w := Option.some.inj h4
    subst this
    exact List.mem_cons_self
  · rw [List.getElem?_set_ne (fun q => hj q.symm)] at h1
    obtain ⟨h3, h4⟩ := ph_clr_at hj h1
    refine List.mem_cons_of_mem _ (List.mem_filter.mpr ⟨(ph_kn_mem ls 0 j w).mpr ⟨j, h3, by omega⟩, ?_⟩)
    by_cases h5 : j + 1 = i
    · have : ¬ w.category = 2 := fun q => h4 ⟨h5, q⟩
      simp [hj, this]
    · simp [hj, h5]
theorem ph_lv_of2 {ls2 : Array Slot} {nL : Nat} {ls : List (Option Value)} {i : Nat} {v : Value} (h : lv_has ls2 nL ((i, v) :: (ph_kn 0 ls).filter (fun q => !(q.1 == i) && (!(q.1 == i + 1) && !(q.1 + 1 == i && q.2.category == 2))))) : ph_lv ls2 nL (ph_set2 ls i v) := by
  refine ⟨h.1, h.2.1, ?_⟩
  rintro ⟨j, w⟩ hq
  obtain ⟨k, h1, h2⟩ := (ph_kn_mem _ 0 j w).mp hq
  rw [Nat.zero_add] at h2
  subst h2
  apply h.2.2
  unfold ph_set2 at h1
  by_cases hj1 : j = i + 1
  · subst hj1
    obtain ⟨h3, h4⟩ := List.getElem?_eq_some_iff.mp h1
    rw [List.getElem_set_self] at h4
    cases h4
  rw [List.getElem?_set_ne (fun q => hj1 q.symm)] at h1
  by_cases hj : j = i
  · subst hj
    obtain ⟨h3, h4⟩ := List.getElem?_eq_some_iff.mp h1
    rw [List.getElem_set_self] at h4
    have : v = w := Option.some.inj h4
    subst this
    exact List.mem_cons_self
  · rw [List.getElem?_set_ne (fun q => hj q.symm)] at h1
    obtain ⟨h3, h4⟩ := ph_clr_at hj h1
    refine List.mem_cons_of_mem _ (List.mem_filter.mpr ⟨(ph_kn_mem ls 0 j w).mpr ⟨j, h3, by omega⟩, ?_⟩)
    by_cases h5 : j + 1 = i
    · have : ¬ w.category = 2 := fun q => h4 ⟨h5, q⟩
      simp [hj, hj1, this]
    · simp [hj, hj1, h5]
-- the pure words of the machine's arithmetic
def ph_shl (x y : Int32) : Int32 := x <<< (y &&& 31)
def ph_shr (x y : Int32) : Int32 := x >>> (y &&& 31)
def ph_ushr (x y : Int32) : Int32 := (x.toUInt32 >>> (y.toUInt32 &&& Int32.toUInt32 31)).toInt32
def ph_irem (x y : Int32) : Int32 := x - x / y * y
def ph_lrem (x y : Int64) : Int64 := x - x / y * y
-- the words of the pure programs
def ph_ldI {β : Type} (h : ph_Hp) (q : Nat) (i : Int32) (F : Int32 → Option β) : Option β := if 0 ≤ i.toInt ∧ i.toInt < (ph_ln q : Int) then F (h.1 q i.toNatClampNeg) else none
def ph_ldJ {β : Type} (h : ph_Hp) (q : Nat) (i : Int32) (F : Int64 → Option β) : Option β := if 0 ≤ i.toInt ∧ i.toInt < (ph_ln q : Int) then F (h.2 q i.toNatClampNeg) else none
def ph_stI {β : Type} (h : ph_Hp) (q : Nat) (i x : Int32) (F : ph_Hp → Option β) : Option β := if 0 ≤ i.toInt ∧ i.toInt < (ph_ln q : Int) then F (ph_sI h q i.toNatClampNeg x) else none
def ph_stZ {β : Type} (h : ph_Hp) (q : Nat) (i x : Int32) (F : ph_Hp → Option β) : Option β := if 0 ≤ i.toInt ∧ i.toInt < (ph_ln q : Int) then F (ph_sI h q i.toNatClampNeg (vp_nar .boolean x)) else none
def ph_stJ {β : Type} (h : ph_Hp) (q : Nat) (i : Int32) (x : Int64) (F : ph_Hp → Option β) : Option β := if 0 ≤ i.toInt ∧ i.toInt < (ph_ln q : Int) then F (ph_sJ h q i.toNatClampNeg x) else none
def ph_pfI {β : Type} (h : ph_Hp) (q k : Nat) (x : Int32) (F : ph_Hp → Option β) : Option β := F (ph_sI h q k x)
def ph_pfJ {β : Type} (h : ph_Hp) (q k : Nat) (x : Int64) (F : ph_Hp → Option β) : Option β := F (ph_sJ h q k x)
def ph_isK {β : Type} (r k : Nat) (F : Option β) : Option β := if ph_kd r = k then F else none
def ph_ldS {β : Type} (Z : ph_L) (i : Int32) (F : Int32 → Option β) : Option β := if 0 ≤ i.toInt ∧ i.toInt < (ph_n Z : Int) then F (ph_x Z i.toNatClampNeg) else none
def ph_ldT {β : Type} (i : Int32) (F : Int32 → Option β) : Option β := if 0 ≤ i.toInt ∧ i.toInt < (5 : Int) then F (ph_dg i.toNatClampNeg) else none
def ph_dvI {β : Type} (x y : Int32) (F : Int32 → Option β) : Option β := if y = 0 then none else F (x / y)
def ph_rmI {β : Type} (x y : Int32) (F : Int32 → Option β) : Option β := if y = 0 then none else F (ph_irem x y)
def ph_dvJ {β : Type} (x y : Int64) (F : Int64 → Option β) : Option β := if y = 0 then none else F (x / y)
def ph_rmJ {β : Type} (x y : Int64) (F : Int64 → Option β) : Option β := if y = 0 then none else F (ph_lrem x y)
def ph_cl {β ρ : Type} (x : Option (ρ × ph_Hp)) (k : ρ → ph_Hp → Option β) : Option β := match x with
  | none => none
  | some r => k r.1 r.2
def ph_rz (v : Int32) (h : ph_Hp) : Option (Int32 × ph_Hp) := if v = 0 ∨ v = 1 then some (v, h) else none
def ph_jn {α β : Type} (f : α → Option β) (b : (α → Option β) → Option β) : Option β := b f
def ph_lp {α β : Type} (body : (α → Option β) → α → Option β) : Nat → α → Option β
  | 0, _ => none
  | n + 1, x => body (ph_lp body n) x
def ph_fu : Nat := 2000
def ph_vi (v : Int32) : Option Value := some (.int v)
def ph_vl (v : Int64) : Option Value := some (.long v)
def ph_vv (_ : Unit) : Option Value := none
def ph_vr (Z : ph_L) (r : Nat) : Option Value := some (.ref (ph_a Z r))
def ph_rd (cc : ByteArray) (ret : Option FieldType) (pc : Nat) (v : Option Value) : Prop := match v with
  | none => ret = none ∧ decode cc pc = .ok (.return_, 1)
  | some (.int x) => decode cc pc = .ok (.ireturn, 1) ∧ ∃ ty, ret = some ty ∧ narrow ty (.int x) = .int x
  | some (.long _) => decode cc pc = .ok (.lreturn, 1) ∧ ret = some .long
  | some (.ref _) => decode cc pc = .ok (.areturn, 1) ∧ ∃ n, ret = some (.object n)
  | _ => False
/-- the judgement: if the pure text F has an answer r, the machine comes from here (place pc, locals ls, stack st, pure heap h) to a return of that answer, with the pure heap r.2 -/
def ph_G (Z : ph_L) (own : String) (cc : ByteArray) (nL : Nat) (ret : Option FieldType) (d : Nat) {ρ : Type} (tv : ρ → Option Value) (pc : Nat) (ls : List (Option Value)) (st : List Value) (h : ph_Hp) (F : Option (ρ × ph_Hp)) : Prop :=
  ∀ (p : Program) (e : Env) (R : Room) (s : State) (m : MethodId) (args : Array Value) (below : List Frame) (meth : Method) (c : Code) (Q : State → Prop) (A : Nat → Prop) (cells slots : Nat),
    ph_Ok Z own cc nL ret d p e R s m args meth c A cells slots → ∀ r : ρ × ph_Hp, F = some r →
    (∀ (H : Heap) (locs : List Loc) (lsA : Array Slot) (pc' : Nat), va_P (ph_D Z) vwCl (ph_ws Z r.2) H → va_S A s.heap H locs → ph_rd cc ret pc' (tv r.1) → W p (ph_l Z) e R s m args below meth c H locs cells slots Q (F0 m pc' lsA (tv r.1).toList)) →
    ∀ (H : Heap) (locs : List Loc) (lsA : Array Slot), va_P (ph_D Z) vwCl (ph_ws Z h) H → va_S A s.heap H locs → ph_lv lsA nL ls → W p (ph_l Z) e R s m args below meth c H locs cells slots Q (F0 m pc lsA st)

section PHR
variable {Z : ph_L} {own : String} {cc : ByteArray} {nL : Nat} {ret : Option FieldType} {d : Nat} {ρ : Type} {tv : ρ → Option Value} {pc : Nat} {ls : List (Option Value)} {st : List Value} {h : ph_Hp} {F : Option (ρ × ph_Hp)}
theorem ph_iadd {x y : Int32} (hd : decode cc pc = .ok (.iadd, 1)) (k : ph_G Z own cc nL ret d tv (pc + 1) ls (.int (x + y) :: st) h F) : ph_G Z own cc nL ret d tv pc ls (.int y :: .int x :: st) h F :=
  fun p e R s m args below meth c Q A cells slots X r hr fin H locs lsA hP hS hl => lv_iadd X.ex X.bt hd (k p e R s m args below meth c Q A cells slots X r hr fin H locs lsA hP hS hl)
theorem ph_isub {x y : Int32} (hd : decode cc pc = .ok (.isub, 1)) (k : ph_G Z own cc nL ret d tv (pc + 1) ls (.int (x - y) :: st) h F) : ph_G Z own cc nL ret d tv pc ls (.int y :: .int x :: st) h F :=
  fun p e R s m args below meth c Q A cells slots X r hr fin H locs lsA hP hS hl => lv_isub X.ex X.bt hd (k p e R s m args below meth c Q A cells slots X r hr fin H locs lsA hP hS hl)
theorem ph_imul {x y : Int32} (hd : decode cc pc = .ok (.imul, 1)) (k : ph_G Z own cc nL ret d tv (pc + 1) ls (.int (x * y) :: st) h F) : ph_G Z own cc nL ret d tv pc ls (.int y :: .int x :: st) h F :=
  fun p e R s m args below meth c Q A cells slots X r hr fin H locs lsA hP hS hl => lv_imul X.ex X.bt hd (k p e R s m args below meth c Q A cells slots X r hr fin H locs lsA hP hS hl)
theorem ph_iand {x y : Int32} (hd : decode cc pc = .ok (.iand, 1)) (k : ph_G Z own cc nL ret d tv (pc + 1) ls (.int (x &&& y) :: st) h F) : ph_G Z own cc nL ret d tv pc ls (.int y :: .int x :: st) h F :=
  fun p e R s m args below meth c Q A cells slots X r hr fin H locs lsA hP hS hl => lv_iand X.ex X.bt hd (k p e R s m args below meth c Q A cells slots X r hr fin H locs lsA hP hS hl)
theorem ph_ior {x y : Int32} (hd : decode cc pc = .ok (.ior, 1)) (k : ph_G Z own cc nL ret d tv (pc + 1) ls (.int (x ||| y) :: st) h F) : ph_G Z own cc nL ret d tv pc ls (.int y :: .int x :: st) h F :=
  fun p e R s m args below meth c Q A cells slots X r hr fin H locs lsA hP hS hl => lv_ior X.ex X.bt hd (k p e R s m args below meth c Q A cells slots X r hr fin H locs lsA hP hS hl)
theorem ph_ixor {x y : Int32} (hd : decode cc pc = .ok (.ixor, 1)) (k : ph_G Z own cc nL ret d tv (pc + 1) ls (.int (x ^^^ y) :: st) h F) : ph_G Z own cc nL ret d tv pc ls (.int y :: .int x :: st) h F :=
  fun p e R s m args below meth c Q A cells slots X r hr fin H locs lsA hP hS hl => lv_ixor X.ex X.bt hd (k p e R s m args below meth c Q A cells slots X r hr fin H locs lsA hP hS hl)
theorem ph_ishl {x y : Int32} (hd : decode cc pc = .ok (.ishl, 1)) (k : ph_G Z own cc nL ret d tv (pc + 1) ls (.int (ph_shl x y) :: st) h F) : ph_G Z own cc nL ret d tv pc ls (.int y :: .int x :: st) h F :=
  fun p e R s m args below meth c Q A cells slots X r hr fin H locs lsA hP hS hl => lv_ishl X.ex X.bt hd (k p e R s m args below meth c Q A cells slots X r hr fin H locs lsA hP hS hl)
theorem ph_ishr {x y : Int32} (hd : decode cc pc = .ok (.ishr, 1)) (k : ph_G Z own cc nL ret d tv (pc + 1) ls (.int (ph_shr x y) :: st) h F) : ph_G Z own cc nL ret d tv pc ls (.int y :: .int x :: st) h F :=
  fun p e R s m args below meth c Q A cells slots X r hr fin H locs lsA hP hS hl => lv_ishr X.ex X.bt hd (k p e R s m args below meth c Q A cells slots X r hr fin H locs lsA hP hS hl)
theorem ph_iushr {x y : Int32} (hd : decode cc pc = .ok (.iushr, 1)) (k : ph_G Z own cc nL ret d tv (pc + 1) ls (.int (ph_ushr x y) :: st) h F) : ph_G Z own cc nL ret d tv pc ls (.int y :: .int x :: st) h F :=
  fun p e R s m args below meth c Q A cells slots X r hr fin H locs lsA hP hS hl => lv_iushr X.ex X.bt hd rfl (k p e R s m args below meth c Q A cells slots X r hr fin H locs lsA hP hS hl)
theorem ph_ineg {x : Int32} (hd : decode cc pc = .ok (.ineg, 1)) (k : ph_G Z own cc nL ret d tv (pc + 1) ls (.int (-x) :: st) h F) : ph_G Z own cc nL ret d tv pc ls (.int x :: st) h F :=
  fun p e R s m args below meth c Q A cells slots X r hr fin H locs lsA hP hS hl => lv_ineg X.ex X.bt hd (k p e R s m args below meth c Q A cells slots X r hr fin H locs lsA hP hS hl)
theorem ph_i2l {x : Int32} (hd : decode cc pc = .ok (.i2l, 1)) (k : ph_G Z own cc nL ret d tv (pc + 1) ls (.long (x.toInt64) :: st) h F) : ph_G Z own cc nL ret d tv pc ls (.int x :: st) h F :=
  fun p e R s m args below meth c Q A cells slots X r hr fin H locs lsA hP hS hl => lv_i2l X.ex X.bt hd rfl (k p e R s m args below meth c Q A cells slots X r hr fin H locs lsA hP hS hl)
theorem ph_i2b {x : Int32} (hd : decode cc pc = .ok (.i2b, 1)) (k : ph_G Z own cc nL ret d tv (pc + 1) ls (.int (x.toInt8.toInt32) :: st) h F) : ph_G Z own cc nL ret d tv pc ls (.int x :: st) h F :=
  fun p e R s m args below meth c Q A cells slots X r hr fin H locs lsA hP hS hl => lv_i2b X.ex X.bt hd rfl (k p e R s m args below meth c Q A cells slots X r hr fin H locs lsA hP hS hl)
theorem ph_i2s {x : Int32} (hd : decode cc pc = .ok (.i2s, 1)) (k : ph_G Z own cc nL ret d tv (pc + 1) ls (.int (x.toInt16.toInt32) :: st) h F) : ph_G Z own cc nL ret d tv pc ls (.int x :: st) h F :=
  fun p e R s m args below meth c Q A cells slots X r hr fin H locs lsA hP hS hl => lv_i2s X.ex X.bt hd rfl (k p e R s m args below meth c Q A cells slots X r hr fin H locs lsA hP hS hl)
theorem ph_ladd {x y : Int64} (hd : decode cc pc = .ok (.ladd, 1)) (k : ph_G Z own cc nL ret d tv (pc + 1) ls (.long (x + y) :: st) h F) : ph_G Z own cc nL ret d tv pc ls (.long y :: .long x :: st) h F :=
  fun p e R s m args below meth c Q A cells slots X r hr fin H locs lsA hP hS hl => lv_ladd X.ex X.bt hd (k p e R s m args below meth c Q A cells slots X r hr fin H locs lsA hP hS hl)
theorem ph_lsub {x y : Int64} (hd : decode cc pc = .ok (.lsub, 1)) (k : ph_G Z own cc nL ret d tv (pc + 1) ls (.long (x - y) :: st) h F) : ph_G Z own cc nL ret d tv pc ls (.long y :: .long x :: st) h F :=
  fun p e R s m args below meth c Q A cells slots X r hr fin H locs lsA hP hS hl => lv_lsub X.ex X.bt hd (k p e R s m args below meth c Q A cells slots X r hr fin H locs lsA hP hS hl)
theorem ph_lmul {x y : Int64} (hd : decode cc pc = .ok (.lmul, 1)) (k : ph_G Z own cc nL ret d tv (pc + 1) ls (.long (x * y) :: st) h F) : ph_G Z own cc nL ret d tv pc ls (.long y :: .long x :: st) h F :=
  fun p e R s m args below meth c Q A cells slots X r hr fin H locs lsA hP hS hl => lv_lmul X.ex X.bt hd (k p e R s m args below meth c Q A cells slots X r hr fin H locs lsA hP hS hl)
theorem ph_land {x y : Int64} (hd : decode cc pc = .ok (.land, 1)) (k : ph_G Z own cc nL ret d tv (pc + 1) ls (.long (x &&& y) :: st) h F) : ph_G Z own cc nL ret d tv pc ls (.long y :: .long x :: st) h F :=
  fun p e R s m args below meth c Q A cells slots X r hr fin H locs lsA hP hS hl => lv_land X.ex X.bt hd (k p e R s m args below meth c Q A cells slots X r hr fin H locs lsA hP hS hl)
theorem ph_lcmp {x y : Int64} (hd : decode cc pc = .ok (.lcmp, 1)) (k : ph_G Z own cc nL ret d tv (pc + 1) ls (.int (lg_cmp x y) :: st) h F) : ph_G Z own cc nL ret d tv pc ls (.long y :: .long x :: st) h F :=
  fun p e R s m args below meth c Q A cells slots X r hr fin H locs lsA hP hS hl => W.lcmp X.ex X.bt hd (k p e R s m args below meth c Q A cells slots X r hr fin H locs lsA hP hS hl)
theorem ph_dup {v : Value} (hd : decode cc pc = .ok (.dup, 1)) (hv : v.category = 1) (k : ph_G Z own cc nL ret d tv (pc + 1) ls (v :: v :: st) h F) : ph_G Z own cc nL ret d tv pc ls (v :: st) h F :=
  fun p e R s m args below meth c Q A cells slots X r hr fin H locs lsA hP hS hl => lv_dup X.ex X.bt hd hv (k p e R s m args below meth c Q A cells slots X r hr fin H locs lsA hP hS hl)
theorem ph_dup2 {v u : Value} (hd : decode cc pc = .ok (.dup2, 1)) (hv : v.category = 1) (hu : u.category = 1) (k : ph_G Z own cc nL ret d tv (pc + 1) ls (v :: u :: v :: u :: st) h F) : ph_G Z own cc nL ret d tv pc ls (v :: u :: st) h F :=
  fun p e R s m args below meth c Q A cells slots X r hr fin H locs lsA hP hS hl => lv_dup2_11 X.ex X.bt hd hv hu (k p e R s m args below meth c Q A cells slots X r hr fin H locs lsA hP hS hl)
theorem ph_pop {v : Value} (hd : decode cc pc = .ok (.pop, 1)) (hv : v.category = 1) (k : ph_G Z own cc nL ret d tv (pc + 1) ls st h F) : ph_G Z own cc nL ret d tv pc ls (v :: st) h F :=
  fun p e R s m args below meth c Q A cells slots X r hr fin H locs lsA hP hS hl => lv_pop X.ex X.bt hd hv (k p e R s m args below meth c Q A cells slots X r hr fin H locs lsA hP hS hl)
theorem ph_iconst {n : Int} {v : Int32} (hd : decode cc pc = .ok (.iconst n, 1)) (hv : Int32.ofInt n = v) (k : ph_G Z own cc nL ret d tv (pc + 1) ls (.int v :: st) h F) : ph_G Z own cc nL ret d tv pc ls st h F :=
  fun p e R s m args below meth c Q A cells slots X r hr fin H locs lsA hP hS hl => lv_iconst X.ex X.bt hd hv (k p e R s m args below meth c Q A cells slots X r hr fin H locs lsA hP hS hl)
theorem ph_bipush {n : Int} {v : Int32} (hd : decode cc pc = .ok (.bipush n, 2)) (hv : (Int8.ofInt n).toInt32 = v) (k : ph_G Z own cc nL ret d tv (pc + 2) ls (.int v :: st) h F) : ph_G Z own cc nL ret d tv pc ls st h F :=
  fun p e R s m args below meth c Q A cells slots X r hr fin H locs lsA hP hS hl => lv_bipush X.ex X.bt hd hv (k p e R s m args below meth c Q A cells slots X r hr fin H locs lsA hP hS hl)
theorem ph_sipush {n : Int} {v : Int32} (hd : decode cc pc = .ok (.sipush n, 3)) (hv : (Int16.ofInt n).toInt32 = v) (k : ph_G Z own cc nL ret d tv (pc + 3) ls (.int v :: st) h F) : ph_G Z own cc nL ret d tv pc ls st h F :=
  fun p e R s m args below meth c Q A cells slots X r hr fin H locs lsA hP hS hl => lv_sipush X.ex X.bt hd hv (k p e R s m args below meth c Q A cells slots X r hr fin H locs lsA hP hS hl)
theorem ph_lconst {n : Fin 2} {v : Int64} (hd : decode cc pc = .ok (.lconst n, 1)) (hv : Int64.ofNat (n : Nat) = v) (k : ph_G Z own cc nL ret d tv (pc + 1) ls (.long v :: st) h F) : ph_G Z own cc nL ret d tv pc ls st h F :=
  fun p e R s m args below meth c Q A cells slots X r hr fin H locs lsA hP hS hl => lv_lconst X.ex X.bt hd hv (k p e R s m args below meth c Q A cells slots X r hr fin H locs lsA hP hS hl)
theorem ph_ldc {i : Nat} {v : Int32} (hd : decode cc pc = .ok (.ldc i, 2)) (hc : Cond.constant own i v ∈ ph_tb) (k : ph_G Z own cc nL ret d tv (pc + 2) ls (.int v :: st) h F) : ph_G Z own cc nL ret d tv pc ls st h F :=
  fun p e R s m args below meth c Q A cells slots X r hr fin H locs lsA hP hS hl => lv_ldc X.ex X.bt X.ow (X.ts _ hc) hd (k p e R s m args below meth c Q A cells slots X r hr fin H locs lsA hP hS hl)
theorem ph_ldcw {i : Nat} {v : Int32} (hd : decode cc pc = .ok (.ldc_w i, 3)) (hc : Cond.constant own i v ∈ ph_tb) (k : ph_G Z own cc nL ret d tv (pc + 3) ls (.int v :: st) h F) : ph_G Z own cc nL ret d tv pc ls st h F :=
  fun p e R s m args below meth c Q A cells slots X r hr fin H locs lsA hP hS hl => lv_ldcw X.ex X.bt X.ow (X.ts _ hc) hd (k p e R s m args below meth c Q A cells slots X r hr fin H locs lsA hP hS hl)
theorem ph_ldc2 {i : Nat} {v : Int64} (hd : decode cc pc = .ok (.ldc2_w i, 3)) (hc : Cond.constantLong own i v ∈ ph_tb) (k : ph_G Z own cc nL ret d tv (pc + 3) ls (.long v :: st) h F) : ph_G Z own cc nL ret d tv pc ls st h F :=
  fun p e R s m args below meth c Q A cells slots X r hr fin H locs lsA hP hS hl => lv_ldc2 X.ex X.bt X.ow (X.ts _ hc) hd (k p e R s m args below meth c Q A cells slots X r hr fin H locs lsA hP hS hl)
theorem ph_iload_n {k0 : Fin 4} {i : Nat} {x : Int32} (hd : decode cc pc = .ok (.iload_n k0, 1)) (hi : (k0 : Nat) = i) (hg : ls[i]? = some (some (.int x))) (k : ph_G Z own cc nL ret d tv (pc + 1) ls (.int x :: st) h F) : ph_G Z own cc nL ret d tv pc ls st h F :=
  fun p e R s m args below meth c Q A cells slots X r hr fin H locs lsA hP hS hl => lv_iload_n X.ex X.bt hd hi (hl.ta hg) (k p e R s m args below meth c Q A cells slots X r hr fin H locs lsA hP hS hl)
theorem ph_iload {i : Nat} {x : Int32} (hd : decode cc pc = .ok (.iload i, 2)) (hg : ls[i]? = some (some (.int x))) (k : ph_G Z own cc nL ret d tv (pc + 2) ls (.int x :: st) h F) : ph_G Z own cc nL ret d tv pc ls st h F :=
  fun p e R s m args below meth c Q A cells slots X r hr fin H locs lsA hP hS hl => lv_iload X.ex X.bt hd (hl.ta hg) (k p e R s m args below meth c Q A cells slots X r hr fin H locs lsA hP hS hl)
theorem ph_lload_n {k0 : Fin 4} {i : Nat} {x : Int64} (hd : decode cc pc = .ok (.lload_n k0, 1)) (hi : (k0 : Nat) = i) (hg : ls[i]? = some (some (.long x))) (k : ph_G Z own cc nL ret d tv (pc + 1) ls (.long x :: st) h F) : ph_G Z own cc nL ret d tv pc ls st h F :=
  fun p e R s m args below meth c Q A cells slots X r hr fin H locs lsA hP hS hl => lv_lload_n X.ex X.bt hd hi (hl.ta hg) (k p e R s m args below meth c Q A cells slots X r hr fin H locs lsA hP hS hl)
theorem ph_lload {i : Nat} {x : Int64} (hd : decode cc pc = .ok (.lload i, 2)) (hg : ls[i]? = some (some (.long x))) (k : ph_G Z own cc nL ret d tv (pc + 2) ls (.long x :: st) h F) : ph_G Z own cc nL ret d tv pc ls st h F :=
  fun p e R s m args below meth c Q A cells slots X r hr fin H locs lsA hP hS hl => lv_lload X.ex X.bt hd (hl.ta hg) (k p e R s m args below meth c Q A cells slots X r hr fin H locs lsA hP hS hl)
theorem ph_aload_n {k0 : Fin 4} {i : Nat} {x : Nat} (hd : decode cc pc = .ok (.aload_n k0, 1)) (hi : (k0 : Nat) = i) (hg : ls[i]? = some (some (.ref x))) (k : ph_G Z own cc nL ret d tv (pc + 1) ls (.ref x :: st) h F) : ph_G Z own cc nL ret d tv pc ls st h F :=
  fun p e R s m args below meth c Q A cells slots X r hr fin H locs lsA hP hS hl => lv_aload_n X.ex X.bt hd hi (hl.ta hg) (k p e R s m args below meth c Q A cells slots X r hr fin H locs lsA hP hS hl)
theorem ph_aload {i : Nat} {x : Nat} (hd : decode cc pc = .ok (.aload i, 2)) (hg : ls[i]? = some (some (.ref x))) (k : ph_G Z own cc nL ret d tv (pc + 2) ls (.ref x :: st) h F) : ph_G Z own cc nL ret d tv pc ls st h F :=
  fun p e R s m args below meth c Q A cells slots X r hr fin H locs lsA hP hS hl => lv_aload X.ex X.bt hd (hl.ta hg) (k p e R s m args below meth c Q A cells slots X r hr fin H locs lsA hP hS hl)
theorem ph_istore_n {k0 : Fin 4} {i : Nat} {x : Int32} {ls1 : List (Option Value)} (hd : decode cc pc = .ok (.istore_n k0, 1)) (hi : (k0 : Nat) = i) (hn : i < nL) (h1 : ph_set1 ls i (.int x) = ls1) (k : ph_G Z own cc nL ret d tv (pc + 1) ls1 st h F) : ph_G Z own cc nL ret d tv pc ls (.int x :: st) h F :=
  fun p e R s m args below meth c Q A cells slots X r hr fin H locs lsA hP hS hl => lv_istore_n X.ex X.bt hd hi hl hn rfl (fun ls2 h2 => k p e R s m args below meth c Q A cells slots X r hr fin H locs ls2 hP hS (h1 ▸ ph_lv_of1 h2))
theorem ph_istore {i : Nat} {x : Int32} {ls1 : List (Option Value)} (hd : decode cc pc = .ok (.istore i, 2)) (hn : i < nL) (h1 : ph_set1 ls i (.int x) = ls1) (k : ph_G Z own cc nL ret d tv (pc + 2) ls1 st h F) : ph_G Z own cc nL ret d tv pc ls (.int x :: st) h F :=
  fun p e R s m args below meth c Q A cells slots X r hr fin H locs lsA hP hS hl => lv_istore X.ex X.bt hd hl hn rfl (fun ls2 h2 => k p e R s m args below meth c Q A cells slots X r hr fin H locs ls2 hP hS (h1 ▸ ph_lv_of1 h2))
theorem ph_lstore_n {k0 : Fin 4} {i : Nat} {x : Int64} {ls1 : List (Option Value)} (hd : decode cc pc = .ok (.lstore_n k0, 1)) (hi : (k0 : Nat) = i) (hn : i + 1 < nL) (h1 : ph_set2 ls i (.long x) = ls1) (k : ph_G Z own cc nL ret d tv (pc + 1) ls1 st h F) : ph_G Z own cc nL ret d tv pc ls (.long x :: st) h F :=
  fun p e R s m args below meth c Q A cells slots X r hr fin H locs lsA hP hS hl => lv_lstore_n X.ex X.bt hd hi hl hn rfl (fun ls2 h2 => k p e R s m args below meth c Q A cells slots X r hr fin H locs ls2 hP hS (h1 ▸ ph_lv_of2 h2))
theorem ph_lstore {i : Nat} {x : Int64} {ls1 : List (Option Value)} (hd : decode cc pc = .ok (.lstore i, 2)) (hn : i + 1 < nL) (h1 : ph_set2 ls i (.long x) = ls1) (k : ph_G Z own cc nL ret d tv (pc + 2) ls1 st h F) : ph_G Z own cc nL ret d tv pc ls (.long x :: st) h F :=
  fun p e R s m args below meth c Q A cells slots X r hr fin H locs lsA hP hS hl => lv_lstore X.ex X.bt hd hl hn rfl (fun ls2 h2 => k p e R s m args below meth c Q A cells slots X r hr fin H locs ls2 hP hS (h1 ▸ ph_lv_of2 h2))
theorem ph_astore_n {k0 : Fin 4} {i : Nat} {x : Nat} {ls1 : List (Option Value)} (hd : decode cc pc = .ok (.astore_n k0, 1)) (hi : (k0 : Nat) = i) (hn : i < nL) (h1 : ph_set1 ls i (.ref x) = ls1) (k : ph_G Z own cc nL ret d tv (pc + 1) ls1 st h F) : ph_G Z own cc nL ret d tv pc ls (.ref x :: st) h F :=
  fun p e R s m args below meth c Q A cells slots X r hr fin H locs lsA hP hS hl => lv_astore_n X.ex X.bt hd hi hl hn rfl (fun ls2 h2 => k p e R s m args below meth c Q A cells slots X r hr fin H locs ls2 hP hS (h1 ▸ ph_lv_of1 h2))
theorem ph_astore {i : Nat} {x : Nat} {ls1 : List (Option Value)} (hd : decode cc pc = .ok (.astore i, 2)) (hn : i < nL) (h1 : ph_set1 ls i (.ref x) = ls1) (k : ph_G Z own cc nL ret d tv (pc + 2) ls1 st h F) : ph_G Z own cc nL ret d tv pc ls (.ref x :: st) h F :=
  fun p e R s m args below meth c Q A cells slots X r hr fin H locs lsA hP hS hl => lv_astore X.ex X.bt hd hl hn rfl (fun ls2 h2 => k p e R s m args below meth c Q A cells slots X r hr fin H locs ls2 hP hS (h1 ▸ ph_lv_of1 h2))
theorem ph_if_eq {x : Int32} {off : Int} {tgt : Nat} {F1 F2 : Option (ρ × ph_Hp)} (hd : decode cc pc = .ok (.ifCond .eq off, 3)) (ht : (pc : Int) + off = (tgt : Int)) (k1 : x = 0 → ph_G Z own cc nL ret d tv tgt ls st h F1) (k2 : ¬ (x = 0) → ph_G Z own cc nL ret d tv (pc + 3) ls st h F2) : ph_G Z own cc nL ret d tv pc ls (.int x :: st) h (if x = 0 then F1 else F2) :=
  fun p e R s m args below meth c Q A cells slots X r hr fin H locs lsA hP hS hl => lv_if_eq X.ex X.bt hd ht (fun c1 => k1 c1 p e R s m args below meth c Q A cells slots X r (by rw [if_pos c1] at hr; exact hr) fin H locs lsA hP hS hl) (fun c1 => k2 c1 p e R s m args below meth c Q A cells slots X r (by rw [if_neg c1] at hr; exact hr) fin H locs lsA hP hS hl)
theorem ph_if_ne {x : Int32} {off : Int} {tgt : Nat} {F1 F2 : Option (ρ × ph_Hp)} (hd : decode cc pc = .ok (.ifCond .ne off, 3)) (ht : (pc : Int) + off = (tgt : Int)) (k1 : ¬ (x = 0) → ph_G Z own cc nL ret d tv tgt ls st h F1) (k2 : x = 0 → ph_G Z own cc nL ret d tv (pc + 3) ls st h F2) : ph_G Z own cc nL ret d tv pc ls (.int x :: st) h (if x = 0 then F2 else F1) :=
  fun p e R s m args below meth c Q A cells slots X r hr fin H locs lsA hP hS hl => lv_if_ne X.ex X.bt hd ht (fun c1 => k1 c1 p e R s m args below meth c Q A cells slots X r (by rw [if_neg c1] at hr; exact hr) fin H locs lsA hP hS hl) (fun c1 => k2 c1 p e R s m args below meth c Q A cells slots X r (by rw [if_pos c1] at hr; exact hr) fin H locs lsA hP hS hl)
theorem ph_if_lt {x : Int32} {off : Int} {tgt : Nat} {F1 F2 : Option (ρ × ph_Hp)} (hd : decode cc pc = .ok (.ifCond .lt off, 3)) (ht : (pc : Int) + off = (tgt : Int)) (k1 : x < 0 → ph_G Z own cc nL ret d tv tgt ls st h F1) (k2 : ¬ (x < 0) → ph_G Z own cc nL ret d tv (pc + 3) ls st h F2) : ph_G Z own cc nL ret d tv pc ls (.int x :: st) h (if x < 0 then F1 else F2) :=
  fun p e R s m args below meth c Q A cells slots X r hr fin H locs lsA hP hS hl => lv_if_lt X.ex X.bt hd ht (fun c1 => k1 c1 p e R s m args below meth c Q A cells slots X r (by rw [if_pos c1] at hr; exact hr) fin H locs lsA hP hS hl) (fun c1 => k2 c1 p e R s m args below meth c Q A cells slots X r (by rw [if_neg c1] at hr; exact hr) fin H locs lsA hP hS hl)
theorem ph_if_ge {x : Int32} {off : Int} {tgt : Nat} {F1 F2 : Option (ρ × ph_Hp)} (hd : decode cc pc = .ok (.ifCond .ge off, 3)) (ht : (pc : Int) + off = (tgt : Int)) (k1 : 0 ≤ x → ph_G Z own cc nL ret d tv tgt ls st h F1) (k2 : ¬ (0 ≤ x) → ph_G Z own cc nL ret d tv (pc + 3) ls st h F2) : ph_G Z own cc nL ret d tv pc ls (.int x :: st) h (if 0 ≤ x then F1 else F2) :=
  fun p e R s m args below meth c Q A cells slots X r hr fin H locs lsA hP hS hl => lv_if_ge X.ex X.bt hd ht (fun c1 => k1 c1 p e R s m args below meth c Q A cells slots X r (by rw [if_pos c1] at hr; exact hr) fin H locs lsA hP hS hl) (fun c1 => k2 c1 p e R s m args below meth c Q A cells slots X r (by rw [if_neg c1] at hr; exact hr) fin H locs lsA hP hS hl)
theorem ph_if_gt {x : Int32} {off : Int} {tgt : Nat} {F1 F2 : Option (ρ × ph_Hp)} (hd : decode cc pc = .ok (.ifCond .gt off, 3)) (ht : (pc : Int) + off = (tgt : Int)) (k1 : 0 < x → ph_G Z own cc nL ret d tv tgt ls st h F1) (k2 : ¬ (0 < x) → ph_G Z own cc nL ret d tv (pc + 3) ls st h F2) : ph_G Z own cc nL ret d tv pc ls (.int x :: st) h (if 0 < x then F1 else F2) :=
  fun p e R s m args below meth c Q A cells slots X r hr fin H locs lsA hP hS hl => lv_if_gt X.ex X.bt hd ht (fun c1 => k1 c1 p e R s m args below meth c Q A cells slots X r (by rw [if_pos c1] at hr; exact hr) fin H locs lsA hP hS hl) (fun c1 => k2 c1 p e R s m args below meth c Q A cells slots X r (by rw [if_neg c1] at hr; exact hr) fin H locs lsA hP hS hl)
theorem ph_if_le {x : Int32} {off : Int} {tgt : Nat} {F1 F2 : Option (ρ × ph_Hp)} (hd : decode cc pc = .ok (.ifCond .le off, 3)) (ht : (pc : Int) + off = (tgt : Int)) (k1 : x ≤ 0 → ph_G Z own cc nL ret d tv tgt ls st h F1) (k2 : ¬ (x ≤ 0) → ph_G Z own cc nL ret d tv (pc + 3) ls st h F2) : ph_G Z own cc nL ret d tv pc ls (.int x :: st) h (if x ≤ 0 then F1 else F2) :=
  fun p e R s m args below meth c Q A cells slots X r hr fin H locs lsA hP hS hl => lv_if_le X.ex X.bt hd ht (fun c1 => k1 c1 p e R s m args below meth c Q A cells slots X r (by rw [if_pos c1] at hr; exact hr) fin H locs lsA hP hS hl) (fun c1 => k2 c1 p e R s m args below meth c Q A cells slots X r (by rw [if_neg c1] at hr; exact hr) fin H locs lsA hP hS hl)
theorem ph_icmp_eq {x y : Int32} {off : Int} {tgt : Nat} {F1 F2 : Option (ρ × ph_Hp)} (hd : decode cc pc = .ok (.if_icmp .eq off, 3)) (ht : (pc : Int) + off = (tgt : Int)) (k1 : x = y → ph_G Z own cc nL ret d tv tgt ls st h F1) (k2 : ¬ (x = y) → ph_G Z own cc nL ret d tv (pc + 3) ls st h F2) : ph_G Z own cc nL ret d tv pc ls (.int y :: .int x :: st) h (if x = y then F1 else F2) :=
  fun p e R s m args below meth c Q A cells slots X r hr fin H locs lsA hP hS hl => lv_icmp_eq X.ex X.bt hd ht (fun c1 => k1 c1 p e R s m args below meth c Q A cells slots X r (by rw [if_pos c1] at hr; exact hr) fin H locs lsA hP hS hl) (fun c1 => k2 c1 p e R s m args below meth c Q A cells slots X r (by rw [if_neg c1] at hr; exact hr) fin H locs lsA hP hS hl)
theorem ph_icmp_ne {x y : Int32} {off : Int} {tgt : Nat} {F1 F2 : Option (ρ × ph_Hp)} (hd : decode cc pc = .ok (.if_icmp .ne off, 3)) (ht : (pc : Int) + off = (tgt : Int)) (k1 : ¬ (x = y) → ph_G Z own cc nL ret d tv tgt ls st h F1) (k2 : x = y → ph_G Z own cc nL ret d tv (pc + 3) ls st h F2) : ph_G Z own cc nL ret d tv pc ls (.int y :: .int x :: st) h (if x = y then F2 else F1) :=
  fun p e R s m args below meth c Q A cells slots X r hr fin H locs lsA hP hS hl => lv_icmp_ne X.ex X.bt hd ht (fun c1 => k1 c1 p e R s m args below meth c Q A cells slots X r (by rw [if_neg c1] at hr; exact hr) fin H locs lsA hP hS hl) (fun c1 => k2 c1 p e R s m args below meth c Q A cells slots X r (by rw [if_pos c1] at hr; exact hr) fin H locs lsA hP hS hl)
theorem ph_icmp_lt {x y : Int32} {off : Int} {tgt : Nat} {F1 F2 : Option (ρ × ph_Hp)} (hd : decode cc pc = .ok (.if_icmp .lt off, 3)) (ht : (pc : Int) + off = (tgt : Int)) (k1 : x < y → ph_G Z own cc nL ret d tv tgt ls st h F1) (k2 : ¬ (x < y) → ph_G Z own cc nL ret d tv (pc + 3) ls st h F2) : ph_G Z own cc nL ret d tv pc ls (.int y :: .int x :: st) h (if x < y then F1 else F2) :=
  fun p e R s m args below meth c Q A cells slots X r hr fin H locs lsA hP hS hl => lv_icmp_lt X.ex X.bt hd ht (fun c1 => k1 c1 p e R s m args below meth c Q A cells slots X r (by rw [if_pos c1] at hr; exact hr) fin H locs lsA hP hS hl) (fun c1 => k2 c1 p e R s m args below meth c Q A cells slots X r (by rw [if_neg c1] at hr; exact hr) fin H locs lsA hP hS hl)
theorem ph_icmp_ge {x y : Int32} {off : Int} {tgt : Nat} {F1 F2 : Option (ρ × ph_Hp)} (hd : decode cc pc = .ok (.if_icmp .ge off, 3)) (ht : (pc : Int) + off = (tgt : Int)) (k1 : y ≤ x → ph_G Z own cc nL ret d tv tgt ls st h F1) (k2 : ¬ (y ≤ x) → ph_G Z own cc nL ret d tv (pc + 3) ls st h F2) : ph_G Z own cc nL ret d tv pc ls (.int y :: .int x :: st) h (if y ≤ x then F1 else F2) :=
  fun p e R s m args below meth c Q A cells slots X r hr fin H locs lsA hP hS hl => lv_icmp_ge X.ex X.bt hd ht (fun c1 => k1 c1 p e R s m args below meth c Q A cells slots X r (by rw [if_pos c1] at hr; exact hr) fin H locs lsA hP hS hl) (fun c1 => k2 c1 p e R s m args below meth c Q A cells slots X r (by rw [if_neg c1] at hr; exact hr) fin H locs lsA hP hS hl)
theorem ph_icmp_gt {x y : Int32} {off : Int} {tgt : Nat} {F1 F2 : Option (ρ × ph_Hp)} (hd : decode cc pc = .ok (.if_icmp .gt off, 3)) (ht : (pc : Int) + off = (tgt : Int)) (k1 : y < x → ph_G Z own cc nL ret d tv tgt ls st h F1) (k2 : ¬ (y < x) → ph_G Z own cc nL ret d tv (pc + 3) ls st h F2) : ph_G Z own cc nL ret d tv pc ls (.int y :: .int x :: st) h (if y < x then F1 else F2) :=
  fun p e R s m args below meth c Q A cells slots X r hr fin H locs lsA hP hS hl => lv_icmp_gt X.ex X.bt hd ht (fun c1 => k1 c1 p e R s m args below meth c Q A cells slots X r (by rw [if_pos c1] at hr; exact hr) fin H locs lsA hP hS hl) (fun c1 => k2 c1 p e R s m args below meth c Q A cells slots X r (by rw [if_neg c1] at hr; exact hr) fin H locs lsA hP hS hl)
theorem ph_icmp_le {x y : Int32} {off : Int} {tgt : Nat} {F1 F2 : Option (ρ × ph_Hp)} (hd : decode cc pc = .ok (.if_icmp .le off, 3)) (ht : (pc : Int) + off = (tgt : Int)) (k1 : x ≤ y → ph_G Z own cc nL ret d tv tgt ls st h F1) (k2 : ¬ (x ≤ y) → ph_G Z own cc nL ret d tv (pc + 3) ls st h F2) : ph_G Z own cc nL ret d tv pc ls (.int y :: .int x :: st) h (if x ≤ y then F1 else F2) :=
  fun p e R s m args below meth c Q A cells slots X r hr fin H locs lsA hP hS hl => lv_icmp_le X.ex X.bt hd ht (fun c1 => k1 c1 p e R s m args below meth c Q A cells slots X r (by rw [if_pos c1] at hr; exact hr) fin H locs lsA hP hS hl) (fun c1 => k2 c1 p e R s m args below meth c Q A cells slots X r (by rw [if_neg c1] at hr; exact hr) fin H locs lsA hP hS hl)
theorem ph_goto {off : Int} {tgt : Nat} (hd : decode cc pc = .ok (.goto off, 3)) (ht : (pc : Int) + off = (tgt : Int)) (k : ph_G Z own cc nL ret d tv tgt ls st h F) : ph_G Z own cc nL ret d tv pc ls st h F :=
  fun p e R s m args below meth c Q A cells slots X r hr fin H locs lsA hP hS hl => lv_goto X.ex X.bt hd ht (k p e R s m args below meth c Q A cells slots X r hr fin H locs lsA hP hS hl)
end PHR
section PHS
variable {Z : ph_L} {own : String} {cc : ByteArray} {nL : Nat} {ret : Option FieldType} {d : Nat} {ρ : Type} {tv : ρ → Option Value} {pc : Nat} {ls : List (Option Value)} {st : List Value} {h : ph_Hp} {F : Option (ρ × ph_Hp)}
theorem ph_none : ph_G Z own cc nL ret d tv pc ls st h none := fun p e R s m args below meth c Q A cells slots X r hr => by cases hr
theorem ph_eqF {F1 : Option (ρ × ph_Hp)} (e : F = F1) (k : ph_G Z own cc nL ret d tv pc ls st h F1) : ph_G Z own cc nL ret d tv pc ls st h F := e ▸ k
theorem ph_iinc {i : Nat} {n : Int} {x v : Int32} {ls1 : List (Option Value)} (hd : decode cc pc = .ok (.iinc i n, 3)) (hg : ls[i]? = some (some (.int x))) (hv : Int32.ofInt n = v) (hn : i < nL) (h1 : ph_set1 ls i (.int (x + v)) = ls1) (k : ph_G Z own cc nL ret d tv (pc + 3) ls1 st h F) : ph_G Z own cc nL ret d tv pc ls st h F := by
  intro p e R s m args below meth c Q A cells slots X r hr fin H locs lsA hP hS hl
  obtain ⟨k0, hk0⟩ := List.getElem?_of_mem ((ph_kn_mem ls 0 i (.int x)).mpr ⟨i, hg, by omega⟩)
  exact lv_iinc X.ex X.bt hd hl hk0 (by rw [hv]) hn rfl (fun ls2 h2 => k p e R s m args below meth c Q A cells slots X r hr fin H locs ls2 hP hS (h1 ▸ ph_lv_of1 h2))
-- returns
theorem ph_iret {ret : Option FieldType} {v : Int32} (hd : decode cc pc = .ok (.ireturn, 1)) (hr2 : ret = some .int) : ph_G Z own cc nL ret d ph_vi pc ls [.int v] h (some (v, h)) := by
  intro p e R s m args below meth c Q A cells slots X r hr fin H locs lsA hP hS hl
  cases hr
  exact fin H locs lsA pc hP hS ⟨hd, .int, hr2, rfl⟩
theorem ph_zret {ret : Option FieldType} {v : Int32} (hd : decode cc pc = .ok (.ireturn, 1)) (hr2 : ret = some .boolean) : ph_G Z own cc nL ret d ph_vi pc ls [.int v] h (ph_rz v h) := by
  intro p e R s m args below meth c Q A cells slots X r hr fin H locs lsA hP hS hl
  unfold ph_rz at hr
  by_cases hv : v = 0 ∨ v = 1
  · rw [if_pos hv] at hr
    cases hr
    refine fin H locs lsA pc hP hS ⟨hd, .boolean, hr2, ?_⟩
    rcases hv with hv | hv <;> (show narrow .boolean (.int v) = .int v; rw [hv]; rfl)
  · rw [if_neg hv] at hr
    cases hr
theorem ph_lret {ret : Option FieldType} {v : Int64} (hd : decode cc pc = .ok (.lreturn, 1)) (hr2 : ret = some .long) : ph_G Z own cc nL ret d ph_vl pc ls [.long v] h (some (v, h)) := by
  intro p e R s m args below meth c Q A cells slots X r hr fin H locs lsA hP hS hl
  cases hr
  exact fin H locs lsA pc hP hS ⟨hd, hr2⟩
theorem ph_vret {ret : Option FieldType} (hd : decode cc pc = .ok (.return_, 1)) (hr2 : ret = none) : ph_G Z own cc nL ret d ph_vv pc ls [] h (some ((), h)) := by
  intro p e R s m args below meth c Q A cells slots X r hr fin H locs lsA hP hS hl
  cases hr
  exact fin H locs lsA pc hP hS ⟨hr2, hd⟩
theorem ph_aret {ret : Option FieldType} {n : String} {v : Nat} (hd : decode cc pc = .ok (.areturn, 1)) (hr2 : ret = some (.object n)) : ph_G Z own cc nL ret d (ph_vr Z) pc ls [.ref (ph_a Z v)] h (some (v, h)) := by
  intro p e R s m args below meth c Q A cells slots X r hr fin H locs lsA hP hS hl
  cases hr
  exact fin H locs lsA pc hP hS ⟨hd, n, hr2⟩
-- joins and loops
theorem ph_join {α : Type} {f : α → Option (ρ × ph_Hp)} {b : (α → Option (ρ × ph_Hp)) → Option (ρ × ph_Hp)} (pcj : Nat) (lsj : α → List (Option Value)) (stj : α → List Value) (hj : α → ph_Hp) (k1 : ∀ x, ph_G Z own cc nL ret d tv pcj (lsj x) (stj x) (hj x) (f x)) (k2 : ∀ j : α → Option (ρ × ph_Hp), (∀ x, ph_G Z own cc nL ret d tv pcj (lsj x) (stj x) (hj x) (j x)) → ph_G Z own cc nL ret d tv pc ls st h (b j)) : ph_G Z own cc nL ret d tv pc ls st h (ph_jn f b) := k2 f k1
theorem ph_loop {α : Type} {body : (α → Option (ρ × ph_Hp)) → α → Option (ρ × ph_Hp)} (pcj : Nat) (lsj : α → List (Option Value)) (stj : α → List Value) (hj : α → ph_Hp) (k : ∀ j : α → Option (ρ × ph_Hp), (∀ x, ph_G Z own cc nL ret d tv pcj (lsj x) (stj x) (hj x) (j x)) → ∀ x, ph_G Z own cc nL ret d tv pcj (lsj x) (stj x) (hj x) (body j x)) : ∀ (n : Nat) (x : α), ph_G Z own cc nL ret d tv pcj (lsj x) (stj x) (hj x) (ph_lp body n x)
  | 0, x => ph_none
  | n + 1, x => k (ph_lp body n) (ph_loop pcj lsj stj hj k n) x
-- divisions
theorem ph_idiv {x y : Int32} {K : Int32 → Option (ρ × ph_Hp)} (hd : decode cc pc = .ok (.idiv, 1)) (k : ph_G Z own cc nL ret d tv (pc + 1) ls (.int (x / y) :: st) h (K (x / y))) : ph_G Z own cc nL ret d tv pc ls (.int y :: .int x :: st) h (ph_dvI x y K) := by
  intro p e R s m args below meth c Q A cells slots X r hr fin H locs lsA hP hS hl
  unfold ph_dvI at hr
  by_cases hy : y = 0
  · rw [if_pos hy] at hr; cases hr
  · rw [if_neg hy] at hr
    exact lv_idiv X.ex X.bt hd hy (k p e R s m args below meth c Q A cells slots X r hr fin H locs lsA hP hS hl)
theorem ph_iremr {x y : Int32} {K : Int32 → Option (ρ × ph_Hp)} (hd : decode cc pc = .ok (.irem, 1)) (k : ph_G Z own cc nL ret d tv (pc + 1) ls (.int (ph_irem x y) :: st) h (K (ph_irem x y))) : ph_G Z own cc nL ret d tv pc ls (.int y :: .int x :: st) h (ph_rmI x y K) := by
  intro p e R s m args below meth c Q A cells slots X r hr fin H locs lsA hP hS hl
  unfold ph_rmI at hr
  by_cases hy : y = 0
  · rw [if_pos hy] at hr; cases hr
  · rw [if_neg hy] at hr
    exact lv_irem X.ex X.bt hd hy (k p e R s m args below meth c Q A cells slots X r hr fin H locs lsA hP hS hl)
theorem ph_ldiv {x y : Int64} {K : Int64 → Option (ρ × ph_Hp)} (hd : decode cc pc = .ok (.ldiv, 1)) (k : ph_G Z own cc nL ret d tv (pc + 1) ls (.long (x / y) :: st) h (K (x / y))) : ph_G Z own cc nL ret d tv pc ls (.long y :: .long x :: st) h (ph_dvJ x y K) := by
  intro p e R s m args below meth c Q A cells slots X r hr fin H locs lsA hP hS hl
  unfold ph_dvJ at hr
  by_cases hy : y = 0
  · rw [if_pos hy] at hr; cases hr
  · rw [if_neg hy] at hr
    exact lv_ldiv X.ex X.bt hd hy (k p e R s m args below meth c Q A cells slots X r hr fin H locs lsA hP hS hl)
theorem ph_lremr {x y : Int64} {K : Int64 → Option (ρ × ph_Hp)} (hd : decode cc pc = .ok (.lrem, 1)) (k : ph_G Z own cc nL ret d tv (pc + 1) ls (.long (ph_lrem x y) :: st) h (K (ph_lrem x y))) : ph_G Z own cc nL ret d tv pc ls (.long y :: .long x :: st) h (ph_rmJ x y K) := by
  intro p e R s m args below meth c Q A cells slots X r hr fin H locs lsA hP hS hl
  unfold ph_rmJ at hr
  by_cases hy : y = 0
  · rw [if_pos hy] at hr; cases hr
  · rw [if_neg hy] at hr
    exact lv_lrem X.ex X.bt hd hy (k p e R s m args below meth c Q A cells slots X r hr fin H locs lsA hP hS hl)
-- division by a number that is not 0
theorem ph_idivK {x y : Int32} (hd : decode cc pc = .ok (.idiv, 1)) (hy : ¬ y = 0) (k : ph_G Z own cc nL ret d tv (pc + 1) ls (.int (x / y) :: st) h F) : ph_G Z own cc nL ret d tv pc ls (.int y :: .int x :: st) h F :=
  fun p e R s m args below meth c Q A cells slots X r hr fin H locs lsA hP hS hl => lv_idiv X.ex X.bt hd hy (k p e R s m args below meth c Q A cells slots X r hr fin H locs lsA hP hS hl)
theorem ph_iremK {x y : Int32} (hd : decode cc pc = .ok (.irem, 1)) (hy : ¬ y = 0) (k : ph_G Z own cc nL ret d tv (pc + 1) ls (.int (ph_irem x y) :: st) h F) : ph_G Z own cc nL ret d tv pc ls (.int y :: .int x :: st) h F :=
  fun p e R s m args below meth c Q A cells slots X r hr fin H locs lsA hP hS hl => lv_irem X.ex X.bt hd hy (k p e R s m args below meth c Q A cells slots X r hr fin H locs lsA hP hS hl)
theorem ph_ldivK {x y : Int64} (hd : decode cc pc = .ok (.ldiv, 1)) (hy : ¬ y = 0) (k : ph_G Z own cc nL ret d tv (pc + 1) ls (.long (x / y) :: st) h F) : ph_G Z own cc nL ret d tv pc ls (.long y :: .long x :: st) h F :=
  fun p e R s m args below meth c Q A cells slots X r hr fin H locs lsA hP hS hl => lv_ldiv X.ex X.bt hd hy (k p e R s m args below meth c Q A cells slots X r hr fin H locs lsA hP hS hl)
-- switches: a case, the rest
theorem ph_tin {dflt lo hi : Int} {offs : Array Int} {len : Nat} {x v : Int32} {off : Int} {tgt : Nat} (hd : decode cc pc = .ok (.tableswitch dflt lo hi offs, len)) (hx : x = v) (h1 : ¬ v.toInt < lo) (h2 : ¬ hi < v.toInt) (ho : offs[(v.toInt - lo).toNat]? = some off) (ht : (pc : Int) + off = (tgt : Int)) (k : ph_G Z own cc nL ret d tv tgt ls st h F) : ph_G Z own cc nL ret d tv pc ls (.int x :: st) h F := by
  subst hx
  exact fun p e R s m args below meth c Q A cells slots X r hr fin H locs lsA hP hS hl => lv_tableIn X.ex X.bt hd h1 h2 ho ht (k p e R s m args below meth c Q A cells slots X r hr fin H locs lsA hP hS hl)
theorem ph_tout {dflt lo hi : Int} {offs : Array Int} {len : Nat} {x : Int32} {tgt : Nat} (hd : decode cc pc = .ok (.tableswitch dflt lo hi offs, len)) (h0 : x.toInt < lo ∨ hi < x.toInt) (ht : (pc : Int) + dflt = (tgt : Int)) (k : ph_G Z own cc nL ret d tv tgt ls st h F) : ph_G Z own cc nL ret d tv pc ls (.int x :: st) h F :=
  fun p e R s m args below meth c Q A cells slots X r hr fin H locs lsA hP hS hl => lv_tableOut X.ex X.bt hd h0 ht (k p e R s m args below meth c Q A cells slots X r hr fin H locs lsA hP hS hl)
theorem ph_lsw {dflt : Int} {ps : Array (Int × Int)} {len : Nat} {x : Int32} {off : Int} {tgt : Nat} (hd : decode cc pc = .ok (.lookupswitch dflt ps, len)) (hp : (ps.toList.zip (ps.toList.drop 1)).all (fun (a, next) => a.1 < next.1) = true) (ho : Op.lookupswitch.offset ps.toList dflt x.toInt = off) (ht : (pc : Int) + off = (tgt : Int)) (k : ph_G Z own cc nL ret d tv tgt ls st h F) : ph_G Z own cc nL ret d tv pc ls (.int x :: st) h F :=
  fun p e R s m args below meth c Q A cells slots X r hr fin H locs lsA hP hS hl => lv_lookup X.ex X.bt hd hp ho ht (k p e R s m args below meth c Q A cells slots X r hr fin H locs lsA hP hS hl)
theorem ph_ite {P : Prop} [Decidable P] {F1 F2 : Option (ρ × ph_Hp)} (k1 : P → ph_G Z own cc nL ret d tv pc ls st h F1) (k2 : ¬ P → ph_G Z own cc nL ret d tv pc ls st h F2) : ph_G Z own cc nL ret d tv pc ls st h (if P then F1 else F2) := by
  by_cases hP : P
  · rw [if_pos hP]; exact k1 hP
  · rw [if_neg hP]; exact k2 hP
theorem ph_isKr {r0 k0 : Nat} (k : ph_kd r0 = k0 → ph_G Z own cc nL ret d tv pc ls st h F) : ph_G Z own cc nL ret d tv pc ls st h (ph_isK r0 k0 F) := by
  unfold ph_isK
  by_cases hP : ph_kd r0 = k0
  · rw [if_pos hP]; exact k hP
  · rw [if_neg hP]; exact ph_none
-- arrays
theorem ph_cell_I (Z : ph_L) (f : Nat → Int32) (g : Nat → Int64) {i : Nat} (hk : ph_kd i = 10) : ph_cell Z f g i = .inl (ph_cI Z, ph_ln i, .inl f) := by unfold ph_cell; rw [if_pos hk]
theorem ph_cell_Z (Z : ph_L) (f : Nat → Int32) (g : Nat → Int64) {i : Nat} (hk : ph_kd i = 11) : ph_cell Z f g i = .inl (ph_cZ Z, ph_ln i, .inl f) := by unfold ph_cell; rw [if_neg (by omega), if_pos hk]
theorem ph_cell_J (Z : ph_L) (f : Nat → Int32) (g : Nat → Int64) {i : Nat} (hk : ph_kd i = 12) : ph_cell Z f g i = .inl (ph_cJ Z, ph_ln i, .inr (.inl g)) := by unfold ph_cell; rw [if_neg (by omega), if_neg (by omega), if_pos hk]
theorem ph_cell_o (Z : ph_L) (f : Nat → Int32) (g : Nat → Int64) {i ci : Nat} (hk : ph_kd i = ci) (hc : ci < 10) : ph_cell Z f g i = .inr (ci, ph_flds Z f g i) := by unfold ph_cell; rw [if_neg (by omega), if_neg (by omega), if_neg (by omega), hk]
theorem ph_atI (Z : ph_L) (h : ph_Hp) {i : Nat} (hk : ph_kd i = 10) : (ph_ws Z h)[i]? = some (ph_a Z i, .inl (ph_cI Z, ph_ln i, .inl (h.1 i))) := by rw [ph_ws_at Z h (ph_lt (by omega)), ph_cell_I Z _ _ hk]
theorem ph_atZ (Z : ph_L) (h : ph_Hp) {i : Nat} (hk : ph_kd i = 11) : (ph_ws Z h)[i]? = some (ph_a Z i, .inl (ph_cZ Z, ph_ln i, .inl (h.1 i))) := by rw [ph_ws_at Z h (ph_lt (by omega)), ph_cell_Z Z _ _ hk]
theorem ph_atJ (Z : ph_L) (h : ph_Hp) {i : Nat} (hk : ph_kd i = 12) : (ph_ws Z h)[i]? = some (ph_a Z i, .inl (ph_cJ Z, ph_ln i, .inr (.inl (h.2 i)))) := by rw [ph_ws_at Z h (ph_lt (by omega)), ph_cell_J Z _ _ hk]
theorem ph_ato (Z : ph_L) (h : ph_Hp) {i ci : Nat} (hk : ph_kd i = ci) (hc : ci < 10) : (ph_ws Z h)[i]? = some (ph_a Z i, .inr (ci, ph_flds Z (h.1 i) (h.2 i) i)) := by rw [ph_ws_at Z h (ph_lt (by omega)), ph_cell_o Z _ _ hk hc]
theorem ph_vin {i : Int32} {n : Nat} (h : 0 ≤ i.toInt ∧ i.toInt < (n : Int)) : vp_in i n := vp_in_iff.mpr h
theorem ph_iald {q : Nat} {i : Int32} {K : Int32 → Option (ρ × ph_Hp)} (hd : decode cc pc = .ok (.iaload, 1)) (hk : ph_kd q = 10) (k : ∀ x, ph_G Z own cc nL ret d tv (pc + 1) ls (.int x :: st) h (K x)) : ph_G Z own cc nL ret d tv pc ls (.int i :: .ref (ph_a Z q) :: st) h (ph_ldI h q i K) := by
  intro p e R s m args below meth c Q A cells slots X r hr fin H locs lsA hP hS hl
  unfold ph_ldI at hr
  by_cases hc : 0 ≤ i.toInt ∧ i.toInt < (ph_ln q : Int)
  · rw [if_pos hc] at hr
    exact va_iald X.ex X.bt X.kk hP q 0 (ph_atI Z h hk) rfl (ph_vin hc) hd (k _ p e R s m args below meth c Q A cells slots X r hr fin H locs lsA hP hS hl)
  · rw [if_neg hc] at hr; cases hr
theorem ph_zald {q : Nat} {i : Int32} {K : Int32 → Option (ρ × ph_Hp)} (hd : decode cc pc = .ok (.baload, 1)) (hk : ph_kd q = 11) (k : ∀ x, ph_G Z own cc nL ret d tv (pc + 1) ls (.int x :: st) h (K x)) : ph_G Z own cc nL ret d tv pc ls (.int i :: .ref (ph_a Z q) :: st) h (ph_ldI h q i K) := by
  intro p e R s m args below meth c Q A cells slots X r hr fin H locs lsA hP hS hl
  unfold ph_ldI at hr
  by_cases hc : 0 ≤ i.toInt ∧ i.toInt < (ph_ln q : Int)
  · rw [if_pos hc] at hr
    exact va_zald X.ex X.bt X.kk hP q 1 (ph_atZ Z h hk) rfl (ph_vin hc) hd (k _ p e R s m args below meth c Q A cells slots X r hr fin H locs lsA hP hS hl)
  · rw [if_neg hc] at hr; cases hr
theorem ph_lald {q : Nat} {i : Int32} {K : Int64 → Option (ρ × ph_Hp)} (hd : decode cc pc = .ok (.laload, 1)) (hk : ph_kd q = 12) (k : ∀ x, ph_G Z own cc nL ret d tv (pc + 1) ls (.long x :: st) h (K x)) : ph_G Z own cc nL ret d tv pc ls (.int i :: .ref (ph_a Z q) :: st) h (ph_ldJ h q i K) := by
  intro p e R s m args below meth c Q A cells slots X r hr fin H locs lsA hP hS hl
  unfold ph_ldJ at hr
  by_cases hc : 0 ≤ i.toInt ∧ i.toInt < (ph_ln q : Int)
  · rw [if_pos hc] at hr
    exact va_lald X.ex X.bt X.kk hP q 2 (ph_atJ Z h hk) rfl (ph_vin hc) hd (k _ p e R s m args below meth c Q A cells slots X r hr fin H locs lsA hP hS hl)
  · rw [if_neg hc] at hr; cases hr
theorem ph_iast {q : Nat} {i x : Int32} {K : ph_Hp → Option (ρ × ph_Hp)} (hd : decode cc pc = .ok (.iastore, 1)) (hk : ph_kd q = 10) (k : ∀ h1, ph_G Z own cc nL ret d tv (pc + 1) ls st h1 (K h1)) : ph_G Z own cc nL ret d tv pc ls (.int x :: .int i :: .ref (ph_a Z q) :: st) h (ph_stI h q i x K) := by
  intro p e R s m args below meth c Q A cells slots X r hr fin H locs lsA hP hS hl
  unfold ph_stI at hr
  by_cases hc : 0 ≤ i.toInt ∧ i.toInt < (ph_ln q : Int)
  · rw [if_pos hc] at hr
    refine va_iast X.ex X.bt X.kk hP X.dd hS q 0 (ph_atI Z h hk) rfl (ph_vin hc) hd (fun H1 locs1 hP1 hD1 hS1 => ?_)
    rw [ph_ws_set (h1 := ph_sI h q i.toNatClampNeg x) (by rw [ph_cell_I Z _ _ hk, ph_sI_i]) (ph_sI_o h q _ x)] at hP1
    exact k _ p e R s m args below meth c Q A cells slots X r hr fin H1 locs1 lsA hP1 hS1 hl
  · rw [if_neg hc] at hr; cases hr
theorem ph_zast {q : Nat} {i x : Int32} {K : ph_Hp → Option (ρ × ph_Hp)} (hd : decode cc pc = .ok (.bastore, 1)) (hk : ph_kd q = 11) (k : ∀ h1, ph_G Z own cc nL ret d tv (pc + 1) ls st h1 (K h1)) : ph_G Z own cc nL ret d tv pc ls (.int x :: .int i :: .ref (ph_a Z q) :: st) h (ph_stZ h q i x K) := by
  intro p e R s m args below meth c Q A cells slots X r hr fin H locs lsA hP hS hl
  unfold ph_stZ at hr
  by_cases hc : 0 ≤ i.toInt ∧ i.toInt < (ph_ln q : Int)
  · rw [if_pos hc] at hr
    refine va_zast X.ex X.bt X.kk hP X.dd hS q 1 (ph_atZ Z h hk) rfl (ph_vin hc) hd (fun H1 locs1 hP1 hD1 hS1 => ?_)
    rw [ph_ws_set (h1 := ph_sI h q i.toNatClampNeg (vp_nar .boolean x)) (by rw [ph_cell_Z Z _ _ hk, ph_sI_i]) (ph_sI_o h q _ _)] at hP1
    exact k _ p e R s m args below meth c Q A cells slots X r hr fin H1 locs1 lsA hP1 hS1 hl
  · rw [if_neg hc] at hr; cases hr
theorem ph_last {q : Nat} {i : Int32} {x : Int64} {K : ph_Hp → Option (ρ × ph_Hp)} (hd : decode cc pc = .ok (.lastore, 1)) (hk : ph_kd q = 12) (k : ∀ h1, ph_G Z own cc nL ret d tv (pc + 1) ls st h1 (K h1)) : ph_G Z own cc nL ret d tv pc ls (.long x :: .int i :: .ref (ph_a Z q) :: st) h (ph_stJ h q i x K) := by
  intro p e R s m args below meth c Q A cells slots X r hr fin H locs lsA hP hS hl
  unfold ph_stJ at hr
  by_cases hc : 0 ≤ i.toInt ∧ i.toInt < (ph_ln q : Int)
  · rw [if_pos hc] at hr
    refine va_last X.ex X.bt X.kk hP X.dd hS q 2 (ph_atJ Z h hk) rfl (ph_vin hc) hd (fun H1 locs1 hP1 hD1 hS1 => ?_)
    rw [ph_ws_set (h1 := ph_sJ h q i.toNatClampNeg x) (by rw [ph_cell_J Z _ _ hk, ph_sJ_i]) (ph_sJ_o h q _ x)] at hP1
    exact k _ p e R s m args below meth c Q A cells slots X r hr fin H1 locs1 lsA hP1 hS1 hl
  · rw [if_neg hc] at hr; cases hr
theorem ph_alen {q : Nat} {v : Int32} (hd : decode cc pc = .ok (.arraylength, 1)) (hk : ph_kd q = 10) (hv : Int32.ofNat (ph_ln q) = v) (k : ph_G Z own cc nL ret d tv (pc + 1) ls (.int v :: st) h F) : ph_G Z own cc nL ret d tv pc ls (.ref (ph_a Z q) :: st) h F :=
  fun p e R s m args below meth c Q A cells slots X r hr fin H locs lsA hP hS hl => va_alen X.ex X.bt X.kk hP q 0 (ph_atI Z h hk) rfl hv hd (k p e R s m args below meth c Q A cells slots X r hr fin H locs lsA hP hS hl)
-- the script (the law's own)
theorem ph_slen (hd : decode cc pc = .ok (.arraylength, 1)) (ho : own = RL) (k : ph_G Z own cc nL ret d tv (pc + 1) ls (.int (nI (ph_n Z)) :: st) h F) : ph_G Z own cc nL ret d tv pc ls (.ref (ph_b Z) :: st) h F :=
  fun p e R s m args below meth c Q A cells slots X r hr fin H locs lsA hP hS hl => va_slen X.ex X.bt (X.sc ho).1 (X.sc ho).2.1 (X.sc ho).2.2 hS hd (k p e R s m args below meth c Q A cells slots X r hr fin H locs lsA hP hS hl)
theorem ph_sald {i : Int32} {K : Int32 → Option (ρ × ph_Hp)} (hd : decode cc pc = .ok (.iaload, 1)) (ho : own = RL) (k : ∀ x, ph_G Z own cc nL ret d tv (pc + 1) ls (.int x :: st) h (K x)) : ph_G Z own cc nL ret d tv pc ls (.int i :: .ref (ph_b Z) :: st) h (ph_ldS Z i K) := by
  intro p e R s m args below meth c Q A cells slots X r hr fin H locs lsA hP hS hl
  unfold ph_ldS at hr
  by_cases hc : 0 ≤ i.toInt ∧ i.toInt < (ph_n Z : Int)
  · rw [if_pos hc] at hr
    exact va_sld X.ex X.bt (X.sc ho).1 (X.sc ho).2.1 (X.sc ho).2.2 hS (ph_vin hc) hd (k _ p e R s m args below meth c Q A cells slots X r hr fin H locs lsA hP hS hl)
  · rw [if_neg hc] at hr; cases hr
-- the static table
theorem ph_gets {i : Nat} (hd : decode cc pc = .ok (.getstatic i, 3)) (hc : Cond.fieldLink own i "PromptHoles" "DIGEST_STEPS" "[I" ∈ ph_tb) (k : ph_G Z own cc nL ret d tv (pc + 3) ls (.ref (ph_t Z) :: st) h F) : ph_G Z own cc nL ret d tv pc ls st h F :=
  fun p e R s m args below meth c Q A cells slots X r hr fin H locs lsA hP hS hl => va_gets X.ex X.bt X.sa.1 hS X.ow (X.ts _ hc) (fun _ h9 => h9) hd (k p e R s m args below meth c Q A cells slots X r hr fin H locs lsA hP hS hl)
theorem ph_tlen (hd : decode cc pc = .ok (.arraylength, 1)) (k : ph_G Z own cc nL ret d tv (pc + 1) ls (.int 5 :: st) h F) : ph_G Z own cc nL ret d tv pc ls (.ref (ph_t Z) :: st) h F :=
  fun p e R s m args below meth c Q A cells slots X r hr fin H locs lsA hP hS hl => va_tlen X.ex X.bt X.sa.2 hS (by decide) hd (k p e R s m args below meth c Q A cells slots X r hr fin H locs lsA hP hS hl)
theorem ph_tald {i : Int32} {K : Int32 → Option (ρ × ph_Hp)} (hd : decode cc pc = .ok (.iaload, 1)) (k : ∀ x, ph_G Z own cc nL ret d tv (pc + 1) ls (.int x :: st) h (K x)) : ph_G Z own cc nL ret d tv pc ls (.int i :: .ref (ph_t Z) :: st) h (ph_ldT i K) := by
  intro p e R s m args below meth c Q A cells slots X r hr fin H locs lsA hP hS hl
  unfold ph_ldT at hr
  by_cases hc : 0 ≤ i.toInt ∧ i.toInt < (5 : Int)
  · rw [if_pos hc] at hr
    exact va_ti X.ex X.bt X.sa.2 hS (ph_vin hc) rfl hd (k _ p e R s m args below meth c Q A cells slots X r hr fin H locs lsA hP hS hl)
  · rw [if_neg hc] at hr; cases hr
end PHS
-- fields: which place of which table a pool entry names
def ph_FL (own : String) (idx ci k : Nat) : Prop := ∃ (C : String) (T : u_T) (N : Nat), vwCl[ci]? = some (C, T, N) ∧ k < N ∧ k < ph_cn ci ∧ (Cond.fieldLink own idx (T k).1 (T k).2.1 (T k).2.2.1 ∈ ph_tb ∨ ∃ host, Cond.fieldLinkNest own idx (T k).1 (T k).2.1 (T k).2.2.1 host ∈ ph_ns)
def ph_PL (own : String) (idx ci k : Nat) (ty : FieldType) : Prop := ∃ (C : String) (T : u_T) (N : Nat), vwCl[ci]? = some (C, T, N) ∧ k < N ∧ k < ph_cn ci ∧ Cond.fieldLink own idx (T k).1 (T k).2.1 (T k).2.2.1 ∈ ph_tb ∧ (T k).2.2.2 = false ∧ parseFieldDescriptor (T k).2.2.1 = some ty
def ph_Cf : Prop := ∀ (ci : Nat) (C : String) (T : u_T) (N : Nat), vwCl[ci]? = some (C, T, N) → ci < 10 ∧ (∀ w ∈ u_ws C T N, w ∈ ph_tb) ∧ (∃ ty : Nat → FieldType, ∀ k, k < N → parseFieldDescriptor (T k).2.2.1 = some (ty k)) ∧ (∀ a, a < N → ∀ b, b < N → a ≠ b → (T a).2.1 ≠ (T b).2.1)
end
section
theorem ph_in0 : ∀ w ∈ u_ws RX0 TX0 5, w ∈ ph_tb := by
  intro w hw
  have e : u_ws RX0 TX0 5 = [210, 212, 214, 216, 218].filterMap (fun i => lw_tbl[i]?) := by decide +kernel
  have g : (u_ws RX0 TX0 5).all goodWord = true := by decide +kernel
  refine List.mem_filter.mpr ⟨?_, List.all_eq_true.mp g w hw⟩
  rw [e] at hw
  obtain ⟨i, -, hi⟩ := List.mem_filterMap.mp hw
  exact List.mem_of_getElem? hi
theorem ph_in1 : ∀ w ∈ u_ws RX1 TX1 7, w ∈ ph_tb := by
  intro w hw
  have e : u_ws RX1 TX1 7 = [147, 149, 151, 153, 155, 157, 159].filterMap (fun i => lw_tbl[i]?) := by decide +kernel
  have g : (u_ws RX1 TX1 7).all goodWord = true := by decide +kernel
  refine List.mem_filter.mpr ⟨?_, List.all_eq_true.mp g w hw⟩
  rw [e] at hw
  obtain ⟨i, -, hi⟩ := List.mem_filterMap.mp hw
  exact List.mem_of_getElem? hi
theorem ph_in2 : ∀ w ∈ u_ws RX2 TX2 1, w ∈ ph_tb := by
  intro w hw
  have e : u_ws RX2 TX2 1 = [194].filterMap (fun i => lw_tbl[i]?) := by decide +kernel
  have g : (u_ws RX2 TX2 1).all goodWord = true := by decide +kernel
  refine List.mem_filter.mpr ⟨?_, List.all_eq_true.mp g w hw⟩
  rw [e] at hw
  obtain ⟨i, -, hi⟩ := List.mem_filterMap.mp hw
  exact List.mem_of_getElem? hi
theorem ph_in3 : ∀ w ∈ u_ws RX3 TX3 5, w ∈ ph_tb := by
  intro w hw
  have e : u_ws RX3 TX3 5 = [117, 119, 121, 123, 125].filterMap (fun i => lw_tbl[i]?) := by decide +kernel
  have g : (u_ws RX3 TX3 5).all goodWord = true := by decide +kernel
  refine List.mem_filter.mpr ⟨?_, List.all_eq_true.mp g w hw⟩
  rw [e] at hw
  obtain ⟨i, -, hi⟩ := List.mem_filterMap.mp hw
  exact List.mem_of_getElem? hi
theorem ph_in4 : ∀ w ∈ u_ws RX4 TX4 2, w ∈ ph_tb := by
  intro w hw
  have e : u_ws RX4 TX4 2 = [76, 78].filterMap (fun i => lw_tbl[i]?) := by decide +kernel
  have g : (u_ws RX4 TX4 2).all goodWord = true := by decide +kernel
  refine List.mem_filter.mpr ⟨?_, List.all_eq_true.mp g w hw⟩
  rw [e] at hw
  obtain ⟨i, -, hi⟩ := List.mem_filterMap.mp hw
  exact List.mem_of_getElem? hi
theorem ph_in5 : ∀ w ∈ u_ws RX5 TX5 3, w ∈ ph_tb := by
  intro w hw
  have e : u_ws RX5 TX5 3 = [231, 233, 235].filterMap (fun i => lw_tbl[i]?) := by decide +kernel
  have g : (u_ws RX5 TX5 3).all goodWord = true := by decide +kernel
  refine List.mem_filter.mpr ⟨?_, List.all_eq_true.mp g w hw⟩
  rw [e] at hw
  obtain ⟨i, -, hi⟩ := List.mem_filterMap.mp hw
  exact List.mem_of_getElem? hi
theorem ph_in6 : ∀ w ∈ u_ws RX6 TX6 7, w ∈ ph_tb := by
  intro w hw
  have e : u_ws RX6 TX6 7 = [171, 173, 175, 177, 179, 181, 183].filterMap (fun i => lw_tbl[i]?) := by decide +kernel
  have g : (u_ws RX6 TX6 7).all goodWord = true := by decide +kernel
  refine List.mem_filter.mpr ⟨?_, List.all_eq_true.mp g w hw⟩
  rw [e] at hw
  obtain ⟨i, -, hi⟩ := List.mem_filterMap.mp hw
  exact List.mem_of_getElem? hi
theorem ph_in7 : ∀ w ∈ u_ws RX7 TX7 2, w ∈ ph_tb := by
  intro w hw
  have e : u_ws RX7 TX7 2 = [92, 94].filterMap (fun i => lw_tbl[i]?) := by decide +kernel
  have g : (u_ws RX7 TX7 2).all goodWord = true := by decide +kernel
  refine List.mem_filter.mpr ⟨?_, List.all_eq_true.mp g w hw⟩
  rw [e] at hw
  obtain ⟨i, -, hi⟩ := List.mem_filterMap.mp hw
  exact List.mem_of_getElem? hi
theorem ph_in8 : ∀ w ∈ u_ws RX8 TX8 14, w ∈ ph_tb := by
  intro w hw
  have e : u_ws RX8 TX8 14 = [252, 254, 256, 258, 260, 262, 264, 266, 268, 270, 272, 274, 276, 278].filterMap (fun i => lw_tbl[i]?) := by decide +kernel
  have g : (u_ws RX8 TX8 14).all goodWord = true := by decide +kernel
  refine List.mem_filter.mpr ⟨?_, List.all_eq_true.mp g w hw⟩
  rw [e] at hw
  obtain ⟨i, -, hi⟩ := List.mem_filterMap.mp hw
  exact List.mem_of_getElem? hi
theorem ph_in9 : ∀ w ∈ u_ws RX9 TX9 28, w ∈ ph_tb := by
  intro w hw
  have e : u_ws RX9 TX9 28 = [814, 816, 818, 820, 822, 824, 826, 828, 830, 832, 834, 836, 838, 840, 842, 844, 846, 848, 850, 852, 854, 856, 858, 860, 862, 864, 866, 868].filterMap (fun i => lw_tbl[i]?) := by decide +kernel
  have g : (u_ws RX9 TX9 28).all goodWord = true := by decide +kernel
  refine List.mem_filter.mpr ⟨?_, List.all_eq_true.mp g w hw⟩
  rw [e] at hw
  obtain ⟨i, -, hi⟩ := List.mem_filterMap.mp hw
  exact List.mem_of_getElem? hi
theorem ph_cf : ph_Cf := by
  intro ci C T N h
  match ci, h with
  | 0, h => cases h; exact ⟨by decide, ph_in0, ⟨tyX0, tyX0_ok⟩, nmX0⟩
  | 1, h => cases h; exact ⟨by decide, ph_in1, ⟨tyX1, tyX1_ok⟩, nmX1⟩
  | 2, h => cases h; exact ⟨by decide, ph_in2, ⟨tyX2, tyX2_ok⟩, nmX2⟩
  | 3, h => cases h; exact ⟨by decide, ph_in3, ⟨tyX3, tyX3_ok⟩, nmX3⟩
  | 4, h => cases h; exact ⟨by decide, ph_in4, ⟨tyX4, tyX4_ok⟩, nmX4⟩
  | 5, h => cases h; exact ⟨by decide, ph_in5, ⟨tyX5, tyX5_ok⟩, nmX5⟩
  | 6, h => cases h; exact ⟨by decide, ph_in6, ⟨tyX6, tyX6_ok⟩, nmX6⟩
  | 7, h => cases h; exact ⟨by decide, ph_in7, ⟨tyX7, tyX7_ok⟩, nmX7⟩
  | 8, h => cases h; exact ⟨by decide, ph_in8, ⟨tyX8, tyX8_ok⟩, nmX8⟩
  | 9, h => cases h; exact ⟨by decide, ph_in9, ⟨tyX9, tyX9_ok⟩, nmX9⟩
  | k + 10, h => simp [vwCl] at h
theorem ph_fl_RX4_21 : ph_FL RX4 21 4 0 := ⟨RX4, TX4, 2, rfl, by decide, by decide, Or.inl (ph_tb_of 74 (by decide +kernel) rfl)⟩
theorem ph_fl_RX4_9 : ph_FL RX4 9 4 1 := ⟨RX4, TX4, 2, rfl, by decide, by decide, Or.inl (ph_tb_of 75 (by decide +kernel) rfl)⟩
theorem ph_pl_RX4_9 : ph_PL RX4 9 4 1 .int := ⟨RX4, TX4, 2, rfl, by decide, by decide, ph_tb_of 75 (by decide +kernel) rfl, rfl, by decide +kernel⟩
theorem ph_fl_RX7_12 : ph_FL RX7 12 7 0 := ⟨RX7, TX7, 2, rfl, by decide, by decide, Or.inl (ph_tb_of 90 (by decide +kernel) rfl)⟩
theorem ph_fl_RX7_18 : ph_FL RX7 18 7 1 := ⟨RX7, TX7, 2, rfl, by decide, by decide, Or.inl (ph_tb_of 91 (by decide +kernel) rfl)⟩
theorem ph_fl_RX3_9 : ph_FL RX3 9 3 0 := ⟨RX3, TX3, 5, rfl, by decide, by decide, Or.inl (ph_tb_of 109 (by decide +kernel) rfl)⟩
theorem ph_fl_RX3_15 : ph_FL RX3 15 3 1 := ⟨RX3, TX3, 5, rfl, by decide, by decide, Or.inl (ph_tb_of 110 (by decide +kernel) rfl)⟩
theorem ph_fl_RX3_18 : ph_FL RX3 18 3 2 := ⟨RX3, TX3, 5, rfl, by decide, by decide, Or.inl (ph_tb_of 111 (by decide +kernel) rfl)⟩
theorem ph_fl_RX3_21 : ph_FL RX3 21 3 3 := ⟨RX3, TX3, 5, rfl, by decide, by decide, Or.inl (ph_tb_of 112 (by decide +kernel) rfl)⟩
theorem ph_pl_RX3_21 : ph_PL RX3 21 3 3 .int := ⟨RX3, TX3, 5, rfl, by decide, by decide, ph_tb_of 112 (by decide +kernel) rfl, rfl, by decide +kernel⟩
theorem ph_fl_RX6_67 : ph_FL RX6 67 3 3 := ⟨RX3, TX3, 5, rfl, by decide, by decide, Or.inr ⟨"PromptHoles", ph_ns_of 69 (by decide +kernel) rfl⟩⟩
theorem ph_fl_RX8_293 : ph_FL RX8 293 3 3 := ⟨RX3, TX3, 5, rfl, by decide, by decide, Or.inr ⟨"PromptHoles", ph_ns_of 70 (by decide +kernel) rfl⟩⟩
theorem ph_fl_RX3_25 : ph_FL RX3 25 3 4 := ⟨RX3, TX3, 5, rfl, by decide, by decide, Or.inl (ph_tb_of 115 (by decide +kernel) rfl)⟩
theorem ph_pl_RX3_25 : ph_PL RX3 25 3 4 .int := ⟨RX3, TX3, 5, rfl, by decide, by decide, ph_tb_of 115 (by decide +kernel) rfl, rfl, by decide +kernel⟩
theorem ph_fl_RX8_113 : ph_FL RX8 113 3 4 := ⟨RX3, TX3, 5, rfl, by decide, by decide, Or.inr ⟨"PromptHoles", ph_ns_of 72 (by decide +kernel) rfl⟩⟩
theorem ph_fl_RX1_9 : ph_FL RX1 9 1 0 := ⟨RX1, TX1, 7, rfl, by decide, by decide, Or.inl (ph_tb_of 134 (by decide +kernel) rfl)⟩
theorem ph_fl_RX6_71 : ph_FL RX6 71 1 0 := ⟨RX1, TX1, 7, rfl, by decide, by decide, Or.inr ⟨"PromptHoles", ph_ns_of 91 (by decide +kernel) rfl⟩⟩
theorem ph_fl_RX1_15 : ph_FL RX1 15 1 1 := ⟨RX1, TX1, 7, rfl, by decide, by decide, Or.inl (ph_tb_of 136 (by decide +kernel) rfl)⟩
theorem ph_fl_RX6_79 : ph_FL RX6 79 1 1 := ⟨RX1, TX1, 7, rfl, by decide, by decide, Or.inr ⟨"PromptHoles", ph_ns_of 93 (by decide +kernel) rfl⟩⟩
theorem ph_fl_RX1_18 : ph_FL RX1 18 1 2 := ⟨RX1, TX1, 7, rfl, by decide, by decide, Or.inl (ph_tb_of 138 (by decide +kernel) rfl)⟩
theorem ph_fl_RX1_21 : ph_FL RX1 21 1 3 := ⟨RX1, TX1, 7, rfl, by decide, by decide, Or.inl (ph_tb_of 139 (by decide +kernel) rfl)⟩
theorem ph_fl_RX1_24 : ph_FL RX1 24 1 4 := ⟨RX1, TX1, 7, rfl, by decide, by decide, Or.inl (ph_tb_of 140 (by decide +kernel) rfl)⟩
theorem ph_fl_RX6_94 : ph_FL RX6 94 1 4 := ⟨RX1, TX1, 7, rfl, by decide, by decide, Or.inr ⟨"PromptHoles", ph_ns_of 97 (by decide +kernel) rfl⟩⟩
theorem ph_fl_RX1_27 : ph_FL RX1 27 1 5 := ⟨RX1, TX1, 7, rfl, by decide, by decide, Or.inl (ph_tb_of 142 (by decide +kernel) rfl)⟩
theorem ph_pl_RX1_27 : ph_PL RX1 27 1 5 .int := ⟨RX1, TX1, 7, rfl, by decide, by decide, ph_tb_of 142 (by decide +kernel) rfl, rfl, by decide +kernel⟩
theorem ph_fl_RX8_129 : ph_FL RX8 129 1 5 := ⟨RX1, TX1, 7, rfl, by decide, by decide, Or.inr ⟨"PromptHoles", ph_ns_of 99 (by decide +kernel) rfl⟩⟩
theorem ph_fl_RX6_85 : ph_FL RX6 85 1 5 := ⟨RX1, TX1, 7, rfl, by decide, by decide, Or.inr ⟨"PromptHoles", ph_ns_of 100 (by decide +kernel) rfl⟩⟩
theorem ph_fl_RX1_31 : ph_FL RX1 31 1 6 := ⟨RX1, TX1, 7, rfl, by decide, by decide, Or.inl (ph_tb_of 145 (by decide +kernel) rfl)⟩
theorem ph_pl_RX1_31 : ph_PL RX1 31 1 6 .int := ⟨RX1, TX1, 7, rfl, by decide, by decide, ph_tb_of 145 (by decide +kernel) rfl, rfl, by decide +kernel⟩
theorem ph_fl_RX8_122 : ph_FL RX8 122 1 6 := ⟨RX1, TX1, 7, rfl, by decide, by decide, Or.inr ⟨"PromptHoles", ph_ns_of 102 (by decide +kernel) rfl⟩⟩
theorem ph_fl_RX6_12 : ph_FL RX6 12 6 0 := ⟨RX6, TX6, 7, rfl, by decide, by decide, Or.inl (ph_tb_of 162 (by decide +kernel) rfl)⟩
theorem ph_fl_RX8_109 : ph_FL RX8 109 6 0 := ⟨RX6, TX6, 7, rfl, by decide, by decide, Or.inr ⟨"PromptHoles", ph_ns_of 119 (by decide +kernel) rfl⟩⟩
theorem ph_fl_RX6_21 : ph_FL RX6 21 6 1 := ⟨RX6, TX6, 7, rfl, by decide, by decide, Or.inl (ph_tb_of 164 (by decide +kernel) rfl)⟩
theorem ph_fl_RX8_118 : ph_FL RX8 118 6 1 := ⟨RX6, TX6, 7, rfl, by decide, by decide, Or.inr ⟨"PromptHoles", ph_ns_of 121 (by decide +kernel) rfl⟩⟩
theorem ph_fl_RX6_25 : ph_FL RX6 25 6 2 := ⟨RX6, TX6, 7, rfl, by decide, by decide, Or.inl (ph_tb_of 166 (by decide +kernel) rfl)⟩
theorem ph_fl_RX6_29 : ph_FL RX6 29 6 3 := ⟨RX6, TX6, 7, rfl, by decide, by decide, Or.inl (ph_tb_of 167 (by decide +kernel) rfl)⟩
theorem ph_fl_RX6_32 : ph_FL RX6 32 6 4 := ⟨RX6, TX6, 7, rfl, by decide, by decide, Or.inl (ph_tb_of 168 (by decide +kernel) rfl)⟩
theorem ph_fl_RX6_36 : ph_FL RX6 36 6 5 := ⟨RX6, TX6, 7, rfl, by decide, by decide, Or.inl (ph_tb_of 169 (by decide +kernel) rfl)⟩
theorem ph_fl_RX6_39 : ph_FL RX6 39 6 6 := ⟨RX6, TX6, 7, rfl, by decide, by decide, Or.inl (ph_tb_of 170 (by decide +kernel) rfl)⟩
theorem ph_fl_RX2_7 : ph_FL RX2 7 2 0 := ⟨RX2, TX2, 1, rfl, by decide, by decide, Or.inl (ph_tb_of 193 (by decide +kernel) rfl)⟩
theorem ph_pl_RX2_7 : ph_PL RX2 7 2 0 .int := ⟨RX2, TX2, 1, rfl, by decide, by decide, ph_tb_of 193 (by decide +kernel) rfl, rfl, by decide +kernel⟩
theorem ph_fl_RX0_9 : ph_FL RX0 9 0 0 := ⟨RX0, TX0, 5, rfl, by decide, by decide, Or.inl (ph_tb_of 203 (by decide +kernel) rfl)⟩
theorem ph_fl_RX0_15 : ph_FL RX0 15 0 1 := ⟨RX0, TX0, 5, rfl, by decide, by decide, Or.inl (ph_tb_of 204 (by decide +kernel) rfl)⟩
theorem ph_fl_RX0_18 : ph_FL RX0 18 0 2 := ⟨RX0, TX0, 5, rfl, by decide, by decide, Or.inl (ph_tb_of 205 (by decide +kernel) rfl)⟩
theorem ph_pl_RX0_18 : ph_PL RX0 18 0 2 .long := ⟨RX0, TX0, 5, rfl, by decide, by decide, ph_tb_of 205 (by decide +kernel) rfl, rfl, by decide +kernel⟩
theorem ph_fl_RX0_22 : ph_FL RX0 22 0 3 := ⟨RX0, TX0, 5, rfl, by decide, by decide, Or.inl (ph_tb_of 206 (by decide +kernel) rfl)⟩
theorem ph_pl_RX0_22 : ph_PL RX0 22 0 3 .long := ⟨RX0, TX0, 5, rfl, by decide, by decide, ph_tb_of 206 (by decide +kernel) rfl, rfl, by decide +kernel⟩
theorem ph_fl_RX8_251 : ph_FL RX8 251 0 3 := ⟨RX0, TX0, 5, rfl, by decide, by decide, Or.inr ⟨"PromptHoles", ph_ns_of 163 (by decide +kernel) rfl⟩⟩
theorem ph_fl_RX0_25 : ph_FL RX0 25 0 4 := ⟨RX0, TX0, 5, rfl, by decide, by decide, Or.inl (ph_tb_of 208 (by decide +kernel) rfl)⟩
theorem ph_pl_RX0_25 : ph_PL RX0 25 0 4 .long := ⟨RX0, TX0, 5, rfl, by decide, by decide, ph_tb_of 208 (by decide +kernel) rfl, rfl, by decide +kernel⟩
theorem ph_fl_RX8_255 : ph_FL RX8 255 0 4 := ⟨RX0, TX0, 5, rfl, by decide, by decide, Or.inr ⟨"PromptHoles", ph_ns_of 165 (by decide +kernel) rfl⟩⟩
theorem ph_fl_RX5_11 : ph_FL RX5 11 5 0 := ⟨RX5, TX5, 3, rfl, by decide, by decide, Or.inl (ph_tb_of 228 (by decide +kernel) rfl)⟩
theorem ph_fl_RX5_15 : ph_FL RX5 15 5 1 := ⟨RX5, TX5, 3, rfl, by decide, by decide, Or.inl (ph_tb_of 229 (by decide +kernel) rfl)⟩
theorem ph_fl_RX5_18 : ph_FL RX5 18 5 2 := ⟨RX5, TX5, 3, rfl, by decide, by decide, Or.inl (ph_tb_of 230 (by decide +kernel) rfl)⟩
theorem ph_fl_RX8_14 : ph_FL RX8 14 8 0 := ⟨RX8, TX8, 14, rfl, by decide, by decide, Or.inl (ph_tb_of 238 (by decide +kernel) rfl)⟩
theorem ph_fl_RX8_18 : ph_FL RX8 18 8 1 := ⟨RX8, TX8, 14, rfl, by decide, by decide, Or.inl (ph_tb_of 239 (by decide +kernel) rfl)⟩
theorem ph_fl_RX8_24 : ph_FL RX8 24 8 2 := ⟨RX8, TX8, 14, rfl, by decide, by decide, Or.inl (ph_tb_of 240 (by decide +kernel) rfl)⟩
theorem ph_fl_RX8_28 : ph_FL RX8 28 8 3 := ⟨RX8, TX8, 14, rfl, by decide, by decide, Or.inl (ph_tb_of 241 (by decide +kernel) rfl)⟩
theorem ph_fl_RX8_31 : ph_FL RX8 31 8 4 := ⟨RX8, TX8, 14, rfl, by decide, by decide, Or.inl (ph_tb_of 242 (by decide +kernel) rfl)⟩
theorem ph_fl_RX8_34 : ph_FL RX8 34 8 5 := ⟨RX8, TX8, 14, rfl, by decide, by decide, Or.inl (ph_tb_of 243 (by decide +kernel) rfl)⟩
theorem ph_fl_RX8_40 : ph_FL RX8 40 8 6 := ⟨RX8, TX8, 14, rfl, by decide, by decide, Or.inl (ph_tb_of 244 (by decide +kernel) rfl)⟩
theorem ph_fl_RX8_44 : ph_FL RX8 44 8 7 := ⟨RX8, TX8, 14, rfl, by decide, by decide, Or.inl (ph_tb_of 245 (by decide +kernel) rfl)⟩
theorem ph_pl_RX8_44 : ph_PL RX8 44 8 7 .boolean := ⟨RX8, TX8, 14, rfl, by decide, by decide, ph_tb_of 245 (by decide +kernel) rfl, rfl, by decide +kernel⟩
theorem ph_fl_RX8_51 : ph_FL RX8 51 8 8 := ⟨RX8, TX8, 14, rfl, by decide, by decide, Or.inl (ph_tb_of 246 (by decide +kernel) rfl)⟩
theorem ph_fl_RX8_58 : ph_FL RX8 58 8 9 := ⟨RX8, TX8, 14, rfl, by decide, by decide, Or.inl (ph_tb_of 247 (by decide +kernel) rfl)⟩
theorem ph_fl_RX8_62 : ph_FL RX8 62 8 10 := ⟨RX8, TX8, 14, rfl, by decide, by decide, Or.inl (ph_tb_of 248 (by decide +kernel) rfl)⟩
theorem ph_fl_RX8_66 : ph_FL RX8 66 8 11 := ⟨RX8, TX8, 14, rfl, by decide, by decide, Or.inl (ph_tb_of 249 (by decide +kernel) rfl)⟩
theorem ph_fl_RX8_72 : ph_FL RX8 72 8 12 := ⟨RX8, TX8, 14, rfl, by decide, by decide, Or.inl (ph_tb_of 250 (by decide +kernel) rfl)⟩
theorem ph_fl_RX8_76 : ph_FL RX8 76 8 13 := ⟨RX8, TX8, 14, rfl, by decide, by decide, Or.inl (ph_tb_of 251 (by decide +kernel) rfl)⟩
theorem ph_pl_RX8_76 : ph_PL RX8 76 8 13 .int := ⟨RX8, TX8, 14, rfl, by decide, by decide, ph_tb_of 251 (by decide +kernel) rfl, rfl, by decide +kernel⟩
theorem ph_k_RJ6_265 : Cond.constant RJ6 265 (1431655765) ∈ ph_tb := ph_tb_of 594 (by decide +kernel) rfl
theorem ph_k_RJ6_266 : Cond.constant RJ6 266 (858993459) ∈ ph_tb := ph_tb_of 595 (by decide +kernel) rfl
theorem ph_k_RJ6_267 : Cond.constant RJ6 267 (252645135) ∈ ph_tb := ph_tb_of 596 (by decide +kernel) rfl
theorem ph_k_RX8_239 : Cond.constantLong RX8 239 (-9223372036854775806) ∈ ph_tb := ph_tb_of 644 (by decide +kernel) rfl
theorem ph_k_RX0_45 : Cond.constantLong RX0 45 (16) ∈ ph_tb := ph_tb_of 661 (by decide +kernel) rfl
theorem ph_k_RX0_51 : Cond.constantLong RX0 51 (2) ∈ ph_tb := ph_tb_of 666 (by decide +kernel) rfl
theorem ph_k_RX2_13 : Cond.constant RX2 13 (1103515245) ∈ ph_tb := ph_tb_of 683 (by decide +kernel) rfl
theorem ph_k_RX8_279 : Cond.constant RX8 279 (-2147483648) ∈ ph_tb := ph_tb_of 719 (by decide +kernel) rfl
theorem ph_k_RX8_296 : Cond.constantLong RX8 296 (17) ∈ ph_tb := ph_tb_of 748 (by decide +kernel) rfl
theorem ph_k_RX8_298 : Cond.constantLong RX8 298 (31) ∈ ph_tb := ph_tb_of 749 (by decide +kernel) rfl
theorem ph_fs_RX8_312 : Cond.fieldLink RX8 312 "PromptHoles" "DIGEST_STEPS" "[I" ∈ ph_tb := ph_tb_of 768 (by decide +kernel) rfl
theorem ph_fl_RX9_7 : ph_FL RX9 7 9 0 := ⟨RX9, TX9, 28, rfl, by decide, by decide, Or.inl (ph_tb_of 786 (by decide +kernel) rfl)⟩
theorem ph_fl_RX9_13 : ph_FL RX9 13 9 1 := ⟨RX9, TX9, 28, rfl, by decide, by decide, Or.inl (ph_tb_of 787 (by decide +kernel) rfl)⟩
theorem ph_fl_RX9_16 : ph_FL RX9 16 9 2 := ⟨RX9, TX9, 28, rfl, by decide, by decide, Or.inl (ph_tb_of 788 (by decide +kernel) rfl)⟩
theorem ph_fl_RX9_19 : ph_FL RX9 19 9 3 := ⟨RX9, TX9, 28, rfl, by decide, by decide, Or.inl (ph_tb_of 789 (by decide +kernel) rfl)⟩
theorem ph_fl_RX9_74 : ph_FL RX9 74 9 4 := ⟨RX9, TX9, 28, rfl, by decide, by decide, Or.inl (ph_tb_of 790 (by decide +kernel) rfl)⟩
theorem ph_pl_RX9_74 : ph_PL RX9 74 9 4 .int := ⟨RX9, TX9, 28, rfl, by decide, by decide, ph_tb_of 790 (by decide +kernel) rfl, rfl, by decide +kernel⟩
theorem ph_fl_RX9_22 : ph_FL RX9 22 9 5 := ⟨RX9, TX9, 28, rfl, by decide, by decide, Or.inl (ph_tb_of 791 (by decide +kernel) rfl)⟩
theorem ph_fl_RX9_25 : ph_FL RX9 25 9 6 := ⟨RX9, TX9, 28, rfl, by decide, by decide, Or.inl (ph_tb_of 792 (by decide +kernel) rfl)⟩
theorem ph_fl_RX9_103 : ph_FL RX9 103 9 7 := ⟨RX9, TX9, 28, rfl, by decide, by decide, Or.inl (ph_tb_of 793 (by decide +kernel) rfl)⟩
theorem ph_pl_RX9_103 : ph_PL RX9 103 9 7 .int := ⟨RX9, TX9, 28, rfl, by decide, by decide, ph_tb_of 793 (by decide +kernel) rfl, rfl, by decide +kernel⟩
theorem ph_fl_RX9_28 : ph_FL RX9 28 9 8 := ⟨RX9, TX9, 28, rfl, by decide, by decide, Or.inl (ph_tb_of 794 (by decide +kernel) rfl)⟩
theorem ph_fl_RX9_113 : ph_FL RX9 113 9 9 := ⟨RX9, TX9, 28, rfl, by decide, by decide, Or.inl (ph_tb_of 795 (by decide +kernel) rfl)⟩
theorem ph_pl_RX9_113 : ph_PL RX9 113 9 9 .int := ⟨RX9, TX9, 28, rfl, by decide, by decide, ph_tb_of 795 (by decide +kernel) rfl, rfl, by decide +kernel⟩
theorem ph_fl_RX9_31 : ph_FL RX9 31 9 10 := ⟨RX9, TX9, 28, rfl, by decide, by decide, Or.inl (ph_tb_of 796 (by decide +kernel) rfl)⟩
theorem ph_fl_RX9_149 : ph_FL RX9 149 9 11 := ⟨RX9, TX9, 28, rfl, by decide, by decide, Or.inl (ph_tb_of 797 (by decide +kernel) rfl)⟩
theorem ph_pl_RX9_149 : ph_PL RX9 149 9 11 .int := ⟨RX9, TX9, 28, rfl, by decide, by decide, ph_tb_of 797 (by decide +kernel) rfl, rfl, by decide +kernel⟩
theorem ph_fl_RX9_34 : ph_FL RX9 34 9 12 := ⟨RX9, TX9, 28, rfl, by decide, by decide, Or.inl (ph_tb_of 798 (by decide +kernel) rfl)⟩
theorem ph_fl_RX9_154 : ph_FL RX9 154 9 13 := ⟨RX9, TX9, 28, rfl, by decide, by decide, Or.inl (ph_tb_of 799 (by decide +kernel) rfl)⟩
theorem ph_pl_RX9_154 : ph_PL RX9 154 9 13 .int := ⟨RX9, TX9, 28, rfl, by decide, by decide, ph_tb_of 799 (by decide +kernel) rfl, rfl, by decide +kernel⟩
theorem ph_fl_RX9_37 : ph_FL RX9 37 9 14 := ⟨RX9, TX9, 28, rfl, by decide, by decide, Or.inl (ph_tb_of 800 (by decide +kernel) rfl)⟩
theorem ph_fl_RX9_157 : ph_FL RX9 157 9 15 := ⟨RX9, TX9, 28, rfl, by decide, by decide, Or.inl (ph_tb_of 801 (by decide +kernel) rfl)⟩
theorem ph_pl_RX9_157 : ph_PL RX9 157 9 15 .int := ⟨RX9, TX9, 28, rfl, by decide, by decide, ph_tb_of 801 (by decide +kernel) rfl, rfl, by decide +kernel⟩
theorem ph_fl_RX9_40 : ph_FL RX9 40 9 16 := ⟨RX9, TX9, 28, rfl, by decide, by decide, Or.inl (ph_tb_of 802 (by decide +kernel) rfl)⟩
theorem ph_fl_RX9_43 : ph_FL RX9 43 9 17 := ⟨RX9, TX9, 28, rfl, by decide, by decide, Or.inl (ph_tb_of 803 (by decide +kernel) rfl)⟩
theorem ph_fl_RX9_46 : ph_FL RX9 46 9 18 := ⟨RX9, TX9, 28, rfl, by decide, by decide, Or.inl (ph_tb_of 804 (by decide +kernel) rfl)⟩
theorem ph_fl_RX9_49 : ph_FL RX9 49 9 19 := ⟨RX9, TX9, 28, rfl, by decide, by decide, Or.inl (ph_tb_of 805 (by decide +kernel) rfl)⟩
theorem ph_fl_RX9_52 : ph_FL RX9 52 9 20 := ⟨RX9, TX9, 28, rfl, by decide, by decide, Or.inl (ph_tb_of 806 (by decide +kernel) rfl)⟩
theorem ph_fl_RX9_61 : ph_FL RX9 61 9 21 := ⟨RX9, TX9, 28, rfl, by decide, by decide, Or.inl (ph_tb_of 807 (by decide +kernel) rfl)⟩
theorem ph_pl_RX9_61 : ph_PL RX9 61 9 21 .int := ⟨RX9, TX9, 28, rfl, by decide, by decide, ph_tb_of 807 (by decide +kernel) rfl, rfl, by decide +kernel⟩
theorem ph_fl_RX9_65 : ph_FL RX9 65 9 22 := ⟨RX9, TX9, 28, rfl, by decide, by decide, Or.inl (ph_tb_of 808 (by decide +kernel) rfl)⟩
theorem ph_pl_RX9_65 : ph_PL RX9 65 9 22 .int := ⟨RX9, TX9, 28, rfl, by decide, by decide, ph_tb_of 808 (by decide +kernel) rfl, rfl, by decide +kernel⟩
theorem ph_fl_RX9_178 : ph_FL RX9 178 9 23 := ⟨RX9, TX9, 28, rfl, by decide, by decide, Or.inl (ph_tb_of 809 (by decide +kernel) rfl)⟩
theorem ph_pl_RX9_178 : ph_PL RX9 178 9 23 .int := ⟨RX9, TX9, 28, rfl, by decide, by decide, ph_tb_of 809 (by decide +kernel) rfl, rfl, by decide +kernel⟩
theorem ph_fl_RX9_223 : ph_FL RX9 223 9 24 := ⟨RX9, TX9, 28, rfl, by decide, by decide, Or.inl (ph_tb_of 810 (by decide +kernel) rfl)⟩
theorem ph_pl_RX9_223 : ph_PL RX9 223 9 24 .int := ⟨RX9, TX9, 28, rfl, by decide, by decide, ph_tb_of 810 (by decide +kernel) rfl, rfl, by decide +kernel⟩
theorem ph_fl_RX9_55 : ph_FL RX9 55 9 25 := ⟨RX9, TX9, 28, rfl, by decide, by decide, Or.inl (ph_tb_of 811 (by decide +kernel) rfl)⟩
theorem ph_fl_RX9_58 : ph_FL RX9 58 9 26 := ⟨RX9, TX9, 28, rfl, by decide, by decide, Or.inl (ph_tb_of 812 (by decide +kernel) rfl)⟩
theorem ph_fl_RX9_254 : ph_FL RX9 254 9 27 := ⟨RX9, TX9, 28, rfl, by decide, by decide, Or.inl (ph_tb_of 813 (by decide +kernel) rfl)⟩
theorem ph_pl_RX9_254 : ph_PL RX9 254 9 27 .int := ⟨RX9, TX9, 28, rfl, by decide, by decide, ph_tb_of 813 (by decide +kernel) rfl, rfl, by decide +kernel⟩
theorem ph_k_RX9_77 : Cond.constantLong RX9 77 (3) ∈ ph_tb := ph_tb_of 878 (by decide +kernel) rfl
theorem ph_k_RX9_83 : Cond.constantLong RX9 83 (2) ∈ ph_tb := ph_tb_of 882 (by decide +kernel) rfl
theorem ph_k_RX9_97 : Cond.constant RX9 97 (-2147483648) ∈ ph_tb := ph_tb_of 906 (by decide +kernel) rfl
theorem ph_k_RX9_101 : Cond.constantLong RX9 101 (255) ∈ ph_tb := ph_tb_of 918 (by decide +kernel) rfl
theorem ph_k_RX9_106 : Cond.constantLong RX9 106 (97) ∈ ph_tb := ph_tb_of 935 (by decide +kernel) rfl
theorem ph_k_RX9_108 : Cond.constantLong RX9 108 (104) ∈ ph_tb := ph_tb_of 936 (by decide +kernel) rfl
theorem ph_k_RX9_133 : Cond.constantLong RX9 133 (23) ∈ ph_tb := ph_tb_of 955 (by decide +kernel) rfl
theorem ph_k_RX9_126 : Cond.constantLong RX9 126 (7) ∈ ph_tb := ph_tb_of 971 (by decide +kernel) rfl
theorem ph_k_RX9_128 : Cond.constantLong RX9 128 (39) ∈ ph_tb := ph_tb_of 983 (by decide +kernel) rfl
theorem ph_k_RX9_147 : Cond.constantLong RX9 147 (9) ∈ ph_tb := ph_tb_of 984 (by decide +kernel) rfl
theorem ph_k_RX9_152 : Cond.constantLong RX9 152 (8) ∈ ph_tb := ph_tb_of 989 (by decide +kernel) rfl
theorem ph_k_RX9_239 : Cond.constantLong RX9 239 (16) ∈ ph_tb := ph_tb_of 1141 (by decide +kernel) rfl
theorem ph_k_RX9_68 : Cond.constantLong RX9 68 (-9223372036854775808) ∈ ph_tb := ph_tb_of 1152 (by decide +kernel) rfl
theorem ph_k_RX9_253 : Cond.constant RX9 253 (1103515245) ∈ ph_tb := ph_tb_of 1165 (by decide +kernel) rfl
theorem ph_k_RX9_271 : Cond.constantLong RX9 271 (17) ∈ ph_tb := ph_tb_of 1181 (by decide +kernel) rfl
theorem ph_k_RX9_266 : Cond.constantLong RX9 266 (31) ∈ ph_tb := ph_tb_of 1182 (by decide +kernel) rfl
end
section
section PHF
variable {Z : ph_L} {own : String} {cc : ByteArray} {nL : Nat} {ret : Option FieldType} {d : Nat} {ρ : Type} {tv : ρ → Option Value} {pc : Nat} {ls : List (Option Value)} {st : List Value} {h : ph_Hp} {F : Option (ρ × ph_Hp)}
theorem ph_getv {i ci k idx : Nat} {v : Value} (hd : decode cc pc = .ok (.getfield idx, 3)) (hf : ph_FL own idx ci k) (hk : ph_kd i = ci) (hv : ph_val Z (h.1 i) (h.2 i) (ph_fk ci k) k (ph_rf i k) = v) (kk : ph_G Z own cc nL ret d tv (pc + 3) ls (v :: st) h F) : ph_G Z own cc nL ret d tv pc ls (.ref (ph_a Z i) :: st) h F := by
  intro p e R s m args below meth c Q A cells slots X r hr fin H locs lsA hP hS hl
  obtain ⟨C, T, N, h1, h2, h3, h4⟩ := hf
  obtain ⟨h5, h6, -, -⟩ := ph_cf ci C T N h1
  have hat := ph_ato Z h hk h5
  have hfv : (ph_flds Z (h.1 i) (h.2 i) i)[k]? = some v := by
    rw [ph_flds_at Z _ _ i (by rw [hk]; exact h3), hk, hv]
  rcases h4 with h4 | ⟨host, h4⟩
  · exact va_get X.ex X.bt X.ts h6 X.ow X.kk hP i hat h1 k h2 (X.ts _ h4) (fun _ h9 => h9) hfv hd (kk p e R s m args below meth c Q A cells slots X r hr fin H locs lsA hP hS hl)
  · exact va_getN X.ex X.bt X.ts h6 X.ow X.kk hP i hat h1 k h2 (va_Nw.use (ph_ns_on h4) (X.ns _ h4)) (fun _ h9 => h9) hfv hd (kk p e R s m args below meth c Q A cells slots X r hr fin H locs lsA hP hS hl)
theorem ph_getI {i ci k idx : Nat} (hd : decode cc pc = .ok (.getfield idx, 3)) (hf : ph_FL own idx ci k) (hk : ph_kd i = ci) (h2 : ph_fk ci k ≠ 2 ∧ ph_fk ci k ≠ 3) (kk : ph_G Z own cc nL ret d tv (pc + 3) ls (.int (h.1 i k) :: st) h F) : ph_G Z own cc nL ret d tv pc ls (.ref (ph_a Z i) :: st) h F :=
  ph_getv hd hf hk (by unfold ph_val; rw [if_neg h2.1, if_neg h2.2]) kk
theorem ph_getJ {i ci k idx : Nat} (hd : decode cc pc = .ok (.getfield idx, 3)) (hf : ph_FL own idx ci k) (hk : ph_kd i = ci) (h2 : ph_fk ci k = 2) (kk : ph_G Z own cc nL ret d tv (pc + 3) ls (.long (h.2 i k) :: st) h F) : ph_G Z own cc nL ret d tv pc ls (.ref (ph_a Z i) :: st) h F :=
  ph_getv hd hf hk (by unfold ph_val; rw [if_pos h2]) kk
theorem ph_getR {i ci k idx j : Nat} (hd : decode cc pc = .ok (.getfield idx, 3)) (hf : ph_FL own idx ci k) (hk : ph_kd i = ci) (h3 : ph_fk ci k = 3) (hj : ph_rf i k = j) (kk : ph_G Z own cc nL ret d tv (pc + 3) ls (.ref (ph_a Z j) :: st) h F) : ph_G Z own cc nL ret d tv pc ls (.ref (ph_a Z i) :: st) h F :=
  ph_getv hd hf hk (by unfold ph_val; rw [if_neg (by omega), if_pos h3, hj]) kk
theorem ph_putI {i ci k idx : Nat} {x : Int32} {ty : FieldType} {K : ph_Hp → Option (ρ × ph_Hp)} (hd : decode cc pc = .ok (.putfield idx, 3)) (hf : ph_PL own idx ci k ty) (hk : ph_kd i = ci) (h2 : ph_fk ci k ≠ 2 ∧ ph_fk ci k ≠ 3) (hn : narrow ty (.int x) = .int x) (hfit : fits ty (.int x) = true) (kk : ∀ h1, ph_G Z own cc nL ret d tv (pc + 3) ls st h1 (K h1)) : ph_G Z own cc nL ret d tv pc ls (.int x :: .ref (ph_a Z i) :: st) h (ph_pfI h i k x K) := by
  intro p e R s m args below meth c Q A cells slots X r hr fin H locs lsA hP hS hl
  obtain ⟨C, T, N, h1, h3, h4, h5, h6, h7⟩ := hf
  obtain ⟨g1, g2, ⟨ty0, g3⟩, g4⟩ := ph_cf ci C T N h1
  have hat := ph_ato Z h hk g1
  refine va_put X.ex X.bt X.ts g2 ty0 g3 g4 X.ow X.kk hP X.dd hS i hat h1 k h3 (X.ts _ h5) (fun _ h9 => h9) h6 h7 hn hfit (by rw [ph_flds_len, hk]; exact h4) hd (fun H1 locs1 hP1 hD1 hS1 => ?_)
  rw [ph_ws_set (h1 := ph_sI h i k x) (by rw [ph_cell_o Z _ _ hk g1, ph_sI_i, ph_flds_setI Z _ _ i x (by rw [hk]; exact h2.1) (by rw [hk]; exact h2.2)]; rfl) (ph_sI_o h i k x)] at hP1
  exact kk _ p e R s m args below meth c Q A cells slots X r hr fin H1 locs1 lsA hP1 hS1 hl
theorem ph_putJ {i ci k idx : Nat} {x : Int64} {K : ph_Hp → Option (ρ × ph_Hp)} (hd : decode cc pc = .ok (.putfield idx, 3)) (hf : ph_PL own idx ci k .long) (hk : ph_kd i = ci) (h2 : ph_fk ci k = 2) (kk : ∀ h1, ph_G Z own cc nL ret d tv (pc + 3) ls st h1 (K h1)) : ph_G Z own cc nL ret d tv pc ls (.long x :: .ref (ph_a Z i) :: st) h (ph_pfJ h i k x K) := by
  intro p e R s m args below meth c Q A cells slots X r hr fin H locs lsA hP hS hl
  obtain ⟨C, T, N, h1, h3, h4, h5, h6, h7⟩ := hf
  obtain ⟨g1, g2, ⟨ty0, g3⟩, g4⟩ := ph_cf ci C T N h1
  have hat := ph_ato Z h hk g1
  refine va_put X.ex X.bt X.ts g2 ty0 g3 g4 X.ow X.kk hP X.dd hS i hat h1 k h3 (X.ts _ h5) (fun _ h9 => h9) h6 h7 rfl rfl (by rw [ph_flds_len, hk]; exact h4) hd (fun H1 locs1 hP1 hD1 hS1 => ?_)
  rw [ph_ws_set (h1 := ph_sJ h i k x) (by rw [ph_cell_o Z _ _ hk g1, ph_sJ_i, ph_flds_setJ Z _ _ i x (by rw [hk]; exact h2)]; rfl) (ph_sJ_o h i k x)] at hP1
  exact kk _ p e R s m args below meth c Q A cells slots X r hr fin H1 locs1 lsA hP1 hS1 hl
end PHF
-- contracts
def ph_rm (d : Nat) : Room := { frames := d, cells := 0, slots := 0, locals := 40 * d }
def ph_Pre (Z : ph_L) (h : ph_Hp) (U : State) : Prop := va_P (ph_D Z) vwCl (ph_ws Z h) U.heap ∧ va_K (ph_D Z) vwCl (ph_tys Z) U ∧ (∀ w ∈ ph_ns, va_Nw w U) ∧ ph_Stat Z (ph_Wd Z) U U.heap ∧ ph_inj Z
def ph_Po (Z : ph_L) (v : Option Value) (h : ph_Hp) (_ : Array Value) (st : State) (oc : Outcome) (t : State) : Prop := oc = .returned v ∧ va_P (ph_D Z) vwCl (ph_ws Z h) t.heap ∧ va_F (ph_Wd Z) st t
def ph_CM (Z : ph_L) (y : MethodName) (cc : ByteArray) (nL : Nat) (ret : Option FieldType) (d : Nat) (As : List Value) {ρ : Type} (tv : ρ → Option Value) (h : ph_Hp) (F : Option (ρ × ph_Hp)) : Prop :=
  ∀ r : ρ × ph_Hp, F = some r → Met (ph_l Z) y (.code y cc nL ret :: ph_tb) (ph_rm d) (va_Pc As (ph_Pre Z h)) (ph_Po Z (tv r.1) r.2) 0 0 (ph_Wd Z)
def ph_MF (y : MethodName) (cc : ByteArray) (nL : Nat) (ret : Option FieldType) (n : Nat) : Prop := Cond.code y cc nL ret ∈ ph_tb ∧ Cond.initialized y.cls ∈ ph_tb ∧ (y.cls ≠ "java/lang/invoke/MethodHandle" ∧ y.cls ≠ "java/lang/invoke/VarHandle" ∧ (parseMethodDescriptor y.desc).map (fun d => d.parameters.length) = some n) ∧ (plainName y.cls = true ∧ y.cls ≠ RL) ∧ nL ≤ 21
def ph_ML (own : String) (idx : Nat) (y : MethodName) : Prop := Cond.methodLink own idx y ∈ ph_tb ∨ ∃ host, Cond.methodLinkNest own idx y host ∈ ph_ns
def ph_ent : Nat → List Value → List (Option Value)
  | n, [] => List.replicate n none
  | n, v :: vs => if v.category = 2 then some v :: none :: ph_ent (n - 2) vs else some v :: ph_ent (n - 1) vs
theorem ph_ent_rep : ∀ (n i : Nat), ph_kn i (List.replicate n none) = []
  | 0, i => rfl
  | n + 1, i => by rw [List.replicate_succ, ph_kn, ph_ent_rep n (i + 1)]
theorem ph_ent_kn : ∀ (vs : List Value) (n i : Nat), ph_kn i (ph_ent n vs) = lv_args i vs
  | [], n, i => by rw [ph_ent, ph_ent_rep]; rfl
  | v :: vs, n, i => by
    rw [ph_ent, lv_args]
    by_cases hc : v.category = 2
    · rw [if_pos hc, if_pos hc, ph_kn, ph_kn, ph_ent_kn vs]
    · rw [if_neg hc, if_neg hc, ph_kn, ph_ent_kn vs]
theorem ph_enter {Z : ph_L} {y : MethodName} {cc : ByteArray} {nL : Nat} {ret : Option FieldType} {n d : Nat} {As : List Value} {ρ : Type} {tv : ρ → Option Value} {h : ph_Hp} {F : Option (ρ × ph_Hp)} (hm : ph_MF y cc nL ret n) {ls : List (Option Value)} (hls : ph_ent nL As = ls) (hn : (lg_sl As).length ≤ nL) (k : ph_G Z y.cls cc nL ret d tv 0 ls [] h F) : ph_CM Z y cc nL ret d As tv h F := by
  intro r hr
  refine Met.ofW (cc := cc) (maxL := nL) (ret := ret) hm.2.2.2.1.1 rfl ?_
  intro p e s m args below meth c s₁ B hml hv
  obtain ⟨rfl, hP, hK, hN, hSt, hij⟩ := hv
  have hts := atoms_spec (ws := .code y cc nL ret :: ph_tb) B.pre
  rw [lg_entry_eq]
  have hl := lv_entry As (n := nL) hn
  refine k p e (ph_rm d) s m As.toArray below meth c (MQ below (ph_Po Z (tv r.1) r.2) As.toArray s 0 0 (ph_Wd Z)) (ph_Wd Z) 0 0 ?_ r hr ?_ s.heap [] _ hP va_S.rf ?_
  · exact ⟨B.exec, B.bytes, hml, B.returns, findClass_of_methodNamed B.named, fun w hw => hts w (List.mem_cons_of_mem _ hw), hN, hK, hij, fun i hi => ⟨i, hi, rfl⟩, hSt, Nat.le_refl _, Nat.le_refl _, Nat.le_refl _, Nat.le_refl _, B.notSynchronized, fun q => absurd q hm.2.2.2.1.2⟩
  · intro H locs lsA pc2 hP2 hS2 hrd
    have hq : ∀ t : State, t.heap = H → s.WarmedH t.vm → ph_Po Z (tv r.1) r.2 As.toArray s (.returned (tv r.1)) t := fun t ht _ => ⟨rfl, by rw [ht]; exact hP2, hS2.F ht⟩
    generalize hvv : tv r.1 = vv at hrd hq ⊢
    have hlk : meth.locks = false := B.notSynchronized
    cases vv with
    | none => exact W.vret B.exec B.bytes (B.returns.trans hrd.1) hq hS2.2.2 hrd.2
    | some v =>
      cases v with
      | int x =>
        obtain ⟨g1, ty, g2, g3⟩ := hrd
        exact W.zret B.exec B.bytes (B.returns.trans g2) g3 hq hS2.2.2 g1
      | long x => exact W.lret B.exec B.bytes (B.returns.trans hrd.2) hq hS2.2.2 hrd.1
      | ref x =>
        obtain ⟨g1, n2, g2⟩ := hrd
        exact W.aret B.exec B.bytes (B.returns.trans g2) (Or.inl ⟨n2, rfl⟩) (Or.inr ⟨x, rfl⟩) hq hS2.2.2 g1
      | _ => exact hrd.elim
  · show lv_has _ nL (ph_kn 0 ls)
    rw [← hls, ph_ent_kn]
    exact hl
theorem ph_pre_at {Z : ph_L} {own : String} {cc : ByteArray} {nL : Nat} {ret : Option FieldType} {d : Nat} {p : Program} {e : Env} {R : Room} {s : State} {m : MethodId} {args : Array Value} {meth : Method} {c : Code} {A : Nat → Prop} {cells slots : Nat} (X : ph_Ok Z own cc nL ret d p e R s m args meth c A cells slots) {h : ph_Hp} {H : Heap} {locs : List Loc} (hP : va_P (ph_D Z) vwCl (ph_ws Z h) H) (hS : va_S A s.heap H locs) : ∀ U : State, U.heap = H → s.WarmedH U.vm → ph_Pre Z h U := by
  intro U hU hW
  have hAB : ∀ q, ph_Wd Z q → A q := fun q ⟨i, hi, e⟩ => e ▸ X.aa i hi
  refine ⟨by rw [hU]; exact hP, va_K.moved hW.alike X.kk, fun w hw => ph_ns_warm hw hW (X.ns w hw), ⟨?_, ?_⟩, X.ij⟩
  · rw [hU]
    exact ((va_Z.moved hW.alike X.sa.1).kept hS.2.1).narrow hAB
  · rw [hU]
    exact ((va_T.moved hW.alike X.sa.2).kept hS.2.1).narrow hAB
theorem ph_blind (Z : ph_L) (h : ph_Hp) (As : List Value) : FrameBlind (va_Pc As (ph_Pre Z h)) := by
  intro a U g mk q
  obtain ⟨q0, qP, qK, qN, ⟨q1, q2⟩, qi⟩ := q
  have hvm : U.vm.Alike (U.calling g mk a).vm := Vm.Alike.refl U.vm
  exact ⟨q0, qP, va_K.moved (u := U) (U := U.calling g mk a) hvm qK, fun w hw => va_Nw.same (ph_ns_on hw) (rfl : U.vm = (U.calling g mk a).vm) (qN w hw), ⟨va_Z.moved (u := U) (U := U.calling g mk a) hvm q1, va_T.moved (u := U) (U := U.calling g mk a) hvm q2⟩, qi⟩
theorem ph_back {Z : ph_L} {p : Program} {e : Env} {R : Room} {s : State} {m : MethodId} {args : Array Value} {below : List Frame} {meth : Method} {c : Code} {H : Heap} {locs : List Loc} {cells slots : Nat} {Q : State → Prop} {A : Nat → Prop} {pc : Nat} {lsA : Array Slot} {st rest : List Value} {v : Option Value} {h1 : ph_Hp} {a : Array Value}
    (hr : va_Run p (ph_l Z) e R s m args below meth c H locs cells slots 0 0 (F0 m pc lsA st) rest (ph_Po Z v h1 a) (ph_Wd Z)) (hS : va_S A s.heap H locs) (hA : ∀ q, ph_Wd Z q → A q)
    (kk : ∀ (H1 : Heap) (locs1 : List Loc), va_P (ph_D Z) vwCl (ph_ws Z h1) H1 → va_S A s.heap H1 locs1 → W p (ph_l Z) e R s m args below meth c H1 locs1 cells slots Q (F0 m (pc + 3) lsA (v.toList ++ rest))) : W p (ph_l Z) e R s m args below meth c H locs cells slots Q (F0 m pc lsA st) := by
  intro T hT X
  obtain ⟨v2, st₀, t, T', L, h0, X', hL, e1, e2, ⟨hv, hP1, hz, hk⟩, go⟩ := hr T hT X
  cases hv
  rw [h0] at hz hk
  obtain ⟨t2, a1, b1⟩ := kk T'.heap (locs ++ L) (by rw [e1]; exact hP1) ⟨Nat.le_trans hS.1 (by rw [e1]; exact hz), fun q g1 g2 => by rw [e1, hk q (Nat.lt_of_lt_of_le g1 hS.1) (fun z => g2 (hA q z))]; exact hS.2.1 q g1 g2, fun q hq => by
      rcases List.mem_append.mp hq with g | g
      · exact hS.2.2 q g
      · exact hA _ (hL q g)⟩ T' rfl X'
  exact ⟨t2, go t2 a1, b1⟩
theorem ph_tb_good : ∀ w ∈ ph_tb, (w.onTables && w.keeps) = true ∨ ∃ ty, w = .arrayClass ty := fun w hw => good_of_word (List.mem_filter.mp hw).2
theorem ph_wsgood {y : MethodName} {cc : ByteArray} {nL : Nat} {ret : Option FieldType} (hc : Cond.code y cc nL ret ∈ ph_tb) : GoodIn ph_tb (.code y cc nL ret :: ph_tb) := fun w hw => by
  rcases List.mem_cons.mp hw with q | q
  · rw [q]; exact ⟨hc, ph_tb_good _ hc⟩
  · exact ⟨q, ph_tb_good _ q⟩
section PHC
variable {Z : ph_L} {own : String} {cc : ByteArray} {nL : Nat} {ret : Option FieldType} {d : Nat} {ρ : Type} {tv : ρ → Option Value} {pc : Nat} {ls : List (Option Value)} {st : List Value} {h : ph_Hp} {F : Option (ρ × ph_Hp)}
theorem ph_callS {y : MethodName} {bytes : ByteArray} {maxL : Nat} {ret2 : Option FieldType} {n d2 idx : Nat} {As rest : List Value} {ρ2 : Type} {tv2 : ρ2 → Option Value} {F0 : Option (ρ2 × ph_Hp)} {K : ρ2 → ph_Hp → Option (ρ × ph_Hp)} (hd : decode cc pc = .ok (.invokestatic idx, 3)) (hm : ph_MF y bytes maxL ret2 n) (hl0 : ph_ML own idx y) (hs0 : Cond.static y ∈ ph_tb) (hc : ph_CM Z y bytes maxL ret2 d2 As tv2 h F0) (hdd : d2 + 1 ≤ d) (hn : As.length = n) (hst : As.reverse ++ rest = st) (hro : (rest.map fun v => v.category).sum ≤ 8)
    (k : ∀ v h1, ph_G Z own cc nL ret d tv (pc + 3) ls ((tv2 v).toList ++ rest) h1 (K v h1)) : ph_G Z own cc nL ret d tv pc ls st h (ph_cl F0 K) := by
  intro p e R s m args below meth c Q A cells slots X r hr fin H locs lsA hP hS hl
  cases hF : F0 with
  | none => rw [hF] at hr; cases hr
  | some r0 =>
    rw [hF] at hr
    have hM := hc r0 hF
    have hR : (ph_rm d2).frames + 1 ≤ R.frames ∧ 8 + (maxL + 11) + (ph_rm d2).locals ≤ R.locals := by
      have h1 := X.fr
      have h2 := X.lo
      have h3 := hm.2.2.2.2
      exact ⟨Nat.le_trans hdd h1, by show 8 + (maxL + 11) + 40 * d2 ≤ R.locals; omega⟩
    have hcw : ∀ (hl9 : (Cond.methodLink own idx y).before args s = true), CallB R s args own idx y bytes maxL ret2 (.code y bytes maxL ret2 :: ph_tb) (ph_rm d2) 0 0 n := fun hl9 => callB_of n X.ts (ph_wsgood hm.1) rfl rfl rfl (X.ts _ hm.2.1) hl9 hm.2.2.1 hR
    have hA : ∀ q, ph_Wd Z q → A q := fun q ⟨i, hi, e⟩ => e ▸ X.aa i hi
    have hpre : PreS s H (va_Pc As (ph_Pre Z h)) As := ⟨ph_blind Z h As, fun U hU hW => ⟨rfl, ph_pre_at X hP hS U hU hW⟩⟩
    refine ph_back (v := tv2 r0.1) (h1 := r0.2) (rest := rest) (a := As.toArray) ?_ hS hA (fun H1 locs1 hP1 hS1 => k r0.1 r0.2 p e R s m args below meth c Q A cells slots X r hr fin H1 locs1 lsA hP1 hS1 hl)
    rcases hl0 with hl0 | ⟨host, hl0⟩
    · exact va_runS (Ts := ph_tb) ⟨X.ex, X.bt, X.ml, X.ow, X.ts⟩ hM ⟨hcw (X.ts _ hl0), X.ts _ hs0⟩ hpre rfl hn hl.1 hst.symm (lv_room hro) hd ⟨X.ce, X.sl⟩
    · exact va_runSN (Ts := ph_tb) ⟨X.ex, X.bt, X.ml, X.ow, X.ts⟩ hM ⟨va_cnB n X.ts (ph_wsgood hm.1) rfl rfl rfl (X.ns _ hl0) (X.ts _ hm.2.1) hm.2.2.1 hR, X.ts _ hs0, trivial⟩ hpre rfl hn hl.1 hst.symm (lv_room hro) hd ⟨X.ce, X.sl⟩
theorem ph_callV {y : MethodName} {bytes : ByteArray} {maxL : Nat} {ret2 : Option FieldType} {n d2 idx i ci : Nat} {As rest : List Value} {ρ2 : Type} {tv2 : ρ2 → Option Value} {F0 : Option (ρ2 × ph_Hp)} {K : ρ2 → ph_Hp → Option (ρ × ph_Hp)} {C : String} {T : u_T} {N : Nat} (hd : decode cc pc = .ok (.invokevirtual idx, 3)) (hm : ph_MF y bytes maxL ret2 n) (hl0 : ph_ML own idx y) (hi0 : Cond.instanceMethod y ∈ ph_tb) (hs0 : Cond.selects C y y ∈ ph_tb) (hci : vwCl[ci]? = some (C, T, N)) (hk : ph_kd i = ci) (hc : ph_CM Z y bytes maxL ret2 d2 (.ref (ph_a Z i) :: As) tv2 h F0) (hdd : d2 + 1 ≤ d) (hn : As.length = n) (hst : As.reverse ++ .ref (ph_a Z i) :: rest = st) (hro : (rest.map fun v => v.category).sum ≤ 8)
    (k : ∀ v h1, ph_G Z own cc nL ret d tv (pc + 3) ls ((tv2 v).toList ++ rest) h1 (K v h1)) : ph_G Z own cc nL ret d tv pc ls st h (ph_cl F0 K) := by
  intro p e R s m args below meth c Q A cells slots X r hr fin H locs lsA hP hS hl
  cases hF : F0 with
  | none => rw [hF] at hr; cases hr
  | some r0 =>
    rw [hF] at hr
    have hM := hc r0 hF
    have hR : (ph_rm d2).frames + 1 ≤ R.frames ∧ 8 + (maxL + 11) + (ph_rm d2).locals ≤ R.locals := by
      have h1 := X.fr
      have h2 := X.lo
      have h3 := hm.2.2.2.2
      exact ⟨Nat.le_trans hdd h1, by show 8 + (maxL + 11) + 40 * d2 ≤ R.locals; omega⟩
    have hcw : ∀ (hl9 : (Cond.methodLink own idx y).before args s = true), CallB R s args own idx y bytes maxL ret2 (.code y bytes maxL ret2 :: ph_tb) (ph_rm d2) 0 0 n := fun hl9 => callB_of n X.ts (ph_wsgood hm.1) rfl rfl rfl (X.ts _ hm.2.1) hl9 hm.2.2.1 hR
    have hA : ∀ q, ph_Wd Z q → A q := fun q ⟨i, hi, e⟩ => e ▸ X.aa i hi
    have hrecv := va_recv X.kk hP hci (ph_ato Z h hk (ph_cf ci C T N hci).1)
    have hpre : PreV s H C (ph_a Z i) (va_Pc (.ref (ph_a Z i) :: As) (ph_Pre Z h)) As := ⟨ph_blind Z h _, hrecv, fun U hU hW => ⟨rfl, ph_pre_at X hP hS U hU hW⟩⟩
    refine ph_back (v := tv2 r0.1) (h1 := r0.2) (rest := rest) (a := (Value.ref (ph_a Z i) :: As).toArray) ?_ hS hA (fun H1 locs1 hP1 hS1 => k r0.1 r0.2 p e R s m args below meth c Q A cells slots X r hr fin H1 locs1 lsA hP1 hS1 hl)
    rcases hl0 with hl0 | ⟨host, hl0⟩
    · exact va_runV (Ts := ph_tb) ⟨X.ex, X.bt, X.ml, X.ow, X.ts⟩ hM ⟨hcw (X.ts _ hl0), X.ts _ hi0, X.ts _ hs0⟩ hpre rfl hn hl.1 hst.symm (lv_room hro) hd ⟨X.ce, X.sl⟩
    · exact va_runVN (Ts := ph_tb) ⟨X.ex, X.bt, X.ml, X.ow, X.ts⟩ hM ⟨va_cnB n X.ts (ph_wsgood hm.1) rfl rfl rfl (X.ns _ hl0) (X.ts _ hm.2.1) hm.2.2.1 hR, X.ts _ hi0, X.ts _ hs0⟩ hpre rfl hn hl.1 hst.symm (lv_room hro) hd ⟨X.ce, X.sl⟩
theorem ph_mmax {x y : Int32} {idx : Nat} (hd : decode cc pc = .ok (.invokestatic idx, 3)) (hl0 : Cond.methodLink own idx Lib.Math.max.name ∈ ph_tb) (hm : Cond.code Lib.Math.max.name Lib.Math.max.code 2 (some .int) ∈ ph_tb ∧ Cond.static Lib.Math.max.name ∈ ph_tb ∧ Cond.initialized "java/lang/Math" ∈ ph_tb) (hdd : 1 ≤ d) (hro : (st.map fun v => v.category).sum ≤ 8) (k : ph_G Z own cc nL ret d tv (pc + 3) ls (.int (if x < y then y else x) :: st) h F) : ph_G Z own cc nL ret d tv pc ls (.int y :: .int x :: st) h F := by
  intro p e R s m args below meth c Q A cells slots X r hr fin H locs lsA hP hS hl
  have h1 := X.fr
  have h2 := X.lo
  exact va_mmax X.ex X.bt (X.ml.trans hl.1.symm) X.ow (X.ts _ hl0) (X.ts _ hm.2.1) (X.ts _ hm.2.2) (X.ts _ hm.1) (by omega) (by omega) X.ce X.sl hd (k p e R s m args below meth c Q A cells slots X r hr fin H locs lsA hP hS hl)
theorem ph_mmin {x y : Int32} {idx : Nat} (hd : decode cc pc = .ok (.invokestatic idx, 3)) (hl0 : Cond.methodLink own idx Lib.Math.min.name ∈ ph_tb) (hm : Cond.code Lib.Math.min.name Lib.Math.min.code 2 (some .int) ∈ ph_tb ∧ Cond.static Lib.Math.min.name ∈ ph_tb ∧ Cond.initialized "java/lang/Math" ∈ ph_tb) (hdd : 1 ≤ d) (hro : (st.map fun v => v.category).sum ≤ 8) (k : ph_G Z own cc nL ret d tv (pc + 3) ls (.int (if y < x then y else x) :: st) h F) : ph_G Z own cc nL ret d tv pc ls (.int y :: .int x :: st) h F := by
  intro p e R s m args below meth c Q A cells slots X r hr fin H locs lsA hP hS hl
  have h1 := X.fr
  have h2 := X.lo
  exact va_mmin X.ex X.bt (X.ml.trans hl.1.symm) X.ow (X.ts _ hl0) (X.ts _ hm.2.1) (X.ts _ hm.2.2) (X.ts _ hm.1) (by omega) (by omega) X.ce X.sl hd (k p e R s m args below meth c Q A cells slots X r hr fin H locs lsA hP hS hl)
theorem ph_mabs {x : Int32} {idx : Nat} (hd : decode cc pc = .ok (.invokestatic idx, 3)) (hl0 : Cond.methodLink own idx Lib.Math.abs.name ∈ ph_tb) (hm : Cond.code Lib.Math.abs.name Lib.Math.abs.code 1 (some .int) ∈ ph_tb ∧ Cond.static Lib.Math.abs.name ∈ ph_tb ∧ Cond.initialized "java/lang/Math" ∈ ph_tb) (hdd : 1 ≤ d) (hro : (st.map fun v => v.category).sum ≤ 8) (k : ph_G Z own cc nL ret d tv (pc + 3) ls (.int (if 0 ≤ x then x else 0 - x) :: st) h F) : ph_G Z own cc nL ret d tv pc ls (.int x :: st) h F := by
  intro p e R s m args below meth c Q A cells slots X r hr fin H locs lsA hP hS hl
  have h1 := X.fr
  have h2 := X.lo
  exact va_mabs X.ex X.bt (X.ml.trans hl.1.symm) X.ow (X.ts _ hl0) (X.ts _ hm.2.1) (X.ts _ hm.2.2) (X.ts _ hm.1) (by omega) (by omega) X.ce X.sl hd (k p e R s m args below meth c Q A cells slots X r hr fin H locs lsA hP hS hl)
end PHC
end
section
theorem ph_mm_max : Cond.code Lib.Math.max.name Lib.Math.max.code 2 (some .int) ∈ ph_tb ∧ Cond.static Lib.Math.max.name ∈ ph_tb ∧ Cond.initialized "java/lang/Math" ∈ ph_tb := ⟨ph_tb_of 73 (by decide +kernel) rfl, ph_tb_of 72 (by decide +kernel) rfl, ph_tb_of 47 (by decide +kernel) rfl⟩
theorem ph_mf_yX8_type : ph_MF yX8_type cX8_type 4 (some .int) 2 := ⟨ph_tb_of 284 (by decide +kernel) rfl, ph_tb_of 45 (by decide +kernel) rfl, by decide +kernel, by decide +kernel, by decide⟩
theorem ph_mi_yX8_type : Cond.instanceMethod yX8_type ∈ ph_tb := ph_tb_of 282 (by decide +kernel) rfl
theorem ph_mv_yX8_type : Cond.selects RX8 yX8_type yX8_type ∈ ph_tb := ph_tb_of 283 (by decide +kernel) rfl
theorem ph_mf_yX8_within : ph_MF yX8_within cX8_within 2 (some .boolean) 2 := ⟨ph_tb_of 287 (by decide +kernel) rfl, ph_tb_of 45 (by decide +kernel) rfl, by decide +kernel, by decide +kernel, by decide⟩
theorem ph_ms_yX8_within : Cond.static yX8_within ∈ ph_tb := ph_tb_of 286 (by decide +kernel) rfl
theorem ph_mf_yX8_textOf : ph_MF yX8_textOf cX8_textOf 2 (some (.object "PromptHoles$Row")) 1 := ⟨ph_tb_of 291 (by decide +kernel) rfl, ph_tb_of 45 (by decide +kernel) rfl, by decide +kernel, by decide +kernel, by decide⟩
theorem ph_mi_yX8_textOf : Cond.instanceMethod yX8_textOf ∈ ph_tb := ph_tb_of 290 (by decide +kernel) rfl
theorem ph_mv_yX8_textOf : Cond.selects RX8 yX8_textOf yX8_textOf ∈ ph_tb := ph_tb_of 0 (by decide +kernel) rfl
theorem ph_mf_yX4_isFull : ph_MF yX4_isFull cX4_isFull 1 (some .boolean) 0 := ⟨ph_tb_of 295 (by decide +kernel) rfl, ph_tb_of 46 (by decide +kernel) rfl, by decide +kernel, by decide +kernel, by decide⟩
theorem ph_mi_yX4_isFull : Cond.instanceMethod yX4_isFull ∈ ph_tb := ph_tb_of 293 (by decide +kernel) rfl
theorem ph_mv_yX4_isFull : Cond.selects RX4 yX4_isFull yX4_isFull ∈ ph_tb := ph_tb_of 294 (by decide +kernel) rfl
theorem ph_mf_yX4_add : ph_MF yX4_add cX4_add 2 none 1 := ⟨ph_tb_of 299 (by decide +kernel) rfl, ph_tb_of 46 (by decide +kernel) rfl, by decide +kernel, by decide +kernel, by decide⟩
theorem ph_mi_yX4_add : Cond.instanceMethod yX4_add ∈ ph_tb := ph_tb_of 297 (by decide +kernel) rfl
theorem ph_mv_yX4_add : Cond.selects RX4 yX4_add yX4_add ∈ ph_tb := ph_tb_of 298 (by decide +kernel) rfl
theorem ph_mf_yX4_size : ph_MF yX4_size cX4_size 1 (some .int) 0 := ⟨ph_tb_of 303 (by decide +kernel) rfl, ph_tb_of 46 (by decide +kernel) rfl, by decide +kernel, by decide +kernel, by decide⟩
theorem ph_mi_yX4_size : Cond.instanceMethod yX4_size ∈ ph_tb := ph_tb_of 301 (by decide +kernel) rfl
theorem ph_mv_yX4_size : Cond.selects RX4 yX4_size yX4_size ∈ ph_tb := ph_tb_of 302 (by decide +kernel) rfl
theorem ph_mf_yX8_wipe : ph_MF yX8_wipe cX8_wipe 4 (some .int) 1 := ⟨ph_tb_of 307 (by decide +kernel) rfl, ph_tb_of 45 (by decide +kernel) rfl, by decide +kernel, by decide +kernel, by decide⟩
theorem ph_mi_yX8_wipe : Cond.instanceMethod yX8_wipe ∈ ph_tb := ph_tb_of 305 (by decide +kernel) rfl
theorem ph_mv_yX8_wipe : Cond.selects RX8 yX8_wipe yX8_wipe ∈ ph_tb := ph_tb_of 306 (by decide +kernel) rfl
theorem ph_mf_yX4_clear : ph_MF yX4_clear cX4_clear 1 none 0 := ⟨ph_tb_of 311 (by decide +kernel) rfl, ph_tb_of 46 (by decide +kernel) rfl, by decide +kernel, by decide +kernel, by decide⟩
theorem ph_mi_yX4_clear : Cond.instanceMethod yX4_clear ∈ ph_tb := ph_tb_of 309 (by decide +kernel) rfl
theorem ph_mv_yX4_clear : Cond.selects RX4 yX4_clear yX4_clear ∈ ph_tb := ph_tb_of 310 (by decide +kernel) rfl
theorem ph_mf_yX8_undo : ph_MF yX8_undo cX8_undo 3 (some .int) 1 := ⟨ph_tb_of 315 (by decide +kernel) rfl, ph_tb_of 45 (by decide +kernel) rfl, by decide +kernel, by decide +kernel, by decide⟩
theorem ph_mi_yX8_undo : Cond.instanceMethod yX8_undo ∈ ph_tb := ph_tb_of 313 (by decide +kernel) rfl
theorem ph_mv_yX8_undo : Cond.selects RX8 yX8_undo yX8_undo ∈ ph_tb := ph_tb_of 314 (by decide +kernel) rfl
theorem ph_mf_yX4_cut : ph_MF yX4_cut cX4_cut 1 none 0 := ⟨ph_tb_of 319 (by decide +kernel) rfl, ph_tb_of 46 (by decide +kernel) rfl, by decide +kernel, by decide +kernel, by decide⟩
theorem ph_mi_yX4_cut : Cond.instanceMethod yX4_cut ∈ ph_tb := ph_tb_of 317 (by decide +kernel) rfl
theorem ph_mv_yX4_cut : Cond.selects RX4 yX4_cut yX4_cut ∈ ph_tb := ph_tb_of 318 (by decide +kernel) rfl
theorem ph_mf_yX8_fault : ph_MF yX8_fault cX8_fault 3 (some .int) 1 := ⟨ph_tb_of 323 (by decide +kernel) rfl, ph_tb_of 45 (by decide +kernel) rfl, by decide +kernel, by decide +kernel, by decide⟩
theorem ph_mi_yX8_fault : Cond.instanceMethod yX8_fault ∈ ph_tb := ph_tb_of 321 (by decide +kernel) rfl
theorem ph_mv_yX8_fault : Cond.selects RX8 yX8_fault yX8_fault ∈ ph_tb := ph_tb_of 322 (by decide +kernel) rfl
theorem ph_mf_yX8_staged : ph_MF yX8_staged cX8_staged 1 (some (.object "PromptHoles$Stage")) 0 := ⟨ph_tb_of 327 (by decide +kernel) rfl, ph_tb_of 45 (by decide +kernel) rfl, by decide +kernel, by decide +kernel, by decide⟩
theorem ph_mi_yX8_staged : Cond.instanceMethod yX8_staged ∈ ph_tb := ph_tb_of 326 (by decide +kernel) rfl
theorem ph_mv_yX8_staged : Cond.selects RX8 yX8_staged yX8_staged ∈ ph_tb := ph_tb_of 1 (by decide +kernel) rfl
theorem ph_mf_yX3_parse : ph_MF yX3_parse cX3_parse 4 none 1 := ⟨ph_tb_of 331 (by decide +kernel) rfl, ph_tb_of 50 (by decide +kernel) rfl, by decide +kernel, by decide +kernel, by decide⟩
theorem ph_mi_yX3_parse : Cond.instanceMethod yX3_parse ∈ ph_tb := ph_tb_of 329 (by decide +kernel) rfl
theorem ph_mv_yX3_parse : Cond.selects RX3 yX3_parse yX3_parse ∈ ph_tb := ph_tb_of 330 (by decide +kernel) rfl
theorem ph_mf_yX3_faultOf : ph_MF yX3_faultOf cX3_faultOf 3 (some .int) 1 := ⟨ph_tb_of 334 (by decide +kernel) rfl, ph_tb_of 50 (by decide +kernel) rfl, by decide +kernel, by decide +kernel, by decide⟩
theorem ph_ms_yX3_faultOf : Cond.static yX3_faultOf ∈ ph_tb := ph_tb_of 333 (by decide +kernel) rfl
theorem ph_mf_yX4_at : ph_MF yX4_at cX4_at 2 (some .int) 1 := ⟨ph_tb_of 339 (by decide +kernel) rfl, ph_tb_of 46 (by decide +kernel) rfl, by decide +kernel, by decide +kernel, by decide⟩
theorem ph_mi_yX4_at : Cond.instanceMethod yX4_at ∈ ph_tb := ph_tb_of 337 (by decide +kernel) rfl
theorem ph_mv_yX4_at : Cond.selects RX4 yX4_at yX4_at ∈ ph_tb := ph_tb_of 338 (by decide +kernel) rfl
theorem ph_mm_min : Cond.code Lib.Math.min.name Lib.Math.min.code 2 (some .int) ∈ ph_tb ∧ Cond.static Lib.Math.min.name ∈ ph_tb ∧ Cond.initialized "java/lang/Math" ∈ ph_tb := ⟨ph_tb_of 342 (by decide +kernel) rfl, ph_tb_of 341 (by decide +kernel) rfl, ph_tb_of 47 (by decide +kernel) rfl⟩
theorem ph_mf_yX3_lineIn : ph_MF yX3_lineIn cX3_lineIn 2 (some .int) 1 := ⟨ph_tb_of 346 (by decide +kernel) rfl, ph_tb_of 50 (by decide +kernel) rfl, by decide +kernel, by decide +kernel, by decide⟩
theorem ph_mi_yX3_lineIn : Cond.instanceMethod yX3_lineIn ∈ ph_tb := ph_tb_of 344 (by decide +kernel) rfl
theorem ph_mv_yX3_lineIn : Cond.selects RX3 yX3_lineIn yX3_lineIn ∈ ph_tb := ph_tb_of 345 (by decide +kernel) rfl
theorem ph_mf_yX1_parse : ph_MF yX1_parse cX1_parse 4 none 1 := ⟨ph_tb_of 351 (by decide +kernel) rfl, ph_tb_of 51 (by decide +kernel) rfl, by decide +kernel, by decide +kernel, by decide⟩
theorem ph_mi_yX1_parse : Cond.instanceMethod yX1_parse ∈ ph_tb := ph_tb_of 349 (by decide +kernel) rfl
theorem ph_mv_yX1_parse : Cond.selects RX1 yX1_parse yX1_parse ∈ ph_tb := ph_tb_of 350 (by decide +kernel) rfl
theorem ph_mf_yX1_faultOf : ph_MF yX1_faultOf cX1_faultOf 3 (some .int) 1 := ⟨ph_tb_of 354 (by decide +kernel) rfl, ph_tb_of 51 (by decide +kernel) rfl, by decide +kernel, by decide +kernel, by decide⟩
theorem ph_ms_yX1_faultOf : Cond.static yX1_faultOf ∈ ph_tb := ph_tb_of 353 (by decide +kernel) rfl
theorem ph_mf_yX1_goesOn : ph_MF yX1_goesOn cX1_goesOn 2 (some .boolean) 2 := ⟨ph_tb_of 359 (by decide +kernel) rfl, ph_tb_of 51 (by decide +kernel) rfl, by decide +kernel, by decide +kernel, by decide⟩
theorem ph_ms_yX1_goesOn : Cond.static yX1_goesOn ∈ ph_tb := ph_tb_of 358 (by decide +kernel) rfl
theorem ph_mf_yX1_habitBy : ph_MF yX1_habitBy cX1_habitBy 1 (some .int) 1 := ⟨ph_tb_of 362 (by decide +kernel) rfl, ph_tb_of 51 (by decide +kernel) rfl, by decide +kernel, by decide +kernel, by decide⟩
theorem ph_ms_yX1_habitBy : Cond.static yX1_habitBy ∈ ph_tb := ph_tb_of 361 (by decide +kernel) rfl
theorem ph_mf_yX1_think : ph_MF yX1_think cX1_think 6 none 1 := ⟨ph_tb_of 367 (by decide +kernel) rfl, ph_tb_of 51 (by decide +kernel) rfl, by decide +kernel, by decide +kernel, by decide⟩
theorem ph_mi_yX1_think : Cond.instanceMethod yX1_think ∈ ph_tb := ph_tb_of 365 (by decide +kernel) rfl
theorem ph_mv_yX1_think : Cond.selects RX1 yX1_think yX1_think ∈ ph_tb := ph_tb_of 366 (by decide +kernel) rfl
theorem ph_mf_yX3_nextTo : ph_MF yX3_nextTo cX3_nextTo 2 (some .int) 1 := ⟨ph_tb_of 371 (by decide +kernel) rfl, ph_tb_of 50 (by decide +kernel) rfl, by decide +kernel, by decide +kernel, by decide⟩
theorem ph_mi_yX3_nextTo : Cond.instanceMethod yX3_nextTo ∈ ph_tb := ph_tb_of 369 (by decide +kernel) rfl
theorem ph_mv_yX3_nextTo : Cond.selects RX3 yX3_nextTo yX3_nextTo ∈ ph_tb := ph_tb_of 370 (by decide +kernel) rfl
theorem ph_mf_yX3_aheadOf : ph_MF yX3_aheadOf cX3_aheadOf 2 (some .int) 1 := ⟨ph_tb_of 375 (by decide +kernel) rfl, ph_tb_of 50 (by decide +kernel) rfl, by decide +kernel, by decide +kernel, by decide⟩
theorem ph_mi_yX3_aheadOf : Cond.instanceMethod yX3_aheadOf ∈ ph_tb := ph_tb_of 373 (by decide +kernel) rfl
theorem ph_mv_yX3_aheadOf : Cond.selects RX3 yX3_aheadOf yX3_aheadOf ∈ ph_tb := ph_tb_of 374 (by decide +kernel) rfl
theorem ph_mf_yX1_byHabit : ph_MF yX1_byHabit cX1_byHabit 6 (some .int) 4 := ⟨ph_tb_of 379 (by decide +kernel) rfl, ph_tb_of 51 (by decide +kernel) rfl, by decide +kernel, by decide +kernel, by decide⟩
theorem ph_mi_yX1_byHabit : Cond.instanceMethod yX1_byHabit ∈ ph_tb := ph_tb_of 378 (by decide +kernel) rfl
theorem ph_mv_yX1_byHabit : Cond.selects RX1 yX1_byHabit yX1_byHabit ∈ ph_tb := ph_tb_of 2 (by decide +kernel) rfl
theorem ph_mf_yX1_lineOf : ph_MF yX1_lineOf cX1_lineOf 2 (some .int) 1 := ⟨ph_tb_of 383 (by decide +kernel) rfl, ph_tb_of 51 (by decide +kernel) rfl, by decide +kernel, by decide +kernel, by decide⟩
theorem ph_mi_yX1_lineOf : Cond.instanceMethod yX1_lineOf ∈ ph_tb := ph_tb_of 381 (by decide +kernel) rfl
theorem ph_mv_yX1_lineOf : Cond.selects RX1 yX1_lineOf yX1_lineOf ∈ ph_tb := ph_tb_of 382 (by decide +kernel) rfl
theorem ph_mf_yX1_habitOf : ph_MF yX1_habitOf cX1_habitOf 2 (some .int) 1 := ⟨ph_tb_of 387 (by decide +kernel) rfl, ph_tb_of 51 (by decide +kernel) rfl, by decide +kernel, by decide +kernel, by decide⟩
theorem ph_mi_yX1_habitOf : Cond.instanceMethod yX1_habitOf ∈ ph_tb := ph_tb_of 385 (by decide +kernel) rfl
theorem ph_mv_yX1_habitOf : Cond.selects RX1 yX1_habitOf yX1_habitOf ∈ ph_tb := ph_tb_of 386 (by decide +kernel) rfl
theorem ph_mf_yX6_set : ph_MF yX6_set cX6_set 6 none 3 := ⟨ph_tb_of 391 (by decide +kernel) rfl, ph_tb_of 49 (by decide +kernel) rfl, by decide +kernel, by decide +kernel, by decide⟩
theorem ph_mi_yX6_set : Cond.instanceMethod yX6_set ∈ ph_tb := ph_tb_of 389 (by decide +kernel) rfl
theorem ph_mv_yX6_set : Cond.selects RX6 yX6_set yX6_set ∈ ph_tb := ph_tb_of 390 (by decide +kernel) rfl
theorem ph_mf_yX7_size : ph_MF yX7_size cX7_size 1 (some .int) 0 := ⟨ph_tb_of 395 (by decide +kernel) rfl, ph_tb_of 48 (by decide +kernel) rfl, by decide +kernel, by decide +kernel, by decide⟩
theorem ph_mi_yX7_size : Cond.instanceMethod yX7_size ∈ ph_tb := ph_tb_of 393 (by decide +kernel) rfl
theorem ph_mv_yX7_size : Cond.selects RX7 yX7_size yX7_size ∈ ph_tb := ph_tb_of 394 (by decide +kernel) rfl
theorem ph_mf_yX7_stepAt : ph_MF yX7_stepAt cX7_stepAt 2 (some .int) 1 := ⟨ph_tb_of 400 (by decide +kernel) rfl, ph_tb_of 48 (by decide +kernel) rfl, by decide +kernel, by decide +kernel, by decide⟩
theorem ph_mi_yX7_stepAt : Cond.instanceMethod yX7_stepAt ∈ ph_tb := ph_tb_of 398 (by decide +kernel) rfl
theorem ph_mv_yX7_stepAt : Cond.selects RX7 yX7_stepAt yX7_stepAt ∈ ph_tb := ph_tb_of 399 (by decide +kernel) rfl
theorem ph_mf_yX7_valueAt : ph_MF yX7_valueAt cX7_valueAt 2 (some .int) 1 := ⟨ph_tb_of 406 (by decide +kernel) rfl, ph_tb_of 48 (by decide +kernel) rfl, by decide +kernel, by decide +kernel, by decide⟩
theorem ph_mi_yX7_valueAt : Cond.instanceMethod yX7_valueAt ∈ ph_tb := ph_tb_of 404 (by decide +kernel) rfl
theorem ph_mv_yX7_valueAt : Cond.selects RX7 yX7_valueAt yX7_valueAt ∈ ph_tb := ph_tb_of 405 (by decide +kernel) rfl
theorem ph_mf_yX6_perform : ph_MF yX6_perform cX6_perform 4 none 0 := ⟨ph_tb_of 410 (by decide +kernel) rfl, ph_tb_of 49 (by decide +kernel) rfl, by decide +kernel, by decide +kernel, by decide⟩
theorem ph_mi_yX6_perform : Cond.instanceMethod yX6_perform ∈ ph_tb := ph_tb_of 408 (by decide +kernel) rfl
theorem ph_mv_yX6_perform : Cond.selects RX6 yX6_perform yX6_perform ∈ ph_tb := ph_tb_of 409 (by decide +kernel) rfl
theorem ph_mf_yX6_nearest : ph_MF yX6_nearest cX6_nearest 8 (some .int) 2 := ⟨ph_tb_of 414 (by decide +kernel) rfl, ph_tb_of 49 (by decide +kernel) rfl, by decide +kernel, by decide +kernel, by decide⟩
theorem ph_mi_yX6_nearest : Cond.instanceMethod yX6_nearest ∈ ph_tb := ph_tb_of 413 (by decide +kernel) rfl
theorem ph_mv_yX6_nearest : Cond.selects RX6 yX6_nearest yX6_nearest ∈ ph_tb := ph_tb_of 3 (by decide +kernel) rfl
theorem ph_mf_yX6_whereIn : ph_MF yX6_whereIn cX6_whereIn 2 (some .int) 1 := ⟨ph_tb_of 418 (by decide +kernel) rfl, ph_tb_of 49 (by decide +kernel) rfl, by decide +kernel, by decide +kernel, by decide⟩
theorem ph_mi_yX6_whereIn : Cond.instanceMethod yX6_whereIn ∈ ph_tb := ph_tb_of 416 (by decide +kernel) rfl
theorem ph_mv_yX6_whereIn : Cond.selects RX6 yX6_whereIn yX6_whereIn ∈ ph_tb := ph_tb_of 417 (by decide +kernel) rfl
theorem ph_mf_yX1_placeOf : ph_MF yX1_placeOf cX1_placeOf 2 (some .int) 1 := ⟨ph_tb_of 422 (by decide +kernel) rfl, ph_tb_of 51 (by decide +kernel) rfl, by decide +kernel, by decide +kernel, by decide⟩
theorem ph_mi_yX1_placeOf : Cond.instanceMethod yX1_placeOf ∈ ph_tb := ph_tb_of 420 (by decide +kernel) rfl
theorem ph_mv_yX1_placeOf : Cond.selects RX1 yX1_placeOf yX1_placeOf ∈ ph_tb := ph_tb_of 421 (by decide +kernel) rfl
theorem ph_mm_abs : Cond.code Lib.Math.abs.name Lib.Math.abs.code 1 (some .int) ∈ ph_tb ∧ Cond.static Lib.Math.abs.name ∈ ph_tb ∧ Cond.initialized "java/lang/Math" ∈ ph_tb := ⟨ph_tb_of 425 (by decide +kernel) rfl, ph_tb_of 424 (by decide +kernel) rfl, ph_tb_of 47 (by decide +kernel) rfl⟩
theorem ph_mf_yX6_hears : ph_MF yX6_hears cX6_hears 5 (some .boolean) 3 := ⟨ph_tb_of 429 (by decide +kernel) rfl, ph_tb_of 49 (by decide +kernel) rfl, by decide +kernel, by decide +kernel, by decide⟩
theorem ph_mi_yX6_hears : Cond.instanceMethod yX6_hears ∈ ph_tb := ph_tb_of 427 (by decide +kernel) rfl
theorem ph_mv_yX6_hears : Cond.selects RX6 yX6_hears yX6_hears ∈ ph_tb := ph_tb_of 428 (by decide +kernel) rfl
theorem ph_mf_yX6_follow : ph_MF yX6_follow cX6_follow 5 (some .int) 4 := ⟨ph_tb_of 433 (by decide +kernel) rfl, ph_tb_of 49 (by decide +kernel) rfl, by decide +kernel, by decide +kernel, by decide⟩
theorem ph_mi_yX6_follow : Cond.instanceMethod yX6_follow ∈ ph_tb := ph_tb_of 431 (by decide +kernel) rfl
theorem ph_mv_yX6_follow : Cond.selects RX6 yX6_follow yX6_follow ∈ ph_tb := ph_tb_of 432 (by decide +kernel) rfl
theorem ph_mf_yX6_whispered : ph_MF yX6_whispered cX6_whispered 5 (some .int) 3 := ⟨ph_tb_of 439 (by decide +kernel) rfl, ph_tb_of 49 (by decide +kernel) rfl, by decide +kernel, by decide +kernel, by decide⟩
theorem ph_mi_yX6_whispered : Cond.instanceMethod yX6_whispered ∈ ph_tb := ph_tb_of 437 (by decide +kernel) rfl
theorem ph_mv_yX6_whispered : Cond.selects RX6 yX6_whispered yX6_whispered ∈ ph_tb := ph_tb_of 438 (by decide +kernel) rfl
theorem ph_mf_yX8_line : ph_MF yX8_line cX8_line 2 (some .int) 1 := ⟨ph_tb_of 443 (by decide +kernel) rfl, ph_tb_of 45 (by decide +kernel) rfl, by decide +kernel, by decide +kernel, by decide⟩
theorem ph_mi_yX8_line : Cond.instanceMethod yX8_line ∈ ph_tb := ph_tb_of 441 (by decide +kernel) rfl
theorem ph_mv_yX8_line : Cond.selects RX8 yX8_line yX8_line ∈ ph_tb := ph_tb_of 442 (by decide +kernel) rfl
theorem ph_mf_yX8_hole : ph_MF yX8_hole cX8_hole 4 (some .int) 2 := ⟨ph_tb_of 448 (by decide +kernel) rfl, ph_tb_of 45 (by decide +kernel) rfl, by decide +kernel, by decide +kernel, by decide⟩
theorem ph_mi_yX8_hole : Cond.instanceMethod yX8_hole ∈ ph_tb := ph_tb_of 446 (by decide +kernel) rfl
theorem ph_mv_yX8_hole : Cond.selects RX8 yX8_hole yX8_hole ∈ ph_tb := ph_tb_of 447 (by decide +kernel) rfl
theorem ph_mf_yX1_hearsOf : ph_MF yX1_hearsOf cX1_hearsOf 2 (some .int) 1 := ⟨ph_tb_of 453 (by decide +kernel) rfl, ph_tb_of 51 (by decide +kernel) rfl, by decide +kernel, by decide +kernel, by decide⟩
theorem ph_mi_yX1_hearsOf : Cond.instanceMethod yX1_hearsOf ∈ ph_tb := ph_tb_of 451 (by decide +kernel) rfl
theorem ph_mv_yX1_hearsOf : Cond.selects RX1 yX1_hearsOf yX1_hearsOf ∈ ph_tb := ph_tb_of 452 (by decide +kernel) rfl
theorem ph_mf_yX8_printed : ph_MF yX8_printed cX8_printed 4 (some .int) 2 := ⟨ph_tb_of 459 (by decide +kernel) rfl, ph_tb_of 45 (by decide +kernel) rfl, by decide +kernel, by decide +kernel, by decide⟩
theorem ph_mi_yX8_printed : Cond.instanceMethod yX8_printed ∈ ph_tb := ph_tb_of 457 (by decide +kernel) rfl
theorem ph_mv_yX8_printed : Cond.selects RX8 yX8_printed yX8_printed ∈ ph_tb := ph_tb_of 458 (by decide +kernel) rfl
theorem ph_mf_yX8_move : ph_MF yX8_move cX8_move 3 (some .int) 2 := ⟨ph_tb_of 465 (by decide +kernel) rfl, ph_tb_of 45 (by decide +kernel) rfl, by decide +kernel, by decide +kernel, by decide⟩
theorem ph_mi_yX8_move : Cond.instanceMethod yX8_move ∈ ph_tb := ph_tb_of 463 (by decide +kernel) rfl
theorem ph_mv_yX8_move : Cond.selects RX8 yX8_move yX8_move ∈ ph_tb := ph_tb_of 464 (by decide +kernel) rfl
theorem ph_mf_yX8_tell : ph_MF yX8_tell cX8_tell 3 (some .int) 3 := ⟨ph_tb_of 468 (by decide +kernel) rfl, ph_tb_of 45 (by decide +kernel) rfl, by decide +kernel, by decide +kernel, by decide⟩
theorem ph_ms_yX8_tell : Cond.static yX8_tell ∈ ph_tb := ph_tb_of 467 (by decide +kernel) rfl
theorem ph_mf_yX7_isFull : ph_MF yX7_isFull cX7_isFull 1 (some .boolean) 0 := ⟨ph_tb_of 472 (by decide +kernel) rfl, ph_tb_of 48 (by decide +kernel) rfl, by decide +kernel, by decide +kernel, by decide⟩
theorem ph_mi_yX7_isFull : Cond.instanceMethod yX7_isFull ∈ ph_tb := ph_tb_of 470 (by decide +kernel) rfl
theorem ph_mv_yX7_isFull : Cond.selects RX7 yX7_isFull yX7_isFull ∈ ph_tb := ph_tb_of 471 (by decide +kernel) rfl
theorem ph_mf_yX7_add : ph_MF yX7_add cX7_add 3 none 2 := ⟨ph_tb_of 477 (by decide +kernel) rfl, ph_tb_of 48 (by decide +kernel) rfl, by decide +kernel, by decide +kernel, by decide⟩
theorem ph_mi_yX7_add : Cond.instanceMethod yX7_add ∈ ph_tb := ph_tb_of 475 (by decide +kernel) rfl
theorem ph_mv_yX7_add : Cond.selects RX7 yX7_add yX7_add ∈ ph_tb := ph_tb_of 476 (by decide +kernel) rfl
theorem ph_mf_yX8_cough : ph_MF yX8_cough cX8_cough 3 (some .int) 2 := ⟨ph_tb_of 483 (by decide +kernel) rfl, ph_tb_of 45 (by decide +kernel) rfl, by decide +kernel, by decide +kernel, by decide⟩
theorem ph_mi_yX8_cough : Cond.instanceMethod yX8_cough ∈ ph_tb := ph_tb_of 481 (by decide +kernel) rfl
theorem ph_mv_yX8_cough : Cond.selects RX8 yX8_cough yX8_cough ∈ ph_tb := ph_tb_of 482 (by decide +kernel) rfl
theorem ph_mf_yX8_dark : ph_MF yX8_dark cX8_dark 2 (some .int) 1 := ⟨ph_tb_of 487 (by decide +kernel) rfl, ph_tb_of 45 (by decide +kernel) rfl, by decide +kernel, by decide +kernel, by decide⟩
theorem ph_mi_yX8_dark : Cond.instanceMethod yX8_dark ∈ ph_tb := ph_tb_of 485 (by decide +kernel) rfl
theorem ph_mv_yX8_dark : Cond.selects RX8 yX8_dark yX8_dark ∈ ph_tb := ph_tb_of 486 (by decide +kernel) rfl
theorem ph_mf_yX8_back : ph_MF yX8_back cX8_back 3 (some .int) 1 := ⟨ph_tb_of 491 (by decide +kernel) rfl, ph_tb_of 45 (by decide +kernel) rfl, by decide +kernel, by decide +kernel, by decide⟩
theorem ph_mi_yX8_back : Cond.instanceMethod yX8_back ∈ ph_tb := ph_tb_of 489 (by decide +kernel) rfl
theorem ph_mv_yX8_back : Cond.selects RX8 yX8_back yX8_back ∈ ph_tb := ph_tb_of 490 (by decide +kernel) rfl
theorem ph_mf_yX7_cut : ph_MF yX7_cut cX7_cut 1 none 0 := ⟨ph_tb_of 495 (by decide +kernel) rfl, ph_tb_of 48 (by decide +kernel) rfl, by decide +kernel, by decide +kernel, by decide⟩
theorem ph_mi_yX7_cut : Cond.instanceMethod yX7_cut ∈ ph_tb := ph_tb_of 493 (by decide +kernel) rfl
theorem ph_mv_yX7_cut : Cond.selects RX7 yX7_cut yX7_cut ∈ ph_tb := ph_tb_of 494 (by decide +kernel) rfl
theorem ph_mf_yX8_read : ph_MF yX8_read cX8_read 4 (some .int) 1 := ⟨ph_tb_of 500 (by decide +kernel) rfl, ph_tb_of 45 (by decide +kernel) rfl, by decide +kernel, by decide +kernel, by decide⟩
theorem ph_mi_yX8_read : Cond.instanceMethod yX8_read ∈ ph_tb := ph_tb_of 498 (by decide +kernel) rfl
theorem ph_mv_yX8_read : Cond.selects RX8 yX8_read yX8_read ∈ ph_tb := ph_tb_of 499 (by decide +kernel) rfl
theorem ph_mf_yX5_isLost : ph_MF yX5_isLost cX5_isLost 2 (some .boolean) 1 := ⟨ph_tb_of 504 (by decide +kernel) rfl, ph_tb_of 54 (by decide +kernel) rfl, by decide +kernel, by decide +kernel, by decide⟩
theorem ph_mi_yX5_isLost : Cond.instanceMethod yX5_isLost ∈ ph_tb := ph_tb_of 502 (by decide +kernel) rfl
theorem ph_mv_yX5_isLost : Cond.selects RX5 yX5_isLost yX5_isLost ∈ ph_tb := ph_tb_of 503 (by decide +kernel) rfl
theorem ph_mf_yX5_formOf : ph_MF yX5_formOf cX5_formOf 2 (some .int) 1 := ⟨ph_tb_of 508 (by decide +kernel) rfl, ph_tb_of 54 (by decide +kernel) rfl, by decide +kernel, by decide +kernel, by decide⟩
theorem ph_mi_yX5_formOf : Cond.instanceMethod yX5_formOf ∈ ph_tb := ph_tb_of 506 (by decide +kernel) rfl
theorem ph_mv_yX5_formOf : Cond.selects RX5 yX5_formOf yX5_formOf ∈ ph_tb := ph_tb_of 507 (by decide +kernel) rfl
theorem ph_mf_yX8_found : ph_MF yX8_found cX8_found 2 (some .int) 1 := ⟨ph_tb_of 513 (by decide +kernel) rfl, ph_tb_of 45 (by decide +kernel) rfl, by decide +kernel, by decide +kernel, by decide⟩
theorem ph_mi_yX8_found : Cond.instanceMethod yX8_found ∈ ph_tb := ph_tb_of 512 (by decide +kernel) rfl
theorem ph_mv_yX8_found : Cond.selects RX8 yX8_found yX8_found ∈ ph_tb := ph_tb_of 4 (by decide +kernel) rfl
theorem ph_mf_yX5_sizeOf : ph_MF yX5_sizeOf cX5_sizeOf 2 (some .int) 1 := ⟨ph_tb_of 517 (by decide +kernel) rfl, ph_tb_of 54 (by decide +kernel) rfl, by decide +kernel, by decide +kernel, by decide⟩
theorem ph_mi_yX5_sizeOf : Cond.instanceMethod yX5_sizeOf ∈ ph_tb := ph_tb_of 515 (by decide +kernel) rfl
theorem ph_mv_yX5_sizeOf : Cond.selects RX5 yX5_sizeOf yX5_sizeOf ∈ ph_tb := ph_tb_of 516 (by decide +kernel) rfl
theorem ph_mf_yX5_item : ph_MF yX5_item cX5_item 3 (some .int) 2 := ⟨ph_tb_of 521 (by decide +kernel) rfl, ph_tb_of 54 (by decide +kernel) rfl, by decide +kernel, by decide +kernel, by decide⟩
theorem ph_mi_yX5_item : Cond.instanceMethod yX5_item ∈ ph_tb := ph_tb_of 519 (by decide +kernel) rfl
theorem ph_mv_yX5_item : Cond.selects RX5 yX5_item yX5_item ∈ ph_tb := ph_tb_of 520 (by decide +kernel) rfl
theorem ph_mf_yX8_step : ph_MF yX8_step cX8_step 4 (some .int) 2 := ⟨ph_tb_of 526 (by decide +kernel) rfl, ph_tb_of 45 (by decide +kernel) rfl, by decide +kernel, by decide +kernel, by decide⟩
theorem ph_mi_yX8_step : Cond.instanceMethod yX8_step ∈ ph_tb := ph_tb_of 524 (by decide +kernel) rfl
theorem ph_mv_yX8_step : Cond.selects RX8 yX8_step yX8_step ∈ ph_tb := ph_tb_of 525 (by decide +kernel) rfl
theorem ph_mf_yX6_playedIn : ph_MF yX6_playedIn cX6_playedIn 2 (some .int) 1 := ⟨ph_tb_of 530 (by decide +kernel) rfl, ph_tb_of 49 (by decide +kernel) rfl, by decide +kernel, by decide +kernel, by decide⟩
theorem ph_mi_yX6_playedIn : Cond.instanceMethod yX6_playedIn ∈ ph_tb := ph_tb_of 528 (by decide +kernel) rfl
theorem ph_mv_yX6_playedIn : Cond.selects RX6 yX6_playedIn yX6_playedIn ∈ ph_tb := ph_tb_of 529 (by decide +kernel) rfl
theorem ph_mf_yX6_byIn : ph_MF yX6_byIn cX6_byIn 2 (some .int) 1 := ⟨ph_tb_of 534 (by decide +kernel) rfl, ph_tb_of 49 (by decide +kernel) rfl, by decide +kernel, by decide +kernel, by decide⟩
theorem ph_mi_yX6_byIn : Cond.instanceMethod yX6_byIn ∈ ph_tb := ph_tb_of 532 (by decide +kernel) rfl
theorem ph_mv_yX6_byIn : Cond.selects RX6 yX6_byIn yX6_byIn ∈ ph_tb := ph_tb_of 533 (by decide +kernel) rfl
theorem ph_mf_yX3_printedIn : ph_MF yX3_printedIn cX3_printedIn 2 (some .int) 1 := ⟨ph_tb_of 539 (by decide +kernel) rfl, ph_tb_of 50 (by decide +kernel) rfl, by decide +kernel, by decide +kernel, by decide⟩
theorem ph_mi_yX3_printedIn : Cond.instanceMethod yX3_printedIn ∈ ph_tb := ph_tb_of 537 (by decide +kernel) rfl
theorem ph_mv_yX3_printedIn : Cond.selects RX3 yX3_printedIn yX3_printedIn ∈ ph_tb := ph_tb_of 538 (by decide +kernel) rfl
theorem ph_mf_yX8_whispers : ph_MF yX8_whispers cX8_whispers 4 (some .int) 2 := ⟨ph_tb_of 543 (by decide +kernel) rfl, ph_tb_of 45 (by decide +kernel) rfl, by decide +kernel, by decide +kernel, by decide⟩
theorem ph_mi_yX8_whispers : Cond.instanceMethod yX8_whispers ∈ ph_tb := ph_tb_of 541 (by decide +kernel) rfl
theorem ph_mv_yX8_whispers : Cond.selects RX8 yX8_whispers yX8_whispers ∈ ph_tb := ph_tb_of 542 (by decide +kernel) rfl
theorem ph_mf_yX6_coughsIn : ph_MF yX6_coughsIn cX6_coughsIn 2 (some .int) 1 := ⟨ph_tb_of 548 (by decide +kernel) rfl, ph_tb_of 49 (by decide +kernel) rfl, by decide +kernel, by decide +kernel, by decide⟩
theorem ph_mi_yX6_coughsIn : Cond.instanceMethod yX6_coughsIn ∈ ph_tb := ph_tb_of 546 (by decide +kernel) rfl
theorem ph_mv_yX6_coughsIn : Cond.selects RX6 yX6_coughsIn yX6_coughsIn ∈ ph_tb := ph_tb_of 547 (by decide +kernel) rfl
theorem ph_mf_yX8_drift : ph_MF yX8_drift cX8_drift 6 (some .int) 1 := ⟨ph_tb_of 553 (by decide +kernel) rfl, ph_tb_of 45 (by decide +kernel) rfl, by decide +kernel, by decide +kernel, by decide⟩
theorem ph_mi_yX8_drift : Cond.instanceMethod yX8_drift ∈ ph_tb := ph_tb_of 551 (by decide +kernel) rfl
theorem ph_mv_yX8_drift : Cond.selects RX8 yX8_drift yX8_drift ∈ ph_tb := ph_tb_of 552 (by decide +kernel) rfl
theorem ph_mf_yX8_round : ph_MF yX8_round cX8_round 3 (some .int) 0 := ⟨ph_tb_of 557 (by decide +kernel) rfl, ph_tb_of 45 (by decide +kernel) rfl, by decide +kernel, by decide +kernel, by decide⟩
theorem ph_mi_yX8_round : Cond.instanceMethod yX8_round ∈ ph_tb := ph_tb_of 555 (by decide +kernel) rfl
theorem ph_mv_yX8_round : Cond.selects RX8 yX8_round yX8_round ∈ ph_tb := ph_tb_of 556 (by decide +kernel) rfl
theorem ph_mf_yX8_goesRound : ph_MF yX8_goesRound cX8_goesRound 3 (some .boolean) 2 := ⟨ph_tb_of 560 (by decide +kernel) rfl, ph_tb_of 45 (by decide +kernel) rfl, by decide +kernel, by decide +kernel, by decide⟩
theorem ph_ms_yX8_goesRound : Cond.static yX8_goesRound ∈ ph_tb := ph_tb_of 559 (by decide +kernel) rfl
theorem ph_mf_yX8_often : ph_MF yX8_often cX8_often 7 (some .int) 2 := ⟨ph_tb_of 564 (by decide +kernel) rfl, ph_tb_of 45 (by decide +kernel) rfl, by decide +kernel, by decide +kernel, by decide⟩
theorem ph_mi_yX8_often : Cond.instanceMethod yX8_often ∈ ph_tb := ph_tb_of 562 (by decide +kernel) rfl
theorem ph_mv_yX8_often : Cond.selects RX8 yX8_often yX8_often ∈ ph_tb := ph_tb_of 563 (by decide +kernel) rfl
theorem ph_mf_yX8_may : ph_MF yX8_may cX8_may 4 (some .int) 2 := ⟨ph_tb_of 568 (by decide +kernel) rfl, ph_tb_of 45 (by decide +kernel) rfl, by decide +kernel, by decide +kernel, by decide⟩
theorem ph_mi_yX8_may : Cond.instanceMethod yX8_may ∈ ph_tb := ph_tb_of 566 (by decide +kernel) rfl
theorem ph_mv_yX8_may : Cond.selects RX8 yX8_may yX8_may ∈ ph_tb := ph_tb_of 567 (by decide +kernel) rfl
theorem ph_mf_yX6_rehearse : ph_MF yX6_rehearse cX6_rehearse 10 none 3 := ⟨ph_tb_of 572 (by decide +kernel) rfl, ph_tb_of 49 (by decide +kernel) rfl, by decide +kernel, by decide +kernel, by decide⟩
theorem ph_mi_yX6_rehearse : Cond.instanceMethod yX6_rehearse ∈ ph_tb := ph_tb_of 570 (by decide +kernel) rfl
theorem ph_mv_yX6_rehearse : Cond.selects RX6 yX6_rehearse yX6_rehearse ∈ ph_tb := ph_tb_of 571 (by decide +kernel) rfl
theorem ph_mf_yX8_bitOf : ph_MF yX8_bitOf cX8_bitOf 1 (some .int) 1 := ⟨ph_tb_of 577 (by decide +kernel) rfl, ph_tb_of 45 (by decide +kernel) rfl, by decide +kernel, by decide +kernel, by decide⟩
theorem ph_ms_yX8_bitOf : Cond.static yX8_bitOf ∈ ph_tb := ph_tb_of 576 (by decide +kernel) rfl
theorem ph_mf_yX8_prompt : ph_MF yX8_prompt cX8_prompt 11 (some .int) 4 := ⟨ph_tb_of 581 (by decide +kernel) rfl, ph_tb_of 45 (by decide +kernel) rfl, by decide +kernel, by decide +kernel, by decide⟩
theorem ph_mi_yX8_prompt : Cond.instanceMethod yX8_prompt ∈ ph_tb := ph_tb_of 579 (by decide +kernel) rfl
theorem ph_mv_yX8_prompt : Cond.selects RX8 yX8_prompt yX8_prompt ∈ ph_tb := ph_tb_of 580 (by decide +kernel) rfl
theorem ph_mf_yX6_leadingInto : ph_MF yX6_leadingInto cX6_leadingInto 7 (some .int) 2 := ⟨ph_tb_of 585 (by decide +kernel) rfl, ph_tb_of 49 (by decide +kernel) rfl, by decide +kernel, by decide +kernel, by decide⟩
theorem ph_mi_yX6_leadingInto : Cond.instanceMethod yX6_leadingInto ∈ ph_tb := ph_tb_of 583 (by decide +kernel) rfl
theorem ph_mv_yX6_leadingInto : Cond.selects RX6 yX6_leadingInto yX6_leadingInto ∈ ph_tb := ph_tb_of 584 (by decide +kernel) rfl
theorem ph_mf_yX8_lowestBit : ph_MF yX8_lowestBit cX8_lowestBit 2 (some .int) 1 := ⟨ph_tb_of 589 (by decide +kernel) rfl, ph_tb_of 45 (by decide +kernel) rfl, by decide +kernel, by decide +kernel, by decide⟩
theorem ph_ms_yX8_lowestBit : Cond.static yX8_lowestBit ∈ ph_tb := ph_tb_of 588 (by decide +kernel) rfl
theorem ph_mf_yJ6_bitCount_0f7a4 : ph_MF yJ6_bitCount_0f7a4 cJ6_bitCount_0f7a4 1 (some .int) 1 := ⟨ph_tb_of 593 (by decide +kernel) rfl, ph_tb_of 56 (by decide +kernel) rfl, by decide +kernel, by decide +kernel, by decide⟩
theorem ph_ms_yJ6_bitCount_0f7a4 : Cond.static yJ6_bitCount_0f7a4 ∈ ph_tb := ph_tb_of 592 (by decide +kernel) rfl
theorem ph_mf_yX8_seen : ph_MF yX8_seen cX8_seen 3 (some .int) 2 := ⟨ph_tb_of 600 (by decide +kernel) rfl, ph_tb_of 45 (by decide +kernel) rfl, by decide +kernel, by decide +kernel, by decide⟩
theorem ph_mi_yX8_seen : Cond.instanceMethod yX8_seen ∈ ph_tb := ph_tb_of 598 (by decide +kernel) rfl
theorem ph_mv_yX8_seen : Cond.selects RX8 yX8_seen yX8_seen ∈ ph_tb := ph_tb_of 599 (by decide +kernel) rfl
theorem ph_mf_yX8_forget : ph_MF yX8_forget cX8_forget 2 (some .int) 0 := ⟨ph_tb_of 604 (by decide +kernel) rfl, ph_tb_of 45 (by decide +kernel) rfl, by decide +kernel, by decide +kernel, by decide⟩
theorem ph_mi_yX8_forget : Cond.instanceMethod yX8_forget ∈ ph_tb := ph_tb_of 602 (by decide +kernel) rfl
theorem ph_mv_yX8_forget : Cond.selects RX8 yX8_forget yX8_forget ∈ ph_tb := ph_tb_of 603 (by decide +kernel) rfl
theorem ph_mf_yX7_clear : ph_MF yX7_clear cX7_clear 1 none 0 := ⟨ph_tb_of 608 (by decide +kernel) rfl, ph_tb_of 48 (by decide +kernel) rfl, by decide +kernel, by decide +kernel, by decide⟩
theorem ph_mi_yX7_clear : Cond.instanceMethod yX7_clear ∈ ph_tb := ph_tb_of 606 (by decide +kernel) rfl
theorem ph_mv_yX7_clear : Cond.selects RX7 yX7_clear yX7_clear ∈ ph_tb := ph_tb_of 607 (by decide +kernel) rfl
theorem ph_mf_yX8_filed : ph_MF yX8_filed cX8_filed 4 (some .int) 0 := ⟨ph_tb_of 613 (by decide +kernel) rfl, ph_tb_of 45 (by decide +kernel) rfl, by decide +kernel, by decide +kernel, by decide⟩
theorem ph_mi_yX8_filed : Cond.instanceMethod yX8_filed ∈ ph_tb := ph_tb_of 611 (by decide +kernel) rfl
theorem ph_mv_yX8_filed : Cond.selects RX8 yX8_filed yX8_filed ∈ ph_tb := ph_tb_of 612 (by decide +kernel) rfl
theorem ph_mf_yX6_rehearseFiled : ph_MF yX6_rehearseFiled cX6_rehearseFiled 5 none 2 := ⟨ph_tb_of 617 (by decide +kernel) rfl, ph_tb_of 49 (by decide +kernel) rfl, by decide +kernel, by decide +kernel, by decide⟩
theorem ph_mi_yX6_rehearseFiled : Cond.instanceMethod yX6_rehearseFiled ∈ ph_tb := ph_tb_of 615 (by decide +kernel) rfl
theorem ph_mv_yX6_rehearseFiled : Cond.selects RX6 yX6_rehearseFiled yX6_rehearseFiled ∈ ph_tb := ph_tb_of 616 (by decide +kernel) rfl
theorem ph_mf_yX8_allSeenIn : ph_MF yX8_allSeenIn cX8_allSeenIn 4 (some .boolean) 1 := ⟨ph_tb_of 621 (by decide +kernel) rfl, ph_tb_of 45 (by decide +kernel) rfl, by decide +kernel, by decide +kernel, by decide⟩
theorem ph_mi_yX8_allSeenIn : Cond.instanceMethod yX8_allSeenIn ∈ ph_tb := ph_tb_of 620 (by decide +kernel) rfl
theorem ph_mv_yX8_allSeenIn : Cond.selects RX8 yX8_allSeenIn yX8_allSeenIn ∈ ph_tb := ph_tb_of 5 (by decide +kernel) rfl
theorem ph_mf_yX8_coughed : ph_MF yX8_coughed cX8_coughed 5 (some .int) 1 := ⟨ph_tb_of 627 (by decide +kernel) rfl, ph_tb_of 45 (by decide +kernel) rfl, by decide +kernel, by decide +kernel, by decide⟩
theorem ph_mi_yX8_coughed : Cond.instanceMethod yX8_coughed ∈ ph_tb := ph_tb_of 625 (by decide +kernel) rfl
theorem ph_mv_yX8_coughed : Cond.selects RX8 yX8_coughed yX8_coughed ∈ ph_tb := ph_tb_of 626 (by decide +kernel) rfl
theorem ph_mf_yX8_ask : ph_MF yX8_ask cX8_ask 5 (some .int) 1 := ⟨ph_tb_of 631 (by decide +kernel) rfl, ph_tb_of 45 (by decide +kernel) rfl, by decide +kernel, by decide +kernel, by decide⟩
theorem ph_mi_yX8_ask : Cond.instanceMethod yX8_ask ∈ ph_tb := ph_tb_of 629 (by decide +kernel) rfl
theorem ph_mv_yX8_ask : Cond.selects RX8 yX8_ask yX8_ask ∈ ph_tb := ph_tb_of 630 (by decide +kernel) rfl
theorem ph_mf_yX8_tallyRehearsal : ph_MF yX8_tallyRehearsal cX8_tallyRehearsal 3 none 0 := ⟨ph_tb_of 635 (by decide +kernel) rfl, ph_tb_of 45 (by decide +kernel) rfl, by decide +kernel, by decide +kernel, by decide⟩
theorem ph_mi_yX8_tallyRehearsal : Cond.instanceMethod yX8_tallyRehearsal ∈ ph_tb := ph_tb_of 634 (by decide +kernel) rfl
theorem ph_mv_yX8_tallyRehearsal : Cond.selects RX8 yX8_tallyRehearsal yX8_tallyRehearsal ∈ ph_tb := ph_tb_of 6 (by decide +kernel) rfl
theorem ph_mf_yX8_greatestTally : ph_MF yX8_greatestTally cX8_greatestTally 4 (some .int) 1 := ⟨ph_tb_of 639 (by decide +kernel) rfl, ph_tb_of 45 (by decide +kernel) rfl, by decide +kernel, by decide +kernel, by decide⟩
theorem ph_mi_yX8_greatestTally : Cond.instanceMethod yX8_greatestTally ∈ ph_tb := ph_tb_of 638 (by decide +kernel) rfl
theorem ph_mv_yX8_greatestTally : Cond.selects RX8 yX8_greatestTally yX8_greatestTally ∈ ph_tb := ph_tb_of 7 (by decide +kernel) rfl
theorem ph_mf_yX8_slips : ph_MF yX8_slips cX8_slips 8 (some .long) 5 := ⟨ph_tb_of 643 (by decide +kernel) rfl, ph_tb_of 45 (by decide +kernel) rfl, by decide +kernel, by decide +kernel, by decide⟩
theorem ph_mi_yX8_slips : Cond.instanceMethod yX8_slips ∈ ph_tb := ph_tb_of 641 (by decide +kernel) rfl
theorem ph_mv_yX8_slips : Cond.selects RX8 yX8_slips yX8_slips ∈ ph_tb := ph_tb_of 642 (by decide +kernel) rfl
theorem ph_mf_yX0_begin : ph_MF yX0_begin cX0_begin 3 none 1 := ⟨ph_tb_of 648 (by decide +kernel) rfl, ph_tb_of 53 (by decide +kernel) rfl, by decide +kernel, by decide +kernel, by decide⟩
theorem ph_mi_yX0_begin : Cond.instanceMethod yX0_begin ∈ ph_tb := ph_tb_of 646 (by decide +kernel) rfl
theorem ph_mv_yX0_begin : Cond.selects RX0 yX0_begin yX0_begin ∈ ph_tb := ph_tb_of 647 (by decide +kernel) rfl
theorem ph_mf_yX0_goOn : ph_MF yX0_goOn cX0_goOn 9 none 4 := ⟨ph_tb_of 652 (by decide +kernel) rfl, ph_tb_of 53 (by decide +kernel) rfl, by decide +kernel, by decide +kernel, by decide⟩
theorem ph_mi_yX0_goOn : Cond.instanceMethod yX0_goOn ∈ ph_tb := ph_tb_of 650 (by decide +kernel) rfl
theorem ph_mv_yX0_goOn : Cond.selects RX0 yX0_goOn yX0_goOn ∈ ph_tb := ph_tb_of 651 (by decide +kernel) rfl
theorem ph_mf_yX0_put : ph_MF yX0_put cX0_put 4 none 2 := ⟨ph_tb_of 659 (by decide +kernel) rfl, ph_tb_of 53 (by decide +kernel) rfl, by decide +kernel, by decide +kernel, by decide⟩
theorem ph_mi_yX0_put : Cond.instanceMethod yX0_put ∈ ph_tb := ph_tb_of 658 (by decide +kernel) rfl
theorem ph_mv_yX0_put : Cond.selects RX0 yX0_put yX0_put ∈ ph_tb := ph_tb_of 8 (by decide +kernel) rfl
theorem ph_mf_yX0_reduce : ph_MF yX0_reduce cX0_reduce 3 none 1 := ⟨ph_tb_of 665 (by decide +kernel) rfl, ph_tb_of 53 (by decide +kernel) rfl, by decide +kernel, by decide +kernel, by decide⟩
theorem ph_mi_yX0_reduce : Cond.instanceMethod yX0_reduce ∈ ph_tb := ph_tb_of 663 (by decide +kernel) rfl
theorem ph_mv_yX0_reduce : Cond.selects RX0 yX0_reduce yX0_reduce ∈ ph_tb := ph_tb_of 664 (by decide +kernel) rfl
theorem ph_mf_yX8_evening : ph_MF yX8_evening cX8_evening 9 (some .int) 3 := ⟨ph_tb_of 670 (by decide +kernel) rfl, ph_tb_of 45 (by decide +kernel) rfl, by decide +kernel, by decide +kernel, by decide⟩
theorem ph_mi_yX8_evening : Cond.instanceMethod yX8_evening ∈ ph_tb := ph_tb_of 668 (by decide +kernel) rfl
theorem ph_mv_yX8_evening : Cond.selects RX8 yX8_evening yX8_evening ∈ ph_tb := ph_tb_of 669 (by decide +kernel) rfl
theorem ph_mf_yX2_begin : ph_MF yX2_begin cX2_begin 2 none 1 := ⟨ph_tb_of 674 (by decide +kernel) rfl, ph_tb_of 52 (by decide +kernel) rfl, by decide +kernel, by decide +kernel, by decide⟩
theorem ph_mi_yX2_begin : Cond.instanceMethod yX2_begin ∈ ph_tb := ph_tb_of 672 (by decide +kernel) rfl
theorem ph_mv_yX2_begin : Cond.selects RX2 yX2_begin yX2_begin ∈ ph_tb := ph_tb_of 673 (by decide +kernel) rfl
theorem ph_mf_yX2_drawCough : ph_MF yX2_drawCough cX2_drawCough 3 (some .int) 1 := ⟨ph_tb_of 678 (by decide +kernel) rfl, ph_tb_of 52 (by decide +kernel) rfl, by decide +kernel, by decide +kernel, by decide⟩
theorem ph_mi_yX2_drawCough : Cond.instanceMethod yX2_drawCough ∈ ph_tb := ph_tb_of 676 (by decide +kernel) rfl
theorem ph_mv_yX2_drawCough : Cond.selects RX2 yX2_drawCough yX2_drawCough ∈ ph_tb := ph_tb_of 677 (by decide +kernel) rfl
theorem ph_mf_yX2_draw : ph_MF yX2_draw cX2_draw 2 (some .int) 1 := ⟨ph_tb_of 682 (by decide +kernel) rfl, ph_tb_of 52 (by decide +kernel) rfl, by decide +kernel, by decide +kernel, by decide⟩
theorem ph_mi_yX2_draw : Cond.instanceMethod yX2_draw ∈ ph_tb := ph_tb_of 681 (by decide +kernel) rfl
theorem ph_mv_yX2_draw : Cond.selects RX2 yX2_draw yX2_draw ∈ ph_tb := ph_tb_of 9 (by decide +kernel) rfl
theorem ph_mf_yX8_sheet : ph_MF yX8_sheet cX8_sheet 4 (some .int) 3 := ⟨ph_tb_of 688 (by decide +kernel) rfl, ph_tb_of 45 (by decide +kernel) rfl, by decide +kernel, by decide +kernel, by decide⟩
theorem ph_mi_yX8_sheet : Cond.instanceMethod yX8_sheet ∈ ph_tb := ph_tb_of 686 (by decide +kernel) rfl
theorem ph_mv_yX8_sheet : Cond.selects RX8 yX8_sheet yX8_sheet ∈ ph_tb := ph_tb_of 687 (by decide +kernel) rfl
theorem ph_mf_yX5_renew : ph_MF yX5_renew cX5_renew 5 none 3 := ⟨ph_tb_of 692 (by decide +kernel) rfl, ph_tb_of 54 (by decide +kernel) rfl, by decide +kernel, by decide +kernel, by decide⟩
theorem ph_mi_yX5_renew : Cond.instanceMethod yX5_renew ∈ ph_tb := ph_tb_of 690 (by decide +kernel) rfl
theorem ph_mv_yX5_renew : Cond.selects RX5 yX5_renew yX5_renew ∈ ph_tb := ph_tb_of 691 (by decide +kernel) rfl
theorem ph_mf_yX8_lose : ph_MF yX8_lose cX8_lose 3 (some .int) 1 := ⟨ph_tb_of 696 (by decide +kernel) rfl, ph_tb_of 45 (by decide +kernel) rfl, by decide +kernel, by decide +kernel, by decide⟩
theorem ph_mi_yX8_lose : Cond.instanceMethod yX8_lose ∈ ph_tb := ph_tb_of 694 (by decide +kernel) rfl
theorem ph_mv_yX8_lose : Cond.selects RX8 yX8_lose yX8_lose ∈ ph_tb := ph_tb_of 695 (by decide +kernel) rfl
theorem ph_mf_yX5_tear : ph_MF yX5_tear cX5_tear 2 none 1 := ⟨ph_tb_of 700 (by decide +kernel) rfl, ph_tb_of 54 (by decide +kernel) rfl, by decide +kernel, by decide +kernel, by decide⟩
theorem ph_mi_yX5_tear : Cond.instanceMethod yX5_tear ∈ ph_tb := ph_tb_of 698 (by decide +kernel) rfl
theorem ph_mv_yX5_tear : Cond.selects RX5 yX5_tear yX5_tear ∈ ph_tb := ph_tb_of 699 (by decide +kernel) rfl
theorem ph_mf_yX8_lay : ph_MF yX8_lay cX8_lay 6 (some .int) 4 := ⟨ph_tb_of 704 (by decide +kernel) rfl, ph_tb_of 45 (by decide +kernel) rfl, by decide +kernel, by decide +kernel, by decide⟩
theorem ph_mi_yX8_lay : Cond.instanceMethod yX8_lay ∈ ph_tb := ph_tb_of 702 (by decide +kernel) rfl
theorem ph_mv_yX8_lay : Cond.selects RX8 yX8_lay yX8_lay ∈ ph_tb := ph_tb_of 703 (by decide +kernel) rfl
theorem ph_mf_yX5_wrongWith : ph_MF yX5_wrongWith cX5_wrongWith 4 (some .int) 3 := ⟨ph_tb_of 708 (by decide +kernel) rfl, ph_tb_of 54 (by decide +kernel) rfl, by decide +kernel, by decide +kernel, by decide⟩
theorem ph_mi_yX5_wrongWith : Cond.instanceMethod yX5_wrongWith ∈ ph_tb := ph_tb_of 706 (by decide +kernel) rfl
theorem ph_mv_yX5_wrongWith : Cond.selects RX5 yX5_wrongWith yX5_wrongWith ∈ ph_tb := ph_tb_of 707 (by decide +kernel) rfl
theorem ph_mf_yX5_put : ph_MF yX5_put cX5_put 4 none 3 := ⟨ph_tb_of 714 (by decide +kernel) rfl, ph_tb_of 54 (by decide +kernel) rfl, by decide +kernel, by decide +kernel, by decide⟩
theorem ph_mi_yX5_put : Cond.instanceMethod yX5_put ∈ ph_tb := ph_tb_of 712 (by decide +kernel) rfl
theorem ph_mv_yX5_put : Cond.selects RX5 yX5_put yX5_put ∈ ph_tb := ph_tb_of 713 (by decide +kernel) rfl
theorem ph_mf_yX8_get : ph_MF yX8_get cX8_get 5 (some .int) 3 := ⟨ph_tb_of 718 (by decide +kernel) rfl, ph_tb_of 45 (by decide +kernel) rfl, by decide +kernel, by decide +kernel, by decide⟩
theorem ph_mi_yX8_get : Cond.instanceMethod yX8_get ∈ ph_tb := ph_tb_of 716 (by decide +kernel) rfl
theorem ph_mv_yX8_get : Cond.selects RX8 yX8_get yX8_get ∈ ph_tb := ph_tb_of 717 (by decide +kernel) rfl
theorem ph_mf_yX8_copy : ph_MF yX8_copy cX8_copy 6 (some .int) 5 := ⟨ph_tb_of 723 (by decide +kernel) rfl, ph_tb_of 45 (by decide +kernel) rfl, by decide +kernel, by decide +kernel, by decide⟩
theorem ph_mi_yX8_copy : Cond.instanceMethod yX8_copy ∈ ph_tb := ph_tb_of 721 (by decide +kernel) rfl
theorem ph_mv_yX8_copy : Cond.selects RX8 yX8_copy yX8_copy ∈ ph_tb := ph_tb_of 722 (by decide +kernel) rfl
theorem ph_mf_yX5_hasRun : ph_MF yX5_hasRun cX5_hasRun 4 (some .boolean) 3 := ⟨ph_tb_of 728 (by decide +kernel) rfl, ph_tb_of 54 (by decide +kernel) rfl, by decide +kernel, by decide +kernel, by decide⟩
theorem ph_mi_yX5_hasRun : Cond.instanceMethod yX5_hasRun ∈ ph_tb := ph_tb_of 726 (by decide +kernel) rfl
theorem ph_mv_yX5_hasRun : Cond.selects RX5 yX5_hasRun yX5_hasRun ∈ ph_tb := ph_tb_of 727 (by decide +kernel) rfl
theorem ph_mf_yX5_carry : ph_MF yX5_carry cX5_carry 9 none 5 := ⟨ph_tb_of 732 (by decide +kernel) rfl, ph_tb_of 54 (by decide +kernel) rfl, by decide +kernel, by decide +kernel, by decide⟩
theorem ph_mi_yX5_carry : Cond.instanceMethod yX5_carry ∈ ph_tb := ph_tb_of 730 (by decide +kernel) rfl
theorem ph_mv_yX5_carry : Cond.selects RX5 yX5_carry yX5_carry ∈ ph_tb := ph_tb_of 731 (by decide +kernel) rfl
theorem ph_mf_yX8_write : ph_MF yX8_write cX8_write 6 (some .int) 2 := ⟨ph_tb_of 738 (by decide +kernel) rfl, ph_tb_of 45 (by decide +kernel) rfl, by decide +kernel, by decide +kernel, by decide⟩
theorem ph_mi_yX8_write : Cond.instanceMethod yX8_write ∈ ph_tb := ph_tb_of 736 (by decide +kernel) rfl
theorem ph_mv_yX8_write : Cond.selects RX8 yX8_write yX8_write ∈ ph_tb := ph_tb_of 737 (by decide +kernel) rfl
theorem ph_mf_yX8_count : ph_MF yX8_count cX8_count 2 (some .int) 1 := ⟨ph_tb_of 743 (by decide +kernel) rfl, ph_tb_of 45 (by decide +kernel) rfl, by decide +kernel, by decide +kernel, by decide⟩
theorem ph_mi_yX8_count : Cond.instanceMethod yX8_count ∈ ph_tb := ph_tb_of 741 (by decide +kernel) rfl
theorem ph_mv_yX8_count : Cond.selects RX8 yX8_count yX8_count ∈ ph_tb := ph_tb_of 742 (by decide +kernel) rfl
theorem ph_mf_yX8_digest : ph_MF yX8_digest cX8_digest 5 (some .long) 0 := ⟨ph_tb_of 747 (by decide +kernel) rfl, ph_tb_of 45 (by decide +kernel) rfl, by decide +kernel, by decide +kernel, by decide⟩
theorem ph_mi_yX8_digest : Cond.instanceMethod yX8_digest ∈ ph_tb := ph_tb_of 745 (by decide +kernel) rfl
theorem ph_mv_yX8_digest : Cond.selects RX8 yX8_digest yX8_digest ∈ ph_tb := ph_tb_of 746 (by decide +kernel) rfl
theorem ph_mf_yX8_mixLine : ph_MF yX8_mixLine cX8_mixLine 7 (some .long) 2 := ⟨ph_tb_of 755 (by decide +kernel) rfl, ph_tb_of 45 (by decide +kernel) rfl, by decide +kernel, by decide +kernel, by decide⟩
theorem ph_mi_yX8_mixLine : Cond.instanceMethod yX8_mixLine ∈ ph_tb := ph_tb_of 754 (by decide +kernel) rfl
theorem ph_mv_yX8_mixLine : Cond.selects RX8 yX8_mixLine yX8_mixLine ∈ ph_tb := ph_tb_of 10 (by decide +kernel) rfl
theorem ph_mf_yX8_mixHole : ph_MF yX8_mixHole cX8_mixHole 7 (some .long) 2 := ⟨ph_tb_of 763 (by decide +kernel) rfl, ph_tb_of 45 (by decide +kernel) rfl, by decide +kernel, by decide +kernel, by decide⟩
theorem ph_mi_yX8_mixHole : Cond.instanceMethod yX8_mixHole ∈ ph_tb := ph_tb_of 762 (by decide +kernel) rfl
theorem ph_mv_yX8_mixHole : Cond.selects RX8 yX8_mixHole yX8_mixHole ∈ ph_tb := ph_tb_of 11 (by decide +kernel) rfl
theorem ph_mf_yX8_mixStep : ph_MF yX8_mixStep cX8_mixStep 7 (some .long) 2 := ⟨ph_tb_of 773 (by decide +kernel) rfl, ph_tb_of 45 (by decide +kernel) rfl, by decide +kernel, by decide +kernel, by decide⟩
theorem ph_mi_yX8_mixStep : Cond.instanceMethod yX8_mixStep ∈ ph_tb := ph_tb_of 772 (by decide +kernel) rfl
theorem ph_mv_yX8_mixStep : Cond.selects RX8 yX8_mixStep yX8_mixStep ∈ ph_tb := ph_tb_of 12 (by decide +kernel) rfl
theorem ph_mf_yX9_sheet : ph_MF yX9_sheet cX9_sheet 5 (some .int) 3 := ⟨ph_tb_of 874 (by decide +kernel) rfl, ph_tb_of 55 (by decide +kernel) rfl, by decide +kernel, by decide +kernel, by decide⟩
theorem ph_mi_yX9_sheet : Cond.instanceMethod yX9_sheet ∈ ph_tb := ph_tb_of 872 (by decide +kernel) rfl
theorem ph_mv_yX9_sheet : Cond.selects RX9 yX9_sheet yX9_sheet ∈ ph_tb := ph_tb_of 873 (by decide +kernel) rfl
theorem ph_mf_yX9_isSheet : ph_MF yX9_isSheet cX9_isSheet 1 (some .boolean) 1 := ⟨ph_tb_of 877 (by decide +kernel) rfl, ph_tb_of 55 (by decide +kernel) rfl, by decide +kernel, by decide +kernel, by decide⟩
theorem ph_ms_yX9_isSheet : Cond.static yX9_isSheet ∈ ph_tb := ph_tb_of 876 (by decide +kernel) rfl
theorem ph_mf_yX9_in : ph_MF yX9_in cX9_in 6 (some .boolean) 3 := ⟨ph_tb_of 881 (by decide +kernel) rfl, ph_tb_of 55 (by decide +kernel) rfl, by decide +kernel, by decide +kernel, by decide⟩
theorem ph_ms_yX9_in : Cond.static yX9_in ∈ ph_tb := ph_tb_of 880 (by decide +kernel) rfl
theorem ph_mf_yX9_finds : ph_MF yX9_finds cX9_finds 2 (some .int) 1 := ⟨ph_tb_of 886 (by decide +kernel) rfl, ph_tb_of 55 (by decide +kernel) rfl, by decide +kernel, by decide +kernel, by decide⟩
theorem ph_mi_yX9_finds : Cond.instanceMethod yX9_finds ∈ ph_tb := ph_tb_of 885 (by decide +kernel) rfl
theorem ph_mv_yX9_finds : Cond.selects RX9 yX9_finds yX9_finds ∈ ph_tb := ph_tb_of 13 (by decide +kernel) rfl
theorem ph_mf_yX9_lose : ph_MF yX9_lose cX9_lose 2 (some .int) 1 := ⟨ph_tb_of 890 (by decide +kernel) rfl, ph_tb_of 55 (by decide +kernel) rfl, by decide +kernel, by decide +kernel, by decide⟩
theorem ph_mi_yX9_lose : Cond.instanceMethod yX9_lose ∈ ph_tb := ph_tb_of 888 (by decide +kernel) rfl
theorem ph_mv_yX9_lose : Cond.selects RX9 yX9_lose yX9_lose ∈ ph_tb := ph_tb_of 889 (by decide +kernel) rfl
theorem ph_mf_yX9_lay : ph_MF yX9_lay cX9_lay 6 (some .int) 4 := ⟨ph_tb_of 894 (by decide +kernel) rfl, ph_tb_of 55 (by decide +kernel) rfl, by decide +kernel, by decide +kernel, by decide⟩
theorem ph_mi_yX9_lay : Cond.instanceMethod yX9_lay ∈ ph_tb := ph_tb_of 892 (by decide +kernel) rfl
theorem ph_mv_yX9_lay : Cond.selects RX9 yX9_lay yX9_lay ∈ ph_tb := ph_tb_of 893 (by decide +kernel) rfl
theorem ph_mf_yX9_lacks : ph_MF yX9_lacks cX9_lacks 4 (some .int) 3 := ⟨ph_tb_of 898 (by decide +kernel) rfl, ph_tb_of 55 (by decide +kernel) rfl, by decide +kernel, by decide +kernel, by decide⟩
theorem ph_mi_yX9_lacks : Cond.instanceMethod yX9_lacks ∈ ph_tb := ph_tb_of 897 (by decide +kernel) rfl
theorem ph_mv_yX9_lacks : Cond.selects RX9 yX9_lacks yX9_lacks ∈ ph_tb := ph_tb_of 14 (by decide +kernel) rfl
theorem ph_mf_yX9_cut : ph_MF yX9_cut cX9_cut 2 (some .int) 2 := ⟨ph_tb_of 901 (by decide +kernel) rfl, ph_tb_of 55 (by decide +kernel) rfl, by decide +kernel, by decide +kernel, by decide⟩
theorem ph_ms_yX9_cut : Cond.static yX9_cut ∈ ph_tb := ph_tb_of 900 (by decide +kernel) rfl
theorem ph_mf_yX9_get : ph_MF yX9_get cX9_get 4 (some .int) 3 := ⟨ph_tb_of 905 (by decide +kernel) rfl, ph_tb_of 55 (by decide +kernel) rfl, by decide +kernel, by decide +kernel, by decide⟩
theorem ph_mi_yX9_get : Cond.instanceMethod yX9_get ∈ ph_tb := ph_tb_of 903 (by decide +kernel) rfl
theorem ph_mv_yX9_get : Cond.selects RX9 yX9_get yX9_get ∈ ph_tb := ph_tb_of 904 (by decide +kernel) rfl
theorem ph_mf_yX9_copy : ph_MF yX9_copy cX9_copy 7 (some .int) 5 := ⟨ph_tb_of 910 (by decide +kernel) rfl, ph_tb_of 55 (by decide +kernel) rfl, by decide +kernel, by decide +kernel, by decide⟩
theorem ph_mi_yX9_copy : Cond.instanceMethod yX9_copy ∈ ph_tb := ph_tb_of 908 (by decide +kernel) rfl
theorem ph_mv_yX9_copy : Cond.selects RX9 yX9_copy yX9_copy ∈ ph_tb := ph_tb_of 909 (by decide +kernel) rfl
theorem ph_mf_yX9_type : ph_MF yX9_type cX9_type 3 (some .int) 2 := ⟨ph_tb_of 914 (by decide +kernel) rfl, ph_tb_of 55 (by decide +kernel) rfl, by decide +kernel, by decide +kernel, by decide⟩
theorem ph_mi_yX9_type : Cond.instanceMethod yX9_type ∈ ph_tb := ph_tb_of 912 (by decide +kernel) rfl
theorem ph_mv_yX9_type : Cond.selects RX9 yX9_type yX9_type ∈ ph_tb := ph_tb_of 913 (by decide +kernel) rfl
theorem ph_mf_yX9_isTwo : ph_MF yX9_isTwo cX9_isTwo 1 (some .boolean) 1 := ⟨ph_tb_of 917 (by decide +kernel) rfl, ph_tb_of 55 (by decide +kernel) rfl, by decide +kernel, by decide +kernel, by decide⟩
theorem ph_ms_yX9_isTwo : Cond.static yX9_isTwo ∈ ph_tb := ph_tb_of 916 (by decide +kernel) rfl
theorem ph_mf_yX9_wipe : ph_MF yX9_wipe cX9_wipe 3 (some .int) 1 := ⟨ph_tb_of 922 (by decide +kernel) rfl, ph_tb_of 55 (by decide +kernel) rfl, by decide +kernel, by decide +kernel, by decide⟩
theorem ph_mi_yX9_wipe : Cond.instanceMethod yX9_wipe ∈ ph_tb := ph_tb_of 920 (by decide +kernel) rfl
theorem ph_mv_yX9_wipe : Cond.selects RX9 yX9_wipe yX9_wipe ∈ ph_tb := ph_tb_of 921 (by decide +kernel) rfl
theorem ph_mf_yX9_undo : ph_MF yX9_undo cX9_undo 2 (some .int) 1 := ⟨ph_tb_of 926 (by decide +kernel) rfl, ph_tb_of 55 (by decide +kernel) rfl, by decide +kernel, by decide +kernel, by decide⟩
theorem ph_mi_yX9_undo : Cond.instanceMethod yX9_undo ∈ ph_tb := ph_tb_of 924 (by decide +kernel) rfl
theorem ph_mv_yX9_undo : Cond.selects RX9 yX9_undo yX9_undo ∈ ph_tb := ph_tb_of 925 (by decide +kernel) rfl
theorem ph_mf_yX9_fault : ph_MF yX9_fault cX9_fault 2 (some .int) 1 := ⟨ph_tb_of 930 (by decide +kernel) rfl, ph_tb_of 55 (by decide +kernel) rfl, by decide +kernel, by decide +kernel, by decide⟩
theorem ph_mi_yX9_fault : Cond.instanceMethod yX9_fault ∈ ph_tb := ph_tb_of 928 (by decide +kernel) rfl
theorem ph_mv_yX9_fault : Cond.selects RX9 yX9_fault yX9_fault ∈ ph_tb := ph_tb_of 929 (by decide +kernel) rfl
theorem ph_mf_yX9_readsPlay : ph_MF yX9_readsPlay cX9_readsPlay 2 (some .int) 0 := ⟨ph_tb_of 934 (by decide +kernel) rfl, ph_tb_of 55 (by decide +kernel) rfl, by decide +kernel, by decide +kernel, by decide⟩
theorem ph_mi_yX9_readsPlay : Cond.instanceMethod yX9_readsPlay ∈ ph_tb := ph_tb_of 933 (by decide +kernel) rfl
theorem ph_mv_yX9_readsPlay : Cond.selects RX9 yX9_readsPlay yX9_readsPlay ∈ ph_tb := ph_tb_of 15 (by decide +kernel) rfl
theorem ph_mf_yX9_readsHoles : ph_MF yX9_readsHoles cX9_readsHoles 5 (some .int) 0 := ⟨ph_tb_of 940 (by decide +kernel) rfl, ph_tb_of 55 (by decide +kernel) rfl, by decide +kernel, by decide +kernel, by decide⟩
theorem ph_mi_yX9_readsHoles : Cond.instanceMethod yX9_readsHoles ∈ ph_tb := ph_tb_of 939 (by decide +kernel) rfl
theorem ph_mv_yX9_readsHoles : Cond.selects RX9 yX9_readsHoles yX9_readsHoles ∈ ph_tb := ph_tb_of 16 (by decide +kernel) rfl
theorem ph_mf_yX9_tellsOf : ph_MF yX9_tellsOf cX9_tellsOf 2 (some .int) 2 := ⟨ph_tb_of 943 (by decide +kernel) rfl, ph_tb_of 55 (by decide +kernel) rfl, by decide +kernel, by decide +kernel, by decide⟩
theorem ph_ms_yX9_tellsOf : Cond.static yX9_tellsOf ∈ ph_tb := ph_tb_of 942 (by decide +kernel) rfl
theorem ph_mf_yX9_within : ph_MF yX9_within cX9_within 3 (some .int) 3 := ⟨ph_tb_of 946 (by decide +kernel) rfl, ph_tb_of 55 (by decide +kernel) rfl, by decide +kernel, by decide +kernel, by decide⟩
theorem ph_ms_yX9_within : Cond.static yX9_within ∈ ph_tb := ph_tb_of 945 (by decide +kernel) rfl
theorem ph_mf_yX9_line : ph_MF yX9_line cX9_line 2 (some .int) 1 := ⟨ph_tb_of 950 (by decide +kernel) rfl, ph_tb_of 55 (by decide +kernel) rfl, by decide +kernel, by decide +kernel, by decide⟩
theorem ph_mi_yX9_line : Cond.instanceMethod yX9_line ∈ ph_tb := ph_tb_of 948 (by decide +kernel) rfl
theorem ph_mv_yX9_line : Cond.selects RX9 yX9_line yX9_line ∈ ph_tb := ph_tb_of 949 (by decide +kernel) rfl
theorem ph_mf_yX9_reads : ph_MF yX9_reads cX9_reads 1 none 0 := ⟨ph_tb_of 954 (by decide +kernel) rfl, ph_tb_of 55 (by decide +kernel) rfl, by decide +kernel, by decide +kernel, by decide⟩
theorem ph_mi_yX9_reads : Cond.instanceMethod yX9_reads ∈ ph_tb := ph_tb_of 953 (by decide +kernel) rfl
theorem ph_mv_yX9_reads : Cond.selects RX9 yX9_reads yX9_reads ∈ ph_tb := ph_tb_of 17 (by decide +kernel) rfl
theorem ph_mf_yX9_hole : ph_MF yX9_hole cX9_hole 3 (some .int) 2 := ⟨ph_tb_of 959 (by decide +kernel) rfl, ph_tb_of 55 (by decide +kernel) rfl, by decide +kernel, by decide +kernel, by decide⟩
theorem ph_mi_yX9_hole : Cond.instanceMethod yX9_hole ∈ ph_tb := ph_tb_of 957 (by decide +kernel) rfl
theorem ph_mv_yX9_hole : Cond.selects RX9 yX9_hole yX9_hole ∈ ph_tb := ph_tb_of 958 (by decide +kernel) rfl
theorem ph_mf_yX9_isHole : ph_MF yX9_isHole cX9_isHole 2 (some .boolean) 1 := ⟨ph_tb_of 963 (by decide +kernel) rfl, ph_tb_of 55 (by decide +kernel) rfl, by decide +kernel, by decide +kernel, by decide⟩
theorem ph_mi_yX9_isHole : Cond.instanceMethod yX9_isHole ∈ ph_tb := ph_tb_of 962 (by decide +kernel) rfl
theorem ph_mv_yX9_isHole : Cond.selects RX9 yX9_isHole yX9_isHole ∈ ph_tb := ph_tb_of 18 (by decide +kernel) rfl
theorem ph_mf_yX9_printed : ph_MF yX9_printed cX9_printed 3 (some .int) 2 := ⟨ph_tb_of 967 (by decide +kernel) rfl, ph_tb_of 55 (by decide +kernel) rfl, by decide +kernel, by decide +kernel, by decide⟩
theorem ph_mi_yX9_printed : Cond.instanceMethod yX9_printed ∈ ph_tb := ph_tb_of 965 (by decide +kernel) rfl
theorem ph_mv_yX9_printed : Cond.selects RX9 yX9_printed yX9_printed ∈ ph_tb := ph_tb_of 966 (by decide +kernel) rfl
theorem ph_mf_yX9_isLine : ph_MF yX9_isLine cX9_isLine 1 (some .boolean) 1 := ⟨ph_tb_of 970 (by decide +kernel) rfl, ph_tb_of 55 (by decide +kernel) rfl, by decide +kernel, by decide +kernel, by decide⟩
theorem ph_ms_yX9_isLine : Cond.static yX9_isLine ∈ ph_tb := ph_tb_of 969 (by decide +kernel) rfl
theorem ph_mf_yX9_printedBy : ph_MF yX9_printedBy cX9_printedBy 4 (some .int) 2 := ⟨ph_tb_of 975 (by decide +kernel) rfl, ph_tb_of 55 (by decide +kernel) rfl, by decide +kernel, by decide +kernel, by decide⟩
theorem ph_mi_yX9_printedBy : Cond.instanceMethod yX9_printedBy ∈ ph_tb := ph_tb_of 974 (by decide +kernel) rfl
theorem ph_mv_yX9_printedBy : Cond.selects RX9 yX9_printedBy yX9_printedBy ∈ ph_tb := ph_tb_of 19 (by decide +kernel) rfl
theorem ph_mf_yX9_move : ph_MF yX9_move cX9_move 3 (some .int) 2 := ⟨ph_tb_of 979 (by decide +kernel) rfl, ph_tb_of 55 (by decide +kernel) rfl, by decide +kernel, by decide +kernel, by decide⟩
theorem ph_mi_yX9_move : Cond.instanceMethod yX9_move ∈ ph_tb := ph_tb_of 977 (by decide +kernel) rfl
theorem ph_mv_yX9_move : Cond.selects RX9 yX9_move yX9_move ∈ ph_tb := ph_tb_of 978 (by decide +kernel) rfl
theorem ph_mf_yX9_isStep : ph_MF yX9_isStep cX9_isStep 1 (some .boolean) 1 := ⟨ph_tb_of 982 (by decide +kernel) rfl, ph_tb_of 55 (by decide +kernel) rfl, by decide +kernel, by decide +kernel, by decide⟩
theorem ph_ms_yX9_isStep : Cond.static yX9_isStep ∈ ph_tb := ph_tb_of 981 (by decide +kernel) rfl
theorem ph_mf_yX9_cough : ph_MF yX9_cough cX9_cough 3 (some .int) 2 := ⟨ph_tb_of 988 (by decide +kernel) rfl, ph_tb_of 55 (by decide +kernel) rfl, by decide +kernel, by decide +kernel, by decide⟩
theorem ph_mi_yX9_cough : Cond.instanceMethod yX9_cough ∈ ph_tb := ph_tb_of 986 (by decide +kernel) rfl
theorem ph_mv_yX9_cough : Cond.selects RX9 yX9_cough yX9_cough ∈ ph_tb := ph_tb_of 987 (by decide +kernel) rfl
theorem ph_mf_yX9_dark : ph_MF yX9_dark cX9_dark 2 (some .int) 1 := ⟨ph_tb_of 993 (by decide +kernel) rfl, ph_tb_of 55 (by decide +kernel) rfl, by decide +kernel, by decide +kernel, by decide⟩
theorem ph_mi_yX9_dark : Cond.instanceMethod yX9_dark ∈ ph_tb := ph_tb_of 991 (by decide +kernel) rfl
theorem ph_mv_yX9_dark : Cond.selects RX9 yX9_dark yX9_dark ∈ ph_tb := ph_tb_of 992 (by decide +kernel) rfl
theorem ph_mf_yX9_back : ph_MF yX9_back cX9_back 3 (some .int) 1 := ⟨ph_tb_of 997 (by decide +kernel) rfl, ph_tb_of 55 (by decide +kernel) rfl, by decide +kernel, by decide +kernel, by decide⟩
theorem ph_mi_yX9_back : Cond.instanceMethod yX9_back ∈ ph_tb := ph_tb_of 995 (by decide +kernel) rfl
theorem ph_mv_yX9_back : Cond.selects RX9 yX9_back yX9_back ∈ ph_tb := ph_tb_of 996 (by decide +kernel) rfl
theorem ph_mf_yX9_read : ph_MF yX9_read cX9_read 4 (some .int) 1 := ⟨ph_tb_of 1001 (by decide +kernel) rfl, ph_tb_of 55 (by decide +kernel) rfl, by decide +kernel, by decide +kernel, by decide⟩
theorem ph_mi_yX9_read : Cond.instanceMethod yX9_read ∈ ph_tb := ph_tb_of 999 (by decide +kernel) rfl
theorem ph_mv_yX9_read : Cond.selects RX9 yX9_read yX9_read ∈ ph_tb := ph_tb_of 1000 (by decide +kernel) rfl
theorem ph_mf_yX9_step : ph_MF yX9_step cX9_step 3 (some .int) 2 := ⟨ph_tb_of 1006 (by decide +kernel) rfl, ph_tb_of 55 (by decide +kernel) rfl, by decide +kernel, by decide +kernel, by decide⟩
theorem ph_mi_yX9_step : Cond.instanceMethod yX9_step ∈ ph_tb := ph_tb_of 1004 (by decide +kernel) rfl
theorem ph_mv_yX9_step : Cond.selects RX9 yX9_step yX9_step ∈ ph_tb := ph_tb_of 1005 (by decide +kernel) rfl
theorem ph_mf_yX9_find : ph_MF yX9_find cX9_find 1 none 0 := ⟨ph_tb_of 1010 (by decide +kernel) rfl, ph_tb_of 55 (by decide +kernel) rfl, by decide +kernel, by decide +kernel, by decide⟩
theorem ph_mi_yX9_find : Cond.instanceMethod yX9_find ∈ ph_tb := ph_tb_of 1009 (by decide +kernel) rfl
theorem ph_mv_yX9_find : Cond.selects RX9 yX9_find yX9_find ∈ ph_tb := ph_tb_of 20 (by decide +kernel) rfl
theorem ph_mf_yX9_plain : ph_MF yX9_plain cX9_plain 2 none 0 := ⟨ph_tb_of 1014 (by decide +kernel) rfl, ph_tb_of 55 (by decide +kernel) rfl, by decide +kernel, by decide +kernel, by decide⟩
theorem ph_mi_yX9_plain : Cond.instanceMethod yX9_plain ∈ ph_tb := ph_tb_of 1013 (by decide +kernel) rfl
theorem ph_mv_yX9_plain : Cond.selects RX9 yX9_plain yX9_plain ∈ ph_tb := ph_tb_of 21 (by decide +kernel) rfl
theorem ph_mf_yX9_whereAt : ph_MF yX9_whereAt cX9_whereAt 5 (some .int) 1 := ⟨ph_tb_of 1018 (by decide +kernel) rfl, ph_tb_of 55 (by decide +kernel) rfl, by decide +kernel, by decide +kernel, by decide⟩
theorem ph_mi_yX9_whereAt : Cond.instanceMethod yX9_whereAt ∈ ph_tb := ph_tb_of 1017 (by decide +kernel) rfl
theorem ph_mv_yX9_whereAt : Cond.selects RX9 yX9_whereAt yX9_whereAt ∈ ph_tb := ph_tb_of 22 (by decide +kernel) rfl
theorem ph_mf_yX9_lives : ph_MF yX9_lives cX9_lives 4 none 2 := ⟨ph_tb_of 1022 (by decide +kernel) rfl, ph_tb_of 55 (by decide +kernel) rfl, by decide +kernel, by decide +kernel, by decide⟩
theorem ph_mi_yX9_lives : Cond.instanceMethod yX9_lives ∈ ph_tb := ph_tb_of 1021 (by decide +kernel) rfl
theorem ph_mv_yX9_lives : Cond.selects RX9 yX9_lives yX9_lives ∈ ph_tb := ph_tb_of 23 (by decide +kernel) rfl
theorem ph_mf_yX9_plays : ph_MF yX9_plays cX9_plays 6 none 1 := ⟨ph_tb_of 1026 (by decide +kernel) rfl, ph_tb_of 55 (by decide +kernel) rfl, by decide +kernel, by decide +kernel, by decide⟩
theorem ph_mi_yX9_plays : Cond.instanceMethod yX9_plays ∈ ph_tb := ph_tb_of 1025 (by decide +kernel) rfl
theorem ph_mv_yX9_plays : Cond.selects RX9 yX9_plays yX9_plays ∈ ph_tb := ph_tb_of 24 (by decide +kernel) rfl
theorem ph_mf_yX9_isDark : ph_MF yX9_isDark cX9_isDark 4 (some .boolean) 1 := ⟨ph_tb_of 1030 (by decide +kernel) rfl, ph_tb_of 55 (by decide +kernel) rfl, by decide +kernel, by decide +kernel, by decide⟩
theorem ph_mi_yX9_isDark : Cond.instanceMethod yX9_isDark ∈ ph_tb := ph_tb_of 1029 (by decide +kernel) rfl
theorem ph_mv_yX9_isDark : Cond.selects RX9 yX9_isDark yX9_isDark ∈ ph_tb := ph_tb_of 25 (by decide +kernel) rfl
theorem ph_mf_yX9_whispersNow : ph_MF yX9_whispersNow cX9_whispersNow 5 (some .int) 2 := ⟨ph_tb_of 1034 (by decide +kernel) rfl, ph_tb_of 55 (by decide +kernel) rfl, by decide +kernel, by decide +kernel, by decide⟩
theorem ph_mi_yX9_whispersNow : Cond.instanceMethod yX9_whispersNow ∈ ph_tb := ph_tb_of 1033 (by decide +kernel) rfl
theorem ph_mv_yX9_whispersNow : Cond.selects RX9 yX9_whispersNow yX9_whispersNow ∈ ph_tb := ph_tb_of 26 (by decide +kernel) rfl
theorem ph_mf_yX9_amount : ph_MF yX9_amount cX9_amount 1 (some .int) 1 := ⟨ph_tb_of 1037 (by decide +kernel) rfl, ph_tb_of 55 (by decide +kernel) rfl, by decide +kernel, by decide +kernel, by decide⟩
theorem ph_ms_yX9_amount : Cond.static yX9_amount ∈ ph_tb := ph_tb_of 1036 (by decide +kernel) rfl
theorem ph_mf_yX9_habitOf : ph_MF yX9_habitOf cX9_habitOf 5 (some .int) 2 := ⟨ph_tb_of 1041 (by decide +kernel) rfl, ph_tb_of 55 (by decide +kernel) rfl, by decide +kernel, by decide +kernel, by decide⟩
theorem ph_mi_yX9_habitOf : Cond.instanceMethod yX9_habitOf ∈ ph_tb := ph_tb_of 1040 (by decide +kernel) rfl
theorem ph_mv_yX9_habitOf : Cond.selects RX9 yX9_habitOf yX9_habitOf ∈ ph_tb := ph_tb_of 27 (by decide +kernel) rfl
theorem ph_mf_yX9_isIn : ph_MF yX9_isIn cX9_isIn 2 (some .boolean) 2 := ⟨ph_tb_of 1044 (by decide +kernel) rfl, ph_tb_of 55 (by decide +kernel) rfl, by decide +kernel, by decide +kernel, by decide⟩
theorem ph_ms_yX9_isIn : Cond.static yX9_isIn ∈ ph_tb := ph_tb_of 1043 (by decide +kernel) rfl
theorem ph_mf_yX9_stepOf : ph_MF yX9_stepOf cX9_stepOf 3 (some .int) 2 := ⟨ph_tb_of 1048 (by decide +kernel) rfl, ph_tb_of 55 (by decide +kernel) rfl, by decide +kernel, by decide +kernel, by decide⟩
theorem ph_mi_yX9_stepOf : Cond.instanceMethod yX9_stepOf ∈ ph_tb := ph_tb_of 1047 (by decide +kernel) rfl
theorem ph_mv_yX9_stepOf : Cond.selects RX9 yX9_stepOf yX9_stepOf ∈ ph_tb := ph_tb_of 28 (by decide +kernel) rfl
theorem ph_mf_yX9_printedIn : ph_MF yX9_printedIn cX9_printedIn 2 (some .int) 1 := ⟨ph_tb_of 1052 (by decide +kernel) rfl, ph_tb_of 55 (by decide +kernel) rfl, by decide +kernel, by decide +kernel, by decide⟩
theorem ph_mi_yX9_printedIn : Cond.instanceMethod yX9_printedIn ∈ ph_tb := ph_tb_of 1051 (by decide +kernel) rfl
theorem ph_mv_yX9_printedIn : Cond.selects RX9 yX9_printedIn yX9_printedIn ∈ ph_tb := ph_tb_of 29 (by decide +kernel) rfl
theorem ph_mf_yX9_whispers : ph_MF yX9_whispers cX9_whispers 3 (some .int) 2 := ⟨ph_tb_of 1056 (by decide +kernel) rfl, ph_tb_of 55 (by decide +kernel) rfl, by decide +kernel, by decide +kernel, by decide⟩
theorem ph_mi_yX9_whispers : Cond.instanceMethod yX9_whispers ∈ ph_tb := ph_tb_of 1054 (by decide +kernel) rfl
theorem ph_mv_yX9_whispers : Cond.selects RX9 yX9_whispers yX9_whispers ∈ ph_tb := ph_tb_of 1055 (by decide +kernel) rfl
theorem ph_mf_yX9_drift : ph_MF yX9_drift cX9_drift 2 (some .int) 1 := ⟨ph_tb_of 1060 (by decide +kernel) rfl, ph_tb_of 55 (by decide +kernel) rfl, by decide +kernel, by decide +kernel, by decide⟩
theorem ph_mi_yX9_drift : Cond.instanceMethod yX9_drift ∈ ph_tb := ph_tb_of 1058 (by decide +kernel) rfl
theorem ph_mv_yX9_drift : Cond.selects RX9 yX9_drift yX9_drift ∈ ph_tb := ph_tb_of 1059 (by decide +kernel) rfl
theorem ph_mf_yX9_driftOf : ph_MF yX9_driftOf cX9_driftOf 3 (some .int) 1 := ⟨ph_tb_of 1064 (by decide +kernel) rfl, ph_tb_of 55 (by decide +kernel) rfl, by decide +kernel, by decide +kernel, by decide⟩
theorem ph_mi_yX9_driftOf : Cond.instanceMethod yX9_driftOf ∈ ph_tb := ph_tb_of 1063 (by decide +kernel) rfl
theorem ph_mv_yX9_driftOf : Cond.selects RX9 yX9_driftOf yX9_driftOf ∈ ph_tb := ph_tb_of 30 (by decide +kernel) rfl
theorem ph_mf_yX9_driftTo : ph_MF yX9_driftTo cX9_driftTo 4 (some .int) 1 := ⟨ph_tb_of 1068 (by decide +kernel) rfl, ph_tb_of 55 (by decide +kernel) rfl, by decide +kernel, by decide +kernel, by decide⟩
theorem ph_mi_yX9_driftTo : Cond.instanceMethod yX9_driftTo ∈ ph_tb := ph_tb_of 1067 (by decide +kernel) rfl
theorem ph_mv_yX9_driftTo : Cond.selects RX9 yX9_driftTo yX9_driftTo ∈ ph_tb := ph_tb_of 31 (by decide +kernel) rfl
theorem ph_mf_yX9_round : ph_MF yX9_round cX9_round 1 (some .int) 0 := ⟨ph_tb_of 1072 (by decide +kernel) rfl, ph_tb_of 55 (by decide +kernel) rfl, by decide +kernel, by decide +kernel, by decide⟩
theorem ph_mi_yX9_round : Cond.instanceMethod yX9_round ∈ ph_tb := ph_tb_of 1070 (by decide +kernel) rfl
theorem ph_mv_yX9_round : Cond.selects RX9 yX9_round yX9_round ∈ ph_tb := ph_tb_of 1071 (by decide +kernel) rfl
theorem ph_mf_yX9_roundNow : ph_MF yX9_roundNow cX9_roundNow 4 (some .int) 0 := ⟨ph_tb_of 1076 (by decide +kernel) rfl, ph_tb_of 55 (by decide +kernel) rfl, by decide +kernel, by decide +kernel, by decide⟩
theorem ph_mi_yX9_roundNow : Cond.instanceMethod yX9_roundNow ∈ ph_tb := ph_tb_of 1075 (by decide +kernel) rfl
theorem ph_mv_yX9_roundNow : Cond.selects RX9 yX9_roundNow yX9_roundNow ∈ ph_tb := ph_tb_of 32 (by decide +kernel) rfl
theorem ph_mf_yX9_often : ph_MF yX9_often cX9_often 3 (some .int) 2 := ⟨ph_tb_of 1080 (by decide +kernel) rfl, ph_tb_of 55 (by decide +kernel) rfl, by decide +kernel, by decide +kernel, by decide⟩
theorem ph_mi_yX9_often : Cond.instanceMethod yX9_often ∈ ph_tb := ph_tb_of 1078 (by decide +kernel) rfl
theorem ph_mv_yX9_often : Cond.selects RX9 yX9_often yX9_often ∈ ph_tb := ph_tb_of 1079 (by decide +kernel) rfl
theorem ph_mf_yX9_oftenOf : ph_MF yX9_oftenOf cX9_oftenOf 6 (some .int) 2 := ⟨ph_tb_of 1084 (by decide +kernel) rfl, ph_tb_of 55 (by decide +kernel) rfl, by decide +kernel, by decide +kernel, by decide⟩
theorem ph_mi_yX9_oftenOf : Cond.instanceMethod yX9_oftenOf ∈ ph_tb := ph_tb_of 1083 (by decide +kernel) rfl
theorem ph_mv_yX9_oftenOf : Cond.selects RX9 yX9_oftenOf yX9_oftenOf ∈ ph_tb := ph_tb_of 33 (by decide +kernel) rfl
theorem ph_mf_yX9_may : ph_MF yX9_may cX9_may 3 (some .int) 2 := ⟨ph_tb_of 1088 (by decide +kernel) rfl, ph_tb_of 55 (by decide +kernel) rfl, by decide +kernel, by decide +kernel, by decide⟩
theorem ph_mi_yX9_may : Cond.instanceMethod yX9_may ∈ ph_tb := ph_tb_of 1086 (by decide +kernel) rfl
theorem ph_mv_yX9_may : Cond.selects RX9 yX9_may yX9_may ∈ ph_tb := ph_tb_of 1087 (by decide +kernel) rfl
theorem ph_mf_yX9_mayOf : ph_MF yX9_mayOf cX9_mayOf 6 (some .int) 2 := ⟨ph_tb_of 1092 (by decide +kernel) rfl, ph_tb_of 55 (by decide +kernel) rfl, by decide +kernel, by decide +kernel, by decide⟩
theorem ph_mi_yX9_mayOf : Cond.instanceMethod yX9_mayOf ∈ ph_tb := ph_tb_of 1091 (by decide +kernel) rfl
theorem ph_mv_yX9_mayOf : Cond.selects RX9 yX9_mayOf yX9_mayOf ∈ ph_tb := ph_tb_of 34 (by decide +kernel) rfl
theorem ph_mf_yX9_prompt : ph_MF yX9_prompt cX9_prompt 5 (some .int) 4 := ⟨ph_tb_of 1096 (by decide +kernel) rfl, ph_tb_of 55 (by decide +kernel) rfl, by decide +kernel, by decide +kernel, by decide⟩
theorem ph_mi_yX9_prompt : Cond.instanceMethod yX9_prompt ∈ ph_tb := ph_tb_of 1094 (by decide +kernel) rfl
theorem ph_mv_yX9_prompt : Cond.selects RX9 yX9_prompt yX9_prompt ∈ ph_tb := ph_tb_of 1095 (by decide +kernel) rfl
theorem ph_mf_yX9_promptOf : ph_MF yX9_promptOf cX9_promptOf 10 (some .int) 4 := ⟨ph_tb_of 1100 (by decide +kernel) rfl, ph_tb_of 55 (by decide +kernel) rfl, by decide +kernel, by decide +kernel, by decide⟩
theorem ph_mi_yX9_promptOf : Cond.instanceMethod yX9_promptOf ∈ ph_tb := ph_tb_of 1099 (by decide +kernel) rfl
theorem ph_mv_yX9_promptOf : Cond.selects RX9 yX9_promptOf yX9_promptOf ∈ ph_tb := ph_tb_of 35 (by decide +kernel) rfl
theorem ph_mf_yX9_seen : ph_MF yX9_seen cX9_seen 3 (some .int) 2 := ⟨ph_tb_of 1104 (by decide +kernel) rfl, ph_tb_of 55 (by decide +kernel) rfl, by decide +kernel, by decide +kernel, by decide⟩
theorem ph_mi_yX9_seen : Cond.instanceMethod yX9_seen ∈ ph_tb := ph_tb_of 1102 (by decide +kernel) rfl
theorem ph_mv_yX9_seen : Cond.selects RX9 yX9_seen yX9_seen ∈ ph_tb := ph_tb_of 1103 (by decide +kernel) rfl
theorem ph_mf_yX9_forget : ph_MF yX9_forget cX9_forget 2 (some .int) 0 := ⟨ph_tb_of 1108 (by decide +kernel) rfl, ph_tb_of 55 (by decide +kernel) rfl, by decide +kernel, by decide +kernel, by decide⟩
theorem ph_mi_yX9_forget : Cond.instanceMethod yX9_forget ∈ ph_tb := ph_tb_of 1106 (by decide +kernel) rfl
theorem ph_mv_yX9_forget : Cond.selects RX9 yX9_forget yX9_forget ∈ ph_tb := ph_tb_of 1107 (by decide +kernel) rfl
theorem ph_mf_yX9_filed : ph_MF yX9_filed cX9_filed 1 (some .int) 0 := ⟨ph_tb_of 1112 (by decide +kernel) rfl, ph_tb_of 55 (by decide +kernel) rfl, by decide +kernel, by decide +kernel, by decide⟩
theorem ph_mi_yX9_filed : Cond.instanceMethod yX9_filed ∈ ph_tb := ph_tb_of 1110 (by decide +kernel) rfl
theorem ph_mv_yX9_filed : Cond.selects RX9 yX9_filed yX9_filed ∈ ph_tb := ph_tb_of 1111 (by decide +kernel) rfl
theorem ph_mf_yX9_filedNow : ph_MF yX9_filedNow cX9_filedNow 3 (some .int) 0 := ⟨ph_tb_of 1116 (by decide +kernel) rfl, ph_tb_of 55 (by decide +kernel) rfl, by decide +kernel, by decide +kernel, by decide⟩
theorem ph_mi_yX9_filedNow : Cond.instanceMethod yX9_filedNow ∈ ph_tb := ph_tb_of 1115 (by decide +kernel) rfl
theorem ph_mv_yX9_filedNow : Cond.selects RX9 yX9_filedNow yX9_filedNow ∈ ph_tb := ph_tb_of 36 (by decide +kernel) rfl
theorem ph_mf_yX9_isSeen : ph_MF yX9_isSeen cX9_isSeen 3 (some .boolean) 0 := ⟨ph_tb_of 1120 (by decide +kernel) rfl, ph_tb_of 55 (by decide +kernel) rfl, by decide +kernel, by decide +kernel, by decide⟩
theorem ph_mi_yX9_isSeen : Cond.instanceMethod yX9_isSeen ∈ ph_tb := ph_tb_of 1119 (by decide +kernel) rfl
theorem ph_mv_yX9_isSeen : Cond.selects RX9 yX9_isSeen yX9_isSeen ∈ ph_tb := ph_tb_of 37 (by decide +kernel) rfl
theorem ph_mf_yX9_coughed : ph_MF yX9_coughed cX9_coughed 2 (some .int) 1 := ⟨ph_tb_of 1124 (by decide +kernel) rfl, ph_tb_of 55 (by decide +kernel) rfl, by decide +kernel, by decide +kernel, by decide⟩
theorem ph_mi_yX9_coughed : Cond.instanceMethod yX9_coughed ∈ ph_tb := ph_tb_of 1122 (by decide +kernel) rfl
theorem ph_mv_yX9_coughed : Cond.selects RX9 yX9_coughed yX9_coughed ∈ ph_tb := ph_tb_of 1123 (by decide +kernel) rfl
theorem ph_mf_yX9_coughedOf : ph_MF yX9_coughedOf cX9_coughedOf 5 (some .int) 1 := ⟨ph_tb_of 1128 (by decide +kernel) rfl, ph_tb_of 55 (by decide +kernel) rfl, by decide +kernel, by decide +kernel, by decide⟩
theorem ph_mi_yX9_coughedOf : Cond.instanceMethod yX9_coughedOf ∈ ph_tb := ph_tb_of 1127 (by decide +kernel) rfl
theorem ph_mv_yX9_coughedOf : Cond.selects RX9 yX9_coughedOf yX9_coughedOf ∈ ph_tb := ph_tb_of 38 (by decide +kernel) rfl
theorem ph_mf_yX9_ask : ph_MF yX9_ask cX9_ask 2 (some .int) 1 := ⟨ph_tb_of 1132 (by decide +kernel) rfl, ph_tb_of 55 (by decide +kernel) rfl, by decide +kernel, by decide +kernel, by decide⟩
theorem ph_mi_yX9_ask : Cond.instanceMethod yX9_ask ∈ ph_tb := ph_tb_of 1130 (by decide +kernel) rfl
theorem ph_mv_yX9_ask : Cond.selects RX9 yX9_ask yX9_ask ∈ ph_tb := ph_tb_of 1131 (by decide +kernel) rfl
theorem ph_mf_yX9_askOf : ph_MF yX9_askOf cX9_askOf 8 (some .int) 1 := ⟨ph_tb_of 1136 (by decide +kernel) rfl, ph_tb_of 55 (by decide +kernel) rfl, by decide +kernel, by decide +kernel, by decide⟩
theorem ph_mi_yX9_askOf : Cond.instanceMethod yX9_askOf ∈ ph_tb := ph_tb_of 1135 (by decide +kernel) rfl
theorem ph_mv_yX9_askOf : Cond.selects RX9 yX9_askOf yX9_askOf ∈ ph_tb := ph_tb_of 39 (by decide +kernel) rfl
theorem ph_mf_yX9_slips : ph_MF yX9_slips cX9_slips 7 (some .long) 5 := ⟨ph_tb_of 1140 (by decide +kernel) rfl, ph_tb_of 55 (by decide +kernel) rfl, by decide +kernel, by decide +kernel, by decide⟩
theorem ph_mi_yX9_slips : Cond.instanceMethod yX9_slips ∈ ph_tb := ph_tb_of 1138 (by decide +kernel) rfl
theorem ph_mv_yX9_slips : Cond.selects RX9 yX9_slips yX9_slips ∈ ph_tb := ph_tb_of 1139 (by decide +kernel) rfl
theorem ph_mf_yX9_slipsOf : ph_MF yX9_slipsOf cX9_slipsOf 15 (some .long) 5 := ⟨ph_tb_of 1145 (by decide +kernel) rfl, ph_tb_of 55 (by decide +kernel) rfl, by decide +kernel, by decide +kernel, by decide⟩
theorem ph_mi_yX9_slipsOf : Cond.instanceMethod yX9_slipsOf ∈ ph_tb := ph_tb_of 1144 (by decide +kernel) rfl
theorem ph_mv_yX9_slipsOf : Cond.selects RX9 yX9_slipsOf yX9_slipsOf ∈ ph_tb := ph_tb_of 40 (by decide +kernel) rfl
theorem ph_mf_yX9_part : ph_MF yX9_part cX9_part 11 (some .long) 3 := ⟨ph_tb_of 1148 (by decide +kernel) rfl, ph_tb_of 55 (by decide +kernel) rfl, by decide +kernel, by decide +kernel, by decide⟩
theorem ph_ms_yX9_part : Cond.static yX9_part ∈ ph_tb := ph_tb_of 1147 (by decide +kernel) rfl
theorem ph_mf_yX9_no : ph_MF yX9_no cX9_no 1 (some .long) 1 := ⟨ph_tb_of 1151 (by decide +kernel) rfl, ph_tb_of 55 (by decide +kernel) rfl, by decide +kernel, by decide +kernel, by decide⟩
theorem ph_ms_yX9_no : Cond.static yX9_no ∈ ph_tb := ph_tb_of 1150 (by decide +kernel) rfl
theorem ph_mf_yX9_evening : ph_MF yX9_evening cX9_evening 4 (some .int) 3 := ⟨ph_tb_of 1156 (by decide +kernel) rfl, ph_tb_of 55 (by decide +kernel) rfl, by decide +kernel, by decide +kernel, by decide⟩
theorem ph_mi_yX9_evening : Cond.instanceMethod yX9_evening ∈ ph_tb := ph_tb_of 1154 (by decide +kernel) rfl
theorem ph_mv_yX9_evening : Cond.selects RX9 yX9_evening yX9_evening ∈ ph_tb := ph_tb_of 1155 (by decide +kernel) rfl
theorem ph_mf_yX9_eveningOf : ph_MF yX9_eveningOf cX9_eveningOf 6 (some .int) 3 := ⟨ph_tb_of 1160 (by decide +kernel) rfl, ph_tb_of 55 (by decide +kernel) rfl, by decide +kernel, by decide +kernel, by decide⟩
theorem ph_mi_yX9_eveningOf : Cond.instanceMethod yX9_eveningOf ∈ ph_tb := ph_tb_of 1159 (by decide +kernel) rfl
theorem ph_mv_yX9_eveningOf : Cond.selects RX9 yX9_eveningOf yX9_eveningOf ∈ ph_tb := ph_tb_of 41 (by decide +kernel) rfl
theorem ph_mf_yX9_lot : ph_MF yX9_lot cX9_lot 2 (some .int) 1 := ⟨ph_tb_of 1164 (by decide +kernel) rfl, ph_tb_of 55 (by decide +kernel) rfl, by decide +kernel, by decide +kernel, by decide⟩
theorem ph_mi_yX9_lot : Cond.instanceMethod yX9_lot ∈ ph_tb := ph_tb_of 1163 (by decide +kernel) rfl
theorem ph_mv_yX9_lot : Cond.selects RX9 yX9_lot yX9_lot ∈ ph_tb := ph_tb_of 42 (by decide +kernel) rfl
theorem ph_mf_yX9_write : ph_MF yX9_write cX9_write 5 (some .int) 2 := ⟨ph_tb_of 1169 (by decide +kernel) rfl, ph_tb_of 55 (by decide +kernel) rfl, by decide +kernel, by decide +kernel, by decide⟩
theorem ph_mi_yX9_write : Cond.instanceMethod yX9_write ∈ ph_tb := ph_tb_of 1167 (by decide +kernel) rfl
theorem ph_mv_yX9_write : Cond.selects RX9 yX9_write yX9_write ∈ ph_tb := ph_tb_of 1168 (by decide +kernel) rfl
theorem ph_mf_yX9_lesser : ph_MF yX9_lesser cX9_lesser 2 (some .int) 2 := ⟨ph_tb_of 1172 (by decide +kernel) rfl, ph_tb_of 55 (by decide +kernel) rfl, by decide +kernel, by decide +kernel, by decide⟩
theorem ph_ms_yX9_lesser : Cond.static yX9_lesser ∈ ph_tb := ph_tb_of 1171 (by decide +kernel) rfl
theorem ph_mf_yX9_count : ph_MF yX9_count cX9_count 2 (some .int) 1 := ⟨ph_tb_of 1176 (by decide +kernel) rfl, ph_tb_of 55 (by decide +kernel) rfl, by decide +kernel, by decide +kernel, by decide⟩
theorem ph_mi_yX9_count : Cond.instanceMethod yX9_count ∈ ph_tb := ph_tb_of 1174 (by decide +kernel) rfl
theorem ph_mv_yX9_count : Cond.selects RX9 yX9_count yX9_count ∈ ph_tb := ph_tb_of 1175 (by decide +kernel) rfl
theorem ph_mf_yX9_digest : ph_MF yX9_digest cX9_digest 6 (some .long) 0 := ⟨ph_tb_of 1180 (by decide +kernel) rfl, ph_tb_of 55 (by decide +kernel) rfl, by decide +kernel, by decide +kernel, by decide⟩
theorem ph_mi_yX9_digest : Cond.instanceMethod yX9_digest ∈ ph_tb := ph_tb_of 1178 (by decide +kernel) rfl
theorem ph_mv_yX9_digest : Cond.selects RX9 yX9_digest yX9_digest ∈ ph_tb := ph_tb_of 1179 (by decide +kernel) rfl
theorem ph_mf_yX9_tellsLine : ph_MF yX9_tellsLine cX9_tellsLine 7 (some .long) 2 := ⟨ph_tb_of 1187 (by decide +kernel) rfl, ph_tb_of 55 (by decide +kernel) rfl, by decide +kernel, by decide +kernel, by decide⟩
theorem ph_mi_yX9_tellsLine : Cond.instanceMethod yX9_tellsLine ∈ ph_tb := ph_tb_of 1186 (by decide +kernel) rfl
theorem ph_mv_yX9_tellsLine : Cond.selects RX9 yX9_tellsLine yX9_tellsLine ∈ ph_tb := ph_tb_of 43 (by decide +kernel) rfl
theorem ph_ml_RX4_15 : Cond.methodLink RX4 15 Lib.Math.max.name ∈ ph_tb := ph_tb_of 71 (by decide +kernel) rfl
theorem ph_ml_RL_13 : ph_ML RL 13 yX8_type := Or.inl (ph_tb_of 281 (by decide +kernel) rfl)
theorem ph_ml_RX8_80 : ph_ML RX8 80 yX8_within := Or.inl (ph_tb_of 285 (by decide +kernel) rfl)
theorem ph_ml_RX8_84 : ph_ML RX8 84 yX8_textOf := Or.inl (ph_tb_of 288 (by decide +kernel) rfl)
theorem ph_ml_RX8_88 : ph_ML RX8 88 yX4_isFull := Or.inl (ph_tb_of 292 (by decide +kernel) rfl)
theorem ph_ml_RX8_92 : ph_ML RX8 92 yX4_add := Or.inl (ph_tb_of 296 (by decide +kernel) rfl)
theorem ph_ml_RX8_95 : ph_ML RX8 95 yX4_size := Or.inl (ph_tb_of 300 (by decide +kernel) rfl)
theorem ph_ml_RL_18 : ph_ML RL 18 yX8_wipe := Or.inl (ph_tb_of 304 (by decide +kernel) rfl)
theorem ph_ml_RX8_99 : ph_ML RX8 99 yX4_clear := Or.inl (ph_tb_of 308 (by decide +kernel) rfl)
theorem ph_ml_RL_23 : ph_ML RL 23 yX8_undo := Or.inl (ph_tb_of 312 (by decide +kernel) rfl)
theorem ph_ml_RX8_102 : ph_ML RX8 102 yX4_cut := Or.inl (ph_tb_of 316 (by decide +kernel) rfl)
theorem ph_ml_RL_27 : ph_ML RL 27 yX8_fault := Or.inl (ph_tb_of 320 (by decide +kernel) rfl)
theorem ph_ml_RX8_105 : ph_ML RX8 105 yX8_staged := Or.inl (ph_tb_of 324 (by decide +kernel) rfl)
theorem ph_ml_RX8_327 : ph_ML RX8 327 yX3_parse := Or.inl (ph_tb_of 328 (by decide +kernel) rfl)
theorem ph_ml_RX3_28 : ph_ML RX3 28 yX3_faultOf := Or.inl (ph_tb_of 332 (by decide +kernel) rfl)
theorem ph_ml_RX3_32 : ph_ML RX3 32 yX4_size := Or.inl (ph_tb_of 335 (by decide +kernel) rfl)
theorem ph_ml_RX3_44 : ph_ML RX3 44 yX4_at := Or.inl (ph_tb_of 336 (by decide +kernel) rfl)
theorem ph_ml_RX3_38 : Cond.methodLink RX3 38 Lib.Math.min.name ∈ ph_tb := ph_tb_of 340 (by decide +kernel) rfl
theorem ph_ml_RX3_48 : ph_ML RX3 48 yX3_lineIn := Or.inl (ph_tb_of 343 (by decide +kernel) rfl)
theorem ph_ml_RX3_51 : ph_ML RX3 51 yX8_within := Or.inr ⟨"PromptHoles", ph_ns_of 303 (by decide +kernel) rfl⟩
theorem ph_ml_RX8_331 : ph_ML RX8 331 yX1_parse := Or.inl (ph_tb_of 348 (by decide +kernel) rfl)
theorem ph_ml_RX1_34 : ph_ML RX1 34 yX1_faultOf := Or.inl (ph_tb_of 352 (by decide +kernel) rfl)
theorem ph_ml_RX1_38 : ph_ML RX1 38 yX4_size := Or.inl (ph_tb_of 355 (by decide +kernel) rfl)
theorem ph_ml_RX1_49 : ph_ML RX1 49 yX4_at := Or.inl (ph_tb_of 356 (by decide +kernel) rfl)
theorem ph_ml_RX1_56 : ph_ML RX1 56 yX1_goesOn := Or.inl (ph_tb_of 357 (by decide +kernel) rfl)
theorem ph_ml_RX1_53 : ph_ML RX1 53 yX1_habitBy := Or.inl (ph_tb_of 360 (by decide +kernel) rfl)
theorem ph_ml_RX1_43 : Cond.methodLink RX1 43 Lib.Math.min.name ∈ ph_tb := ph_tb_of 363 (by decide +kernel) rfl
theorem ph_ml_RX8_332 : ph_ML RX8 332 yX1_think := Or.inl (ph_tb_of 364 (by decide +kernel) rfl)
theorem ph_ml_RX1_60 : ph_ML RX1 60 yX3_nextTo := Or.inl (ph_tb_of 368 (by decide +kernel) rfl)
theorem ph_ml_RX1_65 : ph_ML RX1 65 yX3_aheadOf := Or.inl (ph_tb_of 372 (by decide +kernel) rfl)
theorem ph_ml_RX1_68 : ph_ML RX1 68 yX1_byHabit := Or.inl (ph_tb_of 376 (by decide +kernel) rfl)
theorem ph_ml_RX1_72 : ph_ML RX1 72 yX1_lineOf := Or.inl (ph_tb_of 380 (by decide +kernel) rfl)
theorem ph_ml_RX1_75 : ph_ML RX1 75 yX1_habitOf := Or.inl (ph_tb_of 384 (by decide +kernel) rfl)
theorem ph_ml_RX8_336 : ph_ML RX8 336 yX6_set := Or.inl (ph_tb_of 388 (by decide +kernel) rfl)
theorem ph_ml_RX6_42 : ph_ML RX6 42 yX7_size := Or.inl (ph_tb_of 392 (by decide +kernel) rfl)
theorem ph_ml_RX7_21 : ph_ML RX7 21 yX4_size := Or.inl (ph_tb_of 396 (by decide +kernel) rfl)
theorem ph_ml_RX6_48 : ph_ML RX6 48 yX7_stepAt := Or.inl (ph_tb_of 397 (by decide +kernel) rfl)
theorem ph_ml_RX7_29 : ph_ML RX7 29 yX4_at := Or.inl (ph_tb_of 401 (by decide +kernel) rfl)
theorem ph_ml_RX6_52 : ph_ML RX6 52 yX8_within := Or.inr ⟨"PromptHoles", ph_ns_of 358 (by decide +kernel) rfl⟩
theorem ph_ml_RX6_56 : ph_ML RX6 56 yX7_valueAt := Or.inl (ph_tb_of 403 (by decide +kernel) rfl)
theorem ph_ml_RX8_340 : ph_ML RX8 340 yX6_perform := Or.inl (ph_tb_of 407 (by decide +kernel) rfl)
theorem ph_ml_RX6_59 : ph_ML RX6 59 yX6_nearest := Or.inl (ph_tb_of 411 (by decide +kernel) rfl)
theorem ph_ml_RX6_82 : ph_ML RX6 82 yX6_whereIn := Or.inl (ph_tb_of 415 (by decide +kernel) rfl)
theorem ph_ml_RX6_87 : ph_ML RX6 87 yX1_placeOf := Or.inl (ph_tb_of 419 (by decide +kernel) rfl)
theorem ph_ml_RX6_74 : Cond.methodLink RX6 74 Lib.Math.abs.name ∈ ph_tb := ph_tb_of 423 (by decide +kernel) rfl
theorem ph_ml_RX6_90 : ph_ML RX6 90 yX6_hears := Or.inl (ph_tb_of 426 (by decide +kernel) rfl)
theorem ph_ml_RX6_63 : ph_ML RX6 63 yX6_follow := Or.inl (ph_tb_of 430 (by decide +kernel) rfl)
theorem ph_ml_RX6_97 : ph_ML RX6 97 yX3_lineIn := Or.inl (ph_tb_of 434 (by decide +kernel) rfl)
theorem ph_ml_RX6_100 : ph_ML RX6 100 yX3_nextTo := Or.inl (ph_tb_of 435 (by decide +kernel) rfl)
theorem ph_ml_RX6_103 : ph_ML RX6 103 yX6_whispered := Or.inl (ph_tb_of 436 (by decide +kernel) rfl)
theorem ph_ml_RL_31 : ph_ML RL 31 yX8_line := Or.inl (ph_tb_of 440 (by decide +kernel) rfl)
theorem ph_ml_RX8_125 : ph_ML RX8 125 yX3_lineIn := Or.inl (ph_tb_of 444 (by decide +kernel) rfl)
theorem ph_ml_RL_35 : ph_ML RL 35 yX8_hole := Or.inl (ph_tb_of 445 (by decide +kernel) rfl)
theorem ph_ml_RX8_131 : ph_ML RX8 131 yX1_placeOf := Or.inl (ph_tb_of 449 (by decide +kernel) rfl)
theorem ph_ml_RX8_134 : ph_ML RX8 134 yX1_hearsOf := Or.inl (ph_tb_of 450 (by decide +kernel) rfl)
theorem ph_ml_RX8_137 : ph_ML RX8 137 yX1_habitOf := Or.inl (ph_tb_of 454 (by decide +kernel) rfl)
theorem ph_ml_RX8_140 : ph_ML RX8 140 yX1_lineOf := Or.inl (ph_tb_of 455 (by decide +kernel) rfl)
theorem ph_ml_RL_39 : ph_ML RL 39 yX8_printed := Or.inl (ph_tb_of 456 (by decide +kernel) rfl)
theorem ph_ml_RX8_143 : ph_ML RX8 143 yX3_nextTo := Or.inl (ph_tb_of 460 (by decide +kernel) rfl)
theorem ph_ml_RX8_146 : ph_ML RX8 146 yX3_aheadOf := Or.inl (ph_tb_of 461 (by decide +kernel) rfl)
theorem ph_ml_RL_43 : ph_ML RL 43 yX8_move := Or.inl (ph_tb_of 462 (by decide +kernel) rfl)
theorem ph_ml_RX8_149 : ph_ML RX8 149 yX8_tell := Or.inl (ph_tb_of 466 (by decide +kernel) rfl)
theorem ph_ml_RX8_343 : ph_ML RX8 343 yX7_isFull := Or.inl (ph_tb_of 469 (by decide +kernel) rfl)
theorem ph_ml_RX7_25 : ph_ML RX7 25 yX4_isFull := Or.inl (ph_tb_of 473 (by decide +kernel) rfl)
theorem ph_ml_RX8_344 : ph_ML RX8 344 yX7_add := Or.inl (ph_tb_of 474 (by decide +kernel) rfl)
theorem ph_ml_RX7_33 : ph_ML RX7 33 yX4_add := Or.inl (ph_tb_of 478 (by decide +kernel) rfl)
theorem ph_ml_RX8_153 : ph_ML RX8 153 yX7_size := Or.inl (ph_tb_of 479 (by decide +kernel) rfl)
theorem ph_ml_RL_47 : ph_ML RL 47 yX8_cough := Or.inl (ph_tb_of 480 (by decide +kernel) rfl)
theorem ph_ml_RL_51 : ph_ML RL 51 yX8_dark := Or.inl (ph_tb_of 484 (by decide +kernel) rfl)
theorem ph_ml_RL_55 : ph_ML RL 55 yX8_back := Or.inl (ph_tb_of 488 (by decide +kernel) rfl)
theorem ph_ml_RX8_154 : ph_ML RX8 154 yX7_cut := Or.inl (ph_tb_of 492 (by decide +kernel) rfl)
theorem ph_ml_RX7_36 : ph_ML RX7 36 yX4_cut := Or.inl (ph_tb_of 496 (by decide +kernel) rfl)
theorem ph_ml_RL_59 : ph_ML RL 59 yX8_read := Or.inl (ph_tb_of 497 (by decide +kernel) rfl)
theorem ph_ml_RX8_155 : ph_ML RX8 155 yX5_isLost := Or.inl (ph_tb_of 501 (by decide +kernel) rfl)
theorem ph_ml_RX5_21 : ph_ML RX5 21 yX5_formOf := Or.inl (ph_tb_of 505 (by decide +kernel) rfl)
theorem ph_ml_RX5_25 : ph_ML RX5 25 yX8_within := Or.inr ⟨"PromptHoles", ph_ns_of 465 (by decide +kernel) rfl⟩
theorem ph_ml_RX8_159 : ph_ML RX8 159 yX8_found := Or.inl (ph_tb_of 510 (by decide +kernel) rfl)
theorem ph_ml_RX8_162 : ph_ML RX8 162 yX5_sizeOf := Or.inl (ph_tb_of 514 (by decide +kernel) rfl)
theorem ph_ml_RX8_165 : ph_ML RX8 165 yX5_item := Or.inl (ph_tb_of 518 (by decide +kernel) rfl)
theorem ph_ml_RX8_169 : ph_ML RX8 169 yX8_move := Or.inl (ph_tb_of 522 (by decide +kernel) rfl)
theorem ph_ml_RL_63 : ph_ML RL 63 yX8_step := Or.inl (ph_tb_of 523 (by decide +kernel) rfl)
theorem ph_ml_RX8_172 : ph_ML RX8 172 yX6_playedIn := Or.inl (ph_tb_of 527 (by decide +kernel) rfl)
theorem ph_ml_RX8_175 : ph_ML RX8 175 yX6_byIn := Or.inl (ph_tb_of 531 (by decide +kernel) rfl)
theorem ph_ml_RX8_178 : ph_ML RX8 178 yX6_whereIn := Or.inl (ph_tb_of 535 (by decide +kernel) rfl)
theorem ph_ml_RX8_181 : ph_ML RX8 181 yX3_printedIn := Or.inl (ph_tb_of 536 (by decide +kernel) rfl)
theorem ph_ml_RL_67 : ph_ML RL 67 yX8_whispers := Or.inl (ph_tb_of 540 (by decide +kernel) rfl)
theorem ph_ml_RX8_184 : ph_ML RX8 184 yX6_hears := Or.inl (ph_tb_of 544 (by decide +kernel) rfl)
theorem ph_ml_RX8_188 : ph_ML RX8 188 yX6_coughsIn := Or.inl (ph_tb_of 545 (by decide +kernel) rfl)
theorem ph_ml_RX8_191 : ph_ML RX8 191 yX6_whispered := Or.inl (ph_tb_of 549 (by decide +kernel) rfl)
theorem ph_ml_RL_71 : ph_ML RL 71 yX8_drift := Or.inl (ph_tb_of 550 (by decide +kernel) rfl)
theorem ph_ml_RL_75 : ph_ML RL 75 yX8_round := Or.inl (ph_tb_of 554 (by decide +kernel) rfl)
theorem ph_ml_RX8_195 : ph_ML RX8 195 yX8_goesRound := Or.inl (ph_tb_of 558 (by decide +kernel) rfl)
theorem ph_ml_RL_80 : ph_ML RL 80 yX8_often := Or.inl (ph_tb_of 561 (by decide +kernel) rfl)
theorem ph_ml_RL_84 : ph_ML RL 84 yX8_may := Or.inl (ph_tb_of 565 (by decide +kernel) rfl)
theorem ph_ml_RX8_199 : ph_ML RX8 199 yX6_rehearse := Or.inl (ph_tb_of 569 (by decide +kernel) rfl)
theorem ph_ml_RX6_107 : ph_ML RX6 107 yX6_byIn := Or.inl (ph_tb_of 573 (by decide +kernel) rfl)
theorem ph_ml_RX6_110 : ph_ML RX6 110 yX6_coughsIn := Or.inl (ph_tb_of 574 (by decide +kernel) rfl)
theorem ph_ml_RX8_203 : ph_ML RX8 203 yX8_bitOf := Or.inl (ph_tb_of 575 (by decide +kernel) rfl)
theorem ph_ml_RL_88 : ph_ML RL 88 yX8_prompt := Or.inl (ph_tb_of 578 (by decide +kernel) rfl)
theorem ph_ml_RX8_206 : ph_ML RX8 206 yX6_leadingInto := Or.inl (ph_tb_of 582 (by decide +kernel) rfl)
theorem ph_ml_RX6_113 : ph_ML RX6 113 yX8_bitOf := Or.inr ⟨"PromptHoles", ph_ns_of 542 (by decide +kernel) rfl⟩
theorem ph_ml_RX8_209 : ph_ML RX8 209 yX8_lowestBit := Or.inl (ph_tb_of 587 (by decide +kernel) rfl)
theorem ph_ml_RX8_212 : Cond.methodLink RX8 212 Lib.Math.max.name ∈ ph_tb := ph_tb_of 590 (by decide +kernel) rfl
theorem ph_ml_RX8_217 : ph_ML RX8 217 yJ6_bitCount_0f7a4 := Or.inl (ph_tb_of 591 (by decide +kernel) rfl)
theorem ph_ml_RL_93 : ph_ML RL 93 yX8_seen := Or.inl (ph_tb_of 597 (by decide +kernel) rfl)
theorem ph_ml_RL_97 : ph_ML RL 97 yX8_forget := Or.inl (ph_tb_of 601 (by decide +kernel) rfl)
theorem ph_ml_RX8_222 : ph_ML RX8 222 yX7_clear := Or.inl (ph_tb_of 605 (by decide +kernel) rfl)
theorem ph_ml_RX7_39 : ph_ML RX7 39 yX4_clear := Or.inl (ph_tb_of 609 (by decide +kernel) rfl)
theorem ph_ml_RL_101 : ph_ML RL 101 yX8_filed := Or.inl (ph_tb_of 610 (by decide +kernel) rfl)
theorem ph_ml_RX8_223 : ph_ML RX8 223 yX6_rehearseFiled := Or.inl (ph_tb_of 614 (by decide +kernel) rfl)
theorem ph_ml_RX8_227 : ph_ML RX8 227 yX8_allSeenIn := Or.inl (ph_tb_of 618 (by decide +kernel) rfl)
theorem ph_ml_RX8_347 : ph_ML RX8 347 yX7_stepAt := Or.inl (ph_tb_of 622 (by decide +kernel) rfl)
theorem ph_ml_RX8_350 : ph_ML RX8 350 yX7_valueAt := Or.inl (ph_tb_of 623 (by decide +kernel) rfl)
theorem ph_ml_RL_105 : ph_ML RL 105 yX8_coughed := Or.inl (ph_tb_of 624 (by decide +kernel) rfl)
theorem ph_ml_RL_109 : ph_ML RL 109 yX8_ask := Or.inl (ph_tb_of 628 (by decide +kernel) rfl)
theorem ph_ml_RX8_231 : ph_ML RX8 231 yX8_tallyRehearsal := Or.inl (ph_tb_of 632 (by decide +kernel) rfl)
theorem ph_ml_RX8_234 : ph_ML RX8 234 yX8_greatestTally := Or.inl (ph_tb_of 636 (by decide +kernel) rfl)
theorem ph_ml_RL_113 : ph_ML RL 113 yX8_slips := Or.inl (ph_tb_of 640 (by decide +kernel) rfl)
theorem ph_ml_RX8_241 : ph_ML RX8 241 yX0_begin := Or.inl (ph_tb_of 645 (by decide +kernel) rfl)
theorem ph_ml_RX8_244 : ph_ML RX8 244 yX0_goOn := Or.inl (ph_tb_of 649 (by decide +kernel) rfl)
theorem ph_ml_RX0_28 : ph_ML RX0 28 yX6_coughsIn := Or.inl (ph_tb_of 653 (by decide +kernel) rfl)
theorem ph_ml_RX0_34 : ph_ML RX0 34 yX6_byIn := Or.inl (ph_tb_of 654 (by decide +kernel) rfl)
theorem ph_ml_RX0_37 : ph_ML RX0 37 yX6_follow := Or.inl (ph_tb_of 655 (by decide +kernel) rfl)
theorem ph_ml_RX0_41 : ph_ML RX0 41 yX0_put := Or.inl (ph_tb_of 656 (by decide +kernel) rfl)
theorem ph_ml_RX0_47 : ph_ML RX0 47 yX8_within := Or.inr ⟨"PromptHoles", ph_ns_of 616 (by decide +kernel) rfl⟩
theorem ph_ml_RX8_248 : ph_ML RX8 248 yX0_reduce := Or.inl (ph_tb_of 662 (by decide +kernel) rfl)
theorem ph_ml_RL_118 : ph_ML RL 118 yX8_evening := Or.inl (ph_tb_of 667 (by decide +kernel) rfl)
theorem ph_ml_RX8_258 : ph_ML RX8 258 yX2_begin := Or.inl (ph_tb_of 671 (by decide +kernel) rfl)
theorem ph_ml_RX8_259 : ph_ML RX8 259 yX2_drawCough := Or.inl (ph_tb_of 675 (by decide +kernel) rfl)
theorem ph_ml_RX2_14 : ph_ML RX2 14 yX2_draw := Or.inl (ph_tb_of 679 (by decide +kernel) rfl)
theorem ph_ml_RX8_262 : ph_ML RX8 262 yX6_follow := Or.inl (ph_tb_of 684 (by decide +kernel) rfl)
theorem ph_ml_RL_123 : ph_ML RL 123 yX8_sheet := Or.inl (ph_tb_of 685 (by decide +kernel) rfl)
theorem ph_ml_RX8_266 : ph_ML RX8 266 yX5_renew := Or.inl (ph_tb_of 689 (by decide +kernel) rfl)
theorem ph_ml_RL_127 : ph_ML RL 127 yX8_lose := Or.inl (ph_tb_of 693 (by decide +kernel) rfl)
theorem ph_ml_RX8_270 : ph_ML RX8 270 yX5_tear := Or.inl (ph_tb_of 697 (by decide +kernel) rfl)
theorem ph_ml_RL_131 : ph_ML RL 131 yX8_lay := Or.inl (ph_tb_of 701 (by decide +kernel) rfl)
theorem ph_ml_RX8_273 : ph_ML RX8 273 yX5_wrongWith := Or.inl (ph_tb_of 705 (by decide +kernel) rfl)
theorem ph_ml_RX5_29 : ph_ML RX5 29 yX5_isLost := Or.inl (ph_tb_of 709 (by decide +kernel) rfl)
theorem ph_ml_RX5_33 : ph_ML RX5 33 yX5_sizeOf := Or.inl (ph_tb_of 710 (by decide +kernel) rfl)
theorem ph_ml_RX8_276 : ph_ML RX8 276 yX5_put := Or.inl (ph_tb_of 711 (by decide +kernel) rfl)
theorem ph_ml_RL_135 : ph_ML RL 135 yX8_get := Or.inl (ph_tb_of 715 (by decide +kernel) rfl)
theorem ph_ml_RL_139 : ph_ML RL 139 yX8_copy := Or.inl (ph_tb_of 720 (by decide +kernel) rfl)
theorem ph_ml_RX8_280 : ph_ML RX8 280 yX5_formOf := Or.inl (ph_tb_of 724 (by decide +kernel) rfl)
theorem ph_ml_RX8_283 : ph_ML RX8 283 yX5_hasRun := Or.inl (ph_tb_of 725 (by decide +kernel) rfl)
theorem ph_ml_RX8_286 : ph_ML RX8 286 yX5_carry := Or.inl (ph_tb_of 729 (by decide +kernel) rfl)
theorem ph_ml_RX5_36 : ph_ML RX5 36 yX5_item := Or.inl (ph_tb_of 733 (by decide +kernel) rfl)
theorem ph_ml_RX5_40 : ph_ML RX5 40 yX5_put := Or.inl (ph_tb_of 734 (by decide +kernel) rfl)
theorem ph_ml_RL_144 : ph_ML RL 144 yX8_write := Or.inl (ph_tb_of 735 (by decide +kernel) rfl)
theorem ph_ml_RX8_290 : Cond.methodLink RX8 290 Lib.Math.min.name ∈ ph_tb := ph_tb_of 739 (by decide +kernel) rfl
theorem ph_ml_RL_148 : ph_ML RL 148 yX8_count := Or.inl (ph_tb_of 740 (by decide +kernel) rfl)
theorem ph_ml_RL_152 : ph_ML RL 152 yX8_digest := Or.inl (ph_tb_of 744 (by decide +kernel) rfl)
theorem ph_ml_RX8_300 : ph_ML RX8 300 yX8_count := Or.inl (ph_tb_of 750 (by decide +kernel) rfl)
theorem ph_ml_RX8_303 : ph_ML RX8 303 yX8_fault := Or.inl (ph_tb_of 751 (by decide +kernel) rfl)
theorem ph_ml_RX8_305 : ph_ML RX8 305 yX8_mixLine := Or.inl (ph_tb_of 752 (by decide +kernel) rfl)
theorem ph_ml_RX8_353 : ph_ML RX8 353 yX8_printed := Or.inl (ph_tb_of 756 (by decide +kernel) rfl)
theorem ph_ml_RX8_356 : ph_ML RX8 356 yX8_often := Or.inl (ph_tb_of 757 (by decide +kernel) rfl)
theorem ph_ml_RX8_359 : ph_ML RX8 359 yX8_slips := Or.inl (ph_tb_of 758 (by decide +kernel) rfl)
theorem ph_ml_RX8_363 : ph_ML RX8 363 yX8_prompt := Or.inl (ph_tb_of 759 (by decide +kernel) rfl)
theorem ph_ml_RX8_309 : ph_ML RX8 309 yX8_mixHole := Or.inl (ph_tb_of 760 (by decide +kernel) rfl)
theorem ph_ml_RX8_366 : ph_ML RX8 366 yX8_hole := Or.inl (ph_tb_of 764 (by decide +kernel) rfl)
theorem ph_ml_RX8_369 : ph_ML RX8 369 yX8_whispers := Or.inl (ph_tb_of 765 (by decide +kernel) rfl)
theorem ph_ml_RX8_372 : ph_ML RX8 372 yX8_coughed := Or.inl (ph_tb_of 766 (by decide +kernel) rfl)
theorem ph_ml_RX8_375 : ph_ML RX8 375 yX8_ask := Or.inl (ph_tb_of 767 (by decide +kernel) rfl)
theorem ph_ml_RX8_315 : ph_ML RX8 315 yX8_mixStep := Or.inl (ph_tb_of 770 (by decide +kernel) rfl)
theorem ph_ml_RX8_378 : ph_ML RX8 378 yX8_step := Or.inl (ph_tb_of 774 (by decide +kernel) rfl)
theorem ph_ml_RX8_381 : ph_ML RX8 381 yX8_may := Or.inl (ph_tb_of 775 (by decide +kernel) rfl)
theorem ph_ml_RX8_384 : ph_ML RX8 384 yX8_evening := Or.inl (ph_tb_of 776 (by decide +kernel) rfl)
theorem ph_ml_RX8_318 : ph_ML RX8 318 yX8_drift := Or.inl (ph_tb_of 777 (by decide +kernel) rfl)
theorem ph_ml_RX8_321 : ph_ML RX8 321 yX8_round := Or.inl (ph_tb_of 778 (by decide +kernel) rfl)
theorem ph_ml_RX8_324 : ph_ML RX8 324 yX8_filed := Or.inl (ph_tb_of 779 (by decide +kernel) rfl)
theorem ph_ml_RL_126 : ph_ML RL 126 yX9_sheet := Or.inl (ph_tb_of 871 (by decide +kernel) rfl)
theorem ph_ml_RX9_79 : ph_ML RX9 79 yX9_isSheet := Or.inl (ph_tb_of 875 (by decide +kernel) rfl)
theorem ph_ml_RX9_70 : ph_ML RX9 70 yX9_in := Or.inl (ph_tb_of 879 (by decide +kernel) rfl)
theorem ph_ml_RX9_85 : ph_ML RX9 85 yX9_finds := Or.inl (ph_tb_of 883 (by decide +kernel) rfl)
theorem ph_ml_RL_130 : ph_ML RL 130 yX9_lose := Or.inl (ph_tb_of 887 (by decide +kernel) rfl)
theorem ph_ml_RL_134 : ph_ML RL 134 yX9_lay := Or.inl (ph_tb_of 891 (by decide +kernel) rfl)
theorem ph_ml_RX9_89 : ph_ML RX9 89 yX9_lacks := Or.inl (ph_tb_of 895 (by decide +kernel) rfl)
theorem ph_ml_RX9_93 : ph_ML RX9 93 yX9_cut := Or.inl (ph_tb_of 899 (by decide +kernel) rfl)
theorem ph_ml_RL_138 : ph_ML RL 138 yX9_get := Or.inl (ph_tb_of 902 (by decide +kernel) rfl)
theorem ph_ml_RL_143 : ph_ML RL 143 yX9_copy := Or.inl (ph_tb_of 907 (by decide +kernel) rfl)
theorem ph_ml_RL_17 : ph_ML RL 17 yX9_type := Or.inl (ph_tb_of 911 (by decide +kernel) rfl)
theorem ph_ml_RX9_98 : ph_ML RX9 98 yX9_isTwo := Or.inl (ph_tb_of 915 (by decide +kernel) rfl)
theorem ph_ml_RL_22 : ph_ML RL 22 yX9_wipe := Or.inl (ph_tb_of 919 (by decide +kernel) rfl)
theorem ph_ml_RL_26 : ph_ML RL 26 yX9_undo := Or.inl (ph_tb_of 923 (by decide +kernel) rfl)
theorem ph_ml_RL_30 : ph_ML RL 30 yX9_fault := Or.inl (ph_tb_of 927 (by decide +kernel) rfl)
theorem ph_ml_RX9_119 : ph_ML RX9 119 yX9_readsPlay := Or.inl (ph_tb_of 931 (by decide +kernel) rfl)
theorem ph_ml_RX9_123 : ph_ML RX9 123 yX9_readsHoles := Or.inl (ph_tb_of 937 (by decide +kernel) rfl)
theorem ph_ml_RX9_116 : ph_ML RX9 116 yX9_tellsOf := Or.inl (ph_tb_of 941 (by decide +kernel) rfl)
theorem ph_ml_RX9_110 : ph_ML RX9 110 yX9_within := Or.inl (ph_tb_of 944 (by decide +kernel) rfl)
theorem ph_ml_RL_34 : ph_ML RL 34 yX9_line := Or.inl (ph_tb_of 947 (by decide +kernel) rfl)
theorem ph_ml_RX9_130 : ph_ML RX9 130 yX9_reads := Or.inl (ph_tb_of 951 (by decide +kernel) rfl)
theorem ph_ml_RL_38 : ph_ML RL 38 yX9_hole := Or.inl (ph_tb_of 956 (by decide +kernel) rfl)
theorem ph_ml_RX9_135 : ph_ML RX9 135 yX9_isHole := Or.inl (ph_tb_of 960 (by decide +kernel) rfl)
theorem ph_ml_RL_42 : ph_ML RL 42 yX9_printed := Or.inl (ph_tb_of 964 (by decide +kernel) rfl)
theorem ph_ml_RX9_138 : ph_ML RX9 138 yX9_isLine := Or.inl (ph_tb_of 968 (by decide +kernel) rfl)
theorem ph_ml_RX9_141 : ph_ML RX9 141 yX9_printedBy := Or.inl (ph_tb_of 972 (by decide +kernel) rfl)
theorem ph_ml_RL_46 : ph_ML RL 46 yX9_move := Or.inl (ph_tb_of 976 (by decide +kernel) rfl)
theorem ph_ml_RX9_144 : ph_ML RX9 144 yX9_isStep := Or.inl (ph_tb_of 980 (by decide +kernel) rfl)
theorem ph_ml_RL_50 : ph_ML RL 50 yX9_cough := Or.inl (ph_tb_of 985 (by decide +kernel) rfl)
theorem ph_ml_RL_54 : ph_ML RL 54 yX9_dark := Or.inl (ph_tb_of 990 (by decide +kernel) rfl)
theorem ph_ml_RL_58 : ph_ML RL 58 yX9_back := Or.inl (ph_tb_of 994 (by decide +kernel) rfl)
theorem ph_ml_RL_62 : ph_ML RL 62 yX9_read := Or.inl (ph_tb_of 998 (by decide +kernel) rfl)
theorem ph_ml_RX9_160 : ph_ML RX9 160 yX9_move := Or.inl (ph_tb_of 1002 (by decide +kernel) rfl)
theorem ph_ml_RL_66 : ph_ML RL 66 yX9_step := Or.inl (ph_tb_of 1003 (by decide +kernel) rfl)
theorem ph_ml_RX9_198 : ph_ML RX9 198 yX9_find := Or.inl (ph_tb_of 1007 (by decide +kernel) rfl)
theorem ph_ml_RX9_188 : ph_ML RX9 188 yX9_plain := Or.inl (ph_tb_of 1011 (by decide +kernel) rfl)
theorem ph_ml_RX9_162 : ph_ML RX9 162 yX9_whereAt := Or.inl (ph_tb_of 1015 (by decide +kernel) rfl)
theorem ph_ml_RX9_191 : ph_ML RX9 191 yX9_lives := Or.inl (ph_tb_of 1019 (by decide +kernel) rfl)
theorem ph_ml_RX9_184 : ph_ML RX9 184 yX9_plays := Or.inl (ph_tb_of 1023 (by decide +kernel) rfl)
theorem ph_ml_RX9_165 : ph_ML RX9 165 yX9_isDark := Or.inl (ph_tb_of 1027 (by decide +kernel) rfl)
theorem ph_ml_RX9_181 : ph_ML RX9 181 yX9_whispersNow := Or.inl (ph_tb_of 1031 (by decide +kernel) rfl)
theorem ph_ml_RX9_168 : ph_ML RX9 168 yX9_amount := Or.inl (ph_tb_of 1035 (by decide +kernel) rfl)
theorem ph_ml_RX9_171 : ph_ML RX9 171 yX9_habitOf := Or.inl (ph_tb_of 1038 (by decide +kernel) rfl)
theorem ph_ml_RX9_174 : ph_ML RX9 174 yX9_isIn := Or.inl (ph_tb_of 1042 (by decide +kernel) rfl)
theorem ph_ml_RX9_201 : ph_ML RX9 201 yX9_stepOf := Or.inl (ph_tb_of 1045 (by decide +kernel) rfl)
theorem ph_ml_RX9_195 : ph_ML RX9 195 yX9_printedIn := Or.inl (ph_tb_of 1049 (by decide +kernel) rfl)
theorem ph_ml_RL_70 : ph_ML RL 70 yX9_whispers := Or.inl (ph_tb_of 1053 (by decide +kernel) rfl)
theorem ph_ml_RL_74 : ph_ML RL 74 yX9_drift := Or.inl (ph_tb_of 1057 (by decide +kernel) rfl)
theorem ph_ml_RX9_207 : ph_ML RX9 207 yX9_driftOf := Or.inl (ph_tb_of 1061 (by decide +kernel) rfl)
theorem ph_ml_RX9_204 : ph_ML RX9 204 yX9_driftTo := Or.inl (ph_tb_of 1065 (by decide +kernel) rfl)
theorem ph_ml_RL_79 : ph_ML RL 79 yX9_round := Or.inl (ph_tb_of 1069 (by decide +kernel) rfl)
theorem ph_ml_RX9_210 : ph_ML RX9 210 yX9_roundNow := Or.inl (ph_tb_of 1073 (by decide +kernel) rfl)
theorem ph_ml_RL_83 : ph_ML RL 83 yX9_often := Or.inl (ph_tb_of 1077 (by decide +kernel) rfl)
theorem ph_ml_RX9_213 : ph_ML RX9 213 yX9_oftenOf := Or.inl (ph_tb_of 1081 (by decide +kernel) rfl)
theorem ph_ml_RL_87 : ph_ML RL 87 yX9_may := Or.inl (ph_tb_of 1085 (by decide +kernel) rfl)
theorem ph_ml_RX9_216 : ph_ML RX9 216 yX9_mayOf := Or.inl (ph_tb_of 1089 (by decide +kernel) rfl)
theorem ph_ml_RL_92 : ph_ML RL 92 yX9_prompt := Or.inl (ph_tb_of 1093 (by decide +kernel) rfl)
theorem ph_ml_RX9_219 : ph_ML RX9 219 yX9_promptOf := Or.inl (ph_tb_of 1097 (by decide +kernel) rfl)
theorem ph_ml_RL_96 : ph_ML RL 96 yX9_seen := Or.inl (ph_tb_of 1101 (by decide +kernel) rfl)
theorem ph_ml_RL_100 : ph_ML RL 100 yX9_forget := Or.inl (ph_tb_of 1105 (by decide +kernel) rfl)
theorem ph_ml_RL_104 : ph_ML RL 104 yX9_filed := Or.inl (ph_tb_of 1109 (by decide +kernel) rfl)
theorem ph_ml_RX9_230 : ph_ML RX9 230 yX9_filedNow := Or.inl (ph_tb_of 1113 (by decide +kernel) rfl)
theorem ph_ml_RX9_226 : ph_ML RX9 226 yX9_isSeen := Or.inl (ph_tb_of 1117 (by decide +kernel) rfl)
theorem ph_ml_RL_108 : ph_ML RL 108 yX9_coughed := Or.inl (ph_tb_of 1121 (by decide +kernel) rfl)
theorem ph_ml_RX9_233 : ph_ML RX9 233 yX9_coughedOf := Or.inl (ph_tb_of 1125 (by decide +kernel) rfl)
theorem ph_ml_RL_112 : ph_ML RL 112 yX9_ask := Or.inl (ph_tb_of 1129 (by decide +kernel) rfl)
theorem ph_ml_RX9_236 : ph_ML RX9 236 yX9_askOf := Or.inl (ph_tb_of 1133 (by decide +kernel) rfl)
theorem ph_ml_RL_117 : ph_ML RL 117 yX9_slips := Or.inl (ph_tb_of 1137 (by decide +kernel) rfl)
theorem ph_ml_RX9_245 : ph_ML RX9 245 yX9_slipsOf := Or.inl (ph_tb_of 1142 (by decide +kernel) rfl)
theorem ph_ml_RX9_241 : ph_ML RX9 241 yX9_part := Or.inl (ph_tb_of 1146 (by decide +kernel) rfl)
theorem ph_ml_RX9_249 : ph_ML RX9 249 yX9_no := Or.inl (ph_tb_of 1149 (by decide +kernel) rfl)
theorem ph_ml_RL_122 : ph_ML RL 122 yX9_evening := Or.inl (ph_tb_of 1153 (by decide +kernel) rfl)
theorem ph_ml_RX9_260 : ph_ML RX9 260 yX9_eveningOf := Or.inl (ph_tb_of 1157 (by decide +kernel) rfl)
theorem ph_ml_RX9_257 : ph_ML RX9 257 yX9_lot := Or.inl (ph_tb_of 1161 (by decide +kernel) rfl)
theorem ph_ml_RL_147 : ph_ML RL 147 yX9_write := Or.inl (ph_tb_of 1166 (by decide +kernel) rfl)
theorem ph_ml_RX9_263 : ph_ML RX9 263 yX9_lesser := Or.inl (ph_tb_of 1170 (by decide +kernel) rfl)
theorem ph_ml_RL_151 : ph_ML RL 151 yX9_count := Or.inl (ph_tb_of 1173 (by decide +kernel) rfl)
theorem ph_ml_RL_156 : ph_ML RL 156 yX9_digest := Or.inl (ph_tb_of 1177 (by decide +kernel) rfl)
theorem ph_ml_RX9_273 : ph_ML RX9 273 yX9_count := Or.inl (ph_tb_of 1183 (by decide +kernel) rfl)
theorem ph_ml_RX9_276 : ph_ML RX9 276 yX9_tellsLine := Or.inl (ph_tb_of 1184 (by decide +kernel) rfl)
theorem ph_ml_RX9_268 : ph_ML RX9 268 yX9_slips := Or.inl (ph_tb_of 1188 (by decide +kernel) rfl)
end
section
theorem zz_t : True := trivial
end
