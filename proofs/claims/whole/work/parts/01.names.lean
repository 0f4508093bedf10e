/-- a private method of a class that the tables say can be made, by its rows of tables_1 -/
def lw_okq (q : MethodName × Nat) : Prop := (q.1.cls ≠ "java/lang/invoke/MethodHandle" ∧ q.1.cls ≠ "java/lang/invoke/VarHandle") ∧ Cond.instantiable q.1.cls q.2 ∈ tables_1 ∧ Cond.privateMethod q.1 ∈ tables_1 ∧ Cond.instanceMethod q.1 ∈ tables_1
theorem lw_p0 : lw_okq (⟨"PalmsAltered$Scene", "hasPart", "(II)Z"⟩, 10) := ⟨⟨by decide +kernel, by decide +kernel⟩, List.mem_of_getElem? (i := 126) (by decide +kernel), List.mem_of_getElem? (i := 317) (by decide +kernel), List.mem_of_getElem? (i := 318) (by decide +kernel)⟩
theorem lw_p1 : lw_okq (⟨"PalmsAltered", "ofLine", "(III)I"⟩, 15) := ⟨⟨by decide +kernel, by decide +kernel⟩, List.mem_of_getElem? (i := 18) (by decide +kernel), List.mem_of_getElem? (i := 321) (by decide +kernel), List.mem_of_getElem? (i := 322) (by decide +kernel)⟩
theorem lw_p2 : lw_okq (⟨"PalmsAltered$Scene", "wearsGloves", "(I)Z"⟩, 10) := ⟨⟨by decide +kernel, by decide +kernel⟩, List.mem_of_getElem? (i := 126) (by decide +kernel), List.mem_of_getElem? (i := 364) (by decide +kernel), List.mem_of_getElem? (i := 365) (by decide +kernel)⟩
theorem lw_p3 : lw_okq (⟨"PalmsAltered$Scene", "printLine", "(III)I"⟩, 10) := ⟨⟨by decide +kernel, by decide +kernel⟩, List.mem_of_getElem? (i := 126) (by decide +kernel), List.mem_of_getElem? (i := 368) (by decide +kernel), List.mem_of_getElem? (i := 369) (by decide +kernel)⟩
theorem lw_p4 : lw_okq (⟨"PalmsAltered$Text", "isClause", "()Z"⟩, 8) := ⟨⟨by decide +kernel, by decide +kernel⟩, List.mem_of_getElem? (i := 41) (by decide +kernel), List.mem_of_getElem? (i := 395) (by decide +kernel), List.mem_of_getElem? (i := 396) (by decide +kernel)⟩
theorem lw_p5 : lw_okq (⟨"PalmsAltered$Text", "take", "(C)Z"⟩, 8) := ⟨⟨by decide +kernel, by decide +kernel⟩, List.mem_of_getElem? (i := 41) (by decide +kernel), List.mem_of_getElem? (i := 399) (by decide +kernel), List.mem_of_getElem? (i := 400) (by decide +kernel)⟩
theorem lw_p6 : lw_okq (⟨"PalmsAltered$Text", "takeAll", "(Ljava/lang/String;)Z"⟩, 8) := ⟨⟨by decide +kernel, by decide +kernel⟩, List.mem_of_getElem? (i := 41) (by decide +kernel), List.mem_of_getElem? (i := 404) (by decide +kernel), List.mem_of_getElem? (i := 405) (by decide +kernel)⟩
theorem lw_p7 : lw_okq (⟨"PalmsAltered$Text", "takeNumber", "()I"⟩, 8) := ⟨⟨by decide +kernel, by decide +kernel⟩, List.mem_of_getElem? (i := 41) (by decide +kernel), List.mem_of_getElem? (i := 447) (by decide +kernel), List.mem_of_getElem? (i := 448) (by decide +kernel)⟩
theorem lw_p8 : lw_okq (⟨"PalmsAltered$Text", "isEither", "(I)Z"⟩, 8) := ⟨⟨by decide +kernel, by decide +kernel⟩, List.mem_of_getElem? (i := 41) (by decide +kernel), List.mem_of_getElem? (i := 456) (by decide +kernel), List.mem_of_getElem? (i := 457) (by decide +kernel)⟩
theorem lw_p9 : lw_okq (⟨"PalmsAltered$Text", "isBoth", "(I)Z"⟩, 8) := ⟨⟨by decide +kernel, by decide +kernel⟩, List.mem_of_getElem? (i := 41) (by decide +kernel), List.mem_of_getElem? (i := 460) (by decide +kernel), List.mem_of_getElem? (i := 461) (by decide +kernel)⟩
theorem lw_p10 : lw_okq (⟨"PalmsAltered$Text", "isOne", "(I)Z"⟩, 8) := ⟨⟨by decide +kernel, by decide +kernel⟩, List.mem_of_getElem? (i := 41) (by decide +kernel), List.mem_of_getElem? (i := 464) (by decide +kernel), List.mem_of_getElem? (i := 465) (by decide +kernel)⟩
theorem lw_p11 : lw_okq (⟨"PalmsAltered$Text", "emit", "(II)Z"⟩, 8) := ⟨⟨by decide +kernel, by decide +kernel⟩, List.mem_of_getElem? (i := 41) (by decide +kernel), List.mem_of_getElem? (i := 468) (by decide +kernel), List.mem_of_getElem? (i := 469) (by decide +kernel)⟩
theorem lw_p12 : lw_okq (⟨"PalmsAltered$Text", "isTest", "()Z"⟩, 8) := ⟨⟨by decide +kernel, by decide +kernel⟩, List.mem_of_getElem? (i := 41) (by decide +kernel), List.mem_of_getElem? (i := 472) (by decide +kernel), List.mem_of_getElem? (i := 473) (by decide +kernel)⟩
theorem lw_p13 : lw_okq (⟨"PalmsAltered$Text", "takeOneOf", "(Ljava/lang/String;)I"⟩, 8) := ⟨⟨by decide +kernel, by decide +kernel⟩, List.mem_of_getElem? (i := 41) (by decide +kernel), List.mem_of_getElem? (i := 477) (by decide +kernel), List.mem_of_getElem? (i := 478) (by decide +kernel)⟩
theorem lw_p14 : lw_okq (⟨"PalmsAltered$Scene", "fadesOver", "(II)I"⟩, 10) := ⟨⟨by decide +kernel, by decide +kernel⟩, List.mem_of_getElem? (i := 126) (by decide +kernel), List.mem_of_getElem? (i := 586) (by decide +kernel), List.mem_of_getElem? (i := 587) (by decide +kernel)⟩
theorem lw_p15 : lw_okq (⟨"PalmsAltered", "ifDrawn", "(IIII)LPalmsAltered$Scene;"⟩, 15) := ⟨⟨by decide +kernel, by decide +kernel⟩, List.mem_of_getElem? (i := 18) (by decide +kernel), List.mem_of_getElem? (i := 612) (by decide +kernel), List.mem_of_getElem? (i := 613) (by decide +kernel)⟩
def lw_privs_1 : List (MethodName × Nat) := [(⟨"PalmsAltered$Scene", "hasPart", "(II)Z"⟩, 10), (⟨"PalmsAltered", "ofLine", "(III)I"⟩, 15), (⟨"PalmsAltered$Scene", "wearsGloves", "(I)Z"⟩, 10), (⟨"PalmsAltered$Scene", "printLine", "(III)I"⟩, 10), (⟨"PalmsAltered$Text", "isClause", "()Z"⟩, 8), (⟨"PalmsAltered$Text", "take", "(C)Z"⟩, 8), (⟨"PalmsAltered$Text", "takeAll", "(Ljava/lang/String;)Z"⟩, 8), (⟨"PalmsAltered$Text", "takeNumber", "()I"⟩, 8), (⟨"PalmsAltered$Text", "isEither", "(I)Z"⟩, 8), (⟨"PalmsAltered$Text", "isBoth", "(I)Z"⟩, 8), (⟨"PalmsAltered$Text", "isOne", "(I)Z"⟩, 8), (⟨"PalmsAltered$Text", "emit", "(II)Z"⟩, 8), (⟨"PalmsAltered$Text", "isTest", "()Z"⟩, 8), (⟨"PalmsAltered$Text", "takeOneOf", "(Ljava/lang/String;)I"⟩, 8), (⟨"PalmsAltered$Scene", "fadesOver", "(II)I"⟩, 10), (⟨"PalmsAltered", "ifDrawn", "(IIII)LPalmsAltered$Scene;"⟩, 15)]
theorem lw_r1 : ∀ q ∈ lw_privs_1, lw_okq q := List.forall_mem_cons.mpr ⟨lw_p0, List.forall_mem_cons.mpr ⟨lw_p1, List.forall_mem_cons.mpr ⟨lw_p2, List.forall_mem_cons.mpr ⟨lw_p3, List.forall_mem_cons.mpr ⟨lw_p4, List.forall_mem_cons.mpr ⟨lw_p5, List.forall_mem_cons.mpr ⟨lw_p6, List.forall_mem_cons.mpr ⟨lw_p7, List.forall_mem_cons.mpr ⟨lw_p8, List.forall_mem_cons.mpr ⟨lw_p9, List.forall_mem_cons.mpr ⟨lw_p10, List.forall_mem_cons.mpr ⟨lw_p11, List.forall_mem_cons.mpr ⟨lw_p12, List.forall_mem_cons.mpr ⟨lw_p13, List.forall_mem_cons.mpr ⟨lw_p14, List.forall_mem_cons.mpr ⟨lw_p15, fun _ h => absurd h List.not_mem_nil⟩⟩⟩⟩⟩⟩⟩⟩⟩⟩⟩⟩⟩⟩⟩⟩
theorem lw_p16 : lw_okq (⟨"PalmsAltered", "ifShaken", "(II)LPalmsAltered$Scene;"⟩, 15) := ⟨⟨by decide +kernel, by decide +kernel⟩, List.mem_of_getElem? (i := 18) (by decide +kernel), List.mem_of_getElem? (i := 620) (by decide +kernel), List.mem_of_getElem? (i := 621) (by decide +kernel)⟩
theorem lw_p17 : lw_okq (⟨"PalmsAltered", "firstOtherwise", "(LPalmsAltered$Scene;)I"⟩, 15) := ⟨⟨by decide +kernel, by decide +kernel⟩, List.mem_of_getElem? (i := 18) (by decide +kernel), List.mem_of_getElem? (i := 640) (by decide +kernel), List.mem_of_getElem? (i := 641) (by decide +kernel)⟩
theorem lw_p18 : lw_okq (⟨"PalmsAltered", "isSoAfter", "(II)Z"⟩, 15) := ⟨⟨by decide +kernel, by decide +kernel⟩, List.mem_of_getElem? (i := 18) (by decide +kernel), List.mem_of_getElem? (i := 652) (by decide +kernel), List.mem_of_getElem? (i := 653) (by decide +kernel)⟩
theorem lw_p19 : lw_okq (⟨"PalmsAltered", "isAllSeenSo", "(LPalmsAltered$Scene;)Z"⟩, 15) := ⟨⟨by decide +kernel, by decide +kernel⟩, List.mem_of_getElem? (i := 18) (by decide +kernel), List.mem_of_getElem? (i := 664) (by decide +kernel), List.mem_of_getElem? (i := 665) (by decide +kernel)⟩
theorem lw_p20 : lw_okq (⟨"PalmsAltered$Acts", "own", "(III)I"⟩, 5) := ⟨⟨by decide +kernel, by decide +kernel⟩, List.mem_of_getElem? (i := 73) (by decide +kernel), List.mem_of_getElem? (i := 745) (by decide +kernel), List.mem_of_getElem? (i := 746) (by decide +kernel)⟩
theorem lw_p21 : lw_okq (⟨"PalmsAltered$Acts", "run", "(III)I"⟩, 5) := ⟨⟨by decide +kernel, by decide +kernel⟩, List.mem_of_getElem? (i := 73) (by decide +kernel), List.mem_of_getElem? (i := 756) (by decide +kernel), List.mem_of_getElem? (i := 757) (by decide +kernel)⟩
theorem lw_p22 : lw_okq (⟨"PalmsAltered$Acts", "begun", "(I)V"⟩, 5) := ⟨⟨by decide +kernel, by decide +kernel⟩, List.mem_of_getElem? (i := 73) (by decide +kernel), List.mem_of_getElem? (i := 760) (by decide +kernel), List.mem_of_getElem? (i := 761) (by decide +kernel)⟩
theorem lw_p23 : lw_okq (⟨"PalmsAltered$Acts", "above", "(IIII)I"⟩, 5) := ⟨⟨by decide +kernel, by decide +kernel⟩, List.mem_of_getElem? (i := 73) (by decide +kernel), List.mem_of_getElem? (i := 764) (by decide +kernel), List.mem_of_getElem? (i := 765) (by decide +kernel)⟩
theorem lw_p24 : lw_okq (⟨"PalmsAltered$Tape", "cut", "(J)J"⟩, 3) := ⟨⟨by decide +kernel, by decide +kernel⟩, List.mem_of_getElem? (i := 178) (by decide +kernel), List.mem_of_getElem? (i := 819) (by decide +kernel), List.mem_of_getElem? (i := 820) (by decide +kernel)⟩
theorem lw_p25 : lw_okq (⟨"PalmsAlteredModel", "in", "(III)Z"⟩, 69) := ⟨⟨by decide +kernel, by decide +kernel⟩, List.mem_of_getElem? (i := 836) (by decide +kernel), List.mem_of_getElem? (i := 1055) (by decide +kernel), List.mem_of_getElem? (i := 1056) (by decide +kernel)⟩
theorem lw_p26 : lw_okq (⟨"PalmsAlteredModel", "isLength", "(I)Z"⟩, 69) := ⟨⟨by decide +kernel, by decide +kernel⟩, List.mem_of_getElem? (i := 836) (by decide +kernel), List.mem_of_getElem? (i := 1059) (by decide +kernel), List.mem_of_getElem? (i := 1060) (by decide +kernel)⟩
theorem lw_p27 : lw_okq (⟨"PalmsAlteredModel", "isHand", "(I)Z"⟩, 69) := ⟨⟨by decide +kernel, by decide +kernel⟩, List.mem_of_getElem? (i := 836) (by decide +kernel), List.mem_of_getElem? (i := 1067) (by decide +kernel), List.mem_of_getElem? (i := 1068) (by decide +kernel)⟩
theorem lw_p28 : lw_okq (⟨"PalmsAlteredModel", "isLine", "(I)Z"⟩, 69) := ⟨⟨by decide +kernel, by decide +kernel⟩, List.mem_of_getElem? (i := 836) (by decide +kernel), List.mem_of_getElem? (i := 1071) (by decide +kernel), List.mem_of_getElem? (i := 1072) (by decide +kernel)⟩
theorem lw_p29 : lw_okq (⟨"PalmsAlteredModel", "goesText", "(I)Z"⟩, 69) := ⟨⟨by decide +kernel, by decide +kernel⟩, List.mem_of_getElem? (i := 836) (by decide +kernel), List.mem_of_getElem? (i := 1091) (by decide +kernel), List.mem_of_getElem? (i := 1092) (by decide +kernel)⟩
theorem lw_p30 : lw_okq (⟨"PalmsAlteredModel", "takesClause", "(I)Z"⟩, 69) := ⟨⟨by decide +kernel, by decide +kernel⟩, List.mem_of_getElem? (i := 836) (by decide +kernel), List.mem_of_getElem? (i := 1095) (by decide +kernel), List.mem_of_getElem? (i := 1096) (by decide +kernel)⟩
theorem lw_p31 : lw_okq (⟨"PalmsAlteredModel", "takesHead", "(I)Z"⟩, 69) := ⟨⟨by decide +kernel, by decide +kernel⟩, List.mem_of_getElem? (i := 836) (by decide +kernel), List.mem_of_getElem? (i := 1099) (by decide +kernel), List.mem_of_getElem? (i := 1100) (by decide +kernel)⟩
def lw_privs_2 : List (MethodName × Nat) := [(⟨"PalmsAltered", "ifShaken", "(II)LPalmsAltered$Scene;"⟩, 15), (⟨"PalmsAltered", "firstOtherwise", "(LPalmsAltered$Scene;)I"⟩, 15), (⟨"PalmsAltered", "isSoAfter", "(II)Z"⟩, 15), (⟨"PalmsAltered", "isAllSeenSo", "(LPalmsAltered$Scene;)Z"⟩, 15), (⟨"PalmsAltered$Acts", "own", "(III)I"⟩, 5), (⟨"PalmsAltered$Acts", "run", "(III)I"⟩, 5), (⟨"PalmsAltered$Acts", "begun", "(I)V"⟩, 5), (⟨"PalmsAltered$Acts", "above", "(IIII)I"⟩, 5), (⟨"PalmsAltered$Tape", "cut", "(J)J"⟩, 3), (⟨"PalmsAlteredModel", "in", "(III)Z"⟩, 69), (⟨"PalmsAlteredModel", "isLength", "(I)Z"⟩, 69), (⟨"PalmsAlteredModel", "isHand", "(I)Z"⟩, 69), (⟨"PalmsAlteredModel", "isLine", "(I)Z"⟩, 69), (⟨"PalmsAlteredModel", "goesText", "(I)Z"⟩, 69), (⟨"PalmsAlteredModel", "takesClause", "(I)Z"⟩, 69), (⟨"PalmsAlteredModel", "takesHead", "(I)Z"⟩, 69)]
theorem lw_r2 : ∀ q ∈ lw_privs_2, lw_okq q := List.forall_mem_cons.mpr ⟨lw_p16, List.forall_mem_cons.mpr ⟨lw_p17, List.forall_mem_cons.mpr ⟨lw_p18, List.forall_mem_cons.mpr ⟨lw_p19, List.forall_mem_cons.mpr ⟨lw_p20, List.forall_mem_cons.mpr ⟨lw_p21, List.forall_mem_cons.mpr ⟨lw_p22, List.forall_mem_cons.mpr ⟨lw_p23, List.forall_mem_cons.mpr ⟨lw_p24, List.forall_mem_cons.mpr ⟨lw_p25, List.forall_mem_cons.mpr ⟨lw_p26, List.forall_mem_cons.mpr ⟨lw_p27, List.forall_mem_cons.mpr ⟨lw_p28, List.forall_mem_cons.mpr ⟨lw_p29, List.forall_mem_cons.mpr ⟨lw_p30, List.forall_mem_cons.mpr ⟨lw_p31, fun _ h => absurd h List.not_mem_nil⟩⟩⟩⟩⟩⟩⟩⟩⟩⟩⟩⟩⟩⟩⟩⟩
theorem lw_p32 : lw_okq (⟨"PalmsAlteredModel", "next", "()I"⟩, 69) := ⟨⟨by decide +kernel, by decide +kernel⟩, List.mem_of_getElem? (i := 836) (by decide +kernel), List.mem_of_getElem? (i := 1103) (by decide +kernel), List.mem_of_getElem? (i := 1104) (by decide +kernel)⟩
theorem lw_p33 : lw_okq (⟨"PalmsAlteredModel", "takesWord", "(II)Z"⟩, 69) := ⟨⟨by decide +kernel, by decide +kernel⟩, List.mem_of_getElem? (i := 836) (by decide +kernel), List.mem_of_getElem? (i := 1107) (by decide +kernel), List.mem_of_getElem? (i := 1108) (by decide +kernel)⟩
theorem lw_p34 : lw_okq (⟨"PalmsAlteredModel", "takes", "(I)Z"⟩, 69) := ⟨⟨by decide +kernel, by decide +kernel⟩, List.mem_of_getElem? (i := 836) (by decide +kernel), List.mem_of_getElem? (i := 1111) (by decide +kernel), List.mem_of_getElem? (i := 1112) (by decide +kernel)⟩
theorem lw_p35 : lw_okq (⟨"PalmsAlteredModel", "takesNumber", "()Z"⟩, 69) := ⟨⟨by decide +kernel, by decide +kernel⟩, List.mem_of_getElem? (i := 836) (by decide +kernel), List.mem_of_getElem? (i := 1115) (by decide +kernel), List.mem_of_getElem? (i := 1116) (by decide +kernel)⟩
theorem lw_p36 : lw_okq (⟨"PalmsAlteredModel", "isDigit", "()Z"⟩, 69) := ⟨⟨by decide +kernel, by decide +kernel⟩, List.mem_of_getElem? (i := 836) (by decide +kernel), List.mem_of_getElem? (i := 1119) (by decide +kernel), List.mem_of_getElem? (i := 1120) (by decide +kernel)⟩
theorem lw_p37 : lw_okq (⟨"PalmsAlteredModel", "takesE", "(I)Z"⟩, 69) := ⟨⟨by decide +kernel, by decide +kernel⟩, List.mem_of_getElem? (i := 836) (by decide +kernel), List.mem_of_getElem? (i := 1123) (by decide +kernel), List.mem_of_getElem? (i := 1124) (by decide +kernel)⟩
theorem lw_p38 : lw_okq (⟨"PalmsAlteredModel", "takesTest", "()Z"⟩, 69) := ⟨⟨by decide +kernel, by decide +kernel⟩, List.mem_of_getElem? (i := 836) (by decide +kernel), List.mem_of_getElem? (i := 1127) (by decide +kernel), List.mem_of_getElem? (i := 1128) (by decide +kernel)⟩
theorem lw_p39 : lw_okq (⟨"PalmsAlteredModel", "place", "(I)I"⟩, 69) := ⟨⟨by decide +kernel, by decide +kernel⟩, List.mem_of_getElem? (i := 836) (by decide +kernel), List.mem_of_getElem? (i := 1131) (by decide +kernel), List.mem_of_getElem? (i := 1132) (by decide +kernel)⟩
theorem lw_p40 : lw_okq (⟨"PalmsAlteredModel", "emits", "(I)V"⟩, 69) := ⟨⟨by decide +kernel, by decide +kernel⟩, List.mem_of_getElem? (i := 836) (by decide +kernel), List.mem_of_getElem? (i := 1135) (by decide +kernel), List.mem_of_getElem? (i := 1136) (by decide +kernel)⟩
theorem lw_p41 : lw_okq (⟨"PalmsAlteredModel", "whole", "()V"⟩, 69) := ⟨⟨by decide +kernel, by decide +kernel⟩, List.mem_of_getElem? (i := 836) (by decide +kernel), List.mem_of_getElem? (i := 1139) (by decide +kernel), List.mem_of_getElem? (i := 1140) (by decide +kernel)⟩
theorem lw_p42 : lw_okq (⟨"PalmsAlteredModel", "settle", "(I)V"⟩, 69) := ⟨⟨by decide +kernel, by decide +kernel⟩, List.mem_of_getElem? (i := 836) (by decide +kernel), List.mem_of_getElem? (i := 1143) (by decide +kernel), List.mem_of_getElem? (i := 1144) (by decide +kernel)⟩
theorem lw_p43 : lw_okq (⟨"PalmsAlteredModel", "grace", "(II)I"⟩, 69) := ⟨⟨by decide +kernel, by decide +kernel⟩, List.mem_of_getElem? (i := 836) (by decide +kernel), List.mem_of_getElem? (i := 1151) (by decide +kernel), List.mem_of_getElem? (i := 1152) (by decide +kernel)⟩
theorem lw_p44 : lw_okq (⟨"PalmsAlteredModel", "begin", "()I"⟩, 69) := ⟨⟨by decide +kernel, by decide +kernel⟩, List.mem_of_getElem? (i := 836) (by decide +kernel), List.mem_of_getElem? (i := 1155) (by decide +kernel), List.mem_of_getElem? (i := 1156) (by decide +kernel)⟩
theorem lw_p45 : lw_okq (⟨"PalmsAlteredModel", "behind", "()I"⟩, 69) := ⟨⟨by decide +kernel, by decide +kernel⟩, List.mem_of_getElem? (i := 836) (by decide +kernel), List.mem_of_getElem? (i := 1159) (by decide +kernel), List.mem_of_getElem? (i := 1160) (by decide +kernel)⟩
theorem lw_p46 : lw_okq (⟨"PalmsAlteredModel", "holds", "(III)Z"⟩, 69) := ⟨⟨by decide +kernel, by decide +kernel⟩, List.mem_of_getElem? (i := 836) (by decide +kernel), List.mem_of_getElem? (i := 1163) (by decide +kernel), List.mem_of_getElem? (i := 1164) (by decide +kernel)⟩
theorem lw_p47 : lw_okq (⟨"PalmsAlteredModel", "factOf", "(III)I"⟩, 69) := ⟨⟨by decide +kernel, by decide +kernel⟩, List.mem_of_getElem? (i := 836) (by decide +kernel), List.mem_of_getElem? (i := 1167) (by decide +kernel), List.mem_of_getElem? (i := 1168) (by decide +kernel)⟩
def lw_privs_3 : List (MethodName × Nat) := [(⟨"PalmsAlteredModel", "next", "()I"⟩, 69), (⟨"PalmsAlteredModel", "takesWord", "(II)Z"⟩, 69), (⟨"PalmsAlteredModel", "takes", "(I)Z"⟩, 69), (⟨"PalmsAlteredModel", "takesNumber", "()Z"⟩, 69), (⟨"PalmsAlteredModel", "isDigit", "()Z"⟩, 69), (⟨"PalmsAlteredModel", "takesE", "(I)Z"⟩, 69), (⟨"PalmsAlteredModel", "takesTest", "()Z"⟩, 69), (⟨"PalmsAlteredModel", "place", "(I)I"⟩, 69), (⟨"PalmsAlteredModel", "emits", "(I)V"⟩, 69), (⟨"PalmsAlteredModel", "whole", "()V"⟩, 69), (⟨"PalmsAlteredModel", "settle", "(I)V"⟩, 69), (⟨"PalmsAlteredModel", "grace", "(II)I"⟩, 69), (⟨"PalmsAlteredModel", "begin", "()I"⟩, 69), (⟨"PalmsAlteredModel", "behind", "()I"⟩, 69), (⟨"PalmsAlteredModel", "holds", "(III)Z"⟩, 69), (⟨"PalmsAlteredModel", "factOf", "(III)I"⟩, 69)]
theorem lw_r3 : ∀ q ∈ lw_privs_3, lw_okq q := List.forall_mem_cons.mpr ⟨lw_p32, List.forall_mem_cons.mpr ⟨lw_p33, List.forall_mem_cons.mpr ⟨lw_p34, List.forall_mem_cons.mpr ⟨lw_p35, List.forall_mem_cons.mpr ⟨lw_p36, List.forall_mem_cons.mpr ⟨lw_p37, List.forall_mem_cons.mpr ⟨lw_p38, List.forall_mem_cons.mpr ⟨lw_p39, List.forall_mem_cons.mpr ⟨lw_p40, List.forall_mem_cons.mpr ⟨lw_p41, List.forall_mem_cons.mpr ⟨lw_p42, List.forall_mem_cons.mpr ⟨lw_p43, List.forall_mem_cons.mpr ⟨lw_p44, List.forall_mem_cons.mpr ⟨lw_p45, List.forall_mem_cons.mpr ⟨lw_p46, List.forall_mem_cons.mpr ⟨lw_p47, fun _ h => absurd h List.not_mem_nil⟩⟩⟩⟩⟩⟩⟩⟩⟩⟩⟩⟩⟩⟩⟩⟩
theorem lw_p48 : lw_okq (⟨"PalmsAlteredModel", "worth", "(II)I"⟩, 69) := ⟨⟨by decide +kernel, by decide +kernel⟩, List.mem_of_getElem? (i := 836) (by decide +kernel), List.mem_of_getElem? (i := 1171) (by decide +kernel), List.mem_of_getElem? (i := 1172) (by decide +kernel)⟩
theorem lw_p49 : lw_okq (⟨"PalmsAlteredModel", "least0", "(I)I"⟩, 69) := ⟨⟨by decide +kernel, by decide +kernel⟩, List.mem_of_getElem? (i := 836) (by decide +kernel), List.mem_of_getElem? (i := 1175) (by decide +kernel), List.mem_of_getElem? (i := 1176) (by decide +kernel)⟩
theorem lw_p50 : lw_okq (⟨"PalmsAlteredModel", "fortune", "(I)I"⟩, 69) := ⟨⟨by decide +kernel, by decide +kernel⟩, List.mem_of_getElem? (i := 836) (by decide +kernel), List.mem_of_getElem? (i := 1179) (by decide +kernel), List.mem_of_getElem? (i := 1180) (by decide +kernel)⟩
theorem lw_p51 : lw_okq (⟨"PalmsAlteredModel", "fades", "(I)I"⟩, 69) := ⟨⟨by decide +kernel, by decide +kernel⟩, List.mem_of_getElem? (i := 836) (by decide +kernel), List.mem_of_getElem? (i := 1183) (by decide +kernel), List.mem_of_getElem? (i := 1184) (by decide +kernel)⟩
theorem lw_p52 : lw_okq (⟨"PalmsAlteredModel", "room", "()I"⟩, 69) := ⟨⟨by decide +kernel, by decide +kernel⟩, List.mem_of_getElem? (i := 836) (by decide +kernel), List.mem_of_getElem? (i := 1191) (by decide +kernel), List.mem_of_getElem? (i := 1192) (by decide +kernel)⟩
theorem lw_p53 : lw_okq (⟨"PalmsAlteredModel", "lastOf", "(II)I"⟩, 69) := ⟨⟨by decide +kernel, by decide +kernel⟩, List.mem_of_getElem? (i := 836) (by decide +kernel), List.mem_of_getElem? (i := 1195) (by decide +kernel), List.mem_of_getElem? (i := 1196) (by decide +kernel)⟩
theorem lw_p54 : lw_okq (⟨"PalmsAlteredModel", "least", "(II)I"⟩, 69) := ⟨⟨by decide +kernel, by decide +kernel⟩, List.mem_of_getElem? (i := 836) (by decide +kernel), List.mem_of_getElem? (i := 1199) (by decide +kernel), List.mem_of_getElem? (i := 1200) (by decide +kernel)⟩
theorem lw_p55 : lw_okq (⟨"PalmsAlteredModel", "press", "()I"⟩, 69) := ⟨⟨by decide +kernel, by decide +kernel⟩, List.mem_of_getElem? (i := 836) (by decide +kernel), List.mem_of_getElem? (i := 1203) (by decide +kernel), List.mem_of_getElem? (i := 1204) (by decide +kernel)⟩
theorem lw_p56 : lw_okq (⟨"PalmsAlteredModel", "allFortunes", "()I"⟩, 69) := ⟨⟨by decide +kernel, by decide +kernel⟩, List.mem_of_getElem? (i := 836) (by decide +kernel), List.mem_of_getElem? (i := 1207) (by decide +kernel), List.mem_of_getElem? (i := 1208) (by decide +kernel)⟩
theorem lw_p57 : lw_okq (⟨"PalmsAlteredModel", "allLengths", "()I"⟩, 69) := ⟨⟨by decide +kernel, by decide +kernel⟩, List.mem_of_getElem? (i := 836) (by decide +kernel), List.mem_of_getElem? (i := 1211) (by decide +kernel), List.mem_of_getElem? (i := 1212) (by decide +kernel)⟩
theorem lw_p58 : lw_okq (⟨"PalmsAlteredModel", "draws", "(III)I"⟩, 69) := ⟨⟨by decide +kernel, by decide +kernel⟩, List.mem_of_getElem? (i := 836) (by decide +kernel), List.mem_of_getElem? (i := 1219) (by decide +kernel), List.mem_of_getElem? (i := 1220) (by decide +kernel)⟩
theorem lw_p59 : lw_okq (⟨"PalmsAlteredModel", "prints", "(II)I"⟩, 69) := ⟨⟨by decide +kernel, by decide +kernel⟩, List.mem_of_getElem? (i := 836) (by decide +kernel), List.mem_of_getElem? (i := 1227) (by decide +kernel), List.mem_of_getElem? (i := 1228) (by decide +kernel)⟩
theorem lw_p60 : lw_okq (⟨"PalmsAlteredModel", "isCovered", "(I)Z"⟩, 69) := ⟨⟨by decide +kernel, by decide +kernel⟩, List.mem_of_getElem? (i := 836) (by decide +kernel), List.mem_of_getElem? (i := 1231) (by decide +kernel), List.mem_of_getElem? (i := 1232) (by decide +kernel)⟩
theorem lw_p61 : lw_okq (⟨"PalmsAlteredModel", "goDays", "(I)V"⟩, 69) := ⟨⟨by decide +kernel, by decide +kernel⟩, List.mem_of_getElem? (i := 836) (by decide +kernel), List.mem_of_getElem? (i := 1239) (by decide +kernel), List.mem_of_getElem? (i := 1240) (by decide +kernel)⟩
theorem lw_p62 : lw_okq (⟨"PalmsAlteredModel", "goDay", "()V"⟩, 69) := ⟨⟨by decide +kernel, by decide +kernel⟩, List.mem_of_getElem? (i := 836) (by decide +kernel), List.mem_of_getElem? (i := 1243) (by decide +kernel), List.mem_of_getElem? (i := 1244) (by decide +kernel)⟩
theorem lw_p63 : lw_okq (⟨"PalmsAlteredModel", "save", "()V"⟩, 69) := ⟨⟨by decide +kernel, by decide +kernel⟩, List.mem_of_getElem? (i := 836) (by decide +kernel), List.mem_of_getElem? (i := 1251) (by decide +kernel), List.mem_of_getElem? (i := 1252) (by decide +kernel)⟩
def lw_privs_4 : List (MethodName × Nat) := [(⟨"PalmsAlteredModel", "worth", "(II)I"⟩, 69), (⟨"PalmsAlteredModel", "least0", "(I)I"⟩, 69), (⟨"PalmsAlteredModel", "fortune", "(I)I"⟩, 69), (⟨"PalmsAlteredModel", "fades", "(I)I"⟩, 69), (⟨"PalmsAlteredModel", "room", "()I"⟩, 69), (⟨"PalmsAlteredModel", "lastOf", "(II)I"⟩, 69), (⟨"PalmsAlteredModel", "least", "(II)I"⟩, 69), (⟨"PalmsAlteredModel", "press", "()I"⟩, 69), (⟨"PalmsAlteredModel", "allFortunes", "()I"⟩, 69), (⟨"PalmsAlteredModel", "allLengths", "()I"⟩, 69), (⟨"PalmsAlteredModel", "draws", "(III)I"⟩, 69), (⟨"PalmsAlteredModel", "prints", "(II)I"⟩, 69), (⟨"PalmsAlteredModel", "isCovered", "(I)Z"⟩, 69), (⟨"PalmsAlteredModel", "goDays", "(I)V"⟩, 69), (⟨"PalmsAlteredModel", "goDay", "()V"⟩, 69), (⟨"PalmsAlteredModel", "save", "()V"⟩, 69)]
theorem lw_r4 : ∀ q ∈ lw_privs_4, lw_okq q := List.forall_mem_cons.mpr ⟨lw_p48, List.forall_mem_cons.mpr ⟨lw_p49, List.forall_mem_cons.mpr ⟨lw_p50, List.forall_mem_cons.mpr ⟨lw_p51, List.forall_mem_cons.mpr ⟨lw_p52, List.forall_mem_cons.mpr ⟨lw_p53, List.forall_mem_cons.mpr ⟨lw_p54, List.forall_mem_cons.mpr ⟨lw_p55, List.forall_mem_cons.mpr ⟨lw_p56, List.forall_mem_cons.mpr ⟨lw_p57, List.forall_mem_cons.mpr ⟨lw_p58, List.forall_mem_cons.mpr ⟨lw_p59, List.forall_mem_cons.mpr ⟨lw_p60, List.forall_mem_cons.mpr ⟨lw_p61, List.forall_mem_cons.mpr ⟨lw_p62, List.forall_mem_cons.mpr ⟨lw_p63, fun _ h => absurd h List.not_mem_nil⟩⟩⟩⟩⟩⟩⟩⟩⟩⟩⟩⟩⟩⟩⟩⟩
theorem lw_p64 : lw_okq (⟨"PalmsAlteredModel", "putBack", "()V"⟩, 69) := ⟨⟨by decide +kernel, by decide +kernel⟩, List.mem_of_getElem? (i := 836) (by decide +kernel), List.mem_of_getElem? (i := 1255) (by decide +kernel), List.mem_of_getElem? (i := 1256) (by decide +kernel)⟩
theorem lw_p65 : lw_okq (⟨"PalmsAlteredModel", "isFortune", "(I)Z"⟩, 69) := ⟨⟨by decide +kernel, by decide +kernel⟩, List.mem_of_getElem? (i := 836) (by decide +kernel), List.mem_of_getElem? (i := 1263) (by decide +kernel), List.mem_of_getElem? (i := 1264) (by decide +kernel)⟩
theorem lw_p66 : lw_okq (⟨"PalmsAlteredModel", "fortunesIf", "(II)I"⟩, 69) := ⟨⟨by decide +kernel, by decide +kernel⟩, List.mem_of_getElem? (i := 836) (by decide +kernel), List.mem_of_getElem? (i := 1279) (by decide +kernel), List.mem_of_getElem? (i := 1280) (by decide +kernel)⟩
theorem lw_p67 : lw_okq (⟨"PalmsAlteredModel", "layPairs", "()V"⟩, 69) := ⟨⟨by decide +kernel, by decide +kernel⟩, List.mem_of_getElem? (i := 836) (by decide +kernel), List.mem_of_getElem? (i := 1295) (by decide +kernel), List.mem_of_getElem? (i := 1296) (by decide +kernel)⟩
theorem lw_p68 : lw_okq (⟨"PalmsAlteredModel", "isBookBy", "(II)Z"⟩, 69) := ⟨⟨by decide +kernel, by decide +kernel⟩, List.mem_of_getElem? (i := 836) (by decide +kernel), List.mem_of_getElem? (i := 1299) (by decide +kernel), List.mem_of_getElem? (i := 1300) (by decide +kernel)⟩
theorem lw_p69 : lw_okq (⟨"PalmsAlteredModel", "pairOf", "(III)I"⟩, 69) := ⟨⟨by decide +kernel, by decide +kernel⟩, List.mem_of_getElem? (i := 836) (by decide +kernel), List.mem_of_getElem? (i := 1303) (by decide +kernel), List.mem_of_getElem? (i := 1304) (by decide +kernel)⟩
theorem lw_p70 : lw_okq (⟨"PalmsAlteredModel", "isSeen", "()Z"⟩, 69) := ⟨⟨by decide +kernel, by decide +kernel⟩, List.mem_of_getElem? (i := 836) (by decide +kernel), List.mem_of_getElem? (i := 1316) (by decide +kernel), List.mem_of_getElem? (i := 1317) (by decide +kernel)⟩
theorem lw_p71 : lw_okq (⟨"PalmsAlteredModel", "lowest", "(III)J"⟩, 69) := ⟨⟨by decide +kernel, by decide +kernel⟩, List.mem_of_getElem? (i := 836) (by decide +kernel), List.mem_of_getElem? (i := 1329) (by decide +kernel), List.mem_of_getElem? (i := 1330) (by decide +kernel)⟩
theorem lw_p72 : lw_okq (⟨"PalmsAlteredModel", "divisor", "(II)I"⟩, 69) := ⟨⟨by decide +kernel, by decide +kernel⟩, List.mem_of_getElem? (i := 836) (by decide +kernel), List.mem_of_getElem? (i := 1333) (by decide +kernel), List.mem_of_getElem? (i := 1334) (by decide +kernel)⟩
theorem lw_p73 : lw_okq (⟨"PalmsAlteredModel", "isTape", "(I)Z"⟩, 69) := ⟨⟨by decide +kernel, by decide +kernel⟩, List.mem_of_getElem? (i := 836) (by decide +kernel), List.mem_of_getElem? (i := 1354) (by decide +kernel), List.mem_of_getElem? (i := 1355) (by decide +kernel)⟩
theorem lw_p74 : lw_okq (⟨"PalmsAlteredModel", "liesAct", "(II)I"⟩, 69) := ⟨⟨by decide +kernel, by decide +kernel⟩, List.mem_of_getElem? (i := 836) (by decide +kernel), List.mem_of_getElem? (i := 1370) (by decide +kernel), List.mem_of_getElem? (i := 1371) (by decide +kernel)⟩
theorem lw_p75 : lw_okq (⟨"PalmsAlteredModel", "body", "(I)V"⟩, 69) := ⟨⟨by decide +kernel, by decide +kernel⟩, List.mem_of_getElem? (i := 836) (by decide +kernel), List.mem_of_getElem? (i := 1374) (by decide +kernel), List.mem_of_getElem? (i := 1375) (by decide +kernel)⟩
theorem lw_p76 : lw_okq (⟨"PalmsAlteredModel", "handLies", "(II)I"⟩, 69) := ⟨⟨by decide +kernel, by decide +kernel⟩, List.mem_of_getElem? (i := 836) (by decide +kernel), List.mem_of_getElem? (i := 1378) (by decide +kernel), List.mem_of_getElem? (i := 1379) (by decide +kernel)⟩
theorem lw_p77 : lw_okq (⟨"PalmsAlteredModel", "readsAct", "(II)I"⟩, 69) := ⟨⟨by decide +kernel, by decide +kernel⟩, List.mem_of_getElem? (i := 836) (by decide +kernel), List.mem_of_getElem? (i := 1382) (by decide +kernel), List.mem_of_getElem? (i := 1383) (by decide +kernel)⟩
theorem lw_p78 : lw_okq (⟨"PalmsAlteredModel", "softReads", "(II)I"⟩, 69) := ⟨⟨by decide +kernel, by decide +kernel⟩, List.mem_of_getElem? (i := 836) (by decide +kernel), List.mem_of_getElem? (i := 1386) (by decide +kernel), List.mem_of_getElem? (i := 1387) (by decide +kernel)⟩
theorem lw_p79 : lw_okq (⟨"PalmsAlteredModel", "handReads", "(II)I"⟩, 69) := ⟨⟨by decide +kernel, by decide +kernel⟩, List.mem_of_getElem? (i := 836) (by decide +kernel), List.mem_of_getElem? (i := 1390) (by decide +kernel), List.mem_of_getElem? (i := 1391) (by decide +kernel)⟩
def lw_privs_5 : List (MethodName × Nat) := [(⟨"PalmsAlteredModel", "putBack", "()V"⟩, 69), (⟨"PalmsAlteredModel", "isFortune", "(I)Z"⟩, 69), (⟨"PalmsAlteredModel", "fortunesIf", "(II)I"⟩, 69), (⟨"PalmsAlteredModel", "layPairs", "()V"⟩, 69), (⟨"PalmsAlteredModel", "isBookBy", "(II)Z"⟩, 69), (⟨"PalmsAlteredModel", "pairOf", "(III)I"⟩, 69), (⟨"PalmsAlteredModel", "isSeen", "()Z"⟩, 69), (⟨"PalmsAlteredModel", "lowest", "(III)J"⟩, 69), (⟨"PalmsAlteredModel", "divisor", "(II)I"⟩, 69), (⟨"PalmsAlteredModel", "isTape", "(I)Z"⟩, 69), (⟨"PalmsAlteredModel", "liesAct", "(II)I"⟩, 69), (⟨"PalmsAlteredModel", "body", "(I)V"⟩, 69), (⟨"PalmsAlteredModel", "handLies", "(II)I"⟩, 69), (⟨"PalmsAlteredModel", "readsAct", "(II)I"⟩, 69), (⟨"PalmsAlteredModel", "softReads", "(II)I"⟩, 69), (⟨"PalmsAlteredModel", "handReads", "(II)I"⟩, 69)]
theorem lw_r5 : ∀ q ∈ lw_privs_5, lw_okq q := List.forall_mem_cons.mpr ⟨lw_p64, List.forall_mem_cons.mpr ⟨lw_p65, List.forall_mem_cons.mpr ⟨lw_p66, List.forall_mem_cons.mpr ⟨lw_p67, List.forall_mem_cons.mpr ⟨lw_p68, List.forall_mem_cons.mpr ⟨lw_p69, List.forall_mem_cons.mpr ⟨lw_p70, List.forall_mem_cons.mpr ⟨lw_p71, List.forall_mem_cons.mpr ⟨lw_p72, List.forall_mem_cons.mpr ⟨lw_p73, List.forall_mem_cons.mpr ⟨lw_p74, List.forall_mem_cons.mpr ⟨lw_p75, List.forall_mem_cons.mpr ⟨lw_p76, List.forall_mem_cons.mpr ⟨lw_p77, List.forall_mem_cons.mpr ⟨lw_p78, List.forall_mem_cons.mpr ⟨lw_p79, fun _ h => absurd h List.not_mem_nil⟩⟩⟩⟩⟩⟩⟩⟩⟩⟩⟩⟩⟩⟩⟩⟩
theorem lw_p80 : lw_okq (⟨"PalmsAlteredModel", "tellsAct", "(II)I"⟩, 69) := ⟨⟨by decide +kernel, by decide +kernel⟩, List.mem_of_getElem? (i := 836) (by decide +kernel), List.mem_of_getElem? (i := 1394) (by decide +kernel), List.mem_of_getElem? (i := 1395) (by decide +kernel)⟩
theorem lw_p81 : lw_okq (⟨"PalmsAlteredModel", "handTells", "(II)I"⟩, 69) := ⟨⟨by decide +kernel, by decide +kernel⟩, List.mem_of_getElem? (i := 836) (by decide +kernel), List.mem_of_getElem? (i := 1398) (by decide +kernel), List.mem_of_getElem? (i := 1399) (by decide +kernel)⟩
theorem lw_p82 : lw_okq (⟨"PalmsAlteredModel", "narrow", "(IJ)J"⟩, 69) := ⟨⟨by decide +kernel, by decide +kernel⟩, List.mem_of_getElem? (i := 836) (by decide +kernel), List.mem_of_getElem? (i := 1422) (by decide +kernel), List.mem_of_getElem? (i := 1423) (by decide +kernel)⟩
def lw_privs_6 : List (MethodName × Nat) := [(⟨"PalmsAlteredModel", "tellsAct", "(II)I"⟩, 69), (⟨"PalmsAlteredModel", "handTells", "(II)I"⟩, 69), (⟨"PalmsAlteredModel", "narrow", "(IJ)J"⟩, 69)]
theorem lw_r6 : ∀ q ∈ lw_privs_6, lw_okq q := List.forall_mem_cons.mpr ⟨lw_p80, List.forall_mem_cons.mpr ⟨lw_p81, List.forall_mem_cons.mpr ⟨lw_p82, fun _ h => absurd h List.not_mem_nil⟩⟩⟩
def lw_privs : List (MethodName × Nat) := lw_privs_1 ++ (lw_privs_2 ++ (lw_privs_3 ++ (lw_privs_4 ++ (lw_privs_5 ++ (lw_privs_6)))))
def lw_tbl : List Cond := k2_sels lw_privs ++ tables_1
theorem lw_privs_ok : ∀ q ∈ lw_privs, lw_okq q := by
  show ∀ q ∈ lw_privs_1 ++ (lw_privs_2 ++ (lw_privs_3 ++ (lw_privs_4 ++ (lw_privs_5 ++ (lw_privs_6))))), lw_okq q
  exact List.forall_mem_append.mpr ⟨lw_r1, List.forall_mem_append.mpr ⟨lw_r2, List.forall_mem_append.mpr ⟨lw_r3, List.forall_mem_append.mpr ⟨lw_r4, List.forall_mem_append.mpr ⟨lw_r5, lw_r6⟩⟩⟩⟩⟩
def RX0 : String := "PalmsAltered$Acts"
def TX0 : u_T := fun k => match k with
  | 0 => ("PalmsAltered$Acts", "bodies", "[I", true)
  | 1 => ("PalmsAltered$Acts", "ran", "I", false)
  | 2 => ("PalmsAltered$Acts", "number", "I", false)
  | 3 => ("PalmsAltered$Acts", "kind", "I", false)
  | _ => ("PalmsAltered$Acts", "v", "I", false)
def tyX0 : Nat → FieldType := fun k => match k with
  | 0 => .array .int
  | 1 => .int
  | 2 => .int
  | 3 => .int
  | _ => .int
abbrev wsX00 : List Cond := u_ws RX0 TX0 5
theorem nmX0 : ∀ a, a < 5 → ∀ b, b < 5 → a ≠ b → (TX0 a).2.1 ≠ (TX0 b).2.1 := by decide +kernel
theorem tyX0_ok : ∀ k, k < 5 → parseFieldDescriptor (TX0 k).2.2.1 = some (tyX0 k) := by decide +kernel
abbrev cX0_init : ByteArray := prog_2_method_1_code
def yX0_init : MethodName := ⟨RX0, "<init>", "()V"⟩
abbrev cX0_forget : ByteArray := prog_2_method_2_code
def yX0_forget : MethodName := ⟨RX0, "forget", "()V"⟩
abbrev cX0_ran : ByteArray := prog_2_method_3_code
def yX0_ran : MethodName := ⟨RX0, "ran", "()I"⟩
abbrev cX0_isKept : ByteArray := prog_2_method_4_code
def yX0_isKept : MethodName := ⟨RX0, "isKept", "(I)Z"⟩
abbrev cX0_bodyAt : ByteArray := prog_2_method_5_code
def yX0_bodyAt : MethodName := ⟨RX0, "bodyAt", "(I)I"⟩
abbrev cX0_begin : ByteArray := prog_2_method_6_code
def yX0_begin : MethodName := ⟨RX0, "begin", "(IIIII)I"⟩
abbrev cX0_own : ByteArray := prog_2_method_7_code
def yX0_own : MethodName := ⟨RX0, "own", "(III)I"⟩
abbrev cX0_above : ByteArray := prog_2_method_8_code
def yX0_above : MethodName := ⟨RX0, "above", "(IIII)I"⟩
abbrev cX0_bodyFrom : ByteArray := prog_2_method_9_code
def yX0_bodyFrom : MethodName := ⟨RX0, "bodyFrom", "(II)I"⟩
abbrev cX0_run : ByteArray := prog_2_method_10_code
def yX0_run : MethodName := ⟨RX0, "run", "(III)I"⟩
abbrev cX0_begun : ByteArray := prog_2_method_11_code
def yX0_begun : MethodName := ⟨RX0, "begun", "(I)V"⟩
def RX1 : String := "PalmsAltered$Booth"
def TX1 : u_T := fun k => match k with
  | 0 => ("PalmsAltered$Booth", "steps", "[I", true)
  | 1 => ("PalmsAltered$Booth", "numbers", "[I", true)
  | 2 => ("PalmsAltered$Booth", "room", "I", true)
  | _ => ("PalmsAltered$Booth", "press", "I", true)
def tyX1 : Nat → FieldType := fun k => match k with
  | 0 => .array .int
  | 1 => .array .int
  | 2 => .int
  | _ => .int
abbrev wsX10 : List Cond := u_ws RX1 TX1 4
theorem nmX1 : ∀ a, a < 4 → ∀ b, b < 4 → a ≠ b → (TX1 a).2.1 ≠ (TX1 b).2.1 := by decide +kernel
theorem tyX1_ok : ∀ k, k < 4 → parseFieldDescriptor (TX1 k).2.2.1 = some (tyX1 k) := by decide +kernel
abbrev cX1_init : ByteArray := prog_3_method_1_code
def yX1_init : MethodName := ⟨RX1, "<init>", "([I[III)V"⟩
abbrev cX1_grace : ByteArray := prog_3_method_2_code
def yX1_grace : MethodName := ⟨RX1, "grace", "([I)I"⟩
abbrev cX1_holds : ByteArray := prog_3_method_3_code
def yX1_holds : MethodName := ⟨RX1, "holds", "(II[I)Z"⟩
def RX2 : String := "PalmsAltered$Ledger"
def TX2 : u_T := fun k => match k with
  | 0 => ("PalmsAltered$Ledger", "numbers", "[I", true)
  | _ => ("PalmsAltered$Ledger", "rows", "I", false)
def tyX2 : Nat → FieldType := fun k => match k with
  | 0 => .array .int
  | _ => .int
abbrev wsX20 : List Cond := u_ws RX2 TX2 2
theorem nmX2 : ∀ a, a < 2 → ∀ b, b < 2 → a ≠ b → (TX2 a).2.1 ≠ (TX2 b).2.1 := by decide +kernel
theorem tyX2_ok : ∀ k, k < 2 → parseFieldDescriptor (TX2 k).2.2.1 = some (tyX2 k) := by decide +kernel
abbrev cX2_init : ByteArray := prog_4_method_1_code
def yX2_init : MethodName := ⟨RX2, "<init>", "()V"⟩
abbrev cX2_clear : ByteArray := prog_4_method_2_code
def yX2_clear : MethodName := ⟨RX2, "clear", "()I"⟩
abbrev cX2_add : ByteArray := prog_4_method_3_code
def yX2_add : MethodName := ⟨RX2, "add", "(IIII)I"⟩
abbrev cX2_at : ByteArray := prog_4_method_4_code
def yX2_at : MethodName := ⟨RX2, "at", "(II)I"⟩
abbrev cX2_become : ByteArray := prog_4_method_5_code
def yX2_become : MethodName := ⟨RX2, "become", "(LPalmsAltered$Ledger;)V"⟩
def RX3 : String := "PalmsAltered$Scene"
def TX3 : u_T := fun k => match k with
  | 0 => ("PalmsAltered$Scene", "kinds", "[I", true)
  | 1 => ("PalmsAltered$Scene", "vs", "[I", true)
  | 2 => ("PalmsAltered$Scene", "shooks", "[I", true)
  | 3 => ("PalmsAltered$Scene", "lengths", "[I", true)
  | 4 => ("PalmsAltered$Scene", "parts", "[I", true)
  | 5 => ("PalmsAltered$Scene", "values", "[I", true)
  | 6 => ("PalmsAltered$Scene", "hands", "I", false)
  | 7 => ("PalmsAltered$Scene", "ink", "I", false)
  | 8 => ("PalmsAltered$Scene", "day", "I", false)
  | _ => ("PalmsAltered$Scene", "holding", "LPalmsAltered$Booth;", false)
def tyX3 : Nat → FieldType := fun k => match k with
  | 0 => .array .int
  | 1 => .array .int
  | 2 => .array .int
  | 3 => .array .int
  | 4 => .array .int
  | 5 => .array .int
  | 6 => .int
  | 7 => .int
  | 8 => .int
  | _ => .object "PalmsAltered$Booth"
abbrev wsX30 : List Cond := u_ws RX3 TX3 10
theorem nmX3 : ∀ a, a < 10 → ∀ b, b < 10 → a ≠ b → (TX3 a).2.1 ≠ (TX3 b).2.1 := by decide +kernel
theorem tyX3_ok : ∀ k, k < 10 → parseFieldDescriptor (TX3 k).2.2.1 = some (tyX3 k) := by decide +kernel
abbrev cX3_init : ByteArray := prog_5_method_1_code
def yX3_init : MethodName := ⟨RX3, "<init>", "(LPalmsAltered$Booth;)V"⟩
abbrev cX3_become : ByteArray := prog_5_method_2_code
def yX3_become : MethodName := ⟨RX3, "become", "(LPalmsAltered$Scene;)V"⟩
abbrev cX3_has : ByteArray := prog_5_method_3_code
def yX3_has : MethodName := ⟨RX3, "has", "(I)Z"⟩
abbrev cX3_hasLine : ByteArray := prog_5_method_4_code
def yX3_hasLine : MethodName := ⟨RX3, "hasLine", "(II)Z"⟩
abbrev cX3_admit : ByteArray := prog_5_method_5_code
def lw_nm (ts : List Cond) (k : Nat) : String := match ts[k]? with | some (.instanceMethod m) => m.name | _ => ""
def yX3_admit : MethodName := ⟨RX3, lw_nm tables_1_2 10, "(III)I"⟩
abbrev cX3_kindOf : ByteArray := prog_5_method_6_code
def yX3_kindOf : MethodName := ⟨RX3, "kindOf", "(I)I"⟩
abbrev cX3_vOf : ByteArray := prog_5_method_7_code
def yX3_vOf : MethodName := ⟨RX3, "vOf", "(I)I"⟩
abbrev cX3_putV : ByteArray := prog_5_method_8_code
def yX3_putV : MethodName := ⟨RX3, "putV", "(II)V"⟩
abbrev cX3_shookOf : ByteArray := prog_5_method_9_code
def yX3_shookOf : MethodName := ⟨RX3, "shookOf", "(I)I"⟩
abbrev cX3_lengthOf : ByteArray := prog_5_method_10_code
def yX3_lengthOf : MethodName := ⟨RX3, "lengthOf", "(II)I"⟩
abbrev cX3_putLength : ByteArray := prog_5_method_11_code
def yX3_putLength : MethodName := ⟨RX3, "putLength", "(III)V"⟩
abbrev cX3_hasPart : ByteArray := prog_5_method_12_code
def yX3_hasPart : MethodName := ⟨RX3, "hasPart", "(II)Z"⟩
abbrev cX3_partOf : ByteArray := prog_5_method_13_code
def yX3_partOf : MethodName := ⟨RX3, "partOf", "(II)I"⟩
abbrev cX3_putPart : ByteArray := prog_5_method_14_code
def yX3_putPart : MethodName := ⟨RX3, "putPart", "(III)V"⟩
abbrev cX3_graceOf : ByteArray := prog_5_method_15_code
def yX3_graceOf : MethodName := ⟨RX3, "graceOf", "(II)I"⟩
abbrev cX3_worthOf : ByteArray := prog_5_method_16_code
def yX3_worthOf : MethodName := ⟨RX3, "worthOf", "(II)I"⟩
abbrev cX3_fortuneOf : ByteArray := prog_5_method_17_code
def yX3_fortuneOf : MethodName := ⟨RX3, "fortuneOf", "(I)I"⟩
abbrev cX3_fortuneOfAll : ByteArray := prog_5_method_18_code
def yX3_fortuneOfAll : MethodName := ⟨RX3, "fortuneOfAll", "()I"⟩
abbrev cX3_lengthOfAll : ByteArray := prog_5_method_19_code
def yX3_lengthOfAll : MethodName := ⟨RX3, "lengthOfAll", "()I"⟩
abbrev cX3_fadesOn : ByteArray := prog_5_method_20_code
def yX3_fadesOn : MethodName := ⟨RX3, "fadesOn", "(II)I"⟩
abbrev cX3_fadesOver : ByteArray := prog_5_method_21_code
def yX3_fadesOver : MethodName := ⟨RX3, "fadesOver", "(II)I"⟩
abbrev cX3_lengthBehind : ByteArray := prog_5_method_22_code
def yX3_lengthBehind : MethodName := ⟨RX3, "lengthBehind", "(III)I"⟩
abbrev cX3_goDays : ByteArray := prog_5_method_23_code
def yX3_goDays : MethodName := ⟨RX3, "goDays", "(I)V"⟩
abbrev cX3_drawOn : ByteArray := prog_5_method_24_code
def yX3_drawOn : MethodName := ⟨RX3, "drawOn", "(III)I"⟩
abbrev cX3_shakeHands : ByteArray := prog_5_method_25_code
def yX3_shakeHands : MethodName := ⟨RX3, "shakeHands", "(II)I"⟩
abbrev cX3_wearsGloves : ByteArray := prog_5_method_26_code
def yX3_wearsGloves : MethodName := ⟨RX3, "wearsGloves", "(I)Z"⟩
abbrev cX3_printLine : ByteArray := prog_5_method_27_code
def yX3_printLine : MethodName := ⟨RX3, "printLine", "(III)I"⟩
def RX4 : String := "PalmsAltered$Tape"
def TX4 : u_T := fun k => match k with
  | 0 => ("PalmsAltered$Tape", "items", "[J", true)
  | 1 => ("PalmsAltered$Tape", "sort", "I", false)
  | _ => ("PalmsAltered$Tape", "size", "I", false)
def tyX4 : Nat → FieldType := fun k => match k with
  | 0 => .array .long
  | 1 => .int
  | _ => .int
abbrev wsX40 : List Cond := u_ws RX4 TX4 3
theorem nmX4 : ∀ a, a < 3 → ∀ b, b < 3 → a ≠ b → (TX4 a).2.1 ≠ (TX4 b).2.1 := by decide +kernel
theorem tyX4_ok : ∀ k, k < 3 → parseFieldDescriptor (TX4 k).2.2.1 = some (tyX4 k) := by decide +kernel
abbrev cX4_init : ByteArray := prog_6_method_1_code
def yX4_init : MethodName := ⟨RX4, "<init>", "()V"⟩
abbrev cX4_become : ByteArray := prog_6_method_2_code
def yX4_become : MethodName := ⟨RX4, "become", "(II)V"⟩
abbrev cX4_holdsNothing : ByteArray := prog_6_method_3_code
def yX4_holdsNothing : MethodName := ⟨RX4, "holdsNothing", "()Z"⟩
abbrev cX4_hasPlace : ByteArray := prog_6_method_4_code
def yX4_hasPlace : MethodName := ⟨RX4, "hasPlace", "(I)Z"⟩
abbrev cX4_hasSpan : ByteArray := prog_6_method_5_code
def yX4_hasSpan : MethodName := ⟨RX4, "hasSpan", "(II)Z"⟩
abbrev cX4_at : ByteArray := prog_6_method_6_code
def yX4_at : MethodName := ⟨RX4, "at", "(I)J"⟩
abbrev cX4_put : ByteArray := prog_6_method_7_code
def yX4_put : MethodName := ⟨RX4, "put", "(IJ)V"⟩
abbrev cX4_cut : ByteArray := prog_6_method_8_code
def yX4_cut : MethodName := ⟨RX4, "cut", "(J)J"⟩
def RX5 : String := "PalmsAltered$Text"
def TX5 : u_T := fun k => match k with
  | 0 => ("PalmsAltered$Text", "signs", "[B", true)
  | 1 => ("PalmsAltered$Text", "steps", "[I", true)
  | 2 => ("PalmsAltered$Text", "numbers", "[I", true)
  | 3 => ("PalmsAltered$Text", "size", "I", false)
  | 4 => ("PalmsAltered$Text", "at", "I", false)
  | 5 => ("PalmsAltered$Text", "made", "I", false)
  | 6 => ("PalmsAltered$Text", "room", "I", false)
  | _ => ("PalmsAltered$Text", "press", "I", false)
def tyX5 : Nat → FieldType := fun k => match k with
  | 0 => .array .byte
  | 1 => .array .int
  | 2 => .array .int
  | 3 => .int
  | 4 => .int
  | 5 => .int
  | 6 => .int
  | _ => .int
abbrev wsX50 : List Cond := u_ws RX5 TX5 8
theorem nmX5 : ∀ a, a < 8 → ∀ b, b < 8 → a ≠ b → (TX5 a).2.1 ≠ (TX5 b).2.1 := by decide +kernel
theorem tyX5_ok : ∀ k, k < 8 → parseFieldDescriptor (TX5 k).2.2.1 = some (tyX5 k) := by decide +kernel
abbrev cX5_init : ByteArray := prog_7_method_1_code
def yX5_init : MethodName := ⟨RX5, "<init>", "()V"⟩
abbrev cX5_isFull : ByteArray := prog_7_method_2_code
def yX5_isFull : MethodName := ⟨RX5, "isFull", "()Z"⟩
abbrev cX5_size : ByteArray := prog_7_method_3_code
def yX5_size : MethodName := ⟨RX5, "size", "()I"⟩
abbrev cX5_place : ByteArray := prog_7_method_4_code
def yX5_place : MethodName := ⟨RX5, "place", "()I"⟩
abbrev cX5_clear : ByteArray := prog_7_method_5_code
def yX5_clear : MethodName := ⟨RX5, "clear", "()V"⟩
abbrev cX5_add : ByteArray := prog_7_method_6_code
def yX5_add : MethodName := ⟨RX5, "add", "(I)I"⟩
abbrev cX5_isBooth : ByteArray := prog_7_method_7_code
def yX5_isBooth : MethodName := ⟨RX5, "isBooth", "()Z"⟩
abbrev cX5_lastBooth : ByteArray := prog_7_method_8_code
def yX5_lastBooth : MethodName := ⟨RX5, "lastBooth", "()LPalmsAltered$Booth;"⟩
abbrev cX5_isClause : ByteArray := prog_7_method_9_code
def yX5_isClause : MethodName := ⟨RX5, "isClause", "()Z"⟩
abbrev cX5_isEither : ByteArray := prog_7_method_10_code
def yX5_isEither : MethodName := ⟨RX5, "isEither", "(I)Z"⟩
abbrev cX5_isBoth : ByteArray := prog_7_method_11_code
def yX5_isBoth : MethodName := ⟨RX5, "isBoth", "(I)Z"⟩
abbrev cX5_isOne : ByteArray := prog_7_method_12_code
def yX5_isOne : MethodName := ⟨RX5, "isOne", "(I)Z"⟩
abbrev cX5_isTest : ByteArray := prog_7_method_13_code
def yX5_isTest : MethodName := ⟨RX5, "isTest", "()Z"⟩
abbrev cX5_emit : ByteArray := prog_7_method_14_code
def yX5_emit : MethodName := ⟨RX5, "emit", "(II)Z"⟩
abbrev cX5_take : ByteArray := prog_7_method_15_code
def yX5_take : MethodName := ⟨RX5, "take", "(C)Z"⟩
abbrev cX5_takeAll : ByteArray := prog_7_method_16_code
def yX5_takeAll : MethodName := ⟨RX5, "takeAll", "(Ljava/lang/String;)Z"⟩
abbrev cX5_takeOneOf : ByteArray := prog_7_method_17_code
def yX5_takeOneOf : MethodName := ⟨RX5, "takeOneOf", "(Ljava/lang/String;)I"⟩
abbrev cX5_takeNumber : ByteArray := prog_7_method_18_code
def yX5_takeNumber : MethodName := ⟨RX5, "takeNumber", "()I"⟩
def RX6 : String := "PalmsAltered"
def TX6 : u_T := fun k => match k with
  | 0 => ("PalmsAltered", "now", "LPalmsAltered$Scene;", true)
  | 1 => ("PalmsAltered", "kept", "LPalmsAltered$Scene;", true)
  | 2 => ("PalmsAltered", "trials", "[LPalmsAltered$Scene;", true)
  | 3 => ("PalmsAltered", "imageTaken", "Z", false)
  | 4 => ("PalmsAltered", "seen", "LPalmsAltered$Ledger;", true)
  | 5 => ("PalmsAltered", "fair", "LPalmsAltered$Ledger;", true)
  | 6 => ("PalmsAltered", "book", "LPalmsAltered$Ledger;", true)
  | 7 => ("PalmsAltered", "keptSeen", "LPalmsAltered$Ledger;", true)
  | 8 => ("PalmsAltered", "keptFair", "LPalmsAltered$Ledger;", true)
  | 9 => ("PalmsAltered", "keptBook", "LPalmsAltered$Ledger;", true)
  | 10 => ("PalmsAltered", "shakes", "[I", true)
  | 11 => ("PalmsAltered", "text", "LPalmsAltered$Text;", true)
  | 12 => ("PalmsAltered", "booths", "I", false)
  | 13 => ("PalmsAltered", "acts", "LPalmsAltered$Acts;", true)
  | _ => ("PalmsAltered", "tapes", "[LPalmsAltered$Tape;", true)
def tyX6 : Nat → FieldType := fun k => match k with
  | 0 => .object "PalmsAltered$Scene"
  | 1 => .object "PalmsAltered$Scene"
  | 2 => .array (.object "PalmsAltered$Scene")
  | 3 => .boolean
  | 4 => .object "PalmsAltered$Ledger"
  | 5 => .object "PalmsAltered$Ledger"
  | 6 => .object "PalmsAltered$Ledger"
  | 7 => .object "PalmsAltered$Ledger"
  | 8 => .object "PalmsAltered$Ledger"
  | 9 => .object "PalmsAltered$Ledger"
  | 10 => .array .int
  | 11 => .object "PalmsAltered$Text"
  | 12 => .int
  | 13 => .object "PalmsAltered$Acts"
  | _ => .array (.object "PalmsAltered$Tape")
abbrev wsX60 : List Cond := u_ws RX6 TX6 15
theorem nmX6 : ∀ a, a < 15 → ∀ b, b < 15 → a ≠ b → (TX6 a).2.1 ≠ (TX6 b).2.1 := by decide +kernel
theorem tyX6_ok : ∀ k, k < 15 → parseFieldDescriptor (TX6 k).2.2.1 = some (tyX6 k) := by decide +kernel
abbrev cX6_init : ByteArray := prog_1_method_1_code
def yX6_init : MethodName := ⟨RX6, "<init>", "()V"⟩
abbrev cX6_hand : ByteArray := prog_1_method_2_code
def yX6_hand : MethodName := ⟨RX6, "hand", "(III)I"⟩
abbrev cX6_of : ByteArray := prog_1_method_3_code
def yX6_of : MethodName := ⟨RX6, "of", "(II)I"⟩
abbrev cX6_ofLine : ByteArray := prog_1_method_4_code
def yX6_ofLine : MethodName := ⟨RX6, "ofLine", "(III)I"⟩
abbrev cX6_set : ByteArray := prog_1_method_5_code
def yX6_set : MethodName := ⟨RX6, "set", "(III)I"⟩
abbrev cX6_row : ByteArray := prog_1_method_6_code
def yX6_row : MethodName := ⟨RX6, "row", "(III)I"⟩
abbrev cX6_ink : ByteArray := prog_1_method_7_code
def yX6_ink : MethodName := ⟨RX6, "ink", "(I)I"⟩
abbrev cX6_draw : ByteArray := prog_1_method_8_code
def yX6_draw : MethodName := ⟨RX6, "draw", "(III)I"⟩
abbrev cX6_shake : ByteArray := prog_1_method_9_code
def yX6_shake : MethodName := ⟨RX6, "shake", "(II)I"⟩
abbrev cX6_feed : ByteArray := prog_1_method_10_code
def yX6_feed : MethodName := ⟨RX6, "feed", "(I)I"⟩
abbrev cX6_booth : ByteArray := prog_1_method_11_code
def yX6_booth : MethodName := ⟨RX6, "booth", "()I"⟩
abbrev cX6_told : ByteArray := prog_1_method_12_code
def yX6_told : MethodName := ⟨RX6, "told", "(I)I"⟩
abbrev cX6_pass : ByteArray := prog_1_method_13_code
def yX6_pass : MethodName := ⟨RX6, "pass", "(I)I"⟩
abbrev cX6_on : ByteArray := prog_1_method_14_code
def yX6_on : MethodName := ⟨RX6, "on", "(II)I"⟩
abbrev cX6_lasts : ByteArray := prog_1_method_15_code
def yX6_lasts : MethodName := ⟨RX6, "lasts", "(II)I"⟩
abbrev cX6_pen : ByteArray := prog_1_method_16_code
def yX6_pen : MethodName := ⟨RX6, "pen", "(II)I"⟩
abbrev cX6_share : ByteArray := prog_1_method_17_code
def yX6_share : MethodName := ⟨RX6, "share", "(III)I"⟩
abbrev cX6_ifDrawn : ByteArray := prog_1_method_18_code
def yX6_ifDrawn : MethodName := ⟨RX6, "ifDrawn", "(IIII)LPalmsAltered$Scene;"⟩
abbrev cX6_meet : ByteArray := prog_1_method_19_code
def yX6_meet : MethodName := ⟨RX6, "meet", "()I"⟩
abbrev cX6_ifShaken : ByteArray := prog_1_method_20_code
def yX6_ifShaken : MethodName := ⟨RX6, "ifShaken", "(II)LPalmsAltered$Scene;"⟩
abbrev cX6_book : ByteArray := prog_1_method_21_code
def yX6_book : MethodName := ⟨RX6, "book", "(III)I"⟩
abbrev cX6_looked : ByteArray := prog_1_method_22_code
def yX6_looked : MethodName := ⟨RX6, "looked", "()I"⟩
abbrev cX6_firstOtherwise : ByteArray := prog_1_method_23_code
def yX6_firstOtherwise : MethodName := ⟨RX6, "firstOtherwise", "(LPalmsAltered$Scene;)I"⟩
abbrev cX6_shaken : ByteArray := prog_1_method_24_code
def yX6_shaken : MethodName := ⟨RX6, "shaken", "(I)I"⟩
abbrev cX6_isSoAfter : ByteArray := prog_1_method_25_code
def yX6_isSoAfter : MethodName := ⟨RX6, "isSoAfter", "(II)Z"⟩
abbrev cX6_see : ByteArray := prog_1_method_26_code
def yX6_see : MethodName := ⟨RX6, "see", "(IIII)I"⟩
abbrev cX6_isAllSeenSo : ByteArray := prog_1_method_27_code
def yX6_isAllSeenSo : MethodName := ⟨RX6, "isAllSeenSo", "(LPalmsAltered$Scene;)Z"⟩
abbrev cX6_was : ByteArray := prog_1_method_28_code
def yX6_was : MethodName := ⟨RX6, "was", "(III)I"⟩
abbrev cX6_can : ByteArray := prog_1_method_29_code
def yX6_can : MethodName := ⟨RX6, "can", "(II)I"⟩
abbrev cX6_odds : ByteArray := prog_1_method_30_code
def yX6_odds : MethodName := ⟨RX6, "odds", "(II)J"⟩
abbrev cX6_mean : ByteArray := prog_1_method_31_code
def yX6_mean : MethodName := ⟨RX6, "mean", "(II)J"⟩
abbrev cX6_lowestTerm : ByteArray := prog_1_method_32_code
def yX6_lowestTerm : MethodName := ⟨RX6, "lowestTerm", "(III)I"⟩
abbrev cX6_fair : ByteArray := prog_1_method_33_code
def yX6_fair : MethodName := ⟨RX6, "fair", "(II)I"⟩
abbrev cX6_ends : ByteArray := prog_1_method_34_code
def yX6_ends : MethodName := ⟨RX6, "ends", "(I)I"⟩
abbrev cX6_judge : ByteArray := prog_1_method_35_code
def yX6_judge : MethodName := ⟨RX6, "judge", "(II)I"⟩
abbrev cX6_image : ByteArray := prog_1_method_36_code
def yX6_image : MethodName := ⟨RX6, "image", "()I"⟩
abbrev cX6_undo : ByteArray := prog_1_method_37_code
def yX6_undo : MethodName := ⟨RX6, "undo", "()I"⟩
abbrev cX6_act : ByteArray := prog_1_method_38_code
def yX6_act : MethodName := ⟨RX6, "act", "(III)I"⟩
abbrev cX6_trace : ByteArray := prog_1_method_39_code
def yX6_trace : MethodName := ⟨RX6, "trace", "(I)I"⟩
abbrev cX6_taken : ByteArray := prog_1_method_40_code
def yX6_taken : MethodName := ⟨RX6, "taken", "(II)I"⟩
abbrev cX6_count : ByteArray := prog_1_method_41_code
def yX6_count : MethodName := ⟨RX6, "count", "(I)I"⟩
abbrev cX6_tape : ByteArray := prog_1_method_42_code
def yX6_tape : MethodName := ⟨RX6, "tape", "(III)I"⟩
abbrev cX6_item : ByteArray := prog_1_method_43_code
def yX6_item : MethodName := ⟨RX6, "item", "(IIJ)I"⟩
abbrev cX6_read : ByteArray := prog_1_method_44_code
def yX6_read : MethodName := ⟨RX6, "read", "(II)J"⟩
abbrev cX6_shift : ByteArray := prog_1_method_45_code
def yX6_shift : MethodName := ⟨RX6, "shift", "(IIIII)I"⟩
abbrev cX6_isTape : ByteArray := prog_1_method_46_code
def yX6_isTape : MethodName := ⟨RX6, "isTape", "(I)Z"⟩
abbrev cX6_within : ByteArray := prog_1_method_47_code
def yX6_within : MethodName := ⟨RX6, "within", "(III)Z"⟩
def RX7 : String := "PalmsAlteredModel"
def TX7 : u_T := fun k => match k with
  | 0 => ("PalmsAlteredModel", "hands", "I", false)
  | 1 => ("PalmsAlteredModel", "days", "I", false)
  | 2 => ("PalmsAlteredModel", "left", "I", false)
  | 3 => ("PalmsAlteredModel", "kind", "[I", true)
  | 4 => ("PalmsAlteredModel", "v", "[I", true)
  | 5 => ("PalmsAlteredModel", "shook", "[I", true)
  | 6 => ("PalmsAlteredModel", "long0", "[I", true)
  | 7 => ("PalmsAlteredModel", "rows", "[I", true)
  | 8 => ("PalmsAlteredModel", "booths", "I", false)
  | 9 => ("PalmsAlteredModel", "the", "I", false)
  | 10 => ("PalmsAlteredModel", "fed", "I", false)
  | 11 => ("PalmsAlteredModel", "at", "I", false)
  | 12 => ("PalmsAlteredModel", "digits", "I", false)
  | 13 => ("PalmsAlteredModel", "text", "[I", true)
  | 14 => ("PalmsAlteredModel", "clauses", "[I", true)
  | 15 => ("PalmsAlteredModel", "word", "[I", true)
  | 16 => ("PalmsAlteredModel", "number", "[I", true)
  | 17 => ("PalmsAlteredModel", "from", "[I", true)
  | 18 => ("PalmsAlteredModel", "to", "[I", true)
  | 19 => ("PalmsAlteredModel", "sign", "[I", true)
  | 20 => ("PalmsAlteredModel", "waits", "[I", true)
  | 21 => ("PalmsAlteredModel", "signs", "I", false)
  | 22 => ("PalmsAlteredModel", "waiting", "I", false)
  | 23 => ("PalmsAlteredModel", "open", "I", false)
  | 24 => ("PalmsAlteredModel", "letters", "[I", true)
  | 25 => ("PalmsAlteredModel", "pile", "[Z", true)
  | 26 => ("PalmsAlteredModel", "keptDays", "I", false)
  | 27 => ("PalmsAlteredModel", "keptLeft", "I", false)
  | 28 => ("PalmsAlteredModel", "keptShook", "[I", true)
  | 29 => ("PalmsAlteredModel", "keptLong", "[I", true)
  | 30 => ("PalmsAlteredModel", "books", "I", false)
  | 31 => ("PalmsAlteredModel", "bookLine", "[I", true)
  | 32 => ("PalmsAlteredModel", "bookLong", "[I", true)
  | 33 => ("PalmsAlteredModel", "pairA", "[I", true)
  | 34 => ("PalmsAlteredModel", "pairB", "[I", true)
  | 35 => ("PalmsAlteredModel", "pairs", "I", false)
  | 36 => ("PalmsAlteredModel", "seen", "I", false)
  | 37 => ("PalmsAlteredModel", "seenLine", "[I", true)
  | 38 => ("PalmsAlteredModel", "seenLong", "[I", true)
  | 39 => ("PalmsAlteredModel", "seenWhen", "[I", true)
  | 40 => ("PalmsAlteredModel", "fairs", "I", false)
  | 41 => ("PalmsAlteredModel", "fairOne", "[I", true)
  | 42 => ("PalmsAlteredModel", "fairOther", "[I", true)
  | 43 => ("PalmsAlteredModel", "hasImage", "Z", false)
  | 44 => ("PalmsAlteredModel", "imageThe", "I", false)
  | 45 => ("PalmsAlteredModel", "imageHands", "I", false)
  | 46 => ("PalmsAlteredModel", "imageDays", "I", false)
  | 47 => ("PalmsAlteredModel", "imageLeft", "I", false)
  | 48 => ("PalmsAlteredModel", "imageSeen", "I", false)
  | 49 => ("PalmsAlteredModel", "imageFairs", "I", false)
  | 50 => ("PalmsAlteredModel", "imageBooks", "I", false)
  | 51 => ("PalmsAlteredModel", "imageKind", "[I", true)
  | 52 => ("PalmsAlteredModel", "imageV", "[I", true)
  | 53 => ("PalmsAlteredModel", "imageShook", "[I", true)
  | 54 => ("PalmsAlteredModel", "imageLong", "[I", true)
  | 55 => ("PalmsAlteredModel", "imageRows", "[I", true)
  | 56 => ("PalmsAlteredModel", "imageLine", "[I", true)
  | 57 => ("PalmsAlteredModel", "imageSeenLong", "[I", true)
  | 58 => ("PalmsAlteredModel", "imageWhen", "[I", true)
  | 59 => ("PalmsAlteredModel", "imageOne", "[I", true)
  | 60 => ("PalmsAlteredModel", "imageOther", "[I", true)
  | 61 => ("PalmsAlteredModel", "imageBookLine", "[I", true)
  | 62 => ("PalmsAlteredModel", "imageBookLong", "[I", true)
  | 63 => ("PalmsAlteredModel", "ran", "I", false)
  | 64 => ("PalmsAlteredModel", "bodies", "[I", true)
  | 65 => ("PalmsAlteredModel", "sort", "[I", true)
  | 66 => ("PalmsAlteredModel", "length", "[I", true)
  | 67 => ("PalmsAlteredModel", "item", "[J", true)
  | _ => ("PalmsAlteredModel", "aside", "[J", true)
def tyX7 : Nat → FieldType := fun k => match k with
  | 0 => .int
  | 1 => .int
  | 2 => .int
  | 3 => .array .int
  | 4 => .array .int
  | 5 => .array .int
  | 6 => .array .int
  | 7 => .array .int
  | 8 => .int
  | 9 => .int
  | 10 => .int
  | 11 => .int
  | 12 => .int
  | 13 => .array .int
  | 14 => .array .int
  | 15 => .array .int
  | 16 => .array .int
  | 17 => .array .int
  | 18 => .array .int
  | 19 => .array .int
  | 20 => .array .int
  | 21 => .int
  | 22 => .int
  | 23 => .int
  | 24 => .array .int
  | 25 => .array .boolean
  | 26 => .int
  | 27 => .int
  | 28 => .array .int
  | 29 => .array .int
  | 30 => .int
  | 31 => .array .int
  | 32 => .array .int
  | 33 => .array .int
  | 34 => .array .int
  | 35 => .int
  | 36 => .int
  | 37 => .array .int
  | 38 => .array .int
  | 39 => .array .int
  | 40 => .int
  | 41 => .array .int
  | 42 => .array .int
  | 43 => .boolean
  | 44 => .int
  | 45 => .int
  | 46 => .int
  | 47 => .int
  | 48 => .int
  | 49 => .int
  | 50 => .int
  | 51 => .array .int
  | 52 => .array .int
  | 53 => .array .int
  | 54 => .array .int
  | 55 => .array .int
  | 56 => .array .int
  | 57 => .array .int
  | 58 => .array .int
  | 59 => .array .int
  | 60 => .array .int
  | 61 => .array .int
  | 62 => .array .int
  | 63 => .int
  | 64 => .array .int
  | 65 => .array .int
  | 66 => .array .int
  | 67 => .array .long
  | _ => .array .long
abbrev wsX70 : List Cond := u_ws RX7 TX7 69
theorem nmX7 : ∀ a, a < 69 → ∀ b, b < 69 → a ≠ b → (TX7 a).2.1 ≠ (TX7 b).2.1 := by decide +kernel
theorem tyX7_ok : ∀ k, k < 69 → parseFieldDescriptor (TX7 k).2.2.1 = some (tyX7 k) := by decide +kernel
abbrev cX7_init : ByteArray := prog_9_method_1_code
def yX7_init : MethodName := ⟨RX7, "<init>", "()V"⟩
abbrev cX7_in : ByteArray := prog_9_method_2_code
def yX7_in : MethodName := ⟨RX7, "in", "(III)Z"⟩
abbrev cX7_least : ByteArray := prog_9_method_3_code
def yX7_least : MethodName := ⟨RX7, "least", "(II)I"⟩
abbrev cX7_least0 : ByteArray := prog_9_method_4_code
def yX7_least0 : MethodName := ⟨RX7, "least0", "(I)I"⟩
abbrev cX7_isHand : ByteArray := prog_9_method_5_code
def yX7_isHand : MethodName := ⟨RX7, "isHand", "(I)Z"⟩
abbrev cX7_isLine : ByteArray := prog_9_method_6_code
def yX7_isLine : MethodName := ⟨RX7, "isLine", "(I)Z"⟩
abbrev cX7_isLength : ByteArray := prog_9_method_7_code
def yX7_isLength : MethodName := ⟨RX7, "isLength", "(I)Z"⟩
abbrev cX7_isFortune : ByteArray := prog_9_method_8_code
def yX7_isFortune : MethodName := ⟨RX7, "isFortune", "(I)Z"⟩
abbrev cX7_hand : ByteArray := prog_9_method_9_code
def yX7_hand : MethodName := ⟨RX7, "hand", "(III)I"⟩
abbrev cX7_set : ByteArray := prog_9_method_10_code
def yX7_set : MethodName := ⟨RX7, "set", "(III)I"⟩
abbrev cX7_row : ByteArray := prog_9_method_11_code
def yX7_row : MethodName := ⟨RX7, "row", "(III)I"⟩
abbrev cX7_ink : ByteArray := prog_9_method_12_code
def yX7_ink : MethodName := ⟨RX7, "ink", "(I)I"⟩
abbrev cX7_feed : ByteArray := prog_9_method_13_code
def yX7_feed : MethodName := ⟨RX7, "feed", "(I)I"⟩
abbrev cX7_next : ByteArray := prog_9_method_14_code
def yX7_next : MethodName := ⟨RX7, "next", "()I"⟩
abbrev cX7_takes : ByteArray := prog_9_method_15_code
def yX7_takes : MethodName := ⟨RX7, "takes", "(I)Z"⟩
abbrev cX7_takesWord : ByteArray := prog_9_method_16_code
def yX7_takesWord : MethodName := ⟨RX7, "takesWord", "(II)Z"⟩
abbrev cX7_isDigit : ByteArray := prog_9_method_17_code
def yX7_isDigit : MethodName := ⟨RX7, "isDigit", "()Z"⟩
abbrev cX7_takesNumber : ByteArray := prog_9_method_18_code
def yX7_takesNumber : MethodName := ⟨RX7, "takesNumber", "()Z"⟩
abbrev cX7_emits : ByteArray := prog_9_method_19_code
def yX7_emits : MethodName := ⟨RX7, "emits", "(I)V"⟩
abbrev cX7_whole : ByteArray := prog_9_method_20_code
def yX7_whole : MethodName := ⟨RX7, "whole", "()V"⟩
abbrev cX7_settle : ByteArray := prog_9_method_21_code
def yX7_settle : MethodName := ⟨RX7, "settle", "(I)V"⟩
abbrev cX7_place : ByteArray := prog_9_method_22_code
def yX7_place : MethodName := ⟨RX7, "place", "(I)I"⟩
abbrev cX7_takesTest : ByteArray := prog_9_method_23_code
def yX7_takesTest : MethodName := ⟨RX7, "takesTest", "()Z"⟩
abbrev cX7_takesE : ByteArray := prog_9_method_24_code
def yX7_takesE : MethodName := ⟨RX7, "takesE", "(I)Z"⟩
abbrev cX7_takesHead : ByteArray := prog_9_method_25_code
def yX7_takesHead : MethodName := ⟨RX7, "takesHead", "(I)Z"⟩
abbrev cX7_takesClause : ByteArray := prog_9_method_26_code
def yX7_takesClause : MethodName := ⟨RX7, "takesClause", "(I)Z"⟩
abbrev cX7_goesText : ByteArray := prog_9_method_27_code
def yX7_goesText : MethodName := ⟨RX7, "goesText", "(I)Z"⟩
abbrev cX7_booth : ByteArray := prog_9_method_28_code
def yX7_booth : MethodName := ⟨RX7, "booth", "()I"⟩
abbrev cX7_begin : ByteArray := prog_9_method_29_code
def yX7_begin : MethodName := ⟨RX7, "begin", "()I"⟩
abbrev cX7_behind : ByteArray := prog_9_method_30_code
def yX7_behind : MethodName := ⟨RX7, "behind", "()I"⟩
abbrev cX7_lastOf : ByteArray := prog_9_method_31_code
def yX7_lastOf : MethodName := ⟨RX7, "lastOf", "(II)I"⟩
abbrev cX7_room : ByteArray := prog_9_method_32_code
def yX7_room : MethodName := ⟨RX7, "room", "()I"⟩
abbrev cX7_press : ByteArray := prog_9_method_33_code
def yX7_press : MethodName := ⟨RX7, "press", "()I"⟩
abbrev cX7_factOf : ByteArray := prog_9_method_34_code
def yX7_factOf : MethodName := ⟨RX7, "factOf", "(III)I"⟩
abbrev cX7_holds : ByteArray := prog_9_method_35_code
def yX7_holds : MethodName := ⟨RX7, "holds", "(III)Z"⟩
abbrev cX7_grace : ByteArray := prog_9_method_36_code
def yX7_grace : MethodName := ⟨RX7, "grace", "(II)I"⟩
abbrev cX7_worth : ByteArray := prog_9_method_37_code
def yX7_worth : MethodName := ⟨RX7, "worth", "(II)I"⟩
abbrev cX7_fortune : ByteArray := prog_9_method_38_code
def yX7_fortune : MethodName := ⟨RX7, "fortune", "(I)I"⟩
abbrev cX7_allFortunes : ByteArray := prog_9_method_39_code
def yX7_allFortunes : MethodName := ⟨RX7, "allFortunes", "()I"⟩
abbrev cX7_allLengths : ByteArray := prog_9_method_40_code
def yX7_allLengths : MethodName := ⟨RX7, "allLengths", "()I"⟩
abbrev cX7_fades : ByteArray := prog_9_method_41_code
def yX7_fades : MethodName := ⟨RX7, "fades", "(I)I"⟩
abbrev cX7_of : ByteArray := prog_9_method_42_code
def yX7_of : MethodName := ⟨RX7, "of", "(II)I"⟩
abbrev cX7_told : ByteArray := prog_9_method_43_code
def yX7_told : MethodName := ⟨RX7, "told", "(I)I"⟩
abbrev cX7_draws : ByteArray := prog_9_method_44_code
def yX7_draws : MethodName := ⟨RX7, "draws", "(III)I"⟩
abbrev cX7_draw : ByteArray := prog_9_method_45_code
def yX7_draw : MethodName := ⟨RX7, "draw", "(III)I"⟩
abbrev cX7_isCovered : ByteArray := prog_9_method_46_code
def yX7_isCovered : MethodName := ⟨RX7, "isCovered", "(I)Z"⟩
abbrev cX7_prints : ByteArray := prog_9_method_47_code
def yX7_prints : MethodName := ⟨RX7, "prints", "(II)I"⟩
abbrev cX7_shake : ByteArray := prog_9_method_48_code
def yX7_shake : MethodName := ⟨RX7, "shake", "(II)I"⟩
abbrev cX7_goDay : ByteArray := prog_9_method_49_code
def yX7_goDay : MethodName := ⟨RX7, "goDay", "()V"⟩
abbrev cX7_goDays : ByteArray := prog_9_method_50_code
def yX7_goDays : MethodName := ⟨RX7, "goDays", "(I)V"⟩
abbrev cX7_pass : ByteArray := prog_9_method_51_code
def yX7_pass : MethodName := ⟨RX7, "pass", "(I)I"⟩
abbrev cX7_save : ByteArray := prog_9_method_52_code
def yX7_save : MethodName := ⟨RX7, "save", "()V"⟩
abbrev cX7_putBack : ByteArray := prog_9_method_53_code
def yX7_putBack : MethodName := ⟨RX7, "putBack", "()V"⟩
abbrev cX7_on : ByteArray := prog_9_method_54_code
def yX7_on : MethodName := ⟨RX7, "on", "(II)I"⟩
abbrev cX7_lasts : ByteArray := prog_9_method_55_code
def yX7_lasts : MethodName := ⟨RX7, "lasts", "(II)I"⟩
abbrev cX7_pen : ByteArray := prog_9_method_56_code
def yX7_pen : MethodName := ⟨RX7, "pen", "(II)I"⟩
abbrev cX7_share : ByteArray := prog_9_method_57_code
def yX7_share : MethodName := ⟨RX7, "share", "(III)I"⟩
abbrev cX7_fortunesIf : ByteArray := prog_9_method_58_code
def yX7_fortunesIf : MethodName := ⟨RX7, "fortunesIf", "(II)I"⟩
abbrev cX7_meet : ByteArray := prog_9_method_59_code
def yX7_meet : MethodName := ⟨RX7, "meet", "()I"⟩
abbrev cX7_book : ByteArray := prog_9_method_60_code
def yX7_book : MethodName := ⟨RX7, "book", "(III)I"⟩
abbrev cX7_looked : ByteArray := prog_9_method_61_code
def yX7_looked : MethodName := ⟨RX7, "looked", "()I"⟩
abbrev cX7_layPairs : ByteArray := prog_9_method_62_code
def yX7_layPairs : MethodName := ⟨RX7, "layPairs", "()V"⟩
abbrev cX7_pairOf : ByteArray := prog_9_method_63_code
def yX7_pairOf : MethodName := ⟨RX7, "pairOf", "(III)I"⟩
abbrev cX7_isBookBy : ByteArray := prog_9_method_64_code
def yX7_isBookBy : MethodName := ⟨RX7, "isBookBy", "(II)Z"⟩
abbrev cX7_shaken : ByteArray := prog_9_method_65_code
def yX7_shaken : MethodName := ⟨RX7, "shaken", "(I)I"⟩
abbrev cX7_see : ByteArray := prog_9_method_66_code
def yX7_see : MethodName := ⟨RX7, "see", "(IIII)I"⟩
abbrev cX7_isSeen : ByteArray := prog_9_method_67_code
def yX7_isSeen : MethodName := ⟨RX7, "isSeen", "()Z"⟩
abbrev cX7_was : ByteArray := prog_9_method_68_code
def yX7_was : MethodName := ⟨RX7, "was", "(III)I"⟩
abbrev cX7_can : ByteArray := prog_9_method_69_code
def yX7_can : MethodName := ⟨RX7, "can", "(II)I"⟩
abbrev cX7_divisor : ByteArray := prog_9_method_70_code
def yX7_divisor : MethodName := ⟨RX7, "divisor", "(II)I"⟩
abbrev cX7_lowest : ByteArray := prog_9_method_71_code
def yX7_lowest : MethodName := ⟨RX7, "lowest", "(III)J"⟩
abbrev cX7_odds : ByteArray := prog_9_method_72_code
def yX7_odds : MethodName := ⟨RX7, "odds", "(II)J"⟩
abbrev cX7_mean : ByteArray := prog_9_method_73_code
def yX7_mean : MethodName := ⟨RX7, "mean", "(II)J"⟩
abbrev cX7_fair : ByteArray := prog_9_method_74_code
def yX7_fair : MethodName := ⟨RX7, "fair", "(II)I"⟩
abbrev cX7_ends : ByteArray := prog_9_method_75_code
def yX7_ends : MethodName := ⟨RX7, "ends", "(I)I"⟩
abbrev cX7_judge : ByteArray := prog_9_method_76_code
def yX7_judge : MethodName := ⟨RX7, "judge", "(II)I"⟩
abbrev cX7_image : ByteArray := prog_9_method_77_code
def yX7_image : MethodName := ⟨RX7, "image", "()I"⟩
abbrev cX7_undo : ByteArray := prog_9_method_78_code
def yX7_undo : MethodName := ⟨RX7, "undo", "()I"⟩
abbrev cX7_body : ByteArray := prog_9_method_79_code
def yX7_body : MethodName := ⟨RX7, "body", "(I)V"⟩
abbrev cX7_handLies : ByteArray := prog_9_method_80_code
def yX7_handLies : MethodName := ⟨RX7, "handLies", "(II)I"⟩
abbrev cX7_liesAct : ByteArray := prog_9_method_81_code
def yX7_liesAct : MethodName := ⟨RX7, "liesAct", "(II)I"⟩
abbrev cX7_handReads : ByteArray := prog_9_method_82_code
def yX7_handReads : MethodName := ⟨RX7, "handReads", "(II)I"⟩
abbrev cX7_softReads : ByteArray := prog_9_method_83_code
def yX7_softReads : MethodName := ⟨RX7, "softReads", "(II)I"⟩
abbrev cX7_readsAct : ByteArray := prog_9_method_84_code
def yX7_readsAct : MethodName := ⟨RX7, "readsAct", "(II)I"⟩
abbrev cX7_handTells : ByteArray := prog_9_method_85_code
def yX7_handTells : MethodName := ⟨RX7, "handTells", "(II)I"⟩
abbrev cX7_tellsAct : ByteArray := prog_9_method_86_code
def yX7_tellsAct : MethodName := ⟨RX7, "tellsAct", "(II)I"⟩
abbrev cX7_act : ByteArray := prog_9_method_87_code
def yX7_act : MethodName := ⟨RX7, "act", "(III)I"⟩
abbrev cX7_trace : ByteArray := prog_9_method_88_code
def yX7_trace : MethodName := ⟨RX7, "trace", "(I)I"⟩
abbrev cX7_taken : ByteArray := prog_9_method_89_code
def yX7_taken : MethodName := ⟨RX7, "taken", "(II)I"⟩
abbrev cX7_count : ByteArray := prog_9_method_90_code
def yX7_count : MethodName := ⟨RX7, "count", "(I)I"⟩
abbrev cX7_isTape : ByteArray := prog_9_method_91_code
def yX7_isTape : MethodName := ⟨RX7, "isTape", "(I)Z"⟩
abbrev cX7_tape : ByteArray := prog_9_method_92_code
def yX7_tape : MethodName := ⟨RX7, "tape", "(III)I"⟩
abbrev cX7_narrow : ByteArray := prog_9_method_93_code
def yX7_narrow : MethodName := ⟨RX7, "narrow", "(IJ)J"⟩
abbrev cX7_item : ByteArray := prog_9_method_94_code
def yX7_item : MethodName := ⟨RX7, "item", "(IIJ)I"⟩
abbrev cX7_read : ByteArray := prog_9_method_95_code
def yX7_read : MethodName := ⟨RX7, "read", "(II)J"⟩
abbrev cX7_shift : ByteArray := prog_9_method_96_code
def yX7_shift : MethodName := ⟨RX7, "shift", "(IIIII)I"⟩
def RJx145de : String := "java/io/Serializable"
def TJx145de : u_T := fun k => match k with
  | _ => ("", "", "", false)
def tyJx145de : Nat → FieldType := fun k => match k with
  | _ => .int
abbrev wsJx145de0 : List Cond := u_ws RJx145de TJx145de 0
theorem nmJx145de : ∀ a, a < 0 → ∀ b, b < 0 → a ≠ b → (TJx145de a).2.1 ≠ (TJx145de b).2.1 := by decide +kernel
theorem tyJx145de_ok : ∀ k, k < 0 → parseFieldDescriptor (TJx145de k).2.2.1 = some (tyJx145de k) := by decide +kernel
def RJx9f9b0 : String := "java/lang/CharSequence"
def TJx9f9b0 : u_T := fun k => match k with
  | _ => ("", "", "", false)
def tyJx9f9b0 : Nat → FieldType := fun k => match k with
  | _ => .int
abbrev wsJx9f9b00 : List Cond := u_ws RJx9f9b0 TJx9f9b0 0
theorem nmJx9f9b0 : ∀ a, a < 0 → ∀ b, b < 0 → a ≠ b → (TJx9f9b0 a).2.1 ≠ (TJx9f9b0 b).2.1 := by decide +kernel
theorem tyJx9f9b0_ok : ∀ k, k < 0 → parseFieldDescriptor (TJx9f9b0 k).2.2.1 = some (tyJx9f9b0 k) := by decide +kernel
def RJ11 : String := "java/lang/Character"
def TJ11 : u_T := fun k => match k with
  | _ => ("", "", "", false)
def tyJ11 : Nat → FieldType := fun k => match k with
  | _ => .int
abbrev wsJ110 : List Cond := u_ws RJ11 TJ11 0
theorem nmJ11 : ∀ a, a < 0 → ∀ b, b < 0 → a ≠ b → (TJ11 a).2.1 ≠ (TJ11 b).2.1 := by decide +kernel
theorem tyJ11_ok : ∀ k, k < 0 → parseFieldDescriptor (TJ11 k).2.2.1 = some (tyJ11 k) := by decide +kernel
abbrev cJ11_isValidCodePoint_9a6ad : ByteArray := prog_10_method_11_code
def yJ11_isValidCodePoint_9a6ad : MethodName := ⟨RJ11, "isValidCodePoint", "(I)Z"⟩
abbrev cJ11_highSurrogate_5068e : ByteArray := prog_10_method_28_code
def yJ11_highSurrogate_5068e : MethodName := ⟨RJ11, "highSurrogate", "(I)C"⟩
abbrev cJ11_lowSurrogate_5068e : ByteArray := prog_10_method_29_code
def yJ11_lowSurrogate_5068e : MethodName := ⟨RJ11, "lowSurrogate", "(I)C"⟩
def RJx8e188 : String := "java/lang/Cloneable"
def TJx8e188 : u_T := fun k => match k with
  | _ => ("", "", "", false)
def tyJx8e188 : Nat → FieldType := fun k => match k with
  | _ => .int
abbrev wsJx8e1880 : List Cond := u_ws RJx8e188 TJx8e188 0
theorem nmJx8e188 : ∀ a, a < 0 → ∀ b, b < 0 → a ≠ b → (TJx8e188 a).2.1 ≠ (TJx8e188 b).2.1 := by decide +kernel
theorem tyJx8e188_ok : ∀ k, k < 0 → parseFieldDescriptor (TJx8e188 k).2.2.1 = some (tyJx8e188 k) := by decide +kernel
def RJxb160c : String := "java/lang/Comparable"
def TJxb160c : u_T := fun k => match k with
  | _ => ("", "", "", false)
def tyJxb160c : Nat → FieldType := fun k => match k with
  | _ => .int
abbrev wsJxb160c0 : List Cond := u_ws RJxb160c TJxb160c 0
theorem nmJxb160c : ∀ a, a < 0 → ∀ b, b < 0 → a ≠ b → (TJxb160c a).2.1 ≠ (TJxb160c b).2.1 := by decide +kernel
theorem tyJxb160c_ok : ∀ k, k < 0 → parseFieldDescriptor (TJxb160c k).2.2.1 = some (tyJxb160c k) := by decide +kernel
def RJ9 : String := "java/lang/Math"
def TJ9 : u_T := fun k => match k with
  | _ => ("", "", "", false)
def tyJ9 : Nat → FieldType := fun k => match k with
  | _ => .int
abbrev wsJ90 : List Cond := u_ws RJ9 TJ9 0
theorem nmJ9 : ∀ a, a < 0 → ∀ b, b < 0 → a ≠ b → (TJ9 a).2.1 ≠ (TJ9 b).2.1 := by decide +kernel
theorem tyJ9_ok : ∀ k, k < 0 → parseFieldDescriptor (TJ9 k).2.2.1 = some (tyJ9 k) := by decide +kernel
abbrev cJ9_abs_0f7a4 : ByteArray := prog_12_method_59_code
def yJ9_abs_0f7a4 : MethodName := ⟨RJ9, "abs", "(I)I"⟩
abbrev cJ9_max_7cf53 : ByteArray := prog_12_method_65_code
def yJ9_max_7cf53 : MethodName := ⟨RJ9, "max", "(II)I"⟩
abbrev cJ9_min_7cf53 : ByteArray := prog_12_method_69_code
def yJ9_min_7cf53 : MethodName := ⟨RJ9, "min", "(II)I"⟩
def RJ0 : String := "java/lang/String"
def TJ0 : u_T := fun k => match k with
  | _ => ("", "", "", false)
def tyJ0 : Nat → FieldType := fun k => match k with
  | _ => .int
abbrev wsJ00 : List Cond := u_ws RJ0 TJ0 0
theorem nmJ0 : ∀ a, a < 0 → ∀ b, b < 0 → a ≠ b → (TJ0 a).2.1 ≠ (TJ0 b).2.1 := by decide +kernel
theorem tyJ0_ok : ∀ k, k < 0 → parseFieldDescriptor (TJ0 k).2.2.1 = some (tyJ0 k) := by decide +kernel
abbrev cJ0_length_8abf5 : ByteArray := prog_13_method_54_code
def yJ0_length_8abf5 : MethodName := ⟨RJ0, "length", "()I"⟩
abbrev cJ0_charAt_5068e : ByteArray := prog_13_method_56_code
def yJ0_charAt_5068e : MethodName := ⟨RJ0, "charAt", "(I)C"⟩
abbrev cJ0_indexOf_0f7a4 : ByteArray := prog_13_method_79_code
def yJ0_indexOf_0f7a4 : MethodName := ⟨RJ0, "indexOf", "(I)I"⟩
abbrev cJ0_indexOf_7cf53 : ByteArray := prog_13_method_80_code
def yJ0_indexOf_7cf53 : MethodName := ⟨RJ0, "indexOf", "(II)I"⟩
abbrev cJ0_coder_7d493 : ByteArray := prog_13_method_152_code
def yJ0_coder_7d493 : MethodName := ⟨RJ0, "coder", "()B"⟩
abbrev cJ0_isLatin1_aae02 : ByteArray := prog_13_method_154_code
def yJ0_isLatin1_aae02 : MethodName := ⟨RJ0, "isLatin1", "()Z"⟩
abbrev cJ0_checkIndex_df160 : ByteArray := prog_13_method_155_code
def yJ0_checkIndex_df160 : MethodName := ⟨RJ0, "checkIndex", "(II)V"⟩
abbrev cJ0_checkBoundsBeginEnd_23922 : ByteArray := prog_13_method_158_code
def yJ0_checkBoundsBeginEnd_23922 : MethodName := ⟨RJ0, "checkBoundsBeginEnd", "(III)V"⟩
def RJ1 : String := "java/lang/StringLatin1"
def TJ1 : u_T := fun k => match k with
  | _ => ("", "", "", false)
def tyJ1 : Nat → FieldType := fun k => match k with
  | _ => .int
abbrev wsJ10 : List Cond := u_ws RJ1 TJ1 0
theorem nmJ1 : ∀ a, a < 0 → ∀ b, b < 0 → a ≠ b → (TJ1 a).2.1 ≠ (TJ1 b).2.1 := by decide +kernel
theorem tyJ1_ok : ∀ k, k < 0 → parseFieldDescriptor (TJ1 k).2.2.1 = some (tyJ1 k) := by decide +kernel
abbrev cJ1_charAt_3b067 : ByteArray := prog_14_method_2_code
def yJ1_charAt_3b067 : MethodName := ⟨RJ1, "charAt", "([BI)C"⟩
abbrev cJ1_canEncode_9a6ad : ByteArray := prog_14_method_4_code
def yJ1_canEncode_9a6ad : MethodName := ⟨RJ1, "canEncode", "(I)Z"⟩
abbrev cJ1_indexOf_4cfef : ByteArray := prog_14_method_22_code
def yJ1_indexOf_4cfef : MethodName := ⟨RJ1, "indexOf", "([BIII)I"⟩
abbrev cJ1_indexOfChar_4cfef : ByteArray := prog_14_method_23_code
def yJ1_indexOfChar_4cfef : MethodName := ⟨RJ1, "indexOfChar", "([BIII)I"⟩
def RJ2 : String := "java/lang/StringUTF16"
def TJ2 : u_T := fun k => match k with
  | _ => ("", "", "", false)
def tyJ2 : Nat → FieldType := fun k => match k with
  | _ => .int
abbrev wsJ20 : List Cond := u_ws RJ2 TJ2 0
theorem nmJ2 : ∀ a, a < 0 → ∀ b, b < 0 → a ≠ b → (TJ2 a).2.1 ≠ (TJ2 b).2.1 := by decide +kernel
theorem tyJ2_ok : ∀ k, k < 0 → parseFieldDescriptor (TJ2 k).2.2.1 = some (tyJ2 k) := by decide +kernel
abbrev cJ2_getChar_3b067 : ByteArray := prog_15_method_5_code
def yJ2_getChar_3b067 : MethodName := ⟨RJ2, "getChar", "([BI)C"⟩
abbrev cJ2_length_9d52b : ByteArray := prog_15_method_6_code
def yJ2_length_9d52b : MethodName := ⟨RJ2, "length", "([B)I"⟩
abbrev cJ2_indexOf_4cfef : ByteArray := prog_15_method_40_code
def yJ2_indexOf_4cfef : MethodName := ⟨RJ2, "indexOf", "([BIII)I"⟩
abbrev cJ2_indexOfChar_4cfef : ByteArray := prog_15_method_47_code
def yJ2_indexOfChar_4cfef : MethodName := ⟨RJ2, "indexOfChar", "([BIII)I"⟩
abbrev cJ2_indexOfCharUnsafe_4cfef : ByteArray := prog_15_method_48_code
def yJ2_indexOfCharUnsafe_4cfef : MethodName := ⟨RJ2, "indexOfCharUnsafe", "([BIII)I"⟩
abbrev cJ2_indexOfSupplementary_4cfef : ByteArray := prog_15_method_49_code
def yJ2_indexOfSupplementary_4cfef : MethodName := ⟨RJ2, "indexOfSupplementary", "([BIII)I"⟩
abbrev cJ2_charAt_3b067 : ByteArray := prog_15_method_83_code
def yJ2_charAt_3b067 : MethodName := ⟨RJ2, "charAt", "([BI)C"⟩
abbrev cJ2_checkIndex_2214a : ByteArray := prog_15_method_91_code
def yJ2_checkIndex_2214a : MethodName := ⟨RJ2, "checkIndex", "(I[B)V"⟩
abbrev cJ2_checkBoundsBeginEnd_d044e : ByteArray := prog_15_method_93_code
def yJ2_checkBoundsBeginEnd_d044e : MethodName := ⟨RJ2, "checkBoundsBeginEnd", "(II[B)V"⟩
def RJ10 : String := "java/lang/System"
def TJ10 : u_T := fun k => match k with
  | _ => ("", "", "", false)
def tyJ10 : Nat → FieldType := fun k => match k with
  | _ => .int
abbrev wsJ100 : List Cond := u_ws RJ10 TJ10 0
theorem nmJ10 : ∀ a, a < 0 → ∀ b, b < 0 → a ≠ b → (TJ10 a).2.1 ≠ (TJ10 b).2.1 := by decide +kernel
theorem tyJ10_ok : ∀ k, k < 0 → parseFieldDescriptor (TJ10 k).2.2.1 = some (tyJ10 k) := by decide +kernel
def RJxfd54e : String := "java/lang/constant/Constable"
def TJxfd54e : u_T := fun k => match k with
  | _ => ("", "", "", false)
def tyJxfd54e : Nat → FieldType := fun k => match k with
  | _ => .int
abbrev wsJxfd54e0 : List Cond := u_ws RJxfd54e TJxfd54e 0
theorem nmJxfd54e : ∀ a, a < 0 → ∀ b, b < 0 → a ≠ b → (TJxfd54e a).2.1 ≠ (TJxfd54e b).2.1 := by decide +kernel
theorem tyJxfd54e_ok : ∀ k, k < 0 → parseFieldDescriptor (TJxfd54e k).2.2.1 = some (tyJxfd54e k) := by decide +kernel
def RJx3cf43 : String := "java/lang/constant/ConstantDesc"
def TJx3cf43 : u_T := fun k => match k with
  | _ => ("", "", "", false)
def tyJx3cf43 : Nat → FieldType := fun k => match k with
  | _ => .int
abbrev wsJx3cf430 : List Cond := u_ws RJx3cf43 TJx3cf43 0
theorem nmJx3cf43 : ∀ a, a < 0 → ∀ b, b < 0 → a ≠ b → (TJx3cf43 a).2.1 ≠ (TJx3cf43 b).2.1 := by decide +kernel
theorem tyJx3cf43_ok : ∀ k, k < 0 → parseFieldDescriptor (TJx3cf43 k).2.2.1 = some (tyJx3cf43 k) := by decide +kernel
def RJ7 : String := "java/util/Arrays"
def TJ7 : u_T := fun k => match k with
  | _ => ("", "", "", false)
def tyJ7 : Nat → FieldType := fun k => match k with
  | _ => .int
abbrev wsJ70 : List Cond := u_ws RJ7 TJ7 0
theorem nmJ7 : ∀ a, a < 0 → ∀ b, b < 0 → a ≠ b → (TJ7 a).2.1 ≠ (TJ7 b).2.1 := by decide +kernel
theorem tyJ7_ok : ∀ k, k < 0 → parseFieldDescriptor (TJ7 k).2.2.1 = some (tyJ7 k) := by decide +kernel
abbrev cJ7_fill_d0a16 : ByteArray := prog_17_method_101_code
def yJ7_fill_d0a16 : MethodName := ⟨RJ7, "fill", "([JJ)V"⟩
abbrev cJ7_copyOf_59c91 : ByteArray := prog_17_method_123_code
def yJ7_copyOf_59c91 : MethodName := ⟨RJ7, "copyOf", "([II)[I"⟩
def RJ3 : String := "jdk/internal/util/Preconditions"
def TJ3 : u_T := fun k => match k with
  | _ => ("", "", "", false)
def tyJ3 : Nat → FieldType := fun k => match k with
  | _ => .int
abbrev wsJ30 : List Cond := u_ws RJ3 TJ3 0
theorem nmJ3 : ∀ a, a < 0 → ∀ b, b < 0 → a ≠ b → (TJ3 a).2.1 ≠ (TJ3 b).2.1 := by decide +kernel
theorem tyJ3_ok : ∀ k, k < 0 → parseFieldDescriptor (TJ3 k).2.2.1 = some (tyJ3 k) := by decide +kernel
abbrev cJ3_checkIndex_8e157 : ByteArray := prog_18_method_11_code
def yJ3_checkIndex_8e157 : MethodName := ⟨RJ3, "checkIndex", "(IILjava/util/function/BiFunction;)I"⟩
abbrev cJ3_checkFromToIndex_8c36e : ByteArray := prog_18_method_12_code
def yJ3_checkFromToIndex_8c36e : MethodName := ⟨RJ3, "checkFromToIndex", "(IIILjava/util/function/BiFunction;)I"⟩
def RL : String := "PalmsAlteredLaw"
abbrev cL_law : ByteArray := code
def yL_law : MethodName := ⟨RL, "law", "([I)Z"⟩
abbrev vwCl : List vw_C := [(RX0, TX0, 5), (RX1, TX1, 4), (RX2, TX2, 2), (RX3, TX3, 10), (RX4, TX4, 3), (RX5, TX5, 8), (RX6, TX6, 15), (RX7, TX7, 69)]
