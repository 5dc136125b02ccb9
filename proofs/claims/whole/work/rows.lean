section
-- ===== PART A: goes FIRST, ahead of the names: the tables' words, and 'selects' of the private methods out of them =====
/-- a private method of a class that the tables say can be made, by its rows of tables_1 -/
def lw_okq (q : MethodName × Nat) : Prop := (q.1.cls ≠ "java/lang/invoke/MethodHandle" ∧ q.1.cls ≠ "java/lang/invoke/VarHandle") ∧ Cond.instantiable q.1.cls q.2 ∈ tables_1 ∧ Cond.privateMethod q.1 ∈ tables_1 ∧ Cond.instanceMethod q.1 ∈ tables_1
theorem lw_p0 : lw_okq (⟨"WholeSound", "filled", "(IIIII)I"⟩, 10) := ⟨⟨by decide +kernel, by decide +kernel⟩, List.mem_of_getElem? (i := 21) (by decide +kernel), List.mem_of_getElem? (i := 382) (by decide +kernel), List.mem_of_getElem? (i := 383) (by decide +kernel)⟩
theorem lw_p1 : lw_okq (⟨"WholeSound", "hasFrame", "(I)Z"⟩, 10) := ⟨⟨by decide +kernel, by decide +kernel⟩, List.mem_of_getElem? (i := 21) (by decide +kernel), List.mem_of_getElem? (i := 467) (by decide +kernel), List.mem_of_getElem? (i := 468) (by decide +kernel)⟩
theorem lw_p2 : lw_okq (⟨"WholeSound$Row", "isStill", "()Z"⟩, 10) := ⟨⟨by decide +kernel, by decide +kernel⟩, List.mem_of_getElem? (i := 160) (by decide +kernel), List.mem_of_getElem? (i := 494) (by decide +kernel), List.mem_of_getElem? (i := 495) (by decide +kernel)⟩
theorem lw_p3 : lw_okq (⟨"WholeSound$Cutter", "measureGroups", "()V"⟩, 15) := ⟨⟨by decide +kernel, by decide +kernel⟩, List.mem_of_getElem? (i := 100) (by decide +kernel), List.mem_of_getElem? (i := 515) (by decide +kernel), List.mem_of_getElem? (i := 516) (by decide +kernel)⟩
theorem lw_p4 : lw_okq (⟨"WholeSound$Cutter", "findParameter", "(III)V"⟩, 15) := ⟨⟨by decide +kernel, by decide +kernel⟩, List.mem_of_getElem? (i := 100) (by decide +kernel), List.mem_of_getElem? (i := 527) (by decide +kernel), List.mem_of_getElem? (i := 528) (by decide +kernel)⟩
theorem lw_p5 : lw_okq (⟨"WholeSound$Cutter", "parameterOfMean", "()I"⟩, 15) := ⟨⟨by decide +kernel, by decide +kernel⟩, List.mem_of_getElem? (i := 100) (by decide +kernel), List.mem_of_getElem? (i := 535) (by decide +kernel), List.mem_of_getElem? (i := 536) (by decide +kernel)⟩
theorem lw_p6 : lw_okq (⟨"WholeSound$Row", "keepRuns", "(LWholeSound$Cutter;)V"⟩, 10) := ⟨⟨by decide +kernel, by decide +kernel⟩, List.mem_of_getElem? (i := 160) (by decide +kernel), List.mem_of_getElem? (i := 543) (by decide +kernel), List.mem_of_getElem? (i := 544) (by decide +kernel)⟩
theorem lw_p7 : lw_okq (⟨"WholeSound$Plan", "joinRows", "(LWholeSound$Sound;II)V"⟩, 7) := ⟨⟨by decide +kernel, by decide +kernel⟩, List.mem_of_getElem? (i := 94) (by decide +kernel), List.mem_of_getElem? (i := 547) (by decide +kernel), List.mem_of_getElem? (i := 548) (by decide +kernel)⟩
theorem lw_p8 : lw_okq (⟨"WholeSound$Plan", "chooseWay", "()V"⟩, 7) := ⟨⟨by decide +kernel, by decide +kernel⟩, List.mem_of_getElem? (i := 94) (by decide +kernel), List.mem_of_getElem? (i := 551) (by decide +kernel), List.mem_of_getElem? (i := 552) (by decide +kernel)⟩
theorem lw_p9 : lw_okq (⟨"WholeSound", "plannedRow", "(II)LWholeSound$Row;"⟩, 10) := ⟨⟨by decide +kernel, by decide +kernel⟩, List.mem_of_getElem? (i := 21) (by decide +kernel), List.mem_of_getElem? (i := 576) (by decide +kernel), List.mem_of_getElem? (i := 577) (by decide +kernel)⟩
theorem lw_p10 : lw_okq (⟨"WholeSound", "canTry", "(LWholeSound$Row;I)Z"⟩, 10) := ⟨⟨by decide +kernel, by decide +kernel⟩, List.mem_of_getElem? (i := 21) (by decide +kernel), List.mem_of_getElem? (i := 590) (by decide +kernel), List.mem_of_getElem? (i := 591) (by decide +kernel)⟩
theorem lw_p11 : lw_okq (⟨"WholeSound", "packedSize", "(II)I"⟩, 10) := ⟨⟨by decide +kernel, by decide +kernel⟩, List.mem_of_getElem? (i := 21) (by decide +kernel), List.mem_of_getElem? (i := 613) (by decide +kernel), List.mem_of_getElem? (i := 614) (by decide +kernel)⟩
theorem lw_p12 : lw_okq (⟨"WholeSound", "writeHead", "()V"⟩, 10) := ⟨⟨by decide +kernel, by decide +kernel⟩, List.mem_of_getElem? (i := 21) (by decide +kernel), List.mem_of_getElem? (i := 637) (by decide +kernel), List.mem_of_getElem? (i := 638) (by decide +kernel)⟩
theorem lw_p13 : lw_okq (⟨"WholeSound", "writeFrame", "(I)V"⟩, 10) := ⟨⟨by decide +kernel, by decide +kernel⟩, List.mem_of_getElem? (i := 21) (by decide +kernel), List.mem_of_getElem? (i := 664) (by decide +kernel), List.mem_of_getElem? (i := 665) (by decide +kernel)⟩
theorem lw_p14 : lw_okq (⟨"WholeSound", "writeRow", "(LWholeSound$Row;)V"⟩, 10) := ⟨⟨by decide +kernel, by decide +kernel⟩, List.mem_of_getElem? (i := 21) (by decide +kernel), List.mem_of_getElem? (i := 672) (by decide +kernel), List.mem_of_getElem? (i := 673) (by decide +kernel)⟩
theorem lw_p15 : lw_okq (⟨"WholeSound", "writeRuns", "(LWholeSound$Row;)V"⟩, 10) := ⟨⟨by decide +kernel, by decide +kernel⟩, List.mem_of_getElem? (i := 21) (by decide +kernel), List.mem_of_getElem? (i := 676) (by decide +kernel), List.mem_of_getElem? (i := 677) (by decide +kernel)⟩
def lw_privs_1 : List (MethodName × Nat) := [(⟨"WholeSound", "filled", "(IIIII)I"⟩, 10), (⟨"WholeSound", "hasFrame", "(I)Z"⟩, 10), (⟨"WholeSound$Row", "isStill", "()Z"⟩, 10), (⟨"WholeSound$Cutter", "measureGroups", "()V"⟩, 15), (⟨"WholeSound$Cutter", "findParameter", "(III)V"⟩, 15), (⟨"WholeSound$Cutter", "parameterOfMean", "()I"⟩, 15), (⟨"WholeSound$Row", "keepRuns", "(LWholeSound$Cutter;)V"⟩, 10), (⟨"WholeSound$Plan", "joinRows", "(LWholeSound$Sound;II)V"⟩, 7), (⟨"WholeSound$Plan", "chooseWay", "()V"⟩, 7), (⟨"WholeSound", "plannedRow", "(II)LWholeSound$Row;"⟩, 10), (⟨"WholeSound", "canTry", "(LWholeSound$Row;I)Z"⟩, 10), (⟨"WholeSound", "packedSize", "(II)I"⟩, 10), (⟨"WholeSound", "writeHead", "()V"⟩, 10), (⟨"WholeSound", "writeFrame", "(I)V"⟩, 10), (⟨"WholeSound", "writeRow", "(LWholeSound$Row;)V"⟩, 10), (⟨"WholeSound", "writeRuns", "(LWholeSound$Row;)V"⟩, 10)]
theorem lw_r1 : ∀ q ∈ lw_privs_1, lw_okq q := List.forall_mem_cons.mpr ⟨lw_p0, List.forall_mem_cons.mpr ⟨lw_p1, List.forall_mem_cons.mpr ⟨lw_p2, List.forall_mem_cons.mpr ⟨lw_p3, List.forall_mem_cons.mpr ⟨lw_p4, List.forall_mem_cons.mpr ⟨lw_p5, List.forall_mem_cons.mpr ⟨lw_p6, List.forall_mem_cons.mpr ⟨lw_p7, List.forall_mem_cons.mpr ⟨lw_p8, List.forall_mem_cons.mpr ⟨lw_p9, List.forall_mem_cons.mpr ⟨lw_p10, List.forall_mem_cons.mpr ⟨lw_p11, List.forall_mem_cons.mpr ⟨lw_p12, List.forall_mem_cons.mpr ⟨lw_p13, List.forall_mem_cons.mpr ⟨lw_p14, List.forall_mem_cons.mpr ⟨lw_p15, fun _ h => absurd h List.not_mem_nil⟩⟩⟩⟩⟩⟩⟩⟩⟩⟩⟩⟩⟩⟩⟩⟩
theorem lw_p16 : lw_okq (⟨"WholeSound", "writeFixed", "(III)V"⟩, 10) := ⟨⟨by decide +kernel, by decide +kernel⟩, List.mem_of_getElem? (i := 21) (by decide +kernel), List.mem_of_getElem? (i := 681) (by decide +kernel), List.mem_of_getElem? (i := 682) (by decide +kernel)⟩
theorem lw_p17 : lw_okq (⟨"WholeSound", "writeSplit", "(III)V"⟩, 10) := ⟨⟨by decide +kernel, by decide +kernel⟩, List.mem_of_getElem? (i := 21) (by decide +kernel), List.mem_of_getElem? (i := 685) (by decide +kernel), List.mem_of_getElem? (i := 686) (by decide +kernel)⟩
theorem lw_p18 : lw_okq (⟨"WholeSound$Reader", "forgetFound", "()V"⟩, 13) := ⟨⟨by decide +kernel, by decide +kernel⟩, List.mem_of_getElem? (i := 235) (by decide +kernel), List.mem_of_getElem? (i := 735) (by decide +kernel), List.mem_of_getElem? (i := 736) (by decide +kernel)⟩
theorem lw_p19 : lw_okq (⟨"WholeSound$Reader", "frames", "()I"⟩, 13) := ⟨⟨by decide +kernel, by decide +kernel⟩, List.mem_of_getElem? (i := 235) (by decide +kernel), List.mem_of_getElem? (i := 744) (by decide +kernel), List.mem_of_getElem? (i := 745) (by decide +kernel)⟩
theorem lw_p20 : lw_okq (⟨"WholeSound$Reader", "readBits", "(I)I"⟩, 13) := ⟨⟨by decide +kernel, by decide +kernel⟩, List.mem_of_getElem? (i := 235) (by decide +kernel), List.mem_of_getElem? (i := 753) (by decide +kernel), List.mem_of_getElem? (i := 754) (by decide +kernel)⟩
theorem lw_p21 : lw_okq (⟨"WholeSound$Reader", "readRow", "([III)V"⟩, 13) := ⟨⟨by decide +kernel, by decide +kernel⟩, List.mem_of_getElem? (i := 235) (by decide +kernel), List.mem_of_getElem? (i := 757) (by decide +kernel), List.mem_of_getElem? (i := 758) (by decide +kernel)⟩
theorem lw_p22 : lw_okq (⟨"WholeSound$Reader", "readSigned", "(I)I"⟩, 13) := ⟨⟨by decide +kernel, by decide +kernel⟩, List.mem_of_getElem? (i := 235) (by decide +kernel), List.mem_of_getElem? (i := 761) (by decide +kernel), List.mem_of_getElem? (i := 762) (by decide +kernel)⟩
theorem lw_p23 : lw_okq (⟨"WholeSound$Reader", "readNumbers", "([III)V"⟩, 13) := ⟨⟨by decide +kernel, by decide +kernel⟩, List.mem_of_getElem? (i := 235) (by decide +kernel), List.mem_of_getElem? (i := 765) (by decide +kernel), List.mem_of_getElem? (i := 766) (by decide +kernel)⟩
theorem lw_p24 : lw_okq (⟨"WholeSound$Reader", "readRuns", "([III)V"⟩, 13) := ⟨⟨by decide +kernel, by decide +kernel⟩, List.mem_of_getElem? (i := 235) (by decide +kernel), List.mem_of_getElem? (i := 769) (by decide +kernel), List.mem_of_getElem? (i := 770) (by decide +kernel)⟩
theorem lw_p25 : lw_okq (⟨"WholeSound$Reader", "readSplit", "(I)I"⟩, 13) := ⟨⟨by decide +kernel, by decide +kernel⟩, List.mem_of_getElem? (i := 235) (by decide +kernel), List.mem_of_getElem? (i := 773) (by decide +kernel), List.mem_of_getElem? (i := 774) (by decide +kernel)⟩
theorem lw_p26 : lw_okq (⟨"WholeSound$Reader", "part", "(II)V"⟩, 13) := ⟨⟨by decide +kernel, by decide +kernel⟩, List.mem_of_getElem? (i := 235) (by decide +kernel), List.mem_of_getElem? (i := 778) (by decide +kernel), List.mem_of_getElem? (i := 779) (by decide +kernel)⟩
theorem lw_p27 : lw_okq (⟨"WholeSound$Reader", "isOfWidth", "([II)Z"⟩, 13) := ⟨⟨by decide +kernel, by decide +kernel⟩, List.mem_of_getElem? (i := 235) (by decide +kernel), List.mem_of_getElem? (i := 782) (by decide +kernel), List.mem_of_getElem? (i := 783) (by decide +kernel)⟩
theorem lw_p28 : lw_okq (⟨"WholeSound$Reader", "keepFound", "(III)V"⟩, 13) := ⟨⟨by decide +kernel, by decide +kernel⟩, List.mem_of_getElem? (i := 235) (by decide +kernel), List.mem_of_getElem? (i := 787) (by decide +kernel), List.mem_of_getElem? (i := 788) (by decide +kernel)⟩
theorem lw_p29 : lw_okq (⟨"java/lang/Throwable", "fillInStackTrace", "(I)Ljava/lang/Throwable;"⟩, 6) := ⟨⟨by decide +kernel, by decide +kernel⟩, List.mem_of_getElem? (i := 866) (by decide +kernel), List.mem_of_getElem? (i := 864) (by decide +kernel), List.mem_of_getElem? (i := 865) (by decide +kernel)⟩
theorem lw_p30 : lw_okq (⟨"WholeSoundModel", "eight", "(J)V"⟩, 46) := ⟨⟨by decide +kernel, by decide +kernel⟩, List.mem_of_getElem? (i := 930) (by decide +kernel), List.mem_of_getElem? (i := 1084) (by decide +kernel), List.mem_of_getElem? (i := 1085) (by decide +kernel)⟩
theorem lw_p31 : lw_okq (⟨"WholeSoundModel", "isChannel", "(I)Z"⟩, 46) := ⟨⟨by decide +kernel, by decide +kernel⟩, List.mem_of_getElem? (i := 930) (by decide +kernel), List.mem_of_getElem? (i := 1096) (by decide +kernel), List.mem_of_getElem? (i := 1097) (by decide +kernel)⟩
def lw_privs_2 : List (MethodName × Nat) := [(⟨"WholeSound", "writeFixed", "(III)V"⟩, 10), (⟨"WholeSound", "writeSplit", "(III)V"⟩, 10), (⟨"WholeSound$Reader", "forgetFound", "()V"⟩, 13), (⟨"WholeSound$Reader", "frames", "()I"⟩, 13), (⟨"WholeSound$Reader", "readBits", "(I)I"⟩, 13), (⟨"WholeSound$Reader", "readRow", "([III)V"⟩, 13), (⟨"WholeSound$Reader", "readSigned", "(I)I"⟩, 13), (⟨"WholeSound$Reader", "readNumbers", "([III)V"⟩, 13), (⟨"WholeSound$Reader", "readRuns", "([III)V"⟩, 13), (⟨"WholeSound$Reader", "readSplit", "(I)I"⟩, 13), (⟨"WholeSound$Reader", "part", "(II)V"⟩, 13), (⟨"WholeSound$Reader", "isOfWidth", "([II)Z"⟩, 13), (⟨"WholeSound$Reader", "keepFound", "(III)V"⟩, 13), (⟨"java/lang/Throwable", "fillInStackTrace", "(I)Ljava/lang/Throwable;"⟩, 6), (⟨"WholeSoundModel", "eight", "(J)V"⟩, 46), (⟨"WholeSoundModel", "isChannel", "(I)Z"⟩, 46)]
theorem lw_r2 : ∀ q ∈ lw_privs_2, lw_okq q := List.forall_mem_cons.mpr ⟨lw_p16, List.forall_mem_cons.mpr ⟨lw_p17, List.forall_mem_cons.mpr ⟨lw_p18, List.forall_mem_cons.mpr ⟨lw_p19, List.forall_mem_cons.mpr ⟨lw_p20, List.forall_mem_cons.mpr ⟨lw_p21, List.forall_mem_cons.mpr ⟨lw_p22, List.forall_mem_cons.mpr ⟨lw_p23, List.forall_mem_cons.mpr ⟨lw_p24, List.forall_mem_cons.mpr ⟨lw_p25, List.forall_mem_cons.mpr ⟨lw_p26, List.forall_mem_cons.mpr ⟨lw_p27, List.forall_mem_cons.mpr ⟨lw_p28, List.forall_mem_cons.mpr ⟨lw_p29, List.forall_mem_cons.mpr ⟨lw_p30, List.forall_mem_cons.mpr ⟨lw_p31, fun _ h => absurd h List.not_mem_nil⟩⟩⟩⟩⟩⟩⟩⟩⟩⟩⟩⟩⟩⟩⟩⟩
theorem lw_p32 : lw_okq (⟨"WholeSoundModel", "puts", "(II)V"⟩, 46) := ⟨⟨by decide +kernel, by decide +kernel⟩, List.mem_of_getElem? (i := 930) (by decide +kernel), List.mem_of_getElem? (i := 1106) (by decide +kernel), List.mem_of_getElem? (i := 1107) (by decide +kernel)⟩
theorem lw_p33 : lw_okq (⟨"WholeSoundModel", "filled", "(IIIII)I"⟩, 46) := ⟨⟨by decide +kernel, by decide +kernel⟩, List.mem_of_getElem? (i := 930) (by decide +kernel), List.mem_of_getElem? (i := 1116) (by decide +kernel), List.mem_of_getElem? (i := 1117) (by decide +kernel)⟩
theorem lw_p34 : lw_okq (⟨"WholeSoundModel", "drawn", "()I"⟩, 46) := ⟨⟨by decide +kernel, by decide +kernel⟩, List.mem_of_getElem? (i := 930) (by decide +kernel), List.mem_of_getElem? (i := 1120) (by decide +kernel), List.mem_of_getElem? (i := 1121) (by decide +kernel)⟩
theorem lw_p35 : lw_okq (⟨"WholeSoundModel", "held", "(I)I"⟩, 46) := ⟨⟨by decide +kernel, by decide +kernel⟩, List.mem_of_getElem? (i := 930) (by decide +kernel), List.mem_of_getElem? (i := 1125) (by decide +kernel), List.mem_of_getElem? (i := 1126) (by decide +kernel)⟩
theorem lw_p36 : lw_okq (⟨"WholeSoundModel", "isFrameThere", "(I)Z"⟩, 46) := ⟨⟨by decide +kernel, by decide +kernel⟩, List.mem_of_getElem? (i := 930) (by decide +kernel), List.mem_of_getElem? (i := 1164) (by decide +kernel), List.mem_of_getElem? (i := 1165) (by decide +kernel)⟩
theorem lw_p37 : lw_okq (⟨"WholeSoundModel", "frames", "()I"⟩, 46) := ⟨⟨by decide +kernel, by decide +kernel⟩, List.mem_of_getElem? (i := 930) (by decide +kernel), List.mem_of_getElem? (i := 1168) (by decide +kernel), List.mem_of_getElem? (i := 1169) (by decide +kernel)⟩
theorem lw_p38 : lw_okq (⟨"WholeSoundModel", "isReady", "()Z"⟩, 46) := ⟨⟨by decide +kernel, by decide +kernel⟩, List.mem_of_getElem? (i := 930) (by decide +kernel), List.mem_of_getElem? (i := 1172) (by decide +kernel), List.mem_of_getElem? (i := 1173) (by decide +kernel)⟩
theorem lw_p39 : lw_okq (⟨"WholeSoundModel", "joinOf", "(II)I"⟩, 46) := ⟨⟨by decide +kernel, by decide +kernel⟩, List.mem_of_getElem? (i := 930) (by decide +kernel), List.mem_of_getElem? (i := 1176) (by decide +kernel), List.mem_of_getElem? (i := 1177) (by decide +kernel)⟩
theorem lw_p40 : lw_okq (⟨"WholeSoundModel", "laysSorts", "(II)V"⟩, 46) := ⟨⟨by decide +kernel, by decide +kernel⟩, List.mem_of_getElem? (i := 930) (by decide +kernel), List.mem_of_getElem? (i := 1180) (by decide +kernel), List.mem_of_getElem? (i := 1181) (by decide +kernel)⟩
theorem lw_p41 : lw_okq (⟨"WholeSoundModel", "laysRow", "(II)V"⟩, 46) := ⟨⟨by decide +kernel, by decide +kernel⟩, List.mem_of_getElem? (i := 930) (by decide +kernel), List.mem_of_getElem? (i := 1184) (by decide +kernel), List.mem_of_getElem? (i := 1185) (by decide +kernel)⟩
theorem lw_p42 : lw_okq (⟨"WholeSoundModel", "rowCosts", "(I)I"⟩, 46) := ⟨⟨by decide +kernel, by decide +kernel⟩, List.mem_of_getElem? (i := 930) (by decide +kernel), List.mem_of_getElem? (i := 1188) (by decide +kernel), List.mem_of_getElem? (i := 1189) (by decide +kernel)⟩
theorem lw_p43 : lw_okq (⟨"WholeSoundModel", "isStill", "()Z"⟩, 46) := ⟨⟨by decide +kernel, by decide +kernel⟩, List.mem_of_getElem? (i := 930) (by decide +kernel), List.mem_of_getElem? (i := 1192) (by decide +kernel), List.mem_of_getElem? (i := 1193) (by decide +kernel)⟩
theorem lw_p44 : lw_okq (⟨"WholeSoundModel", "predictorFor", "(I)I"⟩, 46) := ⟨⟨by decide +kernel, by decide +kernel⟩, List.mem_of_getElem? (i := 930) (by decide +kernel), List.mem_of_getElem? (i := 1196) (by decide +kernel), List.mem_of_getElem? (i := 1197) (by decide +kernel)⟩
theorem lw_p45 : lw_okq (⟨"WholeSoundModel", "costs", "(I)I"⟩, 46) := ⟨⟨by decide +kernel, by decide +kernel⟩, List.mem_of_getElem? (i := 930) (by decide +kernel), List.mem_of_getElem? (i := 1200) (by decide +kernel), List.mem_of_getElem? (i := 1201) (by decide +kernel)⟩
theorem lw_p46 : lw_okq (⟨"WholeSoundModel", "laysErrors", "(I)V"⟩, 46) := ⟨⟨by decide +kernel, by decide +kernel⟩, List.mem_of_getElem? (i := 930) (by decide +kernel), List.mem_of_getElem? (i := 1204) (by decide +kernel), List.mem_of_getElem? (i := 1205) (by decide +kernel)⟩
theorem lw_p47 : lw_okq (⟨"WholeSoundModel", "runsWhole", "()I"⟩, 46) := ⟨⟨by decide +kernel, by decide +kernel⟩, List.mem_of_getElem? (i := 930) (by decide +kernel), List.mem_of_getElem? (i := 1213) (by decide +kernel), List.mem_of_getElem? (i := 1214) (by decide +kernel)⟩
def lw_privs_3 : List (MethodName × Nat) := [(⟨"WholeSoundModel", "puts", "(II)V"⟩, 46), (⟨"WholeSoundModel", "filled", "(IIIII)I"⟩, 46), (⟨"WholeSoundModel", "drawn", "()I"⟩, 46), (⟨"WholeSoundModel", "held", "(I)I"⟩, 46), (⟨"WholeSoundModel", "isFrameThere", "(I)Z"⟩, 46), (⟨"WholeSoundModel", "frames", "()I"⟩, 46), (⟨"WholeSoundModel", "isReady", "()Z"⟩, 46), (⟨"WholeSoundModel", "joinOf", "(II)I"⟩, 46), (⟨"WholeSoundModel", "laysSorts", "(II)V"⟩, 46), (⟨"WholeSoundModel", "laysRow", "(II)V"⟩, 46), (⟨"WholeSoundModel", "rowCosts", "(I)I"⟩, 46), (⟨"WholeSoundModel", "isStill", "()Z"⟩, 46), (⟨"WholeSoundModel", "predictorFor", "(I)I"⟩, 46), (⟨"WholeSoundModel", "costs", "(I)I"⟩, 46), (⟨"WholeSoundModel", "laysErrors", "(I)V"⟩, 46), (⟨"WholeSoundModel", "runsWhole", "()I"⟩, 46)]
theorem lw_r3 : ∀ q ∈ lw_privs_3, lw_okq q := List.forall_mem_cons.mpr ⟨lw_p32, List.forall_mem_cons.mpr ⟨lw_p33, List.forall_mem_cons.mpr ⟨lw_p34, List.forall_mem_cons.mpr ⟨lw_p35, List.forall_mem_cons.mpr ⟨lw_p36, List.forall_mem_cons.mpr ⟨lw_p37, List.forall_mem_cons.mpr ⟨lw_p38, List.forall_mem_cons.mpr ⟨lw_p39, List.forall_mem_cons.mpr ⟨lw_p40, List.forall_mem_cons.mpr ⟨lw_p41, List.forall_mem_cons.mpr ⟨lw_p42, List.forall_mem_cons.mpr ⟨lw_p43, List.forall_mem_cons.mpr ⟨lw_p44, List.forall_mem_cons.mpr ⟨lw_p45, List.forall_mem_cons.mpr ⟨lw_p46, List.forall_mem_cons.mpr ⟨lw_p47, fun _ h => absurd h List.not_mem_nil⟩⟩⟩⟩⟩⟩⟩⟩⟩⟩⟩⟩⟩⟩⟩⟩
theorem lw_p48 : lw_okq (⟨"WholeSoundModel", "laysGroups", "()V"⟩, 46) := ⟨⟨by decide +kernel, by decide +kernel⟩, List.mem_of_getElem? (i := 930) (by decide +kernel), List.mem_of_getElem? (i := 1217) (by decide +kernel), List.mem_of_getElem? (i := 1218) (by decide +kernel)⟩
theorem lw_p49 : lw_okq (⟨"WholeSoundModel", "inGroup", "(I)I"⟩, 46) := ⟨⟨by decide +kernel, by decide +kernel⟩, List.mem_of_getElem? (i := 930) (by decide +kernel), List.mem_of_getElem? (i := 1221) (by decide +kernel), List.mem_of_getElem? (i := 1222) (by decide +kernel)⟩
theorem lw_p50 : lw_okq (⟨"WholeSoundModel", "laysSpans", "()V"⟩, 46) := ⟨⟨by decide +kernel, by decide +kernel⟩, List.mem_of_getElem? (i := 930) (by decide +kernel), List.mem_of_getElem? (i := 1231) (by decide +kernel), List.mem_of_getElem? (i := 1232) (by decide +kernel)⟩
theorem lw_p51 : lw_okq (⟨"WholeSoundModel", "parameterOf", "(II)I"⟩, 46) := ⟨⟨by decide +kernel, by decide +kernel⟩, List.mem_of_getElem? (i := 930) (by decide +kernel), List.mem_of_getElem? (i := 1235) (by decide +kernel), List.mem_of_getElem? (i := 1236) (by decide +kernel)⟩
theorem lw_p52 : lw_okq (⟨"WholeSoundModel", "bitsBy", "(III)I"⟩, 46) := ⟨⟨by decide +kernel, by decide +kernel⟩, List.mem_of_getElem? (i := 930) (by decide +kernel), List.mem_of_getElem? (i := 1239) (by decide +kernel), List.mem_of_getElem? (i := 1240) (by decide +kernel)⟩
theorem lw_p53 : lw_okq (⟨"WholeSoundModel", "bitsOfWay", "(I)I"⟩, 46) := ⟨⟨by decide +kernel, by decide +kernel⟩, List.mem_of_getElem? (i := 930) (by decide +kernel), List.mem_of_getElem? (i := 1243) (by decide +kernel), List.mem_of_getElem? (i := 1244) (by decide +kernel)⟩
theorem lw_p54 : lw_okq (⟨"WholeSoundModel", "runByMean", "()I"⟩, 46) := ⟨⟨by decide +kernel, by decide +kernel⟩, List.mem_of_getElem? (i := 930) (by decide +kernel), List.mem_of_getElem? (i := 1250) (by decide +kernel), List.mem_of_getElem? (i := 1251) (by decide +kernel)⟩
theorem lw_p55 : lw_okq (⟨"WholeSoundModel", "sizes", "()I"⟩, 46) := ⟨⟨by decide +kernel, by decide +kernel⟩, List.mem_of_getElem? (i := 930) (by decide +kernel), List.mem_of_getElem? (i := 1254) (by decide +kernel), List.mem_of_getElem? (i := 1255) (by decide +kernel)⟩
theorem lw_p56 : lw_okq (⟨"WholeSoundModel", "meanNow", "()F"⟩, 46) := ⟨⟨by decide +kernel, by decide +kernel⟩, List.mem_of_getElem? (i := 930) (by decide +kernel), List.mem_of_getElem? (i := 1258) (by decide +kernel), List.mem_of_getElem? (i := 1259) (by decide +kernel)⟩
theorem lw_p57 : lw_okq (⟨"WholeSoundModel", "joinNow", "()I"⟩, 46) := ⟨⟨by decide +kernel, by decide +kernel⟩, List.mem_of_getElem? (i := 930) (by decide +kernel), List.mem_of_getElem? (i := 1262) (by decide +kernel), List.mem_of_getElem? (i := 1263) (by decide +kernel)⟩
theorem lw_p58 : lw_okq (⟨"WholeSoundModel", "joinedBits", "(I)I"⟩, 46) := ⟨⟨by decide +kernel, by decide +kernel⟩, List.mem_of_getElem? (i := 930) (by decide +kernel), List.mem_of_getElem? (i := 1266) (by decide +kernel), List.mem_of_getElem? (i := 1267) (by decide +kernel)⟩
theorem lw_p59 : lw_okq (⟨"WholeSoundModel", "isRowLaid", "(II)Z"⟩, 46) := ⟨⟨by decide +kernel, by decide +kernel⟩, List.mem_of_getElem? (i := 930) (by decide +kernel), List.mem_of_getElem? (i := 1281) (by decide +kernel), List.mem_of_getElem? (i := 1282) (by decide +kernel)⟩
theorem lw_p60 : lw_okq (⟨"WholeSoundModel", "sizeBy", "(I)I"⟩, 46) := ⟨⟨by decide +kernel, by decide +kernel⟩, List.mem_of_getElem? (i := 930) (by decide +kernel), List.mem_of_getElem? (i := 1315) (by decide +kernel), List.mem_of_getElem? (i := 1316) (by decide +kernel)⟩
theorem lw_p61 : lw_okq (⟨"WholeSoundModel", "sizeOf", "(I)I"⟩, 46) := ⟨⟨by decide +kernel, by decide +kernel⟩, List.mem_of_getElem? (i := 930) (by decide +kernel), List.mem_of_getElem? (i := 1323) (by decide +kernel), List.mem_of_getElem? (i := 1324) (by decide +kernel)⟩
theorem lw_p62 : lw_okq (⟨"WholeSoundModel", "putsByte", "(I)V"⟩, 46) := ⟨⟨by decide +kernel, by decide +kernel⟩, List.mem_of_getElem? (i := 930) (by decide +kernel), List.mem_of_getElem? (i := 1339) (by decide +kernel), List.mem_of_getElem? (i := 1340) (by decide +kernel)⟩
theorem lw_p63 : lw_okq (⟨"WholeSoundModel", "putsCheck", "(I)V"⟩, 46) := ⟨⟨by decide +kernel, by decide +kernel⟩, List.mem_of_getElem? (i := 930) (by decide +kernel), List.mem_of_getElem? (i := 1343) (by decide +kernel), List.mem_of_getElem? (i := 1344) (by decide +kernel)⟩
def lw_privs_4 : List (MethodName × Nat) := [(⟨"WholeSoundModel", "laysGroups", "()V"⟩, 46), (⟨"WholeSoundModel", "inGroup", "(I)I"⟩, 46), (⟨"WholeSoundModel", "laysSpans", "()V"⟩, 46), (⟨"WholeSoundModel", "parameterOf", "(II)I"⟩, 46), (⟨"WholeSoundModel", "bitsBy", "(III)I"⟩, 46), (⟨"WholeSoundModel", "bitsOfWay", "(I)I"⟩, 46), (⟨"WholeSoundModel", "runByMean", "()I"⟩, 46), (⟨"WholeSoundModel", "sizes", "()I"⟩, 46), (⟨"WholeSoundModel", "meanNow", "()F"⟩, 46), (⟨"WholeSoundModel", "joinNow", "()I"⟩, 46), (⟨"WholeSoundModel", "joinedBits", "(I)I"⟩, 46), (⟨"WholeSoundModel", "isRowLaid", "(II)Z"⟩, 46), (⟨"WholeSoundModel", "sizeBy", "(I)I"⟩, 46), (⟨"WholeSoundModel", "sizeOf", "(I)I"⟩, 46), (⟨"WholeSoundModel", "putsByte", "(I)V"⟩, 46), (⟨"WholeSoundModel", "putsCheck", "(I)V"⟩, 46)]
theorem lw_r4 : ∀ q ∈ lw_privs_4, lw_okq q := List.forall_mem_cons.mpr ⟨lw_p48, List.forall_mem_cons.mpr ⟨lw_p49, List.forall_mem_cons.mpr ⟨lw_p50, List.forall_mem_cons.mpr ⟨lw_p51, List.forall_mem_cons.mpr ⟨lw_p52, List.forall_mem_cons.mpr ⟨lw_p53, List.forall_mem_cons.mpr ⟨lw_p54, List.forall_mem_cons.mpr ⟨lw_p55, List.forall_mem_cons.mpr ⟨lw_p56, List.forall_mem_cons.mpr ⟨lw_p57, List.forall_mem_cons.mpr ⟨lw_p58, List.forall_mem_cons.mpr ⟨lw_p59, List.forall_mem_cons.mpr ⟨lw_p60, List.forall_mem_cons.mpr ⟨lw_p61, List.forall_mem_cons.mpr ⟨lw_p62, List.forall_mem_cons.mpr ⟨lw_p63, fun _ h => absurd h List.not_mem_nil⟩⟩⟩⟩⟩⟩⟩⟩⟩⟩⟩⟩⟩⟩⟩⟩
theorem lw_p64 : lw_okq (⟨"WholeSoundModel", "checked", "(II)I"⟩, 46) := ⟨⟨by decide +kernel, by decide +kernel⟩, List.mem_of_getElem? (i := 930) (by decide +kernel), List.mem_of_getElem? (i := 1347) (by decide +kernel), List.mem_of_getElem? (i := 1348) (by decide +kernel)⟩
theorem lw_p65 : lw_okq (⟨"WholeSoundModel", "putsBits", "(II)V"⟩, 46) := ⟨⟨by decide +kernel, by decide +kernel⟩, List.mem_of_getElem? (i := 930) (by decide +kernel), List.mem_of_getElem? (i := 1353) (by decide +kernel), List.mem_of_getElem? (i := 1354) (by decide +kernel)⟩
theorem lw_p66 : lw_okq (⟨"WholeSoundModel", "putsRow", "(II)V"⟩, 46) := ⟨⟨by decide +kernel, by decide +kernel⟩, List.mem_of_getElem? (i := 930) (by decide +kernel), List.mem_of_getElem? (i := 1357) (by decide +kernel), List.mem_of_getElem? (i := 1358) (by decide +kernel)⟩
theorem lw_p67 : lw_okq (⟨"WholeSoundModel", "putsRun", "(IIII)V"⟩, 46) := ⟨⟨by decide +kernel, by decide +kernel⟩, List.mem_of_getElem? (i := 930) (by decide +kernel), List.mem_of_getElem? (i := 1361) (by decide +kernel), List.mem_of_getElem? (i := 1362) (by decide +kernel)⟩
theorem lw_p68 : lw_okq (⟨"WholeSoundModel", "headNow", "()I"⟩, 46) := ⟨⟨by decide +kernel, by decide +kernel⟩, List.mem_of_getElem? (i := 930) (by decide +kernel), List.mem_of_getElem? (i := 1385) (by decide +kernel), List.mem_of_getElem? (i := 1386) (by decide +kernel)⟩
theorem lw_p69 : lw_okq (⟨"WholeSoundModel", "finds", "()Z"⟩, 46) := ⟨⟨by decide +kernel, by decide +kernel⟩, List.mem_of_getElem? (i := 930) (by decide +kernel), List.mem_of_getElem? (i := 1393) (by decide +kernel), List.mem_of_getElem? (i := 1394) (by decide +kernel)⟩
theorem lw_p70 : lw_okq (⟨"WholeSoundModel", "headFrames", "()I"⟩, 46) := ⟨⟨by decide +kernel, by decide +kernel⟩, List.mem_of_getElem? (i := 930) (by decide +kernel), List.mem_of_getElem? (i := 1397) (by decide +kernel), List.mem_of_getElem? (i := 1398) (by decide +kernel)⟩
theorem lw_p71 : lw_okq (⟨"WholeSoundModel", "lengthAt", "(II)I"⟩, 46) := ⟨⟨by decide +kernel, by decide +kernel⟩, List.mem_of_getElem? (i := 930) (by decide +kernel), List.mem_of_getElem? (i := 1401) (by decide +kernel), List.mem_of_getElem? (i := 1402) (by decide +kernel)⟩
theorem lw_p72 : lw_okq (⟨"WholeSoundModel", "sizeAt", "(I)I"⟩, 46) := ⟨⟨by decide +kernel, by decide +kernel⟩, List.mem_of_getElem? (i := 930) (by decide +kernel), List.mem_of_getElem? (i := 1405) (by decide +kernel), List.mem_of_getElem? (i := 1406) (by decide +kernel)⟩
theorem lw_p73 : lw_okq (⟨"WholeSoundModel", "bits", "(I)I"⟩, 46) := ⟨⟨by decide +kernel, by decide +kernel⟩, List.mem_of_getElem? (i := 930) (by decide +kernel), List.mem_of_getElem? (i := 1409) (by decide +kernel), List.mem_of_getElem? (i := 1410) (by decide +kernel)⟩
theorem lw_p74 : lw_okq (⟨"WholeSoundModel", "bit", "()I"⟩, 46) := ⟨⟨by decide +kernel, by decide +kernel⟩, List.mem_of_getElem? (i := 930) (by decide +kernel), List.mem_of_getElem? (i := 1413) (by decide +kernel), List.mem_of_getElem? (i := 1414) (by decide +kernel)⟩
theorem lw_p75 : lw_okq (⟨"WholeSoundModel", "readsRow", "(III)V"⟩, 46) := ⟨⟨by decide +kernel, by decide +kernel⟩, List.mem_of_getElem? (i := 930) (by decide +kernel), List.mem_of_getElem? (i := 1417) (by decide +kernel), List.mem_of_getElem? (i := 1418) (by decide +kernel)⟩
theorem lw_p76 : lw_okq (⟨"WholeSoundModel", "signedBits", "(I)I"⟩, 46) := ⟨⟨by decide +kernel, by decide +kernel⟩, List.mem_of_getElem? (i := 930) (by decide +kernel), List.mem_of_getElem? (i := 1421) (by decide +kernel), List.mem_of_getElem? (i := 1422) (by decide +kernel)⟩
theorem lw_p77 : lw_okq (⟨"WholeSoundModel", "readsRuns", "(II)V"⟩, 46) := ⟨⟨by decide +kernel, by decide +kernel⟩, List.mem_of_getElem? (i := 930) (by decide +kernel), List.mem_of_getElem? (i := 1425) (by decide +kernel), List.mem_of_getElem? (i := 1426) (by decide +kernel)⟩
theorem lw_p78 : lw_okq (⟨"WholeSoundModel", "readError", "(II)I"⟩, 46) := ⟨⟨by decide +kernel, by decide +kernel⟩, List.mem_of_getElem? (i := 930) (by decide +kernel), List.mem_of_getElem? (i := 1429) (by decide +kernel), List.mem_of_getElem? (i := 1430) (by decide +kernel)⟩
theorem lw_p79 : lw_okq (⟨"WholeSoundModel", "parts", "(II)Z"⟩, 46) := ⟨⟨by decide +kernel, by decide +kernel⟩, List.mem_of_getElem? (i := 930) (by decide +kernel), List.mem_of_getElem? (i := 1433) (by decide +kernel), List.mem_of_getElem? (i := 1434) (by decide +kernel)⟩
def lw_privs_5 : List (MethodName × Nat) := [(⟨"WholeSoundModel", "checked", "(II)I"⟩, 46), (⟨"WholeSoundModel", "putsBits", "(II)V"⟩, 46), (⟨"WholeSoundModel", "putsRow", "(II)V"⟩, 46), (⟨"WholeSoundModel", "putsRun", "(IIII)V"⟩, 46), (⟨"WholeSoundModel", "headNow", "()I"⟩, 46), (⟨"WholeSoundModel", "finds", "()Z"⟩, 46), (⟨"WholeSoundModel", "headFrames", "()I"⟩, 46), (⟨"WholeSoundModel", "lengthAt", "(II)I"⟩, 46), (⟨"WholeSoundModel", "sizeAt", "(I)I"⟩, 46), (⟨"WholeSoundModel", "bits", "(I)I"⟩, 46), (⟨"WholeSoundModel", "bit", "()I"⟩, 46), (⟨"WholeSoundModel", "readsRow", "(III)V"⟩, 46), (⟨"WholeSoundModel", "signedBits", "(I)I"⟩, 46), (⟨"WholeSoundModel", "readsRuns", "(II)V"⟩, 46), (⟨"WholeSoundModel", "readError", "(II)I"⟩, 46), (⟨"WholeSoundModel", "parts", "(II)Z"⟩, 46)]
theorem lw_r5 : ∀ q ∈ lw_privs_5, lw_okq q := List.forall_mem_cons.mpr ⟨lw_p64, List.forall_mem_cons.mpr ⟨lw_p65, List.forall_mem_cons.mpr ⟨lw_p66, List.forall_mem_cons.mpr ⟨lw_p67, List.forall_mem_cons.mpr ⟨lw_p68, List.forall_mem_cons.mpr ⟨lw_p69, List.forall_mem_cons.mpr ⟨lw_p70, List.forall_mem_cons.mpr ⟨lw_p71, List.forall_mem_cons.mpr ⟨lw_p72, List.forall_mem_cons.mpr ⟨lw_p73, List.forall_mem_cons.mpr ⟨lw_p74, List.forall_mem_cons.mpr ⟨lw_p75, List.forall_mem_cons.mpr ⟨lw_p76, List.forall_mem_cons.mpr ⟨lw_p77, List.forall_mem_cons.mpr ⟨lw_p78, List.forall_mem_cons.mpr ⟨lw_p79, fun _ h => absurd h List.not_mem_nil⟩⟩⟩⟩⟩⟩⟩⟩⟩⟩⟩⟩⟩⟩⟩⟩
def lw_privs : List (MethodName × Nat) := lw_privs_1 ++ (lw_privs_2 ++ (lw_privs_3 ++ (lw_privs_4 ++ (lw_privs_5))))
def lw_tbl : List Cond := k2_sels lw_privs ++ tables_1
theorem lw_privs_ok : ∀ q ∈ lw_privs, lw_okq q := by
  show ∀ q ∈ lw_privs_1 ++ (lw_privs_2 ++ (lw_privs_3 ++ (lw_privs_4 ++ (lw_privs_5)))), lw_okq q
  exact List.forall_mem_append.mpr ⟨lw_r1, List.forall_mem_append.mpr ⟨lw_r2, List.forall_mem_append.mpr ⟨lw_r3, List.forall_mem_append.mpr ⟨lw_r4, lw_r5⟩⟩⟩⟩
/-- the streams that the claim lets the run draw from -/
abbrev lw_cs : List Choice := [Jvm.Choice.named "NaN.bits"]
theorem lw_bits : nanBits ∈ lw_cs := by first | decide | exact List.mem_cons_self | simp [lw_cs, nanBits]
def RX0 : String := "WholeSound$Cutter"
def TX0 : u_T := fun k => match k with
  | 0 => ("WholeSound$Cutter", "residuals", "[I", true)
  | 1 => ("WholeSound$Cutter", "many", "I", false)
  | 2 => ("WholeSound$Cutter", "groups", "I", false)
  | 3 => ("WholeSound$Cutter", "sum", "I", false)
  | 4 => ("WholeSound$Cutter", "starts", "[I", true)
  | 5 => ("WholeSound$Cutter", "groupWidths", "[I", true)
  | 6 => ("WholeSound$Cutter", "quotients", "[I", true)
  | 7 => ("WholeSound$Cutter", "least", "[I", true)
  | 8 => ("WholeSound$Cutter", "fewest", "[I", true)
  | 9 => ("WholeSound$Cutter", "lengths", "[I", true)
  | 10 => ("WholeSound$Cutter", "parameters", "[I", true)
  | 11 => ("WholeSound$Cutter", "widths", "[I", true)
  | 12 => ("WholeSound$Cutter", "bits", "[I", true)
  | 13 => ("WholeSound$Cutter", "foundParameter", "I", false)
  | _ => ("WholeSound$Cutter", "foundBits", "I", false)
def tyX0 : Nat → FieldType := fun k => match k with
  | 0 => .array .int
  | 1 => .int
  | 2 => .int
  | 3 => .int
  | 4 => .array .int
  | 5 => .array .int
  | 6 => .array .int
  | 7 => .array .int
  | 8 => .array .int
  | 9 => .array .int
  | 10 => .array .int
  | 11 => .array .int
  | 12 => .array .int
  | 13 => .int
  | _ => .int
abbrev wsX00 : List Cond := u_ws RX0 TX0 15
theorem nmX0 : ∀ a, a < 15 → ∀ b, b < 15 → a ≠ b → (TX0 a).2.1 ≠ (TX0 b).2.1 := by decide +kernel
theorem tyX0_ok : ∀ k, k < 15 → parseFieldDescriptor (TX0 k).2.2.1 = some (tyX0 k) := by decide +kernel
def RX1 : String := "WholeSound$Plan"
def TX1 : u_T := fun k => match k with
  | 0 => ("WholeSound$Plan", "cutter", "LWholeSound$Cutter;", true)
  | 1 => ("WholeSound$Plan", "left", "LWholeSound$Row;", true)
  | 2 => ("WholeSound$Plan", "right", "LWholeSound$Row;", true)
  | 3 => ("WholeSound$Plan", "side", "LWholeSound$Row;", true)
  | 4 => ("WholeSound$Plan", "middle", "LWholeSound$Row;", true)
  | 5 => ("WholeSound$Plan", "two", "Z", false)
  | _ => ("WholeSound$Plan", "way", "I", false)
def tyX1 : Nat → FieldType := fun k => match k with
  | 0 => .object "WholeSound$Cutter"
  | 1 => .object "WholeSound$Row"
  | 2 => .object "WholeSound$Row"
  | 3 => .object "WholeSound$Row"
  | 4 => .object "WholeSound$Row"
  | 5 => .boolean
  | _ => .int
abbrev wsX10 : List Cond := u_ws RX1 TX1 7
theorem nmX1 : ∀ a, a < 7 → ∀ b, b < 7 → a ≠ b → (TX1 a).2.1 ≠ (TX1 b).2.1 := by decide +kernel
theorem tyX1_ok : ∀ k, k < 7 → parseFieldDescriptor (TX1 k).2.2.1 = some (tyX1 k) := by decide +kernel
def RX2 : String := "WholeSound$Predictors"
def TX2 : u_T := fun k => match k with
  | 0 => ("WholeSound$Predictors", "weights", "[I", true)
  | 1 => ("WholeSound$Predictors", "orders", "[I", true)
  | _ => ("WholeSound$Predictors", "shifts", "[I", true)
def tyX2 : Nat → FieldType := fun k => match k with
  | 0 => .array .int
  | 1 => .array .int
  | _ => .array .int
abbrev wsX20 : List Cond := u_ws RX2 TX2 3
theorem nmX2 : ∀ a, a < 3 → ∀ b, b < 3 → a ≠ b → (TX2 a).2.1 ≠ (TX2 b).2.1 := by decide +kernel
theorem tyX2_ok : ∀ k, k < 3 → parseFieldDescriptor (TX2 k).2.2.1 = some (tyX2 k) := by decide +kernel
def RX3 : String := "WholeSound$Reader"
def TX3 : u_T := fun k => match k with
  | 0 => ("WholeSound$Reader", "store", "LWholeSound$Store;", true)
  | 1 => ("WholeSound$Reader", "predictors", "LWholeSound$Predictors;", true)
  | 2 => ("WholeSound$Reader", "channels", "I", false)
  | 3 => ("WholeSound$Reader", "width", "I", false)
  | 4 => ("WholeSound$Reader", "size", "I", false)
  | 5 => ("WholeSound$Reader", "samples", "I", false)
  | 6 => ("WholeSound$Reader", "bit", "I", false)
  | 7 => ("WholeSound$Reader", "broken", "Z", false)
  | 8 => ("WholeSound$Reader", "first", "[I", true)
  | 9 => ("WholeSound$Reader", "second", "[I", true)
  | 10 => ("WholeSound$Reader", "places", "[I", true)
  | 11 => ("WholeSound$Reader", "lengths", "[I", true)
  | _ => ("WholeSound$Reader", "out", "[I", true)
def tyX3 : Nat → FieldType := fun k => match k with
  | 0 => .object "WholeSound$Store"
  | 1 => .object "WholeSound$Predictors"
  | 2 => .int
  | 3 => .int
  | 4 => .int
  | 5 => .int
  | 6 => .int
  | 7 => .boolean
  | 8 => .array .int
  | 9 => .array .int
  | 10 => .array .int
  | 11 => .array .int
  | _ => .array .int
abbrev wsX30 : List Cond := u_ws RX3 TX3 13
theorem nmX3 : ∀ a, a < 13 → ∀ b, b < 13 → a ≠ b → (TX3 a).2.1 ≠ (TX3 b).2.1 := by decide +kernel
theorem tyX3_ok : ∀ k, k < 13 → parseFieldDescriptor (TX3 k).2.2.1 = some (tyX3 k) := by decide +kernel
def RX4 : String := "WholeSound$Row"
def TX4 : u_T := fun k => match k with
  | 0 => ("WholeSound$Row", "numbers", "[I", true)
  | 1 => ("WholeSound$Row", "many", "I", false)
  | 2 => ("WholeSound$Row", "width", "I", false)
  | 3 => ("WholeSound$Row", "how", "I", false)
  | 4 => ("WholeSound$Row", "bits", "I", false)
  | 5 => ("WholeSound$Row", "runs", "I", false)
  | 6 => ("WholeSound$Row", "runGroups", "[I", true)
  | 7 => ("WholeSound$Row", "runParameters", "[I", true)
  | 8 => ("WholeSound$Row", "runWidths", "[I", true)
  | _ => ("WholeSound$Row", "runBits", "[I", true)
def tyX4 : Nat → FieldType := fun k => match k with
  | 0 => .array .int
  | 1 => .int
  | 2 => .int
  | 3 => .int
  | 4 => .int
  | 5 => .int
  | 6 => .array .int
  | 7 => .array .int
  | 8 => .array .int
  | _ => .array .int
abbrev wsX40 : List Cond := u_ws RX4 TX4 10
theorem nmX4 : ∀ a, a < 10 → ∀ b, b < 10 → a ≠ b → (TX4 a).2.1 ≠ (TX4 b).2.1 := by decide +kernel
theorem tyX4_ok : ∀ k, k < 10 → parseFieldDescriptor (TX4 k).2.2.1 = some (tyX4 k) := by decide +kernel
def RX5 : String := "WholeSound$Sound"
def TX5 : u_T := fun k => match k with
  | 0 => ("WholeSound$Sound", "values", "[I", true)
  | 1 => ("WholeSound$Sound", "counts", "[I", true)
  | 2 => ("WholeSound$Sound", "channels", "I", false)
  | 3 => ("WholeSound$Sound", "width", "I", false)
  | _ => ("WholeSound$Sound", "seed", "I", false)
def tyX5 : Nat → FieldType := fun k => match k with
  | 0 => .array .int
  | 1 => .array .int
  | 2 => .int
  | 3 => .int
  | _ => .int
abbrev wsX50 : List Cond := u_ws RX5 TX5 5
theorem nmX5 : ∀ a, a < 5 → ∀ b, b < 5 → a ≠ b → (TX5 a).2.1 ≠ (TX5 b).2.1 := by decide +kernel
theorem tyX5_ok : ∀ k, k < 5 → parseFieldDescriptor (TX5 k).2.2.1 = some (tyX5 k) := by decide +kernel
def RX6 : String := "WholeSound$Store"
def TX6 : u_T := fun k => match k with
  | 0 => ("WholeSound$Store", "bytes", "[I", true)
  | 1 => ("WholeSound$Store", "used", "I", false)
  | _ => ("WholeSound$Store", "spare", "I", false)
def tyX6 : Nat → FieldType := fun k => match k with
  | 0 => .array .int
  | 1 => .int
  | _ => .int
abbrev wsX60 : List Cond := u_ws RX6 TX6 3
theorem nmX6 : ∀ a, a < 3 → ∀ b, b < 3 → a ≠ b → (TX6 a).2.1 ≠ (TX6 b).2.1 := by decide +kernel
theorem tyX6_ok : ∀ k, k < 3 → parseFieldDescriptor (TX6 k).2.2.1 = some (tyX6 k) := by decide +kernel
def RX7 : String := "WholeSound$Tape"
def TX7 : u_T := fun k => match k with
  | 0 => ("WholeSound$Tape", "bytes", "[I", true)
  | _ => ("WholeSound$Tape", "used", "I", false)
def tyX7 : Nat → FieldType := fun k => match k with
  | 0 => .array .int
  | _ => .int
abbrev wsX70 : List Cond := u_ws RX7 TX7 2
theorem nmX7 : ∀ a, a < 2 → ∀ b, b < 2 → a ≠ b → (TX7 a).2.1 ≠ (TX7 b).2.1 := by decide +kernel
theorem tyX7_ok : ∀ k, k < 2 → parseFieldDescriptor (TX7 k).2.2.1 = some (tyX7 k) := by decide +kernel
def RX8 : String := "WholeSound"
def TX8 : u_T := fun k => match k with
  | 0 => ("WholeSound", "tape", "LWholeSound$Tape;", true)
  | 1 => ("WholeSound", "sound", "LWholeSound$Sound;", true)
  | 2 => ("WholeSound", "predictors", "LWholeSound$Predictors;", true)
  | 3 => ("WholeSound", "plan", "LWholeSound$Plan;", true)
  | 4 => ("WholeSound", "cutter", "LWholeSound$Cutter;", true)
  | 5 => ("WholeSound", "reader", "LWholeSound$Reader;", true)
  | 6 => ("WholeSound", "store", "LWholeSound$Store;", true)
  | 7 => ("WholeSound", "frameSize", "I", false)
  | 8 => ("WholeSound", "effort", "I", false)
  | _ => ("WholeSound", "allowed", "I", false)
def tyX8 : Nat → FieldType := fun k => match k with
  | 0 => .object "WholeSound$Tape"
  | 1 => .object "WholeSound$Sound"
  | 2 => .object "WholeSound$Predictors"
  | 3 => .object "WholeSound$Plan"
  | 4 => .object "WholeSound$Cutter"
  | 5 => .object "WholeSound$Reader"
  | 6 => .object "WholeSound$Store"
  | 7 => .int
  | 8 => .int
  | _ => .int
abbrev wsX80 : List Cond := u_ws RX8 TX8 10
theorem nmX8 : ∀ a, a < 10 → ∀ b, b < 10 → a ≠ b → (TX8 a).2.1 ≠ (TX8 b).2.1 := by decide +kernel
theorem tyX8_ok : ∀ k, k < 10 → parseFieldDescriptor (TX8 k).2.2.1 = some (tyX8 k) := by decide +kernel
def RX9 : String := "WholeSoundModel"
def TX9 : u_T := fun k => match k with
  | 0 => ("WholeSoundModel", "tape", "[I", true)
  | 1 => ("WholeSoundModel", "taped", "I", false)
  | 2 => ("WholeSoundModel", "sample", "[I", true)
  | 3 => ("WholeSoundModel", "many", "[I", true)
  | 4 => ("WholeSoundModel", "channels", "I", false)
  | 5 => ("WholeSoundModel", "width", "I", false)
  | 6 => ("WholeSoundModel", "frame", "I", false)
  | 7 => ("WholeSoundModel", "effort", "I", false)
  | 8 => ("WholeSoundModel", "allowed", "I", false)
  | 9 => ("WholeSoundModel", "seed", "I", false)
  | 10 => ("WholeSoundModel", "weights", "[I", true)
  | 11 => ("WholeSoundModel", "shifts", "[I", true)
  | 12 => ("WholeSoundModel", "headWeights", "[I", true)
  | 13 => ("WholeSoundModel", "headShifts", "[I", true)
  | 14 => ("WholeSoundModel", "store", "[I", true)
  | 15 => ("WholeSoundModel", "stored", "I", false)
  | 16 => ("WholeSoundModel", "thrown", "I", false)
  | 17 => ("WholeSoundModel", "x", "[I", true)
  | 18 => ("WholeSoundModel", "n", "I", false)
  | 19 => ("WholeSoundModel", "rowBits", "I", false)
  | 20 => ("WholeSoundModel", "e", "[I", true)
  | 21 => ("WholeSoundModel", "errors", "I", false)
  | 22 => ("WholeSoundModel", "groups", "I", false)
  | 23 => ("WholeSoundModel", "groupBits", "[I", true)
  | 24 => ("WholeSoundModel", "groupWidth", "[I", true)
  | 25 => ("WholeSoundModel", "isNothing", "[Z", true)
  | 26 => ("WholeSoundModel", "runEnd", "[I", true)
  | 27 => ("WholeSoundModel", "runBy", "[I", true)
  | 28 => ("WholeSoundModel", "runBits", "[I", true)
  | 29 => ("WholeSoundModel", "runs", "I", false)
  | 30 => ("WholeSoundModel", "spanBy", "[I", true)
  | 31 => ("WholeSoundModel", "spanBits", "[I", true)
  | 32 => ("WholeSoundModel", "how", "I", false)
  | 33 => ("WholeSoundModel", "sortBits", "[I", true)
  | 34 => ("WholeSoundModel", "spent", "I", false)
  | 35 => ("WholeSoundModel", "headChannels", "I", false)
  | 36 => ("WholeSoundModel", "headWidth", "I", false)
  | 37 => ("WholeSoundModel", "headFrame", "I", false)
  | 38 => ("WholeSoundModel", "headMany", "I", false)
  | 39 => ("WholeSoundModel", "bitAt", "I", false)
  | 40 => ("WholeSoundModel", "bad", "Z", false)
  | 41 => ("WholeSoundModel", "readRow", "[I", true)
  | 42 => ("WholeSoundModel", "one", "[I", true)
  | 43 => ("WholeSoundModel", "foundAt", "[I", true)
  | 44 => ("WholeSoundModel", "foundLong", "[I", true)
  | _ => ("WholeSoundModel", "sounds", "[I", true)
def tyX9 : Nat → FieldType := fun k => match k with
  | 0 => .array .int
  | 1 => .int
  | 2 => .array .int
  | 3 => .array .int
  | 4 => .int
  | 5 => .int
  | 6 => .int
  | 7 => .int
  | 8 => .int
  | 9 => .int
  | 10 => .array .int
  | 11 => .array .int
  | 12 => .array .int
  | 13 => .array .int
  | 14 => .array .int
  | 15 => .int
  | 16 => .int
  | 17 => .array .int
  | 18 => .int
  | 19 => .int
  | 20 => .array .int
  | 21 => .int
  | 22 => .int
  | 23 => .array .int
  | 24 => .array .int
  | 25 => .array .boolean
  | 26 => .array .int
  | 27 => .array .int
  | 28 => .array .int
  | 29 => .int
  | 30 => .array .int
  | 31 => .array .int
  | 32 => .int
  | 33 => .array .int
  | 34 => .int
  | 35 => .int
  | 36 => .int
  | 37 => .int
  | 38 => .int
  | 39 => .int
  | 40 => .boolean
  | 41 => .array .int
  | 42 => .array .int
  | 43 => .array .int
  | 44 => .array .int
  | _ => .array .int
abbrev wsX90 : List Cond := u_ws RX9 TX9 46
theorem nmX9 : ∀ a, a < 46 → ∀ b, b < 46 → a ≠ b → (TX9 a).2.1 ≠ (TX9 b).2.1 := by decide +kernel
theorem tyX9_ok : ∀ k, k < 46 → parseFieldDescriptor (TX9 k).2.2.1 = some (tyX9 k) := by decide +kernel
abbrev vwCl : List vw_C := [(RX0, TX0, 15), (RX1, TX1, 7), (RX2, TX2, 3), (RX3, TX3, 13), (RX4, TX4, 10), (RX5, TX5, 5), (RX6, TX6, 3), (RX7, TX7, 2), (RX8, TX8, 10), (RX9, TX9, 46)]
def mm_GW : List Cond := lw_tbl.filter goodWord
theorem mm_gw {w : Cond} (i : Nat) (h : lw_tbl[i]? = some w) (g : goodWord w = true) : w ∈ mm_GW := List.mem_filter.mpr ⟨List.mem_of_getElem? h, g⟩
theorem mm_gw_good (ws : List Cond) (h : ∀ w ∈ ws, w ∈ mm_GW) : GoodIn mm_GW ws := fun w hw => ⟨h w hw, good_of_word (List.mem_filter.mp (h w hw)).2⟩
theorem mm_u0 : ∀ w ∈ u_ws RX0 TX0 15, w ∈ mm_GW := by
  have h : (u_ws RX0 TX0 15).all goodWord = true := by decide +kernel
  have e : u_ws RX0 TX0 15 = ([208, 210, 212, 214, 216, 218, 220, 222, 224, 226, 228, 230, 232, 234, 236] : List Nat).filterMap (fun i => lw_tbl[i]?) := by decide +kernel
  intro w hw
  have g := List.all_eq_true.mp h w hw
  rw [e] at hw
  obtain ⟨i, -, hi⟩ := List.mem_filterMap.mp hw
  exact mm_gw i hi g
theorem mm_u1 : ∀ w ∈ u_ws RX1 TX1 7, w ∈ mm_GW := by
  have h : (u_ws RX1 TX1 7).all goodWord = true := by decide +kernel
  have e : u_ws RX1 TX1 7 = ([299, 301, 303, 305, 307, 309, 311] : List Nat).filterMap (fun i => lw_tbl[i]?) := by decide +kernel
  intro w hw
  have g := List.all_eq_true.mp h w hw
  rw [e] at hw
  obtain ⟨i, -, hi⟩ := List.mem_filterMap.mp hw
  exact mm_gw i hi g
theorem mm_u2 : ∀ w ∈ u_ws RX2 TX2 3, w ∈ mm_GW := by
  have h : (u_ws RX2 TX2 3).all goodWord = true := by decide +kernel
  have e : u_ws RX2 TX2 3 = ([166, 168, 170] : List Nat).filterMap (fun i => lw_tbl[i]?) := by decide +kernel
  intro w hw
  have g := List.all_eq_true.mp h w hw
  rw [e] at hw
  obtain ⟨i, -, hi⟩ := List.mem_filterMap.mp hw
  exact mm_gw i hi g
theorem mm_u3 : ∀ w ∈ u_ws RX3 TX3 13, w ∈ mm_GW := by
  have h : (u_ws RX3 TX3 13).all goodWord = true := by decide +kernel
  have e : u_ws RX3 TX3 13 = ([362, 364, 366, 368, 370, 372, 374, 376, 378, 380, 382, 384, 386] : List Nat).filterMap (fun i => lw_tbl[i]?) := by decide +kernel
  intro w hw
  have g := List.all_eq_true.mp h w hw
  rw [e] at hw
  obtain ⟨i, -, hi⟩ := List.mem_filterMap.mp hw
  exact mm_gw i hi g
theorem mm_u4 : ∀ w ∈ u_ws RX4 TX4 10, w ∈ mm_GW := by
  have h : (u_ws RX4 TX4 10).all goodWord = true := by decide +kernel
  have e : u_ws RX4 TX4 10 = ([269, 271, 273, 275, 277, 279, 281, 283, 285, 287] : List Nat).filterMap (fun i => lw_tbl[i]?) := by decide +kernel
  intro w hw
  have g := List.all_eq_true.mp h w hw
  rw [e] at hw
  obtain ⟨i, -, hi⟩ := List.mem_filterMap.mp hw
  exact mm_gw i hi g
theorem mm_u5 : ∀ w ∈ u_ws RX5 TX5 5, w ∈ mm_GW := by
  have h : (u_ws RX5 TX5 5).all goodWord = true := by decide +kernel
  have e : u_ws RX5 TX5 5 = ([141, 143, 145, 147, 149] : List Nat).filterMap (fun i => lw_tbl[i]?) := by decide +kernel
  intro w hw
  have g := List.all_eq_true.mp h w hw
  rw [e] at hw
  obtain ⟨i, -, hi⟩ := List.mem_filterMap.mp hw
  exact mm_gw i hi g
theorem mm_u6 : ∀ w ∈ u_ws RX6 TX6 3, w ∈ mm_GW := by
  have h : (u_ws RX6 TX6 3).all goodWord = true := by decide +kernel
  have e : u_ws RX6 TX6 3 = ([333, 335, 337] : List Nat).filterMap (fun i => lw_tbl[i]?) := by decide +kernel
  intro w hw
  have g := List.all_eq_true.mp h w hw
  rw [e] at hw
  obtain ⟨i, -, hi⟩ := List.mem_filterMap.mp hw
  exact mm_gw i hi g
theorem mm_u7 : ∀ w ∈ u_ws RX7 TX7 2, w ∈ mm_GW := by
  have h : (u_ws RX7 TX7 2).all goodWord = true := by decide +kernel
  have e : u_ws RX7 TX7 2 = ([117, 119] : List Nat).filterMap (fun i => lw_tbl[i]?) := by decide +kernel
  intro w hw
  have g := List.all_eq_true.mp h w hw
  rw [e] at hw
  obtain ⟨i, -, hi⟩ := List.mem_filterMap.mp hw
  exact mm_gw i hi g
theorem mm_u8 : ∀ w ∈ u_ws RX8 TX8 10, w ∈ mm_GW := by
  have h : (u_ws RX8 TX8 10).all goodWord = true := by decide +kernel
  have e : u_ws RX8 TX8 10 = ([399, 401, 403, 405, 407, 409, 411, 413, 415, 417] : List Nat).filterMap (fun i => lw_tbl[i]?) := by decide +kernel
  intro w hw
  have g := List.all_eq_true.mp h w hw
  rw [e] at hw
  obtain ⟨i, -, hi⟩ := List.mem_filterMap.mp hw
  exact mm_gw i hi g
theorem mm_u9 : ∀ w ∈ u_ws RX9 TX9 46, w ∈ mm_GW := by
  have h : (u_ws RX9 TX9 46).all goodWord = true := by decide +kernel
  have e : u_ws RX9 TX9 46 = ([1061, 1063, 1065, 1067, 1069, 1071, 1073, 1075, 1077, 1079, 1081, 1083, 1085, 1087, 1089, 1091, 1093, 1095, 1097, 1099, 1101, 1103, 1105, 1107, 1109, 1111, 1113, 1115, 1117, 1119, 1121, 1123, 1125, 1127, 1129, 1131, 1133, 1135, 1137, 1139, 1141, 1143, 1145, 1147, 1149, 1151] : List Nat).filterMap (fun i => lw_tbl[i]?) := by decide +kernel
  intro w hw
  have g := List.all_eq_true.mp h w hw
  rw [e] at hw
  obtain ⟨i, -, hi⟩ := List.mem_filterMap.mp hw
  exact mm_gw i hi g
end
section
def mm_cn (c : Nat) : String := match c with
  | 0 => "WholeSound$Cutter"
  | 1 => "WholeSound$Plan"
  | 2 => "WholeSound$Predictors"
  | 3 => "WholeSound$Reader"
  | 4 => "WholeSound$Row"
  | 5 => "WholeSound$Sound"
  | 6 => "WholeSound$Store"
  | 7 => "WholeSound$Tape"
  | 8 => "WholeSound"
  | 9 => "WholeSoundModel"
  | 10 => "java/lang/Math"
  | 11 => "java/lang/Float"
  | _ => "java/lang/Double"
def mm_T (c : Nat) : u_T := match c with
  | 0 => TX0
  | 1 => TX1
  | 2 => TX2
  | 3 => TX3
  | 4 => TX4
  | 5 => TX5
  | 6 => TX6
  | 7 => TX7
  | 8 => TX8
  | _ => TX9
def mm_N (c : Nat) : Nat := match c with
  | 0 => 15
  | 1 => 7
  | 2 => 3
  | 3 => 13
  | 4 => 10
  | 5 => 5
  | 6 => 3
  | 7 => 2
  | 8 => 10
  | 9 => 46
  | _ => 0
def mm_ty (c : Nat) : Nat → FieldType := match c with
  | 0 => tyX0
  | 1 => tyX1
  | 2 => tyX2
  | 3 => tyX3
  | 4 => tyX4
  | 5 => tyX5
  | 6 => tyX6
  | 7 => tyX7
  | 8 => tyX8
  | _ => tyX9
abbrev mm_E : Type := Instr × Nat × Nat × Nat
abbrev mm_MT : Type := MethodName × ByteArray × Nat × Option FieldType × Nat × Nat × Nat × Nat × Nat × Nat × Nat × Nat
def mm_mt0 : List mm_MT := [
  (⟨"WholeSound$Cutter", "<init>", "()V"⟩, prog_2_method_1_code, 1, none, 1, 0, 2, 1, 183, 182, 0, 86),
  (⟨"WholeSound$Cutter", "unsigned", "(I)I"⟩, prog_2_method_2_code, 1, some .int, 1, 0, 0, 0, 601, 600, 0, 86),
  (⟨"WholeSound$Cutter", "load", "(LWholeSound$Row;LWholeSound$Predictors;I)V"⟩, prog_2_method_3_code, 6, none, 4, 0, 1, 1, 581, 579, 580, 86),
  (⟨"WholeSound$Cutter", "meanSize", "()F"⟩, prog_2_method_4_code, 1, some .float, 1, 0, 1, 0, 621, 619, 620, 86),
  (⟨"WholeSound$Cutter", "cutNowhere", "()I"⟩, prog_2_method_5_code, 4, some .int, 1, 0, 1, 2, 613, 611, 612, 86),
  (⟨"WholeSound$Cutter", "parameterOfMean", "()I"⟩, prog_2_method_6_code, 4, some .int, 1, 0, 1, 1, 617, 616, 5, 86),
  (⟨"WholeSound$Cutter", "cutForLeast", "()I"⟩, prog_2_method_7_code, 6, some .int, 1, 0, 1, 2, 593, 591, 592, 86),
  (⟨"WholeSound$Cutter", "measureGroups", "()V"⟩, prog_2_method_8_code, 8, none, 1, 0, 1, 1, 597, 596, 3, 86),
  (⟨"WholeSound$Cutter", "widthOf", "(I)I"⟩, prog_2_method_9_code, 2, some .int, 1, 0, 0, 0, 604, 603, 0, 86),
  (⟨"WholeSound$Cutter", "findParameter", "(III)V"⟩, prog_2_method_10_code, 10, none, 4, 0, 1, 0, 609, 608, 4, 86),
  (⟨"WholeSound$Plan", "<init>", "()V"⟩, prog_3_method_1_code, 1, none, 1, 1, 2, 2, 177, 176, 0, 85),
  (⟨"WholeSound$Plan", "make", "(LWholeSound$Sound;LWholeSound$Predictors;IIII)V"⟩, prog_3_method_2_code, 10, none, 7, 1, 1, 4, 561, 559, 560, 85),
  (⟨"WholeSound$Plan", "joinRows", "(LWholeSound$Sound;II)V"⟩, prog_3_method_3_code, 7, none, 4, 1, 1, 1, 629, 628, 7, 85),
  (⟨"WholeSound$Plan", "chooseWay", "()V"⟩, prog_3_method_4_code, 2, none, 1, 1, 1, 2, 633, 632, 8, 85),
  (⟨"WholeSound$Plan", "firstRow", "(I)LWholeSound$Row;"⟩, prog_3_method_5_code, 2, some (.object "WholeSound$Row"), 2, 1, 1, 0, 641, 639, 640, 85),
  (⟨"WholeSound$Plan", "secondRow", "(I)LWholeSound$Row;"⟩, prog_3_method_6_code, 2, some (.object "WholeSound$Row"), 2, 1, 1, 0, 645, 643, 644, 85),
  (⟨"WholeSound$Plan", "rowBits", "(I)I"⟩, prog_3_method_7_code, 3, some .int, 2, 1, 1, 1, 637, 635, 636, 85),
  (⟨"WholeSound$Plan", "allBits", "()I"⟩, prog_3_method_8_code, 1, some .int, 1, 1, 1, 2, 699, 697, 698, 85),
  (⟨"WholeSound$Predictors", "<init>", "()V"⟩, prog_4_method_1_code, 1, none, 1, 2, 2, 1, 156, 155, 0, 84),
  (⟨"WholeSound$Predictors", "forget", "()V"⟩, prog_4_method_2_code, 2, none, 1, 2, 1, 1, 504, 502, 503, 84),
  (⟨"WholeSound$Predictors", "tell", "(IIIII)V"⟩, prog_4_method_3_code, 6, none, 6, 2, 1, 0, 508, 506, 507, 84),
  (⟨"WholeSound$Predictors", "weightAt", "(II)I"⟩, prog_4_method_4_code, 3, some .int, 3, 2, 1, 0, 727, 725, 726, 84),
  (⟨"WholeSound$Predictors", "guess", "(I[II)I"⟩, prog_4_method_5_code, 7, some .int, 4, 2, 1, 0, 585, 583, 584, 84),
  (⟨"WholeSound$Reader", "<init>", "()V"⟩, prog_5_method_1_code, 1, none, 1, 3, 2, 2, 318, 317, 0, 88),
  (⟨"WholeSound$Reader", "readHead", "()I"⟩, prog_5_method_2_code, 5, some .int, 1, 3, 1, 3, 797, 795, 796, 88),
  (⟨"WholeSound$Reader", "frames", "()I"⟩, prog_5_method_3_code, 1, some .int, 1, 3, 1, 0, 826, 825, 19, 88),
  (⟨"WholeSound$Reader", "numberAt", "(I)I"⟩, prog_5_method_4_code, 3, some .int, 2, 3, 1, 1, 821, 819, 820, 88),
  (⟨"WholeSound$Reader", "lengthAt", "(I)I"⟩, prog_5_method_5_code, 6, some .int, 2, 3, 1, 4, 830, 828, 829, 88),
  (⟨"WholeSound$Reader", "readBits", "(I)I"⟩, prog_5_method_6_code, 4, some .int, 2, 3, 1, 0, 835, 834, 20, 88),
  (⟨"WholeSound$Reader", "readSigned", "(I)I"⟩, prog_5_method_7_code, 3, some .int, 2, 3, 1, 1, 843, 842, 22, 88),
  (⟨"WholeSound$Reader", "readSplit", "(I)I"⟩, prog_5_method_8_code, 4, some .int, 2, 3, 1, 1, 855, 854, 25, 88),
  (⟨"WholeSound$Reader", "readRow", "([III)V"⟩, prog_5_method_9_code, 7, none, 4, 3, 1, 3, 839, 838, 21, 88)]
def mm_mt1 : List mm_MT := [
  (⟨"WholeSound$Reader", "readNumbers", "([III)V"⟩, prog_5_method_10_code, 5, none, 4, 3, 1, 2, 847, 846, 23, 88),
  (⟨"WholeSound$Reader", "readRuns", "([III)V"⟩, prog_5_method_11_code, 13, none, 4, 3, 1, 2, 851, 850, 24, 88),
  (⟨"WholeSound$Reader", "part", "(II)V"⟩, prog_5_method_12_code, 6, none, 3, 3, 1, 0, 860, 859, 26, 88),
  (⟨"WholeSound$Reader", "isOfWidth", "([II)Z"⟩, prog_5_method_13_code, 5, some .boolean, 3, 3, 1, 0, 864, 863, 27, 88),
  (⟨"WholeSound$Reader", "find", "()V"⟩, prog_5_method_14_code, 6, none, 1, 3, 1, 5, 813, 811, 812, 88),
  (⟨"WholeSound$Reader", "forgetFound", "()V"⟩, prog_5_method_15_code, 2, none, 1, 3, 1, 0, 817, 816, 18, 88),
  (⟨"WholeSound$Reader", "keepFound", "(III)V"⟩, prog_5_method_16_code, 7, none, 4, 3, 1, 1, 869, 868, 28, 88),
  (⟨"WholeSound$Row", "<init>", "()V"⟩, prog_6_method_1_code, 1, none, 1, 4, 2, 1, 243, 242, 0, 87),
  (⟨"WholeSound$Row", "start", "(II)V"⟩, prog_6_method_2_code, 3, none, 3, 4, 1, 0, 567, 565, 566, 87),
  (⟨"WholeSound$Row", "choose", "(LWholeSound$Predictors;LWholeSound$Cutter;II)V"⟩, prog_6_method_3_code, 9, none, 5, 4, 1, 3, 572, 570, 571, 87),
  (⟨"WholeSound$Row", "isStill", "()Z"⟩, prog_6_method_4_code, 2, some .boolean, 1, 4, 1, 0, 576, 575, 2, 87),
  (⟨"WholeSound$Row", "firstBits", "(I)I"⟩, prog_6_method_5_code, 2, some .int, 2, 4, 1, 0, 589, 587, 588, 87),
  (⟨"WholeSound$Row", "keepRuns", "(LWholeSound$Cutter;)V"⟩, prog_6_method_6_code, 4, none, 2, 4, 1, 0, 625, 624, 6, 87),
  (⟨"WholeSound$Sound", "<init>", "()V"⟩, prog_7_method_1_code, 1, none, 1, 5, 2, 1, 127, 126, 0, 83),
  (⟨"WholeSound$Sound", "forget", "()V"⟩, prog_7_method_2_code, 2, none, 1, 5, 1, 0, 500, 498, 499, 83),
  (⟨"WholeSound$Sound", "has", "(I)Z"⟩, prog_7_method_3_code, 2, some .boolean, 2, 5, 1, 0, 442, 440, 441, 83),
  (⟨"WholeSound$Sound", "holdsPlace", "(II)Z"⟩, prog_7_method_4_code, 3, some .boolean, 3, 5, 1, 1, 477, 475, 476, 83),
  (⟨"WholeSound$Sound", "valueAt", "(II)I"⟩, prog_7_method_5_code, 3, some .int, 3, 5, 1, 0, 481, 479, 480, 83),
  (⟨"WholeSound$Sound", "orZero", "(II)I"⟩, prog_7_method_6_code, 3, some .int, 3, 5, 1, 2, 473, 471, 472, 83),
  (⟨"WholeSound$Sound", "put", "(II)V"⟩, prog_7_method_7_code, 3, none, 3, 5, 1, 1, 450, 448, 449, 83),
  (⟨"WholeSound$Sound", "held", "(I)I"⟩, prog_7_method_8_code, 3, some .int, 2, 5, 1, 1, 485, 483, 484, 83),
  (⟨"WholeSound$Sound", "draw", "()I"⟩, prog_7_method_9_code, 1, some .int, 1, 5, 1, 0, 468, 466, 467, 83),
  (⟨"WholeSound$Sound", "ready", "()Z"⟩, prog_7_method_10_code, 1, some .boolean, 1, 5, 1, 0, 557, 555, 556, 83),
  (⟨"WholeSound$Sound", "frames", "(I)I"⟩, prog_7_method_11_code, 2, some .int, 2, 5, 1, 1, 553, 551, 552, 83),
  (⟨"WholeSound$Store", "<init>", "()V"⟩, prog_8_method_1_code, 1, none, 1, 6, 2, 1, 324, 323, 0, 89),
  (⟨"WholeSound$Store", "has", "(I)Z"⟩, prog_8_method_2_code, 2, some .boolean, 2, 6, 1, 0, 740, 738, 739, 89),
  (⟨"WholeSound$Store", "putByte", "(I)V"⟩, prog_8_method_3_code, 2, none, 2, 6, 1, 0, 723, 721, 722, 89),
  (⟨"WholeSound$Store", "putBits", "(II)V"⟩, prog_8_method_4_code, 4, none, 3, 6, 1, 1, 750, 748, 749, 89),
  (⟨"WholeSound$Store", "endBits", "()V"⟩, prog_8_method_5_code, 1, none, 1, 6, 1, 0, 772, 770, 771, 89),
  (⟨"WholeSound$Store", "putCheck", "(I)V"⟩, prog_8_method_6_code, 3, none, 2, 6, 1, 2, 731, 729, 730, 89),
  (⟨"WholeSound$Store", "checkOf", "(II)I"⟩, prog_8_method_7_code, 6, some .int, 3, 6, 1, 1, 735, 733, 734, 89),
  (⟨"WholeSound$Store", "hasCheck", "(II)Z"⟩, prog_8_method_8_code, 3, some .boolean, 3, 6, 1, 2, 805, 803, 804, 89)]
def mm_mt2 : List mm_MT := [
  (⟨"WholeSound$Tape", "<init>", "()V"⟩, prog_9_method_1_code, 1, none, 1, 7, 2, 1, 112, 111, 0, 82),
  (⟨"WholeSound$Tape", "push", "(J)V"⟩, prog_9_method_2_code, 4, none, 2, 7, 1, 0, 427, 425, 426, 82),
  (⟨"WholeSound$Tape", "signedAt", "(II)I"⟩, prog_9_method_3_code, 5, some .int, 3, 7, 1, 0, 446, 444, 445, 82),
  (⟨"WholeSound", "<init>", "()V"⟩, prog_1_method_1_code, 1, none, 1, 8, 2, 3, 104, 103, 0, 81),
  (⟨"WholeSound", "feed", "(JJJ)I"⟩, prog_1_method_2_code, 7, some .int, 4, 8, 1, 1, 423, 421, 422, 81),
  (⟨"WholeSound", "channel", "(I)I"⟩, prog_1_method_3_code, 2, some .int, 2, 8, 1, 1, 431, 429, 430, 81),
  (⟨"WholeSound", "samples", "(II)I"⟩, prog_1_method_4_code, 5, some .int, 3, 8, 1, 2, 438, 436, 437, 81),
  (⟨"WholeSound", "fill", "(IIIII)I"⟩, prog_1_method_5_code, 7, some .int, 6, 8, 1, 4, 455, 453, 454, 81),
  (⟨"WholeSound", "canFill", "(III)Z"⟩, prog_1_method_6_code, 3, some .boolean, 3, 8, 0, 0, 458, 457, 0, 81),
  (⟨"WholeSound", "filled", "(IIIII)I"⟩, prog_1_method_7_code, 6, some .int, 6, 8, 1, 3, 464, 463, 0, 81),
  (⟨"WholeSound", "clear", "()I"⟩, prog_1_method_8_code, 2, some .int, 1, 8, 1, 2, 496, 494, 495, 81),
  (⟨"WholeSound", "frame", "(I)I"⟩, prog_1_method_9_code, 3, some .int, 2, 8, 1, 1, 512, 510, 511, 81),
  (⟨"WholeSound", "predictor", "(IIIII)I"⟩, prog_1_method_10_code, 6, some .int, 6, 8, 1, 1, 519, 517, 518, 81),
  (⟨"WholeSound", "effort", "(I)I"⟩, prog_1_method_11_code, 3, some .int, 2, 8, 1, 0, 530, 528, 529, 81),
  (⟨"WholeSound", "allow", "(I)I"⟩, prog_1_method_12_code, 3, some .int, 2, 8, 1, 0, 534, 532, 533, 81),
  (⟨"WholeSound", "sample", "(II)I"⟩, prog_1_method_13_code, 3, some .int, 3, 8, 1, 2, 538, 536, 537, 81),
  (⟨"WholeSound", "join", "(I)I"⟩, prog_1_method_14_code, 2, some .int, 2, 8, 1, 5, 545, 543, 544, 81),
  (⟨"WholeSound", "joined", "(II)I"⟩, prog_1_method_15_code, 3, some .int, 3, 8, 1, 5, 649, 647, 648, 81),
  (⟨"WholeSound", "row", "(III)I"⟩, prog_1_method_16_code, 5, some .int, 4, 8, 1, 6, 654, 652, 653, 81),
  (⟨"WholeSound", "run", "(IIII)I"⟩, prog_1_method_17_code, 6, some .int, 5, 8, 1, 6, 664, 662, 663, 81),
  (⟨"WholeSound", "residual", "(IIII)I"⟩, prog_1_method_18_code, 7, some .int, 5, 8, 1, 6, 907, 905, 906, 81),
  (⟨"WholeSound", "tried", "(III)I"⟩, prog_1_method_19_code, 5, some .int, 4, 8, 1, 6, 668, 666, 667, 81),
  (⟨"WholeSound", "mean", "(III)I"⟩, prog_1_method_20_code, 5, some .int, 4, 8, 1, 6, 680, 678, 679, 81),
  (⟨"WholeSound", "hasFrame", "(I)Z"⟩, prog_1_method_21_code, 2, some .boolean, 2, 8, 1, 2, 549, 548, 1, 81),
  (⟨"WholeSound", "plannedRow", "(II)LWholeSound$Row;"⟩, prog_1_method_22_code, 3, some (.object "WholeSound$Row"), 3, 8, 1, 5, 658, 657, 9, 81),
  (⟨"WholeSound", "canTry", "(LWholeSound$Row;I)Z"⟩, prog_1_method_23_code, 3, some .boolean, 3, 8, 1, 0, 672, 671, 10, 81),
  (⟨"WholeSound", "size", "()I"⟩, prog_1_method_24_code, 1, some .int, 1, 8, 1, 6, 690, 688, 689, 81),
  (⟨"WholeSound", "sized", "(I)I"⟩, prog_1_method_25_code, 2, some .int, 2, 8, 1, 6, 703, 701, 702, 81),
  (⟨"WholeSound", "without", "(I)I"⟩, prog_1_method_26_code, 2, some .int, 2, 8, 1, 6, 707, 705, 706, 81),
  (⟨"WholeSound", "best", "()I"⟩, prog_1_method_27_code, 5, some .int, 1, 8, 1, 6, 711, 709, 710, 81),
  (⟨"WholeSound", "packedSize", "(II)I"⟩, prog_1_method_28_code, 6, some .int, 3, 8, 1, 5, 695, 694, 11, 81),
  (⟨"WholeSound", "pack", "()I"⟩, prog_1_method_29_code, 3, some .int, 1, 8, 1, 6, 715, 713, 714, 81)]
def mm_mt3 : List mm_MT := [
  (⟨"WholeSound", "writeHead", "()V"⟩, prog_1_method_30_code, 3, none, 1, 8, 1, 3, 719, 718, 12, 81),
  (⟨"WholeSound", "writeFrame", "(I)V"⟩, prog_1_method_31_code, 3, none, 2, 8, 1, 5, 746, 745, 13, 81),
  (⟨"WholeSound", "writeRow", "(LWholeSound$Row;)V"⟩, prog_1_method_32_code, 4, none, 2, 8, 1, 4, 754, 753, 14, 81),
  (⟨"WholeSound", "writeRuns", "(LWholeSound$Row;)V"⟩, prog_1_method_33_code, 6, none, 2, 8, 1, 3, 758, 757, 15, 81),
  (⟨"WholeSound", "writeFixed", "(III)V"⟩, prog_1_method_34_code, 5, none, 4, 8, 1, 2, 763, 762, 16, 81),
  (⟨"WholeSound", "writeSplit", "(III)V"⟩, prog_1_method_35_code, 8, none, 4, 8, 1, 2, 767, 766, 17, 81),
  (⟨"WholeSound", "store", "(I)I"⟩, prog_1_method_36_code, 2, some .int, 2, 8, 1, 1, 776, 774, 775, 81),
  (⟨"WholeSound", "spoil", "(II)I"⟩, prog_1_method_37_code, 3, some .int, 3, 8, 1, 1, 781, 779, 780, 81),
  (⟨"WholeSound", "drop", "(I)I"⟩, prog_1_method_38_code, 2, some .int, 2, 8, 1, 0, 785, 783, 784, 81),
  (⟨"WholeSound", "take", "(I)I"⟩, prog_1_method_39_code, 4, some .int, 2, 8, 1, 1, 789, 787, 788, 81),
  (⟨"WholeSound", "head", "()I"⟩, prog_1_method_40_code, 1, some .int, 1, 8, 1, 4, 793, 791, 792, 81),
  (⟨"WholeSound", "good", "()I"⟩, prog_1_method_41_code, 3, some .int, 1, 8, 1, 6, 809, 807, 808, 81),
  (⟨"WholeSound", "seek", "(II)I"⟩, prog_1_method_42_code, 3, some .int, 3, 8, 1, 6, 873, 871, 872, 81),
  (⟨"WholeSound", "holds", "(I)I"⟩, prog_1_method_43_code, 2, some .int, 2, 8, 1, 4, 877, 875, 876, 81),
  (⟨"WholeSound", "near", "(I)I"⟩, prog_1_method_44_code, 3, some .int, 2, 8, 1, 5, 881, 879, 880, 81),
  (⟨"WholeSound", "at", "(I)I"⟩, prog_1_method_45_code, 2, some .int, 2, 8, 1, 5, 886, 884, 885, 81),
  (⟨"WholeSound", "heard", "(II)I"⟩, prog_1_method_46_code, 3, some .int, 3, 8, 1, 6, 978, 976, 977, 81),
  (⟨"WholeSound", "same", "()I"⟩, prog_1_method_47_code, 5, some .int, 1, 8, 1, 6, 891, 889, 890, 81),
  (⟨"WholeSound", "ratio", "()I"⟩, prog_1_method_48_code, 2, some .int, 1, 8, 1, 6, 895, 893, 894, 81),
  (⟨"WholeSound", "loud", "(II)I"⟩, prog_1_method_49_code, 8, some .int, 3, 8, 1, 1, 1000, 998, 999, 81),
  (⟨"WholeSound", "count", "(I)I"⟩, prog_1_method_50_code, 2, some .int, 2, 8, 1, 2, 899, 897, 898, 81),
  (⟨"WholeSound", "isWidth", "(I)Z"⟩, prog_1_method_51_code, 1, some .boolean, 1, 8, 0, 0, 434, 433, 0, 81),
  (⟨"WholeSound", "isFrame", "(I)Z"⟩, prog_1_method_52_code, 1, some .boolean, 1, 8, 0, 0, 515, 514, 0, 81),
  (⟨"WholeSound", "isShift", "(I)Z"⟩, prog_1_method_53_code, 1, some .boolean, 1, 8, 0, 0, 522, 521, 0, 81),
  (⟨"WholeSound", "isWeight", "(I)Z"⟩, prog_1_method_54_code, 1, some .boolean, 1, 8, 0, 0, 525, 524, 0, 81),
  (⟨"WholeSound", "floatBits", "(F)I"⟩, prog_1_method_55_code, 3, some .int, 1, 8, 0, 0, 684, 683, 0, 81),
  (⟨"WholeSound", "doubleBits", "(D)J"⟩, prog_1_method_56_code, 6, some .long, 1, 8, 0, 0, 1003, 1002, 0, 81),
  (⟨"WholeSoundModel", "<init>", "()V"⟩, prog_11_method_1_code, 1, none, 1, 9, 2, 1, 1013, 1012, 0, 90),
  (⟨"WholeSoundModel", "thrown", "()I"⟩, prog_11_method_2_code, 1, some .int, 1, 9, 1, 0, 1158, 1156, 1157, 90),
  (⟨"WholeSoundModel", "within", "(III)Z"⟩, prog_11_method_3_code, 3, some .boolean, 3, 9, 0, 0, 1181, 1180, 0, 90),
  (⟨"WholeSoundModel", "isChannel", "(I)Z"⟩, prog_11_method_4_code, 2, some .boolean, 2, 9, 1, 1, 1178, 1177, 31, 90),
  (⟨"WholeSoundModel", "isFrame", "(I)Z"⟩, prog_11_method_5_code, 1, some .boolean, 1, 9, 0, 1, 1218, 1217, 0, 90)]
def mm_mt4 : List mm_MT := [
  (⟨"WholeSoundModel", "eight", "(J)V"⟩, prog_11_method_6_code, 4, none, 2, 9, 1, 0, 1166, 1165, 30, 90),
  (⟨"WholeSoundModel", "feed", "(JJJ)I"⟩, prog_11_method_7_code, 7, some .int, 4, 9, 1, 1, 1162, 1160, 1161, 90),
  (⟨"WholeSoundModel", "channel", "(I)I"⟩, prog_11_method_8_code, 2, some .int, 2, 9, 1, 0, 1170, 1168, 1169, 90),
  (⟨"WholeSoundModel", "signed", "(II)I"⟩, prog_11_method_9_code, 2, some .int, 2, 9, 0, 0, 1184, 1183, 0, 90),
  (⟨"WholeSoundModel", "puts", "(II)V"⟩, prog_11_method_10_code, 3, none, 3, 9, 1, 0, 1188, 1187, 32, 90),
  (⟨"WholeSoundModel", "samples", "(II)I"⟩, prog_11_method_11_code, 4, some .int, 3, 9, 1, 2, 1174, 1172, 1173, 90),
  (⟨"WholeSoundModel", "held", "(I)I"⟩, prog_11_method_12_code, 3, some .int, 2, 9, 1, 0, 1207, 1206, 35, 90),
  (⟨"WholeSoundModel", "drawn", "()I"⟩, prog_11_method_13_code, 1, some .int, 1, 9, 1, 0, 1202, 1201, 34, 90),
  (⟨"WholeSoundModel", "filled", "(IIIII)I"⟩, prog_11_method_14_code, 7, some .int, 6, 9, 1, 1, 1198, 1197, 33, 90),
  (⟨"WholeSoundModel", "fill", "(IIIII)I"⟩, prog_11_method_15_code, 7, some .int, 6, 9, 1, 2, 1192, 1190, 1191, 90),
  (⟨"WholeSoundModel", "clear", "()I"⟩, prog_11_method_16_code, 3, some .int, 1, 9, 1, 0, 1211, 1209, 1210, 90),
  (⟨"WholeSoundModel", "frame", "(I)I"⟩, prog_11_method_17_code, 3, some .int, 2, 9, 1, 2, 1215, 1213, 1214, 90),
  (⟨"WholeSoundModel", "predictor", "(IIIII)I"⟩, prog_11_method_18_code, 7, some .int, 6, 9, 1, 1, 1222, 1220, 1221, 90),
  (⟨"WholeSoundModel", "effort", "(I)I"⟩, prog_11_method_19_code, 3, some .int, 2, 9, 1, 1, 1229, 1227, 1228, 90),
  (⟨"WholeSoundModel", "allow", "(I)I"⟩, prog_11_method_20_code, 3, some .int, 2, 9, 1, 1, 1233, 1231, 1232, 90),
  (⟨"WholeSoundModel", "sample", "(II)I"⟩, prog_11_method_21_code, 3, some .int, 3, 9, 1, 2, 1237, 1235, 1236, 90),
  (⟨"WholeSoundModel", "orderOf", "(I[I)I"⟩, prog_11_method_22_code, 3, some .int, 2, 9, 0, 0, 1225, 1224, 0, 90),
  (⟨"WholeSoundModel", "guessed", "([III[I[I)I"⟩, prog_11_method_23_code, 7, some .int, 5, 9, 0, 1, 1289, 1288, 0, 90),
  (⟨"WholeSoundModel", "isReady", "()Z"⟩, prog_11_method_24_code, 1, some .boolean, 1, 9, 1, 0, 1254, 1253, 38, 90),
  (⟨"WholeSoundModel", "frames", "()I"⟩, prog_11_method_25_code, 1, some .int, 1, 9, 1, 1, 1250, 1249, 37, 90),
  (⟨"WholeSoundModel", "isFrameThere", "(I)Z"⟩, prog_11_method_26_code, 2, some .boolean, 2, 9, 1, 2, 1246, 1245, 36, 90),
  (⟨"WholeSoundModel", "laysRow", "(II)V"⟩, prog_11_method_27_code, 7, none, 3, 9, 1, 0, 1266, 1265, 41, 90),
  (⟨"WholeSoundModel", "sortOf", "(II)I"⟩, prog_11_method_28_code, 2, some .int, 2, 9, 0, 0, 1351, 1350, 0, 90),
  (⟨"WholeSoundModel", "laysErrors", "(I)V"⟩, prog_11_method_29_code, 4, none, 2, 9, 1, 2, 1286, 1285, 46, 90),
  (⟨"WholeSoundModel", "folded", "(I)I"⟩, prog_11_method_30_code, 1, some .int, 1, 9, 0, 0, 1306, 1305, 0, 90),
  (⟨"WholeSoundModel", "widthOf", "(I)I"⟩, prog_11_method_31_code, 2, some .int, 1, 9, 0, 0, 1309, 1308, 0, 90),
  (⟨"WholeSoundModel", "inGroup", "(I)I"⟩, prog_11_method_32_code, 2, some .int, 2, 9, 1, 0, 1303, 1302, 49, 90),
  (⟨"WholeSoundModel", "laysGroups", "()V"⟩, prog_11_method_33_code, 5, none, 1, 9, 1, 1, 1299, 1298, 48, 90),
  (⟨"WholeSoundModel", "bitsBy", "(III)I"⟩, prog_11_method_34_code, 9, some .int, 4, 9, 1, 1, 1321, 1320, 52, 90),
  (⟨"WholeSoundModel", "parameterOf", "(II)I"⟩, prog_11_method_35_code, 6, some .int, 3, 9, 1, 2, 1317, 1316, 51, 90),
  (⟨"WholeSoundModel", "laysSpans", "()V"⟩, prog_11_method_36_code, 4, none, 1, 9, 1, 3, 1313, 1312, 50, 90),
  (⟨"WholeSoundModel", "bitsOfWay", "(I)I"⟩, prog_11_method_37_code, 5, some .int, 2, 9, 1, 0, 1325, 1324, 53, 90)]
def mm_mt5 : List mm_MT := [
  (⟨"WholeSoundModel", "cutsOf", "(I)I"⟩, prog_11_method_38_code, 3, some .int, 1, 9, 0, 0, 1328, 1327, 0, 90),
  (⟨"WholeSoundModel", "runsWhole", "()I"⟩, prog_11_method_39_code, 5, some .int, 1, 9, 1, 4, 1295, 1294, 47, 90),
  (⟨"WholeSoundModel", "sizes", "()I"⟩, prog_11_method_40_code, 3, some .int, 1, 9, 1, 0, 1336, 1335, 55, 90),
  (⟨"WholeSoundModel", "meanNow", "()F"⟩, prog_11_method_41_code, 1, some .float, 1, 9, 1, 1, 1340, 1339, 56, 90),
  (⟨"WholeSoundModel", "runByMean", "()I"⟩, prog_11_method_42_code, 4, some .int, 1, 9, 1, 2, 1332, 1331, 54, 90),
  (⟨"WholeSoundModel", "costs", "(I)I"⟩, prog_11_method_43_code, 2, some .int, 2, 9, 1, 5, 1282, 1281, 45, 90),
  (⟨"WholeSoundModel", "isStill", "()Z"⟩, prog_11_method_44_code, 2, some .boolean, 1, 9, 1, 0, 1274, 1273, 43, 90),
  (⟨"WholeSoundModel", "predictorFor", "(I)I"⟩, prog_11_method_45_code, 6, some .int, 2, 9, 1, 6, 1278, 1277, 44, 90),
  (⟨"WholeSoundModel", "rowCosts", "(I)I"⟩, prog_11_method_46_code, 4, some .int, 2, 9, 1, 7, 1270, 1269, 42, 90),
  (⟨"WholeSoundModel", "laysSorts", "(II)V"⟩, prog_11_method_47_code, 4, none, 3, 9, 1, 8, 1262, 1261, 40, 90),
  (⟨"WholeSoundModel", "joinedBits", "(I)I"⟩, prog_11_method_48_code, 2, some .int, 2, 9, 1, 1, 1348, 1347, 58, 90),
  (⟨"WholeSoundModel", "joinNow", "()I"⟩, prog_11_method_49_code, 3, some .int, 1, 9, 1, 2, 1344, 1343, 57, 90),
  (⟨"WholeSoundModel", "joinOf", "(II)I"⟩, prog_11_method_50_code, 3, some .int, 3, 9, 1, 9, 1258, 1257, 39, 90),
  (⟨"WholeSoundModel", "join", "(I)I"⟩, prog_11_method_51_code, 2, some .int, 2, 9, 1, 10, 1242, 1240, 1241, 90),
  (⟨"WholeSoundModel", "joined", "(II)I"⟩, prog_11_method_52_code, 3, some .int, 3, 9, 1, 9, 1355, 1353, 1354, 90),
  (⟨"WholeSoundModel", "isRowLaid", "(II)Z"⟩, prog_11_method_53_code, 3, some .boolean, 3, 9, 1, 10, 1363, 1362, 59, 90),
  (⟨"WholeSoundModel", "row", "(III)I"⟩, prog_11_method_54_code, 5, some .int, 4, 9, 1, 11, 1359, 1357, 1358, 90),
  (⟨"WholeSoundModel", "run", "(IIII)I"⟩, prog_11_method_55_code, 5, some .int, 5, 9, 1, 11, 1367, 1365, 1366, 90),
  (⟨"WholeSoundModel", "residual", "(IIII)I"⟩, prog_11_method_56_code, 5, some .int, 5, 9, 1, 11, 1371, 1369, 1370, 90),
  (⟨"WholeSoundModel", "tried", "(III)I"⟩, prog_11_method_57_code, 4, some .int, 4, 9, 1, 11, 1375, 1373, 1374, 90),
  (⟨"WholeSoundModel", "mean", "(III)I"⟩, prog_11_method_58_code, 4, some .int, 4, 9, 1, 11, 1379, 1377, 1378, 90),
  (⟨"WholeSoundModel", "sizeBy", "(I)I"⟩, prog_11_method_59_code, 4, some .int, 2, 9, 1, 10, 1397, 1396, 60, 90),
  (⟨"WholeSoundModel", "size", "()I"⟩, prog_11_method_60_code, 1, some .int, 1, 9, 1, 11, 1393, 1391, 1392, 90),
  (⟨"WholeSoundModel", "sizeOf", "(I)I"⟩, prog_11_method_61_code, 4, some .int, 2, 9, 1, 11, 1405, 1404, 61, 90),
  (⟨"WholeSoundModel", "sized", "(I)I"⟩, prog_11_method_62_code, 2, some .int, 2, 9, 1, 12, 1401, 1399, 1400, 90),
  (⟨"WholeSoundModel", "without", "(I)I"⟩, prog_11_method_63_code, 2, some .int, 2, 9, 1, 11, 1409, 1407, 1408, 90),
  (⟨"WholeSoundModel", "best", "()I"⟩, prog_11_method_64_code, 5, some .int, 1, 9, 1, 12, 1413, 1411, 1412, 90),
  (⟨"WholeSoundModel", "putsByte", "(I)V"⟩, prog_11_method_65_code, 2, none, 2, 9, 1, 0, 1421, 1420, 62, 90),
  (⟨"WholeSoundModel", "putsBits", "(II)V"⟩, prog_11_method_66_code, 4, none, 3, 9, 1, 1, 1435, 1434, 65, 90),
  (⟨"WholeSoundModel", "checked", "(II)I"⟩, prog_11_method_67_code, 6, some .int, 3, 9, 1, 0, 1429, 1428, 64, 90),
  (⟨"WholeSoundModel", "putsCheck", "(I)V"⟩, prog_11_method_68_code, 3, none, 2, 9, 1, 1, 1425, 1424, 63, 90),
  (⟨"WholeSoundModel", "putsRun", "(IIII)V"⟩, prog_11_method_69_code, 11, none, 5, 9, 1, 2, 1443, 1442, 67, 90)]
def mm_mt6 : List mm_MT := [
  (⟨"WholeSoundModel", "putsRow", "(II)V"⟩, prog_11_method_70_code, 5, none, 3, 9, 1, 8, 1439, 1438, 66, 90),
  (⟨"WholeSoundModel", "pack", "()I"⟩, prog_11_method_71_code, 5, some .int, 1, 9, 1, 10, 1417, 1415, 1416, 90),
  (⟨"WholeSoundModel", "store", "(I)I"⟩, prog_11_method_72_code, 2, some .int, 2, 9, 1, 1, 1447, 1445, 1446, 90),
  (⟨"WholeSoundModel", "spoil", "(II)I"⟩, prog_11_method_73_code, 3, some .int, 3, 9, 1, 1, 1451, 1449, 1450, 90),
  (⟨"WholeSoundModel", "drop", "(I)I"⟩, prog_11_method_74_code, 2, some .int, 2, 9, 1, 1, 1455, 1453, 1454, 90),
  (⟨"WholeSoundModel", "take", "(I)I"⟩, prog_11_method_75_code, 4, some .int, 2, 9, 1, 1, 1459, 1457, 1458, 90),
  (⟨"WholeSoundModel", "headNow", "()I"⟩, prog_11_method_76_code, 4, some .int, 1, 9, 1, 2, 1467, 1466, 68, 90),
  (⟨"WholeSoundModel", "head", "()I"⟩, prog_11_method_77_code, 1, some .int, 1, 9, 1, 3, 1463, 1461, 1462, 90),
  (⟨"WholeSoundModel", "headFrames", "()I"⟩, prog_11_method_78_code, 1, some .int, 1, 9, 1, 0, 1479, 1478, 70, 90),
  (⟨"WholeSoundModel", "bit", "()I"⟩, prog_11_method_79_code, 2, some .int, 1, 9, 1, 0, 1495, 1494, 74, 90),
  (⟨"WholeSoundModel", "bits", "(I)I"⟩, prog_11_method_80_code, 4, some .int, 2, 9, 1, 1, 1491, 1490, 73, 90),
  (⟨"WholeSoundModel", "signedBits", "(I)I"⟩, prog_11_method_81_code, 2, some .int, 2, 9, 1, 2, 1503, 1502, 76, 90),
  (⟨"WholeSoundModel", "readError", "(II)I"⟩, prog_11_method_82_code, 5, some .int, 3, 9, 1, 3, 1511, 1510, 78, 90),
  (⟨"WholeSoundModel", "readsRuns", "(II)V"⟩, prog_11_method_83_code, 11, none, 3, 9, 1, 4, 1507, 1506, 77, 90),
  (⟨"WholeSoundModel", "readsRow", "(III)V"⟩, prog_11_method_84_code, 7, none, 4, 9, 1, 5, 1499, 1498, 75, 90),
  (⟨"WholeSoundModel", "parts", "(II)Z"⟩, prog_11_method_85_code, 9, some .boolean, 3, 9, 1, 1, 1515, 1514, 79, 90),
  (⟨"WholeSoundModel", "sizeAt", "(I)I"⟩, prog_11_method_86_code, 2, some .int, 2, 9, 1, 0, 1487, 1486, 72, 90),
  (⟨"WholeSoundModel", "lengthAt", "(II)I"⟩, prog_11_method_87_code, 6, some .int, 3, 9, 1, 6, 1483, 1482, 71, 90),
  (⟨"WholeSoundModel", "finds", "()Z"⟩, prog_11_method_88_code, 7, some .boolean, 1, 9, 1, 7, 1475, 1474, 69, 90),
  (⟨"WholeSoundModel", "good", "()I"⟩, prog_11_method_89_code, 3, some .int, 1, 9, 1, 8, 1471, 1469, 1470, 90),
  (⟨"WholeSoundModel", "seek", "(II)I"⟩, prog_11_method_90_code, 3, some .int, 3, 9, 1, 8, 1519, 1517, 1518, 90),
  (⟨"WholeSoundModel", "holds", "(I)I"⟩, prog_11_method_91_code, 2, some .int, 2, 9, 1, 3, 1523, 1521, 1522, 90),
  (⟨"WholeSoundModel", "near", "(I)I"⟩, prog_11_method_92_code, 3, some .int, 2, 9, 1, 7, 1527, 1525, 1526, 90),
  (⟨"WholeSoundModel", "at", "(I)I"⟩, prog_11_method_93_code, 2, some .int, 2, 9, 1, 7, 1531, 1529, 1530, 90),
  (⟨"WholeSoundModel", "heard", "(II)I"⟩, prog_11_method_94_code, 3, some .int, 3, 9, 1, 8, 1535, 1533, 1534, 90),
  (⟨"WholeSoundModel", "same", "()I"⟩, prog_11_method_95_code, 4, some .int, 1, 9, 1, 8, 1539, 1537, 1538, 90),
  (⟨"WholeSoundModel", "ratio", "()I"⟩, prog_11_method_96_code, 1, some .int, 1, 9, 1, 11, 1543, 1541, 1542, 90),
  (⟨"WholeSoundModel", "loud", "(II)I"⟩, prog_11_method_97_code, 7, some .int, 3, 9, 1, 2, 1547, 1545, 1546, 90),
  (⟨"WholeSoundModel", "count", "(I)I"⟩, prog_11_method_98_code, 2, some .int, 2, 9, 1, 2, 1561, 1559, 1560, 90),
  (⟨"java/lang/Double", "doubleToLongBits", "(D)J"⟩, prog_13_method_23_code, 2, some .long, 1, 12, 0, 1, 1550, 1549, 0, 99),
  (⟨"java/lang/Double", "isNaN", "(D)Z"⟩, prog_13_method_6_code, 2, some .boolean, 1, 12, 0, 0, 1553, 1552, 0, 99),
  (⟨"java/lang/Float", "floatToIntBits", "(F)I"⟩, prog_15_method_24_code, 1, some .int, 1, 11, 0, 1, 1382, 1381, 0, 97)]
def mm_mt7 : List mm_MT := [
  (⟨"java/lang/Float", "isNaN", "(F)Z"⟩, prog_15_method_6_code, 1, some .boolean, 1, 11, 0, 0, 1385, 1384, 0, 97),
  (⟨"java/lang/Math", "max", "(II)I"⟩, prog_17_method_65_code, 2, some .int, 2, 10, 0, 0, 492, 491, 0, 91),
  (⟨"java/lang/Math", "min", "(II)I"⟩, prog_17_method_69_code, 2, some .int, 2, 10, 0, 0, 489, 488, 0, 91)]
def mm_mts : List (List mm_MT) := [mm_mt0, mm_mt1, mm_mt2, mm_mt3, mm_mt4, mm_mt5, mm_mt6, mm_mt7]
def mm_wt (i : Nat) (w : Cond) : Bool := decide (lw_tbl[i]? = some w) && goodWord w
theorem mm_wt_mem {i : Nat} {w : Cond} (h : mm_wt i w = true) : w ∈ mm_GW := by
  simp only [mm_wt, Bool.and_eq_true, decide_eq_true_eq] at h
  exact mm_gw i h.1 h.2
def mm_ckM (t : mm_MT) : Bool := match t with
  | (y, by_, ml, rt, na, c, md, dp, p0, p1, p2, p3) =>
    decide (y.cls = mm_cn c) && mm_wt p3 (.initialized y.cls) && decide (ml + 19 ≤ 40) && decide (dp ≤ 13) && plainFor y
    && decide ((y.cls ≠ "java/lang/invoke/MethodHandle") ∧ y.cls ≠ "java/lang/invoke/VarHandle") && (if md = 0 then mm_wt p1 (.static y) && decide ((parseMethodDescriptor y.desc).map (fun d => d.parameters.length) = some na)
      else mm_wt p1 (.instanceMethod y) && decide ((parseMethodDescriptor y.desc).map (fun d => d.parameters.length + 1) = some na) && (if md = 1 then mm_wt p2 (.selects y.cls y y) else decide (y.name = "<init>" ∧ md = 2)))
theorem mm_mtk0 : mm_mt0.all mm_ckM = true := by decide +kernel
theorem mm_mtk1 : mm_mt1.all mm_ckM = true := by decide +kernel
theorem mm_mtk2 : mm_mt2.all mm_ckM = true := by decide +kernel
theorem mm_mtk3 : mm_mt3.all mm_ckM = true := by decide +kernel
theorem mm_mtk4 : mm_mt4.all mm_ckM = true := by decide +kernel
theorem mm_mtk5 : mm_mt5.all mm_ckM = true := by decide +kernel
theorem mm_mtk6 : mm_mt6.all mm_ckM = true := by decide +kernel
theorem mm_mtk7 : mm_mt7.all mm_ckM = true := by decide +kernel
def mm_cw (t : mm_MT) : Cond := .code t.1 t.2.1 t.2.2.1 t.2.2.2.1
theorem mm_cw_good (t : mm_MT) : goodWord (mm_cw t) = true := rfl
theorem mm_cw_of {ps : List Nat} {l : List mm_MT} (h : ps.map (fun i => lw_tbl[i]?) = l.map (fun t => some (mm_cw t))) : ∀ t ∈ l, mm_cw t ∈ mm_GW := by
  intro t ht
  have h1 : some (mm_cw t) ∈ ps.map (fun i => lw_tbl[i]?) := by rw [h]; exact List.mem_map.mpr ⟨t, ht, rfl⟩
  obtain ⟨i, -, hi⟩ := List.mem_map.mp h1
  exact mm_gw i hi (mm_cw_good t)
set_option maxRecDepth 100000 in
theorem mm_cwk0 : ∀ t ∈ mm_mt0, mm_cw t ∈ mm_GW := mm_cw_of (ps := [183, 601, 581, 621, 613, 617, 593, 597, 604, 609, 177, 561, 629, 633, 641, 645, 637, 699, 156, 504, 508, 727, 585, 318, 797, 826, 821, 830, 835, 843, 855, 839]) rfl
set_option maxRecDepth 100000 in
theorem mm_cwk1 : ∀ t ∈ mm_mt1, mm_cw t ∈ mm_GW := mm_cw_of (ps := [847, 851, 860, 864, 813, 817, 869, 243, 567, 572, 576, 589, 625, 127, 500, 442, 477, 481, 473, 450, 485, 468, 557, 553, 324, 740, 723, 750, 772, 731, 735, 805]) rfl
set_option maxRecDepth 100000 in
theorem mm_cwk2 : ∀ t ∈ mm_mt2, mm_cw t ∈ mm_GW := mm_cw_of (ps := [112, 427, 446, 104, 423, 431, 438, 455, 458, 464, 496, 512, 519, 530, 534, 538, 545, 649, 654, 664, 907, 668, 680, 549, 658, 672, 690, 703, 707, 711, 695, 715]) rfl
set_option maxRecDepth 100000 in
theorem mm_cwk3 : ∀ t ∈ mm_mt3, mm_cw t ∈ mm_GW := mm_cw_of (ps := [719, 746, 754, 758, 763, 767, 776, 781, 785, 789, 793, 809, 873, 877, 881, 886, 978, 891, 895, 1000, 899, 434, 515, 522, 525, 684, 1003, 1013, 1158, 1181, 1178, 1218]) rfl
set_option maxRecDepth 100000 in
theorem mm_cwk4 : ∀ t ∈ mm_mt4, mm_cw t ∈ mm_GW := mm_cw_of (ps := [1166, 1162, 1170, 1184, 1188, 1174, 1207, 1202, 1198, 1192, 1211, 1215, 1222, 1229, 1233, 1237, 1225, 1289, 1254, 1250, 1246, 1266, 1351, 1286, 1306, 1309, 1303, 1299, 1321, 1317, 1313, 1325]) rfl
set_option maxRecDepth 100000 in
theorem mm_cwk5 : ∀ t ∈ mm_mt5, mm_cw t ∈ mm_GW := mm_cw_of (ps := [1328, 1295, 1336, 1340, 1332, 1282, 1274, 1278, 1270, 1262, 1348, 1344, 1258, 1242, 1355, 1363, 1359, 1367, 1371, 1375, 1379, 1397, 1393, 1405, 1401, 1409, 1413, 1421, 1435, 1429, 1425, 1443]) rfl
set_option maxRecDepth 100000 in
theorem mm_cwk6 : ∀ t ∈ mm_mt6, mm_cw t ∈ mm_GW := mm_cw_of (ps := [1439, 1417, 1447, 1451, 1455, 1459, 1467, 1463, 1479, 1495, 1491, 1503, 1511, 1507, 1499, 1515, 1487, 1483, 1475, 1471, 1519, 1523, 1527, 1531, 1535, 1539, 1543, 1547, 1561, 1550, 1553, 1382]) rfl
set_option maxRecDepth 100000 in
theorem mm_cwk7 : ∀ t ∈ mm_mt7, mm_cw t ∈ mm_GW := mm_cw_of (ps := [1385, 492, 489]) rfl
theorem mm_cwk : ∀ l ∈ mm_mts, ∀ t ∈ l, mm_cw t ∈ mm_GW := by
  intro l hl
  simp only [mm_mts, List.mem_cons, List.not_mem_nil, or_false] at hl
  rcases hl with rfl | rfl | rfl | rfl | rfl | rfl | rfl | rfl
  · exact mm_cwk0
  · exact mm_cwk1
  · exact mm_cwk2
  · exact mm_cwk3
  · exact mm_cwk4
  · exact mm_cwk5
  · exact mm_cwk6
  · exact mm_cwk7
theorem mm_mtk : ∀ l ∈ mm_mts, l.all mm_ckM = true := by
  intro l hl
  simp only [mm_mts, List.mem_cons, List.not_mem_nil, or_false] at hl
  rcases hl with rfl | rfl | rfl | rfl | rfl | rfl | rfl | rfl
  · exact mm_mtk0
  · exact mm_mtk1
  · exact mm_mtk2
  · exact mm_mtk3
  · exact mm_mtk4
  · exact mm_mtk5
  · exact mm_mtk6
  · exact mm_mtk7
def mm_fl : List (Nat × Nat × Nat × Nat × Nat) := [(0, 9, 0, 0, 185), (0, 15, 0, 4, 193), (0, 18, 0, 5, 194), (0, 21, 0, 6, 195), (0, 24, 0, 7, 196), (0, 27, 0, 8, 197), (0, 30, 0, 9, 198), (0, 33, 0, 10, 200), (0, 36, 0, 11, 202), (0, 39, 0, 12, 204), (0, 42, 0, 1, 187), (0, 46, 0, 3, 191), (0, 49, 2, 1, 160), (0, 54, 4, 1, 250), (0, 57, 4, 0, 247), (0, 64, 0, 2, 189), (0, 92, 0, 14, 207), (0, 95, 0, 13, 206), (1, 12, 1, 0, 290), (1, 21, 1, 1, 292), (1, 25, 1, 2, 293), (1, 28, 1, 3, 294), (1, 31, 1, 4, 295), (1, 40, 5, 1, 131), (1, 49, 5, 3, 137), (1, 57, 4, 0, 246), (1, 67, 5, 2, 134), (1, 70, 1, 5, 296), (1, 74, 1, 6, 297), (1, 92, 4, 4, 257), (2, 9, 2, 0, 158), (2, 15, 2, 1, 159), (2, 18, 2, 2, 164), (3, 12, 3, 0, 342), (3, 21, 3, 1, 344), (3, 25, 3, 8, 354), (3, 29, 3, 9, 355), (3, 32, 3, 10, 356), (3, 35, 3, 11, 358), (3, 38, 3, 12, 360), (3, 41, 6, 1, 329), (3, 45, 6, 0, 327), (3, 48, 3, 2, 345), (3, 51, 3, 3, 347), (3, 54, 3, 4, 348), (3, 57, 3, 5, 350), (3, 95, 3, 6, 352), (3, 98, 3, 7, 353), (3, 123, 2, 1, 162), (4, 9, 4, 0, 245), (4, 15, 4, 6, 261), (4, 18, 4, 7, 263), (4, 21, 4, 8, 265), (4, 24, 4, 9, 267), (4, 27, 4, 1, 249), (4, 31, 4, 2, 252), (4, 34, 4, 5, 259), (4, 41, 4, 3, 254), (4, 44, 4, 4, 256), (4, 50, 2, 1, 161), (4, 61, 0, 3, 192), (4, 79, 0, 2, 190), (4, 82, 0, 9, 199), (4, 85, 0, 10, 201), (4, 88, 0, 11, 203), (4, 91, 0, 12, 205), (5, 9, 5, 0, 129), (5, 15, 5, 1, 130), (5, 18, 5, 4, 139), (5, 22, 5, 2, 133), (5, 25, 5, 3, 136), (6, 9, 6, 0, 326), (6, 15, 6, 1, 330), (6, 19, 6, 2, 332), (7, 9, 7, 0, 114), (7, 15, 7, 1, 116), (8, 12, 8, 0, 389), (8, 19, 8, 1, 390), (8, 26, 8, 2, 391), (8, 33, 8, 3, 392), (8, 37, 1, 0, 291), (8, 41, 8, 4, 393), (8, 45, 8, 5, 394), (8, 49, 3, 0, 343), (8, 53, 8, 6, 395), (8, 54, 8, 7, 396), (8, 58, 8, 8, 397), (8, 61, 8, 9, 398), (8, 64, 7, 1, 115), (8, 75, 5, 2, 135), (8, 78, 5, 3, 138), (8, 84, 5, 1, 132), (8, 100, 5, 4, 140), (8, 137, 2, 1, 163), (8, 157, 1, 6, 298), (8, 167, 4, 3, 255), (8, 172, 4, 4, 258), (8, 175, 4, 5, 260), (8, 178, 4, 6, 262), (8, 181, 4, 7, 264), (8, 184, 4, 9, 268), (8, 191, 4, 1, 251), (8, 197, 4, 0, 248), (8, 247, 6, 1, 331), (8, 263, 2, 2, 165), (8, 279, 4, 2, 253), (8, 283, 0, 1, 188), (8, 289, 4, 8, 266), (8, 299, 0, 0, 186), (8, 306, 6, 0, 328), (8, 315, 3, 10, 357), (8, 318, 3, 11, 359), (8, 321, 3, 5, 351), (8, 324, 3, 4, 349), (8, 333, 3, 2, 346), (8, 337, 3, 12, 361), (9, 7, 9, 0, 1015), (9, 13, 9, 2, 1017), (9, 16, 9, 3, 1018), (9, 19, 9, 6, 1021), (9, 23, 9, 7, 1022), (9, 26, 9, 8, 1023), (9, 29, 9, 9, 1024), (9, 32, 9, 10, 1025), (9, 35, 9, 11, 1026), (9, 38, 9, 12, 1027), (9, 41, 9, 13, 1028), (9, 44, 9, 14, 1029), (9, 47, 9, 17, 1032), (9, 50, 9, 20, 1035), (9, 53, 9, 23, 1038), (9, 56, 9, 24, 1039), (9, 59, 9, 25, 1040), (9, 63, 9, 26, 1041), (9, 66, 9, 27, 1042), (9, 69, 9, 28, 1043), (9, 72, 9, 30, 1045), (9, 75, 9, 31, 1046), (9, 78, 9, 33, 1048), (9, 81, 9, 41, 1056), (9, 84, 9, 42, 1057), (9, 87, 9, 43, 1058), (9, 90, 9, 44, 1059), (9, 93, 9, 45, 1060), (9, 96, 9, 16, 1031), (9, 99, 9, 4, 1019), (9, 106, 9, 1, 1016), (9, 113, 9, 5, 1020), (9, 161, 9, 18, 1033), (9, 164, 9, 19, 1034), (9, 167, 9, 21, 1036), (9, 170, 9, 22, 1037), (9, 205, 9, 29, 1044), (9, 231, 9, 32, 1047), (9, 277, 9, 15, 1030), (9, 280, 9, 34, 1049), (9, 304, 9, 35, 1050), (9, 307, 9, 36, 1051), (9, 310, 9, 37, 1052), (9, 313, 9, 38, 1053), (9, 319, 9, 40, 1055), (9, 323, 9, 39, 1054)]
def mm_ckF (t : Nat × Nat × Nat × Nat × Nat) : Bool := match t with
  | (o, ix, c, s, p) => mm_wt p (.fieldLink (mm_cn o) ix (mm_T c s).1 (mm_T c s).2.1 (mm_T c s).2.2.1) && decide (s < mm_N c) && decide (c < 10)
theorem mm_flk : mm_fl.all mm_ckF = true := by decide +kernel
def mm_flC (o ix c s : Nat) : Bool := mm_fl.any (fun t => t.1 == o && (t.2.1 == ix && (t.2.2.1 == c && t.2.2.2.1 == s)))
def mm_ml : List (Nat × Nat × Nat × Nat × Nat × Nat) := [(0, 60, 22, 1, 0, 582), (0, 67, 5, 1, 0, 614), (0, 71, 1, 0, 0, 599), (0, 75, 3, 1, 0, 618), (0, 79, 7, 1, 0, 594), (0, 82, 225, 0, 0, 605), (0, 88, 9, 1, 0, 606), (0, 98, 226, 0, 0, 598), (0, 101, 8, 0, 0, 602), (1, 11, 0, 2, 1, 181), (1, 20, 39, 2, 1, 241), (1, 34, 226, 0, 0, 562), (1, 46, 225, 0, 0, 563), (1, 53, 40, 1, 0, 564), (1, 60, 49, 1, 0, 568), (1, 63, 41, 1, 0, 569), (1, 77, 12, 1, 0, 626), (1, 81, 13, 1, 0, 630), (1, 84, 16, 1, 0, 634), (1, 88, 14, 1, 0, 638), (1, 95, 15, 1, 0, 642), (2, 21, 20, 1, 0, 505), (3, 11, 56, 2, 1, 322), (3, 20, 18, 2, 1, 341), (3, 60, 117, 0, 1, 798), (3, 64, 118, 0, 1, 799), (3, 67, 119, 0, 1, 800), (3, 70, 20, 1, 0, 801), (3, 74, 63, 1, 0, 802), (3, 78, 57, 1, 0, 822), (3, 81, 25, 1, 0, 823), (3, 85, 26, 1, 0, 818), (3, 89, 226, 0, 0, 831), (3, 102, 28, 1, 0, 832), (3, 105, 31, 1, 0, 836), (3, 109, 34, 1, 0, 857), (3, 113, 35, 1, 0, 861), (3, 117, 29, 1, 0, 840), (3, 120, 32, 1, 0, 844), (3, 126, 33, 1, 0, 848), (3, 129, 30, 1, 0, 852), (3, 132, 22, 1, 0, 856), (3, 137, 37, 1, 0, 814), (3, 140, 27, 1, 0, 827), (3, 143, 38, 1, 0, 866), (4, 37, 42, 1, 0, 573), (4, 55, 2, 1, 0, 578), (4, 64, 43, 1, 0, 586), (4, 68, 6, 1, 0, 590), (4, 72, 4, 1, 0, 610), (4, 75, 44, 1, 0, 622), (5, 28, 47, 1, 0, 451), (5, 32, 48, 1, 0, 474), (5, 36, 49, 1, 0, 478), (5, 41, 226, 0, 0, 487), (5, 46, 225, 0, 0, 490), (5, 50, 54, 1, 0, 554), (6, 22, 58, 1, 0, 742), (6, 26, 62, 1, 0, 732), (6, 31, 57, 1, 0, 737), (8, 11, 64, 2, 1, 110), (8, 18, 45, 2, 1, 125), (8, 25, 18, 2, 1, 154), (8, 32, 10, 2, 1, 175), (8, 44, 23, 2, 1, 316), (8, 67, 65, 1, 0, 424), (8, 71, 117, 0, 0, 432), (8, 81, 47, 1, 0, 439), (8, 88, 66, 1, 0, 443), (8, 92, 51, 1, 0, 447), (8, 96, 72, 0, 0, 456), (8, 103, 73, 1, 0, 461), (8, 107, 52, 1, 0, 482), (8, 113, 53, 1, 0, 465), (8, 117, 50, 1, 0, 470), (8, 120, 46, 1, 0, 497), (8, 123, 19, 1, 0, 501), (8, 124, 118, 0, 0, 513), (8, 127, 119, 0, 0, 520), (8, 130, 120, 0, 0, 523), (8, 133, 20, 1, 0, 526), (8, 140, 48, 1, 0, 539), (8, 144, 49, 1, 0, 540), (8, 150, 87, 1, 0, 546), (8, 153, 11, 1, 0, 558), (8, 160, 16, 1, 0, 650), (8, 163, 88, 1, 0, 655), (8, 187, 89, 1, 0, 669), (8, 200, 22, 1, 0, 970), (8, 204, 2, 1, 0, 673), (8, 210, 43, 1, 0, 674), (8, 213, 4, 1, 0, 675), (8, 216, 6, 1, 0, 676), (8, 219, 3, 1, 0, 681), (8, 223, 121, 0, 0, 682), (8, 227, 55, 1, 0, 550), (8, 230, 14, 1, 0, 659), (8, 234, 15, 1, 0, 660), (8, 237, 54, 1, 0, 691), (8, 241, 94, 1, 0, 692), (8, 244, 17, 1, 0, 696), (8, 250, 96, 1, 0, 716), (8, 253, 97, 1, 0, 743), (8, 257, 58, 1, 0, 720), (8, 260, 21, 1, 0, 724), (8, 266, 61, 1, 0, 728), (8, 269, 59, 1, 0, 747), (8, 272, 98, 1, 0, 751), (8, 276, 60, 1, 0, 769), (8, 280, 99, 1, 0, 755), (8, 284, 226, 0, 0, 759), (8, 292, 100, 1, 0, 760), (8, 296, 101, 1, 0, 764), (8, 302, 1, 0, 0, 768), (8, 305, 57, 1, 0, 777), (8, 309, 24, 1, 0, 794), (8, 312, 36, 1, 0, 810), (8, 327, 27, 1, 0, 882), (8, 330, 26, 1, 0, 887), (8, 340, 122, 0, 0, 1001), (9, 102, 125, 0, 0, 1179), (9, 109, 128, 1, 0, 1163), (9, 116, 126, 1, 0, 1175), (9, 120, 131, 0, 0, 1182), (9, 124, 132, 1, 0, 1185), (9, 129, 135, 1, 0, 1199), (9, 135, 136, 1, 0, 1195), (9, 139, 134, 1, 0, 1204), (9, 143, 127, 0, 0, 1216), (9, 146, 144, 0, 0, 1223), (9, 154, 146, 1, 0, 1251), (9, 158, 147, 1, 0, 1247), (9, 173, 145, 0, 0, 1287), (9, 177, 154, 1, 0, 1300), (9, 180, 152, 0, 0, 1304), (9, 183, 153, 0, 0, 1307), (9, 186, 156, 1, 0, 1318), (9, 190, 157, 1, 0, 1314), (9, 193, 155, 1, 0, 1296), (9, 196, 158, 1, 0, 1310), (9, 199, 159, 1, 0, 1322), (9, 202, 160, 0, 0, 1326), (9, 208, 162, 1, 0, 1333), (9, 211, 163, 1, 0, 1337), (9, 215, 151, 1, 0, 1283), (9, 219, 161, 1, 0, 1292), (9, 222, 164, 1, 0, 1329), (9, 225, 165, 1, 0, 1279), (9, 228, 166, 1, 0, 1271), (9, 234, 167, 1, 0, 1275), (9, 237, 149, 1, 0, 1263), (9, 240, 168, 1, 0, 1267), (9, 243, 150, 0, 0, 1349), (9, 246, 170, 1, 0, 1345), (9, 249, 169, 1, 0, 1259), (9, 252, 171, 1, 0, 1341), (9, 255, 148, 1, 0, 1243), (9, 258, 172, 1, 0, 1255), (9, 261, 175, 1, 0, 1360), (9, 265, 223, 0, 0, 1380), (9, 271, 181, 1, 0, 1394), (9, 274, 183, 1, 0, 1402), (9, 283, 187, 1, 0, 1418), (9, 288, 189, 1, 0, 1426), (9, 291, 188, 1, 0, 1432), (9, 294, 191, 1, 0, 1440), (9, 298, 190, 1, 0, 1422), (9, 301, 192, 1, 0, 1436), (9, 316, 198, 1, 0, 1464), (9, 326, 201, 1, 0, 1492), (9, 329, 202, 1, 0, 1488), (9, 332, 203, 1, 0, 1500), (9, 335, 204, 1, 0, 1508), (9, 338, 205, 1, 0, 1504), (9, 341, 200, 1, 0, 1476), (9, 344, 208, 1, 0, 1484), (9, 347, 206, 1, 0, 1496), (9, 351, 207, 1, 0, 1512), (9, 354, 209, 1, 0, 1480), (9, 357, 210, 1, 0, 1472), (9, 360, 221, 0, 0, 1548), (11, 59, 224, 0, 0, 1383), (12, 122, 222, 0, 0, 1551)]
def mm_m0 : mm_MT := (⟨"", "", ""⟩, ⟨#[]⟩, 0, none, 0, 0, 0, 0, 0, 0, 0, 0)
def mm_nth {α : Type} (d : α) : List α → Nat → α
  | [], _ => d
  | x :: _, 0 => x
  | _ :: l, n + 1 => mm_nth d l n
def mm_m (k : Nat) : mm_MT := mm_nth mm_m0 (mm_nth [] mm_mts (k / 32)) (k % 32)
def mm_y (k : Nat) : MethodName := (mm_m k).1
def mm_by (k : Nat) : ByteArray := (mm_m k).2.1
def mm_mL (k : Nat) : Nat := (mm_m k).2.2.1
def mm_rt (k : Nat) : Option FieldType := (mm_m k).2.2.2.1
def mm_na (k : Nat) : Nat := (mm_m k).2.2.2.2.1
def mm_c (k : Nat) : Nat := (mm_m k).2.2.2.2.2.1
def mm_md (k : Nat) : Nat := (mm_m k).2.2.2.2.2.2.1
def mm_dp (k : Nat) : Nat := (mm_m k).2.2.2.2.2.2.2.1
def mm_nw (o ix : Nat) (y : MethodName) : Cond := .methodLinkNest (mm_cn o) ix y "WholeSound"
def mm_ckL (t : Nat × Nat × Nat × Nat × Nat × Nat) : Bool := match t with
  | (o, ix, k, md, ns, p) => decide (k < 227) && decide (mm_md k = md) && (if ns = 0 then mm_wt p (.methodLink (mm_cn o) ix (mm_y k)) else decide (lw_tbl[p]? = some (mm_nw o ix (mm_y k))))
theorem mm_mlk : mm_ml.all mm_ckL = true := by decide +kernel
def mm_mlC (o ix k md : Nat) : Bool := mm_ml.any (fun t => t.1 == o && (t.2.1 == ix && (t.2.2.1 == k && t.2.2.2.1 == md)))
def mm_cs : List (Nat × Nat × Nat × Nat × Nat) := [(3, 136, 0, 32768, 865), (4, 49, 0, 2147483647, 577), (5, 40, 0, 32768, 486), (5, 49, 0, 1103515245, 469), (6, 30, 0, 65535, 736), (6, 35, 0, 32768, 741), (8, 111, 0, 4294901760, 459), (8, 112, 0, 65536, 460), (8, 149, 0, 2147483648, 541), (8, 344, 2, 1258291200, 685), (8, 345, 0, 8388608, 686), (8, 346, 1, 1023, 1004), (8, 348, 3, 4611686018427387904, 1005), (8, 350, 1, 2046, 1006), (8, 352, 3, 4841369599423283200, 1007), (8, 354, 1, 4503599627370496, 1008), (9, 128, 0, 1103515245, 1203), (9, 133, 0, 4294901760, 1193), (9, 134, 0, 65536, 1194), (9, 150, 0, 2147483648, 1238), (9, 286, 0, 65535, 1430), (9, 287, 0, 32768, 1431), (11, 77, 0, 2143289344, 1389), (12, 137, 1, 9221120237041090560, 1557)]
def mm_ckC (t : Nat × Nat × Nat × Nat × Nat) : Bool := match t with
  | (o, ix, kd, v, p) => if kd = 0 then mm_wt p (.constant (mm_cn o) ix (Int32.ofNat v)) else if kd = 1 then mm_wt p (.constantLong (mm_cn o) ix (Int64.ofNat v)) else if kd = 2 then mm_wt p (.constantFloat (mm_cn o) ix (UInt32.ofNat v)) else mm_wt p (.constantDouble (mm_cn o) ix (UInt64.ofNat v))
theorem mm_csk : mm_cs.all mm_ckC = true := by decide +kernel
def mm_csC (o ix kd v : Nat) : Bool := mm_cs.any (fun t => t.1 == o && (t.2.1 == ix && (t.2.2.1 == kd && t.2.2.2.1 == v)))
def mm_nl : List (Nat × Nat × Nat × Nat × Nat × Nat) := [(1, 9, 0, 179, 180, 86), (1, 18, 4, 239, 240, 87), (3, 9, 6, 320, 321, 89), (3, 18, 2, 340, 153, 84), (8, 9, 7, 108, 109, 82), (8, 16, 5, 123, 124, 83), (8, 23, 2, 152, 153, 84), (8, 30, 1, 173, 174, 85), (8, 42, 3, 314, 315, 88)]
def mm_ckN (t : Nat × Nat × Nat × Nat × Nat × Nat) : Bool := match t with
  | (o, ix, c, p1, p2, p3) => mm_wt p1 (.classLink (mm_cn o) ix (mm_cn c)) && mm_wt p2 (.instantiable (mm_cn c) (mm_N c)) && mm_wt p3 (.initialized (mm_cn c)) && decide (c < 10)
theorem mm_nlk : mm_nl.all mm_ckN = true := by decide +kernel
def mm_nlC (o ix c : Nat) : Bool := mm_nl.any (fun t => t.1 == o && (t.2.1 == ix && t.2.2.1 == c))
def mm_ol : List (Nat × Nat × Nat) := [(0, 3, 184), (1, 3, 178), (2, 3, 157), (3, 3, 319), (4, 3, 244), (5, 3, 128), (6, 3, 325), (7, 3, 113), (8, 3, 105), (9, 1, 1014)]
theorem mm_olk : mm_ol.all (fun t => mm_wt t.2.2 (.methodLink (mm_cn t.1) t.2.1 Lib.objectInit)) = true := by decide +kernel
def mm_olC (o ix : Nat) : Bool := mm_ol.any (fun t => t.1 == o && t.2.1 == ix)
theorem mm_oi1 : (.instanceMethod Lib.objectInit : Cond) ∈ mm_GW := mm_wt_mem (i := 106) (by decide +kernel)
theorem mm_oi2 : (.code Lib.objectInit ⟨#[0xb1]⟩ 1 none : Cond) ∈ mm_GW := mm_wt_mem (i := 107) (by decide +kernel)
theorem mm_nvf1 : (.methodLink "java/lang/Float" 74 (⟨"java/lang/Float", "floatToRawIntBits", "(F)I"⟩ : MethodName) : Cond) ∈ mm_GW := mm_wt_mem (i := 1386) (by decide +kernel)
theorem mm_nvf2 : (.native (⟨"java/lang/Float", "floatToRawIntBits", "(F)I"⟩ : MethodName) : Cond) ∈ mm_GW := mm_wt_mem (i := 1388) (by decide +kernel)
theorem mm_nvf3 : (.static (⟨"java/lang/Float", "floatToRawIntBits", "(F)I"⟩ : MethodName) : Cond) ∈ mm_GW := mm_wt_mem (i := 1387) (by decide +kernel)
theorem mm_nvf4 : (.initialized "java/lang/Float" : Cond) ∈ mm_GW := mm_wt_mem (i := 97) (by decide +kernel)
theorem mm_nvd1 : (.methodLink "java/lang/Double" 134 (⟨"java/lang/Double", "doubleToRawLongBits", "(D)J"⟩ : MethodName) : Cond) ∈ mm_GW := mm_wt_mem (i := 1554) (by decide +kernel)
theorem mm_nvd2 : (.native (⟨"java/lang/Double", "doubleToRawLongBits", "(D)J"⟩ : MethodName) : Cond) ∈ mm_GW := mm_wt_mem (i := 1556) (by decide +kernel)
theorem mm_nvd3 : (.static (⟨"java/lang/Double", "doubleToRawLongBits", "(D)J"⟩ : MethodName) : Cond) ∈ mm_GW := mm_wt_mem (i := 1555) (by decide +kernel)
theorem mm_nvd4 : (.initialized "java/lang/Double" : Cond) ∈ mm_GW := mm_wt_mem (i := 99) (by decide +kernel)
theorem mm_ac_int : (.arrayClass .int : Cond) ∈ mm_GW := mm_wt_mem (i := 122) (by decide +kernel)
theorem mm_ac_boolean : (.arrayClass .boolean : Cond) ∈ mm_GW := mm_wt_mem (i := 1154) (by decide +kernel)
-- FIXED: Jvm.Cond.fieldLink "WholeSoundModel" (151 : Nat) "WholeSoundModel" "FIXED" "[I" at [1210]
theorem mm_fx : (.fieldLink "WholeSoundModel" 151 "WholeSoundModel" "FIXED" "[I" : Cond) ∈ mm_GW := mm_wt_mem (i := 1290) (by decide +kernel)
end
section
def mm_ckP (o pc : Nat) (ins : Instr) (p q : Nat) : Bool := match ins with
  | .goto off => decide ((pc : Int) + off = (p : Int))
  | .if_icmp _ off => decide ((pc : Int) + off = (p : Int))
  | .ifCond _ off => decide ((pc : Int) + off = (p : Int))
  | .ifnull off => decide ((pc : Int) + off = (p : Int))
  | .ifnonnull off => decide ((pc : Int) + off = (p : Int))
  | .getfield i => mm_flC o i p q
  | .putfield i => mm_flC o i p q
  | .ldc i => if q = 0 then mm_csC o i 0 p else mm_csC o i 2 p
  | .ldc_w i => if q = 0 then mm_csC o i 0 p else mm_csC o i 2 p
  | .ldc2_w i => if q = 0 then mm_csC o i 1 p else mm_csC o i 3 p
  | .invokevirtual i => mm_mlC o i p 1 && decide (mm_na p = q)
  | .invokestatic i => (if p = 1002 then decide (o = 11 ∧ i = 74) else if p = 1003 then decide (o = 12 ∧ i = 134) else mm_mlC o i p 0 && decide (mm_na p = q))
  | .invokespecial i => (if p = 1004 then mm_olC o i else if p = 1999 then true else mm_mlC o i p 2 && decide (mm_na p = q))
  | .new i => if p < 100 then mm_nlC o i p && decide (mm_N p = q) else true
  | .newarray t => if p = 100 then decide (t = .int) else decide (p = 101 ∧ t = .boolean)
  | .getstatic i => decide (o = 9 ∧ i = 151)
  | _ => true
def mm_ckE (o : Nat) (by_ : ByteArray) (e : Nat × mm_E) : Bool := decide (decode by_ e.1 = .ok (e.2.1, e.2.2.1)) && mm_ckP o e.1 e.2.1 e.2.2.2.1 e.2.2.2.2
def mm_c0 : List (Nat × mm_E) := [
  (0, (.aload_n 0), 1, 0, 0),
  (1, (.invokespecial 3), 3, 1004, 0),
  (4, (.aload_n 0), 1, 0, 0),
  (5, (.bipush 64), 2, 0, 0),
  (7, (.newarray .int), 2, 100, 0),
  (9, (.putfield 9), 3, 0, 0),
  (12, (.aload_n 0), 1, 0, 0),
  (13, (.bipush 9), 2, 0, 0),
  (15, (.newarray .int), 2, 100, 0),
  (17, (.putfield 15), 3, 0, 4),
  (20, (.aload_n 0), 1, 0, 0),
  (21, (.bipush 8), 2, 0, 0),
  (23, (.newarray .int), 2, 100, 0),
  (25, (.putfield 18), 3, 0, 5),
  (28, (.aload_n 0), 1, 0, 0),
  (29, (.bipush 126), 2, 0, 0),
  (31, (.newarray .int), 2, 100, 0),
  (33, (.putfield 21), 3, 0, 6),
  (36, (.aload_n 0), 1, 0, 0),
  (37, (.bipush 9), 2, 0, 0),
  (39, (.newarray .int), 2, 100, 0),
  (41, (.putfield 24), 3, 0, 7),
  (44, (.aload_n 0), 1, 0, 0),
  (45, (.bipush 9), 2, 0, 0),
  (47, (.newarray .int), 2, 100, 0),
  (49, (.putfield 27), 3, 0, 8),
  (52, (.aload_n 0), 1, 0, 0),
  (53, (.bipush 8), 2, 0, 0),
  (55, (.newarray .int), 2, 100, 0),
  (57, (.putfield 30), 3, 0, 9),
  (60, (.aload_n 0), 1, 0, 0),
  (61, (.bipush 8), 2, 0, 0),
  (63, (.newarray .int), 2, 100, 0),
  (65, (.putfield 33), 3, 0, 10),
  (68, (.aload_n 0), 1, 0, 0),
  (69, (.bipush 8), 2, 0, 0),
  (71, (.newarray .int), 2, 100, 0),
  (73, (.putfield 36), 3, 0, 11),
  (76, (.aload_n 0), 1, 0, 0),
  (77, (.bipush 8), 2, 0, 0),
  (79, (.newarray .int), 2, 100, 0),
  (81, (.putfield 39), 3, 0, 12),
  (84, .return_, 1, 0, 0)]
theorem mm_ck0 : mm_c0.all (mm_ckE 0 prog_2_method_1_code) = true := by decide +kernel
def mm_c1 : List (Nat × mm_E) := [
  (0, (.iload_n 0), 1, 0, 0),
  (1, (.ifCond .ge 12), 3, 13, 0),
  (4, (.bipush (-2)), 2, 0, 0),
  (6, (.iload_n 0), 1, 0, 0),
  (7, .imul, 1, 0, 0),
  (8, (.iconst 1), 1, 0, 0),
  (9, .isub, 1, 0, 0),
  (10, (.goto 6), 3, 16, 0),
  (13, (.iconst 2), 1, 0, 0),
  (14, (.iload_n 0), 1, 0, 0),
  (15, .imul, 1, 0, 0),
  (16, .ireturn, 1, 0, 0)]
theorem mm_ck1 : mm_c1.all (mm_ckE 0 prog_2_method_2_code) = true := by decide +kernel
def mm_c2 : List (Nat × mm_E) := [
  (0, (.aload_n 0), 1, 0, 0),
  (1, (.iconst 0), 1, 0, 0),
  (2, (.putfield 42), 3, 0, 1),
  (5, (.aload_n 0), 1, 0, 0),
  (6, (.iconst 0), 1, 0, 0),
  (7, (.putfield 46), 3, 0, 3),
  (10, (.aload_n 2), 1, 0, 0),
  (11, (.getfield 49), 3, 2, 1),
  (14, (.iload_n 3), 1, 0, 0),
  (15, .iaload, 1, 0, 0),
  (16, (.istore 4), 2, 0, 0),
  (18, (.iload 4), 2, 0, 0),
  (20, (.aload_n 1), 1, 0, 0),
  (21, (.getfield 54), 3, 4, 1),
  (24, (.if_icmp .ge 73), 3, 97, 0),
  (27, (.aload_n 1), 1, 0, 0),
  (28, (.getfield 57), 3, 4, 0),
  (31, (.iload 4), 2, 0, 0),
  (33, .iaload, 1, 0, 0),
  (34, (.aload_n 2), 1, 0, 0),
  (35, (.iload_n 3), 1, 0, 0),
  (36, (.aload_n 1), 1, 0, 0),
  (37, (.getfield 57), 3, 4, 0),
  (40, (.iload 4), 2, 0, 0),
  (42, (.invokevirtual 60), 3, 22, 4),
  (45, .isub, 1, 0, 0),
  (46, (.istore 5), 2, 0, 0),
  (48, (.aload_n 0), 1, 0, 0),
  (49, (.getfield 9), 3, 0, 0),
  (52, (.aload_n 0), 1, 0, 0),
  (53, (.getfield 42), 3, 0, 1),
  (56, (.iload 5), 2, 0, 0),
  (58, .iastore, 1, 0, 0),
  (59, (.aload_n 0), 1, 0, 0),
  (60, .dup, 1, 0, 0),
  (61, (.getfield 42), 3, 0, 1),
  (64, (.iconst 1), 1, 0, 0),
  (65, .iadd, 1, 0, 0),
  (66, (.putfield 42), 3, 0, 1),
  (69, (.aload_n 0), 1, 0, 0),
  (70, .dup, 1, 0, 0),
  (71, (.getfield 46), 3, 0, 3),
  (74, (.iload 5), 2, 0, 0),
  (76, (.ifCond .ge 9), 3, 85, 0),
  (79, (.iload 5), 2, 0, 0),
  (81, .ineg, 1, 0, 0),
  (82, (.goto 5), 3, 87, 0),
  (85, (.iload 5), 2, 0, 0),
  (87, .iadd, 1, 0, 0),
  (88, (.putfield 46), 3, 0, 3),
  (91, (.iinc 4 1), 3, 0, 0),
  (94, (.goto (-76)), 3, 18, 0),
  (97, (.aload_n 0), 1, 0, 0),
  (98, (.aload_n 0), 1, 0, 0),
  (99, (.getfield 42), 3, 0, 1),
  (102, (.bipush 8), 2, 0, 0),
  (104, .iadd, 1, 0, 0),
  (105, (.iconst 1), 1, 0, 0),
  (106, .isub, 1, 0, 0),
  (107, (.bipush 8), 2, 0, 0),
  (109, .idiv, 1, 0, 0),
  (110, (.putfield 64), 3, 0, 2),
  (113, .return_, 1, 0, 0)]
theorem mm_ck2 : mm_c2.all (mm_ckE 0 prog_2_method_3_code) = true := by decide +kernel
def mm_c3 : List (Nat × mm_E) := [
  (0, (.aload_n 0), 1, 0, 0),
  (1, (.getfield 42), 3, 0, 1),
  (4, (.ifCond .le 17), 3, 21, 0),
  (7, (.aload_n 0), 1, 0, 0),
  (8, (.getfield 46), 3, 0, 3),
  (11, .i2f, 1, 0, 0),
  (12, (.aload_n 0), 1, 0, 0),
  (13, (.getfield 42), 3, 0, 1),
  (16, .i2f, 1, 0, 0),
  (17, .fdiv, 1, 0, 0),
  (18, (.goto 4), 3, 22, 0),
  (21, (.fconst 0), 1, 0, 0),
  (22, .freturn, 1, 0, 0)]
theorem mm_ck3 : mm_c3.all (mm_ckE 0 prog_2_method_4_code) = true := by decide +kernel
def mm_c4 : List (Nat × mm_E) := [
  (0, (.aload_n 0), 1, 0, 0),
  (1, (.invokevirtual 67), 3, 5, 1),
  (4, (.istore_n 1), 1, 0, 0),
  (5, (.bipush 7), 2, 0, 0),
  (7, (.istore_n 2), 1, 0, 0),
  (8, (.iload_n 1), 1, 0, 0),
  (9, (.bipush 15), 2, 0, 0),
  (11, (.if_icmp .eq 37), 3, 48, 0),
  (14, (.iconst 0), 1, 0, 0),
  (15, (.istore_n 3), 1, 0, 0),
  (16, (.iload_n 3), 1, 0, 0),
  (17, (.aload_n 0), 1, 0, 0),
  (18, (.getfield 42), 3, 0, 1),
  (21, (.if_icmp .ge 27), 3, 48, 0),
  (24, (.iload_n 2), 1, 0, 0),
  (25, (.aload_n 0), 1, 0, 0),
  (26, (.getfield 9), 3, 0, 0),
  (29, (.iload_n 3), 1, 0, 0),
  (30, .iaload, 1, 0, 0),
  (31, (.invokestatic 71), 3, 1, 1),
  (34, (.iload_n 1), 1, 0, 0),
  (35, .ishr, 1, 0, 0),
  (36, (.iconst 1), 1, 0, 0),
  (37, .iadd, 1, 0, 0),
  (38, (.iload_n 1), 1, 0, 0),
  (39, .iadd, 1, 0, 0),
  (40, .iadd, 1, 0, 0),
  (41, (.istore_n 2), 1, 0, 0),
  (42, (.iinc 3 1), 3, 0, 0),
  (45, (.goto (-29)), 3, 16, 0),
  (48, (.aload_n 0), 1, 0, 0),
  (49, (.getfield 30), 3, 0, 9),
  (52, (.iconst 0), 1, 0, 0),
  (53, (.aload_n 0), 1, 0, 0),
  (54, (.getfield 64), 3, 0, 2),
  (57, .iastore, 1, 0, 0),
  (58, (.aload_n 0), 1, 0, 0),
  (59, (.getfield 33), 3, 0, 10),
  (62, (.iconst 0), 1, 0, 0),
  (63, (.iload_n 1), 1, 0, 0),
  (64, .iastore, 1, 0, 0),
  (65, (.aload_n 0), 1, 0, 0),
  (66, (.getfield 39), 3, 0, 12),
  (69, (.iconst 0), 1, 0, 0),
  (70, (.iload_n 2), 1, 0, 0),
  (71, .iastore, 1, 0, 0),
  (72, (.iload_n 2), 1, 0, 0),
  (73, .ireturn, 1, 0, 0)]
theorem mm_ck4 : mm_c4.all (mm_ckE 0 prog_2_method_5_code) = true := by decide +kernel
def mm_c5 : List (Nat × mm_E) := [
  (0, (.aload_n 0), 1, 0, 0),
  (1, (.getfield 46), 3, 0, 3),
  (4, (.ifCond .ne 6), 3, 10, 0),
  (7, (.bipush 15), 2, 0, 0),
  (9, .ireturn, 1, 0, 0),
  (10, (.aload_n 0), 1, 0, 0),
  (11, (.invokevirtual 75), 3, 3, 1),
  (14, (.fstore_n 1), 1, 0, 0),
  (15, (.iconst 0), 1, 0, 0),
  (16, (.istore_n 2), 1, 0, 0),
  (17, (.fconst 1), 1, 0, 0),
  (18, (.fstore_n 3), 1, 0, 0),
  (19, (.iload_n 2), 1, 0, 0),
  (20, (.bipush 13), 2, 0, 0),
  (22, (.if_icmp .ge 19), 3, 41, 0),
  (25, (.fload_n 3), 1, 0, 0),
  (26, (.fload_n 1), 1, 0, 0),
  (27, (.fcmp .g), 1, 0, 0),
  (28, (.ifCond .gt 13), 3, 41, 0),
  (31, (.fload_n 3), 1, 0, 0),
  (32, (.fconst 2), 1, 0, 0),
  (33, .fmul, 1, 0, 0),
  (34, (.fstore_n 3), 1, 0, 0),
  (35, (.iinc 2 1), 3, 0, 0),
  (38, (.goto (-19)), 3, 19, 0),
  (41, (.iload_n 2), 1, 0, 0),
  (42, .ireturn, 1, 0, 0)]
theorem mm_ck5 : mm_c5.all (mm_ckE 0 prog_2_method_6_code) = true := by decide +kernel
def mm_c6 : List (Nat × mm_E) := [
  (0, (.aload_n 0), 1, 0, 0),
  (1, (.invokevirtual 79), 3, 7, 1),
  (4, (.aload_n 0), 1, 0, 0),
  (5, (.getfield 24), 3, 0, 7),
  (8, (.aload_n 0), 1, 0, 0),
  (9, (.getfield 64), 3, 0, 2),
  (12, (.iconst 0), 1, 0, 0),
  (13, .iastore, 1, 0, 0),
  (14, (.aload_n 0), 1, 0, 0),
  (15, (.getfield 27), 3, 0, 8),
  (18, (.aload_n 0), 1, 0, 0),
  (19, (.getfield 64), 3, 0, 2),
  (22, (.iconst 0), 1, 0, 0),
  (23, .iastore, 1, 0, 0),
  (24, (.aload_n 0), 1, 0, 0),
  (25, (.getfield 64), 3, 0, 2),
  (28, (.iconst 1), 1, 0, 0),
  (29, .isub, 1, 0, 0),
  (30, (.istore_n 1), 1, 0, 0),
  (31, (.iload_n 1), 1, 0, 0),
  (32, (.ifCond .lt 164), 3, 196, 0),
  (35, (.iconst 1), 1, 0, 0),
  (36, (.istore_n 2), 1, 0, 0),
  (37, (.iload_n 1), 1, 0, 0),
  (38, (.iconst 1), 1, 0, 0),
  (39, .iadd, 1, 0, 0),
  (40, (.istore_n 3), 1, 0, 0),
  (41, (.iload_n 3), 1, 0, 0),
  (42, (.aload_n 0), 1, 0, 0),
  (43, (.getfield 64), 3, 0, 2),
  (46, (.if_icmp .gt 144), 3, 190, 0),
  (49, (.iload_n 2), 1, 0, 0),
  (50, (.aload_n 0), 1, 0, 0),
  (51, (.getfield 18), 3, 0, 5),
  (54, (.iload_n 3), 1, 0, 0),
  (55, (.iconst 1), 1, 0, 0),
  (56, .isub, 1, 0, 0),
  (57, .iaload, 1, 0, 0),
  (58, (.invokestatic 82), 3, 225, 2),
  (61, (.istore_n 2), 1, 0, 0),
  (62, (.aload_n 0), 1, 0, 0),
  (63, (.iload_n 1), 1, 0, 0),
  (64, (.iload_n 3), 1, 0, 0),
  (65, (.iload_n 2), 1, 0, 0),
  (66, (.invokevirtual 88), 3, 9, 4),
  (69, (.aload_n 0), 1, 0, 0),
  (70, (.getfield 92), 3, 0, 14),
  (73, (.aload_n 0), 1, 0, 0),
  (74, (.getfield 24), 3, 0, 7),
  (77, (.iload_n 3), 1, 0, 0),
  (78, .iaload, 1, 0, 0),
  (79, .iadd, 1, 0, 0),
  (80, (.istore 4), 2, 0, 0),
  (82, (.iconst 1), 1, 0, 0),
  (83, (.aload_n 0), 1, 0, 0),
  (84, (.getfield 27), 3, 0, 8),
  (87, (.iload_n 3), 1, 0, 0),
  (88, .iaload, 1, 0, 0),
  (89, .iadd, 1, 0, 0),
  (90, (.istore 5), 2, 0, 0),
  (92, (.iload_n 3), 1, 0, 0),
  (93, (.iload_n 1), 1, 0, 0),
  (94, (.iconst 1), 1, 0, 0),
  (95, .iadd, 1, 0, 0),
  (96, (.if_icmp .eq 36), 3, 132, 0),
  (99, (.iload 4), 2, 0, 0),
  (101, (.aload_n 0), 1, 0, 0),
  (102, (.getfield 24), 3, 0, 7),
  (105, (.iload_n 1), 1, 0, 0),
  (106, .iaload, 1, 0, 0),
  (107, (.if_icmp .lt 25), 3, 132, 0),
  (110, (.iload 4), 2, 0, 0),
  (112, (.aload_n 0), 1, 0, 0),
  (113, (.getfield 24), 3, 0, 7),
  (116, (.iload_n 1), 1, 0, 0),
  (117, .iaload, 1, 0, 0),
  (118, (.if_icmp .ne 66), 3, 184, 0),
  (121, (.iload 5), 2, 0, 0),
  (123, (.aload_n 0), 1, 0, 0),
  (124, (.getfield 27), 3, 0, 8),
  (127, (.iload_n 1), 1, 0, 0),
  (128, .iaload, 1, 0, 0),
  (129, (.if_icmp .gt 55), 3, 184, 0),
  (132, (.aload_n 0), 1, 0, 0),
  (133, (.getfield 24), 3, 0, 7),
  (136, (.iload_n 1), 1, 0, 0),
  (137, (.iload 4), 2, 0, 0),
  (139, .iastore, 1, 0, 0),
  (140, (.aload_n 0), 1, 0, 0),
  (141, (.getfield 27), 3, 0, 8),
  (144, (.iload_n 1), 1, 0, 0),
  (145, (.iload 5), 2, 0, 0),
  (147, .iastore, 1, 0, 0),
  (148, (.aload_n 0), 1, 0, 0),
  (149, (.getfield 30), 3, 0, 9),
  (152, (.iload_n 1), 1, 0, 0),
  (153, (.iload_n 3), 1, 0, 0),
  (154, (.iload_n 1), 1, 0, 0),
  (155, .isub, 1, 0, 0),
  (156, .iastore, 1, 0, 0),
  (157, (.aload_n 0), 1, 0, 0),
  (158, (.getfield 33), 3, 0, 10),
  (161, (.iload_n 1), 1, 0, 0),
  (162, (.aload_n 0), 1, 0, 0),
  (163, (.getfield 95), 3, 0, 13),
  (166, .iastore, 1, 0, 0),
  (167, (.aload_n 0), 1, 0, 0),
  (168, (.getfield 36), 3, 0, 11),
  (171, (.iload_n 1), 1, 0, 0),
  (172, (.iload_n 2), 1, 0, 0),
  (173, .iastore, 1, 0, 0),
  (174, (.aload_n 0), 1, 0, 0),
  (175, (.getfield 39), 3, 0, 12),
  (178, (.iload_n 1), 1, 0, 0),
  (179, (.aload_n 0), 1, 0, 0),
  (180, (.getfield 92), 3, 0, 14),
  (183, .iastore, 1, 0, 0),
  (184, (.iinc 3 1), 3, 0, 0),
  (187, (.goto (-146)), 3, 41, 0),
  (190, (.iinc 1 (-1)), 3, 0, 0),
  (193, (.goto (-162)), 3, 31, 0),
  (196, (.aload_n 0), 1, 0, 0),
  (197, (.getfield 24), 3, 0, 7),
  (200, (.iconst 0), 1, 0, 0),
  (201, .iaload, 1, 0, 0),
  (202, .ireturn, 1, 0, 0)]
theorem mm_ck6 : mm_c6.all (mm_ckE 0 prog_2_method_7_code) = true := by decide +kernel
def mm_c7 : List (Nat × mm_E) := [
  (0, (.iconst 0), 1, 0, 0),
  (1, (.istore_n 1), 1, 0, 0),
  (2, (.iload_n 1), 1, 0, 0),
  (3, (.aload_n 0), 1, 0, 0),
  (4, (.getfield 64), 3, 0, 2),
  (7, (.if_icmp .ge 188), 3, 195, 0),
  (10, (.iload_n 1), 1, 0, 0),
  (11, (.bipush 14), 2, 0, 0),
  (13, .imul, 1, 0, 0),
  (14, (.istore_n 2), 1, 0, 0),
  (15, (.iload_n 2), 1, 0, 0),
  (16, (.bipush 14), 2, 0, 0),
  (18, .iadd, 1, 0, 0),
  (19, (.istore_n 3), 1, 0, 0),
  (20, (.iconst 0), 1, 0, 0),
  (21, (.istore 4), 2, 0, 0),
  (23, (.iload 4), 2, 0, 0),
  (25, (.bipush 14), 2, 0, 0),
  (27, (.if_icmp .ge 27), 3, 54, 0),
  (30, (.aload_n 0), 1, 0, 0),
  (31, (.getfield 21), 3, 0, 6),
  (34, (.iload_n 3), 1, 0, 0),
  (35, (.iload 4), 2, 0, 0),
  (37, .iadd, 1, 0, 0),
  (38, (.aload_n 0), 1, 0, 0),
  (39, (.getfield 21), 3, 0, 6),
  (42, (.iload_n 2), 1, 0, 0),
  (43, (.iload 4), 2, 0, 0),
  (45, .iadd, 1, 0, 0),
  (46, .iaload, 1, 0, 0),
  (47, .iastore, 1, 0, 0),
  (48, (.iinc 4 1), 3, 0, 0),
  (51, (.goto (-28)), 3, 23, 0),
  (54, (.aload_n 0), 1, 0, 0),
  (55, (.getfield 15), 3, 0, 4),
  (58, (.iload_n 1), 1, 0, 0),
  (59, (.iload_n 1), 1, 0, 0),
  (60, (.bipush 8), 2, 0, 0),
  (62, .imul, 1, 0, 0),
  (63, .iastore, 1, 0, 0),
  (64, (.aload_n 0), 1, 0, 0),
  (65, (.getfield 15), 3, 0, 4),
  (68, (.iload_n 1), 1, 0, 0),
  (69, (.iconst 1), 1, 0, 0),
  (70, .iadd, 1, 0, 0),
  (71, (.aload_n 0), 1, 0, 0),
  (72, (.getfield 42), 3, 0, 1),
  (75, (.aload_n 0), 1, 0, 0),
  (76, (.getfield 15), 3, 0, 4),
  (79, (.iload_n 1), 1, 0, 0),
  (80, .iaload, 1, 0, 0),
  (81, (.bipush 8), 2, 0, 0),
  (83, .iadd, 1, 0, 0),
  (84, (.invokestatic 98), 3, 226, 2),
  (87, .iastore, 1, 0, 0),
  (88, (.iconst 0), 1, 0, 0),
  (89, (.istore 4), 2, 0, 0),
  (91, (.aload_n 0), 1, 0, 0),
  (92, (.getfield 15), 3, 0, 4),
  (95, (.iload_n 1), 1, 0, 0),
  (96, .iaload, 1, 0, 0),
  (97, (.istore 5), 2, 0, 0),
  (99, (.iload 5), 2, 0, 0),
  (101, (.aload_n 0), 1, 0, 0),
  (102, (.getfield 15), 3, 0, 4),
  (105, (.iload_n 1), 1, 0, 0),
  (106, (.iconst 1), 1, 0, 0),
  (107, .iadd, 1, 0, 0),
  (108, .iaload, 1, 0, 0),
  (109, (.if_icmp .ge 69), 3, 178, 0),
  (112, (.aload_n 0), 1, 0, 0),
  (113, (.getfield 9), 3, 0, 0),
  (116, (.iload 5), 2, 0, 0),
  (118, .iaload, 1, 0, 0),
  (119, (.invokestatic 71), 3, 1, 1),
  (122, (.istore 6), 2, 0, 0),
  (124, (.iload 4), 2, 0, 0),
  (126, (.iload 6), 2, 0, 0),
  (128, .ior, 1, 0, 0),
  (129, (.istore 4), 2, 0, 0),
  (131, (.iconst 0), 1, 0, 0),
  (132, (.istore 7), 2, 0, 0),
  (134, (.iload 7), 2, 0, 0),
  (136, (.bipush 14), 2, 0, 0),
  (138, (.if_icmp .ge 34), 3, 172, 0),
  (141, (.iload 6), 2, 0, 0),
  (143, (.iload 7), 2, 0, 0),
  (145, .ishr, 1, 0, 0),
  (146, (.ifCond .le 26), 3, 172, 0),
  (149, (.aload_n 0), 1, 0, 0),
  (150, (.getfield 21), 3, 0, 6),
  (153, (.iload_n 3), 1, 0, 0),
  (154, (.iload 7), 2, 0, 0),
  (156, .iadd, 1, 0, 0),
  (157, .dup2, 1, 0, 0),
  (158, .iaload, 1, 0, 0),
  (159, (.iload 6), 2, 0, 0),
  (161, (.iload 7), 2, 0, 0),
  (163, .ishr, 1, 0, 0),
  (164, .iadd, 1, 0, 0),
  (165, .iastore, 1, 0, 0),
  (166, (.iinc 7 1), 3, 0, 0),
  (169, (.goto (-35)), 3, 134, 0),
  (172, (.iinc 5 1), 3, 0, 0),
  (175, (.goto (-76)), 3, 99, 0),
  (178, (.aload_n 0), 1, 0, 0),
  (179, (.getfield 18), 3, 0, 5),
  (182, (.iload_n 1), 1, 0, 0),
  (183, (.iload 4), 2, 0, 0),
  (185, (.invokestatic 101), 3, 8, 1),
  (188, .iastore, 1, 0, 0),
  (189, (.iinc 1 1), 3, 0, 0),
  (192, (.goto (-190)), 3, 2, 0),
  (195, .return_, 1, 0, 0)]
theorem mm_ck7 : mm_c7.all (mm_ckE 0 prog_2_method_8_code) = true := by decide +kernel
def mm_c8 : List (Nat × mm_E) := [
  (0, (.iconst 1), 1, 0, 0),
  (1, (.istore_n 1), 1, 0, 0),
  (2, (.iload_n 1), 1, 0, 0),
  (3, (.bipush 31), 2, 0, 0),
  (5, (.if_icmp .ge 15), 3, 20, 0),
  (8, (.iload_n 0), 1, 0, 0),
  (9, (.iload_n 1), 1, 0, 0),
  (10, .ishr, 1, 0, 0),
  (11, (.ifCond .le 9), 3, 20, 0),
  (14, (.iinc 1 1), 3, 0, 0),
  (17, (.goto (-15)), 3, 2, 0),
  (20, (.iload_n 1), 1, 0, 0),
  (21, .ireturn, 1, 0, 0)]
theorem mm_ck8 : mm_c8.all (mm_ckE 0 prog_2_method_9_code) = true := by decide +kernel
def mm_c9 : List (Nat × mm_E) := [
  (0, (.iload_n 1), 1, 0, 0),
  (1, (.bipush 14), 2, 0, 0),
  (3, .imul, 1, 0, 0),
  (4, (.istore 4), 2, 0, 0),
  (6, (.iload_n 2), 1, 0, 0),
  (7, (.bipush 14), 2, 0, 0),
  (9, .imul, 1, 0, 0),
  (10, (.istore 5), 2, 0, 0),
  (12, (.aload_n 0), 1, 0, 0),
  (13, (.getfield 21), 3, 0, 6),
  (16, (.iload 5), 2, 0, 0),
  (18, .iaload, 1, 0, 0),
  (19, (.aload_n 0), 1, 0, 0),
  (20, (.getfield 21), 3, 0, 6),
  (23, (.iload 4), 2, 0, 0),
  (25, .iaload, 1, 0, 0),
  (26, (.if_icmp .ne 16), 3, 42, 0),
  (29, (.aload_n 0), 1, 0, 0),
  (30, (.bipush 15), 2, 0, 0),
  (32, (.putfield 95), 3, 0, 13),
  (35, (.aload_n 0), 1, 0, 0),
  (36, (.bipush 7), 2, 0, 0),
  (38, (.putfield 92), 3, 0, 14),
  (41, .return_, 1, 0, 0),
  (42, (.aload_n 0), 1, 0, 0),
  (43, (.getfield 15), 3, 0, 4),
  (46, (.iload_n 2), 1, 0, 0),
  (47, .iaload, 1, 0, 0),
  (48, (.aload_n 0), 1, 0, 0),
  (49, (.getfield 15), 3, 0, 4),
  (52, (.iload_n 1), 1, 0, 0),
  (53, .iaload, 1, 0, 0),
  (54, .isub, 1, 0, 0),
  (55, (.istore 6), 2, 0, 0),
  (57, (.aload_n 0), 1, 0, 0),
  (58, (.bipush 14), 2, 0, 0),
  (60, (.putfield 95), 3, 0, 13),
  (63, (.aload_n 0), 1, 0, 0),
  (64, (.bipush 12), 2, 0, 0),
  (66, (.iload 6), 2, 0, 0),
  (68, (.iload_n 3), 1, 0, 0),
  (69, .imul, 1, 0, 0),
  (70, .iadd, 1, 0, 0),
  (71, (.putfield 92), 3, 0, 14),
  (74, (.bipush 13), 2, 0, 0),
  (76, (.istore 7), 2, 0, 0),
  (78, (.iload 7), 2, 0, 0),
  (80, (.ifCond .lt 68), 3, 148, 0),
  (83, (.aload_n 0), 1, 0, 0),
  (84, (.getfield 21), 3, 0, 6),
  (87, (.iload 5), 2, 0, 0),
  (89, (.iload 7), 2, 0, 0),
  (91, .iadd, 1, 0, 0),
  (92, .iaload, 1, 0, 0),
  (93, (.aload_n 0), 1, 0, 0),
  (94, (.getfield 21), 3, 0, 6),
  (97, (.iload 4), 2, 0, 0),
  (99, (.iload 7), 2, 0, 0),
  (101, .iadd, 1, 0, 0),
  (102, .iaload, 1, 0, 0),
  (103, .isub, 1, 0, 0),
  (104, (.istore 8), 2, 0, 0),
  (106, (.bipush 7), 2, 0, 0),
  (108, (.iload 8), 2, 0, 0),
  (110, .iadd, 1, 0, 0),
  (111, (.iload 6), 2, 0, 0),
  (113, (.iconst 1), 1, 0, 0),
  (114, (.iload 7), 2, 0, 0),
  (116, .iadd, 1, 0, 0),
  (117, .imul, 1, 0, 0),
  (118, .iadd, 1, 0, 0),
  (119, (.istore 9), 2, 0, 0),
  (121, (.iload 9), 2, 0, 0),
  (123, (.aload_n 0), 1, 0, 0),
  (124, (.getfield 92), 3, 0, 14),
  (127, (.if_icmp .gt 15), 3, 142, 0),
  (130, (.aload_n 0), 1, 0, 0),
  (131, (.iload 7), 2, 0, 0),
  (133, (.putfield 95), 3, 0, 13),
  (136, (.aload_n 0), 1, 0, 0),
  (137, (.iload 9), 2, 0, 0),
  (139, (.putfield 92), 3, 0, 14),
  (142, (.iinc 7 (-1)), 3, 0, 0),
  (145, (.goto (-67)), 3, 78, 0),
  (148, .return_, 1, 0, 0)]
theorem mm_ck9 : mm_c9.all (mm_ckE 0 prog_2_method_10_code) = true := by decide +kernel
def mm_c10 : List (Nat × mm_E) := [
  (0, (.aload_n 0), 1, 0, 0),
  (1, (.invokespecial 3), 3, 1004, 0),
  (4, (.aload_n 0), 1, 0, 0),
  (5, (.new 9), 3, 0, 15),
  (8, .dup, 1, 0, 0),
  (9, (.invokespecial 11), 3, 0, 1),
  (12, (.putfield 12), 3, 1, 0),
  (15, (.aload_n 0), 1, 0, 0),
  (16, (.new 18), 3, 4, 10),
  (19, .dup, 1, 0, 0),
  (20, (.invokespecial 20), 3, 39, 1),
  (23, (.putfield 21), 3, 1, 1),
  (26, (.aload_n 0), 1, 0, 0),
  (27, (.new 18), 3, 4, 10),
  (30, .dup, 1, 0, 0),
  (31, (.invokespecial 20), 3, 39, 1),
  (34, (.putfield 25), 3, 1, 2),
  (37, (.aload_n 0), 1, 0, 0),
  (38, (.new 18), 3, 4, 10),
  (41, .dup, 1, 0, 0),
  (42, (.invokespecial 20), 3, 39, 1),
  (45, (.putfield 28), 3, 1, 3),
  (48, (.aload_n 0), 1, 0, 0),
  (49, (.new 18), 3, 4, 10),
  (52, .dup, 1, 0, 0),
  (53, (.invokespecial 20), 3, 39, 1),
  (56, (.putfield 31), 3, 1, 4),
  (59, .return_, 1, 0, 0)]
theorem mm_ck10 : mm_c10.all (mm_ckE 1 prog_3_method_1_code) = true := by decide +kernel
def mm_c11 : List (Nat × mm_E) := [
  (0, (.iload 4), 2, 0, 0),
  (2, (.iload_n 3), 1, 0, 0),
  (3, .imul, 1, 0, 0),
  (4, (.istore 7), 2, 0, 0),
  (6, (.iconst 0), 1, 0, 0),
  (7, (.iload_n 3), 1, 0, 0),
  (8, (.bipush 64), 2, 0, 0),
  (10, (.invokestatic 34), 3, 226, 2),
  (13, (.aload_n 1), 1, 0, 0),
  (14, (.getfield 40), 3, 5, 1),
  (17, (.iconst 0), 1, 0, 0),
  (18, .iaload, 1, 0, 0),
  (19, (.iload 7), 2, 0, 0),
  (21, .isub, 1, 0, 0),
  (22, (.invokestatic 34), 3, 226, 2),
  (25, (.invokestatic 46), 3, 225, 2),
  (28, (.istore 8), 2, 0, 0),
  (30, (.aload_n 0), 1, 0, 0),
  (31, (.getfield 21), 3, 1, 1),
  (34, (.iload 8), 2, 0, 0),
  (36, (.aload_n 1), 1, 0, 0),
  (37, (.getfield 49), 3, 5, 3),
  (40, (.invokevirtual 53), 3, 40, 3),
  (43, (.iconst 0), 1, 0, 0),
  (44, (.istore 9), 2, 0, 0),
  (46, (.iload 9), 2, 0, 0),
  (48, (.iload 8), 2, 0, 0),
  (50, (.if_icmp .ge 29), 3, 79, 0),
  (53, (.aload_n 0), 1, 0, 0),
  (54, (.getfield 21), 3, 1, 1),
  (57, (.getfield 57), 3, 4, 0),
  (60, (.iload 9), 2, 0, 0),
  (62, (.aload_n 1), 1, 0, 0),
  (63, (.iconst 0), 1, 0, 0),
  (64, (.iload 7), 2, 0, 0),
  (66, (.iload 9), 2, 0, 0),
  (68, .iadd, 1, 0, 0),
  (69, (.invokevirtual 60), 3, 49, 3),
  (72, .iastore, 1, 0, 0),
  (73, (.iinc 9 1), 3, 0, 0),
  (76, (.goto (-30)), 3, 46, 0),
  (79, (.aload_n 0), 1, 0, 0),
  (80, (.getfield 21), 3, 1, 1),
  (83, (.aload_n 2), 1, 0, 0),
  (84, (.aload_n 0), 1, 0, 0),
  (85, (.getfield 12), 3, 1, 0),
  (88, (.iload 5), 2, 0, 0),
  (90, (.iload 6), 2, 0, 0),
  (92, (.invokevirtual 63), 3, 41, 5),
  (95, (.aload_n 0), 1, 0, 0),
  (96, (.aload_n 1), 1, 0, 0),
  (97, (.getfield 67), 3, 5, 2),
  (100, (.iconst 2), 1, 0, 0),
  (101, (.if_icmp .ne 7), 3, 108, 0),
  (104, (.iconst 1), 1, 0, 0),
  (105, (.goto 4), 3, 109, 0),
  (108, (.iconst 0), 1, 0, 0),
  (109, (.putfield 70), 3, 1, 5),
  (112, (.aload_n 0), 1, 0, 0),
  (113, (.iconst 0), 1, 0, 0),
  (114, (.putfield 74), 3, 1, 6),
  (117, (.aload_n 0), 1, 0, 0),
  (118, (.getfield 70), 3, 1, 5),
  (121, (.ifCond .eq 64), 3, 185, 0),
  (124, (.aload_n 0), 1, 0, 0),
  (125, (.aload_n 1), 1, 0, 0),
  (126, (.iload 7), 2, 0, 0),
  (128, (.iload 8), 2, 0, 0),
  (130, (.invokevirtual 77), 3, 12, 4),
  (133, (.aload_n 0), 1, 0, 0),
  (134, (.getfield 25), 3, 1, 2),
  (137, (.aload_n 2), 1, 0, 0),
  (138, (.aload_n 0), 1, 0, 0),
  (139, (.getfield 12), 3, 1, 0),
  (142, (.iload 5), 2, 0, 0),
  (144, (.iload 6), 2, 0, 0),
  (146, (.invokevirtual 63), 3, 41, 5),
  (149, (.aload_n 0), 1, 0, 0),
  (150, (.getfield 28), 3, 1, 3),
  (153, (.aload_n 2), 1, 0, 0),
  (154, (.aload_n 0), 1, 0, 0),
  (155, (.getfield 12), 3, 1, 0),
  (158, (.iload 5), 2, 0, 0),
  (160, (.iload 6), 2, 0, 0),
  (162, (.invokevirtual 63), 3, 41, 5),
  (165, (.aload_n 0), 1, 0, 0),
  (166, (.getfield 31), 3, 1, 4),
  (169, (.aload_n 2), 1, 0, 0),
  (170, (.aload_n 0), 1, 0, 0),
  (171, (.getfield 12), 3, 1, 0),
  (174, (.iload 5), 2, 0, 0),
  (176, (.iload 6), 2, 0, 0),
  (178, (.invokevirtual 63), 3, 41, 5),
  (181, (.aload_n 0), 1, 0, 0),
  (182, (.invokevirtual 81), 3, 13, 1),
  (185, .return_, 1, 0, 0)]
theorem mm_ck11 : mm_c11.all (mm_ckE 1 prog_3_method_2_code) = true := by decide +kernel
def mm_c12 : List (Nat × mm_E) := [
  (0, (.aload_n 0), 1, 0, 0),
  (1, (.getfield 25), 3, 1, 2),
  (4, (.iload_n 3), 1, 0, 0),
  (5, (.aload_n 1), 1, 0, 0),
  (6, (.getfield 49), 3, 5, 3),
  (9, (.invokevirtual 53), 3, 40, 3),
  (12, (.aload_n 0), 1, 0, 0),
  (13, (.getfield 28), 3, 1, 3),
  (16, (.iload_n 3), 1, 0, 0),
  (17, (.aload_n 1), 1, 0, 0),
  (18, (.getfield 49), 3, 5, 3),
  (21, (.iconst 1), 1, 0, 0),
  (22, .iadd, 1, 0, 0),
  (23, (.invokevirtual 53), 3, 40, 3),
  (26, (.aload_n 0), 1, 0, 0),
  (27, (.getfield 31), 3, 1, 4),
  (30, (.iload_n 3), 1, 0, 0),
  (31, (.aload_n 1), 1, 0, 0),
  (32, (.getfield 49), 3, 5, 3),
  (35, (.invokevirtual 53), 3, 40, 3),
  (38, (.iconst 0), 1, 0, 0),
  (39, (.istore 4), 2, 0, 0),
  (41, (.iload 4), 2, 0, 0),
  (43, (.iload_n 3), 1, 0, 0),
  (44, (.if_icmp .ge 76), 3, 120, 0),
  (47, (.aload_n 0), 1, 0, 0),
  (48, (.getfield 21), 3, 1, 1),
  (51, (.getfield 57), 3, 4, 0),
  (54, (.iload 4), 2, 0, 0),
  (56, .iaload, 1, 0, 0),
  (57, (.istore 5), 2, 0, 0),
  (59, (.aload_n 1), 1, 0, 0),
  (60, (.iconst 1), 1, 0, 0),
  (61, (.iload_n 2), 1, 0, 0),
  (62, (.iload 4), 2, 0, 0),
  (64, .iadd, 1, 0, 0),
  (65, (.invokevirtual 60), 3, 49, 3),
  (68, (.istore 6), 2, 0, 0),
  (70, (.aload_n 0), 1, 0, 0),
  (71, (.getfield 25), 3, 1, 2),
  (74, (.getfield 57), 3, 4, 0),
  (77, (.iload 4), 2, 0, 0),
  (79, (.iload 6), 2, 0, 0),
  (81, .iastore, 1, 0, 0),
  (82, (.aload_n 0), 1, 0, 0),
  (83, (.getfield 28), 3, 1, 3),
  (86, (.getfield 57), 3, 4, 0),
  (89, (.iload 4), 2, 0, 0),
  (91, (.iload 5), 2, 0, 0),
  (93, (.iload 6), 2, 0, 0),
  (95, .isub, 1, 0, 0),
  (96, .iastore, 1, 0, 0),
  (97, (.aload_n 0), 1, 0, 0),
  (98, (.getfield 31), 3, 1, 4),
  (101, (.getfield 57), 3, 4, 0),
  (104, (.iload 4), 2, 0, 0),
  (106, (.iload 5), 2, 0, 0),
  (108, (.iload 6), 2, 0, 0),
  (110, .iadd, 1, 0, 0),
  (111, (.iconst 1), 1, 0, 0),
  (112, .ishr, 1, 0, 0),
  (113, .iastore, 1, 0, 0),
  (114, (.iinc 4 1), 3, 0, 0),
  (117, (.goto (-76)), 3, 41, 0),
  (120, .return_, 1, 0, 0)]
theorem mm_ck12 : mm_c12.all (mm_ckE 1 prog_3_method_3_code) = true := by decide +kernel
def mm_c13 : List (Nat × mm_E) := [
  (0, (.iconst 1), 1, 0, 0),
  (1, (.istore_n 1), 1, 0, 0),
  (2, (.iload_n 1), 1, 0, 0),
  (3, (.iconst 4), 1, 0, 0),
  (4, (.if_icmp .ge 30), 3, 34, 0),
  (7, (.aload_n 0), 1, 0, 0),
  (8, (.iload_n 1), 1, 0, 0),
  (9, (.invokevirtual 84), 3, 16, 2),
  (12, (.aload_n 0), 1, 0, 0),
  (13, (.aload_n 0), 1, 0, 0),
  (14, (.getfield 74), 3, 1, 6),
  (17, (.invokevirtual 84), 3, 16, 2),
  (20, (.if_icmp .ge 8), 3, 28, 0),
  (23, (.aload_n 0), 1, 0, 0),
  (24, (.iload_n 1), 1, 0, 0),
  (25, (.putfield 74), 3, 1, 6),
  (28, (.iinc 1 1), 3, 0, 0),
  (31, (.goto (-29)), 3, 2, 0),
  (34, .return_, 1, 0, 0)]
theorem mm_ck13 : mm_c13.all (mm_ckE 1 prog_3_method_4_code) = true := by decide +kernel
def mm_c14 : List (Nat × mm_E) := [
  (0, (.iload_n 1), 1, 0, 0),
  (1, (.iconst 2), 1, 0, 0),
  (2, (.if_icmp .ne 10), 3, 12, 0),
  (5, (.aload_n 0), 1, 0, 0),
  (6, (.getfield 28), 3, 1, 3),
  (9, (.goto 19), 3, 28, 0),
  (12, (.iload_n 1), 1, 0, 0),
  (13, (.iconst 3), 1, 0, 0),
  (14, (.if_icmp .ne 10), 3, 24, 0),
  (17, (.aload_n 0), 1, 0, 0),
  (18, (.getfield 31), 3, 1, 4),
  (21, (.goto 7), 3, 28, 0),
  (24, (.aload_n 0), 1, 0, 0),
  (25, (.getfield 21), 3, 1, 1),
  (28, .areturn, 1, 0, 0)]
theorem mm_ck14 : mm_c14.all (mm_ckE 1 prog_3_method_5_code) = true := by decide +kernel
def mm_c15 : List (Nat × mm_E) := [
  (0, (.iload_n 1), 1, 0, 0),
  (1, (.ifCond .eq 8), 3, 9, 0),
  (4, (.iload_n 1), 1, 0, 0),
  (5, (.iconst 2), 1, 0, 0),
  (6, (.if_icmp .ne 10), 3, 16, 0),
  (9, (.aload_n 0), 1, 0, 0),
  (10, (.getfield 25), 3, 1, 2),
  (13, (.goto 7), 3, 20, 0),
  (16, (.aload_n 0), 1, 0, 0),
  (17, (.getfield 28), 3, 1, 3),
  (20, .areturn, 1, 0, 0)]
theorem mm_ck15 : mm_c15.all (mm_ckE 1 prog_3_method_6_code) = true := by decide +kernel
def mm_c16 : List (Nat × mm_E) := [
  (0, (.aload_n 0), 1, 0, 0),
  (1, (.iload_n 1), 1, 0, 0),
  (2, (.invokevirtual 88), 3, 14, 2),
  (5, (.getfield 92), 3, 4, 4),
  (8, (.istore_n 2), 1, 0, 0),
  (9, (.aload_n 0), 1, 0, 0),
  (10, (.getfield 70), 3, 1, 5),
  (13, (.ifCond .eq 16), 3, 29, 0),
  (16, (.iload_n 2), 1, 0, 0),
  (17, (.aload_n 0), 1, 0, 0),
  (18, (.iload_n 1), 1, 0, 0),
  (19, (.invokevirtual 95), 3, 15, 2),
  (22, (.getfield 92), 3, 4, 4),
  (25, .iadd, 1, 0, 0),
  (26, (.goto 4), 3, 30, 0),
  (29, (.iload_n 2), 1, 0, 0),
  (30, .ireturn, 1, 0, 0)]
theorem mm_ck16 : mm_c16.all (mm_ckE 1 prog_3_method_7_code) = true := by decide +kernel
def mm_c17 : List (Nat × mm_E) := [
  (0, (.aload_n 0), 1, 0, 0),
  (1, (.getfield 70), 3, 1, 5),
  (4, (.ifCond .eq 16), 3, 20, 0),
  (7, (.iconst 2), 1, 0, 0),
  (8, (.aload_n 0), 1, 0, 0),
  (9, (.aload_n 0), 1, 0, 0),
  (10, (.getfield 74), 3, 1, 6),
  (13, (.invokevirtual 84), 3, 16, 2),
  (16, .iadd, 1, 0, 0),
  (17, (.goto 11), 3, 28, 0),
  (20, (.aload_n 0), 1, 0, 0),
  (21, (.aload_n 0), 1, 0, 0),
  (22, (.getfield 74), 3, 1, 6),
  (25, (.invokevirtual 84), 3, 16, 2),
  (28, .ireturn, 1, 0, 0)]
theorem mm_ck17 : mm_c17.all (mm_ckE 1 prog_3_method_8_code) = true := by decide +kernel
def mm_c18 : List (Nat × mm_E) := [
  (0, (.aload_n 0), 1, 0, 0),
  (1, (.invokespecial 3), 3, 1004, 0),
  (4, (.aload_n 0), 1, 0, 0),
  (5, (.bipush 32), 2, 0, 0),
  (7, (.newarray .int), 2, 100, 0),
  (9, .dup, 1, 0, 0),
  (10, (.iconst 0), 1, 0, 0),
  (11, (.iconst 0), 1, 0, 0),
  (12, .iastore, 1, 0, 0),
  (13, .dup, 1, 0, 0),
  (14, (.iconst 1), 1, 0, 0),
  (15, (.iconst 0), 1, 0, 0),
  (16, .iastore, 1, 0, 0),
  (17, .dup, 1, 0, 0),
  (18, (.iconst 2), 1, 0, 0),
  (19, (.iconst 0), 1, 0, 0),
  (20, .iastore, 1, 0, 0),
  (21, .dup, 1, 0, 0),
  (22, (.iconst 3), 1, 0, 0),
  (23, (.iconst 0), 1, 0, 0),
  (24, .iastore, 1, 0, 0),
  (25, .dup, 1, 0, 0),
  (26, (.iconst 4), 1, 0, 0),
  (27, (.iconst 1), 1, 0, 0),
  (28, .iastore, 1, 0, 0),
  (29, .dup, 1, 0, 0),
  (30, (.iconst 5), 1, 0, 0),
  (31, (.iconst 0), 1, 0, 0),
  (32, .iastore, 1, 0, 0),
  (33, .dup, 1, 0, 0),
  (34, (.bipush 6), 2, 0, 0),
  (36, (.iconst 0), 1, 0, 0),
  (37, .iastore, 1, 0, 0),
  (38, .dup, 1, 0, 0),
  (39, (.bipush 7), 2, 0, 0),
  (41, (.iconst 0), 1, 0, 0),
  (42, .iastore, 1, 0, 0),
  (43, .dup, 1, 0, 0),
  (44, (.bipush 8), 2, 0, 0),
  (46, (.iconst 2), 1, 0, 0),
  (47, .iastore, 1, 0, 0),
  (48, .dup, 1, 0, 0),
  (49, (.bipush 9), 2, 0, 0),
  (51, (.iconst (-1)), 1, 0, 0),
  (52, .iastore, 1, 0, 0),
  (53, .dup, 1, 0, 0),
  (54, (.bipush 10), 2, 0, 0),
  (56, (.iconst 0), 1, 0, 0),
  (57, .iastore, 1, 0, 0),
  (58, .dup, 1, 0, 0),
  (59, (.bipush 11), 2, 0, 0),
  (61, (.iconst 0), 1, 0, 0),
  (62, .iastore, 1, 0, 0),
  (63, .dup, 1, 0, 0),
  (64, (.bipush 12), 2, 0, 0),
  (66, (.iconst 3), 1, 0, 0),
  (67, .iastore, 1, 0, 0),
  (68, .dup, 1, 0, 0),
  (69, (.bipush 13), 2, 0, 0),
  (71, (.bipush (-3)), 2, 0, 0),
  (73, .iastore, 1, 0, 0),
  (74, .dup, 1, 0, 0),
  (75, (.bipush 14), 2, 0, 0),
  (77, (.iconst 1), 1, 0, 0),
  (78, .iastore, 1, 0, 0),
  (79, .dup, 1, 0, 0),
  (80, (.bipush 15), 2, 0, 0),
  (82, (.iconst 0), 1, 0, 0),
  (83, .iastore, 1, 0, 0),
  (84, .dup, 1, 0, 0),
  (85, (.bipush 16), 2, 0, 0),
  (87, (.iconst 4), 1, 0, 0),
  (88, .iastore, 1, 0, 0),
  (89, .dup, 1, 0, 0),
  (90, (.bipush 17), 2, 0, 0),
  (92, (.bipush (-6)), 2, 0, 0),
  (94, .iastore, 1, 0, 0),
  (95, .dup, 1, 0, 0),
  (96, (.bipush 18), 2, 0, 0),
  (98, (.iconst 4), 1, 0, 0),
  (99, .iastore, 1, 0, 0),
  (100, .dup, 1, 0, 0),
  (101, (.bipush 19), 2, 0, 0),
  (103, (.iconst (-1)), 1, 0, 0),
  (104, .iastore, 1, 0, 0),
  (105, .dup, 1, 0, 0),
  (106, (.bipush 20), 2, 0, 0),
  (108, (.iconst 0), 1, 0, 0),
  (109, .iastore, 1, 0, 0),
  (110, .dup, 1, 0, 0),
  (111, (.bipush 21), 2, 0, 0),
  (113, (.iconst 0), 1, 0, 0),
  (114, .iastore, 1, 0, 0),
  (115, .dup, 1, 0, 0),
  (116, (.bipush 22), 2, 0, 0),
  (118, (.iconst 0), 1, 0, 0),
  (119, .iastore, 1, 0, 0),
  (120, .dup, 1, 0, 0),
  (121, (.bipush 23), 2, 0, 0),
  (123, (.iconst 0), 1, 0, 0),
  (124, .iastore, 1, 0, 0),
  (125, .dup, 1, 0, 0),
  (126, (.bipush 24), 2, 0, 0),
  (128, (.iconst 0), 1, 0, 0),
  (129, .iastore, 1, 0, 0),
  (130, .dup, 1, 0, 0),
  (131, (.bipush 25), 2, 0, 0),
  (133, (.iconst 0), 1, 0, 0),
  (134, .iastore, 1, 0, 0),
  (135, .dup, 1, 0, 0),
  (136, (.bipush 26), 2, 0, 0),
  (138, (.iconst 0), 1, 0, 0),
  (139, .iastore, 1, 0, 0),
  (140, .dup, 1, 0, 0),
  (141, (.bipush 27), 2, 0, 0),
  (143, (.iconst 0), 1, 0, 0),
  (144, .iastore, 1, 0, 0),
  (145, .dup, 1, 0, 0),
  (146, (.bipush 28), 2, 0, 0),
  (148, (.iconst 0), 1, 0, 0),
  (149, .iastore, 1, 0, 0),
  (150, .dup, 1, 0, 0),
  (151, (.bipush 29), 2, 0, 0),
  (153, (.iconst 0), 1, 0, 0),
  (154, .iastore, 1, 0, 0),
  (155, .dup, 1, 0, 0),
  (156, (.bipush 30), 2, 0, 0),
  (158, (.iconst 0), 1, 0, 0),
  (159, .iastore, 1, 0, 0),
  (160, .dup, 1, 0, 0),
  (161, (.bipush 31), 2, 0, 0),
  (163, (.iconst 0), 1, 0, 0),
  (164, .iastore, 1, 0, 0),
  (165, (.putfield 9), 3, 2, 0),
  (168, (.aload_n 0), 1, 0, 0),
  (169, (.bipush 8), 2, 0, 0),
  (171, (.newarray .int), 2, 100, 0),
  (173, .dup, 1, 0, 0),
  (174, (.iconst 0), 1, 0, 0),
  (175, (.iconst 0), 1, 0, 0),
  (176, .iastore, 1, 0, 0),
  (177, .dup, 1, 0, 0),
  (178, (.iconst 1), 1, 0, 0),
  (179, (.iconst 1), 1, 0, 0),
  (180, .iastore, 1, 0, 0),
  (181, .dup, 1, 0, 0),
  (182, (.iconst 2), 1, 0, 0),
  (183, (.iconst 2), 1, 0, 0),
  (184, .iastore, 1, 0, 0),
  (185, .dup, 1, 0, 0),
  (186, (.iconst 3), 1, 0, 0),
  (187, (.iconst 3), 1, 0, 0),
  (188, .iastore, 1, 0, 0),
  (189, .dup, 1, 0, 0),
  (190, (.iconst 4), 1, 0, 0),
  (191, (.iconst 4), 1, 0, 0),
  (192, .iastore, 1, 0, 0),
  (193, .dup, 1, 0, 0),
  (194, (.iconst 5), 1, 0, 0),
  (195, (.iconst 0), 1, 0, 0),
  (196, .iastore, 1, 0, 0),
  (197, .dup, 1, 0, 0),
  (198, (.bipush 6), 2, 0, 0),
  (200, (.iconst 0), 1, 0, 0),
  (201, .iastore, 1, 0, 0),
  (202, .dup, 1, 0, 0),
  (203, (.bipush 7), 2, 0, 0),
  (205, (.iconst 0), 1, 0, 0),
  (206, .iastore, 1, 0, 0),
  (207, (.putfield 15), 3, 2, 1),
  (210, (.aload_n 0), 1, 0, 0),
  (211, (.bipush 8), 2, 0, 0),
  (213, (.newarray .int), 2, 100, 0),
  (215, (.putfield 18), 3, 2, 2),
  (218, .return_, 1, 0, 0)]
theorem mm_ck18 : mm_c18.all (mm_ckE 2 prog_4_method_1_code) = true := by decide +kernel
def mm_c19 : List (Nat × mm_E) := [
  (0, (.iconst 5), 1, 0, 0),
  (1, (.istore_n 1), 1, 0, 0),
  (2, (.iload_n 1), 1, 0, 0),
  (3, (.bipush 8), 2, 0, 0),
  (5, (.if_icmp .ge 18), 3, 23, 0),
  (8, (.aload_n 0), 1, 0, 0),
  (9, (.iload_n 1), 1, 0, 0),
  (10, (.iconst 0), 1, 0, 0),
  (11, (.iconst 0), 1, 0, 0),
  (12, (.iconst 0), 1, 0, 0),
  (13, (.iconst 0), 1, 0, 0),
  (14, (.invokevirtual 21), 3, 20, 6),
  (17, (.iinc 1 1), 3, 0, 0),
  (20, (.goto (-18)), 3, 2, 0),
  (23, .return_, 1, 0, 0)]
theorem mm_ck19 : mm_c19.all (mm_ckE 2 prog_4_method_2_code) = true := by decide +kernel
def mm_c20 : List (Nat × mm_E) := [
  (0, (.iload_n 1), 1, 0, 0),
  (1, (.iconst 5), 1, 0, 0),
  (2, (.if_icmp .lt 9), 3, 11, 0),
  (5, (.iload_n 1), 1, 0, 0),
  (6, (.bipush 8), 2, 0, 0),
  (8, (.if_icmp .lt 4), 3, 12, 0),
  (11, .return_, 1, 0, 0),
  (12, (.aload_n 0), 1, 0, 0),
  (13, (.getfield 9), 3, 2, 0),
  (16, (.iload_n 1), 1, 0, 0),
  (17, (.iconst 4), 1, 0, 0),
  (18, .imul, 1, 0, 0),
  (19, (.iload_n 2), 1, 0, 0),
  (20, .iastore, 1, 0, 0),
  (21, (.aload_n 0), 1, 0, 0),
  (22, (.getfield 9), 3, 2, 0),
  (25, (.iload_n 1), 1, 0, 0),
  (26, (.iconst 4), 1, 0, 0),
  (27, .imul, 1, 0, 0),
  (28, (.iconst 1), 1, 0, 0),
  (29, .iadd, 1, 0, 0),
  (30, (.iload_n 3), 1, 0, 0),
  (31, .iastore, 1, 0, 0),
  (32, (.aload_n 0), 1, 0, 0),
  (33, (.getfield 9), 3, 2, 0),
  (36, (.iload_n 1), 1, 0, 0),
  (37, (.iconst 4), 1, 0, 0),
  (38, .imul, 1, 0, 0),
  (39, (.iconst 2), 1, 0, 0),
  (40, .iadd, 1, 0, 0),
  (41, (.iload 4), 2, 0, 0),
  (43, .iastore, 1, 0, 0),
  (44, (.aload_n 0), 1, 0, 0),
  (45, (.getfield 18), 3, 2, 2),
  (48, (.iload_n 1), 1, 0, 0),
  (49, (.iload 5), 2, 0, 0),
  (51, .iastore, 1, 0, 0),
  (52, (.aload_n 0), 1, 0, 0),
  (53, (.getfield 15), 3, 2, 1),
  (56, (.iload_n 1), 1, 0, 0),
  (57, (.iload 4), 2, 0, 0),
  (59, (.ifCond .eq 7), 3, 66, 0),
  (62, (.iconst 3), 1, 0, 0),
  (63, (.goto 20), 3, 83, 0),
  (66, (.iload_n 3), 1, 0, 0),
  (67, (.ifCond .eq 7), 3, 74, 0),
  (70, (.iconst 2), 1, 0, 0),
  (71, (.goto 12), 3, 83, 0),
  (74, (.iload_n 2), 1, 0, 0),
  (75, (.ifCond .eq 7), 3, 82, 0),
  (78, (.iconst 1), 1, 0, 0),
  (79, (.goto 4), 3, 83, 0),
  (82, (.iconst 0), 1, 0, 0),
  (83, .iastore, 1, 0, 0),
  (84, .return_, 1, 0, 0)]
theorem mm_ck20 : mm_c20.all (mm_ckE 2 prog_4_method_3_code) = true := by decide +kernel
def mm_c21 : List (Nat × mm_E) := [
  (0, (.aload_n 0), 1, 0, 0),
  (1, (.getfield 9), 3, 2, 0),
  (4, (.iload_n 1), 1, 0, 0),
  (5, (.iconst 4), 1, 0, 0),
  (6, .imul, 1, 0, 0),
  (7, (.iload_n 2), 1, 0, 0),
  (8, .iadd, 1, 0, 0),
  (9, .iaload, 1, 0, 0),
  (10, .ireturn, 1, 0, 0)]
theorem mm_ck21 : mm_c21.all (mm_ckE 2 prog_4_method_4_code) = true := by decide +kernel
def mm_c22 : List (Nat × mm_E) := [
  (0, (.iconst 0), 1, 0, 0),
  (1, (.istore 4), 2, 0, 0),
  (3, (.aload_n 0), 1, 0, 0),
  (4, (.getfield 15), 3, 2, 1),
  (7, (.iload_n 1), 1, 0, 0),
  (8, .iaload, 1, 0, 0),
  (9, (.istore 5), 2, 0, 0),
  (11, (.iconst 1), 1, 0, 0),
  (12, (.istore 6), 2, 0, 0),
  (14, (.iload 6), 2, 0, 0),
  (16, (.iload 5), 2, 0, 0),
  (18, (.if_icmp .gt 40), 3, 58, 0),
  (21, (.iload 6), 2, 0, 0),
  (23, (.iload_n 3), 1, 0, 0),
  (24, (.if_icmp .gt 34), 3, 58, 0),
  (27, (.iload 4), 2, 0, 0),
  (29, (.aload_n 0), 1, 0, 0),
  (30, (.getfield 9), 3, 2, 0),
  (33, (.iload_n 1), 1, 0, 0),
  (34, (.iconst 4), 1, 0, 0),
  (35, .imul, 1, 0, 0),
  (36, (.iload 6), 2, 0, 0),
  (38, .iadd, 1, 0, 0),
  (39, (.iconst 1), 1, 0, 0),
  (40, .isub, 1, 0, 0),
  (41, .iaload, 1, 0, 0),
  (42, (.aload_n 2), 1, 0, 0),
  (43, (.iload_n 3), 1, 0, 0),
  (44, (.iload 6), 2, 0, 0),
  (46, .isub, 1, 0, 0),
  (47, .iaload, 1, 0, 0),
  (48, .imul, 1, 0, 0),
  (49, .iadd, 1, 0, 0),
  (50, (.istore 4), 2, 0, 0),
  (52, (.iinc 6 1), 3, 0, 0),
  (55, (.goto (-41)), 3, 14, 0),
  (58, (.iload 4), 2, 0, 0),
  (60, (.aload_n 0), 1, 0, 0),
  (61, (.getfield 18), 3, 2, 2),
  (64, (.iload_n 1), 1, 0, 0),
  (65, .iaload, 1, 0, 0),
  (66, .ishr, 1, 0, 0),
  (67, .ireturn, 1, 0, 0)]
theorem mm_ck22 : mm_c22.all (mm_ckE 2 prog_4_method_5_code) = true := by decide +kernel
def mm_c23 : List (Nat × mm_E) := [
  (0, (.aload_n 0), 1, 0, 0),
  (1, (.invokespecial 3), 3, 1004, 0),
  (4, (.aload_n 0), 1, 0, 0),
  (5, (.new 9), 3, 6, 3),
  (8, .dup, 1, 0, 0),
  (9, (.invokespecial 11), 3, 56, 1),
  (12, (.putfield 12), 3, 3, 0),
  (15, (.aload_n 0), 1, 0, 0),
  (16, (.new 18), 3, 2, 3),
  (19, .dup, 1, 0, 0),
  (20, (.invokespecial 20), 3, 18, 1),
  (23, (.putfield 21), 3, 3, 1),
  (26, (.aload_n 0), 1, 0, 0),
  (27, (.bipush 64), 2, 0, 0),
  (29, (.newarray .int), 2, 100, 0),
  (31, (.putfield 25), 3, 3, 8),
  (34, (.aload_n 0), 1, 0, 0),
  (35, (.bipush 64), 2, 0, 0),
  (37, (.newarray .int), 2, 100, 0),
  (39, (.putfield 29), 3, 3, 9),
  (42, (.aload_n 0), 1, 0, 0),
  (43, (.bipush 16), 2, 0, 0),
  (45, (.newarray .int), 2, 100, 0),
  (47, (.putfield 32), 3, 3, 10),
  (50, (.aload_n 0), 1, 0, 0),
  (51, (.bipush 16), 2, 0, 0),
  (53, (.newarray .int), 2, 100, 0),
  (55, (.putfield 35), 3, 3, 11),
  (58, (.aload_n 0), 1, 0, 0),
  (59, (.sipush 512), 3, 0, 0),
  (62, (.newarray .int), 2, 100, 0),
  (64, (.putfield 38), 3, 3, 12),
  (67, .return_, 1, 0, 0)]
theorem mm_ck23 : mm_c23.all (mm_ckE 3 prog_5_method_1_code) = true := by decide +kernel
def mm_c24 : List (Nat × mm_E) := [
  (0, (.aload_n 0), 1, 0, 0),
  (1, (.getfield 12), 3, 3, 0),
  (4, (.getfield 41), 3, 6, 1),
  (7, (.bipush 21), 2, 0, 0),
  (9, (.if_icmp .ge 5), 3, 14, 0),
  (12, (.iconst 1), 1, 0, 0),
  (13, .ireturn, 1, 0, 0),
  (14, (.aload_n 0), 1, 0, 0),
  (15, (.getfield 12), 3, 3, 0),
  (18, (.getfield 45), 3, 6, 0),
  (21, (.astore_n 1), 1, 0, 0),
  (22, (.aload_n 1), 1, 0, 0),
  (23, (.iconst 0), 1, 0, 0),
  (24, .iaload, 1, 0, 0),
  (25, (.bipush 83), 2, 0, 0),
  (27, (.if_icmp .ne 11), 3, 38, 0),
  (30, (.aload_n 1), 1, 0, 0),
  (31, (.iconst 1), 1, 0, 0),
  (32, .iaload, 1, 0, 0),
  (33, (.bipush 80), 2, 0, 0),
  (35, (.if_icmp .eq 5), 3, 40, 0),
  (38, (.iconst 2), 1, 0, 0),
  (39, .ireturn, 1, 0, 0),
  (40, (.aload_n 0), 1, 0, 0),
  (41, (.aload_n 1), 1, 0, 0),
  (42, (.iconst 2), 1, 0, 0),
  (43, .iaload, 1, 0, 0),
  (44, (.putfield 48), 3, 3, 2),
  (47, (.aload_n 0), 1, 0, 0),
  (48, (.aload_n 1), 1, 0, 0),
  (49, (.iconst 3), 1, 0, 0),
  (50, .iaload, 1, 0, 0),
  (51, (.putfield 51), 3, 3, 3),
  (54, (.aload_n 0), 1, 0, 0),
  (55, (.aload_n 1), 1, 0, 0),
  (56, (.iconst 4), 1, 0, 0),
  (57, .iaload, 1, 0, 0),
  (58, (.putfield 54), 3, 3, 4),
  (61, (.aload_n 0), 1, 0, 0),
  (62, (.aload_n 1), 1, 0, 0),
  (63, (.iconst 5), 1, 0, 0),
  (64, .iaload, 1, 0, 0),
  (65, (.sipush 256), 3, 0, 0),
  (68, .imul, 1, 0, 0),
  (69, (.aload_n 1), 1, 0, 0),
  (70, (.bipush 6), 2, 0, 0),
  (72, .iaload, 1, 0, 0),
  (73, .iadd, 1, 0, 0),
  (74, (.putfield 57), 3, 3, 5),
  (77, (.aload_n 0), 1, 0, 0),
  (78, (.getfield 48), 3, 3, 2),
  (81, (.iconst 1), 1, 0, 0),
  (82, (.if_icmp .lt 45), 3, 127, 0),
  (85, (.aload_n 0), 1, 0, 0),
  (86, (.getfield 48), 3, 3, 2),
  (89, (.iconst 2), 1, 0, 0),
  (90, (.if_icmp .gt 37), 3, 127, 0),
  (93, (.aload_n 0), 1, 0, 0),
  (94, (.getfield 51), 3, 3, 3),
  (97, (.invokestatic 60), 3, 117, 1),
  (100, (.ifCond .eq 27), 3, 127, 0),
  (103, (.aload_n 0), 1, 0, 0),
  (104, (.getfield 54), 3, 3, 4),
  (107, (.invokestatic 64), 3, 118, 1),
  (110, (.ifCond .eq 17), 3, 127, 0),
  (113, (.aload_n 0), 1, 0, 0),
  (114, (.getfield 57), 3, 3, 5),
  (117, (.sipush 256), 3, 0, 0),
  (120, (.if_icmp .gt 7), 3, 127, 0),
  (123, (.iconst 1), 1, 0, 0),
  (124, (.goto 4), 3, 128, 0),
  (127, (.iconst 0), 1, 0, 0),
  (128, (.istore_n 2), 1, 0, 0),
  (129, (.iconst 5), 1, 0, 0),
  (130, (.istore_n 3), 1, 0, 0),
  (131, (.iload_n 3), 1, 0, 0),
  (132, (.bipush 8), 2, 0, 0),
  (134, (.if_icmp .ge 74), 3, 208, 0),
  (137, (.bipush 7), 2, 0, 0),
  (139, (.iload_n 3), 1, 0, 0),
  (140, (.iconst 5), 1, 0, 0),
  (141, .isub, 1, 0, 0),
  (142, (.iconst 4), 1, 0, 0),
  (143, .imul, 1, 0, 0),
  (144, .iadd, 1, 0, 0),
  (145, (.istore 4), 2, 0, 0),
  (147, (.iload_n 2), 1, 0, 0),
  (148, (.ifCond .eq 19), 3, 167, 0),
  (151, (.aload_n 1), 1, 0, 0),
  (152, (.iload 4), 2, 0, 0),
  (154, (.iconst 3), 1, 0, 0),
  (155, .iadd, 1, 0, 0),
  (156, .iaload, 1, 0, 0),
  (157, (.invokestatic 67), 3, 119, 1),
  (160, (.ifCond .eq 7), 3, 167, 0),
  (163, (.iconst 1), 1, 0, 0),
  (164, (.goto 4), 3, 168, 0),
  (167, (.iconst 0), 1, 0, 0),
  (168, (.istore_n 2), 1, 0, 0),
  (169, (.aload_n 0), 1, 0, 0),
  (170, (.getfield 21), 3, 3, 1),
  (173, (.iload_n 3), 1, 0, 0),
  (174, (.aload_n 1), 1, 0, 0),
  (175, (.iload 4), 2, 0, 0),
  (177, .iaload, 1, 0, 0),
  (178, .i2b, 1, 0, 0),
  (179, (.aload_n 1), 1, 0, 0),
  (180, (.iload 4), 2, 0, 0),
  (182, (.iconst 1), 1, 0, 0),
  (183, .iadd, 1, 0, 0),
  (184, .iaload, 1, 0, 0),
  (185, .i2b, 1, 0, 0),
  (186, (.aload_n 1), 1, 0, 0),
  (187, (.iload 4), 2, 0, 0),
  (189, (.iconst 2), 1, 0, 0),
  (190, .iadd, 1, 0, 0),
  (191, .iaload, 1, 0, 0),
  (192, .i2b, 1, 0, 0),
  (193, (.aload_n 1), 1, 0, 0),
  (194, (.iload 4), 2, 0, 0),
  (196, (.iconst 3), 1, 0, 0),
  (197, .iadd, 1, 0, 0),
  (198, .iaload, 1, 0, 0),
  (199, (.invokevirtual 70), 3, 20, 6),
  (202, (.iinc 3 1), 3, 0, 0),
  (205, (.goto (-74)), 3, 131, 0),
  (208, (.iload_n 2), 1, 0, 0),
  (209, (.ifCond .ne 5), 3, 214, 0),
  (212, (.iconst 3), 1, 0, 0),
  (213, .ireturn, 1, 0, 0),
  (214, (.aload_n 0), 1, 0, 0),
  (215, (.getfield 12), 3, 3, 0),
  (218, (.iconst 0), 1, 0, 0),
  (219, (.bipush 19), 2, 0, 0),
  (221, (.invokevirtual 74), 3, 63, 3),
  (224, (.ifCond .eq 7), 3, 231, 0),
  (227, (.iconst 0), 1, 0, 0),
  (228, (.goto 4), 3, 232, 0),
  (231, (.iconst 4), 1, 0, 0),
  (232, .ireturn, 1, 0, 0)]
theorem mm_ck24 : mm_c24.all (mm_ckE 3 prog_5_method_2_code) = true := by decide +kernel
end
section
def mm_c25 : List (Nat × mm_E) := [
  (0, (.aload_n 0), 1, 0, 0),
  (1, (.getfield 54), 3, 3, 4),
  (4, (.ifCond .le 22), 3, 26, 0),
  (7, (.aload_n 0), 1, 0, 0),
  (8, (.getfield 57), 3, 3, 5),
  (11, (.aload_n 0), 1, 0, 0),
  (12, (.getfield 54), 3, 3, 4),
  (15, .iadd, 1, 0, 0),
  (16, (.iconst 1), 1, 0, 0),
  (17, .isub, 1, 0, 0),
  (18, (.aload_n 0), 1, 0, 0),
  (19, (.getfield 54), 3, 3, 4),
  (22, .idiv, 1, 0, 0),
  (23, (.goto 4), 3, 27, 0),
  (26, (.iconst 0), 1, 0, 0),
  (27, .ireturn, 1, 0, 0)]
theorem mm_ck25 : mm_c25.all (mm_ckE 3 prog_5_method_3_code) = true := by decide +kernel
def mm_c26 : List (Nat × mm_E) := [
  (0, (.aload_n 0), 1, 0, 0),
  (1, (.getfield 12), 3, 3, 0),
  (4, (.iload_n 1), 1, 0, 0),
  (5, (.invokevirtual 78), 3, 57, 2),
  (8, (.ifCond .eq 31), 3, 39, 0),
  (11, (.aload_n 0), 1, 0, 0),
  (12, (.getfield 12), 3, 3, 0),
  (15, (.iload_n 1), 1, 0, 0),
  (16, (.iconst 1), 1, 0, 0),
  (17, .iadd, 1, 0, 0),
  (18, (.invokevirtual 78), 3, 57, 2),
  (21, (.ifCond .eq 18), 3, 39, 0),
  (24, (.aload_n 0), 1, 0, 0),
  (25, (.getfield 12), 3, 3, 0),
  (28, (.getfield 45), 3, 6, 0),
  (31, (.iload_n 1), 1, 0, 0),
  (32, .iaload, 1, 0, 0),
  (33, (.sipush 165), 3, 0, 0),
  (36, (.if_icmp .eq 5), 3, 41, 0),
  (39, (.iconst (-1)), 1, 0, 0),
  (40, .ireturn, 1, 0, 0),
  (41, (.aload_n 0), 1, 0, 0),
  (42, (.getfield 12), 3, 3, 0),
  (45, (.getfield 45), 3, 6, 0),
  (48, (.iload_n 1), 1, 0, 0),
  (49, (.iconst 1), 1, 0, 0),
  (50, .iadd, 1, 0, 0),
  (51, .iaload, 1, 0, 0),
  (52, (.istore_n 2), 1, 0, 0),
  (53, (.iload_n 2), 1, 0, 0),
  (54, (.aload_n 0), 1, 0, 0),
  (55, (.invokevirtual 81), 3, 25, 1),
  (58, (.if_icmp .ge 7), 3, 65, 0),
  (61, (.iload_n 2), 1, 0, 0),
  (62, (.goto 4), 3, 66, 0),
  (65, (.iconst (-1)), 1, 0, 0),
  (66, .ireturn, 1, 0, 0)]
theorem mm_ck26 : mm_c26.all (mm_ckE 3 prog_5_method_4_code) = true := by decide +kernel
def mm_c27 : List (Nat × mm_E) := [
  (0, (.aload_n 0), 1, 0, 0),
  (1, (.iload_n 1), 1, 0, 0),
  (2, (.invokevirtual 85), 3, 26, 2),
  (5, (.istore_n 2), 1, 0, 0),
  (6, (.iload_n 2), 1, 0, 0),
  (7, (.iconst (-1)), 1, 0, 0),
  (8, (.if_icmp .ne 5), 3, 13, 0),
  (11, (.iconst (-1)), 1, 0, 0),
  (12, .ireturn, 1, 0, 0),
  (13, (.aload_n 0), 1, 0, 0),
  (14, (.getfield 54), 3, 3, 4),
  (17, (.aload_n 0), 1, 0, 0),
  (18, (.getfield 57), 3, 3, 5),
  (21, (.iload_n 2), 1, 0, 0),
  (22, (.aload_n 0), 1, 0, 0),
  (23, (.getfield 54), 3, 3, 4),
  (26, .imul, 1, 0, 0),
  (27, .isub, 1, 0, 0),
  (28, (.invokestatic 89), 3, 226, 2),
  (31, (.istore_n 3), 1, 0, 0),
  (32, (.aload_n 0), 1, 0, 0),
  (33, (.iload_n 1), 1, 0, 0),
  (34, (.iconst 2), 1, 0, 0),
  (35, .iadd, 1, 0, 0),
  (36, (.bipush 8), 2, 0, 0),
  (38, .imul, 1, 0, 0),
  (39, (.putfield 95), 3, 3, 6),
  (42, (.aload_n 0), 1, 0, 0),
  (43, (.iconst 0), 1, 0, 0),
  (44, (.putfield 98), 3, 3, 7),
  (47, (.aload_n 0), 1, 0, 0),
  (48, (.getfield 48), 3, 3, 2),
  (51, (.iconst 2), 1, 0, 0),
  (52, (.if_icmp .ne 11), 3, 63, 0),
  (55, (.aload_n 0), 1, 0, 0),
  (56, (.iconst 2), 1, 0, 0),
  (57, (.invokevirtual 102), 3, 28, 2),
  (60, (.goto 4), 3, 64, 0),
  (63, (.iconst 0), 1, 0, 0),
  (64, (.istore 4), 2, 0, 0),
  (66, (.aload_n 0), 1, 0, 0),
  (67, (.aload_n 0), 1, 0, 0),
  (68, (.getfield 25), 3, 3, 8),
  (71, (.iload_n 3), 1, 0, 0),
  (72, (.iload 4), 2, 0, 0),
  (74, (.iconst 2), 1, 0, 0),
  (75, (.if_icmp .ne 12), 3, 87, 0),
  (78, (.aload_n 0), 1, 0, 0),
  (79, (.getfield 51), 3, 3, 3),
  (82, (.iconst 1), 1, 0, 0),
  (83, .iadd, 1, 0, 0),
  (84, (.goto 7), 3, 91, 0),
  (87, (.aload_n 0), 1, 0, 0),
  (88, (.getfield 51), 3, 3, 3),
  (91, (.invokevirtual 105), 3, 31, 4),
  (94, (.aload_n 0), 1, 0, 0),
  (95, (.getfield 48), 3, 3, 2),
  (98, (.iconst 2), 1, 0, 0),
  (99, (.if_icmp .ne 37), 3, 136, 0),
  (102, (.aload_n 0), 1, 0, 0),
  (103, (.aload_n 0), 1, 0, 0),
  (104, (.getfield 29), 3, 3, 9),
  (107, (.iload_n 3), 1, 0, 0),
  (108, (.iload 4), 2, 0, 0),
  (110, (.iconst 1), 1, 0, 0),
  (111, (.if_icmp .eq 9), 3, 120, 0),
  (114, (.iload 4), 2, 0, 0),
  (116, (.iconst 3), 1, 0, 0),
  (117, (.if_icmp .ne 12), 3, 129, 0),
  (120, (.aload_n 0), 1, 0, 0),
  (121, (.getfield 51), 3, 3, 3),
  (124, (.iconst 1), 1, 0, 0),
  (125, .iadd, 1, 0, 0),
  (126, (.goto 7), 3, 133, 0),
  (129, (.aload_n 0), 1, 0, 0),
  (130, (.getfield 51), 3, 3, 3),
  (133, (.invokevirtual 105), 3, 31, 4),
  (136, (.aload_n 0), 1, 0, 0),
  (137, (.getfield 95), 3, 3, 6),
  (140, (.bipush 7), 2, 0, 0),
  (142, .iadd, 1, 0, 0),
  (143, (.bipush 8), 2, 0, 0),
  (145, .idiv, 1, 0, 0),
  (146, (.istore 5), 2, 0, 0),
  (148, (.aload_n 0), 1, 0, 0),
  (149, (.getfield 98), 3, 3, 7),
  (152, (.ifCond .ne 16), 3, 168, 0),
  (155, (.aload_n 0), 1, 0, 0),
  (156, (.getfield 12), 3, 3, 0),
  (159, (.iload_n 1), 1, 0, 0),
  (160, (.iload 5), 2, 0, 0),
  (162, (.invokevirtual 74), 3, 63, 3),
  (165, (.ifCond .ne 5), 3, 170, 0),
  (168, (.iconst (-1)), 1, 0, 0),
  (169, .ireturn, 1, 0, 0),
  (170, (.aload_n 0), 1, 0, 0),
  (171, (.iload 4), 2, 0, 0),
  (173, (.iload_n 3), 1, 0, 0),
  (174, (.invokevirtual 109), 3, 34, 3),
  (177, (.aload_n 0), 1, 0, 0),
  (178, (.aload_n 0), 1, 0, 0),
  (179, (.getfield 25), 3, 3, 8),
  (182, (.iload_n 3), 1, 0, 0),
  (183, (.invokevirtual 113), 3, 35, 3),
  (186, (.ifCond .eq 23), 3, 209, 0),
  (189, (.aload_n 0), 1, 0, 0),
  (190, (.getfield 48), 3, 3, 2),
  (193, (.iconst 2), 1, 0, 0),
  (194, (.if_icmp .ne 17), 3, 211, 0),
  (197, (.aload_n 0), 1, 0, 0),
  (198, (.aload_n 0), 1, 0, 0),
  (199, (.getfield 29), 3, 3, 9),
  (202, (.iload_n 3), 1, 0, 0),
  (203, (.invokevirtual 113), 3, 35, 3),
  (206, (.ifCond .ne 5), 3, 211, 0),
  (209, (.iconst (-1)), 1, 0, 0),
  (210, .ireturn, 1, 0, 0),
  (211, (.iload 5), 2, 0, 0),
  (213, (.iconst 2), 1, 0, 0),
  (214, .iadd, 1, 0, 0),
  (215, (.iload_n 1), 1, 0, 0),
  (216, .isub, 1, 0, 0),
  (217, .ireturn, 1, 0, 0)]
theorem mm_ck27 : mm_c27.all (mm_ckE 3 prog_5_method_5_code) = true := by decide +kernel
def mm_c28 : List (Nat × mm_E) := [
  (0, (.aload_n 0), 1, 0, 0),
  (1, (.getfield 98), 3, 3, 7),
  (4, (.ifCond .ne 22), 3, 26, 0),
  (7, (.iload_n 1), 1, 0, 0),
  (8, (.aload_n 0), 1, 0, 0),
  (9, (.getfield 12), 3, 3, 0),
  (12, (.getfield 41), 3, 6, 1),
  (15, (.bipush 8), 2, 0, 0),
  (17, .imul, 1, 0, 0),
  (18, (.aload_n 0), 1, 0, 0),
  (19, (.getfield 95), 3, 3, 6),
  (22, .isub, 1, 0, 0),
  (23, (.if_icmp .le 10), 3, 33, 0),
  (26, (.aload_n 0), 1, 0, 0),
  (27, (.iconst 1), 1, 0, 0),
  (28, (.putfield 98), 3, 3, 7),
  (31, (.iconst 0), 1, 0, 0),
  (32, .ireturn, 1, 0, 0),
  (33, (.iconst 0), 1, 0, 0),
  (34, (.istore_n 2), 1, 0, 0),
  (35, (.iconst 0), 1, 0, 0),
  (36, (.istore_n 3), 1, 0, 0),
  (37, (.iload_n 3), 1, 0, 0),
  (38, (.iload_n 1), 1, 0, 0),
  (39, (.if_icmp .ge 51), 3, 90, 0),
  (42, (.iload_n 2), 1, 0, 0),
  (43, (.iconst 1), 1, 0, 0),
  (44, .ishl, 1, 0, 0),
  (45, (.aload_n 0), 1, 0, 0),
  (46, (.getfield 12), 3, 3, 0),
  (49, (.getfield 45), 3, 6, 0),
  (52, (.aload_n 0), 1, 0, 0),
  (53, (.getfield 95), 3, 3, 6),
  (56, (.iconst 3), 1, 0, 0),
  (57, .ishr, 1, 0, 0),
  (58, .iaload, 1, 0, 0),
  (59, (.bipush 7), 2, 0, 0),
  (61, (.aload_n 0), 1, 0, 0),
  (62, (.getfield 95), 3, 3, 6),
  (65, (.bipush 7), 2, 0, 0),
  (67, .iand, 1, 0, 0),
  (68, .isub, 1, 0, 0),
  (69, .ishr, 1, 0, 0),
  (70, (.iconst 1), 1, 0, 0),
  (71, .iand, 1, 0, 0),
  (72, .ior, 1, 0, 0),
  (73, (.istore_n 2), 1, 0, 0),
  (74, (.aload_n 0), 1, 0, 0),
  (75, .dup, 1, 0, 0),
  (76, (.getfield 95), 3, 3, 6),
  (79, (.iconst 1), 1, 0, 0),
  (80, .iadd, 1, 0, 0),
  (81, (.putfield 95), 3, 3, 6),
  (84, (.iinc 3 1), 3, 0, 0),
  (87, (.goto (-50)), 3, 37, 0),
  (90, (.iload_n 2), 1, 0, 0),
  (91, .ireturn, 1, 0, 0)]
theorem mm_ck28 : mm_c28.all (mm_ckE 3 prog_5_method_6_code) = true := by decide +kernel
def mm_c29 : List (Nat × mm_E) := [
  (0, (.aload_n 0), 1, 0, 0),
  (1, (.iload_n 1), 1, 0, 0),
  (2, (.invokevirtual 102), 3, 28, 2),
  (5, (.istore_n 2), 1, 0, 0),
  (6, (.iload_n 1), 1, 0, 0),
  (7, (.iconst 1), 1, 0, 0),
  (8, (.if_icmp .ge 7), 3, 15, 0),
  (11, (.iconst 0), 1, 0, 0),
  (12, (.goto 14), 3, 26, 0),
  (15, (.iload_n 2), 1, 0, 0),
  (16, (.bipush 32), 2, 0, 0),
  (18, (.iload_n 1), 1, 0, 0),
  (19, .isub, 1, 0, 0),
  (20, .ishl, 1, 0, 0),
  (21, (.bipush 32), 2, 0, 0),
  (23, (.iload_n 1), 1, 0, 0),
  (24, .isub, 1, 0, 0),
  (25, .ishr, 1, 0, 0),
  (26, .ireturn, 1, 0, 0)]
theorem mm_ck29 : mm_c29.all (mm_ckE 3 prog_5_method_7_code) = true := by decide +kernel
def mm_c30 : List (Nat × mm_E) := [
  (0, (.iconst 0), 1, 0, 0),
  (1, (.istore_n 2), 1, 0, 0),
  (2, (.iload_n 2), 1, 0, 0),
  (3, (.sipush 32000), 3, 0, 0),
  (6, (.if_icmp .ge 24), 3, 30, 0),
  (9, (.aload_n 0), 1, 0, 0),
  (10, (.getfield 98), 3, 3, 7),
  (13, (.ifCond .ne 17), 3, 30, 0),
  (16, (.aload_n 0), 1, 0, 0),
  (17, (.iconst 1), 1, 0, 0),
  (18, (.invokevirtual 102), 3, 28, 2),
  (21, (.ifCond .ne 9), 3, 30, 0),
  (24, (.iinc 2 1), 3, 0, 0),
  (27, (.goto (-25)), 3, 2, 0),
  (30, (.iload_n 2), 1, 0, 0),
  (31, (.iload_n 1), 1, 0, 0),
  (32, .ishl, 1, 0, 0),
  (33, (.aload_n 0), 1, 0, 0),
  (34, (.iload_n 1), 1, 0, 0),
  (35, (.invokevirtual 102), 3, 28, 2),
  (38, .iadd, 1, 0, 0),
  (39, (.istore_n 3), 1, 0, 0),
  (40, (.iload_n 3), 1, 0, 0),
  (41, (.iconst 1), 1, 0, 0),
  (42, .iand, 1, 0, 0),
  (43, (.ifCond .ne 9), 3, 52, 0),
  (46, (.iload_n 3), 1, 0, 0),
  (47, (.iconst 1), 1, 0, 0),
  (48, .ishr, 1, 0, 0),
  (49, (.goto 9), 3, 58, 0),
  (52, (.iload_n 3), 1, 0, 0),
  (53, (.iconst 1), 1, 0, 0),
  (54, .ishr, 1, 0, 0),
  (55, .ineg, 1, 0, 0),
  (56, (.iconst 1), 1, 0, 0),
  (57, .isub, 1, 0, 0),
  (58, .ireturn, 1, 0, 0)]
theorem mm_ck30 : mm_c30.all (mm_ckE 3 prog_5_method_8_code) = true := by decide +kernel
def mm_c31 : List (Nat × mm_E) := [
  (0, (.aload_n 0), 1, 0, 0),
  (1, (.iconst 4), 1, 0, 0),
  (2, (.invokevirtual 102), 3, 28, 2),
  (5, (.istore 4), 2, 0, 0),
  (7, (.iload 4), 2, 0, 0),
  (9, (.bipush 9), 2, 0, 0),
  (11, (.if_icmp .le 11), 3, 22, 0),
  (14, (.aload_n 0), 1, 0, 0),
  (15, (.iconst 1), 1, 0, 0),
  (16, (.putfield 98), 3, 3, 7),
  (19, (.goto 104), 3, 123, 0),
  (22, (.iload 4), 2, 0, 0),
  (24, (.bipush 8), 2, 0, 0),
  (26, (.if_icmp .ne 34), 3, 60, 0),
  (29, (.aload_n 0), 1, 0, 0),
  (30, (.iload_n 3), 1, 0, 0),
  (31, (.invokevirtual 117), 3, 29, 2),
  (34, (.istore 5), 2, 0, 0),
  (36, (.iconst 0), 1, 0, 0),
  (37, (.istore 6), 2, 0, 0),
  (39, (.iload 6), 2, 0, 0),
  (41, (.iload_n 2), 1, 0, 0),
  (42, (.if_icmp .ge 15), 3, 57, 0),
  (45, (.aload_n 1), 1, 0, 0),
  (46, (.iload 6), 2, 0, 0),
  (48, (.iload 5), 2, 0, 0),
  (50, .iastore, 1, 0, 0),
  (51, (.iinc 6 1), 3, 0, 0),
  (54, (.goto (-15)), 3, 39, 0),
  (57, (.goto 66), 3, 123, 0),
  (60, (.iload 4), 2, 0, 0),
  (62, (.bipush 9), 2, 0, 0),
  (64, (.if_icmp .ne 13), 3, 77, 0),
  (67, (.aload_n 0), 1, 0, 0),
  (68, (.aload_n 1), 1, 0, 0),
  (69, (.iload_n 2), 1, 0, 0),
  (70, (.iload_n 3), 1, 0, 0),
  (71, (.invokevirtual 120), 3, 32, 4),
  (74, (.goto 49), 3, 123, 0),
  (77, (.aload_n 0), 1, 0, 0),
  (78, (.getfield 21), 3, 3, 1),
  (81, (.getfield 123), 3, 2, 1),
  (84, (.iload 4), 2, 0, 0),
  (86, .iaload, 1, 0, 0),
  (87, (.iload_n 2), 1, 0, 0),
  (88, (.if_icmp .lt 11), 3, 99, 0),
  (91, (.aload_n 0), 1, 0, 0),
  (92, (.iconst 1), 1, 0, 0),
  (93, (.putfield 98), 3, 3, 7),
  (96, (.goto 27), 3, 123, 0),
  (99, (.aload_n 0), 1, 0, 0),
  (100, (.aload_n 1), 1, 0, 0),
  (101, (.aload_n 0), 1, 0, 0),
  (102, (.getfield 21), 3, 3, 1),
  (105, (.getfield 123), 3, 2, 1),
  (108, (.iload 4), 2, 0, 0),
  (110, .iaload, 1, 0, 0),
  (111, (.iload_n 3), 1, 0, 0),
  (112, (.invokevirtual 120), 3, 32, 4),
  (115, (.aload_n 0), 1, 0, 0),
  (116, (.aload_n 1), 1, 0, 0),
  (117, (.iload_n 2), 1, 0, 0),
  (118, (.iload 4), 2, 0, 0),
  (120, (.invokevirtual 126), 3, 33, 4),
  (123, .return_, 1, 0, 0)]
theorem mm_ck31 : mm_c31.all (mm_ckE 3 prog_5_method_9_code) = true := by decide +kernel
def mm_c32 : List (Nat × mm_E) := [
  (0, (.iconst 0), 1, 0, 0),
  (1, (.istore 4), 2, 0, 0),
  (3, (.iload 4), 2, 0, 0),
  (5, (.iload_n 2), 1, 0, 0),
  (6, (.if_icmp .ge 18), 3, 24, 0),
  (9, (.aload_n 1), 1, 0, 0),
  (10, (.iload 4), 2, 0, 0),
  (12, (.aload_n 0), 1, 0, 0),
  (13, (.iload_n 3), 1, 0, 0),
  (14, (.invokevirtual 117), 3, 29, 2),
  (17, .iastore, 1, 0, 0),
  (18, (.iinc 4 1), 3, 0, 0),
  (21, (.goto (-18)), 3, 3, 0),
  (24, .return_, 1, 0, 0)]
theorem mm_ck32 : mm_c32.all (mm_ckE 3 prog_5_method_10_code) = true := by decide +kernel
def mm_c33 : List (Nat × mm_E) := [
  (0, (.aload_n 0), 1, 0, 0),
  (1, (.getfield 21), 3, 3, 1),
  (4, (.getfield 123), 3, 2, 1),
  (7, (.iload_n 3), 1, 0, 0),
  (8, .iaload, 1, 0, 0),
  (9, (.istore 4), 2, 0, 0),
  (11, (.iload_n 2), 1, 0, 0),
  (12, (.iload 4), 2, 0, 0),
  (14, .isub, 1, 0, 0),
  (15, (.bipush 8), 2, 0, 0),
  (17, .iadd, 1, 0, 0),
  (18, (.iconst 1), 1, 0, 0),
  (19, .isub, 1, 0, 0),
  (20, (.bipush 8), 2, 0, 0),
  (22, .idiv, 1, 0, 0),
  (23, (.istore 5), 2, 0, 0),
  (25, (.iconst 0), 1, 0, 0),
  (26, (.istore 6), 2, 0, 0),
  (28, (.iload 6), 2, 0, 0),
  (30, (.bipush 8), 2, 0, 0),
  (32, (.if_icmp .ge 159), 3, 191, 0),
  (35, (.iload 5), 2, 0, 0),
  (37, (.ifCond .le 154), 3, 191, 0),
  (40, (.aload_n 0), 1, 0, 0),
  (41, (.getfield 98), 3, 3, 7),
  (44, (.ifCond .ne 147), 3, 191, 0),
  (47, (.aload_n 0), 1, 0, 0),
  (48, (.iconst 3), 1, 0, 0),
  (49, (.invokevirtual 102), 3, 28, 2),
  (52, (.iconst 1), 1, 0, 0),
  (53, .iadd, 1, 0, 0),
  (54, (.istore 7), 2, 0, 0),
  (56, (.aload_n 0), 1, 0, 0),
  (57, (.iconst 4), 1, 0, 0),
  (58, (.invokevirtual 102), 3, 28, 2),
  (61, (.istore 8), 2, 0, 0),
  (63, (.iload 7), 2, 0, 0),
  (65, (.iload 5), 2, 0, 0),
  (67, (.if_icmp .le 9), 3, 76, 0),
  (70, (.aload_n 0), 1, 0, 0),
  (71, (.iconst 1), 1, 0, 0),
  (72, (.putfield 98), 3, 3, 7),
  (75, .return_, 1, 0, 0),
  (76, (.iload_n 2), 1, 0, 0),
  (77, (.iload 4), 2, 0, 0),
  (79, (.iload 7), 2, 0, 0),
  (81, (.bipush 8), 2, 0, 0),
  (83, .imul, 1, 0, 0),
  (84, .iadd, 1, 0, 0),
  (85, (.invokestatic 89), 3, 226, 2),
  (88, (.istore 9), 2, 0, 0),
  (90, (.iload 8), 2, 0, 0),
  (92, (.bipush 14), 2, 0, 0),
  (94, (.if_icmp .ne 11), 3, 105, 0),
  (97, (.aload_n 0), 1, 0, 0),
  (98, (.iconst 5), 1, 0, 0),
  (99, (.invokevirtual 102), 3, 28, 2),
  (102, (.goto 4), 3, 106, 0),
  (105, (.iconst 0), 1, 0, 0),
  (106, (.istore 10), 2, 0, 0),
  (108, (.iload 4), 2, 0, 0),
  (110, (.istore 11), 2, 0, 0),
  (112, (.iload 11), 2, 0, 0),
  (114, (.iload 9), 2, 0, 0),
  (116, (.if_icmp .ge 58), 3, 174, 0),
  (119, (.aload_n 0), 1, 0, 0),
  (120, (.getfield 98), 3, 3, 7),
  (123, (.ifCond .ne 51), 3, 174, 0),
  (126, (.iload 8), 2, 0, 0),
  (128, (.bipush 14), 2, 0, 0),
  (130, (.if_icmp .ge 12), 3, 142, 0),
  (133, (.aload_n 0), 1, 0, 0),
  (134, (.iload 8), 2, 0, 0),
  (136, (.invokevirtual 129), 3, 30, 2),
  (139, (.goto 9), 3, 148, 0),
  (142, (.aload_n 0), 1, 0, 0),
  (143, (.iload 10), 2, 0, 0),
  (145, (.invokevirtual 117), 3, 29, 2),
  (148, (.istore 12), 2, 0, 0),
  (150, (.aload_n 1), 1, 0, 0),
  (151, (.iload 11), 2, 0, 0),
  (153, (.aload_n 0), 1, 0, 0),
  (154, (.getfield 21), 3, 3, 1),
  (157, (.iload_n 3), 1, 0, 0),
  (158, (.aload_n 1), 1, 0, 0),
  (159, (.iload 11), 2, 0, 0),
  (161, (.invokevirtual 132), 3, 22, 4),
  (164, (.iload 12), 2, 0, 0),
  (166, .iadd, 1, 0, 0),
  (167, .iastore, 1, 0, 0),
  (168, (.iinc 11 1), 3, 0, 0),
  (171, (.goto (-59)), 3, 112, 0),
  (174, (.iload 9), 2, 0, 0),
  (176, (.istore 4), 2, 0, 0),
  (178, (.iload 5), 2, 0, 0),
  (180, (.iload 7), 2, 0, 0),
  (182, .isub, 1, 0, 0),
  (183, (.istore 5), 2, 0, 0),
  (185, (.iinc 6 1), 3, 0, 0),
  (188, (.goto (-160)), 3, 28, 0),
  (191, .return_, 1, 0, 0)]
theorem mm_ck33 : mm_c33.all (mm_ckE 3 prog_5_method_11_code) = true := by decide +kernel
def mm_c34 : List (Nat × mm_E) := [
  (0, (.iconst 0), 1, 0, 0),
  (1, (.istore_n 3), 1, 0, 0),
  (2, (.iload_n 3), 1, 0, 0),
  (3, (.iload_n 2), 1, 0, 0),
  (4, (.if_icmp .ge 103), 3, 107, 0),
  (7, (.aload_n 0), 1, 0, 0),
  (8, (.getfield 25), 3, 3, 8),
  (11, (.iload_n 3), 1, 0, 0),
  (12, .iaload, 1, 0, 0),
  (13, (.istore 4), 2, 0, 0),
  (15, (.aload_n 0), 1, 0, 0),
  (16, (.getfield 29), 3, 3, 9),
  (19, (.iload_n 3), 1, 0, 0),
  (20, .iaload, 1, 0, 0),
  (21, (.istore 5), 2, 0, 0),
  (23, (.iload_n 1), 1, 0, 0),
  (24, (.iconst 1), 1, 0, 0),
  (25, (.if_icmp .ne 17), 3, 42, 0),
  (28, (.aload_n 0), 1, 0, 0),
  (29, (.getfield 29), 3, 3, 9),
  (32, (.iload_n 3), 1, 0, 0),
  (33, (.iload 4), 2, 0, 0),
  (35, (.iload 5), 2, 0, 0),
  (37, .isub, 1, 0, 0),
  (38, .iastore, 1, 0, 0),
  (39, (.goto 62), 3, 101, 0),
  (42, (.iload_n 1), 1, 0, 0),
  (43, (.iconst 2), 1, 0, 0),
  (44, (.if_icmp .ne 17), 3, 61, 0),
  (47, (.aload_n 0), 1, 0, 0),
  (48, (.getfield 25), 3, 3, 8),
  (51, (.iload_n 3), 1, 0, 0),
  (52, (.iload 4), 2, 0, 0),
  (54, (.iload 5), 2, 0, 0),
  (56, .iadd, 1, 0, 0),
  (57, .iastore, 1, 0, 0),
  (58, (.goto 43), 3, 101, 0),
  (61, (.iload_n 1), 1, 0, 0),
  (62, (.iconst 3), 1, 0, 0),
  (63, (.if_icmp .ne 38), 3, 101, 0),
  (66, (.aload_n 0), 1, 0, 0),
  (67, (.getfield 25), 3, 3, 8),
  (70, (.iload_n 3), 1, 0, 0),
  (71, (.iconst 2), 1, 0, 0),
  (72, (.iload 4), 2, 0, 0),
  (74, .imul, 1, 0, 0),
  (75, (.iload 5), 2, 0, 0),
  (77, (.iconst 1), 1, 0, 0),
  (78, .iand, 1, 0, 0),
  (79, .iadd, 1, 0, 0),
  (80, (.iload 5), 2, 0, 0),
  (82, .iadd, 1, 0, 0),
  (83, (.iconst 1), 1, 0, 0),
  (84, .ishr, 1, 0, 0),
  (85, .iastore, 1, 0, 0),
  (86, (.aload_n 0), 1, 0, 0),
  (87, (.getfield 29), 3, 3, 9),
  (90, (.iload_n 3), 1, 0, 0),
  (91, (.aload_n 0), 1, 0, 0),
  (92, (.getfield 25), 3, 3, 8),
  (95, (.iload_n 3), 1, 0, 0),
  (96, .iaload, 1, 0, 0),
  (97, (.iload 5), 2, 0, 0),
  (99, .isub, 1, 0, 0),
  (100, .iastore, 1, 0, 0),
  (101, (.iinc 3 1), 3, 0, 0),
  (104, (.goto (-102)), 3, 2, 0),
  (107, .return_, 1, 0, 0)]
theorem mm_ck34 : mm_c34.all (mm_ckE 3 prog_5_method_12_code) = true := by decide +kernel
def mm_c35 : List (Nat × mm_E) := [
  (0, (.aload_n 0), 1, 0, 0),
  (1, (.getfield 51), 3, 3, 3),
  (4, (.bipush 8), 2, 0, 0),
  (6, (.if_icmp .ne 9), 3, 15, 0),
  (9, (.sipush 128), 3, 0, 0),
  (12, (.goto 5), 3, 17, 0),
  (15, (.ldc 136), 2, 32768, 0),
  (17, (.istore_n 3), 1, 0, 0),
  (18, (.iconst 0), 1, 0, 0),
  (19, (.istore 4), 2, 0, 0),
  (21, (.iload 4), 2, 0, 0),
  (23, (.iload_n 2), 1, 0, 0),
  (24, (.if_icmp .ge 28), 3, 52, 0),
  (27, (.aload_n 1), 1, 0, 0),
  (28, (.iload 4), 2, 0, 0),
  (30, .iaload, 1, 0, 0),
  (31, (.iload_n 3), 1, 0, 0),
  (32, .ineg, 1, 0, 0),
  (33, (.if_icmp .lt 11), 3, 44, 0),
  (36, (.aload_n 1), 1, 0, 0),
  (37, (.iload 4), 2, 0, 0),
  (39, .iaload, 1, 0, 0),
  (40, (.iload_n 3), 1, 0, 0),
  (41, (.if_icmp .lt 5), 3, 46, 0),
  (44, (.iconst 0), 1, 0, 0),
  (45, .ireturn, 1, 0, 0),
  (46, (.iinc 4 1), 3, 0, 0),
  (49, (.goto (-28)), 3, 21, 0),
  (52, (.iconst 1), 1, 0, 0),
  (53, .ireturn, 1, 0, 0)]
theorem mm_ck35 : mm_c35.all (mm_ckE 3 prog_5_method_13_code) = true := by decide +kernel
def mm_c36 : List (Nat × mm_E) := [
  (0, (.aload_n 0), 1, 0, 0),
  (1, (.invokevirtual 137), 3, 37, 1),
  (4, (.iconst 0), 1, 0, 0),
  (5, (.istore_n 1), 1, 0, 0),
  (6, (.bipush 21), 2, 0, 0),
  (8, (.istore_n 2), 1, 0, 0),
  (9, (.bipush 21), 2, 0, 0),
  (11, (.istore_n 3), 1, 0, 0),
  (12, (.iload_n 3), 1, 0, 0),
  (13, (.aload_n 0), 1, 0, 0),
  (14, (.getfield 12), 3, 3, 0),
  (17, (.getfield 41), 3, 6, 1),
  (20, (.if_icmp .ge 73), 3, 93, 0),
  (23, (.iload_n 3), 1, 0, 0),
  (24, (.iload_n 2), 1, 0, 0),
  (25, (.if_icmp .ge 7), 3, 32, 0),
  (28, (.iconst (-1)), 1, 0, 0),
  (29, (.goto 8), 3, 37, 0),
  (32, (.aload_n 0), 1, 0, 0),
  (33, (.iload_n 3), 1, 0, 0),
  (34, (.invokevirtual 85), 3, 26, 2),
  (37, (.istore 4), 2, 0, 0),
  (39, (.iload 4), 2, 0, 0),
  (41, (.iconst (-1)), 1, 0, 0),
  (42, (.if_icmp .eq 9), 3, 51, 0),
  (45, (.iload 4), 2, 0, 0),
  (47, (.iload_n 1), 1, 0, 0),
  (48, (.if_icmp .ge 7), 3, 55, 0),
  (51, (.iconst (-1)), 1, 0, 0),
  (52, (.goto 8), 3, 60, 0),
  (55, (.aload_n 0), 1, 0, 0),
  (56, (.iload_n 3), 1, 0, 0),
  (57, (.invokevirtual 140), 3, 27, 2),
  (60, (.istore 5), 2, 0, 0),
  (62, (.iload 5), 2, 0, 0),
  (64, (.iconst (-1)), 1, 0, 0),
  (65, (.if_icmp .eq 22), 3, 87, 0),
  (68, (.aload_n 0), 1, 0, 0),
  (69, (.iload 4), 2, 0, 0),
  (71, (.iload_n 3), 1, 0, 0),
  (72, (.iload 5), 2, 0, 0),
  (74, (.invokevirtual 143), 3, 38, 4),
  (77, (.iload 4), 2, 0, 0),
  (79, (.iconst 1), 1, 0, 0),
  (80, .iadd, 1, 0, 0),
  (81, (.istore_n 1), 1, 0, 0),
  (82, (.iload_n 3), 1, 0, 0),
  (83, (.iload 5), 2, 0, 0),
  (85, .iadd, 1, 0, 0),
  (86, (.istore_n 2), 1, 0, 0),
  (87, (.iinc 3 1), 3, 0, 0),
  (90, (.goto (-78)), 3, 12, 0),
  (93, .return_, 1, 0, 0)]
theorem mm_ck36 : mm_c36.all (mm_ckE 3 prog_5_method_14_code) = true := by decide +kernel
def mm_c37 : List (Nat × mm_E) := [
  (0, (.iconst 0), 1, 0, 0),
  (1, (.istore_n 1), 1, 0, 0),
  (2, (.iload_n 1), 1, 0, 0),
  (3, (.bipush 16), 2, 0, 0),
  (5, (.if_icmp .ge 23), 3, 28, 0),
  (8, (.aload_n 0), 1, 0, 0),
  (9, (.getfield 32), 3, 3, 10),
  (12, (.iload_n 1), 1, 0, 0),
  (13, (.iconst (-1)), 1, 0, 0),
  (14, .iastore, 1, 0, 0),
  (15, (.aload_n 0), 1, 0, 0),
  (16, (.getfield 35), 3, 3, 11),
  (19, (.iload_n 1), 1, 0, 0),
  (20, (.iconst (-1)), 1, 0, 0),
  (21, .iastore, 1, 0, 0),
  (22, (.iinc 1 1), 3, 0, 0),
  (25, (.goto (-23)), 3, 2, 0),
  (28, (.iconst 0), 1, 0, 0),
  (29, (.istore_n 1), 1, 0, 0),
  (30, (.iload_n 1), 1, 0, 0),
  (31, (.aload_n 0), 1, 0, 0),
  (32, (.getfield 38), 3, 3, 12),
  (35, .arraylength, 1, 0, 0),
  (36, (.if_icmp .ge 16), 3, 52, 0),
  (39, (.aload_n 0), 1, 0, 0),
  (40, (.getfield 38), 3, 3, 12),
  (43, (.iload_n 1), 1, 0, 0),
  (44, (.iconst 0), 1, 0, 0),
  (45, .iastore, 1, 0, 0),
  (46, (.iinc 1 1), 3, 0, 0),
  (49, (.goto (-19)), 3, 30, 0),
  (52, .return_, 1, 0, 0)]
theorem mm_ck37 : mm_c37.all (mm_ckE 3 prog_5_method_15_code) = true := by decide +kernel
def mm_c38 : List (Nat × mm_E) := [
  (0, (.aload_n 0), 1, 0, 0),
  (1, (.getfield 32), 3, 3, 10),
  (4, (.iload_n 1), 1, 0, 0),
  (5, (.iload_n 2), 1, 0, 0),
  (6, .iastore, 1, 0, 0),
  (7, (.aload_n 0), 1, 0, 0),
  (8, (.getfield 35), 3, 3, 11),
  (11, (.iload_n 1), 1, 0, 0),
  (12, (.iload_n 3), 1, 0, 0),
  (13, .iastore, 1, 0, 0),
  (14, (.iload_n 1), 1, 0, 0),
  (15, (.aload_n 0), 1, 0, 0),
  (16, (.getfield 54), 3, 3, 4),
  (19, .imul, 1, 0, 0),
  (20, (.istore 4), 2, 0, 0),
  (22, (.aload_n 0), 1, 0, 0),
  (23, (.getfield 54), 3, 3, 4),
  (26, (.aload_n 0), 1, 0, 0),
  (27, (.getfield 57), 3, 3, 5),
  (30, (.iload 4), 2, 0, 0),
  (32, .isub, 1, 0, 0),
  (33, (.invokestatic 89), 3, 226, 2),
  (36, (.istore 5), 2, 0, 0),
  (38, (.iconst 0), 1, 0, 0),
  (39, (.istore 6), 2, 0, 0),
  (41, (.iload 6), 2, 0, 0),
  (43, (.iload 5), 2, 0, 0),
  (45, (.if_icmp .ge 55), 3, 100, 0),
  (48, (.aload_n 0), 1, 0, 0),
  (49, (.getfield 38), 3, 3, 12),
  (52, (.iload 4), 2, 0, 0),
  (54, (.iload 6), 2, 0, 0),
  (56, .iadd, 1, 0, 0),
  (57, (.aload_n 0), 1, 0, 0),
  (58, (.getfield 25), 3, 3, 8),
  (61, (.iload 6), 2, 0, 0),
  (63, .iaload, 1, 0, 0),
  (64, .iastore, 1, 0, 0),
  (65, (.aload_n 0), 1, 0, 0),
  (66, (.getfield 48), 3, 3, 2),
  (69, (.iconst 2), 1, 0, 0),
  (70, (.if_icmp .ne 24), 3, 94, 0),
  (73, (.aload_n 0), 1, 0, 0),
  (74, (.getfield 38), 3, 3, 12),
  (77, (.sipush 256), 3, 0, 0),
  (80, (.iload 4), 2, 0, 0),
  (82, .iadd, 1, 0, 0),
  (83, (.iload 6), 2, 0, 0),
  (85, .iadd, 1, 0, 0),
  (86, (.aload_n 0), 1, 0, 0),
  (87, (.getfield 29), 3, 3, 9),
  (90, (.iload 6), 2, 0, 0),
  (92, .iaload, 1, 0, 0),
  (93, .iastore, 1, 0, 0),
  (94, (.iinc 6 1), 3, 0, 0),
  (97, (.goto (-56)), 3, 41, 0),
  (100, .return_, 1, 0, 0)]
theorem mm_ck38 : mm_c38.all (mm_ckE 3 prog_5_method_16_code) = true := by decide +kernel
def mm_c39 : List (Nat × mm_E) := [
  (0, (.aload_n 0), 1, 0, 0),
  (1, (.invokespecial 3), 3, 1004, 0),
  (4, (.aload_n 0), 1, 0, 0),
  (5, (.bipush 64), 2, 0, 0),
  (7, (.newarray .int), 2, 100, 0),
  (9, (.putfield 9), 3, 4, 0),
  (12, (.aload_n 0), 1, 0, 0),
  (13, (.bipush 8), 2, 0, 0),
  (15, (.newarray .int), 2, 100, 0),
  (17, (.putfield 15), 3, 4, 6),
  (20, (.aload_n 0), 1, 0, 0),
  (21, (.bipush 8), 2, 0, 0),
  (23, (.newarray .int), 2, 100, 0),
  (25, (.putfield 18), 3, 4, 7),
  (28, (.aload_n 0), 1, 0, 0),
  (29, (.bipush 8), 2, 0, 0),
  (31, (.newarray .int), 2, 100, 0),
  (33, (.putfield 21), 3, 4, 8),
  (36, (.aload_n 0), 1, 0, 0),
  (37, (.bipush 8), 2, 0, 0),
  (39, (.newarray .int), 2, 100, 0),
  (41, (.putfield 24), 3, 4, 9),
  (44, .return_, 1, 0, 0)]
theorem mm_ck39 : mm_c39.all (mm_ckE 4 prog_6_method_1_code) = true := by decide +kernel
def mm_c40 : List (Nat × mm_E) := [
  (0, (.aload_n 0), 1, 0, 0),
  (1, (.iload_n 1), 1, 0, 0),
  (2, (.putfield 27), 3, 4, 1),
  (5, (.aload_n 0), 1, 0, 0),
  (6, (.iload_n 2), 1, 0, 0),
  (7, (.putfield 31), 3, 4, 2),
  (10, .return_, 1, 0, 0)]
theorem mm_ck40 : mm_c40.all (mm_ckE 4 prog_6_method_2_code) = true := by decide +kernel
def mm_c41 : List (Nat × mm_E) := [
  (0, (.aload_n 0), 1, 0, 0),
  (1, (.iconst 0), 1, 0, 0),
  (2, (.putfield 34), 3, 4, 5),
  (5, (.aload_n 0), 1, 0, 0),
  (6, (.invokevirtual 37), 3, 42, 1),
  (9, (.ifCond .eq 20), 3, 29, 0),
  (12, (.aload_n 0), 1, 0, 0),
  (13, (.bipush 8), 2, 0, 0),
  (15, (.putfield 41), 3, 4, 3),
  (18, (.aload_n 0), 1, 0, 0),
  (19, (.iconst 4), 1, 0, 0),
  (20, (.aload_n 0), 1, 0, 0),
  (21, (.getfield 31), 3, 4, 2),
  (24, .iadd, 1, 0, 0),
  (25, (.putfield 44), 3, 4, 4),
  (28, .return_, 1, 0, 0),
  (29, (.iconst 0), 1, 0, 0),
  (30, (.istore 5), 2, 0, 0),
  (32, (.ldc 49), 2, 2147483647, 0),
  (34, (.istore 6), 2, 0, 0),
  (36, (.iconst 0), 1, 0, 0),
  (37, (.istore 7), 2, 0, 0),
  (39, (.iload 7), 2, 0, 0),
  (41, (.bipush 8), 2, 0, 0),
  (43, (.if_icmp .ge 85), 3, 128, 0),
  (46, (.iload 4), 2, 0, 0),
  (48, (.iload 7), 2, 0, 0),
  (50, .ishr, 1, 0, 0),
  (51, (.iconst 1), 1, 0, 0),
  (52, .iand, 1, 0, 0),
  (53, (.ifCond .eq 69), 3, 122, 0),
  (56, (.aload_n 1), 1, 0, 0),
  (57, (.getfield 50), 3, 2, 1),
  (60, (.iload 7), 2, 0, 0),
  (62, .iaload, 1, 0, 0),
  (63, (.aload_n 0), 1, 0, 0),
  (64, (.getfield 27), 3, 4, 1),
  (67, (.if_icmp .ge 55), 3, 122, 0),
  (70, (.aload_n 2), 1, 0, 0),
  (71, (.aload_n 0), 1, 0, 0),
  (72, (.aload_n 1), 1, 0, 0),
  (73, (.iload 7), 2, 0, 0),
  (75, (.invokevirtual 55), 3, 2, 4),
  (78, (.iload_n 3), 1, 0, 0),
  (79, (.ifCond .ne 10), 3, 89, 0),
  (82, (.aload_n 2), 1, 0, 0),
  (83, (.getfield 61), 3, 0, 3),
  (86, (.goto 19), 3, 105, 0),
  (89, (.aload_n 0), 1, 0, 0),
  (90, (.aload_n 1), 1, 0, 0),
  (91, (.getfield 50), 3, 2, 1),
  (94, (.iload 7), 2, 0, 0),
  (96, .iaload, 1, 0, 0),
  (97, (.invokevirtual 64), 3, 43, 2),
  (100, (.aload_n 2), 1, 0, 0),
  (101, (.invokevirtual 68), 3, 6, 1),
  (104, .iadd, 1, 0, 0),
  (105, (.istore 8), 2, 0, 0),
  (107, (.iload 8), 2, 0, 0),
  (109, (.iload 6), 2, 0, 0),
  (111, (.if_icmp .ge 11), 3, 122, 0),
  (114, (.iload 8), 2, 0, 0),
  (116, (.istore 6), 2, 0, 0),
  (118, (.iload 7), 2, 0, 0),
  (120, (.istore 5), 2, 0, 0),
  (122, (.iinc 7 1), 3, 0, 0),
  (125, (.goto (-86)), 3, 39, 0),
  (128, (.aload_n 0), 1, 0, 0),
  (129, (.iload 5), 2, 0, 0),
  (131, (.putfield 41), 3, 4, 3),
  (134, (.aload_n 2), 1, 0, 0),
  (135, (.aload_n 0), 1, 0, 0),
  (136, (.aload_n 1), 1, 0, 0),
  (137, (.iload 5), 2, 0, 0),
  (139, (.invokevirtual 55), 3, 2, 4),
  (142, (.aload_n 0), 1, 0, 0),
  (143, (.aload_n 0), 1, 0, 0),
  (144, (.aload_n 1), 1, 0, 0),
  (145, (.getfield 50), 3, 2, 1),
  (148, (.iload 5), 2, 0, 0),
  (150, .iaload, 1, 0, 0),
  (151, (.invokevirtual 64), 3, 43, 2),
  (154, (.iload_n 3), 1, 0, 0),
  (155, (.ifCond .ne 10), 3, 165, 0),
  (158, (.aload_n 2), 1, 0, 0),
  (159, (.invokevirtual 72), 3, 4, 1),
  (162, (.goto 7), 3, 169, 0),
  (165, (.aload_n 2), 1, 0, 0),
  (166, (.invokevirtual 68), 3, 6, 1),
  (169, .iadd, 1, 0, 0),
  (170, (.putfield 44), 3, 4, 4),
  (173, (.aload_n 0), 1, 0, 0),
  (174, (.getfield 44), 3, 4, 4),
  (177, (.iconst 4), 1, 0, 0),
  (178, (.aload_n 0), 1, 0, 0),
  (179, (.getfield 27), 3, 4, 1),
  (182, (.aload_n 0), 1, 0, 0),
  (183, (.getfield 31), 3, 4, 2),
  (186, .imul, 1, 0, 0),
  (187, .iadd, 1, 0, 0),
  (188, (.if_icmp .le 27), 3, 215, 0),
  (191, (.aload_n 0), 1, 0, 0),
  (192, (.bipush 9), 2, 0, 0),
  (194, (.putfield 41), 3, 4, 3),
  (197, (.aload_n 0), 1, 0, 0),
  (198, (.iconst 4), 1, 0, 0),
  (199, (.aload_n 0), 1, 0, 0),
  (200, (.getfield 27), 3, 4, 1),
  (203, (.aload_n 0), 1, 0, 0),
  (204, (.getfield 31), 3, 4, 2),
  (207, .imul, 1, 0, 0),
  (208, .iadd, 1, 0, 0),
  (209, (.putfield 44), 3, 4, 4),
  (212, (.goto 8), 3, 220, 0),
  (215, (.aload_n 0), 1, 0, 0),
  (216, (.aload_n 2), 1, 0, 0),
  (217, (.invokevirtual 75), 3, 44, 2),
  (220, .return_, 1, 0, 0)]
theorem mm_ck41 : mm_c41.all (mm_ckE 4 prog_6_method_3_code) = true := by decide +kernel
def mm_c42 : List (Nat × mm_E) := [
  (0, (.iconst 1), 1, 0, 0),
  (1, (.istore_n 1), 1, 0, 0),
  (2, (.iload_n 1), 1, 0, 0),
  (3, (.aload_n 0), 1, 0, 0),
  (4, (.getfield 27), 3, 4, 1),
  (7, (.if_icmp .ge 26), 3, 33, 0),
  (10, (.aload_n 0), 1, 0, 0),
  (11, (.getfield 9), 3, 4, 0),
  (14, (.iload_n 1), 1, 0, 0),
  (15, .iaload, 1, 0, 0),
  (16, (.aload_n 0), 1, 0, 0),
  (17, (.getfield 9), 3, 4, 0),
  (20, (.iconst 0), 1, 0, 0),
  (21, .iaload, 1, 0, 0),
  (22, (.if_icmp .eq 5), 3, 27, 0),
  (25, (.iconst 0), 1, 0, 0),
  (26, .ireturn, 1, 0, 0),
  (27, (.iinc 1 1), 3, 0, 0),
  (30, (.goto (-28)), 3, 2, 0),
  (33, (.iconst 1), 1, 0, 0),
  (34, .ireturn, 1, 0, 0)]
theorem mm_ck42 : mm_c42.all (mm_ckE 4 prog_6_method_4_code) = true := by decide +kernel
def mm_c43 : List (Nat × mm_E) := [
  (0, (.iconst 4), 1, 0, 0),
  (1, (.iload_n 1), 1, 0, 0),
  (2, (.aload_n 0), 1, 0, 0),
  (3, (.getfield 31), 3, 4, 2),
  (6, .imul, 1, 0, 0),
  (7, .iadd, 1, 0, 0),
  (8, .ireturn, 1, 0, 0)]
theorem mm_ck43 : mm_c43.all (mm_ckE 4 prog_6_method_5_code) = true := by decide +kernel
def mm_c44 : List (Nat × mm_E) := [
  (0, (.iconst 0), 1, 0, 0),
  (1, (.istore_n 2), 1, 0, 0),
  (2, (.iconst 0), 1, 0, 0),
  (3, (.istore_n 3), 1, 0, 0),
  (4, (.iload_n 3), 1, 0, 0),
  (5, (.bipush 8), 2, 0, 0),
  (7, (.if_icmp .ge 81), 3, 88, 0),
  (10, (.iload_n 2), 1, 0, 0),
  (11, (.aload_n 1), 1, 0, 0),
  (12, (.getfield 79), 3, 0, 2),
  (15, (.if_icmp .ge 73), 3, 88, 0),
  (18, (.aload_n 0), 1, 0, 0),
  (19, (.getfield 15), 3, 4, 6),
  (22, (.iload_n 3), 1, 0, 0),
  (23, (.aload_n 1), 1, 0, 0),
  (24, (.getfield 82), 3, 0, 9),
  (27, (.iload_n 2), 1, 0, 0),
  (28, .iaload, 1, 0, 0),
  (29, .iastore, 1, 0, 0),
  (30, (.aload_n 0), 1, 0, 0),
  (31, (.getfield 18), 3, 4, 7),
  (34, (.iload_n 3), 1, 0, 0),
  (35, (.aload_n 1), 1, 0, 0),
  (36, (.getfield 85), 3, 0, 10),
  (39, (.iload_n 2), 1, 0, 0),
  (40, .iaload, 1, 0, 0),
  (41, .iastore, 1, 0, 0),
  (42, (.aload_n 0), 1, 0, 0),
  (43, (.getfield 21), 3, 4, 8),
  (46, (.iload_n 3), 1, 0, 0),
  (47, (.aload_n 1), 1, 0, 0),
  (48, (.getfield 88), 3, 0, 11),
  (51, (.iload_n 2), 1, 0, 0),
  (52, .iaload, 1, 0, 0),
  (53, .iastore, 1, 0, 0),
  (54, (.aload_n 0), 1, 0, 0),
  (55, (.getfield 24), 3, 4, 9),
  (58, (.iload_n 3), 1, 0, 0),
  (59, (.aload_n 1), 1, 0, 0),
  (60, (.getfield 91), 3, 0, 12),
  (63, (.iload_n 2), 1, 0, 0),
  (64, .iaload, 1, 0, 0),
  (65, .iastore, 1, 0, 0),
  (66, (.iload_n 2), 1, 0, 0),
  (67, (.aload_n 1), 1, 0, 0),
  (68, (.getfield 82), 3, 0, 9),
  (71, (.iload_n 2), 1, 0, 0),
  (72, .iaload, 1, 0, 0),
  (73, .iadd, 1, 0, 0),
  (74, (.istore_n 2), 1, 0, 0),
  (75, (.aload_n 0), 1, 0, 0),
  (76, (.iload_n 3), 1, 0, 0),
  (77, (.iconst 1), 1, 0, 0),
  (78, .iadd, 1, 0, 0),
  (79, (.putfield 34), 3, 4, 5),
  (82, (.iinc 3 1), 3, 0, 0),
  (85, (.goto (-81)), 3, 4, 0),
  (88, .return_, 1, 0, 0)]
theorem mm_ck44 : mm_c44.all (mm_ckE 4 prog_6_method_6_code) = true := by decide +kernel
def mm_c45 : List (Nat × mm_E) := [
  (0, (.aload_n 0), 1, 0, 0),
  (1, (.invokespecial 3), 3, 1004, 0),
  (4, (.aload_n 0), 1, 0, 0),
  (5, (.sipush 512), 3, 0, 0),
  (8, (.newarray .int), 2, 100, 0),
  (10, (.putfield 9), 3, 5, 0),
  (13, (.aload_n 0), 1, 0, 0),
  (14, (.iconst 2), 1, 0, 0),
  (15, (.newarray .int), 2, 100, 0),
  (17, (.putfield 15), 3, 5, 1),
  (20, (.aload_n 0), 1, 0, 0),
  (21, (.iconst 1), 1, 0, 0),
  (22, (.putfield 18), 3, 5, 4),
  (25, .return_, 1, 0, 0)]
theorem mm_ck45 : mm_c45.all (mm_ckE 5 prog_7_method_1_code) = true := by decide +kernel
def mm_c46 : List (Nat × mm_E) := [
  (0, (.iconst 0), 1, 0, 0),
  (1, (.istore_n 1), 1, 0, 0),
  (2, (.iload_n 1), 1, 0, 0),
  (3, (.aload_n 0), 1, 0, 0),
  (4, (.getfield 15), 3, 5, 1),
  (7, .arraylength, 1, 0, 0),
  (8, (.if_icmp .ge 16), 3, 24, 0),
  (11, (.aload_n 0), 1, 0, 0),
  (12, (.getfield 15), 3, 5, 1),
  (15, (.iload_n 1), 1, 0, 0),
  (16, (.iconst 0), 1, 0, 0),
  (17, .iastore, 1, 0, 0),
  (18, (.iinc 1 1), 3, 0, 0),
  (21, (.goto (-19)), 3, 2, 0),
  (24, (.aload_n 0), 1, 0, 0),
  (25, (.iconst 0), 1, 0, 0),
  (26, (.putfield 22), 3, 5, 2),
  (29, (.aload_n 0), 1, 0, 0),
  (30, (.iconst 0), 1, 0, 0),
  (31, (.putfield 25), 3, 5, 3),
  (34, (.aload_n 0), 1, 0, 0),
  (35, (.iconst 1), 1, 0, 0),
  (36, (.putfield 18), 3, 5, 4),
  (39, .return_, 1, 0, 0)]
theorem mm_ck46 : mm_c46.all (mm_ckE 5 prog_7_method_2_code) = true := by decide +kernel
def mm_c47 : List (Nat × mm_E) := [
  (0, (.iload_n 1), 1, 0, 0),
  (1, (.ifCond .lt 24), 3, 25, 0),
  (4, (.iload_n 1), 1, 0, 0),
  (5, (.aload_n 0), 1, 0, 0),
  (6, (.getfield 22), 3, 5, 2),
  (9, (.if_icmp .ge 16), 3, 25, 0),
  (12, (.iload_n 1), 1, 0, 0),
  (13, (.aload_n 0), 1, 0, 0),
  (14, (.getfield 15), 3, 5, 1),
  (17, .arraylength, 1, 0, 0),
  (18, (.if_icmp .ge 7), 3, 25, 0),
  (21, (.iconst 1), 1, 0, 0),
  (22, (.goto 4), 3, 26, 0),
  (25, (.iconst 0), 1, 0, 0),
  (26, .ireturn, 1, 0, 0)]
theorem mm_ck47 : mm_c47.all (mm_ckE 5 prog_7_method_3_code) = true := by decide +kernel
def mm_c48 : List (Nat × mm_E) := [
  (0, (.aload_n 0), 1, 0, 0),
  (1, (.iload_n 1), 1, 0, 0),
  (2, (.invokevirtual 28), 3, 47, 2),
  (5, (.ifCond .eq 21), 3, 26, 0),
  (8, (.iload_n 2), 1, 0, 0),
  (9, (.ifCond .lt 17), 3, 26, 0),
  (12, (.iload_n 2), 1, 0, 0),
  (13, (.aload_n 0), 1, 0, 0),
  (14, (.getfield 15), 3, 5, 1),
  (17, (.iload_n 1), 1, 0, 0),
  (18, .iaload, 1, 0, 0),
  (19, (.if_icmp .ge 7), 3, 26, 0),
  (22, (.iconst 1), 1, 0, 0),
  (23, (.goto 4), 3, 27, 0),
  (26, (.iconst 0), 1, 0, 0),
  (27, .ireturn, 1, 0, 0)]
theorem mm_ck48 : mm_c48.all (mm_ckE 5 prog_7_method_4_code) = true := by decide +kernel
def mm_c49 : List (Nat × mm_E) := [
  (0, (.aload_n 0), 1, 0, 0),
  (1, (.getfield 9), 3, 5, 0),
  (4, (.iload_n 1), 1, 0, 0),
  (5, (.sipush 256), 3, 0, 0),
  (8, .imul, 1, 0, 0),
  (9, (.iload_n 2), 1, 0, 0),
  (10, .iadd, 1, 0, 0),
  (11, .iaload, 1, 0, 0),
  (12, .ireturn, 1, 0, 0)]
theorem mm_ck49 : mm_c49.all (mm_ckE 5 prog_7_method_5_code) = true := by decide +kernel
def mm_c50 : List (Nat × mm_E) := [
  (0, (.aload_n 0), 1, 0, 0),
  (1, (.iload_n 1), 1, 0, 0),
  (2, (.iload_n 2), 1, 0, 0),
  (3, (.invokevirtual 32), 3, 48, 3),
  (6, (.ifCond .eq 12), 3, 18, 0),
  (9, (.aload_n 0), 1, 0, 0),
  (10, (.iload_n 1), 1, 0, 0),
  (11, (.iload_n 2), 1, 0, 0),
  (12, (.invokevirtual 36), 3, 49, 3),
  (15, (.goto 4), 3, 19, 0),
  (18, (.iconst 0), 1, 0, 0),
  (19, .ireturn, 1, 0, 0)]
theorem mm_ck50 : mm_c50.all (mm_ckE 5 prog_7_method_6_code) = true := by decide +kernel
def mm_c51 : List (Nat × mm_E) := [
  (0, (.aload_n 0), 1, 0, 0),
  (1, (.iload_n 1), 1, 0, 0),
  (2, (.invokevirtual 28), 3, 47, 2),
  (5, (.ifCond .eq 43), 3, 48, 0),
  (8, (.aload_n 0), 1, 0, 0),
  (9, (.getfield 15), 3, 5, 1),
  (12, (.iload_n 1), 1, 0, 0),
  (13, .iaload, 1, 0, 0),
  (14, (.sipush 256), 3, 0, 0),
  (17, (.if_icmp .ge 31), 3, 48, 0),
  (20, (.aload_n 0), 1, 0, 0),
  (21, (.getfield 9), 3, 5, 0),
  (24, (.iload_n 1), 1, 0, 0),
  (25, (.sipush 256), 3, 0, 0),
  (28, .imul, 1, 0, 0),
  (29, (.aload_n 0), 1, 0, 0),
  (30, (.getfield 15), 3, 5, 1),
  (33, (.iload_n 1), 1, 0, 0),
  (34, .iaload, 1, 0, 0),
  (35, .iadd, 1, 0, 0),
  (36, (.iload_n 2), 1, 0, 0),
  (37, .iastore, 1, 0, 0),
  (38, (.aload_n 0), 1, 0, 0),
  (39, (.getfield 15), 3, 5, 1),
  (42, (.iload_n 1), 1, 0, 0),
  (43, .dup2, 1, 0, 0),
  (44, .iaload, 1, 0, 0),
  (45, (.iconst 1), 1, 0, 0),
  (46, .iadd, 1, 0, 0),
  (47, .iastore, 1, 0, 0),
  (48, .return_, 1, 0, 0)]
theorem mm_ck51 : mm_c51.all (mm_ckE 5 prog_7_method_7_code) = true := by decide +kernel
def mm_c52 : List (Nat × mm_E) := [
  (0, (.aload_n 0), 1, 0, 0),
  (1, (.getfield 25), 3, 5, 3),
  (4, (.bipush 8), 2, 0, 0),
  (6, (.if_icmp .ne 9), 3, 15, 0),
  (9, (.sipush 128), 3, 0, 0),
  (12, (.goto 5), 3, 17, 0),
  (15, (.ldc 40), 2, 32768, 0),
  (17, (.istore_n 2), 1, 0, 0),
  (18, (.iload_n 2), 1, 0, 0),
  (19, .ineg, 1, 0, 0),
  (20, (.iload_n 2), 1, 0, 0),
  (21, (.iconst 1), 1, 0, 0),
  (22, .isub, 1, 0, 0),
  (23, (.iload_n 1), 1, 0, 0),
  (24, (.invokestatic 41), 3, 226, 2),
  (27, (.invokestatic 46), 3, 225, 2),
  (30, .ireturn, 1, 0, 0)]
theorem mm_ck52 : mm_c52.all (mm_ckE 5 prog_7_method_8_code) = true := by decide +kernel
def mm_c53 : List (Nat × mm_E) := [
  (0, (.aload_n 0), 1, 0, 0),
  (1, (.ldc 49), 2, 1103515245, 0),
  (3, (.aload_n 0), 1, 0, 0),
  (4, (.getfield 18), 3, 5, 4),
  (7, .imul, 1, 0, 0),
  (8, (.sipush 12345), 3, 0, 0),
  (11, .iadd, 1, 0, 0),
  (12, (.putfield 18), 3, 5, 4),
  (15, (.aload_n 0), 1, 0, 0),
  (16, (.getfield 18), 3, 5, 4),
  (19, (.bipush 16), 2, 0, 0),
  (21, .iushr, 1, 0, 0),
  (22, (.sipush 32767), 3, 0, 0),
  (25, .iand, 1, 0, 0),
  (26, .ireturn, 1, 0, 0)]
theorem mm_ck53 : mm_c53.all (mm_ckE 5 prog_7_method_9_code) = true := by decide +kernel
def mm_c54 : List (Nat × mm_E) := [
  (0, (.aload_n 0), 1, 0, 0),
  (1, (.getfield 22), 3, 5, 2),
  (4, (.iconst 1), 1, 0, 0),
  (5, (.if_icmp .eq 26), 3, 31, 0),
  (8, (.aload_n 0), 1, 0, 0),
  (9, (.getfield 22), 3, 5, 2),
  (12, (.iconst 2), 1, 0, 0),
  (13, (.if_icmp .ne 22), 3, 35, 0),
  (16, (.aload_n 0), 1, 0, 0),
  (17, (.getfield 15), 3, 5, 1),
  (20, (.iconst 0), 1, 0, 0),
  (21, .iaload, 1, 0, 0),
  (22, (.aload_n 0), 1, 0, 0),
  (23, (.getfield 15), 3, 5, 1),
  (26, (.iconst 1), 1, 0, 0),
  (27, .iaload, 1, 0, 0),
  (28, (.if_icmp .ne 7), 3, 35, 0),
  (31, (.iconst 1), 1, 0, 0),
  (32, (.goto 4), 3, 36, 0),
  (35, (.iconst 0), 1, 0, 0),
  (36, .ireturn, 1, 0, 0)]
theorem mm_ck54 : mm_c54.all (mm_ckE 5 prog_7_method_10_code) = true := by decide +kernel
def mm_c55 : List (Nat × mm_E) := [
  (0, (.aload_n 0), 1, 0, 0),
  (1, (.invokevirtual 50), 3, 54, 1),
  (4, (.ifCond .eq 22), 3, 26, 0),
  (7, (.iload_n 1), 1, 0, 0),
  (8, (.ifCond .le 18), 3, 26, 0),
  (11, (.aload_n 0), 1, 0, 0),
  (12, (.getfield 15), 3, 5, 1),
  (15, (.iconst 0), 1, 0, 0),
  (16, .iaload, 1, 0, 0),
  (17, (.iload_n 1), 1, 0, 0),
  (18, .iadd, 1, 0, 0),
  (19, (.iconst 1), 1, 0, 0),
  (20, .isub, 1, 0, 0),
  (21, (.iload_n 1), 1, 0, 0),
  (22, .idiv, 1, 0, 0),
  (23, (.goto 4), 3, 27, 0),
  (26, (.iconst 0), 1, 0, 0),
  (27, .ireturn, 1, 0, 0)]
theorem mm_ck55 : mm_c55.all (mm_ckE 5 prog_7_method_11_code) = true := by decide +kernel
def mm_c56 : List (Nat × mm_E) := [
  (0, (.aload_n 0), 1, 0, 0),
  (1, (.invokespecial 3), 3, 1004, 0),
  (4, (.aload_n 0), 1, 0, 0),
  (5, (.sipush 4000), 3, 0, 0),
  (8, (.newarray .int), 2, 100, 0),
  (10, (.putfield 9), 3, 6, 0),
  (13, .return_, 1, 0, 0)]
theorem mm_ck56 : mm_c56.all (mm_ckE 6 prog_8_method_1_code) = true := by decide +kernel
def mm_c57 : List (Nat × mm_E) := [
  (0, (.iload_n 1), 1, 0, 0),
  (1, (.ifCond .lt 24), 3, 25, 0),
  (4, (.iload_n 1), 1, 0, 0),
  (5, (.aload_n 0), 1, 0, 0),
  (6, (.getfield 15), 3, 6, 1),
  (9, (.if_icmp .ge 16), 3, 25, 0),
  (12, (.iload_n 1), 1, 0, 0),
  (13, (.aload_n 0), 1, 0, 0),
  (14, (.getfield 9), 3, 6, 0),
  (17, .arraylength, 1, 0, 0),
  (18, (.if_icmp .ge 7), 3, 25, 0),
  (21, (.iconst 1), 1, 0, 0),
  (22, (.goto 4), 3, 26, 0),
  (25, (.iconst 0), 1, 0, 0),
  (26, .ireturn, 1, 0, 0)]
theorem mm_ck57 : mm_c57.all (mm_ckE 6 prog_8_method_2_code) = true := by decide +kernel
def mm_c58 : List (Nat × mm_E) := [
  (0, (.aload_n 0), 1, 0, 0),
  (1, (.getfield 15), 3, 6, 1),
  (4, (.aload_n 0), 1, 0, 0),
  (5, (.getfield 9), 3, 6, 0),
  (8, .arraylength, 1, 0, 0),
  (9, (.if_icmp .ge 27), 3, 36, 0),
  (12, (.aload_n 0), 1, 0, 0),
  (13, (.getfield 9), 3, 6, 0),
  (16, (.aload_n 0), 1, 0, 0),
  (17, (.getfield 15), 3, 6, 1),
  (20, (.iload_n 1), 1, 0, 0),
  (21, (.sipush 255), 3, 0, 0),
  (24, .iand, 1, 0, 0),
  (25, .iastore, 1, 0, 0),
  (26, (.aload_n 0), 1, 0, 0),
  (27, .dup, 1, 0, 0),
  (28, (.getfield 15), 3, 6, 1),
  (31, (.iconst 1), 1, 0, 0),
  (32, .iadd, 1, 0, 0),
  (33, (.putfield 15), 3, 6, 1),
  (36, .return_, 1, 0, 0)]
theorem mm_ck58 : mm_c58.all (mm_ckE 6 prog_8_method_3_code) = true := by decide +kernel
def mm_c59 : List (Nat × mm_E) := [
  (0, (.iload_n 2), 1, 0, 0),
  (1, (.iconst 1), 1, 0, 0),
  (2, .isub, 1, 0, 0),
  (3, (.istore_n 3), 1, 0, 0),
  (4, (.iload_n 3), 1, 0, 0),
  (5, (.ifCond .lt 68), 3, 73, 0),
  (8, (.aload_n 0), 1, 0, 0),
  (9, (.getfield 19), 3, 6, 2),
  (12, (.ifCond .ne 14), 3, 26, 0),
  (15, (.aload_n 0), 1, 0, 0),
  (16, (.iconst 0), 1, 0, 0),
  (17, (.invokevirtual 22), 3, 58, 2),
  (20, (.aload_n 0), 1, 0, 0),
  (21, (.bipush 8), 2, 0, 0),
  (23, (.putfield 19), 3, 6, 2),
  (26, (.aload_n 0), 1, 0, 0),
  (27, .dup, 1, 0, 0),
  (28, (.getfield 19), 3, 6, 2),
  (31, (.iconst 1), 1, 0, 0),
  (32, .isub, 1, 0, 0),
  (33, (.putfield 19), 3, 6, 2),
  (36, (.aload_n 0), 1, 0, 0),
  (37, (.getfield 15), 3, 6, 1),
  (40, (.ifCond .le 27), 3, 67, 0),
  (43, (.aload_n 0), 1, 0, 0),
  (44, (.getfield 9), 3, 6, 0),
  (47, (.aload_n 0), 1, 0, 0),
  (48, (.getfield 15), 3, 6, 1),
  (51, (.iconst 1), 1, 0, 0),
  (52, .isub, 1, 0, 0),
  (53, .dup2, 1, 0, 0),
  (54, .iaload, 1, 0, 0),
  (55, (.iload_n 1), 1, 0, 0),
  (56, (.iload_n 3), 1, 0, 0),
  (57, .ishr, 1, 0, 0),
  (58, (.iconst 1), 1, 0, 0),
  (59, .iand, 1, 0, 0),
  (60, (.aload_n 0), 1, 0, 0),
  (61, (.getfield 19), 3, 6, 2),
  (64, .ishl, 1, 0, 0),
  (65, .ior, 1, 0, 0),
  (66, .iastore, 1, 0, 0),
  (67, (.iinc 3 (-1)), 3, 0, 0),
  (70, (.goto (-66)), 3, 4, 0),
  (73, .return_, 1, 0, 0)]
theorem mm_ck59 : mm_c59.all (mm_ckE 6 prog_8_method_4_code) = true := by decide +kernel
end
section
def mm_c60 : List (Nat × mm_E) := [
  (0, (.aload_n 0), 1, 0, 0),
  (1, (.iconst 0), 1, 0, 0),
  (2, (.putfield 19), 3, 6, 2),
  (5, .return_, 1, 0, 0)]
theorem mm_ck60 : mm_c60.all (mm_ckE 6 prog_8_method_5_code) = true := by decide +kernel
def mm_c61 : List (Nat × mm_E) := [
  (0, (.aload_n 0), 1, 0, 0),
  (1, (.iload_n 1), 1, 0, 0),
  (2, (.aload_n 0), 1, 0, 0),
  (3, (.getfield 15), 3, 6, 1),
  (6, (.invokevirtual 26), 3, 62, 3),
  (9, (.istore_n 2), 1, 0, 0),
  (10, (.aload_n 0), 1, 0, 0),
  (11, (.iload_n 2), 1, 0, 0),
  (12, (.bipush 8), 2, 0, 0),
  (14, .ishr, 1, 0, 0),
  (15, (.invokevirtual 22), 3, 58, 2),
  (18, (.aload_n 0), 1, 0, 0),
  (19, (.iload_n 2), 1, 0, 0),
  (20, (.invokevirtual 22), 3, 58, 2),
  (23, .return_, 1, 0, 0)]
theorem mm_ck61 : mm_c61.all (mm_ckE 6 prog_8_method_6_code) = true := by decide +kernel
def mm_c62 : List (Nat × mm_E) := [
  (0, (.ldc 30), 2, 65535, 0),
  (2, (.istore_n 3), 1, 0, 0),
  (3, (.iload_n 1), 1, 0, 0),
  (4, (.istore 4), 2, 0, 0),
  (6, (.iload 4), 2, 0, 0),
  (8, (.iload_n 2), 1, 0, 0),
  (9, (.if_icmp .ge 70), 3, 79, 0),
  (12, (.aload_n 0), 1, 0, 0),
  (13, (.iload 4), 2, 0, 0),
  (15, (.invokevirtual 31), 3, 57, 2),
  (18, (.ifCond .eq 61), 3, 79, 0),
  (21, (.iload_n 3), 1, 0, 0),
  (22, (.aload_n 0), 1, 0, 0),
  (23, (.getfield 9), 3, 6, 0),
  (26, (.iload 4), 2, 0, 0),
  (28, .iaload, 1, 0, 0),
  (29, (.bipush 8), 2, 0, 0),
  (31, .ishl, 1, 0, 0),
  (32, .ixor, 1, 0, 0),
  (33, (.istore_n 3), 1, 0, 0),
  (34, (.iconst 0), 1, 0, 0),
  (35, (.istore 5), 2, 0, 0),
  (37, (.iload 5), 2, 0, 0),
  (39, (.bipush 8), 2, 0, 0),
  (41, (.if_icmp .ge 32), 3, 73, 0),
  (44, (.iload_n 3), 1, 0, 0),
  (45, (.ldc 35), 2, 32768, 0),
  (47, (.if_icmp .lt 16), 3, 63, 0),
  (50, (.iload_n 3), 1, 0, 0),
  (51, (.iconst 1), 1, 0, 0),
  (52, .ishl, 1, 0, 0),
  (53, (.sipush 4129), 3, 0, 0),
  (56, .ixor, 1, 0, 0),
  (57, (.ldc 30), 2, 65535, 0),
  (59, .iand, 1, 0, 0),
  (60, (.goto 6), 3, 66, 0),
  (63, (.iload_n 3), 1, 0, 0),
  (64, (.iconst 1), 1, 0, 0),
  (65, .ishl, 1, 0, 0),
  (66, (.istore_n 3), 1, 0, 0),
  (67, (.iinc 5 1), 3, 0, 0),
  (70, (.goto (-33)), 3, 37, 0),
  (73, (.iinc 4 1), 3, 0, 0),
  (76, (.goto (-70)), 3, 6, 0),
  (79, (.iload_n 3), 1, 0, 0),
  (80, .ireturn, 1, 0, 0)]
theorem mm_ck62 : mm_c62.all (mm_ckE 6 prog_8_method_7_code) = true := by decide +kernel
def mm_c63 : List (Nat × mm_E) := [
  (0, (.aload_n 0), 1, 0, 0),
  (1, (.iload_n 2), 1, 0, 0),
  (2, (.invokevirtual 31), 3, 57, 2),
  (5, (.ifCond .eq 45), 3, 50, 0),
  (8, (.aload_n 0), 1, 0, 0),
  (9, (.iload_n 2), 1, 0, 0),
  (10, (.iconst 1), 1, 0, 0),
  (11, .iadd, 1, 0, 0),
  (12, (.invokevirtual 31), 3, 57, 2),
  (15, (.ifCond .eq 35), 3, 50, 0),
  (18, (.aload_n 0), 1, 0, 0),
  (19, (.iload_n 1), 1, 0, 0),
  (20, (.iload_n 2), 1, 0, 0),
  (21, (.invokevirtual 26), 3, 62, 3),
  (24, (.aload_n 0), 1, 0, 0),
  (25, (.getfield 9), 3, 6, 0),
  (28, (.iload_n 2), 1, 0, 0),
  (29, .iaload, 1, 0, 0),
  (30, (.sipush 256), 3, 0, 0),
  (33, .imul, 1, 0, 0),
  (34, (.aload_n 0), 1, 0, 0),
  (35, (.getfield 9), 3, 6, 0),
  (38, (.iload_n 2), 1, 0, 0),
  (39, (.iconst 1), 1, 0, 0),
  (40, .iadd, 1, 0, 0),
  (41, .iaload, 1, 0, 0),
  (42, .iadd, 1, 0, 0),
  (43, (.if_icmp .ne 7), 3, 50, 0),
  (46, (.iconst 1), 1, 0, 0),
  (47, (.goto 4), 3, 51, 0),
  (50, (.iconst 0), 1, 0, 0),
  (51, .ireturn, 1, 0, 0)]
theorem mm_ck63 : mm_c63.all (mm_ckE 6 prog_8_method_8_code) = true := by decide +kernel
def mm_c64 : List (Nat × mm_E) := [
  (0, (.aload_n 0), 1, 0, 0),
  (1, (.invokespecial 3), 3, 1004, 0),
  (4, (.aload_n 0), 1, 0, 0),
  (5, (.sipush 240), 3, 0, 0),
  (8, (.newarray .int), 2, 100, 0),
  (10, (.putfield 9), 3, 7, 0),
  (13, .return_, 1, 0, 0)]
theorem mm_ck64 : mm_c64.all (mm_ckE 7 prog_9_method_1_code) = true := by decide +kernel
def mm_c65 : List (Nat × mm_E) := [
  (0, (.bipush 56), 2, 0, 0),
  (2, (.istore_n 3), 1, 0, 0),
  (3, (.iload_n 3), 1, 0, 0),
  (4, (.ifCond .lt 48), 3, 52, 0),
  (7, (.aload_n 0), 1, 0, 0),
  (8, (.getfield 15), 3, 7, 1),
  (11, (.aload_n 0), 1, 0, 0),
  (12, (.getfield 9), 3, 7, 0),
  (15, .arraylength, 1, 0, 0),
  (16, (.if_icmp .ge 36), 3, 52, 0),
  (19, (.aload_n 0), 1, 0, 0),
  (20, (.getfield 9), 3, 7, 0),
  (23, (.aload_n 0), 1, 0, 0),
  (24, (.getfield 15), 3, 7, 1),
  (27, (.lload_n 1), 1, 0, 0),
  (28, (.iload_n 3), 1, 0, 0),
  (29, .lushr, 1, 0, 0),
  (30, .l2i, 1, 0, 0),
  (31, (.sipush 255), 3, 0, 0),
  (34, .iand, 1, 0, 0),
  (35, .iastore, 1, 0, 0),
  (36, (.aload_n 0), 1, 0, 0),
  (37, .dup, 1, 0, 0),
  (38, (.getfield 15), 3, 7, 1),
  (41, (.iconst 1), 1, 0, 0),
  (42, .iadd, 1, 0, 0),
  (43, (.putfield 15), 3, 7, 1),
  (46, (.iinc 3 (-8)), 3, 0, 0),
  (49, (.goto (-46)), 3, 3, 0),
  (52, .return_, 1, 0, 0)]
theorem mm_ck65 : mm_c65.all (mm_ckE 7 prog_9_method_2_code) = true := by decide +kernel
def mm_c66 : List (Nat × mm_E) := [
  (0, (.iload_n 1), 1, 0, 0),
  (1, (.ifCond .lt 19), 3, 20, 0),
  (4, (.iload_n 2), 1, 0, 0),
  (5, (.iconst 1), 1, 0, 0),
  (6, (.if_icmp .lt 14), 3, 20, 0),
  (9, (.iload_n 1), 1, 0, 0),
  (10, (.aload_n 0), 1, 0, 0),
  (11, (.getfield 9), 3, 7, 0),
  (14, .arraylength, 1, 0, 0),
  (15, (.iload_n 2), 1, 0, 0),
  (16, .isub, 1, 0, 0),
  (17, (.if_icmp .le 5), 3, 22, 0),
  (20, (.iconst 0), 1, 0, 0),
  (21, .ireturn, 1, 0, 0),
  (22, (.aload_n 0), 1, 0, 0),
  (23, (.getfield 9), 3, 7, 0),
  (26, (.iload_n 1), 1, 0, 0),
  (27, .iaload, 1, 0, 0),
  (28, .i2b, 1, 0, 0),
  (29, (.istore_n 3), 1, 0, 0),
  (30, (.iconst 1), 1, 0, 0),
  (31, (.istore 4), 2, 0, 0),
  (33, (.iload 4), 2, 0, 0),
  (35, (.iload_n 2), 1, 0, 0),
  (36, (.if_icmp .ge 25), 3, 61, 0),
  (39, (.iload_n 3), 1, 0, 0),
  (40, (.sipush 256), 3, 0, 0),
  (43, .imul, 1, 0, 0),
  (44, (.aload_n 0), 1, 0, 0),
  (45, (.getfield 9), 3, 7, 0),
  (48, (.iload_n 1), 1, 0, 0),
  (49, (.iload 4), 2, 0, 0),
  (51, .iadd, 1, 0, 0),
  (52, .iaload, 1, 0, 0),
  (53, .iadd, 1, 0, 0),
  (54, (.istore_n 3), 1, 0, 0),
  (55, (.iinc 4 1), 3, 0, 0),
  (58, (.goto (-25)), 3, 33, 0),
  (61, (.iload_n 3), 1, 0, 0),
  (62, .ireturn, 1, 0, 0)]
theorem mm_ck66 : mm_c66.all (mm_ckE 7 prog_9_method_3_code) = true := by decide +kernel
def mm_c67 : List (Nat × mm_E) := [
  (0, (.aload_n 0), 1, 0, 0),
  (1, (.invokespecial 3), 3, 1004, 0),
  (4, (.aload_n 0), 1, 0, 0),
  (5, (.new 9), 3, 7, 2),
  (8, .dup, 1, 0, 0),
  (9, (.invokespecial 11), 3, 64, 1),
  (12, (.putfield 12), 3, 8, 0),
  (15, (.aload_n 0), 1, 0, 0),
  (16, (.new 16), 3, 5, 5),
  (19, .dup, 1, 0, 0),
  (20, (.invokespecial 18), 3, 45, 1),
  (23, (.putfield 19), 3, 8, 1),
  (26, (.aload_n 0), 1, 0, 0),
  (27, (.new 23), 3, 2, 3),
  (30, .dup, 1, 0, 0),
  (31, (.invokespecial 25), 3, 18, 1),
  (34, (.putfield 26), 3, 8, 2),
  (37, (.aload_n 0), 1, 0, 0),
  (38, (.new 30), 3, 1, 7),
  (41, .dup, 1, 0, 0),
  (42, (.invokespecial 32), 3, 10, 1),
  (45, (.putfield 33), 3, 8, 3),
  (48, (.aload_n 0), 1, 0, 0),
  (49, (.aload_n 0), 1, 0, 0),
  (50, (.getfield 33), 3, 8, 3),
  (53, (.getfield 37), 3, 1, 0),
  (56, (.putfield 41), 3, 8, 4),
  (59, (.aload_n 0), 1, 0, 0),
  (60, (.new 42), 3, 3, 13),
  (63, .dup, 1, 0, 0),
  (64, (.invokespecial 44), 3, 23, 1),
  (67, (.putfield 45), 3, 8, 5),
  (70, (.aload_n 0), 1, 0, 0),
  (71, (.aload_n 0), 1, 0, 0),
  (72, (.getfield 45), 3, 8, 5),
  (75, (.getfield 49), 3, 3, 0),
  (78, (.putfield 53), 3, 8, 6),
  (81, (.aload_n 0), 1, 0, 0),
  (82, (.bipush 32), 2, 0, 0),
  (84, (.putfield 54), 3, 8, 7),
  (87, (.aload_n 0), 1, 0, 0),
  (88, (.iconst 1), 1, 0, 0),
  (89, (.putfield 58), 3, 8, 8),
  (92, (.aload_n 0), 1, 0, 0),
  (93, (.sipush 255), 3, 0, 0),
  (96, (.putfield 61), 3, 8, 9),
  (99, .return_, 1, 0, 0)]
theorem mm_ck67 : mm_c67.all (mm_ckE 8 prog_1_method_1_code) = true := by decide +kernel
def mm_c68 : List (Nat × mm_E) := [
  (0, (.aload_n 0), 1, 0, 0),
  (1, (.getfield 12), 3, 8, 0),
  (4, (.getfield 64), 3, 7, 1),
  (7, (.bipush 24), 2, 0, 0),
  (9, .iadd, 1, 0, 0),
  (10, (.sipush 240), 3, 0, 0),
  (13, (.if_icmp .le 5), 3, 18, 0),
  (16, (.iconst (-1)), 1, 0, 0),
  (17, .ireturn, 1, 0, 0),
  (18, (.aload_n 0), 1, 0, 0),
  (19, (.getfield 12), 3, 8, 0),
  (22, (.lload_n 1), 1, 0, 0),
  (23, (.invokevirtual 67), 3, 65, 2),
  (26, (.aload_n 0), 1, 0, 0),
  (27, (.getfield 12), 3, 8, 0),
  (30, (.lload_n 3), 1, 0, 0),
  (31, (.invokevirtual 67), 3, 65, 2),
  (34, (.aload_n 0), 1, 0, 0),
  (35, (.getfield 12), 3, 8, 0),
  (38, (.lload 5), 2, 0, 0),
  (40, (.invokevirtual 67), 3, 65, 2),
  (43, (.aload_n 0), 1, 0, 0),
  (44, (.getfield 12), 3, 8, 0),
  (47, (.getfield 64), 3, 7, 1),
  (50, .ireturn, 1, 0, 0)]
theorem mm_ck68 : mm_c68.all (mm_ckE 8 prog_1_method_2_code) = true := by decide +kernel
def mm_c69 : List (Nat × mm_E) := [
  (0, (.iload_n 1), 1, 0, 0),
  (1, (.invokestatic 71), 3, 117, 1),
  (4, (.ifCond .eq 14), 3, 18, 0),
  (7, (.aload_n 0), 1, 0, 0),
  (8, (.getfield 19), 3, 8, 1),
  (11, (.getfield 75), 3, 5, 2),
  (14, (.iconst 2), 1, 0, 0),
  (15, (.if_icmp .lt 5), 3, 20, 0),
  (18, (.iconst (-1)), 1, 0, 0),
  (19, .ireturn, 1, 0, 0),
  (20, (.aload_n 0), 1, 0, 0),
  (21, (.getfield 19), 3, 8, 1),
  (24, (.getfield 75), 3, 5, 2),
  (27, (.ifCond .le 16), 3, 43, 0),
  (30, (.aload_n 0), 1, 0, 0),
  (31, (.getfield 19), 3, 8, 1),
  (34, (.getfield 78), 3, 5, 3),
  (37, (.iload_n 1), 1, 0, 0),
  (38, (.if_icmp .eq 5), 3, 43, 0),
  (41, (.iconst (-1)), 1, 0, 0),
  (42, .ireturn, 1, 0, 0),
  (43, (.aload_n 0), 1, 0, 0),
  (44, (.getfield 19), 3, 8, 1),
  (47, (.iload_n 1), 1, 0, 0),
  (48, (.putfield 78), 3, 5, 3),
  (51, (.aload_n 0), 1, 0, 0),
  (52, (.getfield 19), 3, 8, 1),
  (55, .dup, 1, 0, 0),
  (56, (.getfield 75), 3, 5, 2),
  (59, (.iconst 1), 1, 0, 0),
  (60, .iadd, 1, 0, 0),
  (61, (.putfield 75), 3, 5, 2),
  (64, (.aload_n 0), 1, 0, 0),
  (65, (.getfield 19), 3, 8, 1),
  (68, (.getfield 75), 3, 5, 2),
  (71, (.iconst 1), 1, 0, 0),
  (72, .isub, 1, 0, 0),
  (73, .ireturn, 1, 0, 0)]
theorem mm_ck69 : mm_c69.all (mm_ckE 8 prog_1_method_3_code) = true := by decide +kernel
def mm_c70 : List (Nat × mm_E) := [
  (0, (.aload_n 0), 1, 0, 0),
  (1, (.getfield 19), 3, 8, 1),
  (4, (.iload_n 1), 1, 0, 0),
  (5, (.invokevirtual 81), 3, 47, 2),
  (8, (.ifCond .eq 24), 3, 32, 0),
  (11, (.iload_n 2), 1, 0, 0),
  (12, (.ifCond .lt 20), 3, 32, 0),
  (15, (.iload_n 2), 1, 0, 0),
  (16, (.sipush 256), 3, 0, 0),
  (19, (.aload_n 0), 1, 0, 0),
  (20, (.getfield 19), 3, 8, 1),
  (23, (.getfield 84), 3, 5, 1),
  (26, (.iload_n 1), 1, 0, 0),
  (27, .iaload, 1, 0, 0),
  (28, .isub, 1, 0, 0),
  (29, (.if_icmp .le 5), 3, 34, 0),
  (32, (.iconst (-1)), 1, 0, 0),
  (33, .ireturn, 1, 0, 0),
  (34, (.aload_n 0), 1, 0, 0),
  (35, (.getfield 19), 3, 8, 1),
  (38, (.getfield 78), 3, 5, 3),
  (41, (.bipush 8), 2, 0, 0),
  (43, .idiv, 1, 0, 0),
  (44, (.istore_n 3), 1, 0, 0),
  (45, (.iload_n 2), 1, 0, 0),
  (46, (.iload_n 3), 1, 0, 0),
  (47, .imul, 1, 0, 0),
  (48, (.aload_n 0), 1, 0, 0),
  (49, (.getfield 12), 3, 8, 0),
  (52, (.getfield 64), 3, 7, 1),
  (55, (.if_icmp .le 5), 3, 60, 0),
  (58, (.iconst (-1)), 1, 0, 0),
  (59, .ireturn, 1, 0, 0),
  (60, (.iconst 0), 1, 0, 0),
  (61, (.istore 4), 2, 0, 0),
  (63, (.iload 4), 2, 0, 0),
  (65, (.iload_n 2), 1, 0, 0),
  (66, (.if_icmp .ge 29), 3, 95, 0),
  (69, (.aload_n 0), 1, 0, 0),
  (70, (.getfield 19), 3, 8, 1),
  (73, (.iload_n 1), 1, 0, 0),
  (74, (.aload_n 0), 1, 0, 0),
  (75, (.getfield 12), 3, 8, 0),
  (78, (.iload 4), 2, 0, 0),
  (80, (.iload_n 3), 1, 0, 0),
  (81, .imul, 1, 0, 0),
  (82, (.iload_n 3), 1, 0, 0),
  (83, (.invokevirtual 88), 3, 66, 3),
  (86, (.invokevirtual 92), 3, 51, 3),
  (89, (.iinc 4 1), 3, 0, 0),
  (92, (.goto (-29)), 3, 63, 0),
  (95, (.aload_n 0), 1, 0, 0),
  (96, (.getfield 12), 3, 8, 0),
  (99, (.iconst 0), 1, 0, 0),
  (100, (.putfield 64), 3, 7, 1),
  (103, (.aload_n 0), 1, 0, 0),
  (104, (.getfield 19), 3, 8, 1),
  (107, (.getfield 84), 3, 5, 1),
  (110, (.iload_n 1), 1, 0, 0),
  (111, .iaload, 1, 0, 0),
  (112, .ireturn, 1, 0, 0)]
theorem mm_ck70 : mm_c70.all (mm_ckE 8 prog_1_method_4_code) = true := by decide +kernel
def mm_c71 : List (Nat × mm_E) := [
  (0, (.aload_n 0), 1, 0, 0),
  (1, (.getfield 19), 3, 8, 1),
  (4, (.iload_n 1), 1, 0, 0),
  (5, (.invokevirtual 81), 3, 47, 2),
  (8, (.ifCond .eq 42), 3, 50, 0),
  (11, (.iload_n 3), 1, 0, 0),
  (12, (.iconst 1), 1, 0, 0),
  (13, (.if_icmp .lt 37), 3, 50, 0),
  (16, (.iload_n 3), 1, 0, 0),
  (17, (.bipush 64), 2, 0, 0),
  (19, (.if_icmp .gt 31), 3, 50, 0),
  (22, (.iload_n 3), 1, 0, 0),
  (23, (.sipush 256), 3, 0, 0),
  (26, (.aload_n 0), 1, 0, 0),
  (27, (.getfield 19), 3, 8, 1),
  (30, (.getfield 84), 3, 5, 1),
  (33, (.iload_n 1), 1, 0, 0),
  (34, .iaload, 1, 0, 0),
  (35, .isub, 1, 0, 0),
  (36, (.if_icmp .gt 14), 3, 50, 0),
  (39, (.iload_n 2), 1, 0, 0),
  (40, (.iload 4), 2, 0, 0),
  (42, (.iload 5), 2, 0, 0),
  (44, (.invokestatic 96), 3, 72, 3),
  (47, (.ifCond .ne 5), 3, 52, 0),
  (50, (.iconst (-1)), 1, 0, 0),
  (51, .ireturn, 1, 0, 0),
  (52, (.iload_n 2), 1, 0, 0),
  (53, (.iconst 3), 1, 0, 0),
  (54, (.if_icmp .ne 17), 3, 71, 0),
  (57, (.iload 5), 2, 0, 0),
  (59, (.ifCond .eq 12), 3, 71, 0),
  (62, (.aload_n 0), 1, 0, 0),
  (63, (.getfield 19), 3, 8, 1),
  (66, (.iload 5), 2, 0, 0),
  (68, (.putfield 100), 3, 5, 4),
  (71, (.iconst 0), 1, 0, 0),
  (72, (.istore 6), 2, 0, 0),
  (74, (.iload 6), 2, 0, 0),
  (76, (.iload_n 3), 1, 0, 0),
  (77, (.if_icmp .ge 36), 3, 113, 0),
  (80, (.aload_n 0), 1, 0, 0),
  (81, (.getfield 19), 3, 8, 1),
  (84, (.iload_n 1), 1, 0, 0),
  (85, (.aload_n 0), 1, 0, 0),
  (86, (.getfield 19), 3, 8, 1),
  (89, (.aload_n 0), 1, 0, 0),
  (90, (.iload_n 1), 1, 0, 0),
  (91, (.iload_n 2), 1, 0, 0),
  (92, (.iload 6), 2, 0, 0),
  (94, (.iload 4), 2, 0, 0),
  (96, (.iload 5), 2, 0, 0),
  (98, (.invokevirtual 103), 3, 73, 6),
  (101, (.invokevirtual 107), 3, 52, 2),
  (104, (.invokevirtual 92), 3, 51, 3),
  (107, (.iinc 6 1), 3, 0, 0),
  (110, (.goto (-36)), 3, 74, 0),
  (113, (.aload_n 0), 1, 0, 0),
  (114, (.getfield 19), 3, 8, 1),
  (117, (.getfield 84), 3, 5, 1),
  (120, (.iload_n 1), 1, 0, 0),
  (121, .iaload, 1, 0, 0),
  (122, .ireturn, 1, 0, 0)]
theorem mm_ck71 : mm_c71.all (mm_ckE 8 prog_1_method_5_code) = true := by decide +kernel
def mm_c72 : List (Nat × mm_E) := [
  (0, (.iload_n 1), 1, 0, 0),
  (1, (.ldc 111), 2, 4294901760, 0),
  (3, (.if_icmp .lt 21), 3, 24, 0),
  (6, (.iload_n 1), 1, 0, 0),
  (7, (.ldc 112), 2, 65536, 0),
  (9, (.if_icmp .gt 15), 3, 24, 0),
  (12, (.iload_n 2), 1, 0, 0),
  (13, (.ldc 111), 2, 4294901760, 0),
  (15, (.if_icmp .lt 9), 3, 24, 0),
  (18, (.iload_n 2), 1, 0, 0),
  (19, (.ldc 112), 2, 65536, 0),
  (21, (.if_icmp .le 5), 3, 26, 0),
  (24, (.iconst 0), 1, 0, 0),
  (25, .ireturn, 1, 0, 0),
  (26, (.iload_n 0), 1, 0, 0),
  (27, (.tableswitch 86 0 4 #[33, 33, 35, 52, 69]), 33, 0, 0),
  (60, (.iconst 1), 1, 0, 0),
  (61, .ireturn, 1, 0, 0),
  (62, (.iload_n 2), 1, 0, 0),
  (63, (.iconst 1), 1, 0, 0),
  (64, (.if_icmp .lt 13), 3, 77, 0),
  (67, (.iload_n 2), 1, 0, 0),
  (68, (.bipush 64), 2, 0, 0),
  (70, (.if_icmp .gt 7), 3, 77, 0),
  (73, (.iconst 1), 1, 0, 0),
  (74, (.goto 4), 3, 78, 0),
  (77, (.iconst 0), 1, 0, 0),
  (78, .ireturn, 1, 0, 0),
  (79, (.iload_n 1), 1, 0, 0),
  (80, (.ifCond .lt 14), 3, 94, 0),
  (83, (.iload_n 1), 1, 0, 0),
  (84, (.sipush 32767), 3, 0, 0),
  (87, (.if_icmp .gt 7), 3, 94, 0),
  (90, (.iconst 1), 1, 0, 0),
  (91, (.goto 4), 3, 95, 0),
  (94, (.iconst 0), 1, 0, 0),
  (95, .ireturn, 1, 0, 0),
  (96, (.iload_n 2), 1, 0, 0),
  (97, (.ifCond .lt 14), 3, 111, 0),
  (100, (.iload_n 2), 1, 0, 0),
  (101, (.sipush 256), 3, 0, 0),
  (104, (.if_icmp .ge 7), 3, 111, 0),
  (107, (.iconst 1), 1, 0, 0),
  (108, (.goto 4), 3, 112, 0),
  (111, (.iconst 0), 1, 0, 0),
  (112, .ireturn, 1, 0, 0),
  (113, (.iconst 0), 1, 0, 0),
  (114, .ireturn, 1, 0, 0)]
theorem mm_ck72 : mm_c72.all (mm_ckE 8 prog_1_method_6_code) = true := by decide +kernel
def mm_c73 : List (Nat × mm_E) := [
  (0, (.iload_n 2), 1, 0, 0),
  (1, (.tableswitch 115 1 4 #[31, 39, 62, 89]), 31, 0, 0),
  (32, (.iload 4), 2, 0, 0),
  (34, (.iload_n 3), 1, 0, 0),
  (35, (.iload 5), 2, 0, 0),
  (37, .imul, 1, 0, 0),
  (38, .iadd, 1, 0, 0),
  (39, .ireturn, 1, 0, 0),
  (40, (.iload 5), 2, 0, 0),
  (42, (.ifCond .le 18), 3, 60, 0),
  (45, (.iload_n 3), 1, 0, 0),
  (46, (.iload 5), 2, 0, 0),
  (48, .idiv, 1, 0, 0),
  (49, (.iconst 2), 1, 0, 0),
  (50, .irem, 1, 0, 0),
  (51, (.ifCond .eq 9), 3, 60, 0),
  (54, (.iload 4), 2, 0, 0),
  (56, .ineg, 1, 0, 0),
  (57, (.goto 5), 3, 62, 0),
  (60, (.iload 4), 2, 0, 0),
  (62, .ireturn, 1, 0, 0),
  (63, (.iload 4), 2, 0, 0),
  (65, (.ifCond .ge 7), 3, 72, 0),
  (68, (.iconst 0), 1, 0, 0),
  (69, (.goto 20), 3, 89, 0),
  (72, (.aload_n 0), 1, 0, 0),
  (73, (.getfield 19), 3, 8, 1),
  (76, (.invokevirtual 113), 3, 53, 1),
  (79, (.iconst 2), 1, 0, 0),
  (80, (.iload 4), 2, 0, 0),
  (82, .imul, 1, 0, 0),
  (83, (.iconst 1), 1, 0, 0),
  (84, .iadd, 1, 0, 0),
  (85, .irem, 1, 0, 0),
  (86, (.iload 4), 2, 0, 0),
  (88, .isub, 1, 0, 0),
  (89, .ireturn, 1, 0, 0),
  (90, (.iload 4), 2, 0, 0),
  (92, (.aload_n 0), 1, 0, 0),
  (93, (.getfield 19), 3, 8, 1),
  (96, (.iconst 1), 1, 0, 0),
  (97, (.iload_n 1), 1, 0, 0),
  (98, .isub, 1, 0, 0),
  (99, (.aload_n 0), 1, 0, 0),
  (100, (.getfield 19), 3, 8, 1),
  (103, (.getfield 84), 3, 5, 1),
  (106, (.iload_n 1), 1, 0, 0),
  (107, .iaload, 1, 0, 0),
  (108, (.iload 5), 2, 0, 0),
  (110, .isub, 1, 0, 0),
  (111, (.invokevirtual 117), 3, 50, 3),
  (114, .iadd, 1, 0, 0),
  (115, .ireturn, 1, 0, 0),
  (116, (.iload 4), 2, 0, 0),
  (118, .ireturn, 1, 0, 0)]
theorem mm_ck73 : mm_c73.all (mm_ckE 8 prog_1_method_7_code) = true := by decide +kernel
def mm_c74 : List (Nat × mm_E) := [
  (0, (.aload_n 0), 1, 0, 0),
  (1, (.getfield 19), 3, 8, 1),
  (4, (.getfield 75), 3, 5, 2),
  (7, (.istore_n 1), 1, 0, 0),
  (8, (.aload_n 0), 1, 0, 0),
  (9, (.getfield 12), 3, 8, 0),
  (12, (.iconst 0), 1, 0, 0),
  (13, (.putfield 64), 3, 7, 1),
  (16, (.aload_n 0), 1, 0, 0),
  (17, (.getfield 19), 3, 8, 1),
  (20, (.invokevirtual 120), 3, 46, 1),
  (23, (.aload_n 0), 1, 0, 0),
  (24, (.getfield 26), 3, 8, 2),
  (27, (.invokevirtual 123), 3, 19, 1),
  (30, (.aload_n 0), 1, 0, 0),
  (31, (.bipush 32), 2, 0, 0),
  (33, (.putfield 54), 3, 8, 7),
  (36, (.aload_n 0), 1, 0, 0),
  (37, (.iconst 1), 1, 0, 0),
  (38, (.putfield 58), 3, 8, 8),
  (41, (.aload_n 0), 1, 0, 0),
  (42, (.sipush 255), 3, 0, 0),
  (45, (.putfield 61), 3, 8, 9),
  (48, (.iload_n 1), 1, 0, 0),
  (49, .ireturn, 1, 0, 0)]
theorem mm_ck74 : mm_c74.all (mm_ckE 8 prog_1_method_8_code) = true := by decide +kernel
def mm_c75 : List (Nat × mm_E) := [
  (0, (.iload_n 1), 1, 0, 0),
  (1, (.invokestatic 124), 3, 118, 1),
  (4, (.ifCond .ne 5), 3, 9, 0),
  (7, (.iconst (-1)), 1, 0, 0),
  (8, .ireturn, 1, 0, 0),
  (9, (.aload_n 0), 1, 0, 0),
  (10, (.getfield 54), 3, 8, 7),
  (13, (.istore_n 2), 1, 0, 0),
  (14, (.aload_n 0), 1, 0, 0),
  (15, (.iload_n 1), 1, 0, 0),
  (16, (.putfield 54), 3, 8, 7),
  (19, (.iload_n 2), 1, 0, 0),
  (20, .ireturn, 1, 0, 0)]
theorem mm_ck75 : mm_c75.all (mm_ckE 8 prog_1_method_9_code) = true := by decide +kernel
def mm_c76 : List (Nat × mm_E) := [
  (0, (.iload_n 1), 1, 0, 0),
  (1, (.iconst 5), 1, 0, 0),
  (2, (.if_icmp .lt 39), 3, 41, 0),
  (5, (.iload_n 1), 1, 0, 0),
  (6, (.bipush 8), 2, 0, 0),
  (8, (.if_icmp .ge 33), 3, 41, 0),
  (11, (.iload 5), 2, 0, 0),
  (13, (.invokestatic 127), 3, 119, 1),
  (16, (.ifCond .eq 25), 3, 41, 0),
  (19, (.iload_n 2), 1, 0, 0),
  (20, (.invokestatic 130), 3, 120, 1),
  (23, (.ifCond .eq 18), 3, 41, 0),
  (26, (.iload_n 3), 1, 0, 0),
  (27, (.invokestatic 130), 3, 120, 1),
  (30, (.ifCond .eq 11), 3, 41, 0),
  (33, (.iload 4), 2, 0, 0),
  (35, (.invokestatic 130), 3, 120, 1),
  (38, (.ifCond .ne 5), 3, 43, 0),
  (41, (.iconst (-1)), 1, 0, 0),
  (42, .ireturn, 1, 0, 0),
  (43, (.aload_n 0), 1, 0, 0),
  (44, (.getfield 26), 3, 8, 2),
  (47, (.iload_n 1), 1, 0, 0),
  (48, (.iload_n 2), 1, 0, 0),
  (49, (.iload_n 3), 1, 0, 0),
  (50, (.iload 4), 2, 0, 0),
  (52, (.iload 5), 2, 0, 0),
  (54, (.invokevirtual 133), 3, 20, 6),
  (57, (.aload_n 0), 1, 0, 0),
  (58, (.getfield 26), 3, 8, 2),
  (61, (.getfield 137), 3, 2, 1),
  (64, (.iload_n 1), 1, 0, 0),
  (65, .iaload, 1, 0, 0),
  (66, .ireturn, 1, 0, 0)]
theorem mm_ck76 : mm_c76.all (mm_ckE 8 prog_1_method_10_code) = true := by decide +kernel
def mm_c77 : List (Nat × mm_E) := [
  (0, (.iload_n 1), 1, 0, 0),
  (1, (.ifCond .lt 8), 3, 9, 0),
  (4, (.iload_n 1), 1, 0, 0),
  (5, (.iconst 1), 1, 0, 0),
  (6, (.if_icmp .le 5), 3, 11, 0),
  (9, (.iconst (-1)), 1, 0, 0),
  (10, .ireturn, 1, 0, 0),
  (11, (.aload_n 0), 1, 0, 0),
  (12, (.getfield 58), 3, 8, 8),
  (15, (.istore_n 2), 1, 0, 0),
  (16, (.aload_n 0), 1, 0, 0),
  (17, (.iload_n 1), 1, 0, 0),
  (18, (.putfield 58), 3, 8, 8),
  (21, (.iload_n 2), 1, 0, 0),
  (22, .ireturn, 1, 0, 0)]
theorem mm_ck77 : mm_c77.all (mm_ckE 8 prog_1_method_11_code) = true := by decide +kernel
def mm_c78 : List (Nat × mm_E) := [
  (0, (.iload_n 1), 1, 0, 0),
  (1, (.ifCond .lt 10), 3, 11, 0),
  (4, (.iload_n 1), 1, 0, 0),
  (5, (.sipush 255), 3, 0, 0),
  (8, (.if_icmp .le 5), 3, 13, 0),
  (11, (.iconst (-1)), 1, 0, 0),
  (12, .ireturn, 1, 0, 0),
  (13, (.aload_n 0), 1, 0, 0),
  (14, (.getfield 61), 3, 8, 9),
  (17, (.istore_n 2), 1, 0, 0),
  (18, (.aload_n 0), 1, 0, 0),
  (19, (.iload_n 1), 1, 0, 0),
  (20, (.iconst 1), 1, 0, 0),
  (21, .ior, 1, 0, 0),
  (22, (.putfield 61), 3, 8, 9),
  (25, (.iload_n 2), 1, 0, 0),
  (26, .ireturn, 1, 0, 0)]
theorem mm_ck78 : mm_c78.all (mm_ckE 8 prog_1_method_12_code) = true := by decide +kernel
def mm_c79 : List (Nat × mm_E) := [
  (0, (.aload_n 0), 1, 0, 0),
  (1, (.getfield 19), 3, 8, 1),
  (4, (.iload_n 1), 1, 0, 0),
  (5, (.iload_n 2), 1, 0, 0),
  (6, (.invokevirtual 140), 3, 48, 3),
  (9, (.ifCond .eq 15), 3, 24, 0),
  (12, (.aload_n 0), 1, 0, 0),
  (13, (.getfield 19), 3, 8, 1),
  (16, (.iload_n 1), 1, 0, 0),
  (17, (.iload_n 2), 1, 0, 0),
  (18, (.invokevirtual 144), 3, 49, 3),
  (21, (.goto 5), 3, 26, 0),
  (24, (.ldc 149), 2, 2147483648, 0),
  (26, .ireturn, 1, 0, 0)]
theorem mm_ck79 : mm_c79.all (mm_ckE 8 prog_1_method_13_code) = true := by decide +kernel
def mm_c80 : List (Nat × mm_E) := [
  (0, (.aload_n 0), 1, 0, 0),
  (1, (.iload_n 1), 1, 0, 0),
  (2, (.invokevirtual 150), 3, 87, 2),
  (5, (.ifCond .ne 5), 3, 10, 0),
  (8, (.iconst (-1)), 1, 0, 0),
  (9, .ireturn, 1, 0, 0),
  (10, (.aload_n 0), 1, 0, 0),
  (11, (.getfield 33), 3, 8, 3),
  (14, (.aload_n 0), 1, 0, 0),
  (15, (.getfield 19), 3, 8, 1),
  (18, (.aload_n 0), 1, 0, 0),
  (19, (.getfield 26), 3, 8, 2),
  (22, (.aload_n 0), 1, 0, 0),
  (23, (.getfield 54), 3, 8, 7),
  (26, (.iload_n 1), 1, 0, 0),
  (27, (.aload_n 0), 1, 0, 0),
  (28, (.getfield 58), 3, 8, 8),
  (31, (.aload_n 0), 1, 0, 0),
  (32, (.getfield 61), 3, 8, 9),
  (35, (.invokevirtual 153), 3, 11, 7),
  (38, (.aload_n 0), 1, 0, 0),
  (39, (.getfield 33), 3, 8, 3),
  (42, (.getfield 157), 3, 1, 6),
  (45, .ireturn, 1, 0, 0)]
theorem mm_ck80 : mm_c80.all (mm_ckE 8 prog_1_method_14_code) = true := by decide +kernel
def mm_c81 : List (Nat × mm_E) := [
  (0, (.iload_n 2), 1, 0, 0),
  (1, (.ifCond .lt 31), 3, 32, 0),
  (4, (.iload_n 2), 1, 0, 0),
  (5, (.iconst 4), 1, 0, 0),
  (6, (.if_icmp .ge 26), 3, 32, 0),
  (9, (.iload_n 2), 1, 0, 0),
  (10, (.ifCond .le 14), 3, 24, 0),
  (13, (.aload_n 0), 1, 0, 0),
  (14, (.getfield 19), 3, 8, 1),
  (17, (.getfield 75), 3, 5, 2),
  (20, (.iconst 2), 1, 0, 0),
  (21, (.if_icmp .lt 11), 3, 32, 0),
  (24, (.aload_n 0), 1, 0, 0),
  (25, (.iload_n 1), 1, 0, 0),
  (26, (.invokevirtual 150), 3, 87, 2),
  (29, (.ifCond .ne 5), 3, 34, 0),
  (32, (.iconst (-1)), 1, 0, 0),
  (33, .ireturn, 1, 0, 0),
  (34, (.aload_n 0), 1, 0, 0),
  (35, (.getfield 33), 3, 8, 3),
  (38, (.aload_n 0), 1, 0, 0),
  (39, (.getfield 19), 3, 8, 1),
  (42, (.aload_n 0), 1, 0, 0),
  (43, (.getfield 26), 3, 8, 2),
  (46, (.aload_n 0), 1, 0, 0),
  (47, (.getfield 54), 3, 8, 7),
  (50, (.iload_n 1), 1, 0, 0),
  (51, (.aload_n 0), 1, 0, 0),
  (52, (.getfield 58), 3, 8, 8),
  (55, (.aload_n 0), 1, 0, 0),
  (56, (.getfield 61), 3, 8, 9),
  (59, (.invokevirtual 153), 3, 11, 7),
  (62, (.aload_n 0), 1, 0, 0),
  (63, (.getfield 33), 3, 8, 3),
  (66, (.iload_n 2), 1, 0, 0),
  (67, (.invokevirtual 160), 3, 16, 2),
  (70, .ireturn, 1, 0, 0)]
theorem mm_ck81 : mm_c81.all (mm_ckE 8 prog_1_method_15_code) = true := by decide +kernel
def mm_c82 : List (Nat × mm_E) := [
  (0, (.aload_n 0), 1, 0, 0),
  (1, (.iload_n 1), 1, 0, 0),
  (2, (.iload_n 2), 1, 0, 0),
  (3, (.invokevirtual 163), 3, 88, 3),
  (6, (.astore 4), 2, 0, 0),
  (8, (.aload 4), 2, 0, 0),
  (10, (.ifnonnull 5), 3, 15, 0),
  (13, (.iconst (-1)), 1, 0, 0),
  (14, .ireturn, 1, 0, 0),
  (15, (.iload_n 3), 1, 0, 0),
  (16, (.tableswitch 46 0 2 #[28, 34, 40]), 28, 0, 0),
  (44, (.aload 4), 2, 0, 0),
  (46, (.getfield 167), 3, 4, 3),
  (49, .ireturn, 1, 0, 0),
  (50, (.aload 4), 2, 0, 0),
  (52, (.getfield 172), 3, 4, 4),
  (55, .ireturn, 1, 0, 0),
  (56, (.aload 4), 2, 0, 0),
  (58, (.getfield 175), 3, 4, 5),
  (61, .ireturn, 1, 0, 0),
  (62, (.iconst (-1)), 1, 0, 0),
  (63, .ireturn, 1, 0, 0)]
theorem mm_ck82 : mm_c82.all (mm_ckE 8 prog_1_method_16_code) = true := by decide +kernel
def mm_c83 : List (Nat × mm_E) := [
  (0, (.aload_n 0), 1, 0, 0),
  (1, (.iload_n 1), 1, 0, 0),
  (2, (.iload_n 2), 1, 0, 0),
  (3, (.invokevirtual 163), 3, 88, 3),
  (6, (.astore 5), 2, 0, 0),
  (8, (.aload 5), 2, 0, 0),
  (10, (.ifnull 16), 3, 26, 0),
  (13, (.iload_n 3), 1, 0, 0),
  (14, (.ifCond .lt 12), 3, 26, 0),
  (17, (.iload_n 3), 1, 0, 0),
  (18, (.aload 5), 2, 0, 0),
  (20, (.getfield 175), 3, 4, 5),
  (23, (.if_icmp .lt 5), 3, 28, 0),
  (26, (.iconst (-1)), 1, 0, 0),
  (27, .ireturn, 1, 0, 0),
  (28, (.iload 4), 2, 0, 0),
  (30, (.tableswitch 50 0 2 #[26, 34, 42]), 26, 0, 0),
  (56, (.aload 5), 2, 0, 0),
  (58, (.getfield 178), 3, 4, 6),
  (61, (.iload_n 3), 1, 0, 0),
  (62, .iaload, 1, 0, 0),
  (63, .ireturn, 1, 0, 0),
  (64, (.aload 5), 2, 0, 0),
  (66, (.getfield 181), 3, 4, 7),
  (69, (.iload_n 3), 1, 0, 0),
  (70, .iaload, 1, 0, 0),
  (71, .ireturn, 1, 0, 0),
  (72, (.aload 5), 2, 0, 0),
  (74, (.getfield 184), 3, 4, 9),
  (77, (.iload_n 3), 1, 0, 0),
  (78, .iaload, 1, 0, 0),
  (79, .ireturn, 1, 0, 0),
  (80, (.iconst (-1)), 1, 0, 0),
  (81, .ireturn, 1, 0, 0)]
theorem mm_ck83 : mm_c83.all (mm_ckE 8 prog_1_method_17_code) = true := by decide +kernel
def mm_c84 : List (Nat × mm_E) := [
  (0, (.aload_n 0), 1, 0, 0),
  (1, (.iload_n 1), 1, 0, 0),
  (2, (.iload_n 2), 1, 0, 0),
  (3, (.invokevirtual 163), 3, 88, 3),
  (6, (.astore 5), 2, 0, 0),
  (8, (.aload 5), 2, 0, 0),
  (10, (.ifnull 28), 3, 38, 0),
  (13, (.aload_n 0), 1, 0, 0),
  (14, (.aload 5), 2, 0, 0),
  (16, (.iload_n 3), 1, 0, 0),
  (17, (.invokevirtual 187), 3, 89, 3),
  (20, (.ifCond .eq 18), 3, 38, 0),
  (23, (.iload 4), 2, 0, 0),
  (25, (.ifCond .lt 13), 3, 38, 0),
  (28, (.iload 4), 2, 0, 0),
  (30, (.aload 5), 2, 0, 0),
  (32, (.getfield 191), 3, 4, 1),
  (35, (.if_icmp .lt 11), 3, 46, 0),
  (38, (.new 194), 3, 100, 0),
  (41, .dup, 1, 0, 0),
  (42, (.invokespecial 196), 3, 1999, 0),
  (45, .athrow, 1, 0, 0),
  (46, (.aload 5), 2, 0, 0),
  (48, (.getfield 197), 3, 4, 0),
  (51, (.iload 4), 2, 0, 0),
  (53, .iaload, 1, 0, 0),
  (54, (.istore 6), 2, 0, 0),
  (56, (.iload 4), 2, 0, 0),
  (58, (.aload_n 0), 1, 0, 0),
  (59, (.getfield 26), 3, 8, 2),
  (62, (.getfield 137), 3, 2, 1),
  (65, (.iload_n 3), 1, 0, 0),
  (66, .iaload, 1, 0, 0),
  (67, (.if_icmp .ge 6), 3, 73, 0),
  (70, (.iload 6), 2, 0, 0),
  (72, .ireturn, 1, 0, 0),
  (73, (.iload 6), 2, 0, 0),
  (75, (.aload_n 0), 1, 0, 0),
  (76, (.getfield 26), 3, 8, 2),
  (79, (.iload_n 3), 1, 0, 0),
  (80, (.aload 5), 2, 0, 0),
  (82, (.getfield 197), 3, 4, 0),
  (85, (.iload 4), 2, 0, 0),
  (87, (.invokevirtual 200), 3, 22, 4),
  (90, .isub, 1, 0, 0),
  (91, .ireturn, 1, 0, 0)]
theorem mm_ck84 : mm_c84.all (mm_ckE 8 prog_1_method_18_code) = true := by decide +kernel
def mm_c85 : List (Nat × mm_E) := [
  (0, (.aload_n 0), 1, 0, 0),
  (1, (.iload_n 1), 1, 0, 0),
  (2, (.iload_n 2), 1, 0, 0),
  (3, (.invokevirtual 163), 3, 88, 3),
  (6, (.astore 4), 2, 0, 0),
  (8, (.aload 4), 2, 0, 0),
  (10, (.ifnull 13), 3, 23, 0),
  (13, (.aload_n 0), 1, 0, 0),
  (14, (.aload 4), 2, 0, 0),
  (16, (.iload_n 3), 1, 0, 0),
  (17, (.invokevirtual 187), 3, 89, 3),
  (20, (.ifCond .ne 5), 3, 25, 0),
  (23, (.iconst (-1)), 1, 0, 0),
  (24, .ireturn, 1, 0, 0),
  (25, (.aload_n 0), 1, 0, 0),
  (26, (.getfield 41), 3, 8, 4),
  (29, (.aload 4), 2, 0, 0),
  (31, (.aload_n 0), 1, 0, 0),
  (32, (.getfield 26), 3, 8, 2),
  (35, (.iload_n 3), 1, 0, 0),
  (36, (.invokevirtual 204), 3, 2, 4),
  (39, (.aload 4), 2, 0, 0),
  (41, (.aload_n 0), 1, 0, 0),
  (42, (.getfield 26), 3, 8, 2),
  (45, (.getfield 137), 3, 2, 1),
  (48, (.iload_n 3), 1, 0, 0),
  (49, .iaload, 1, 0, 0),
  (50, (.invokevirtual 210), 3, 43, 2),
  (53, (.aload_n 0), 1, 0, 0),
  (54, (.getfield 58), 3, 8, 8),
  (57, (.ifCond .ne 13), 3, 70, 0),
  (60, (.aload_n 0), 1, 0, 0),
  (61, (.getfield 41), 3, 8, 4),
  (64, (.invokevirtual 213), 3, 4, 1),
  (67, (.goto 10), 3, 77, 0),
  (70, (.aload_n 0), 1, 0, 0),
  (71, (.getfield 41), 3, 8, 4),
  (74, (.invokevirtual 216), 3, 6, 1),
  (77, .iadd, 1, 0, 0),
  (78, .ireturn, 1, 0, 0)]
theorem mm_ck85 : mm_c85.all (mm_ckE 8 prog_1_method_19_code) = true := by decide +kernel
def mm_c86 : List (Nat × mm_E) := [
  (0, (.aload_n 0), 1, 0, 0),
  (1, (.iload_n 1), 1, 0, 0),
  (2, (.iload_n 2), 1, 0, 0),
  (3, (.invokevirtual 163), 3, 88, 3),
  (6, (.astore 4), 2, 0, 0),
  (8, (.aload 4), 2, 0, 0),
  (10, (.ifnull 13), 3, 23, 0),
  (13, (.aload_n 0), 1, 0, 0),
  (14, (.aload 4), 2, 0, 0),
  (16, (.iload_n 3), 1, 0, 0),
  (17, (.invokevirtual 187), 3, 89, 3),
  (20, (.ifCond .ne 5), 3, 25, 0),
  (23, (.iconst (-1)), 1, 0, 0),
  (24, .ireturn, 1, 0, 0),
  (25, (.aload_n 0), 1, 0, 0),
  (26, (.getfield 41), 3, 8, 4),
  (29, (.aload 4), 2, 0, 0),
  (31, (.aload_n 0), 1, 0, 0),
  (32, (.getfield 26), 3, 8, 2),
  (35, (.iload_n 3), 1, 0, 0),
  (36, (.invokevirtual 204), 3, 2, 4),
  (39, (.aload_n 0), 1, 0, 0),
  (40, (.getfield 41), 3, 8, 4),
  (43, (.invokevirtual 219), 3, 3, 1),
  (46, (.invokestatic 223), 3, 121, 1),
  (49, .ireturn, 1, 0, 0)]
theorem mm_ck86 : mm_c86.all (mm_ckE 8 prog_1_method_20_code) = true := by decide +kernel
def mm_c87 : List (Nat × mm_E) := [
  (0, (.iload_n 1), 1, 0, 0),
  (1, (.ifCond .lt 22), 3, 23, 0),
  (4, (.iload_n 1), 1, 0, 0),
  (5, (.aload_n 0), 1, 0, 0),
  (6, (.getfield 19), 3, 8, 1),
  (9, (.aload_n 0), 1, 0, 0),
  (10, (.getfield 54), 3, 8, 7),
  (13, (.invokevirtual 227), 3, 55, 2),
  (16, (.if_icmp .ge 7), 3, 23, 0),
  (19, (.iconst 1), 1, 0, 0),
  (20, (.goto 4), 3, 24, 0),
  (23, (.iconst 0), 1, 0, 0),
  (24, .ireturn, 1, 0, 0)]
theorem mm_ck87 : mm_c87.all (mm_ckE 8 prog_1_method_21_code) = true := by decide +kernel
def mm_c88 : List (Nat × mm_E) := [
  (0, (.iload_n 2), 1, 0, 0),
  (1, (.ifCond .lt 22), 3, 23, 0),
  (4, (.iload_n 2), 1, 0, 0),
  (5, (.aload_n 0), 1, 0, 0),
  (6, (.getfield 19), 3, 8, 1),
  (9, (.getfield 75), 3, 5, 2),
  (12, (.if_icmp .ge 11), 3, 23, 0),
  (15, (.aload_n 0), 1, 0, 0),
  (16, (.iload_n 1), 1, 0, 0),
  (17, (.invokevirtual 150), 3, 87, 2),
  (20, (.ifCond .ne 5), 3, 25, 0),
  (23, .aconst_null, 1, 0, 0),
  (24, .areturn, 1, 0, 0),
  (25, (.aload_n 0), 1, 0, 0),
  (26, (.getfield 33), 3, 8, 3),
  (29, (.aload_n 0), 1, 0, 0),
  (30, (.getfield 19), 3, 8, 1),
  (33, (.aload_n 0), 1, 0, 0),
  (34, (.getfield 26), 3, 8, 2),
  (37, (.aload_n 0), 1, 0, 0),
  (38, (.getfield 54), 3, 8, 7),
  (41, (.iload_n 1), 1, 0, 0),
  (42, (.aload_n 0), 1, 0, 0),
  (43, (.getfield 58), 3, 8, 8),
  (46, (.aload_n 0), 1, 0, 0),
  (47, (.getfield 61), 3, 8, 9),
  (50, (.invokevirtual 153), 3, 11, 7),
  (53, (.iload_n 2), 1, 0, 0),
  (54, (.ifCond .ne 20), 3, 74, 0),
  (57, (.aload_n 0), 1, 0, 0),
  (58, (.getfield 33), 3, 8, 3),
  (61, (.aload_n 0), 1, 0, 0),
  (62, (.getfield 33), 3, 8, 3),
  (65, (.getfield 157), 3, 1, 6),
  (68, (.invokevirtual 230), 3, 14, 2),
  (71, (.goto 17), 3, 88, 0),
  (74, (.aload_n 0), 1, 0, 0),
  (75, (.getfield 33), 3, 8, 3),
  (78, (.aload_n 0), 1, 0, 0),
  (79, (.getfield 33), 3, 8, 3),
  (82, (.getfield 157), 3, 1, 6),
  (85, (.invokevirtual 234), 3, 15, 2),
  (88, .areturn, 1, 0, 0)]
theorem mm_ck88 : mm_c88.all (mm_ckE 8 prog_1_method_22_code) = true := by decide +kernel
def mm_c89 : List (Nat × mm_E) := [
  (0, (.iload_n 2), 1, 0, 0),
  (1, (.ifCond .lt 29), 3, 30, 0),
  (4, (.iload_n 2), 1, 0, 0),
  (5, (.bipush 8), 2, 0, 0),
  (7, (.if_icmp .ge 23), 3, 30, 0),
  (10, (.aload_n 0), 1, 0, 0),
  (11, (.getfield 26), 3, 8, 2),
  (14, (.getfield 137), 3, 2, 1),
  (17, (.iload_n 2), 1, 0, 0),
  (18, .iaload, 1, 0, 0),
  (19, (.aload_n 1), 1, 0, 0),
  (20, (.getfield 191), 3, 4, 1),
  (23, (.if_icmp .ge 7), 3, 30, 0),
  (26, (.iconst 1), 1, 0, 0),
  (27, (.goto 4), 3, 31, 0),
  (30, (.iconst 0), 1, 0, 0),
  (31, .ireturn, 1, 0, 0)]
theorem mm_ck89 : mm_c89.all (mm_ckE 8 prog_1_method_23_code) = true := by decide +kernel
def mm_c90 : List (Nat × mm_E) := [
  (0, (.aload_n 0), 1, 0, 0),
  (1, (.getfield 19), 3, 8, 1),
  (4, (.invokevirtual 237), 3, 54, 1),
  (7, (.ifCond .eq 18), 3, 25, 0),
  (10, (.aload_n 0), 1, 0, 0),
  (11, (.aload_n 0), 1, 0, 0),
  (12, (.getfield 54), 3, 8, 7),
  (15, (.aload_n 0), 1, 0, 0),
  (16, (.getfield 61), 3, 8, 9),
  (19, (.invokevirtual 241), 3, 94, 3),
  (22, (.goto 4), 3, 26, 0),
  (25, (.iconst (-1)), 1, 0, 0),
  (26, .ireturn, 1, 0, 0)]
theorem mm_ck90 : mm_c90.all (mm_ckE 8 prog_1_method_24_code) = true := by decide +kernel
def mm_c91 : List (Nat × mm_E) := [
  (0, (.aload_n 0), 1, 0, 0),
  (1, (.getfield 19), 3, 8, 1),
  (4, (.invokevirtual 237), 3, 54, 1),
  (7, (.ifCond .eq 22), 3, 29, 0),
  (10, (.iload_n 1), 1, 0, 0),
  (11, (.invokestatic 124), 3, 118, 1),
  (14, (.ifCond .eq 15), 3, 29, 0),
  (17, (.aload_n 0), 1, 0, 0),
  (18, (.iload_n 1), 1, 0, 0),
  (19, (.aload_n 0), 1, 0, 0),
  (20, (.getfield 61), 3, 8, 9),
  (23, (.invokevirtual 241), 3, 94, 3),
  (26, (.goto 4), 3, 30, 0),
  (29, (.iconst (-1)), 1, 0, 0),
  (30, .ireturn, 1, 0, 0)]
theorem mm_ck91 : mm_c91.all (mm_ckE 8 prog_1_method_25_code) = true := by decide +kernel
def mm_c92 : List (Nat × mm_E) := [
  (0, (.aload_n 0), 1, 0, 0),
  (1, (.getfield 19), 3, 8, 1),
  (4, (.invokevirtual 237), 3, 54, 1),
  (7, (.ifCond .eq 14), 3, 21, 0),
  (10, (.iload_n 1), 1, 0, 0),
  (11, (.iconst 1), 1, 0, 0),
  (12, (.if_icmp .lt 9), 3, 21, 0),
  (15, (.iload_n 1), 1, 0, 0),
  (16, (.bipush 8), 2, 0, 0),
  (18, (.if_icmp .lt 5), 3, 23, 0),
  (21, (.iconst (-1)), 1, 0, 0),
  (22, .ireturn, 1, 0, 0),
  (23, (.aload_n 0), 1, 0, 0),
  (24, (.aload_n 0), 1, 0, 0),
  (25, (.getfield 54), 3, 8, 7),
  (28, (.aload_n 0), 1, 0, 0),
  (29, (.getfield 61), 3, 8, 9),
  (32, (.iconst 1), 1, 0, 0),
  (33, (.iload_n 1), 1, 0, 0),
  (34, .ishl, 1, 0, 0),
  (35, (.iconst (-1)), 1, 0, 0),
  (36, .ixor, 1, 0, 0),
  (37, .iand, 1, 0, 0),
  (38, (.invokevirtual 241), 3, 94, 3),
  (41, .ireturn, 1, 0, 0)]
theorem mm_ck92 : mm_c92.all (mm_ckE 8 prog_1_method_26_code) = true := by decide +kernel
def mm_c93 : List (Nat × mm_E) := [
  (0, (.aload_n 0), 1, 0, 0),
  (1, (.getfield 19), 3, 8, 1),
  (4, (.invokevirtual 237), 3, 54, 1),
  (7, (.ifCond .ne 5), 3, 12, 0),
  (10, (.iconst (-1)), 1, 0, 0),
  (11, .ireturn, 1, 0, 0),
  (12, (.bipush 16), 2, 0, 0),
  (14, (.istore_n 1), 1, 0, 0),
  (15, (.aload_n 0), 1, 0, 0),
  (16, (.bipush 16), 2, 0, 0),
  (18, (.aload_n 0), 1, 0, 0),
  (19, (.getfield 61), 3, 8, 9),
  (22, (.invokevirtual 241), 3, 94, 3),
  (25, (.istore_n 2), 1, 0, 0),
  (26, (.bipush 24), 2, 0, 0),
  (28, (.istore_n 3), 1, 0, 0),
  (29, (.iload_n 3), 1, 0, 0),
  (30, (.bipush 64), 2, 0, 0),
  (32, (.if_icmp .gt 31), 3, 63, 0),
  (35, (.aload_n 0), 1, 0, 0),
  (36, (.iload_n 3), 1, 0, 0),
  (37, (.aload_n 0), 1, 0, 0),
  (38, (.getfield 61), 3, 8, 9),
  (41, (.invokevirtual 241), 3, 94, 3),
  (44, (.istore 4), 2, 0, 0),
  (46, (.iload 4), 2, 0, 0),
  (48, (.iload_n 2), 1, 0, 0),
  (49, (.if_icmp .ge 8), 3, 57, 0),
  (52, (.iload 4), 2, 0, 0),
  (54, (.istore_n 2), 1, 0, 0),
  (55, (.iload_n 3), 1, 0, 0),
  (56, (.istore_n 1), 1, 0, 0),
  (57, (.iinc 3 8), 3, 0, 0),
  (60, (.goto (-31)), 3, 29, 0),
  (63, (.iload_n 1), 1, 0, 0),
  (64, .ireturn, 1, 0, 0)]
theorem mm_ck93 : mm_c93.all (mm_ckE 8 prog_1_method_27_code) = true := by decide +kernel
def mm_c94 : List (Nat × mm_E) := [
  (0, (.bipush 21), 2, 0, 0),
  (2, (.istore_n 3), 1, 0, 0),
  (3, (.aload_n 0), 1, 0, 0),
  (4, (.getfield 19), 3, 8, 1),
  (7, (.iload_n 1), 1, 0, 0),
  (8, (.invokevirtual 227), 3, 55, 2),
  (11, (.istore 4), 2, 0, 0),
  (13, (.iconst 0), 1, 0, 0),
  (14, (.istore 5), 2, 0, 0),
  (16, (.iload 5), 2, 0, 0),
  (18, (.iload 4), 2, 0, 0),
  (20, (.if_icmp .ge 52), 3, 72, 0),
  (23, (.aload_n 0), 1, 0, 0),
  (24, (.getfield 33), 3, 8, 3),
  (27, (.aload_n 0), 1, 0, 0),
  (28, (.getfield 19), 3, 8, 1),
  (31, (.aload_n 0), 1, 0, 0),
  (32, (.getfield 26), 3, 8, 2),
  (35, (.iload_n 1), 1, 0, 0),
  (36, (.iload 5), 2, 0, 0),
  (38, (.aload_n 0), 1, 0, 0),
  (39, (.getfield 58), 3, 8, 8),
  (42, (.iload_n 2), 1, 0, 0),
  (43, (.invokevirtual 153), 3, 11, 7),
  (46, (.iload_n 3), 1, 0, 0),
  (47, (.iconst 2), 1, 0, 0),
  (48, (.aload_n 0), 1, 0, 0),
  (49, (.getfield 33), 3, 8, 3),
  (52, (.invokevirtual 244), 3, 17, 1),
  (55, (.bipush 7), 2, 0, 0),
  (57, .iadd, 1, 0, 0),
  (58, (.bipush 8), 2, 0, 0),
  (60, .idiv, 1, 0, 0),
  (61, .iadd, 1, 0, 0),
  (62, (.iconst 2), 1, 0, 0),
  (63, .iadd, 1, 0, 0),
  (64, .iadd, 1, 0, 0),
  (65, (.istore_n 3), 1, 0, 0),
  (66, (.iinc 5 1), 3, 0, 0),
  (69, (.goto (-53)), 3, 16, 0),
  (72, (.iload_n 3), 1, 0, 0),
  (73, .ireturn, 1, 0, 0)]
theorem mm_ck94 : mm_c94.all (mm_ckE 8 prog_1_method_28_code) = true := by decide +kernel
def mm_c95 : List (Nat × mm_E) := [
  (0, (.aload_n 0), 1, 0, 0),
  (1, (.getfield 19), 3, 8, 1),
  (4, (.invokevirtual 237), 3, 54, 1),
  (7, (.ifCond .ne 5), 3, 12, 0),
  (10, (.iconst (-1)), 1, 0, 0),
  (11, .ireturn, 1, 0, 0),
  (12, (.aload_n 0), 1, 0, 0),
  (13, (.getfield 53), 3, 8, 6),
  (16, (.iconst 0), 1, 0, 0),
  (17, (.putfield 247), 3, 6, 1),
  (20, (.aload_n 0), 1, 0, 0),
  (21, (.invokevirtual 250), 3, 96, 1),
  (24, (.aload_n 0), 1, 0, 0),
  (25, (.getfield 19), 3, 8, 1),
  (28, (.aload_n 0), 1, 0, 0),
  (29, (.getfield 54), 3, 8, 7),
  (32, (.invokevirtual 227), 3, 55, 2),
  (35, (.istore_n 1), 1, 0, 0),
  (36, (.iconst 0), 1, 0, 0),
  (37, (.istore_n 2), 1, 0, 0),
  (38, (.iload_n 2), 1, 0, 0),
  (39, (.iload_n 1), 1, 0, 0),
  (40, (.if_icmp .ge 42), 3, 82, 0),
  (43, (.aload_n 0), 1, 0, 0),
  (44, (.getfield 33), 3, 8, 3),
  (47, (.aload_n 0), 1, 0, 0),
  (48, (.getfield 19), 3, 8, 1),
  (51, (.aload_n 0), 1, 0, 0),
  (52, (.getfield 26), 3, 8, 2),
  (55, (.aload_n 0), 1, 0, 0),
  (56, (.getfield 54), 3, 8, 7),
  (59, (.iload_n 2), 1, 0, 0),
  (60, (.aload_n 0), 1, 0, 0),
  (61, (.getfield 58), 3, 8, 8),
  (64, (.aload_n 0), 1, 0, 0),
  (65, (.getfield 61), 3, 8, 9),
  (68, (.invokevirtual 153), 3, 11, 7),
  (71, (.aload_n 0), 1, 0, 0),
  (72, (.iload_n 2), 1, 0, 0),
  (73, (.invokevirtual 253), 3, 97, 2),
  (76, (.iinc 2 1), 3, 0, 0),
  (79, (.goto (-41)), 3, 38, 0),
  (82, (.aload_n 0), 1, 0, 0),
  (83, (.getfield 53), 3, 8, 6),
  (86, (.getfield 247), 3, 6, 1),
  (89, .ireturn, 1, 0, 0)]
theorem mm_ck95 : mm_c95.all (mm_ckE 8 prog_1_method_29_code) = true := by decide +kernel
def mm_c96 : List (Nat × mm_E) := [
  (0, (.aload_n 0), 1, 0, 0),
  (1, (.getfield 53), 3, 8, 6),
  (4, (.bipush 83), 2, 0, 0),
  (6, (.invokevirtual 257), 3, 58, 2),
  (9, (.aload_n 0), 1, 0, 0),
  (10, (.getfield 53), 3, 8, 6),
  (13, (.bipush 80), 2, 0, 0),
  (15, (.invokevirtual 257), 3, 58, 2),
  (18, (.aload_n 0), 1, 0, 0),
  (19, (.getfield 53), 3, 8, 6),
  (22, (.aload_n 0), 1, 0, 0),
  (23, (.getfield 19), 3, 8, 1),
  (26, (.getfield 75), 3, 5, 2),
  (29, (.invokevirtual 257), 3, 58, 2),
  (32, (.aload_n 0), 1, 0, 0),
  (33, (.getfield 53), 3, 8, 6),
  (36, (.aload_n 0), 1, 0, 0),
  (37, (.getfield 19), 3, 8, 1),
  (40, (.getfield 78), 3, 5, 3),
  (43, (.invokevirtual 257), 3, 58, 2),
  (46, (.aload_n 0), 1, 0, 0),
  (47, (.getfield 53), 3, 8, 6),
  (50, (.aload_n 0), 1, 0, 0),
  (51, (.getfield 54), 3, 8, 7),
  (54, (.invokevirtual 257), 3, 58, 2),
  (57, (.aload_n 0), 1, 0, 0),
  (58, (.getfield 53), 3, 8, 6),
  (61, (.aload_n 0), 1, 0, 0),
  (62, (.getfield 19), 3, 8, 1),
  (65, (.getfield 84), 3, 5, 1),
  (68, (.iconst 0), 1, 0, 0),
  (69, .iaload, 1, 0, 0),
  (70, (.bipush 8), 2, 0, 0),
  (72, .ishr, 1, 0, 0),
  (73, (.invokevirtual 257), 3, 58, 2),
  (76, (.aload_n 0), 1, 0, 0),
  (77, (.getfield 53), 3, 8, 6),
  (80, (.aload_n 0), 1, 0, 0),
  (81, (.getfield 19), 3, 8, 1),
  (84, (.getfield 84), 3, 5, 1),
  (87, (.iconst 0), 1, 0, 0),
  (88, .iaload, 1, 0, 0),
  (89, (.invokevirtual 257), 3, 58, 2),
  (92, (.iconst 5), 1, 0, 0),
  (93, (.istore_n 1), 1, 0, 0),
  (94, (.iload_n 1), 1, 0, 0),
  (95, (.bipush 8), 2, 0, 0),
  (97, (.if_icmp .ge 54), 3, 151, 0),
  (100, (.iconst 0), 1, 0, 0),
  (101, (.istore_n 2), 1, 0, 0),
  (102, (.iload_n 2), 1, 0, 0),
  (103, (.iconst 3), 1, 0, 0),
  (104, (.if_icmp .ge 25), 3, 129, 0),
  (107, (.aload_n 0), 1, 0, 0),
  (108, (.getfield 53), 3, 8, 6),
  (111, (.aload_n 0), 1, 0, 0),
  (112, (.getfield 26), 3, 8, 2),
  (115, (.iload_n 1), 1, 0, 0),
  (116, (.iload_n 2), 1, 0, 0),
  (117, (.invokevirtual 260), 3, 21, 3),
  (120, (.invokevirtual 257), 3, 58, 2),
  (123, (.iinc 2 1), 3, 0, 0),
  (126, (.goto (-24)), 3, 102, 0),
  (129, (.aload_n 0), 1, 0, 0),
  (130, (.getfield 53), 3, 8, 6),
  (133, (.aload_n 0), 1, 0, 0),
  (134, (.getfield 26), 3, 8, 2),
  (137, (.getfield 263), 3, 2, 2),
  (140, (.iload_n 1), 1, 0, 0),
  (141, .iaload, 1, 0, 0),
  (142, (.invokevirtual 257), 3, 58, 2),
  (145, (.iinc 1 1), 3, 0, 0),
  (148, (.goto (-54)), 3, 94, 0),
  (151, (.aload_n 0), 1, 0, 0),
  (152, (.getfield 53), 3, 8, 6),
  (155, (.iconst 0), 1, 0, 0),
  (156, (.invokevirtual 266), 3, 61, 2),
  (159, .return_, 1, 0, 0)]
theorem mm_ck96 : mm_c96.all (mm_ckE 8 prog_1_method_30_code) = true := by decide +kernel
def mm_c97 : List (Nat × mm_E) := [
  (0, (.aload_n 0), 1, 0, 0),
  (1, (.getfield 53), 3, 8, 6),
  (4, (.getfield 247), 3, 6, 1),
  (7, (.istore_n 2), 1, 0, 0),
  (8, (.aload_n 0), 1, 0, 0),
  (9, (.getfield 53), 3, 8, 6),
  (12, (.sipush 165), 3, 0, 0),
  (15, (.invokevirtual 257), 3, 58, 2),
  (18, (.aload_n 0), 1, 0, 0),
  (19, (.getfield 53), 3, 8, 6),
  (22, (.iload_n 1), 1, 0, 0),
  (23, (.invokevirtual 257), 3, 58, 2),
  (26, (.aload_n 0), 1, 0, 0),
  (27, (.getfield 19), 3, 8, 1),
  (30, (.getfield 75), 3, 5, 2),
  (33, (.iconst 2), 1, 0, 0),
  (34, (.if_icmp .ne 18), 3, 52, 0),
  (37, (.aload_n 0), 1, 0, 0),
  (38, (.getfield 53), 3, 8, 6),
  (41, (.aload_n 0), 1, 0, 0),
  (42, (.getfield 33), 3, 8, 3),
  (45, (.getfield 157), 3, 1, 6),
  (48, (.iconst 2), 1, 0, 0),
  (49, (.invokevirtual 269), 3, 59, 3),
  (52, (.aload_n 0), 1, 0, 0),
  (53, (.aload_n 0), 1, 0, 0),
  (54, (.getfield 33), 3, 8, 3),
  (57, (.aload_n 0), 1, 0, 0),
  (58, (.getfield 33), 3, 8, 3),
  (61, (.getfield 157), 3, 1, 6),
  (64, (.invokevirtual 230), 3, 14, 2),
  (67, (.invokevirtual 272), 3, 98, 2),
  (70, (.aload_n 0), 1, 0, 0),
  (71, (.getfield 19), 3, 8, 1),
  (74, (.getfield 75), 3, 5, 2),
  (77, (.iconst 2), 1, 0, 0),
  (78, (.if_icmp .ne 21), 3, 99, 0),
  (81, (.aload_n 0), 1, 0, 0),
  (82, (.aload_n 0), 1, 0, 0),
  (83, (.getfield 33), 3, 8, 3),
  (86, (.aload_n 0), 1, 0, 0),
  (87, (.getfield 33), 3, 8, 3),
  (90, (.getfield 157), 3, 1, 6),
  (93, (.invokevirtual 234), 3, 15, 2),
  (96, (.invokevirtual 272), 3, 98, 2),
  (99, (.aload_n 0), 1, 0, 0),
  (100, (.getfield 53), 3, 8, 6),
  (103, (.invokevirtual 276), 3, 60, 1),
  (106, (.aload_n 0), 1, 0, 0),
  (107, (.getfield 53), 3, 8, 6),
  (110, (.iload_n 2), 1, 0, 0),
  (111, (.invokevirtual 266), 3, 61, 2),
  (114, .return_, 1, 0, 0)]
theorem mm_ck97 : mm_c97.all (mm_ckE 8 prog_1_method_31_code) = true := by decide +kernel
end
section
def mm_c98 : List (Nat × mm_E) := [
  (0, (.aload_n 0), 1, 0, 0),
  (1, (.getfield 53), 3, 8, 6),
  (4, (.aload_n 1), 1, 0, 0),
  (5, (.getfield 167), 3, 4, 3),
  (8, (.iconst 4), 1, 0, 0),
  (9, (.invokevirtual 269), 3, 59, 3),
  (12, (.aload_n 1), 1, 0, 0),
  (13, (.getfield 191), 3, 4, 1),
  (16, (.istore_n 2), 1, 0, 0),
  (17, (.aload_n 1), 1, 0, 0),
  (18, (.getfield 167), 3, 4, 3),
  (21, (.bipush 8), 2, 0, 0),
  (23, (.if_icmp .ne 8), 3, 31, 0),
  (26, (.iconst 1), 1, 0, 0),
  (27, (.istore_n 2), 1, 0, 0),
  (28, (.goto 25), 3, 53, 0),
  (31, (.aload_n 1), 1, 0, 0),
  (32, (.getfield 167), 3, 4, 3),
  (35, (.bipush 8), 2, 0, 0),
  (37, (.if_icmp .ge 16), 3, 53, 0),
  (40, (.aload_n 0), 1, 0, 0),
  (41, (.getfield 26), 3, 8, 2),
  (44, (.getfield 137), 3, 2, 1),
  (47, (.aload_n 1), 1, 0, 0),
  (48, (.getfield 167), 3, 4, 3),
  (51, .iaload, 1, 0, 0),
  (52, (.istore_n 2), 1, 0, 0),
  (53, (.iconst 0), 1, 0, 0),
  (54, (.istore_n 3), 1, 0, 0),
  (55, (.iload_n 3), 1, 0, 0),
  (56, (.iload_n 2), 1, 0, 0),
  (57, (.if_icmp .ge 26), 3, 83, 0),
  (60, (.aload_n 0), 1, 0, 0),
  (61, (.getfield 53), 3, 8, 6),
  (64, (.aload_n 1), 1, 0, 0),
  (65, (.getfield 197), 3, 4, 0),
  (68, (.iload_n 3), 1, 0, 0),
  (69, .iaload, 1, 0, 0),
  (70, (.aload_n 1), 1, 0, 0),
  (71, (.getfield 279), 3, 4, 2),
  (74, (.invokevirtual 269), 3, 59, 3),
  (77, (.iinc 3 1), 3, 0, 0),
  (80, (.goto (-25)), 3, 55, 0),
  (83, (.aload_n 1), 1, 0, 0),
  (84, (.getfield 167), 3, 4, 3),
  (87, (.bipush 8), 2, 0, 0),
  (89, (.if_icmp .ge 8), 3, 97, 0),
  (92, (.aload_n 0), 1, 0, 0),
  (93, (.aload_n 1), 1, 0, 0),
  (94, (.invokevirtual 280), 3, 99, 2),
  (97, .return_, 1, 0, 0)]
theorem mm_ck98 : mm_c98.all (mm_ckE 8 prog_1_method_32_code) = true := by decide +kernel
def mm_c99 : List (Nat × mm_E) := [
  (0, (.aload_n 0), 1, 0, 0),
  (1, (.getfield 41), 3, 8, 4),
  (4, (.aload_n 1), 1, 0, 0),
  (5, (.aload_n 0), 1, 0, 0),
  (6, (.getfield 26), 3, 8, 2),
  (9, (.aload_n 1), 1, 0, 0),
  (10, (.getfield 167), 3, 4, 3),
  (13, (.invokevirtual 204), 3, 2, 4),
  (16, (.iconst 0), 1, 0, 0),
  (17, (.istore_n 2), 1, 0, 0),
  (18, (.iconst 0), 1, 0, 0),
  (19, (.istore_n 3), 1, 0, 0),
  (20, (.iload_n 3), 1, 0, 0),
  (21, (.aload_n 1), 1, 0, 0),
  (22, (.getfield 175), 3, 4, 5),
  (25, (.if_icmp .ge 122), 3, 147, 0),
  (28, (.aload_n 0), 1, 0, 0),
  (29, (.getfield 41), 3, 8, 4),
  (32, (.getfield 283), 3, 0, 1),
  (35, (.iload_n 2), 1, 0, 0),
  (36, (.aload_n 1), 1, 0, 0),
  (37, (.getfield 178), 3, 4, 6),
  (40, (.iload_n 3), 1, 0, 0),
  (41, .iaload, 1, 0, 0),
  (42, (.bipush 8), 2, 0, 0),
  (44, .imul, 1, 0, 0),
  (45, .iadd, 1, 0, 0),
  (46, (.invokestatic 284), 3, 226, 2),
  (49, (.istore 4), 2, 0, 0),
  (51, (.aload_n 1), 1, 0, 0),
  (52, (.getfield 181), 3, 4, 7),
  (55, (.iload_n 3), 1, 0, 0),
  (56, .iaload, 1, 0, 0),
  (57, (.istore 5), 2, 0, 0),
  (59, (.aload_n 0), 1, 0, 0),
  (60, (.getfield 53), 3, 8, 6),
  (63, (.aload_n 1), 1, 0, 0),
  (64, (.getfield 178), 3, 4, 6),
  (67, (.iload_n 3), 1, 0, 0),
  (68, .iaload, 1, 0, 0),
  (69, (.iconst 1), 1, 0, 0),
  (70, .isub, 1, 0, 0),
  (71, (.iconst 3), 1, 0, 0),
  (72, (.invokevirtual 269), 3, 59, 3),
  (75, (.aload_n 0), 1, 0, 0),
  (76, (.getfield 53), 3, 8, 6),
  (79, (.iload 5), 2, 0, 0),
  (81, (.iconst 4), 1, 0, 0),
  (82, (.invokevirtual 269), 3, 59, 3),
  (85, (.iload 5), 2, 0, 0),
  (87, (.bipush 14), 2, 0, 0),
  (89, (.if_icmp .ne 33), 3, 122, 0),
  (92, (.aload_n 0), 1, 0, 0),
  (93, (.getfield 53), 3, 8, 6),
  (96, (.aload_n 1), 1, 0, 0),
  (97, (.getfield 289), 3, 4, 8),
  (100, (.iload_n 3), 1, 0, 0),
  (101, .iaload, 1, 0, 0),
  (102, (.iconst 5), 1, 0, 0),
  (103, (.invokevirtual 269), 3, 59, 3),
  (106, (.aload_n 0), 1, 0, 0),
  (107, (.iload_n 2), 1, 0, 0),
  (108, (.iload 4), 2, 0, 0),
  (110, (.aload_n 1), 1, 0, 0),
  (111, (.getfield 289), 3, 4, 8),
  (114, (.iload_n 3), 1, 0, 0),
  (115, .iaload, 1, 0, 0),
  (116, (.invokevirtual 292), 3, 100, 4),
  (119, (.goto 19), 3, 138, 0),
  (122, (.iload 5), 2, 0, 0),
  (124, (.bipush 14), 2, 0, 0),
  (126, (.if_icmp .ge 12), 3, 138, 0),
  (129, (.aload_n 0), 1, 0, 0),
  (130, (.iload_n 2), 1, 0, 0),
  (131, (.iload 4), 2, 0, 0),
  (133, (.iload 5), 2, 0, 0),
  (135, (.invokevirtual 296), 3, 101, 4),
  (138, (.iload 4), 2, 0, 0),
  (140, (.istore_n 2), 1, 0, 0),
  (141, (.iinc 3 1), 3, 0, 0),
  (144, (.goto (-124)), 3, 20, 0),
  (147, .return_, 1, 0, 0)]
theorem mm_ck99 : mm_c99.all (mm_ckE 8 prog_1_method_33_code) = true := by decide +kernel
def mm_c100 : List (Nat × mm_E) := [
  (0, (.iload_n 1), 1, 0, 0),
  (1, (.istore 4), 2, 0, 0),
  (3, (.iload 4), 2, 0, 0),
  (5, (.iload_n 2), 1, 0, 0),
  (6, (.if_icmp .ge 27), 3, 33, 0),
  (9, (.aload_n 0), 1, 0, 0),
  (10, (.getfield 53), 3, 8, 6),
  (13, (.aload_n 0), 1, 0, 0),
  (14, (.getfield 41), 3, 8, 4),
  (17, (.getfield 299), 3, 0, 0),
  (20, (.iload 4), 2, 0, 0),
  (22, .iaload, 1, 0, 0),
  (23, (.iload_n 3), 1, 0, 0),
  (24, (.invokevirtual 269), 3, 59, 3),
  (27, (.iinc 4 1), 3, 0, 0),
  (30, (.goto (-27)), 3, 3, 0),
  (33, .return_, 1, 0, 0)]
theorem mm_ck100 : mm_c100.all (mm_ckE 8 prog_1_method_34_code) = true := by decide +kernel
def mm_c101 : List (Nat × mm_E) := [
  (0, (.iload_n 1), 1, 0, 0),
  (1, (.istore 4), 2, 0, 0),
  (3, (.iload 4), 2, 0, 0),
  (5, (.iload_n 2), 1, 0, 0),
  (6, (.if_icmp .ge 74), 3, 80, 0),
  (9, (.aload_n 0), 1, 0, 0),
  (10, (.getfield 41), 3, 8, 4),
  (13, (.getfield 299), 3, 0, 0),
  (16, (.iload 4), 2, 0, 0),
  (18, .iaload, 1, 0, 0),
  (19, (.invokestatic 302), 3, 1, 1),
  (22, (.istore 5), 2, 0, 0),
  (24, (.iload 5), 2, 0, 0),
  (26, (.iload_n 3), 1, 0, 0),
  (27, .ishr, 1, 0, 0),
  (28, (.istore 6), 2, 0, 0),
  (30, (.iconst 0), 1, 0, 0),
  (31, (.istore 7), 2, 0, 0),
  (33, (.iload 7), 2, 0, 0),
  (35, (.iload 6), 2, 0, 0),
  (37, (.if_icmp .ge 18), 3, 55, 0),
  (40, (.aload_n 0), 1, 0, 0),
  (41, (.getfield 53), 3, 8, 6),
  (44, (.iconst 0), 1, 0, 0),
  (45, (.iconst 1), 1, 0, 0),
  (46, (.invokevirtual 269), 3, 59, 3),
  (49, (.iinc 7 1), 3, 0, 0),
  (52, (.goto (-19)), 3, 33, 0),
  (55, (.aload_n 0), 1, 0, 0),
  (56, (.getfield 53), 3, 8, 6),
  (59, (.iconst 1), 1, 0, 0),
  (60, (.iconst 1), 1, 0, 0),
  (61, (.invokevirtual 269), 3, 59, 3),
  (64, (.aload_n 0), 1, 0, 0),
  (65, (.getfield 53), 3, 8, 6),
  (68, (.iload 5), 2, 0, 0),
  (70, (.iload_n 3), 1, 0, 0),
  (71, (.invokevirtual 269), 3, 59, 3),
  (74, (.iinc 4 1), 3, 0, 0),
  (77, (.goto (-74)), 3, 3, 0),
  (80, .return_, 1, 0, 0)]
theorem mm_ck101 : mm_c101.all (mm_ckE 8 prog_1_method_35_code) = true := by decide +kernel
def mm_c102 : List (Nat × mm_E) := [
  (0, (.aload_n 0), 1, 0, 0),
  (1, (.getfield 53), 3, 8, 6),
  (4, (.iload_n 1), 1, 0, 0),
  (5, (.invokevirtual 305), 3, 57, 2),
  (8, (.ifCond .eq 15), 3, 23, 0),
  (11, (.aload_n 0), 1, 0, 0),
  (12, (.getfield 53), 3, 8, 6),
  (15, (.getfield 306), 3, 6, 0),
  (18, (.iload_n 1), 1, 0, 0),
  (19, .iaload, 1, 0, 0),
  (20, (.goto 4), 3, 24, 0),
  (23, (.iconst (-1)), 1, 0, 0),
  (24, .ireturn, 1, 0, 0)]
theorem mm_ck102 : mm_c102.all (mm_ckE 8 prog_1_method_36_code) = true := by decide +kernel
def mm_c103 : List (Nat × mm_E) := [
  (0, (.aload_n 0), 1, 0, 0),
  (1, (.getfield 53), 3, 8, 6),
  (4, (.iload_n 1), 1, 0, 0),
  (5, (.invokevirtual 305), 3, 57, 2),
  (8, (.ifCond .eq 15), 3, 23, 0),
  (11, (.iload_n 2), 1, 0, 0),
  (12, (.iconst 1), 1, 0, 0),
  (13, (.if_icmp .lt 10), 3, 23, 0),
  (16, (.iload_n 2), 1, 0, 0),
  (17, (.sipush 255), 3, 0, 0),
  (20, (.if_icmp .le 5), 3, 25, 0),
  (23, (.iconst (-1)), 1, 0, 0),
  (24, .ireturn, 1, 0, 0),
  (25, (.aload_n 0), 1, 0, 0),
  (26, (.getfield 53), 3, 8, 6),
  (29, (.getfield 306), 3, 6, 0),
  (32, (.iload_n 1), 1, 0, 0),
  (33, .dup2, 1, 0, 0),
  (34, .iaload, 1, 0, 0),
  (35, (.iload_n 2), 1, 0, 0),
  (36, .ixor, 1, 0, 0),
  (37, .iastore, 1, 0, 0),
  (38, (.aload_n 0), 1, 0, 0),
  (39, (.getfield 53), 3, 8, 6),
  (42, (.getfield 306), 3, 6, 0),
  (45, (.iload_n 1), 1, 0, 0),
  (46, .iaload, 1, 0, 0),
  (47, .ireturn, 1, 0, 0)]
theorem mm_ck103 : mm_c103.all (mm_ckE 8 prog_1_method_37_code) = true := by decide +kernel
def mm_c104 : List (Nat × mm_E) := [
  (0, (.iload_n 1), 1, 0, 0),
  (1, (.ifCond .lt 14), 3, 15, 0),
  (4, (.iload_n 1), 1, 0, 0),
  (5, (.aload_n 0), 1, 0, 0),
  (6, (.getfield 53), 3, 8, 6),
  (9, (.getfield 247), 3, 6, 1),
  (12, (.if_icmp .le 5), 3, 17, 0),
  (15, (.iconst (-1)), 1, 0, 0),
  (16, .ireturn, 1, 0, 0),
  (17, (.aload_n 0), 1, 0, 0),
  (18, (.getfield 53), 3, 8, 6),
  (21, .dup, 1, 0, 0),
  (22, (.getfield 247), 3, 6, 1),
  (25, (.iload_n 1), 1, 0, 0),
  (26, .isub, 1, 0, 0),
  (27, (.putfield 247), 3, 6, 1),
  (30, (.aload_n 0), 1, 0, 0),
  (31, (.getfield 53), 3, 8, 6),
  (34, (.getfield 247), 3, 6, 1),
  (37, .ireturn, 1, 0, 0)]
theorem mm_ck104 : mm_c104.all (mm_ckE 8 prog_1_method_38_code) = true := by decide +kernel
def mm_c105 : List (Nat × mm_E) := [
  (0, (.aload_n 0), 1, 0, 0),
  (1, (.getfield 53), 3, 8, 6),
  (4, (.iload_n 1), 1, 0, 0),
  (5, (.invokevirtual 305), 3, 57, 2),
  (8, (.ifCond .ne 5), 3, 13, 0),
  (11, (.iconst (-1)), 1, 0, 0),
  (12, .ireturn, 1, 0, 0),
  (13, (.aload_n 0), 1, 0, 0),
  (14, (.getfield 53), 3, 8, 6),
  (17, (.getfield 306), 3, 6, 0),
  (20, (.iload_n 1), 1, 0, 0),
  (21, .iaload, 1, 0, 0),
  (22, (.istore_n 2), 1, 0, 0),
  (23, (.iload_n 1), 1, 0, 0),
  (24, (.iconst 1), 1, 0, 0),
  (25, .iadd, 1, 0, 0),
  (26, (.istore_n 3), 1, 0, 0),
  (27, (.iload_n 3), 1, 0, 0),
  (28, (.aload_n 0), 1, 0, 0),
  (29, (.getfield 53), 3, 8, 6),
  (32, (.getfield 247), 3, 6, 1),
  (35, (.if_icmp .ge 29), 3, 64, 0),
  (38, (.aload_n 0), 1, 0, 0),
  (39, (.getfield 53), 3, 8, 6),
  (42, (.getfield 306), 3, 6, 0),
  (45, (.iload_n 3), 1, 0, 0),
  (46, (.iconst 1), 1, 0, 0),
  (47, .isub, 1, 0, 0),
  (48, (.aload_n 0), 1, 0, 0),
  (49, (.getfield 53), 3, 8, 6),
  (52, (.getfield 306), 3, 6, 0),
  (55, (.iload_n 3), 1, 0, 0),
  (56, .iaload, 1, 0, 0),
  (57, .iastore, 1, 0, 0),
  (58, (.iinc 3 1), 3, 0, 0),
  (61, (.goto (-34)), 3, 27, 0),
  (64, (.aload_n 0), 1, 0, 0),
  (65, (.getfield 53), 3, 8, 6),
  (68, .dup, 1, 0, 0),
  (69, (.getfield 247), 3, 6, 1),
  (72, (.iconst 1), 1, 0, 0),
  (73, .isub, 1, 0, 0),
  (74, (.putfield 247), 3, 6, 1),
  (77, (.iload_n 2), 1, 0, 0),
  (78, .ireturn, 1, 0, 0)]
theorem mm_ck105 : mm_c105.all (mm_ckE 8 prog_1_method_39_code) = true := by decide +kernel
def mm_c106 : List (Nat × mm_E) := [
  (0, (.aload_n 0), 1, 0, 0),
  (1, (.getfield 45), 3, 8, 5),
  (4, (.invokevirtual 309), 3, 24, 1),
  (7, .ireturn, 1, 0, 0)]
theorem mm_ck106 : mm_c106.all (mm_ckE 8 prog_1_method_40_code) = true := by decide +kernel
def mm_c107 : List (Nat × mm_E) := [
  (0, (.aload_n 0), 1, 0, 0),
  (1, (.getfield 45), 3, 8, 5),
  (4, (.invokevirtual 309), 3, 24, 1),
  (7, (.ifCond .eq 5), 3, 12, 0),
  (10, (.iconst (-1)), 1, 0, 0),
  (11, .ireturn, 1, 0, 0),
  (12, (.aload_n 0), 1, 0, 0),
  (13, (.getfield 45), 3, 8, 5),
  (16, (.invokevirtual 312), 3, 36, 1),
  (19, (.iconst 0), 1, 0, 0),
  (20, (.istore_n 1), 1, 0, 0),
  (21, (.iconst 0), 1, 0, 0),
  (22, (.istore_n 2), 1, 0, 0),
  (23, (.iload_n 2), 1, 0, 0),
  (24, (.bipush 16), 2, 0, 0),
  (26, (.if_icmp .ge 28), 3, 54, 0),
  (29, (.aload_n 0), 1, 0, 0),
  (30, (.getfield 45), 3, 8, 5),
  (33, (.getfield 315), 3, 3, 10),
  (36, (.iload_n 2), 1, 0, 0),
  (37, .iaload, 1, 0, 0),
  (38, (.iconst (-1)), 1, 0, 0),
  (39, (.if_icmp .eq 9), 3, 48, 0),
  (42, (.iload_n 1), 1, 0, 0),
  (43, (.iconst 1), 1, 0, 0),
  (44, (.iload_n 2), 1, 0, 0),
  (45, .ishl, 1, 0, 0),
  (46, .ior, 1, 0, 0),
  (47, (.istore_n 1), 1, 0, 0),
  (48, (.iinc 2 1), 3, 0, 0),
  (51, (.goto (-28)), 3, 23, 0),
  (54, (.iload_n 1), 1, 0, 0),
  (55, .ireturn, 1, 0, 0)]
theorem mm_ck107 : mm_c107.all (mm_ckE 8 prog_1_method_41_code) = true := by decide +kernel
def mm_c108 : List (Nat × mm_E) := [
  (0, (.iload_n 2), 1, 0, 0),
  (1, (.ifCond .lt 28), 3, 29, 0),
  (4, (.iload_n 2), 1, 0, 0),
  (5, (.iconst 1), 1, 0, 0),
  (6, (.if_icmp .gt 23), 3, 29, 0),
  (9, (.iload_n 1), 1, 0, 0),
  (10, (.ifCond .lt 19), 3, 29, 0),
  (13, (.iload_n 1), 1, 0, 0),
  (14, (.bipush 16), 2, 0, 0),
  (16, (.if_icmp .ge 13), 3, 29, 0),
  (19, (.aload_n 0), 1, 0, 0),
  (20, (.getfield 45), 3, 8, 5),
  (23, (.invokevirtual 309), 3, 24, 1),
  (26, (.ifCond .eq 5), 3, 31, 0),
  (29, (.iconst (-1)), 1, 0, 0),
  (30, .ireturn, 1, 0, 0),
  (31, (.aload_n 0), 1, 0, 0),
  (32, (.getfield 45), 3, 8, 5),
  (35, (.invokevirtual 312), 3, 36, 1),
  (38, (.iload_n 2), 1, 0, 0),
  (39, (.ifCond .ne 15), 3, 54, 0),
  (42, (.aload_n 0), 1, 0, 0),
  (43, (.getfield 45), 3, 8, 5),
  (46, (.getfield 315), 3, 3, 10),
  (49, (.iload_n 1), 1, 0, 0),
  (50, .iaload, 1, 0, 0),
  (51, (.goto 12), 3, 63, 0),
  (54, (.aload_n 0), 1, 0, 0),
  (55, (.getfield 45), 3, 8, 5),
  (58, (.getfield 318), 3, 3, 11),
  (61, (.iload_n 1), 1, 0, 0),
  (62, .iaload, 1, 0, 0),
  (63, .ireturn, 1, 0, 0)]
theorem mm_ck108 : mm_c108.all (mm_ckE 8 prog_1_method_42_code) = true := by decide +kernel
def mm_c109 : List (Nat × mm_E) := [
  (0, (.aload_n 0), 1, 0, 0),
  (1, (.getfield 45), 3, 8, 5),
  (4, (.invokevirtual 309), 3, 24, 1),
  (7, (.ifCond .ne 28), 3, 35, 0),
  (10, (.iload_n 1), 1, 0, 0),
  (11, (.ifCond .lt 24), 3, 35, 0),
  (14, (.iload_n 1), 1, 0, 0),
  (15, (.aload_n 0), 1, 0, 0),
  (16, (.getfield 45), 3, 8, 5),
  (19, (.getfield 321), 3, 3, 5),
  (22, (.if_icmp .ge 13), 3, 35, 0),
  (25, (.aload_n 0), 1, 0, 0),
  (26, (.getfield 45), 3, 8, 5),
  (29, (.getfield 324), 3, 3, 4),
  (32, (.ifCond .gt 5), 3, 37, 0),
  (35, (.iconst (-1)), 1, 0, 0),
  (36, .ireturn, 1, 0, 0),
  (37, (.iload_n 1), 1, 0, 0),
  (38, (.aload_n 0), 1, 0, 0),
  (39, (.getfield 45), 3, 8, 5),
  (42, (.getfield 324), 3, 3, 4),
  (45, .idiv, 1, 0, 0),
  (46, .ireturn, 1, 0, 0)]
theorem mm_ck109 : mm_c109.all (mm_ckE 8 prog_1_method_43_code) = true := by decide +kernel
def mm_c110 : List (Nat × mm_E) := [
  (0, (.aload_n 0), 1, 0, 0),
  (1, (.getfield 53), 3, 8, 6),
  (4, (.iload_n 1), 1, 0, 0),
  (5, (.invokevirtual 305), 3, 57, 2),
  (8, (.ifCond .eq 13), 3, 21, 0),
  (11, (.aload_n 0), 1, 0, 0),
  (12, (.getfield 45), 3, 8, 5),
  (15, (.invokevirtual 309), 3, 24, 1),
  (18, (.ifCond .eq 5), 3, 23, 0),
  (21, (.iconst (-1)), 1, 0, 0),
  (22, .ireturn, 1, 0, 0),
  (23, (.iload_n 1), 1, 0, 0),
  (24, (.istore_n 2), 1, 0, 0),
  (25, (.iload_n 2), 1, 0, 0),
  (26, (.aload_n 0), 1, 0, 0),
  (27, (.getfield 53), 3, 8, 6),
  (30, (.getfield 247), 3, 6, 1),
  (33, (.if_icmp .ge 23), 3, 56, 0),
  (36, (.aload_n 0), 1, 0, 0),
  (37, (.getfield 45), 3, 8, 5),
  (40, (.iload_n 2), 1, 0, 0),
  (41, (.invokevirtual 327), 3, 27, 2),
  (44, (.iconst (-1)), 1, 0, 0),
  (45, (.if_icmp .eq 5), 3, 50, 0),
  (48, (.iload_n 2), 1, 0, 0),
  (49, .ireturn, 1, 0, 0),
  (50, (.iinc 2 1), 3, 0, 0),
  (53, (.goto (-28)), 3, 25, 0),
  (56, (.iconst (-1)), 1, 0, 0),
  (57, .ireturn, 1, 0, 0)]
theorem mm_ck110 : mm_c110.all (mm_ckE 8 prog_1_method_44_code) = true := by decide +kernel
def mm_c111 : List (Nat × mm_E) := [
  (0, (.aload_n 0), 1, 0, 0),
  (1, (.getfield 53), 3, 8, 6),
  (4, (.iload_n 1), 1, 0, 0),
  (5, (.invokevirtual 305), 3, 57, 2),
  (8, (.ifCond .eq 25), 3, 33, 0),
  (11, (.aload_n 0), 1, 0, 0),
  (12, (.getfield 45), 3, 8, 5),
  (15, (.invokevirtual 309), 3, 24, 1),
  (18, (.ifCond .ne 15), 3, 33, 0),
  (21, (.aload_n 0), 1, 0, 0),
  (22, (.getfield 45), 3, 8, 5),
  (25, (.iload_n 1), 1, 0, 0),
  (26, (.invokevirtual 327), 3, 27, 2),
  (29, (.iconst (-1)), 1, 0, 0),
  (30, (.if_icmp .ne 5), 3, 35, 0),
  (33, (.iconst (-1)), 1, 0, 0),
  (34, .ireturn, 1, 0, 0),
  (35, (.aload_n 0), 1, 0, 0),
  (36, (.getfield 45), 3, 8, 5),
  (39, (.iload_n 1), 1, 0, 0),
  (40, (.invokevirtual 330), 3, 26, 2),
  (43, .ireturn, 1, 0, 0)]
theorem mm_ck111 : mm_c111.all (mm_ckE 8 prog_1_method_45_code) = true := by decide +kernel
def mm_c112 : List (Nat × mm_E) := [
  (0, (.aload_n 0), 1, 0, 0),
  (1, (.getfield 45), 3, 8, 5),
  (4, (.invokevirtual 309), 3, 24, 1),
  (7, (.ifCond .ne 33), 3, 40, 0),
  (10, (.iload_n 1), 1, 0, 0),
  (11, (.ifCond .lt 29), 3, 40, 0),
  (14, (.iload_n 1), 1, 0, 0),
  (15, (.aload_n 0), 1, 0, 0),
  (16, (.getfield 45), 3, 8, 5),
  (19, (.getfield 333), 3, 3, 2),
  (22, (.if_icmp .ge 18), 3, 40, 0),
  (25, (.iload_n 2), 1, 0, 0),
  (26, (.ifCond .lt 14), 3, 40, 0),
  (29, (.iload_n 2), 1, 0, 0),
  (30, (.aload_n 0), 1, 0, 0),
  (31, (.getfield 45), 3, 8, 5),
  (34, (.getfield 321), 3, 3, 5),
  (37, (.if_icmp .lt 11), 3, 48, 0),
  (40, (.new 334), 3, 101, 0),
  (43, .dup, 1, 0, 0),
  (44, (.invokespecial 336), 3, 1999, 0),
  (47, .athrow, 1, 0, 0),
  (48, (.aload_n 0), 1, 0, 0),
  (49, (.getfield 45), 3, 8, 5),
  (52, (.invokevirtual 312), 3, 36, 1),
  (55, (.aload_n 0), 1, 0, 0),
  (56, (.getfield 45), 3, 8, 5),
  (59, (.getfield 337), 3, 3, 12),
  (62, (.iload_n 1), 1, 0, 0),
  (63, (.sipush 256), 3, 0, 0),
  (66, .imul, 1, 0, 0),
  (67, (.iload_n 2), 1, 0, 0),
  (68, .iadd, 1, 0, 0),
  (69, .iaload, 1, 0, 0),
  (70, .ireturn, 1, 0, 0)]
theorem mm_ck112 : mm_c112.all (mm_ckE 8 prog_1_method_46_code) = true := by decide +kernel
def mm_c113 : List (Nat × mm_E) := [
  (0, (.aload_n 0), 1, 0, 0),
  (1, (.getfield 45), 3, 8, 5),
  (4, (.invokevirtual 309), 3, 24, 1),
  (7, (.ifCond .eq 5), 3, 12, 0),
  (10, (.iconst (-1)), 1, 0, 0),
  (11, .ireturn, 1, 0, 0),
  (12, (.aload_n 0), 1, 0, 0),
  (13, (.getfield 45), 3, 8, 5),
  (16, (.invokevirtual 312), 3, 36, 1),
  (19, (.iconst 0), 1, 0, 0),
  (20, (.istore_n 1), 1, 0, 0),
  (21, (.iconst 0), 1, 0, 0),
  (22, (.istore_n 2), 1, 0, 0),
  (23, (.iload_n 2), 1, 0, 0),
  (24, (.aload_n 0), 1, 0, 0),
  (25, (.getfield 19), 3, 8, 1),
  (28, (.getfield 75), 3, 5, 2),
  (31, (.if_icmp .ge 87), 3, 118, 0),
  (34, (.iload_n 2), 1, 0, 0),
  (35, (.aload_n 0), 1, 0, 0),
  (36, (.getfield 45), 3, 8, 5),
  (39, (.getfield 333), 3, 3, 2),
  (42, (.if_icmp .ge 76), 3, 118, 0),
  (45, (.aload_n 0), 1, 0, 0),
  (46, (.getfield 19), 3, 8, 1),
  (49, (.getfield 84), 3, 5, 1),
  (52, (.iload_n 2), 1, 0, 0),
  (53, .iaload, 1, 0, 0),
  (54, (.aload_n 0), 1, 0, 0),
  (55, (.getfield 45), 3, 8, 5),
  (58, (.getfield 321), 3, 3, 5),
  (61, (.invokestatic 284), 3, 226, 2),
  (64, (.istore_n 3), 1, 0, 0),
  (65, (.iconst 0), 1, 0, 0),
  (66, (.istore 4), 2, 0, 0),
  (68, (.iload 4), 2, 0, 0),
  (70, (.iload_n 3), 1, 0, 0),
  (71, (.if_icmp .ge 41), 3, 112, 0),
  (74, (.aload_n 0), 1, 0, 0),
  (75, (.getfield 19), 3, 8, 1),
  (78, (.iload_n 2), 1, 0, 0),
  (79, (.iload 4), 2, 0, 0),
  (81, (.invokevirtual 144), 3, 49, 3),
  (84, (.aload_n 0), 1, 0, 0),
  (85, (.getfield 45), 3, 8, 5),
  (88, (.getfield 337), 3, 3, 12),
  (91, (.iload_n 2), 1, 0, 0),
  (92, (.sipush 256), 3, 0, 0),
  (95, .imul, 1, 0, 0),
  (96, (.iload 4), 2, 0, 0),
  (98, .iadd, 1, 0, 0),
  (99, .iaload, 1, 0, 0),
  (100, (.if_icmp .ne 6), 3, 106, 0),
  (103, (.iinc 1 1), 3, 0, 0),
  (106, (.iinc 4 1), 3, 0, 0),
  (109, (.goto (-41)), 3, 68, 0),
  (112, (.iinc 2 1), 3, 0, 0),
  (115, (.goto (-92)), 3, 23, 0),
  (118, (.iload_n 1), 1, 0, 0),
  (119, .ireturn, 1, 0, 0)]
theorem mm_ck113 : mm_c113.all (mm_ckE 8 prog_1_method_47_code) = true := by decide +kernel
def mm_c114 : List (Nat × mm_E) := [
  (0, (.aload_n 0), 1, 0, 0),
  (1, (.getfield 19), 3, 8, 1),
  (4, (.invokevirtual 237), 3, 54, 1),
  (7, (.ifCond .eq 15), 3, 22, 0),
  (10, (.aload_n 0), 1, 0, 0),
  (11, (.getfield 19), 3, 8, 1),
  (14, (.getfield 84), 3, 5, 1),
  (17, (.iconst 0), 1, 0, 0),
  (18, .iaload, 1, 0, 0),
  (19, (.ifCond .ne 5), 3, 24, 0),
  (22, (.iconst (-1)), 1, 0, 0),
  (23, .ireturn, 1, 0, 0),
  (24, (.aload_n 0), 1, 0, 0),
  (25, (.getfield 19), 3, 8, 1),
  (28, (.getfield 75), 3, 5, 2),
  (31, (.aload_n 0), 1, 0, 0),
  (32, (.getfield 19), 3, 8, 1),
  (35, (.getfield 84), 3, 5, 1),
  (38, (.iconst 0), 1, 0, 0),
  (39, .iaload, 1, 0, 0),
  (40, .imul, 1, 0, 0),
  (41, (.aload_n 0), 1, 0, 0),
  (42, (.getfield 19), 3, 8, 1),
  (45, (.getfield 78), 3, 5, 3),
  (48, (.bipush 8), 2, 0, 0),
  (50, .idiv, 1, 0, 0),
  (51, .imul, 1, 0, 0),
  (52, (.istore_n 1), 1, 0, 0),
  (53, (.iload_n 1), 1, 0, 0),
  (54, (.ifCond .gt 5), 3, 59, 0),
  (57, (.iconst (-1)), 1, 0, 0),
  (58, .ireturn, 1, 0, 0),
  (59, (.aload_n 0), 1, 0, 0),
  (60, (.aload_n 0), 1, 0, 0),
  (61, (.getfield 54), 3, 8, 7),
  (64, (.aload_n 0), 1, 0, 0),
  (65, (.getfield 61), 3, 8, 9),
  (68, (.invokevirtual 241), 3, 94, 3),
  (71, .i2f, 1, 0, 0),
  (72, (.iload_n 1), 1, 0, 0),
  (73, .i2f, 1, 0, 0),
  (74, .fdiv, 1, 0, 0),
  (75, (.invokestatic 223), 3, 121, 1),
  (78, .ireturn, 1, 0, 0)]
theorem mm_ck114 : mm_c114.all (mm_ckE 8 prog_1_method_48_code) = true := by decide +kernel
def mm_c115 : List (Nat × mm_E) := [
  (0, (.aload_n 0), 1, 0, 0),
  (1, (.getfield 19), 3, 8, 1),
  (4, (.iload_n 1), 1, 0, 0),
  (5, (.invokevirtual 81), 3, 47, 2),
  (8, (.ifCond .eq 24), 3, 32, 0),
  (11, (.iload_n 2), 1, 0, 0),
  (12, (.ifCond .lt 20), 3, 32, 0),
  (15, (.iload_n 2), 1, 0, 0),
  (16, (.iconst 1), 1, 0, 0),
  (17, (.if_icmp .gt 15), 3, 32, 0),
  (20, (.aload_n 0), 1, 0, 0),
  (21, (.getfield 19), 3, 8, 1),
  (24, (.getfield 84), 3, 5, 1),
  (27, (.iload_n 1), 1, 0, 0),
  (28, .iaload, 1, 0, 0),
  (29, (.ifCond .gt 11), 3, 40, 0),
  (32, (.new 334), 3, 101, 0),
  (35, .dup, 1, 0, 0),
  (36, (.invokespecial 336), 3, 1999, 0),
  (39, .athrow, 1, 0, 0),
  (40, (.lconst 0), 1, 0, 0),
  (41, (.lstore_n 3), 1, 0, 0),
  (42, (.iconst 0), 1, 0, 0),
  (43, (.istore 5), 2, 0, 0),
  (45, (.iload 5), 2, 0, 0),
  (47, (.aload_n 0), 1, 0, 0),
  (48, (.getfield 19), 3, 8, 1),
  (51, (.getfield 84), 3, 5, 1),
  (54, (.iload_n 1), 1, 0, 0),
  (55, .iaload, 1, 0, 0),
  (56, (.if_icmp .ge 30), 3, 86, 0),
  (59, (.aload_n 0), 1, 0, 0),
  (60, (.getfield 19), 3, 8, 1),
  (63, (.iload_n 1), 1, 0, 0),
  (64, (.iload 5), 2, 0, 0),
  (66, (.invokevirtual 144), 3, 49, 3),
  (69, .i2l, 1, 0, 0),
  (70, (.lstore 6), 2, 0, 0),
  (72, (.lload_n 3), 1, 0, 0),
  (73, (.lload 6), 2, 0, 0),
  (75, (.lload 6), 2, 0, 0),
  (77, .lmul, 1, 0, 0),
  (78, .ladd, 1, 0, 0),
  (79, (.lstore_n 3), 1, 0, 0),
  (80, (.iinc 5 1), 3, 0, 0),
  (83, (.goto (-38)), 3, 45, 0),
  (86, (.lload_n 3), 1, 0, 0),
  (87, .l2d, 1, 0, 0),
  (88, (.aload_n 0), 1, 0, 0),
  (89, (.getfield 19), 3, 8, 1),
  (92, (.getfield 84), 3, 5, 1),
  (95, (.iload_n 1), 1, 0, 0),
  (96, .iaload, 1, 0, 0),
  (97, .i2d, 1, 0, 0),
  (98, .ddiv, 1, 0, 0),
  (99, (.invokestatic 340), 3, 122, 1),
  (102, (.lstore 5), 2, 0, 0),
  (104, (.iload_n 2), 1, 0, 0),
  (105, (.ifCond .ne 12), 3, 117, 0),
  (108, (.lload 5), 2, 0, 0),
  (110, (.bipush 32), 2, 0, 0),
  (112, .lushr, 1, 0, 0),
  (113, .l2i, 1, 0, 0),
  (114, (.goto 6), 3, 120, 0),
  (117, (.lload 5), 2, 0, 0),
  (119, .l2i, 1, 0, 0),
  (120, .ireturn, 1, 0, 0)]
theorem mm_ck115 : mm_c115.all (mm_ckE 8 prog_1_method_49_code) = true := by decide +kernel
def mm_c116 : List (Nat × mm_E) := [
  (0, (.iload_n 1), 1, 0, 0),
  (1, (.tableswitch 155 0 10 #[59, 67, 75, 80, 85, 90, 90, 119, 131, 139, 147]), 59, 0, 0),
  (60, (.aload_n 0), 1, 0, 0),
  (61, (.getfield 19), 3, 8, 1),
  (64, (.getfield 75), 3, 5, 2),
  (67, .ireturn, 1, 0, 0),
  (68, (.aload_n 0), 1, 0, 0),
  (69, (.getfield 19), 3, 8, 1),
  (72, (.getfield 78), 3, 5, 3),
  (75, .ireturn, 1, 0, 0),
  (76, (.aload_n 0), 1, 0, 0),
  (77, (.getfield 54), 3, 8, 7),
  (80, .ireturn, 1, 0, 0),
  (81, (.aload_n 0), 1, 0, 0),
  (82, (.getfield 58), 3, 8, 8),
  (85, .ireturn, 1, 0, 0),
  (86, (.aload_n 0), 1, 0, 0),
  (87, (.getfield 61), 3, 8, 9),
  (90, .ireturn, 1, 0, 0),
  (91, (.aload_n 0), 1, 0, 0),
  (92, (.getfield 19), 3, 8, 1),
  (95, (.iload_n 1), 1, 0, 0),
  (96, (.iconst 5), 1, 0, 0),
  (97, .isub, 1, 0, 0),
  (98, (.invokevirtual 81), 3, 47, 2),
  (101, (.ifCond .eq 17), 3, 118, 0),
  (104, (.aload_n 0), 1, 0, 0),
  (105, (.getfield 19), 3, 8, 1),
  (108, (.getfield 84), 3, 5, 1),
  (111, (.iload_n 1), 1, 0, 0),
  (112, (.iconst 5), 1, 0, 0),
  (113, .isub, 1, 0, 0),
  (114, .iaload, 1, 0, 0),
  (115, (.goto 4), 3, 119, 0),
  (118, (.iconst (-1)), 1, 0, 0),
  (119, .ireturn, 1, 0, 0),
  (120, (.aload_n 0), 1, 0, 0),
  (121, (.getfield 19), 3, 8, 1),
  (124, (.aload_n 0), 1, 0, 0),
  (125, (.getfield 54), 3, 8, 7),
  (128, (.invokevirtual 227), 3, 55, 2),
  (131, .ireturn, 1, 0, 0),
  (132, (.aload_n 0), 1, 0, 0),
  (133, (.getfield 53), 3, 8, 6),
  (136, (.getfield 247), 3, 6, 1),
  (139, .ireturn, 1, 0, 0),
  (140, (.aload_n 0), 1, 0, 0),
  (141, (.getfield 12), 3, 8, 0),
  (144, (.getfield 64), 3, 7, 1),
  (147, .ireturn, 1, 0, 0),
  (148, (.aload_n 0), 1, 0, 0),
  (149, (.getfield 19), 3, 8, 1),
  (152, (.getfield 100), 3, 5, 4),
  (155, .ireturn, 1, 0, 0),
  (156, (.iconst (-1)), 1, 0, 0),
  (157, .ireturn, 1, 0, 0)]
theorem mm_ck116 : mm_c116.all (mm_ckE 8 prog_1_method_50_code) = true := by decide +kernel
def mm_c117 : List (Nat × mm_E) := [
  (0, (.iload_n 0), 1, 0, 0),
  (1, (.bipush 8), 2, 0, 0),
  (3, (.if_icmp .eq 9), 3, 12, 0),
  (6, (.iload_n 0), 1, 0, 0),
  (7, (.bipush 16), 2, 0, 0),
  (9, (.if_icmp .ne 7), 3, 16, 0),
  (12, (.iconst 1), 1, 0, 0),
  (13, (.goto 4), 3, 17, 0),
  (16, (.iconst 0), 1, 0, 0),
  (17, .ireturn, 1, 0, 0)]
theorem mm_ck117 : mm_c117.all (mm_ckE 8 prog_1_method_51_code) = true := by decide +kernel
def mm_c118 : List (Nat × mm_E) := [
  (0, (.iload_n 0), 1, 0, 0),
  (1, (.bipush 16), 2, 0, 0),
  (3, (.if_icmp .lt 20), 3, 23, 0),
  (6, (.iload_n 0), 1, 0, 0),
  (7, (.bipush 64), 2, 0, 0),
  (9, (.if_icmp .gt 14), 3, 23, 0),
  (12, (.iload_n 0), 1, 0, 0),
  (13, (.bipush 8), 2, 0, 0),
  (15, .irem, 1, 0, 0),
  (16, (.ifCond .ne 7), 3, 23, 0),
  (19, (.iconst 1), 1, 0, 0),
  (20, (.goto 4), 3, 24, 0),
  (23, (.iconst 0), 1, 0, 0),
  (24, .ireturn, 1, 0, 0)]
theorem mm_ck118 : mm_c118.all (mm_ckE 8 prog_1_method_52_code) = true := by decide +kernel
def mm_c119 : List (Nat × mm_E) := [
  (0, (.iload_n 0), 1, 0, 0),
  (1, (.ifCond .lt 12), 3, 13, 0),
  (4, (.iload_n 0), 1, 0, 0),
  (5, (.iconst 4), 1, 0, 0),
  (6, (.if_icmp .gt 7), 3, 13, 0),
  (9, (.iconst 1), 1, 0, 0),
  (10, (.goto 4), 3, 14, 0),
  (13, (.iconst 0), 1, 0, 0),
  (14, .ireturn, 1, 0, 0)]
theorem mm_ck119 : mm_c119.all (mm_ckE 8 prog_1_method_53_code) = true := by decide +kernel
def mm_c120 : List (Nat × mm_E) := [
  (0, (.iload_n 0), 1, 0, 0),
  (1, (.bipush (-31)), 2, 0, 0),
  (3, (.if_icmp .lt 13), 3, 16, 0),
  (6, (.iload_n 0), 1, 0, 0),
  (7, (.bipush 31), 2, 0, 0),
  (9, (.if_icmp .gt 7), 3, 16, 0),
  (12, (.iconst 1), 1, 0, 0),
  (13, (.goto 4), 3, 17, 0),
  (16, (.iconst 0), 1, 0, 0),
  (17, .ireturn, 1, 0, 0)]
theorem mm_ck120 : mm_c120.all (mm_ckE 8 prog_1_method_54_code) = true := by decide +kernel
def mm_c121 : List (Nat × mm_E) := [
  (0, (.fload_n 0), 1, 0, 0),
  (1, (.fconst 0), 1, 0, 0),
  (2, (.fcmp .l), 1, 0, 0),
  (3, (.ifCond .gt 5), 3, 8, 0),
  (6, (.iconst 0), 1, 0, 0),
  (7, .ireturn, 1, 0, 0),
  (8, (.bipush 127), 2, 0, 0),
  (10, (.istore_n 1), 1, 0, 0),
  (11, (.fload_n 0), 1, 0, 0),
  (12, (.fstore_n 2), 1, 0, 0),
  (13, (.fload_n 2), 1, 0, 0),
  (14, (.fconst 2), 1, 0, 0),
  (15, (.fcmp .l), 1, 0, 0),
  (16, (.ifCond .lt 20), 3, 36, 0),
  (19, (.iload_n 1), 1, 0, 0),
  (20, (.sipush 254), 3, 0, 0),
  (23, (.if_icmp .ge 13), 3, 36, 0),
  (26, (.fload_n 2), 1, 0, 0),
  (27, (.fconst 2), 1, 0, 0),
  (28, .fdiv, 1, 0, 0),
  (29, (.fstore_n 2), 1, 0, 0),
  (30, (.iinc 1 1), 3, 0, 0),
  (33, (.goto (-20)), 3, 13, 0),
  (36, (.fload_n 2), 1, 0, 0),
  (37, (.fconst 1), 1, 0, 0),
  (38, (.fcmp .g), 1, 0, 0),
  (39, (.ifCond .ge 18), 3, 57, 0),
  (42, (.iload_n 1), 1, 0, 0),
  (43, (.iconst 1), 1, 0, 0),
  (44, (.if_icmp .le 13), 3, 57, 0),
  (47, (.fload_n 2), 1, 0, 0),
  (48, (.fconst 2), 1, 0, 0),
  (49, .fmul, 1, 0, 0),
  (50, (.fstore_n 2), 1, 0, 0),
  (51, (.iinc 1 (-1)), 3, 0, 0),
  (54, (.goto (-18)), 3, 36, 0),
  (57, (.iload_n 1), 1, 0, 0),
  (58, (.bipush 23), 2, 0, 0),
  (60, .ishl, 1, 0, 0),
  (61, (.fload_n 2), 1, 0, 0),
  (62, (.ldc_w 344), 3, 1258291200, 1),
  (65, .fmul, 1, 0, 0),
  (66, .f2i, 1, 0, 0),
  (67, (.ldc_w 345), 3, 8388608, 0),
  (70, .isub, 1, 0, 0),
  (71, .iadd, 1, 0, 0),
  (72, .ireturn, 1, 0, 0)]
theorem mm_ck121 : mm_c121.all (mm_ckE 8 prog_1_method_55_code) = true := by decide +kernel
def mm_c122 : List (Nat × mm_E) := [
  (0, (.dload_n 0), 1, 0, 0),
  (1, (.dconst 0), 1, 0, 0),
  (2, (.dcmp .l), 1, 0, 0),
  (3, (.ifCond .gt 5), 3, 8, 0),
  (6, (.lconst 0), 1, 0, 0),
  (7, .lreturn, 1, 0, 0),
  (8, (.ldc2_w 346), 3, 1023, 0),
  (11, (.lstore_n 2), 1, 0, 0),
  (12, (.dload_n 0), 1, 0, 0),
  (13, (.dstore 4), 2, 0, 0),
  (15, (.dload 4), 2, 0, 0),
  (17, (.ldc2_w 348), 3, 4611686018427387904, 1),
  (20, (.dcmp .l), 1, 0, 0),
  (21, (.ifCond .lt 26), 3, 47, 0),
  (24, (.lload_n 2), 1, 0, 0),
  (25, (.ldc2_w 350), 3, 2046, 0),
  (28, .lcmp, 1, 0, 0),
  (29, (.ifCond .ge 18), 3, 47, 0),
  (32, (.dload 4), 2, 0, 0),
  (34, (.ldc2_w 348), 3, 4611686018427387904, 1),
  (37, .ddiv, 1, 0, 0),
  (38, (.dstore 4), 2, 0, 0),
  (40, (.lload_n 2), 1, 0, 0),
  (41, (.lconst 1), 1, 0, 0),
  (42, .ladd, 1, 0, 0),
  (43, (.lstore_n 2), 1, 0, 0),
  (44, (.goto (-29)), 3, 15, 0),
  (47, (.dload 4), 2, 0, 0),
  (49, (.dconst 1), 1, 0, 0),
  (50, (.dcmp .g), 1, 0, 0),
  (51, (.ifCond .ge 24), 3, 75, 0),
  (54, (.lload_n 2), 1, 0, 0),
  (55, (.lconst 1), 1, 0, 0),
  (56, .lcmp, 1, 0, 0),
  (57, (.ifCond .le 18), 3, 75, 0),
  (60, (.dload 4), 2, 0, 0),
  (62, (.ldc2_w 348), 3, 4611686018427387904, 1),
  (65, .dmul, 1, 0, 0),
  (66, (.dstore 4), 2, 0, 0),
  (68, (.lload_n 2), 1, 0, 0),
  (69, (.lconst 1), 1, 0, 0),
  (70, .lsub, 1, 0, 0),
  (71, (.lstore_n 2), 1, 0, 0),
  (72, (.goto (-25)), 3, 47, 0),
  (75, (.lload_n 2), 1, 0, 0),
  (76, (.bipush 52), 2, 0, 0),
  (78, .lshl, 1, 0, 0),
  (79, (.dload 4), 2, 0, 0),
  (81, (.ldc2_w 352), 3, 4841369599423283200, 1),
  (84, .dmul, 1, 0, 0),
  (85, .d2l, 1, 0, 0),
  (86, (.ldc2_w 354), 3, 4503599627370496, 0),
  (89, .lsub, 1, 0, 0),
  (90, .ladd, 1, 0, 0),
  (91, .lreturn, 1, 0, 0)]
theorem mm_ck122 : mm_c122.all (mm_ckE 8 prog_1_method_56_code) = true := by decide +kernel
def mm_c123 : List (Nat × mm_E) := [
  (0, (.aload_n 0), 1, 0, 0),
  (1, (.invokespecial 1), 3, 1004, 0),
  (4, (.aload_n 0), 1, 0, 0),
  (5, (.sipush 240), 3, 0, 0),
  (8, (.newarray .int), 2, 100, 0),
  (10, (.putfield 7), 3, 9, 0),
  (13, (.aload_n 0), 1, 0, 0),
  (14, (.sipush 512), 3, 0, 0),
  (17, (.newarray .int), 2, 100, 0),
  (19, (.putfield 13), 3, 9, 2),
  (22, (.aload_n 0), 1, 0, 0),
  (23, (.iconst 2), 1, 0, 0),
  (24, (.newarray .int), 2, 100, 0),
  (26, (.putfield 16), 3, 9, 3),
  (29, (.aload_n 0), 1, 0, 0),
  (30, (.bipush 32), 2, 0, 0),
  (32, (.putfield 19), 3, 9, 6),
  (35, (.aload_n 0), 1, 0, 0),
  (36, (.iconst 1), 1, 0, 0),
  (37, (.putfield 23), 3, 9, 7),
  (40, (.aload_n 0), 1, 0, 0),
  (41, (.sipush 255), 3, 0, 0),
  (44, (.putfield 26), 3, 9, 8),
  (47, (.aload_n 0), 1, 0, 0),
  (48, (.iconst 1), 1, 0, 0),
  (49, (.putfield 29), 3, 9, 9),
  (52, (.aload_n 0), 1, 0, 0),
  (53, (.bipush 9), 2, 0, 0),
  (55, (.newarray .int), 2, 100, 0),
  (57, (.putfield 32), 3, 9, 10),
  (60, (.aload_n 0), 1, 0, 0),
  (61, (.iconst 3), 1, 0, 0),
  (62, (.newarray .int), 2, 100, 0),
  (64, (.putfield 35), 3, 9, 11),
  (67, (.aload_n 0), 1, 0, 0),
  (68, (.bipush 9), 2, 0, 0),
  (70, (.newarray .int), 2, 100, 0),
  (72, (.putfield 38), 3, 9, 12),
  (75, (.aload_n 0), 1, 0, 0),
  (76, (.iconst 3), 1, 0, 0),
  (77, (.newarray .int), 2, 100, 0),
  (79, (.putfield 41), 3, 9, 13),
  (82, (.aload_n 0), 1, 0, 0),
  (83, (.sipush 4000), 3, 0, 0),
  (86, (.newarray .int), 2, 100, 0),
  (88, (.putfield 44), 3, 9, 14),
  (91, (.aload_n 0), 1, 0, 0),
  (92, (.bipush 64), 2, 0, 0),
  (94, (.newarray .int), 2, 100, 0),
  (96, (.putfield 47), 3, 9, 17),
  (99, (.aload_n 0), 1, 0, 0),
  (100, (.bipush 64), 2, 0, 0),
  (102, (.newarray .int), 2, 100, 0),
  (104, (.putfield 50), 3, 9, 20),
  (107, (.aload_n 0), 1, 0, 0),
  (108, (.bipush 112), 2, 0, 0),
  (110, (.newarray .int), 2, 100, 0),
  (112, (.putfield 53), 3, 9, 23),
  (115, (.aload_n 0), 1, 0, 0),
  (116, (.bipush 8), 2, 0, 0),
  (118, (.newarray .int), 2, 100, 0),
  (120, (.putfield 56), 3, 9, 24),
  (123, (.aload_n 0), 1, 0, 0),
  (124, (.bipush 8), 2, 0, 0),
  (126, (.newarray .boolean), 2, 101, 0),
  (128, (.putfield 59), 3, 9, 25),
  (131, (.aload_n 0), 1, 0, 0),
  (132, (.bipush 8), 2, 0, 0),
  (134, (.newarray .int), 2, 100, 0),
  (136, (.putfield 63), 3, 9, 26),
  (139, (.aload_n 0), 1, 0, 0),
  (140, (.bipush 8), 2, 0, 0),
  (142, (.newarray .int), 2, 100, 0),
  (144, (.putfield 66), 3, 9, 27),
  (147, (.aload_n 0), 1, 0, 0),
  (148, (.bipush 8), 2, 0, 0),
  (150, (.newarray .int), 2, 100, 0),
  (152, (.putfield 69), 3, 9, 28),
  (155, (.aload_n 0), 1, 0, 0),
  (156, (.bipush 81), 2, 0, 0),
  (158, (.newarray .int), 2, 100, 0),
  (160, (.putfield 72), 3, 9, 30),
  (163, (.aload_n 0), 1, 0, 0),
  (164, (.bipush 81), 2, 0, 0),
  (166, (.newarray .int), 2, 100, 0),
  (168, (.putfield 75), 3, 9, 31),
  (171, (.aload_n 0), 1, 0, 0),
  (172, (.iconst 4), 1, 0, 0),
  (173, (.newarray .int), 2, 100, 0),
  (175, (.putfield 78), 3, 9, 33),
  (178, (.aload_n 0), 1, 0, 0),
  (179, (.sipush 128), 3, 0, 0),
  (182, (.newarray .int), 2, 100, 0),
  (184, (.putfield 81), 3, 9, 41),
  (187, (.aload_n 0), 1, 0, 0),
  (188, (.bipush 64), 2, 0, 0),
  (190, (.newarray .int), 2, 100, 0),
  (192, (.putfield 84), 3, 9, 42),
  (195, (.aload_n 0), 1, 0, 0),
  (196, (.bipush 16), 2, 0, 0),
  (198, (.newarray .int), 2, 100, 0),
  (200, (.putfield 87), 3, 9, 43),
  (203, (.aload_n 0), 1, 0, 0),
  (204, (.bipush 16), 2, 0, 0),
  (206, (.newarray .int), 2, 100, 0),
  (208, (.putfield 90), 3, 9, 44),
  (211, (.aload_n 0), 1, 0, 0),
  (212, (.sipush 512), 3, 0, 0),
  (215, (.newarray .int), 2, 100, 0),
  (217, (.putfield 93), 3, 9, 45),
  (220, .return_, 1, 0, 0)]
theorem mm_ck123 : mm_c123.all (mm_ckE 9 prog_11_method_1_code) = true := by decide +kernel
def mm_c124 : List (Nat × mm_E) := [
  (0, (.aload_n 0), 1, 0, 0),
  (1, (.getfield 96), 3, 9, 16),
  (4, .ireturn, 1, 0, 0)]
theorem mm_ck124 : mm_c124.all (mm_ckE 9 prog_11_method_2_code) = true := by decide +kernel
def mm_c125 : List (Nat × mm_E) := [
  (0, (.iload_n 0), 1, 0, 0),
  (1, (.iload_n 1), 1, 0, 0),
  (2, (.if_icmp .lt 12), 3, 14, 0),
  (5, (.iload_n 0), 1, 0, 0),
  (6, (.iload_n 2), 1, 0, 0),
  (7, (.if_icmp .gt 7), 3, 14, 0),
  (10, (.iconst 1), 1, 0, 0),
  (11, (.goto 4), 3, 15, 0),
  (14, (.iconst 0), 1, 0, 0),
  (15, .ireturn, 1, 0, 0)]
theorem mm_ck125 : mm_c125.all (mm_ckE 9 prog_11_method_3_code) = true := by decide +kernel
def mm_c126 : List (Nat × mm_E) := [
  (0, (.iload_n 1), 1, 0, 0),
  (1, (.iconst 0), 1, 0, 0),
  (2, (.aload_n 0), 1, 0, 0),
  (3, (.getfield 99), 3, 9, 4),
  (6, (.iconst 1), 1, 0, 0),
  (7, .isub, 1, 0, 0),
  (8, (.invokestatic 102), 3, 125, 3),
  (11, .ireturn, 1, 0, 0)]
theorem mm_ck126 : mm_c126.all (mm_ckE 9 prog_11_method_4_code) = true := by decide +kernel
def mm_c127 : List (Nat × mm_E) := [
  (0, (.iload_n 0), 1, 0, 0),
  (1, (.bipush 16), 2, 0, 0),
  (3, (.bipush 64), 2, 0, 0),
  (5, (.invokestatic 102), 3, 125, 3),
  (8, (.ifCond .eq 14), 3, 22, 0),
  (11, (.iload_n 0), 1, 0, 0),
  (12, (.bipush 8), 2, 0, 0),
  (14, .irem, 1, 0, 0),
  (15, (.ifCond .ne 7), 3, 22, 0),
  (18, (.iconst 1), 1, 0, 0),
  (19, (.goto 4), 3, 23, 0),
  (22, (.iconst 0), 1, 0, 0),
  (23, .ireturn, 1, 0, 0)]
theorem mm_ck127 : mm_c127.all (mm_ckE 9 prog_11_method_5_code) = true := by decide +kernel
def mm_c128 : List (Nat × mm_E) := [
  (0, (.bipush 56), 2, 0, 0),
  (2, (.istore_n 3), 1, 0, 0),
  (3, (.iload_n 3), 1, 0, 0),
  (4, (.ifCond .lt 36), 3, 40, 0),
  (7, (.aload_n 0), 1, 0, 0),
  (8, (.getfield 7), 3, 9, 0),
  (11, (.aload_n 0), 1, 0, 0),
  (12, (.getfield 106), 3, 9, 1),
  (15, (.lload_n 1), 1, 0, 0),
  (16, (.iload_n 3), 1, 0, 0),
  (17, .lshr, 1, 0, 0),
  (18, .l2i, 1, 0, 0),
  (19, (.sipush 255), 3, 0, 0),
  (22, .iand, 1, 0, 0),
  (23, .iastore, 1, 0, 0),
  (24, (.aload_n 0), 1, 0, 0),
  (25, .dup, 1, 0, 0),
  (26, (.getfield 106), 3, 9, 1),
  (29, (.iconst 1), 1, 0, 0),
  (30, .iadd, 1, 0, 0),
  (31, (.putfield 106), 3, 9, 1),
  (34, (.iinc 3 (-8)), 3, 0, 0),
  (37, (.goto (-34)), 3, 3, 0),
  (40, .return_, 1, 0, 0)]
theorem mm_ck128 : mm_c128.all (mm_ckE 9 prog_11_method_6_code) = true := by decide +kernel
def mm_c129 : List (Nat × mm_E) := [
  (0, (.aload_n 0), 1, 0, 0),
  (1, (.iconst 0), 1, 0, 0),
  (2, (.putfield 96), 3, 9, 16),
  (5, (.aload_n 0), 1, 0, 0),
  (6, (.getfield 106), 3, 9, 1),
  (9, (.bipush 24), 2, 0, 0),
  (11, .iadd, 1, 0, 0),
  (12, (.sipush 240), 3, 0, 0),
  (15, (.if_icmp .le 5), 3, 20, 0),
  (18, (.iconst (-1)), 1, 0, 0),
  (19, .ireturn, 1, 0, 0),
  (20, (.aload_n 0), 1, 0, 0),
  (21, (.lload_n 1), 1, 0, 0),
  (22, (.invokevirtual 109), 3, 128, 2),
  (25, (.aload_n 0), 1, 0, 0),
  (26, (.lload_n 3), 1, 0, 0),
  (27, (.invokevirtual 109), 3, 128, 2),
  (30, (.aload_n 0), 1, 0, 0),
  (31, (.lload 5), 2, 0, 0),
  (33, (.invokevirtual 109), 3, 128, 2),
  (36, (.aload_n 0), 1, 0, 0),
  (37, (.getfield 106), 3, 9, 1),
  (40, .ireturn, 1, 0, 0)]
theorem mm_ck129 : mm_c129.all (mm_ckE 9 prog_11_method_7_code) = true := by decide +kernel
def mm_c130 : List (Nat × mm_E) := [
  (0, (.aload_n 0), 1, 0, 0),
  (1, (.iconst 0), 1, 0, 0),
  (2, (.putfield 96), 3, 9, 16),
  (5, (.iload_n 1), 1, 0, 0),
  (6, (.bipush 8), 2, 0, 0),
  (8, (.if_icmp .eq 9), 3, 17, 0),
  (11, (.iload_n 1), 1, 0, 0),
  (12, (.bipush 16), 2, 0, 0),
  (14, (.if_icmp .ne 26), 3, 40, 0),
  (17, (.aload_n 0), 1, 0, 0),
  (18, (.getfield 99), 3, 9, 4),
  (21, (.ifCond .le 11), 3, 32, 0),
  (24, (.iload_n 1), 1, 0, 0),
  (25, (.aload_n 0), 1, 0, 0),
  (26, (.getfield 113), 3, 9, 5),
  (29, (.if_icmp .ne 11), 3, 40, 0),
  (32, (.aload_n 0), 1, 0, 0),
  (33, (.getfield 99), 3, 9, 4),
  (36, (.iconst 2), 1, 0, 0),
  (37, (.if_icmp .ne 5), 3, 42, 0),
  (40, (.iconst (-1)), 1, 0, 0),
  (41, .ireturn, 1, 0, 0),
  (42, (.aload_n 0), 1, 0, 0),
  (43, (.iload_n 1), 1, 0, 0),
  (44, (.putfield 113), 3, 9, 5),
  (47, (.aload_n 0), 1, 0, 0),
  (48, (.getfield 16), 3, 9, 3),
  (51, (.aload_n 0), 1, 0, 0),
  (52, (.getfield 99), 3, 9, 4),
  (55, (.iconst 0), 1, 0, 0),
  (56, .iastore, 1, 0, 0),
  (57, (.aload_n 0), 1, 0, 0),
  (58, .dup, 1, 0, 0),
  (59, (.getfield 99), 3, 9, 4),
  (62, (.iconst 1), 1, 0, 0),
  (63, .iadd, 1, 0, 0),
  (64, (.putfield 99), 3, 9, 4),
  (67, (.aload_n 0), 1, 0, 0),
  (68, (.getfield 99), 3, 9, 4),
  (71, (.iconst 1), 1, 0, 0),
  (72, .isub, 1, 0, 0),
  (73, .ireturn, 1, 0, 0)]
theorem mm_ck130 : mm_c130.all (mm_ckE 9 prog_11_method_8_code) = true := by decide +kernel
def mm_c131 : List (Nat × mm_E) := [
  (0, (.iload_n 0), 1, 0, 0),
  (1, (.iconst 1), 1, 0, 0),
  (2, (.iload_n 1), 1, 0, 0),
  (3, (.iconst 1), 1, 0, 0),
  (4, .isub, 1, 0, 0),
  (5, .ishl, 1, 0, 0),
  (6, (.if_icmp .lt 11), 3, 17, 0),
  (9, (.iload_n 0), 1, 0, 0),
  (10, (.iconst 1), 1, 0, 0),
  (11, (.iload_n 1), 1, 0, 0),
  (12, .ishl, 1, 0, 0),
  (13, .isub, 1, 0, 0),
  (14, (.goto 4), 3, 18, 0),
  (17, (.iload_n 0), 1, 0, 0),
  (18, .ireturn, 1, 0, 0)]
theorem mm_ck131 : mm_c131.all (mm_ckE 9 prog_11_method_9_code) = true := by decide +kernel
def mm_c132 : List (Nat × mm_E) := [
  (0, (.aload_n 0), 1, 0, 0),
  (1, (.getfield 13), 3, 9, 2),
  (4, (.sipush 256), 3, 0, 0),
  (7, (.iload_n 1), 1, 0, 0),
  (8, .imul, 1, 0, 0),
  (9, (.aload_n 0), 1, 0, 0),
  (10, (.getfield 16), 3, 9, 3),
  (13, (.iload_n 1), 1, 0, 0),
  (14, .iaload, 1, 0, 0),
  (15, .iadd, 1, 0, 0),
  (16, (.iload_n 2), 1, 0, 0),
  (17, .iastore, 1, 0, 0),
  (18, (.aload_n 0), 1, 0, 0),
  (19, (.getfield 16), 3, 9, 3),
  (22, (.iload_n 1), 1, 0, 0),
  (23, .dup2, 1, 0, 0),
  (24, .iaload, 1, 0, 0),
  (25, (.iconst 1), 1, 0, 0),
  (26, .iadd, 1, 0, 0),
  (27, .iastore, 1, 0, 0),
  (28, .return_, 1, 0, 0)]
theorem mm_ck132 : mm_c132.all (mm_ckE 9 prog_11_method_10_code) = true := by decide +kernel
def mm_c133 : List (Nat × mm_E) := [
  (0, (.aload_n 0), 1, 0, 0),
  (1, (.iconst 0), 1, 0, 0),
  (2, (.putfield 96), 3, 9, 16),
  (5, (.aload_n 0), 1, 0, 0),
  (6, (.iload_n 1), 1, 0, 0),
  (7, (.invokevirtual 116), 3, 126, 2),
  (10, (.ifCond .eq 44), 3, 54, 0),
  (13, (.iload_n 2), 1, 0, 0),
  (14, (.iconst 0), 1, 0, 0),
  (15, (.sipush 256), 3, 0, 0),
  (18, (.invokestatic 102), 3, 125, 3),
  (21, (.ifCond .eq 33), 3, 54, 0),
  (24, (.iload_n 2), 1, 0, 0),
  (25, (.aload_n 0), 1, 0, 0),
  (26, (.getfield 113), 3, 9, 5),
  (29, (.bipush 8), 2, 0, 0),
  (31, .idiv, 1, 0, 0),
  (32, .imul, 1, 0, 0),
  (33, (.aload_n 0), 1, 0, 0),
  (34, (.getfield 106), 3, 9, 1),
  (37, (.if_icmp .gt 17), 3, 54, 0),
  (40, (.aload_n 0), 1, 0, 0),
  (41, (.getfield 16), 3, 9, 3),
  (44, (.iload_n 1), 1, 0, 0),
  (45, .iaload, 1, 0, 0),
  (46, (.iload_n 2), 1, 0, 0),
  (47, .iadd, 1, 0, 0),
  (48, (.sipush 256), 3, 0, 0),
  (51, (.if_icmp .le 5), 3, 56, 0),
  (54, (.iconst (-1)), 1, 0, 0),
  (55, .ireturn, 1, 0, 0),
  (56, (.iconst 0), 1, 0, 0),
  (57, (.istore_n 3), 1, 0, 0),
  (58, (.iload_n 3), 1, 0, 0),
  (59, (.iload_n 2), 1, 0, 0),
  (60, (.if_icmp .ge 65), 3, 125, 0),
  (63, (.aload_n 0), 1, 0, 0),
  (64, (.iload_n 1), 1, 0, 0),
  (65, (.aload_n 0), 1, 0, 0),
  (66, (.getfield 113), 3, 9, 5),
  (69, (.bipush 8), 2, 0, 0),
  (71, (.if_icmp .ne 17), 3, 88, 0),
  (74, (.aload_n 0), 1, 0, 0),
  (75, (.getfield 7), 3, 9, 0),
  (78, (.iload_n 3), 1, 0, 0),
  (79, .iaload, 1, 0, 0),
  (80, (.bipush 8), 2, 0, 0),
  (82, (.invokestatic 120), 3, 131, 2),
  (85, (.goto 31), 3, 116, 0),
  (88, (.sipush 256), 3, 0, 0),
  (91, (.aload_n 0), 1, 0, 0),
  (92, (.getfield 7), 3, 9, 0),
  (95, (.iconst 2), 1, 0, 0),
  (96, (.iload_n 3), 1, 0, 0),
  (97, .imul, 1, 0, 0),
  (98, .iaload, 1, 0, 0),
  (99, .imul, 1, 0, 0),
  (100, (.aload_n 0), 1, 0, 0),
  (101, (.getfield 7), 3, 9, 0),
  (104, (.iconst 2), 1, 0, 0),
  (105, (.iload_n 3), 1, 0, 0),
  (106, .imul, 1, 0, 0),
  (107, (.iconst 1), 1, 0, 0),
  (108, .iadd, 1, 0, 0),
  (109, .iaload, 1, 0, 0),
  (110, .iadd, 1, 0, 0),
  (111, (.bipush 16), 2, 0, 0),
  (113, (.invokestatic 120), 3, 131, 2),
  (116, (.invokevirtual 124), 3, 132, 3),
  (119, (.iinc 3 1), 3, 0, 0),
  (122, (.goto (-64)), 3, 58, 0),
  (125, (.aload_n 0), 1, 0, 0),
  (126, (.iconst 0), 1, 0, 0),
  (127, (.putfield 106), 3, 9, 1),
  (130, (.aload_n 0), 1, 0, 0),
  (131, (.getfield 16), 3, 9, 3),
  (134, (.iload_n 1), 1, 0, 0),
  (135, .iaload, 1, 0, 0),
  (136, .ireturn, 1, 0, 0)]
theorem mm_ck133 : mm_c133.all (mm_ckE 9 prog_11_method_11_code) = true := by decide +kernel
def mm_c134 : List (Nat × mm_E) := [
  (0, (.iconst 1), 1, 0, 0),
  (1, (.aload_n 0), 1, 0, 0),
  (2, (.getfield 113), 3, 9, 5),
  (5, (.iconst 1), 1, 0, 0),
  (6, .isub, 1, 0, 0),
  (7, .ishl, 1, 0, 0),
  (8, (.iconst 1), 1, 0, 0),
  (9, .isub, 1, 0, 0),
  (10, (.istore_n 2), 1, 0, 0),
  (11, (.iload_n 1), 1, 0, 0),
  (12, (.iload_n 2), 1, 0, 0),
  (13, (.if_icmp .le 7), 3, 20, 0),
  (16, (.iload_n 2), 1, 0, 0),
  (17, (.goto 19), 3, 36, 0),
  (20, (.iload_n 1), 1, 0, 0),
  (21, (.iload_n 2), 1, 0, 0),
  (22, .ineg, 1, 0, 0),
  (23, (.iconst 1), 1, 0, 0),
  (24, .isub, 1, 0, 0),
  (25, (.if_icmp .ge 10), 3, 35, 0),
  (28, (.iload_n 2), 1, 0, 0),
  (29, .ineg, 1, 0, 0),
  (30, (.iconst 1), 1, 0, 0),
  (31, .isub, 1, 0, 0),
  (32, (.goto 4), 3, 36, 0),
  (35, (.iload_n 1), 1, 0, 0),
  (36, .ireturn, 1, 0, 0)]
theorem mm_ck134 : mm_c134.all (mm_ckE 9 prog_11_method_12_code) = true := by decide +kernel
end
section
def mm_c135 : List (Nat × mm_E) := [
  (0, (.aload_n 0), 1, 0, 0),
  (1, (.ldc 128), 2, 1103515245, 0),
  (3, (.aload_n 0), 1, 0, 0),
  (4, (.getfield 29), 3, 9, 9),
  (7, .imul, 1, 0, 0),
  (8, (.sipush 12345), 3, 0, 0),
  (11, .iadd, 1, 0, 0),
  (12, (.putfield 29), 3, 9, 9),
  (15, (.aload_n 0), 1, 0, 0),
  (16, (.getfield 29), 3, 9, 9),
  (19, (.bipush 16), 2, 0, 0),
  (21, .ishr, 1, 0, 0),
  (22, (.sipush 32767), 3, 0, 0),
  (25, .iand, 1, 0, 0),
  (26, .ireturn, 1, 0, 0)]
theorem mm_ck135 : mm_c135.all (mm_ckE 9 prog_11_method_13_code) = true := by decide +kernel
def mm_c136 : List (Nat × mm_E) := [
  (0, (.iload_n 2), 1, 0, 0),
  (1, (.tableswitch 75 0 3 #[31, 34, 42, 60]), 31, 0, 0),
  (32, (.iload 4), 2, 0, 0),
  (34, .ireturn, 1, 0, 0),
  (35, (.iload 4), 2, 0, 0),
  (37, (.iload_n 3), 1, 0, 0),
  (38, (.iload 5), 2, 0, 0),
  (40, .imul, 1, 0, 0),
  (41, .iadd, 1, 0, 0),
  (42, .ireturn, 1, 0, 0),
  (43, (.iload_n 3), 1, 0, 0),
  (44, (.iload 5), 2, 0, 0),
  (46, .idiv, 1, 0, 0),
  (47, (.iconst 2), 1, 0, 0),
  (48, .irem, 1, 0, 0),
  (49, (.ifCond .ne 8), 3, 57, 0),
  (52, (.iload 4), 2, 0, 0),
  (54, (.goto 6), 3, 60, 0),
  (57, (.iload 4), 2, 0, 0),
  (59, .ineg, 1, 0, 0),
  (60, .ireturn, 1, 0, 0),
  (61, (.aload_n 0), 1, 0, 0),
  (62, (.invokevirtual 129), 3, 135, 1),
  (65, (.iconst 2), 1, 0, 0),
  (66, (.iload 4), 2, 0, 0),
  (68, .imul, 1, 0, 0),
  (69, (.iconst 1), 1, 0, 0),
  (70, .iadd, 1, 0, 0),
  (71, .irem, 1, 0, 0),
  (72, (.iload 4), 2, 0, 0),
  (74, .isub, 1, 0, 0),
  (75, .ireturn, 1, 0, 0),
  (76, (.aload_n 0), 1, 0, 0),
  (77, (.getfield 16), 3, 9, 3),
  (80, (.iload_n 1), 1, 0, 0),
  (81, .iaload, 1, 0, 0),
  (82, (.iload 5), 2, 0, 0),
  (84, .isub, 1, 0, 0),
  (85, (.istore 6), 2, 0, 0),
  (87, (.aload_n 0), 1, 0, 0),
  (88, (.getfield 99), 3, 9, 4),
  (91, (.iconst 2), 1, 0, 0),
  (92, (.if_icmp .ne 42), 3, 134, 0),
  (95, (.iload 6), 2, 0, 0),
  (97, (.ifCond .lt 37), 3, 134, 0),
  (100, (.iload 6), 2, 0, 0),
  (102, (.aload_n 0), 1, 0, 0),
  (103, (.getfield 16), 3, 9, 3),
  (106, (.iconst 1), 1, 0, 0),
  (107, (.iload_n 1), 1, 0, 0),
  (108, .isub, 1, 0, 0),
  (109, .iaload, 1, 0, 0),
  (110, (.if_icmp .ge 24), 3, 134, 0),
  (113, (.iload 4), 2, 0, 0),
  (115, (.aload_n 0), 1, 0, 0),
  (116, (.getfield 13), 3, 9, 2),
  (119, (.sipush 256), 3, 0, 0),
  (122, (.iconst 1), 1, 0, 0),
  (123, (.iload_n 1), 1, 0, 0),
  (124, .isub, 1, 0, 0),
  (125, .imul, 1, 0, 0),
  (126, (.iload 6), 2, 0, 0),
  (128, .iadd, 1, 0, 0),
  (129, .iaload, 1, 0, 0),
  (130, .iadd, 1, 0, 0),
  (131, (.goto 5), 3, 136, 0),
  (134, (.iload 4), 2, 0, 0),
  (136, .ireturn, 1, 0, 0)]
theorem mm_ck136 : mm_c136.all (mm_ckE 9 prog_11_method_14_code) = true := by decide +kernel
def mm_c137 : List (Nat × mm_E) := [
  (0, (.aload_n 0), 1, 0, 0),
  (1, (.iconst 0), 1, 0, 0),
  (2, (.putfield 96), 3, 9, 16),
  (5, (.aload_n 0), 1, 0, 0),
  (6, (.iload_n 1), 1, 0, 0),
  (7, (.invokevirtual 116), 3, 126, 2),
  (10, (.ifCond .eq 46), 3, 56, 0),
  (13, (.iload_n 2), 1, 0, 0),
  (14, (.iconst 0), 1, 0, 0),
  (15, (.iconst 4), 1, 0, 0),
  (16, (.invokestatic 102), 3, 125, 3),
  (19, (.ifCond .eq 37), 3, 56, 0),
  (22, (.iload_n 3), 1, 0, 0),
  (23, (.iconst 1), 1, 0, 0),
  (24, (.bipush 64), 2, 0, 0),
  (26, (.invokestatic 102), 3, 125, 3),
  (29, (.ifCond .eq 27), 3, 56, 0),
  (32, (.iload 4), 2, 0, 0),
  (34, (.ldc 133), 2, 4294901760, 0),
  (36, (.ldc 134), 2, 65536, 0),
  (38, (.invokestatic 102), 3, 125, 3),
  (41, (.ifCond .eq 15), 3, 56, 0),
  (44, (.iload 5), 2, 0, 0),
  (46, (.ldc 133), 2, 4294901760, 0),
  (48, (.ldc 134), 2, 65536, 0),
  (50, (.invokestatic 102), 3, 125, 3),
  (53, (.ifCond .ne 5), 3, 58, 0),
  (56, (.iconst (-1)), 1, 0, 0),
  (57, .ireturn, 1, 0, 0),
  (58, (.iload_n 2), 1, 0, 0),
  (59, (.iconst 2), 1, 0, 0),
  (60, (.if_icmp .ne 14), 3, 74, 0),
  (63, (.iload 5), 2, 0, 0),
  (65, (.iconst 1), 1, 0, 0),
  (66, (.bipush 64), 2, 0, 0),
  (68, (.invokestatic 102), 3, 125, 3),
  (71, (.ifCond .eq 51), 3, 122, 0),
  (74, (.iload_n 2), 1, 0, 0),
  (75, (.iconst 3), 1, 0, 0),
  (76, (.if_icmp .ne 15), 3, 91, 0),
  (79, (.iload 4), 2, 0, 0),
  (81, (.iconst 0), 1, 0, 0),
  (82, (.sipush 32767), 3, 0, 0),
  (85, (.invokestatic 102), 3, 125, 3),
  (88, (.ifCond .eq 34), 3, 122, 0),
  (91, (.iload_n 2), 1, 0, 0),
  (92, (.iconst 4), 1, 0, 0),
  (93, (.if_icmp .ne 15), 3, 108, 0),
  (96, (.iload 5), 2, 0, 0),
  (98, (.iconst 0), 1, 0, 0),
  (99, (.sipush 255), 3, 0, 0),
  (102, (.invokestatic 102), 3, 125, 3),
  (105, (.ifCond .eq 17), 3, 122, 0),
  (108, (.aload_n 0), 1, 0, 0),
  (109, (.getfield 16), 3, 9, 3),
  (112, (.iload_n 1), 1, 0, 0),
  (113, .iaload, 1, 0, 0),
  (114, (.iload_n 3), 1, 0, 0),
  (115, .iadd, 1, 0, 0),
  (116, (.sipush 256), 3, 0, 0),
  (119, (.if_icmp .le 5), 3, 124, 0),
  (122, (.iconst (-1)), 1, 0, 0),
  (123, .ireturn, 1, 0, 0),
  (124, (.iload_n 2), 1, 0, 0),
  (125, (.iconst 3), 1, 0, 0),
  (126, (.if_icmp .ne 14), 3, 140, 0),
  (129, (.iload 5), 2, 0, 0),
  (131, (.ifCond .eq 9), 3, 140, 0),
  (134, (.aload_n 0), 1, 0, 0),
  (135, (.iload 5), 2, 0, 0),
  (137, (.putfield 29), 3, 9, 9),
  (140, (.iconst 0), 1, 0, 0),
  (141, (.istore 6), 2, 0, 0),
  (143, (.iload 6), 2, 0, 0),
  (145, (.iload_n 3), 1, 0, 0),
  (146, (.if_icmp .ge 30), 3, 176, 0),
  (149, (.aload_n 0), 1, 0, 0),
  (150, (.iload_n 1), 1, 0, 0),
  (151, (.aload_n 0), 1, 0, 0),
  (152, (.aload_n 0), 1, 0, 0),
  (153, (.iload_n 1), 1, 0, 0),
  (154, (.iload_n 2), 1, 0, 0),
  (155, (.iload 6), 2, 0, 0),
  (157, (.iload 4), 2, 0, 0),
  (159, (.iload 5), 2, 0, 0),
  (161, (.invokevirtual 135), 3, 136, 6),
  (164, (.invokevirtual 139), 3, 134, 2),
  (167, (.invokevirtual 124), 3, 132, 3),
  (170, (.iinc 6 1), 3, 0, 0),
  (173, (.goto (-30)), 3, 143, 0),
  (176, (.aload_n 0), 1, 0, 0),
  (177, (.getfield 16), 3, 9, 3),
  (180, (.iload_n 1), 1, 0, 0),
  (181, .iaload, 1, 0, 0),
  (182, .ireturn, 1, 0, 0)]
theorem mm_ck137 : mm_c137.all (mm_ckE 9 prog_11_method_15_code) = true := by decide +kernel
def mm_c138 : List (Nat × mm_E) := [
  (0, (.aload_n 0), 1, 0, 0),
  (1, (.iconst 0), 1, 0, 0),
  (2, (.putfield 96), 3, 9, 16),
  (5, (.aload_n 0), 1, 0, 0),
  (6, (.getfield 99), 3, 9, 4),
  (9, (.istore_n 1), 1, 0, 0),
  (10, (.aload_n 0), 1, 0, 0),
  (11, (.iconst 0), 1, 0, 0),
  (12, (.putfield 106), 3, 9, 1),
  (15, (.aload_n 0), 1, 0, 0),
  (16, (.iconst 0), 1, 0, 0),
  (17, (.putfield 99), 3, 9, 4),
  (20, (.aload_n 0), 1, 0, 0),
  (21, (.iconst 0), 1, 0, 0),
  (22, (.putfield 113), 3, 9, 5),
  (25, (.aload_n 0), 1, 0, 0),
  (26, (.bipush 32), 2, 0, 0),
  (28, (.putfield 19), 3, 9, 6),
  (31, (.aload_n 0), 1, 0, 0),
  (32, (.iconst 1), 1, 0, 0),
  (33, (.putfield 23), 3, 9, 7),
  (36, (.aload_n 0), 1, 0, 0),
  (37, (.sipush 255), 3, 0, 0),
  (40, (.putfield 26), 3, 9, 8),
  (43, (.aload_n 0), 1, 0, 0),
  (44, (.iconst 1), 1, 0, 0),
  (45, (.putfield 29), 3, 9, 9),
  (48, (.iconst 0), 1, 0, 0),
  (49, (.istore_n 2), 1, 0, 0),
  (50, (.iload_n 2), 1, 0, 0),
  (51, (.bipush 9), 2, 0, 0),
  (53, (.if_icmp .ge 16), 3, 69, 0),
  (56, (.aload_n 0), 1, 0, 0),
  (57, (.getfield 32), 3, 9, 10),
  (60, (.iload_n 2), 1, 0, 0),
  (61, (.iconst 0), 1, 0, 0),
  (62, .iastore, 1, 0, 0),
  (63, (.iinc 2 1), 3, 0, 0),
  (66, (.goto (-16)), 3, 50, 0),
  (69, (.iconst 0), 1, 0, 0),
  (70, (.istore_n 2), 1, 0, 0),
  (71, (.iload_n 2), 1, 0, 0),
  (72, (.iconst 3), 1, 0, 0),
  (73, (.if_icmp .ge 16), 3, 89, 0),
  (76, (.aload_n 0), 1, 0, 0),
  (77, (.getfield 35), 3, 9, 11),
  (80, (.iload_n 2), 1, 0, 0),
  (81, (.iconst 0), 1, 0, 0),
  (82, .iastore, 1, 0, 0),
  (83, (.iinc 2 1), 3, 0, 0),
  (86, (.goto (-15)), 3, 71, 0),
  (89, (.iload_n 1), 1, 0, 0),
  (90, .ireturn, 1, 0, 0)]
theorem mm_ck138 : mm_c138.all (mm_ckE 9 prog_11_method_16_code) = true := by decide +kernel
def mm_c139 : List (Nat × mm_E) := [
  (0, (.aload_n 0), 1, 0, 0),
  (1, (.iconst 0), 1, 0, 0),
  (2, (.putfield 96), 3, 9, 16),
  (5, (.iload_n 1), 1, 0, 0),
  (6, (.invokestatic 143), 3, 127, 1),
  (9, (.ifCond .ne 5), 3, 14, 0),
  (12, (.iconst (-1)), 1, 0, 0),
  (13, .ireturn, 1, 0, 0),
  (14, (.aload_n 0), 1, 0, 0),
  (15, (.getfield 19), 3, 9, 6),
  (18, (.istore_n 2), 1, 0, 0),
  (19, (.aload_n 0), 1, 0, 0),
  (20, (.iload_n 1), 1, 0, 0),
  (21, (.putfield 19), 3, 9, 6),
  (24, (.iload_n 2), 1, 0, 0),
  (25, .ireturn, 1, 0, 0)]
theorem mm_ck139 : mm_c139.all (mm_ckE 9 prog_11_method_17_code) = true := by decide +kernel
def mm_c140 : List (Nat × mm_E) := [
  (0, (.aload_n 0), 1, 0, 0),
  (1, (.iconst 0), 1, 0, 0),
  (2, (.putfield 96), 3, 9, 16),
  (5, (.iload_n 1), 1, 0, 0),
  (6, (.iconst 5), 1, 0, 0),
  (7, (.bipush 7), 2, 0, 0),
  (9, (.invokestatic 102), 3, 125, 3),
  (12, (.ifCond .eq 47), 3, 59, 0),
  (15, (.iload_n 2), 1, 0, 0),
  (16, (.bipush (-31)), 2, 0, 0),
  (18, (.bipush 31), 2, 0, 0),
  (20, (.invokestatic 102), 3, 125, 3),
  (23, (.ifCond .eq 36), 3, 59, 0),
  (26, (.iload_n 3), 1, 0, 0),
  (27, (.bipush (-31)), 2, 0, 0),
  (29, (.bipush 31), 2, 0, 0),
  (31, (.invokestatic 102), 3, 125, 3),
  (34, (.ifCond .eq 25), 3, 59, 0),
  (37, (.iload 4), 2, 0, 0),
  (39, (.bipush (-31)), 2, 0, 0),
  (41, (.bipush 31), 2, 0, 0),
  (43, (.invokestatic 102), 3, 125, 3),
  (46, (.ifCond .eq 13), 3, 59, 0),
  (49, (.iload 5), 2, 0, 0),
  (51, (.iconst 0), 1, 0, 0),
  (52, (.iconst 4), 1, 0, 0),
  (53, (.invokestatic 102), 3, 125, 3),
  (56, (.ifCond .ne 5), 3, 61, 0),
  (59, (.iconst (-1)), 1, 0, 0),
  (60, .ireturn, 1, 0, 0),
  (61, (.iconst 3), 1, 0, 0),
  (62, (.iload_n 1), 1, 0, 0),
  (63, (.iconst 5), 1, 0, 0),
  (64, .isub, 1, 0, 0),
  (65, .imul, 1, 0, 0),
  (66, (.istore 6), 2, 0, 0),
  (68, (.aload_n 0), 1, 0, 0),
  (69, (.getfield 32), 3, 9, 10),
  (72, (.iload 6), 2, 0, 0),
  (74, (.iload_n 2), 1, 0, 0),
  (75, .iastore, 1, 0, 0),
  (76, (.aload_n 0), 1, 0, 0),
  (77, (.getfield 32), 3, 9, 10),
  (80, (.iload 6), 2, 0, 0),
  (82, (.iconst 1), 1, 0, 0),
  (83, .iadd, 1, 0, 0),
  (84, (.iload_n 3), 1, 0, 0),
  (85, .iastore, 1, 0, 0),
  (86, (.aload_n 0), 1, 0, 0),
  (87, (.getfield 32), 3, 9, 10),
  (90, (.iload 6), 2, 0, 0),
  (92, (.iconst 2), 1, 0, 0),
  (93, .iadd, 1, 0, 0),
  (94, (.iload 4), 2, 0, 0),
  (96, .iastore, 1, 0, 0),
  (97, (.aload_n 0), 1, 0, 0),
  (98, (.getfield 35), 3, 9, 11),
  (101, (.iload_n 1), 1, 0, 0),
  (102, (.iconst 5), 1, 0, 0),
  (103, .isub, 1, 0, 0),
  (104, (.iload 5), 2, 0, 0),
  (106, .iastore, 1, 0, 0),
  (107, (.iload_n 1), 1, 0, 0),
  (108, (.aload_n 0), 1, 0, 0),
  (109, (.getfield 32), 3, 9, 10),
  (112, (.invokestatic 146), 3, 144, 2),
  (115, .ireturn, 1, 0, 0)]
theorem mm_ck140 : mm_c140.all (mm_ckE 9 prog_11_method_18_code) = true := by decide +kernel
def mm_c141 : List (Nat × mm_E) := [
  (0, (.aload_n 0), 1, 0, 0),
  (1, (.iconst 0), 1, 0, 0),
  (2, (.putfield 96), 3, 9, 16),
  (5, (.iload_n 1), 1, 0, 0),
  (6, (.iconst 0), 1, 0, 0),
  (7, (.iconst 1), 1, 0, 0),
  (8, (.invokestatic 102), 3, 125, 3),
  (11, (.ifCond .ne 5), 3, 16, 0),
  (14, (.iconst (-1)), 1, 0, 0),
  (15, .ireturn, 1, 0, 0),
  (16, (.aload_n 0), 1, 0, 0),
  (17, (.getfield 23), 3, 9, 7),
  (20, (.istore_n 2), 1, 0, 0),
  (21, (.aload_n 0), 1, 0, 0),
  (22, (.iload_n 1), 1, 0, 0),
  (23, (.putfield 23), 3, 9, 7),
  (26, (.iload_n 2), 1, 0, 0),
  (27, .ireturn, 1, 0, 0)]
theorem mm_ck141 : mm_c141.all (mm_ckE 9 prog_11_method_19_code) = true := by decide +kernel
def mm_c142 : List (Nat × mm_E) := [
  (0, (.aload_n 0), 1, 0, 0),
  (1, (.iconst 0), 1, 0, 0),
  (2, (.putfield 96), 3, 9, 16),
  (5, (.iload_n 1), 1, 0, 0),
  (6, (.iconst 0), 1, 0, 0),
  (7, (.sipush 255), 3, 0, 0),
  (10, (.invokestatic 102), 3, 125, 3),
  (13, (.ifCond .ne 5), 3, 18, 0),
  (16, (.iconst (-1)), 1, 0, 0),
  (17, .ireturn, 1, 0, 0),
  (18, (.aload_n 0), 1, 0, 0),
  (19, (.getfield 26), 3, 9, 8),
  (22, (.istore_n 2), 1, 0, 0),
  (23, (.aload_n 0), 1, 0, 0),
  (24, (.iload_n 1), 1, 0, 0),
  (25, (.iconst 1), 1, 0, 0),
  (26, .ior, 1, 0, 0),
  (27, (.putfield 26), 3, 9, 8),
  (30, (.iload_n 2), 1, 0, 0),
  (31, .ireturn, 1, 0, 0)]
theorem mm_ck142 : mm_c142.all (mm_ckE 9 prog_11_method_20_code) = true := by decide +kernel
def mm_c143 : List (Nat × mm_E) := [
  (0, (.aload_n 0), 1, 0, 0),
  (1, (.iconst 0), 1, 0, 0),
  (2, (.putfield 96), 3, 9, 16),
  (5, (.aload_n 0), 1, 0, 0),
  (6, (.iload_n 1), 1, 0, 0),
  (7, (.invokevirtual 116), 3, 126, 2),
  (10, (.ifCond .eq 34), 3, 44, 0),
  (13, (.iload_n 2), 1, 0, 0),
  (14, (.iconst 0), 1, 0, 0),
  (15, (.aload_n 0), 1, 0, 0),
  (16, (.getfield 16), 3, 9, 3),
  (19, (.iload_n 1), 1, 0, 0),
  (20, .iaload, 1, 0, 0),
  (21, (.iconst 1), 1, 0, 0),
  (22, .isub, 1, 0, 0),
  (23, (.invokestatic 102), 3, 125, 3),
  (26, (.ifCond .eq 18), 3, 44, 0),
  (29, (.aload_n 0), 1, 0, 0),
  (30, (.getfield 13), 3, 9, 2),
  (33, (.sipush 256), 3, 0, 0),
  (36, (.iload_n 1), 1, 0, 0),
  (37, .imul, 1, 0, 0),
  (38, (.iload_n 2), 1, 0, 0),
  (39, .iadd, 1, 0, 0),
  (40, .iaload, 1, 0, 0),
  (41, (.goto 5), 3, 46, 0),
  (44, (.ldc 150), 2, 2147483648, 0),
  (46, .ireturn, 1, 0, 0)]
theorem mm_ck143 : mm_c143.all (mm_ckE 9 prog_11_method_21_code) = true := by decide +kernel
def mm_c144 : List (Nat × mm_E) := [
  (0, (.iload_n 0), 1, 0, 0),
  (1, (.iconst 5), 1, 0, 0),
  (2, (.if_icmp .ge 5), 3, 7, 0),
  (5, (.iload_n 0), 1, 0, 0),
  (6, .ireturn, 1, 0, 0),
  (7, (.iconst 3), 1, 0, 0),
  (8, (.iload_n 0), 1, 0, 0),
  (9, (.iconst 5), 1, 0, 0),
  (10, .isub, 1, 0, 0),
  (11, .imul, 1, 0, 0),
  (12, (.istore_n 2), 1, 0, 0),
  (13, (.aload_n 1), 1, 0, 0),
  (14, (.iload_n 2), 1, 0, 0),
  (15, (.iconst 2), 1, 0, 0),
  (16, .iadd, 1, 0, 0),
  (17, .iaload, 1, 0, 0),
  (18, (.ifCond .eq 7), 3, 25, 0),
  (21, (.iconst 3), 1, 0, 0),
  (22, (.goto 26), 3, 48, 0),
  (25, (.aload_n 1), 1, 0, 0),
  (26, (.iload_n 2), 1, 0, 0),
  (27, (.iconst 1), 1, 0, 0),
  (28, .iadd, 1, 0, 0),
  (29, .iaload, 1, 0, 0),
  (30, (.ifCond .eq 7), 3, 37, 0),
  (33, (.iconst 2), 1, 0, 0),
  (34, (.goto 14), 3, 48, 0),
  (37, (.aload_n 1), 1, 0, 0),
  (38, (.iload_n 2), 1, 0, 0),
  (39, .iaload, 1, 0, 0),
  (40, (.ifCond .eq 7), 3, 47, 0),
  (43, (.iconst 1), 1, 0, 0),
  (44, (.goto 4), 3, 48, 0),
  (47, (.iconst 0), 1, 0, 0),
  (48, .ireturn, 1, 0, 0)]
theorem mm_ck144 : mm_c144.all (mm_ckE 9 prog_11_method_22_code) = true := by decide +kernel
def mm_c145 : List (Nat × mm_E) := [
  (0, (.iconst 0), 1, 0, 0),
  (1, (.istore 5), 2, 0, 0),
  (3, (.iconst 0), 1, 0, 0),
  (4, (.istore 6), 2, 0, 0),
  (6, (.iload 6), 2, 0, 0),
  (8, (.iload_n 2), 1, 0, 0),
  (9, (.aload_n 3), 1, 0, 0),
  (10, (.invokestatic 146), 3, 144, 2),
  (13, (.if_icmp .ge 51), 3, 64, 0),
  (16, (.iload 5), 2, 0, 0),
  (18, (.iload_n 2), 1, 0, 0),
  (19, (.iconst 5), 1, 0, 0),
  (20, (.if_icmp .ge 16), 3, 36, 0),
  (23, (.getstatic 151), 3, 0, 0),
  (26, (.iconst 4), 1, 0, 0),
  (27, (.iload_n 2), 1, 0, 0),
  (28, .imul, 1, 0, 0),
  (29, (.iload 6), 2, 0, 0),
  (31, .iadd, 1, 0, 0),
  (32, .iaload, 1, 0, 0),
  (33, (.goto 13), 3, 46, 0),
  (36, (.aload_n 3), 1, 0, 0),
  (37, (.iconst 3), 1, 0, 0),
  (38, (.iload_n 2), 1, 0, 0),
  (39, (.iconst 5), 1, 0, 0),
  (40, .isub, 1, 0, 0),
  (41, .imul, 1, 0, 0),
  (42, (.iload 6), 2, 0, 0),
  (44, .iadd, 1, 0, 0),
  (45, .iaload, 1, 0, 0),
  (46, (.aload_n 0), 1, 0, 0),
  (47, (.iload_n 1), 1, 0, 0),
  (48, (.iconst 1), 1, 0, 0),
  (49, .isub, 1, 0, 0),
  (50, (.iload 6), 2, 0, 0),
  (52, .isub, 1, 0, 0),
  (53, .iaload, 1, 0, 0),
  (54, .imul, 1, 0, 0),
  (55, .iadd, 1, 0, 0),
  (56, (.istore 5), 2, 0, 0),
  (58, (.iinc 6 1), 3, 0, 0),
  (61, (.goto (-55)), 3, 6, 0),
  (64, (.iload_n 2), 1, 0, 0),
  (65, (.iconst 5), 1, 0, 0),
  (66, (.if_icmp .ge 8), 3, 74, 0),
  (69, (.iload 5), 2, 0, 0),
  (71, (.goto 12), 3, 83, 0),
  (74, (.iload 5), 2, 0, 0),
  (76, (.aload 4), 2, 0, 0),
  (78, (.iload_n 2), 1, 0, 0),
  (79, (.iconst 5), 1, 0, 0),
  (80, .isub, 1, 0, 0),
  (81, .iaload, 1, 0, 0),
  (82, .ishr, 1, 0, 0),
  (83, .ireturn, 1, 0, 0)]
theorem mm_ck145 : mm_c145.all (mm_ckE 9 prog_11_method_23_code) = true := by decide +kernel
def mm_c146 : List (Nat × mm_E) := [
  (0, (.aload_n 0), 1, 0, 0),
  (1, (.getfield 99), 3, 9, 4),
  (4, (.ifCond .le 30), 3, 34, 0),
  (7, (.aload_n 0), 1, 0, 0),
  (8, (.getfield 99), 3, 9, 4),
  (11, (.iconst 1), 1, 0, 0),
  (12, (.if_icmp .eq 18), 3, 30, 0),
  (15, (.aload_n 0), 1, 0, 0),
  (16, (.getfield 16), 3, 9, 3),
  (19, (.iconst 0), 1, 0, 0),
  (20, .iaload, 1, 0, 0),
  (21, (.aload_n 0), 1, 0, 0),
  (22, (.getfield 16), 3, 9, 3),
  (25, (.iconst 1), 1, 0, 0),
  (26, .iaload, 1, 0, 0),
  (27, (.if_icmp .ne 7), 3, 34, 0),
  (30, (.iconst 1), 1, 0, 0),
  (31, (.goto 4), 3, 35, 0),
  (34, (.iconst 0), 1, 0, 0),
  (35, .ireturn, 1, 0, 0)]
theorem mm_ck146 : mm_c146.all (mm_ckE 9 prog_11_method_24_code) = true := by decide +kernel
def mm_c147 : List (Nat × mm_E) := [
  (0, (.aload_n 0), 1, 0, 0),
  (1, (.invokevirtual 154), 3, 146, 1),
  (4, (.ifCond .eq 24), 3, 28, 0),
  (7, (.aload_n 0), 1, 0, 0),
  (8, (.getfield 16), 3, 9, 3),
  (11, (.iconst 0), 1, 0, 0),
  (12, .iaload, 1, 0, 0),
  (13, (.aload_n 0), 1, 0, 0),
  (14, (.getfield 19), 3, 9, 6),
  (17, .iadd, 1, 0, 0),
  (18, (.iconst 1), 1, 0, 0),
  (19, .isub, 1, 0, 0),
  (20, (.aload_n 0), 1, 0, 0),
  (21, (.getfield 19), 3, 9, 6),
  (24, .idiv, 1, 0, 0),
  (25, (.goto 4), 3, 29, 0),
  (28, (.iconst 0), 1, 0, 0),
  (29, .ireturn, 1, 0, 0)]
theorem mm_ck147 : mm_c147.all (mm_ckE 9 prog_11_method_25_code) = true := by decide +kernel
def mm_c148 : List (Nat × mm_E) := [
  (0, (.iload_n 1), 1, 0, 0),
  (1, (.iconst 0), 1, 0, 0),
  (2, (.aload_n 0), 1, 0, 0),
  (3, (.invokevirtual 158), 3, 147, 1),
  (6, (.iconst 1), 1, 0, 0),
  (7, .isub, 1, 0, 0),
  (8, (.invokestatic 102), 3, 125, 3),
  (11, .ireturn, 1, 0, 0)]
theorem mm_ck148 : mm_c148.all (mm_ckE 9 prog_11_method_26_code) = true := by decide +kernel
def mm_c149 : List (Nat × mm_E) := [
  (0, (.aload_n 0), 1, 0, 0),
  (1, (.getfield 19), 3, 9, 6),
  (4, (.iload_n 1), 1, 0, 0),
  (5, .imul, 1, 0, 0),
  (6, (.istore_n 3), 1, 0, 0),
  (7, (.aload_n 0), 1, 0, 0),
  (8, (.aload_n 0), 1, 0, 0),
  (9, (.getfield 16), 3, 9, 3),
  (12, (.iconst 0), 1, 0, 0),
  (13, .iaload, 1, 0, 0),
  (14, (.iload_n 3), 1, 0, 0),
  (15, .isub, 1, 0, 0),
  (16, (.aload_n 0), 1, 0, 0),
  (17, (.getfield 19), 3, 9, 6),
  (20, (.if_icmp .ge 14), 3, 34, 0),
  (23, (.aload_n 0), 1, 0, 0),
  (24, (.getfield 16), 3, 9, 3),
  (27, (.iconst 0), 1, 0, 0),
  (28, .iaload, 1, 0, 0),
  (29, (.iload_n 3), 1, 0, 0),
  (30, .isub, 1, 0, 0),
  (31, (.goto 7), 3, 38, 0),
  (34, (.aload_n 0), 1, 0, 0),
  (35, (.getfield 19), 3, 9, 6),
  (38, (.putfield 161), 3, 9, 18),
  (41, (.aload_n 0), 1, 0, 0),
  (42, (.iload_n 2), 1, 0, 0),
  (43, (.iconst 2), 1, 0, 0),
  (44, (.if_icmp .ne 12), 3, 56, 0),
  (47, (.aload_n 0), 1, 0, 0),
  (48, (.getfield 113), 3, 9, 5),
  (51, (.iconst 1), 1, 0, 0),
  (52, .iadd, 1, 0, 0),
  (53, (.goto 7), 3, 60, 0),
  (56, (.aload_n 0), 1, 0, 0),
  (57, (.getfield 113), 3, 9, 5),
  (60, (.putfield 164), 3, 9, 19),
  (63, (.iconst 0), 1, 0, 0),
  (64, (.istore 4), 2, 0, 0),
  (66, (.iload 4), 2, 0, 0),
  (68, (.aload_n 0), 1, 0, 0),
  (69, (.getfield 161), 3, 9, 18),
  (72, (.if_icmp .ge 81), 3, 153, 0),
  (75, (.aload_n 0), 1, 0, 0),
  (76, (.getfield 13), 3, 9, 2),
  (79, (.iload_n 3), 1, 0, 0),
  (80, (.iload 4), 2, 0, 0),
  (82, .iadd, 1, 0, 0),
  (83, .iaload, 1, 0, 0),
  (84, (.istore 5), 2, 0, 0),
  (86, (.aload_n 0), 1, 0, 0),
  (87, (.getfield 13), 3, 9, 2),
  (90, (.sipush 256), 3, 0, 0),
  (93, (.iload_n 3), 1, 0, 0),
  (94, .iadd, 1, 0, 0),
  (95, (.iload 4), 2, 0, 0),
  (97, .iadd, 1, 0, 0),
  (98, .iaload, 1, 0, 0),
  (99, (.istore 6), 2, 0, 0),
  (101, (.aload_n 0), 1, 0, 0),
  (102, (.getfield 47), 3, 9, 17),
  (105, (.iload 4), 2, 0, 0),
  (107, (.iload_n 2), 1, 0, 0),
  (108, (.ifCond .ne 8), 3, 116, 0),
  (111, (.iload 5), 2, 0, 0),
  (113, (.goto 33), 3, 146, 0),
  (116, (.iload_n 2), 1, 0, 0),
  (117, (.iconst 1), 1, 0, 0),
  (118, (.if_icmp .ne 8), 3, 126, 0),
  (121, (.iload 6), 2, 0, 0),
  (123, (.goto 23), 3, 146, 0),
  (126, (.iload_n 2), 1, 0, 0),
  (127, (.iconst 2), 1, 0, 0),
  (128, (.if_icmp .ne 11), 3, 139, 0),
  (131, (.iload 5), 2, 0, 0),
  (133, (.iload 6), 2, 0, 0),
  (135, .isub, 1, 0, 0),
  (136, (.goto 10), 3, 146, 0),
  (139, (.iload 5), 2, 0, 0),
  (141, (.iload 6), 2, 0, 0),
  (143, .iadd, 1, 0, 0),
  (144, (.iconst 1), 1, 0, 0),
  (145, .ishr, 1, 0, 0),
  (146, .iastore, 1, 0, 0),
  (147, (.iinc 4 1), 3, 0, 0),
  (150, (.goto (-84)), 3, 66, 0),
  (153, .return_, 1, 0, 0)]
theorem mm_ck149 : mm_c149.all (mm_ckE 9 prog_11_method_27_code) = true := by decide +kernel
def mm_c150 : List (Nat × mm_E) := [
  (0, (.iload_n 1), 1, 0, 0),
  (1, (.ifCond .ne 25), 3, 26, 0),
  (4, (.iload_n 0), 1, 0, 0),
  (5, (.iconst 2), 1, 0, 0),
  (6, (.if_icmp .ne 7), 3, 13, 0),
  (9, (.iconst 2), 1, 0, 0),
  (10, (.goto 30), 3, 40, 0),
  (13, (.iload_n 0), 1, 0, 0),
  (14, (.iconst 3), 1, 0, 0),
  (15, (.if_icmp .ne 7), 3, 22, 0),
  (18, (.iconst 3), 1, 0, 0),
  (19, (.goto 21), 3, 40, 0),
  (22, (.iconst 0), 1, 0, 0),
  (23, (.goto 17), 3, 40, 0),
  (26, (.iload_n 0), 1, 0, 0),
  (27, (.ifCond .eq 8), 3, 35, 0),
  (30, (.iload_n 0), 1, 0, 0),
  (31, (.iconst 2), 1, 0, 0),
  (32, (.if_icmp .ne 7), 3, 39, 0),
  (35, (.iconst 1), 1, 0, 0),
  (36, (.goto 4), 3, 40, 0),
  (39, (.iconst 2), 1, 0, 0),
  (40, .ireturn, 1, 0, 0)]
theorem mm_ck150 : mm_c150.all (mm_ckE 9 prog_11_method_28_code) = true := by decide +kernel
def mm_c151 : List (Nat × mm_E) := [
  (0, (.iload_n 1), 1, 0, 0),
  (1, (.aload_n 0), 1, 0, 0),
  (2, (.getfield 32), 3, 9, 10),
  (5, (.invokestatic 146), 3, 144, 2),
  (8, (.istore_n 2), 1, 0, 0),
  (9, (.aload_n 0), 1, 0, 0),
  (10, (.aload_n 0), 1, 0, 0),
  (11, (.getfield 161), 3, 9, 18),
  (14, (.iload_n 2), 1, 0, 0),
  (15, .isub, 1, 0, 0),
  (16, (.putfield 167), 3, 9, 21),
  (19, (.aload_n 0), 1, 0, 0),
  (20, (.aload_n 0), 1, 0, 0),
  (21, (.getfield 167), 3, 9, 21),
  (24, (.bipush 7), 2, 0, 0),
  (26, .iadd, 1, 0, 0),
  (27, (.bipush 8), 2, 0, 0),
  (29, .idiv, 1, 0, 0),
  (30, (.putfield 170), 3, 9, 22),
  (33, (.iconst 0), 1, 0, 0),
  (34, (.istore_n 3), 1, 0, 0),
  (35, (.iload_n 3), 1, 0, 0),
  (36, (.aload_n 0), 1, 0, 0),
  (37, (.getfield 167), 3, 9, 21),
  (40, (.if_icmp .ge 43), 3, 83, 0),
  (43, (.aload_n 0), 1, 0, 0),
  (44, (.getfield 50), 3, 9, 20),
  (47, (.iload_n 3), 1, 0, 0),
  (48, (.aload_n 0), 1, 0, 0),
  (49, (.getfield 47), 3, 9, 17),
  (52, (.iload_n 2), 1, 0, 0),
  (53, (.iload_n 3), 1, 0, 0),
  (54, .iadd, 1, 0, 0),
  (55, .iaload, 1, 0, 0),
  (56, (.aload_n 0), 1, 0, 0),
  (57, (.getfield 47), 3, 9, 17),
  (60, (.iload_n 2), 1, 0, 0),
  (61, (.iload_n 3), 1, 0, 0),
  (62, .iadd, 1, 0, 0),
  (63, (.iload_n 1), 1, 0, 0),
  (64, (.aload_n 0), 1, 0, 0),
  (65, (.getfield 32), 3, 9, 10),
  (68, (.aload_n 0), 1, 0, 0),
  (69, (.getfield 35), 3, 9, 11),
  (72, (.invokestatic 173), 3, 145, 5),
  (75, .isub, 1, 0, 0),
  (76, .iastore, 1, 0, 0),
  (77, (.iinc 3 1), 3, 0, 0),
  (80, (.goto (-45)), 3, 35, 0),
  (83, .return_, 1, 0, 0)]
theorem mm_ck151 : mm_c151.all (mm_ckE 9 prog_11_method_29_code) = true := by decide +kernel
def mm_c152 : List (Nat × mm_E) := [
  (0, (.iload_n 0), 1, 0, 0),
  (1, (.ifCond .ge 12), 3, 13, 0),
  (4, (.bipush (-2)), 2, 0, 0),
  (6, (.iload_n 0), 1, 0, 0),
  (7, .imul, 1, 0, 0),
  (8, (.iconst 1), 1, 0, 0),
  (9, .isub, 1, 0, 0),
  (10, (.goto 6), 3, 16, 0),
  (13, (.iconst 2), 1, 0, 0),
  (14, (.iload_n 0), 1, 0, 0),
  (15, .imul, 1, 0, 0),
  (16, .ireturn, 1, 0, 0)]
theorem mm_ck152 : mm_c152.all (mm_ckE 9 prog_11_method_30_code) = true := by decide +kernel
def mm_c153 : List (Nat × mm_E) := [
  (0, (.iconst 1), 1, 0, 0),
  (1, (.istore_n 1), 1, 0, 0),
  (2, (.iload_n 0), 1, 0, 0),
  (3, (.iconst 1), 1, 0, 0),
  (4, (.iload_n 1), 1, 0, 0),
  (5, (.iconst 1), 1, 0, 0),
  (6, .isub, 1, 0, 0),
  (7, .ishl, 1, 0, 0),
  (8, .ineg, 1, 0, 0),
  (9, (.if_icmp .lt 14), 3, 23, 0),
  (12, (.iload_n 0), 1, 0, 0),
  (13, (.iconst 1), 1, 0, 0),
  (14, (.iload_n 1), 1, 0, 0),
  (15, (.iconst 1), 1, 0, 0),
  (16, .isub, 1, 0, 0),
  (17, .ishl, 1, 0, 0),
  (18, (.iconst 1), 1, 0, 0),
  (19, .isub, 1, 0, 0),
  (20, (.if_icmp .le 9), 3, 29, 0),
  (23, (.iinc 1 1), 3, 0, 0),
  (26, (.goto (-24)), 3, 2, 0),
  (29, (.iload_n 1), 1, 0, 0),
  (30, .ireturn, 1, 0, 0)]
theorem mm_ck153 : mm_c153.all (mm_ckE 9 prog_11_method_31_code) = true := by decide +kernel
def mm_c154 : List (Nat × mm_E) := [
  (0, (.aload_n 0), 1, 0, 0),
  (1, (.getfield 167), 3, 9, 21),
  (4, (.bipush 8), 2, 0, 0),
  (6, (.iload_n 1), 1, 0, 0),
  (7, .imul, 1, 0, 0),
  (8, .isub, 1, 0, 0),
  (9, (.bipush 8), 2, 0, 0),
  (11, (.if_icmp .ge 15), 3, 26, 0),
  (14, (.aload_n 0), 1, 0, 0),
  (15, (.getfield 167), 3, 9, 21),
  (18, (.bipush 8), 2, 0, 0),
  (20, (.iload_n 1), 1, 0, 0),
  (21, .imul, 1, 0, 0),
  (22, .isub, 1, 0, 0),
  (23, (.goto 5), 3, 28, 0),
  (26, (.bipush 8), 2, 0, 0),
  (28, .ireturn, 1, 0, 0)]
theorem mm_ck154 : mm_c154.all (mm_ckE 9 prog_11_method_32_code) = true := by decide +kernel
def mm_c155 : List (Nat × mm_E) := [
  (0, (.iconst 0), 1, 0, 0),
  (1, (.istore_n 1), 1, 0, 0),
  (2, (.iload_n 1), 1, 0, 0),
  (3, (.aload_n 0), 1, 0, 0),
  (4, (.getfield 170), 3, 9, 22),
  (7, (.if_icmp .ge 165), 3, 172, 0),
  (10, (.aload_n 0), 1, 0, 0),
  (11, (.getfield 56), 3, 9, 24),
  (14, (.iload_n 1), 1, 0, 0),
  (15, (.iconst 1), 1, 0, 0),
  (16, .iastore, 1, 0, 0),
  (17, (.aload_n 0), 1, 0, 0),
  (18, (.getfield 59), 3, 9, 25),
  (21, (.iload_n 1), 1, 0, 0),
  (22, (.iconst 1), 1, 0, 0),
  (23, .bastore, 1, 0, 0),
  (24, (.iconst 0), 1, 0, 0),
  (25, (.istore_n 2), 1, 0, 0),
  (26, (.iload_n 2), 1, 0, 0),
  (27, (.bipush 14), 2, 0, 0),
  (29, (.if_icmp .ge 21), 3, 50, 0),
  (32, (.aload_n 0), 1, 0, 0),
  (33, (.getfield 53), 3, 9, 23),
  (36, (.bipush 14), 2, 0, 0),
  (38, (.iload_n 1), 1, 0, 0),
  (39, .imul, 1, 0, 0),
  (40, (.iload_n 2), 1, 0, 0),
  (41, .iadd, 1, 0, 0),
  (42, (.iconst 0), 1, 0, 0),
  (43, .iastore, 1, 0, 0),
  (44, (.iinc 2 1), 3, 0, 0),
  (47, (.goto (-21)), 3, 26, 0),
  (50, (.bipush 8), 2, 0, 0),
  (52, (.iload_n 1), 1, 0, 0),
  (53, .imul, 1, 0, 0),
  (54, (.istore_n 2), 1, 0, 0),
  (55, (.iload_n 2), 1, 0, 0),
  (56, (.bipush 8), 2, 0, 0),
  (58, (.iload_n 1), 1, 0, 0),
  (59, .imul, 1, 0, 0),
  (60, (.aload_n 0), 1, 0, 0),
  (61, (.iload_n 1), 1, 0, 0),
  (62, (.invokevirtual 177), 3, 154, 2),
  (65, .iadd, 1, 0, 0),
  (66, (.if_icmp .ge 100), 3, 166, 0),
  (69, (.aload_n 0), 1, 0, 0),
  (70, (.getfield 50), 3, 9, 20),
  (73, (.iload_n 2), 1, 0, 0),
  (74, .iaload, 1, 0, 0),
  (75, (.invokestatic 180), 3, 152, 1),
  (78, (.istore_n 3), 1, 0, 0),
  (79, (.iconst 0), 1, 0, 0),
  (80, (.istore 4), 2, 0, 0),
  (82, (.iload 4), 2, 0, 0),
  (84, (.bipush 14), 2, 0, 0),
  (86, (.if_icmp .ge 33), 3, 119, 0),
  (89, (.aload_n 0), 1, 0, 0),
  (90, (.getfield 53), 3, 9, 23),
  (93, (.bipush 14), 2, 0, 0),
  (95, (.iload_n 1), 1, 0, 0),
  (96, .imul, 1, 0, 0),
  (97, (.iload 4), 2, 0, 0),
  (99, .iadd, 1, 0, 0),
  (100, .dup2, 1, 0, 0),
  (101, .iaload, 1, 0, 0),
  (102, (.iload_n 3), 1, 0, 0),
  (103, (.iload 4), 2, 0, 0),
  (105, .ishr, 1, 0, 0),
  (106, (.iconst 1), 1, 0, 0),
  (107, .iadd, 1, 0, 0),
  (108, (.iload 4), 2, 0, 0),
  (110, .iadd, 1, 0, 0),
  (111, .iadd, 1, 0, 0),
  (112, .iastore, 1, 0, 0),
  (113, (.iinc 4 1), 3, 0, 0),
  (116, (.goto (-34)), 3, 82, 0),
  (119, (.aload_n 0), 1, 0, 0),
  (120, (.getfield 50), 3, 9, 20),
  (123, (.iload_n 2), 1, 0, 0),
  (124, .iaload, 1, 0, 0),
  (125, (.invokestatic 183), 3, 153, 1),
  (128, (.istore 4), 2, 0, 0),
  (130, (.iload 4), 2, 0, 0),
  (132, (.aload_n 0), 1, 0, 0),
  (133, (.getfield 56), 3, 9, 24),
  (136, (.iload_n 1), 1, 0, 0),
  (137, .iaload, 1, 0, 0),
  (138, (.if_icmp .le 11), 3, 149, 0),
  (141, (.aload_n 0), 1, 0, 0),
  (142, (.getfield 56), 3, 9, 24),
  (145, (.iload_n 1), 1, 0, 0),
  (146, (.iload 4), 2, 0, 0),
  (148, .iastore, 1, 0, 0),
  (149, (.iload_n 3), 1, 0, 0),
  (150, (.ifCond .eq 10), 3, 160, 0),
  (153, (.aload_n 0), 1, 0, 0),
  (154, (.getfield 59), 3, 9, 25),
  (157, (.iload_n 1), 1, 0, 0),
  (158, (.iconst 0), 1, 0, 0),
  (159, .bastore, 1, 0, 0),
  (160, (.iinc 2 1), 3, 0, 0),
  (163, (.goto (-108)), 3, 55, 0),
  (166, (.iinc 1 1), 3, 0, 0),
  (169, (.goto (-167)), 3, 2, 0),
  (172, .return_, 1, 0, 0)]
theorem mm_ck155 : mm_c155.all (mm_ckE 9 prog_11_method_33_code) = true := by decide +kernel
def mm_c156 : List (Nat × mm_E) := [
  (0, (.bipush 7), 2, 0, 0),
  (2, (.istore 4), 2, 0, 0),
  (4, (.iconst 1), 1, 0, 0),
  (5, (.istore 5), 2, 0, 0),
  (7, (.iconst 0), 1, 0, 0),
  (8, (.istore 6), 2, 0, 0),
  (10, (.iconst 1), 1, 0, 0),
  (11, (.istore 7), 2, 0, 0),
  (13, (.iload_n 1), 1, 0, 0),
  (14, (.istore 8), 2, 0, 0),
  (16, (.iload 8), 2, 0, 0),
  (18, (.iload_n 2), 1, 0, 0),
  (19, (.if_icmp .ge 86), 3, 105, 0),
  (22, (.iload_n 3), 1, 0, 0),
  (23, (.bipush 14), 2, 0, 0),
  (25, (.if_icmp .ge 20), 3, 45, 0),
  (28, (.iload 4), 2, 0, 0),
  (30, (.aload_n 0), 1, 0, 0),
  (31, (.getfield 53), 3, 9, 23),
  (34, (.bipush 14), 2, 0, 0),
  (36, (.iload 8), 2, 0, 0),
  (38, .imul, 1, 0, 0),
  (39, (.iload_n 3), 1, 0, 0),
  (40, .iadd, 1, 0, 0),
  (41, .iaload, 1, 0, 0),
  (42, .iadd, 1, 0, 0),
  (43, (.istore 4), 2, 0, 0),
  (45, (.aload_n 0), 1, 0, 0),
  (46, (.getfield 56), 3, 9, 24),
  (49, (.iload 8), 2, 0, 0),
  (51, .iaload, 1, 0, 0),
  (52, (.iload 5), 2, 0, 0),
  (54, (.if_icmp .le 12), 3, 66, 0),
  (57, (.aload_n 0), 1, 0, 0),
  (58, (.getfield 56), 3, 9, 24),
  (61, (.iload 8), 2, 0, 0),
  (63, .iaload, 1, 0, 0),
  (64, (.istore 5), 2, 0, 0),
  (66, (.iload 7), 2, 0, 0),
  (68, (.ifCond .eq 17), 3, 85, 0),
  (71, (.aload_n 0), 1, 0, 0),
  (72, (.getfield 59), 3, 9, 25),
  (75, (.iload 8), 2, 0, 0),
  (77, .baload, 1, 0, 0),
  (78, (.ifCond .eq 7), 3, 85, 0),
  (81, (.iconst 1), 1, 0, 0),
  (82, (.goto 4), 3, 86, 0),
  (85, (.iconst 0), 1, 0, 0),
  (86, (.istore 7), 2, 0, 0),
  (88, (.iload 6), 2, 0, 0),
  (90, (.aload_n 0), 1, 0, 0),
  (91, (.iload 8), 2, 0, 0),
  (93, (.invokevirtual 177), 3, 154, 2),
  (96, .iadd, 1, 0, 0),
  (97, (.istore 6), 2, 0, 0),
  (99, (.iinc 8 1), 3, 0, 0),
  (102, (.goto (-86)), 3, 16, 0),
  (105, (.iload_n 3), 1, 0, 0),
  (106, (.bipush 15), 2, 0, 0),
  (108, (.if_icmp .ne 15), 3, 123, 0),
  (111, (.iload 7), 2, 0, 0),
  (113, (.ifCond .eq 8), 3, 121, 0),
  (116, (.bipush 7), 2, 0, 0),
  (118, (.goto 4), 3, 122, 0),
  (121, (.iconst (-1)), 1, 0, 0),
  (122, .ireturn, 1, 0, 0),
  (123, (.iload_n 3), 1, 0, 0),
  (124, (.bipush 14), 2, 0, 0),
  (126, (.if_icmp .ne 14), 3, 140, 0),
  (129, (.bipush 12), 2, 0, 0),
  (131, (.iload 5), 2, 0, 0),
  (133, (.iload 6), 2, 0, 0),
  (135, .imul, 1, 0, 0),
  (136, .iadd, 1, 0, 0),
  (137, (.goto 5), 3, 142, 0),
  (140, (.iload 4), 2, 0, 0),
  (142, .ireturn, 1, 0, 0)]
theorem mm_ck156 : mm_c156.all (mm_ckE 9 prog_11_method_34_code) = true := by decide +kernel
def mm_c157 : List (Nat × mm_E) := [
  (0, (.iconst 0), 1, 0, 0),
  (1, (.istore_n 3), 1, 0, 0),
  (2, (.iconst 1), 1, 0, 0),
  (3, (.istore 4), 2, 0, 0),
  (5, (.iload 4), 2, 0, 0),
  (7, (.bipush 16), 2, 0, 0),
  (9, (.if_icmp .ge 39), 3, 48, 0),
  (12, (.aload_n 0), 1, 0, 0),
  (13, (.iload_n 1), 1, 0, 0),
  (14, (.iload_n 2), 1, 0, 0),
  (15, (.iload 4), 2, 0, 0),
  (17, (.invokevirtual 186), 3, 156, 4),
  (20, (.istore 5), 2, 0, 0),
  (22, (.iload 5), 2, 0, 0),
  (24, (.ifCond .lt 18), 3, 42, 0),
  (27, (.iload 5), 2, 0, 0),
  (29, (.aload_n 0), 1, 0, 0),
  (30, (.iload_n 1), 1, 0, 0),
  (31, (.iload_n 2), 1, 0, 0),
  (32, (.iload_n 3), 1, 0, 0),
  (33, (.invokevirtual 186), 3, 156, 4),
  (36, (.if_icmp .ge 6), 3, 42, 0),
  (39, (.iload 4), 2, 0, 0),
  (41, (.istore_n 3), 1, 0, 0),
  (42, (.iinc 4 1), 3, 0, 0),
  (45, (.goto (-40)), 3, 5, 0),
  (48, (.iload_n 3), 1, 0, 0),
  (49, .ireturn, 1, 0, 0)]
theorem mm_ck157 : mm_c157.all (mm_ckE 9 prog_11_method_35_code) = true := by decide +kernel
def mm_c158 : List (Nat × mm_E) := [
  (0, (.iconst 0), 1, 0, 0),
  (1, (.istore_n 1), 1, 0, 0),
  (2, (.iload_n 1), 1, 0, 0),
  (3, (.aload_n 0), 1, 0, 0),
  (4, (.getfield 170), 3, 9, 22),
  (7, (.if_icmp .ge 64), 3, 71, 0),
  (10, (.iload_n 1), 1, 0, 0),
  (11, (.iconst 1), 1, 0, 0),
  (12, .iadd, 1, 0, 0),
  (13, (.istore_n 2), 1, 0, 0),
  (14, (.iload_n 2), 1, 0, 0),
  (15, (.aload_n 0), 1, 0, 0),
  (16, (.getfield 170), 3, 9, 22),
  (19, (.if_icmp .gt 46), 3, 65, 0),
  (22, (.aload_n 0), 1, 0, 0),
  (23, (.iload_n 1), 1, 0, 0),
  (24, (.iload_n 2), 1, 0, 0),
  (25, (.invokevirtual 190), 3, 157, 3),
  (28, (.istore_n 3), 1, 0, 0),
  (29, (.aload_n 0), 1, 0, 0),
  (30, (.getfield 72), 3, 9, 30),
  (33, (.bipush 9), 2, 0, 0),
  (35, (.iload_n 1), 1, 0, 0),
  (36, .imul, 1, 0, 0),
  (37, (.iload_n 2), 1, 0, 0),
  (38, .iadd, 1, 0, 0),
  (39, (.iload_n 3), 1, 0, 0),
  (40, .iastore, 1, 0, 0),
  (41, (.aload_n 0), 1, 0, 0),
  (42, (.getfield 75), 3, 9, 31),
  (45, (.bipush 9), 2, 0, 0),
  (47, (.iload_n 1), 1, 0, 0),
  (48, .imul, 1, 0, 0),
  (49, (.iload_n 2), 1, 0, 0),
  (50, .iadd, 1, 0, 0),
  (51, (.aload_n 0), 1, 0, 0),
  (52, (.iload_n 1), 1, 0, 0),
  (53, (.iload_n 2), 1, 0, 0),
  (54, (.iload_n 3), 1, 0, 0),
  (55, (.invokevirtual 186), 3, 156, 4),
  (58, .iastore, 1, 0, 0),
  (59, (.iinc 2 1), 3, 0, 0),
  (62, (.goto (-48)), 3, 14, 0),
  (65, (.iinc 1 1), 3, 0, 0),
  (68, (.goto (-66)), 3, 2, 0),
  (71, .return_, 1, 0, 0)]
theorem mm_ck158 : mm_c158.all (mm_ckE 9 prog_11_method_36_code) = true := by decide +kernel
def mm_c159 : List (Nat × mm_E) := [
  (0, (.iconst 0), 1, 0, 0),
  (1, (.istore_n 2), 1, 0, 0),
  (2, (.iconst 0), 1, 0, 0),
  (3, (.istore_n 3), 1, 0, 0),
  (4, (.iconst 0), 1, 0, 0),
  (5, (.istore 4), 2, 0, 0),
  (7, (.iload 4), 2, 0, 0),
  (9, (.aload_n 0), 1, 0, 0),
  (10, (.getfield 170), 3, 9, 22),
  (13, (.if_icmp .ge 61), 3, 74, 0),
  (16, (.iload 4), 2, 0, 0),
  (18, (.aload_n 0), 1, 0, 0),
  (19, (.getfield 170), 3, 9, 22),
  (22, (.iconst 1), 1, 0, 0),
  (23, .isub, 1, 0, 0),
  (24, (.if_icmp .ge 22), 3, 46, 0),
  (27, (.iload_n 1), 1, 0, 0),
  (28, (.aload_n 0), 1, 0, 0),
  (29, (.getfield 170), 3, 9, 22),
  (32, (.iconst 2), 1, 0, 0),
  (33, .isub, 1, 0, 0),
  (34, (.iload 4), 2, 0, 0),
  (36, .isub, 1, 0, 0),
  (37, .ishr, 1, 0, 0),
  (38, (.iconst 1), 1, 0, 0),
  (39, .iand, 1, 0, 0),
  (40, (.ifCond .ne 6), 3, 46, 0),
  (43, (.goto 25), 3, 68, 0),
  (46, (.iload_n 2), 1, 0, 0),
  (47, (.aload_n 0), 1, 0, 0),
  (48, (.getfield 75), 3, 9, 31),
  (51, (.bipush 9), 2, 0, 0),
  (53, (.iload_n 3), 1, 0, 0),
  (54, .imul, 1, 0, 0),
  (55, (.iload 4), 2, 0, 0),
  (57, .iadd, 1, 0, 0),
  (58, (.iconst 1), 1, 0, 0),
  (59, .iadd, 1, 0, 0),
  (60, .iaload, 1, 0, 0),
  (61, .iadd, 1, 0, 0),
  (62, (.istore_n 2), 1, 0, 0),
  (63, (.iload 4), 2, 0, 0),
  (65, (.iconst 1), 1, 0, 0),
  (66, .iadd, 1, 0, 0),
  (67, (.istore_n 3), 1, 0, 0),
  (68, (.iinc 4 1), 3, 0, 0),
  (71, (.goto (-64)), 3, 7, 0),
  (74, (.iload_n 2), 1, 0, 0),
  (75, .ireturn, 1, 0, 0)]
theorem mm_ck159 : mm_c159.all (mm_ckE 9 prog_11_method_37_code) = true := by decide +kernel
def mm_c160 : List (Nat × mm_E) := [
  (0, (.iconst 0), 1, 0, 0),
  (1, (.istore_n 1), 1, 0, 0),
  (2, (.iload_n 0), 1, 0, 0),
  (3, (.istore_n 2), 1, 0, 0),
  (4, (.iload_n 2), 1, 0, 0),
  (5, (.ifCond .le 16), 3, 21, 0),
  (8, (.iload_n 1), 1, 0, 0),
  (9, (.iload_n 2), 1, 0, 0),
  (10, (.iconst 1), 1, 0, 0),
  (11, .iand, 1, 0, 0),
  (12, .iadd, 1, 0, 0),
  (13, (.istore_n 1), 1, 0, 0),
  (14, (.iload_n 2), 1, 0, 0),
  (15, (.iconst 1), 1, 0, 0),
  (16, .ishr, 1, 0, 0),
  (17, (.istore_n 2), 1, 0, 0),
  (18, (.goto (-14)), 3, 4, 0),
  (21, (.iload_n 1), 1, 0, 0),
  (22, .ireturn, 1, 0, 0)]
theorem mm_ck160 : mm_c160.all (mm_ckE 9 prog_11_method_38_code) = true := by decide +kernel
def mm_c161 : List (Nat × mm_E) := [
  (0, (.aload_n 0), 1, 0, 0),
  (1, (.invokevirtual 193), 3, 155, 1),
  (4, (.aload_n 0), 1, 0, 0),
  (5, (.invokevirtual 196), 3, 158, 1),
  (8, (.iconst 0), 1, 0, 0),
  (9, (.istore_n 1), 1, 0, 0),
  (10, (.aload_n 0), 1, 0, 0),
  (11, (.iconst 0), 1, 0, 0),
  (12, (.invokevirtual 199), 3, 159, 2),
  (15, (.istore_n 2), 1, 0, 0),
  (16, (.iconst 1), 1, 0, 0),
  (17, (.istore_n 3), 1, 0, 0),
  (18, (.iload_n 3), 1, 0, 0),
  (19, (.iconst 1), 1, 0, 0),
  (20, (.aload_n 0), 1, 0, 0),
  (21, (.getfield 170), 3, 9, 22),
  (24, (.iconst 1), 1, 0, 0),
  (25, .isub, 1, 0, 0),
  (26, .ishl, 1, 0, 0),
  (27, (.if_icmp .ge 47), 3, 74, 0),
  (30, (.aload_n 0), 1, 0, 0),
  (31, (.iload_n 3), 1, 0, 0),
  (32, (.invokevirtual 199), 3, 159, 2),
  (35, (.istore 4), 2, 0, 0),
  (37, (.iload 4), 2, 0, 0),
  (39, (.iload_n 2), 1, 0, 0),
  (40, (.if_icmp .gt 28), 3, 68, 0),
  (43, (.iload 4), 2, 0, 0),
  (45, (.iload_n 2), 1, 0, 0),
  (46, (.if_icmp .ne 17), 3, 63, 0),
  (49, (.iload_n 3), 1, 0, 0),
  (50, (.invokestatic 202), 3, 160, 1),
  (53, (.iload_n 1), 1, 0, 0),
  (54, (.invokestatic 202), 3, 160, 1),
  (57, (.if_icmp .lt 6), 3, 63, 0),
  (60, (.goto 8), 3, 68, 0),
  (63, (.iload_n 3), 1, 0, 0),
  (64, (.istore_n 1), 1, 0, 0),
  (65, (.iload 4), 2, 0, 0),
  (67, (.istore_n 2), 1, 0, 0),
  (68, (.iinc 3 1), 3, 0, 0),
  (71, (.goto (-53)), 3, 18, 0),
  (74, (.aload_n 0), 1, 0, 0),
  (75, (.iconst 0), 1, 0, 0),
  (76, (.putfield 205), 3, 9, 29),
  (79, (.iconst 0), 1, 0, 0),
  (80, (.istore_n 3), 1, 0, 0),
  (81, (.iconst 0), 1, 0, 0),
  (82, (.istore 4), 2, 0, 0),
  (84, (.iload 4), 2, 0, 0),
  (86, (.aload_n 0), 1, 0, 0),
  (87, (.getfield 170), 3, 9, 22),
  (90, (.if_icmp .ge 113), 3, 203, 0),
  (93, (.iload 4), 2, 0, 0),
  (95, (.aload_n 0), 1, 0, 0),
  (96, (.getfield 170), 3, 9, 22),
  (99, (.iconst 1), 1, 0, 0),
  (100, .isub, 1, 0, 0),
  (101, (.if_icmp .ge 22), 3, 123, 0),
  (104, (.iload_n 1), 1, 0, 0),
  (105, (.aload_n 0), 1, 0, 0),
  (106, (.getfield 170), 3, 9, 22),
  (109, (.iconst 2), 1, 0, 0),
  (110, .isub, 1, 0, 0),
  (111, (.iload 4), 2, 0, 0),
  (113, .isub, 1, 0, 0),
  (114, .ishr, 1, 0, 0),
  (115, (.iconst 1), 1, 0, 0),
  (116, .iand, 1, 0, 0),
  (117, (.ifCond .ne 6), 3, 123, 0),
  (120, (.goto 77), 3, 197, 0),
  (123, (.aload_n 0), 1, 0, 0),
  (124, (.getfield 63), 3, 9, 26),
  (127, (.aload_n 0), 1, 0, 0),
  (128, (.getfield 205), 3, 9, 29),
  (131, (.iload 4), 2, 0, 0),
  (133, (.iconst 1), 1, 0, 0),
  (134, .iadd, 1, 0, 0),
  (135, .iastore, 1, 0, 0),
  (136, (.aload_n 0), 1, 0, 0),
  (137, (.getfield 66), 3, 9, 27),
  (140, (.aload_n 0), 1, 0, 0),
  (141, (.getfield 205), 3, 9, 29),
  (144, (.aload_n 0), 1, 0, 0),
  (145, (.getfield 72), 3, 9, 30),
  (148, (.bipush 9), 2, 0, 0),
  (150, (.iload_n 3), 1, 0, 0),
  (151, .imul, 1, 0, 0),
  (152, (.iload 4), 2, 0, 0),
  (154, .iadd, 1, 0, 0),
  (155, (.iconst 1), 1, 0, 0),
  (156, .iadd, 1, 0, 0),
  (157, .iaload, 1, 0, 0),
  (158, .iastore, 1, 0, 0),
  (159, (.aload_n 0), 1, 0, 0),
  (160, (.getfield 69), 3, 9, 28),
  (163, (.aload_n 0), 1, 0, 0),
  (164, (.getfield 205), 3, 9, 29),
  (167, (.aload_n 0), 1, 0, 0),
  (168, (.getfield 75), 3, 9, 31),
  (171, (.bipush 9), 2, 0, 0),
  (173, (.iload_n 3), 1, 0, 0),
  (174, .imul, 1, 0, 0),
  (175, (.iload 4), 2, 0, 0),
  (177, .iadd, 1, 0, 0),
  (178, (.iconst 1), 1, 0, 0),
  (179, .iadd, 1, 0, 0),
  (180, .iaload, 1, 0, 0),
  (181, .iastore, 1, 0, 0),
  (182, (.aload_n 0), 1, 0, 0),
  (183, .dup, 1, 0, 0),
  (184, (.getfield 205), 3, 9, 29),
  (187, (.iconst 1), 1, 0, 0),
  (188, .iadd, 1, 0, 0),
  (189, (.putfield 205), 3, 9, 29),
  (192, (.iload 4), 2, 0, 0),
  (194, (.iconst 1), 1, 0, 0),
  (195, .iadd, 1, 0, 0),
  (196, (.istore_n 3), 1, 0, 0),
  (197, (.iinc 4 1), 3, 0, 0),
  (200, (.goto (-116)), 3, 84, 0),
  (203, (.iload_n 2), 1, 0, 0),
  (204, .ireturn, 1, 0, 0)]
theorem mm_ck161 : mm_c161.all (mm_ckE 9 prog_11_method_39_code) = true := by decide +kernel
def mm_c162 : List (Nat × mm_E) := [
  (0, (.iconst 0), 1, 0, 0),
  (1, (.istore_n 1), 1, 0, 0),
  (2, (.iconst 0), 1, 0, 0),
  (3, (.istore_n 2), 1, 0, 0),
  (4, (.iload_n 2), 1, 0, 0),
  (5, (.aload_n 0), 1, 0, 0),
  (6, (.getfield 167), 3, 9, 21),
  (9, (.if_icmp .ge 37), 3, 46, 0),
  (12, (.iload_n 1), 1, 0, 0),
  (13, (.aload_n 0), 1, 0, 0),
  (14, (.getfield 50), 3, 9, 20),
  (17, (.iload_n 2), 1, 0, 0),
  (18, .iaload, 1, 0, 0),
  (19, (.ifCond .ge 13), 3, 32, 0),
  (22, (.aload_n 0), 1, 0, 0),
  (23, (.getfield 50), 3, 9, 20),
  (26, (.iload_n 2), 1, 0, 0),
  (27, .iaload, 1, 0, 0),
  (28, .ineg, 1, 0, 0),
  (29, (.goto 9), 3, 38, 0),
  (32, (.aload_n 0), 1, 0, 0),
  (33, (.getfield 50), 3, 9, 20),
  (36, (.iload_n 2), 1, 0, 0),
  (37, .iaload, 1, 0, 0),
  (38, .iadd, 1, 0, 0),
  (39, (.istore_n 1), 1, 0, 0),
  (40, (.iinc 2 1), 3, 0, 0),
  (43, (.goto (-39)), 3, 4, 0),
  (46, (.iload_n 1), 1, 0, 0),
  (47, .ireturn, 1, 0, 0)]
theorem mm_ck162 : mm_c162.all (mm_ckE 9 prog_11_method_40_code) = true := by decide +kernel
end
section
def mm_c163 : List (Nat × mm_E) := [
  (0, (.aload_n 0), 1, 0, 0),
  (1, (.invokevirtual 208), 3, 162, 1),
  (4, .i2f, 1, 0, 0),
  (5, (.aload_n 0), 1, 0, 0),
  (6, (.getfield 167), 3, 9, 21),
  (9, .i2f, 1, 0, 0),
  (10, .fdiv, 1, 0, 0),
  (11, .freturn, 1, 0, 0)]
theorem mm_ck163 : mm_c163.all (mm_ckE 9 prog_11_method_41_code) = true := by decide +kernel
def mm_c164 : List (Nat × mm_E) := [
  (0, (.aload_n 0), 1, 0, 0),
  (1, (.invokevirtual 193), 3, 155, 1),
  (4, (.bipush 15), 2, 0, 0),
  (6, (.istore_n 1), 1, 0, 0),
  (7, (.aload_n 0), 1, 0, 0),
  (8, (.invokevirtual 208), 3, 162, 1),
  (11, (.ifCond .le 34), 3, 45, 0),
  (14, (.aload_n 0), 1, 0, 0),
  (15, (.invokevirtual 211), 3, 163, 1),
  (18, (.fstore_n 2), 1, 0, 0),
  (19, (.iconst 0), 1, 0, 0),
  (20, (.istore_n 1), 1, 0, 0),
  (21, (.fconst 1), 1, 0, 0),
  (22, (.fstore_n 3), 1, 0, 0),
  (23, (.iload_n 1), 1, 0, 0),
  (24, (.bipush 13), 2, 0, 0),
  (26, (.if_icmp .ge 19), 3, 45, 0),
  (29, (.fload_n 2), 1, 0, 0),
  (30, (.fload_n 3), 1, 0, 0),
  (31, (.fcmp .l), 1, 0, 0),
  (32, (.ifCond .lt 13), 3, 45, 0),
  (35, (.iinc 1 1), 3, 0, 0),
  (38, (.fload_n 3), 1, 0, 0),
  (39, (.fconst 2), 1, 0, 0),
  (40, .fmul, 1, 0, 0),
  (41, (.fstore_n 3), 1, 0, 0),
  (42, (.goto (-19)), 3, 23, 0),
  (45, (.aload_n 0), 1, 0, 0),
  (46, (.iconst 1), 1, 0, 0),
  (47, (.putfield 205), 3, 9, 29),
  (50, (.aload_n 0), 1, 0, 0),
  (51, (.getfield 63), 3, 9, 26),
  (54, (.iconst 0), 1, 0, 0),
  (55, (.aload_n 0), 1, 0, 0),
  (56, (.getfield 170), 3, 9, 22),
  (59, .iastore, 1, 0, 0),
  (60, (.aload_n 0), 1, 0, 0),
  (61, (.getfield 66), 3, 9, 27),
  (64, (.iconst 0), 1, 0, 0),
  (65, (.iload_n 1), 1, 0, 0),
  (66, .iastore, 1, 0, 0),
  (67, (.aload_n 0), 1, 0, 0),
  (68, (.getfield 69), 3, 9, 28),
  (71, (.iconst 0), 1, 0, 0),
  (72, (.aload_n 0), 1, 0, 0),
  (73, (.iconst 0), 1, 0, 0),
  (74, (.aload_n 0), 1, 0, 0),
  (75, (.getfield 170), 3, 9, 22),
  (78, (.iload_n 1), 1, 0, 0),
  (79, (.invokevirtual 186), 3, 156, 4),
  (82, .iastore, 1, 0, 0),
  (83, (.aload_n 0), 1, 0, 0),
  (84, (.getfield 69), 3, 9, 28),
  (87, (.iconst 0), 1, 0, 0),
  (88, .iaload, 1, 0, 0),
  (89, .ireturn, 1, 0, 0)]
theorem mm_ck164 : mm_c164.all (mm_ckE 9 prog_11_method_42_code) = true := by decide +kernel
def mm_c165 : List (Nat × mm_E) := [
  (0, (.aload_n 0), 1, 0, 0),
  (1, (.iload_n 1), 1, 0, 0),
  (2, (.invokevirtual 215), 3, 151, 2),
  (5, (.iconst 4), 1, 0, 0),
  (6, (.aload_n 0), 1, 0, 0),
  (7, (.getfield 164), 3, 9, 19),
  (10, (.iload_n 1), 1, 0, 0),
  (11, (.aload_n 0), 1, 0, 0),
  (12, (.getfield 32), 3, 9, 10),
  (15, (.invokestatic 146), 3, 144, 2),
  (18, .imul, 1, 0, 0),
  (19, .iadd, 1, 0, 0),
  (20, (.aload_n 0), 1, 0, 0),
  (21, (.getfield 23), 3, 9, 7),
  (24, (.iconst 1), 1, 0, 0),
  (25, (.if_icmp .ne 10), 3, 35, 0),
  (28, (.aload_n 0), 1, 0, 0),
  (29, (.invokevirtual 219), 3, 161, 1),
  (32, (.goto 7), 3, 39, 0),
  (35, (.aload_n 0), 1, 0, 0),
  (36, (.invokevirtual 222), 3, 164, 1),
  (39, .iadd, 1, 0, 0),
  (40, .ireturn, 1, 0, 0)]
theorem mm_ck165 : mm_c165.all (mm_ckE 9 prog_11_method_43_code) = true := by decide +kernel
def mm_c166 : List (Nat × mm_E) := [
  (0, (.iconst 1), 1, 0, 0),
  (1, (.istore_n 1), 1, 0, 0),
  (2, (.iload_n 1), 1, 0, 0),
  (3, (.aload_n 0), 1, 0, 0),
  (4, (.getfield 161), 3, 9, 18),
  (7, (.if_icmp .ge 26), 3, 33, 0),
  (10, (.aload_n 0), 1, 0, 0),
  (11, (.getfield 47), 3, 9, 17),
  (14, (.iload_n 1), 1, 0, 0),
  (15, .iaload, 1, 0, 0),
  (16, (.aload_n 0), 1, 0, 0),
  (17, (.getfield 47), 3, 9, 17),
  (20, (.iconst 0), 1, 0, 0),
  (21, .iaload, 1, 0, 0),
  (22, (.if_icmp .eq 5), 3, 27, 0),
  (25, (.iconst 0), 1, 0, 0),
  (26, .ireturn, 1, 0, 0),
  (27, (.iinc 1 1), 3, 0, 0),
  (30, (.goto (-28)), 3, 2, 0),
  (33, (.iconst 1), 1, 0, 0),
  (34, .ireturn, 1, 0, 0)]
theorem mm_ck166 : mm_c166.all (mm_ckE 9 prog_11_method_44_code) = true := by decide +kernel
def mm_c167 : List (Nat × mm_E) := [
  (0, (.iconst (-1)), 1, 0, 0),
  (1, (.istore_n 2), 1, 0, 0),
  (2, (.iconst 0), 1, 0, 0),
  (3, (.istore_n 3), 1, 0, 0),
  (4, (.iconst 0), 1, 0, 0),
  (5, (.istore 4), 2, 0, 0),
  (7, (.iload 4), 2, 0, 0),
  (9, (.bipush 8), 2, 0, 0),
  (11, (.if_icmp .ge 87), 3, 98, 0),
  (14, (.iload_n 1), 1, 0, 0),
  (15, (.iload 4), 2, 0, 0),
  (17, .ishr, 1, 0, 0),
  (18, (.iconst 1), 1, 0, 0),
  (19, .iand, 1, 0, 0),
  (20, (.ifCond .eq 72), 3, 92, 0),
  (23, (.iload 4), 2, 0, 0),
  (25, (.aload_n 0), 1, 0, 0),
  (26, (.getfield 32), 3, 9, 10),
  (29, (.invokestatic 146), 3, 144, 2),
  (32, (.aload_n 0), 1, 0, 0),
  (33, (.getfield 161), 3, 9, 18),
  (36, (.if_icmp .lt 6), 3, 42, 0),
  (39, (.goto 53), 3, 92, 0),
  (42, (.aload_n 0), 1, 0, 0),
  (43, (.getfield 23), 3, 9, 7),
  (46, (.iconst 1), 1, 0, 0),
  (47, (.if_icmp .ne 14), 3, 61, 0),
  (50, (.aload_n 0), 1, 0, 0),
  (51, (.iload 4), 2, 0, 0),
  (53, (.invokevirtual 225), 3, 165, 2),
  (56, (.istore 5), 2, 0, 0),
  (58, (.goto 15), 3, 73, 0),
  (61, (.aload_n 0), 1, 0, 0),
  (62, (.iload 4), 2, 0, 0),
  (64, (.invokevirtual 215), 3, 151, 2),
  (67, (.aload_n 0), 1, 0, 0),
  (68, (.invokevirtual 208), 3, 162, 1),
  (71, (.istore 5), 2, 0, 0),
  (73, (.iload_n 2), 1, 0, 0),
  (74, (.ifCond .lt 12), 3, 86, 0),
  (77, (.iload 5), 2, 0, 0),
  (79, (.iload_n 3), 1, 0, 0),
  (80, (.if_icmp .lt 6), 3, 86, 0),
  (83, (.goto 9), 3, 92, 0),
  (86, (.iload 4), 2, 0, 0),
  (88, (.istore_n 2), 1, 0, 0),
  (89, (.iload 5), 2, 0, 0),
  (91, (.istore_n 3), 1, 0, 0),
  (92, (.iinc 4 1), 3, 0, 0),
  (95, (.goto (-88)), 3, 7, 0),
  (98, (.iload_n 2), 1, 0, 0),
  (99, .ireturn, 1, 0, 0)]
theorem mm_ck167 : mm_c167.all (mm_ckE 9 prog_11_method_45_code) = true := by decide +kernel
def mm_c168 : List (Nat × mm_E) := [
  (0, (.aload_n 0), 1, 0, 0),
  (1, (.iconst 0), 1, 0, 0),
  (2, (.putfield 205), 3, 9, 29),
  (5, (.aload_n 0), 1, 0, 0),
  (6, (.invokevirtual 228), 3, 166, 1),
  (9, (.ifCond .eq 16), 3, 25, 0),
  (12, (.aload_n 0), 1, 0, 0),
  (13, (.bipush 8), 2, 0, 0),
  (15, (.putfield 231), 3, 9, 32),
  (18, (.iconst 4), 1, 0, 0),
  (19, (.aload_n 0), 1, 0, 0),
  (20, (.getfield 164), 3, 9, 19),
  (23, .iadd, 1, 0, 0),
  (24, .ireturn, 1, 0, 0),
  (25, (.aload_n 0), 1, 0, 0),
  (26, (.aload_n 0), 1, 0, 0),
  (27, (.iload_n 1), 1, 0, 0),
  (28, (.invokevirtual 234), 3, 167, 2),
  (31, (.putfield 231), 3, 9, 32),
  (34, (.aload_n 0), 1, 0, 0),
  (35, (.aload_n 0), 1, 0, 0),
  (36, (.getfield 231), 3, 9, 32),
  (39, (.invokevirtual 225), 3, 165, 2),
  (42, (.istore_n 2), 1, 0, 0),
  (43, (.iconst 4), 1, 0, 0),
  (44, (.aload_n 0), 1, 0, 0),
  (45, (.getfield 161), 3, 9, 18),
  (48, (.aload_n 0), 1, 0, 0),
  (49, (.getfield 164), 3, 9, 19),
  (52, .imul, 1, 0, 0),
  (53, .iadd, 1, 0, 0),
  (54, (.istore_n 3), 1, 0, 0),
  (55, (.iload_n 2), 1, 0, 0),
  (56, (.iload_n 3), 1, 0, 0),
  (57, (.if_icmp .gt 5), 3, 62, 0),
  (60, (.iload_n 2), 1, 0, 0),
  (61, .ireturn, 1, 0, 0),
  (62, (.aload_n 0), 1, 0, 0),
  (63, (.bipush 9), 2, 0, 0),
  (65, (.putfield 231), 3, 9, 32),
  (68, (.aload_n 0), 1, 0, 0),
  (69, (.iconst 0), 1, 0, 0),
  (70, (.putfield 205), 3, 9, 29),
  (73, (.iload_n 3), 1, 0, 0),
  (74, .ireturn, 1, 0, 0)]
theorem mm_ck168 : mm_c168.all (mm_ckE 9 prog_11_method_46_code) = true := by decide +kernel
def mm_c169 : List (Nat × mm_E) := [
  (0, (.iconst 0), 1, 0, 0),
  (1, (.istore_n 3), 1, 0, 0),
  (2, (.iload_n 3), 1, 0, 0),
  (3, (.aload_n 0), 1, 0, 0),
  (4, (.getfield 99), 3, 9, 4),
  (7, (.iconst 2), 1, 0, 0),
  (8, (.if_icmp .ne 7), 3, 15, 0),
  (11, (.iconst 4), 1, 0, 0),
  (12, (.goto 4), 3, 16, 0),
  (15, (.iconst 1), 1, 0, 0),
  (16, (.if_icmp .ge 26), 3, 42, 0),
  (19, (.aload_n 0), 1, 0, 0),
  (20, (.iload_n 1), 1, 0, 0),
  (21, (.iload_n 3), 1, 0, 0),
  (22, (.invokevirtual 237), 3, 149, 3),
  (25, (.aload_n 0), 1, 0, 0),
  (26, (.getfield 78), 3, 9, 33),
  (29, (.iload_n 3), 1, 0, 0),
  (30, (.aload_n 0), 1, 0, 0),
  (31, (.iload_n 2), 1, 0, 0),
  (32, (.invokevirtual 240), 3, 168, 2),
  (35, .iastore, 1, 0, 0),
  (36, (.iinc 3 1), 3, 0, 0),
  (39, (.goto (-37)), 3, 2, 0),
  (42, .return_, 1, 0, 0)]
theorem mm_ck169 : mm_c169.all (mm_ckE 9 prog_11_method_47_code) = true := by decide +kernel
def mm_c170 : List (Nat × mm_E) := [
  (0, (.aload_n 0), 1, 0, 0),
  (1, (.getfield 78), 3, 9, 33),
  (4, (.iload_n 1), 1, 0, 0),
  (5, (.iconst 0), 1, 0, 0),
  (6, (.invokestatic 243), 3, 150, 2),
  (9, .iaload, 1, 0, 0),
  (10, (.aload_n 0), 1, 0, 0),
  (11, (.getfield 99), 3, 9, 4),
  (14, (.iconst 2), 1, 0, 0),
  (15, (.if_icmp .ne 16), 3, 31, 0),
  (18, (.aload_n 0), 1, 0, 0),
  (19, (.getfield 78), 3, 9, 33),
  (22, (.iload_n 1), 1, 0, 0),
  (23, (.iconst 1), 1, 0, 0),
  (24, (.invokestatic 243), 3, 150, 2),
  (27, .iaload, 1, 0, 0),
  (28, (.goto 4), 3, 32, 0),
  (31, (.iconst 0), 1, 0, 0),
  (32, .iadd, 1, 0, 0),
  (33, .ireturn, 1, 0, 0)]
theorem mm_ck170 : mm_c170.all (mm_ckE 9 prog_11_method_48_code) = true := by decide +kernel
def mm_c171 : List (Nat × mm_E) := [
  (0, (.iconst 0), 1, 0, 0),
  (1, (.istore_n 1), 1, 0, 0),
  (2, (.iconst 1), 1, 0, 0),
  (3, (.istore_n 2), 1, 0, 0),
  (4, (.iload_n 2), 1, 0, 0),
  (5, (.iconst 4), 1, 0, 0),
  (6, (.if_icmp .ge 32), 3, 38, 0),
  (9, (.aload_n 0), 1, 0, 0),
  (10, (.getfield 99), 3, 9, 4),
  (13, (.iconst 2), 1, 0, 0),
  (14, (.if_icmp .ne 24), 3, 38, 0),
  (17, (.aload_n 0), 1, 0, 0),
  (18, (.iload_n 2), 1, 0, 0),
  (19, (.invokevirtual 246), 3, 170, 2),
  (22, (.aload_n 0), 1, 0, 0),
  (23, (.iload_n 1), 1, 0, 0),
  (24, (.invokevirtual 246), 3, 170, 2),
  (27, (.if_icmp .ge 5), 3, 32, 0),
  (30, (.iload_n 2), 1, 0, 0),
  (31, (.istore_n 1), 1, 0, 0),
  (32, (.iinc 2 1), 3, 0, 0),
  (35, (.goto (-31)), 3, 4, 0),
  (38, (.iload_n 1), 1, 0, 0),
  (39, .ireturn, 1, 0, 0)]
theorem mm_ck171 : mm_c171.all (mm_ckE 9 prog_11_method_49_code) = true := by decide +kernel
def mm_c172 : List (Nat × mm_E) := [
  (0, (.aload_n 0), 1, 0, 0),
  (1, (.iload_n 1), 1, 0, 0),
  (2, (.iload_n 2), 1, 0, 0),
  (3, (.invokevirtual 249), 3, 169, 3),
  (6, (.aload_n 0), 1, 0, 0),
  (7, (.invokevirtual 252), 3, 171, 1),
  (10, .ireturn, 1, 0, 0)]
theorem mm_ck172 : mm_c172.all (mm_ckE 9 prog_11_method_50_code) = true := by decide +kernel
def mm_c173 : List (Nat × mm_E) := [
  (0, (.aload_n 0), 1, 0, 0),
  (1, (.iconst 0), 1, 0, 0),
  (2, (.putfield 96), 3, 9, 16),
  (5, (.aload_n 0), 1, 0, 0),
  (6, (.iload_n 1), 1, 0, 0),
  (7, (.invokevirtual 255), 3, 148, 2),
  (10, (.ifCond .eq 15), 3, 25, 0),
  (13, (.aload_n 0), 1, 0, 0),
  (14, (.iload_n 1), 1, 0, 0),
  (15, (.aload_n 0), 1, 0, 0),
  (16, (.getfield 26), 3, 9, 8),
  (19, (.invokevirtual 258), 3, 172, 3),
  (22, (.goto 4), 3, 26, 0),
  (25, (.iconst (-1)), 1, 0, 0),
  (26, .ireturn, 1, 0, 0)]
theorem mm_ck173 : mm_c173.all (mm_ckE 9 prog_11_method_51_code) = true := by decide +kernel
def mm_c174 : List (Nat × mm_E) := [
  (0, (.aload_n 0), 1, 0, 0),
  (1, (.iconst 0), 1, 0, 0),
  (2, (.putfield 96), 3, 9, 16),
  (5, (.aload_n 0), 1, 0, 0),
  (6, (.iload_n 1), 1, 0, 0),
  (7, (.invokevirtual 255), 3, 148, 2),
  (10, (.ifCond .eq 24), 3, 34, 0),
  (13, (.iload_n 2), 1, 0, 0),
  (14, (.iconst 0), 1, 0, 0),
  (15, (.aload_n 0), 1, 0, 0),
  (16, (.getfield 99), 3, 9, 4),
  (19, (.iconst 2), 1, 0, 0),
  (20, (.if_icmp .ne 7), 3, 27, 0),
  (23, (.iconst 3), 1, 0, 0),
  (24, (.goto 4), 3, 28, 0),
  (27, (.iconst 0), 1, 0, 0),
  (28, (.invokestatic 102), 3, 125, 3),
  (31, (.ifCond .ne 5), 3, 36, 0),
  (34, (.iconst (-1)), 1, 0, 0),
  (35, .ireturn, 1, 0, 0),
  (36, (.aload_n 0), 1, 0, 0),
  (37, (.iload_n 1), 1, 0, 0),
  (38, (.aload_n 0), 1, 0, 0),
  (39, (.getfield 26), 3, 9, 8),
  (42, (.invokevirtual 249), 3, 169, 3),
  (45, (.aload_n 0), 1, 0, 0),
  (46, (.iload_n 2), 1, 0, 0),
  (47, (.invokevirtual 246), 3, 170, 2),
  (50, .ireturn, 1, 0, 0)]
theorem mm_ck174 : mm_c174.all (mm_ckE 9 prog_11_method_52_code) = true := by decide +kernel
def mm_c175 : List (Nat × mm_E) := [
  (0, (.aload_n 0), 1, 0, 0),
  (1, (.iload_n 1), 1, 0, 0),
  (2, (.invokevirtual 255), 3, 148, 2),
  (5, (.ifCond .eq 17), 3, 22, 0),
  (8, (.iload_n 2), 1, 0, 0),
  (9, (.iconst 0), 1, 0, 0),
  (10, (.aload_n 0), 1, 0, 0),
  (11, (.getfield 99), 3, 9, 4),
  (14, (.iconst 1), 1, 0, 0),
  (15, .isub, 1, 0, 0),
  (16, (.invokestatic 102), 3, 125, 3),
  (19, (.ifCond .ne 5), 3, 24, 0),
  (22, (.iconst 0), 1, 0, 0),
  (23, .ireturn, 1, 0, 0),
  (24, (.aload_n 0), 1, 0, 0),
  (25, (.iload_n 1), 1, 0, 0),
  (26, (.aload_n 0), 1, 0, 0),
  (27, (.iload_n 1), 1, 0, 0),
  (28, (.aload_n 0), 1, 0, 0),
  (29, (.getfield 26), 3, 9, 8),
  (32, (.invokevirtual 258), 3, 172, 3),
  (35, (.iload_n 2), 1, 0, 0),
  (36, (.invokestatic 243), 3, 150, 2),
  (39, (.invokevirtual 237), 3, 149, 3),
  (42, (.iconst 1), 1, 0, 0),
  (43, .ireturn, 1, 0, 0)]
theorem mm_ck175 : mm_c175.all (mm_ckE 9 prog_11_method_53_code) = true := by decide +kernel
def mm_c176 : List (Nat × mm_E) := [
  (0, (.aload_n 0), 1, 0, 0),
  (1, (.iconst 0), 1, 0, 0),
  (2, (.putfield 96), 3, 9, 16),
  (5, (.iload_n 3), 1, 0, 0),
  (6, (.iconst 0), 1, 0, 0),
  (7, (.iconst 2), 1, 0, 0),
  (8, (.invokestatic 102), 3, 125, 3),
  (11, (.ifCond .eq 12), 3, 23, 0),
  (14, (.aload_n 0), 1, 0, 0),
  (15, (.iload_n 1), 1, 0, 0),
  (16, (.iload_n 2), 1, 0, 0),
  (17, (.invokevirtual 261), 3, 175, 3),
  (20, (.ifCond .ne 5), 3, 25, 0),
  (23, (.iconst (-1)), 1, 0, 0),
  (24, .ireturn, 1, 0, 0),
  (25, (.aload_n 0), 1, 0, 0),
  (26, (.aload_n 0), 1, 0, 0),
  (27, (.getfield 26), 3, 9, 8),
  (30, (.invokevirtual 240), 3, 168, 2),
  (33, (.istore 4), 2, 0, 0),
  (35, (.iload_n 3), 1, 0, 0),
  (36, (.ifCond .ne 10), 3, 46, 0),
  (39, (.aload_n 0), 1, 0, 0),
  (40, (.getfield 231), 3, 9, 32),
  (43, (.goto 17), 3, 60, 0),
  (46, (.iload_n 3), 1, 0, 0),
  (47, (.iconst 1), 1, 0, 0),
  (48, (.if_icmp .ne 8), 3, 56, 0),
  (51, (.iload 4), 2, 0, 0),
  (53, (.goto 7), 3, 60, 0),
  (56, (.aload_n 0), 1, 0, 0),
  (57, (.getfield 205), 3, 9, 29),
  (60, .ireturn, 1, 0, 0)]
theorem mm_ck176 : mm_c176.all (mm_ckE 9 prog_11_method_54_code) = true := by decide +kernel
def mm_c177 : List (Nat × mm_E) := [
  (0, (.aload_n 0), 1, 0, 0),
  (1, (.iconst 0), 1, 0, 0),
  (2, (.putfield 96), 3, 9, 16),
  (5, (.iload 4), 2, 0, 0),
  (7, (.iconst 0), 1, 0, 0),
  (8, (.iconst 2), 1, 0, 0),
  (9, (.invokestatic 102), 3, 125, 3),
  (12, (.ifCond .eq 12), 3, 24, 0),
  (15, (.aload_n 0), 1, 0, 0),
  (16, (.iload_n 1), 1, 0, 0),
  (17, (.iload_n 2), 1, 0, 0),
  (18, (.invokevirtual 261), 3, 175, 3),
  (21, (.ifCond .ne 5), 3, 26, 0),
  (24, (.iconst (-1)), 1, 0, 0),
  (25, .ireturn, 1, 0, 0),
  (26, (.aload_n 0), 1, 0, 0),
  (27, (.aload_n 0), 1, 0, 0),
  (28, (.getfield 26), 3, 9, 8),
  (31, (.invokevirtual 240), 3, 168, 2),
  (34, .pop, 1, 0, 0),
  (35, (.iload_n 3), 1, 0, 0),
  (36, (.iconst 0), 1, 0, 0),
  (37, (.aload_n 0), 1, 0, 0),
  (38, (.getfield 205), 3, 9, 29),
  (41, (.iconst 1), 1, 0, 0),
  (42, .isub, 1, 0, 0),
  (43, (.invokestatic 102), 3, 125, 3),
  (46, (.ifCond .ne 5), 3, 51, 0),
  (49, (.iconst (-1)), 1, 0, 0),
  (50, .ireturn, 1, 0, 0),
  (51, (.iload 4), 2, 0, 0),
  (53, (.ifCond .ne 29), 3, 82, 0),
  (56, (.aload_n 0), 1, 0, 0),
  (57, (.getfield 63), 3, 9, 26),
  (60, (.iload_n 3), 1, 0, 0),
  (61, .iaload, 1, 0, 0),
  (62, (.iload_n 3), 1, 0, 0),
  (63, (.ifCond .ne 7), 3, 70, 0),
  (66, (.iconst 0), 1, 0, 0),
  (67, (.goto 11), 3, 78, 0),
  (70, (.aload_n 0), 1, 0, 0),
  (71, (.getfield 63), 3, 9, 26),
  (74, (.iload_n 3), 1, 0, 0),
  (75, (.iconst 1), 1, 0, 0),
  (76, .isub, 1, 0, 0),
  (77, .iaload, 1, 0, 0),
  (78, .isub, 1, 0, 0),
  (79, (.goto 24), 3, 103, 0),
  (82, (.iload 4), 2, 0, 0),
  (84, (.iconst 1), 1, 0, 0),
  (85, (.if_icmp .ne 12), 3, 97, 0),
  (88, (.aload_n 0), 1, 0, 0),
  (89, (.getfield 66), 3, 9, 27),
  (92, (.iload_n 3), 1, 0, 0),
  (93, .iaload, 1, 0, 0),
  (94, (.goto 9), 3, 103, 0),
  (97, (.aload_n 0), 1, 0, 0),
  (98, (.getfield 69), 3, 9, 28),
  (101, (.iload_n 3), 1, 0, 0),
  (102, .iaload, 1, 0, 0),
  (103, .ireturn, 1, 0, 0)]
theorem mm_ck177 : mm_c177.all (mm_ckE 9 prog_11_method_55_code) = true := by decide +kernel
def mm_c178 : List (Nat × mm_E) := [
  (0, (.aload_n 0), 1, 0, 0),
  (1, (.iconst 1), 1, 0, 0),
  (2, (.putfield 96), 3, 9, 16),
  (5, (.iload_n 3), 1, 0, 0),
  (6, (.iconst 0), 1, 0, 0),
  (7, (.bipush 7), 2, 0, 0),
  (9, (.invokestatic 102), 3, 125, 3),
  (12, (.ifCond .eq 42), 3, 54, 0),
  (15, (.aload_n 0), 1, 0, 0),
  (16, (.iload_n 1), 1, 0, 0),
  (17, (.iload_n 2), 1, 0, 0),
  (18, (.invokevirtual 261), 3, 175, 3),
  (21, (.ifCond .eq 33), 3, 54, 0),
  (24, (.iload_n 3), 1, 0, 0),
  (25, (.aload_n 0), 1, 0, 0),
  (26, (.getfield 32), 3, 9, 10),
  (29, (.invokestatic 146), 3, 144, 2),
  (32, (.aload_n 0), 1, 0, 0),
  (33, (.getfield 161), 3, 9, 18),
  (36, (.if_icmp .ge 18), 3, 54, 0),
  (39, (.iload 4), 2, 0, 0),
  (41, (.iconst 0), 1, 0, 0),
  (42, (.aload_n 0), 1, 0, 0),
  (43, (.getfield 161), 3, 9, 18),
  (46, (.iconst 1), 1, 0, 0),
  (47, .isub, 1, 0, 0),
  (48, (.invokestatic 102), 3, 125, 3),
  (51, (.ifCond .ne 5), 3, 56, 0),
  (54, (.iconst 0), 1, 0, 0),
  (55, .ireturn, 1, 0, 0),
  (56, (.aload_n 0), 1, 0, 0),
  (57, (.iconst 0), 1, 0, 0),
  (58, (.putfield 96), 3, 9, 16),
  (61, (.iload 4), 2, 0, 0),
  (63, (.iload_n 3), 1, 0, 0),
  (64, (.aload_n 0), 1, 0, 0),
  (65, (.getfield 32), 3, 9, 10),
  (68, (.invokestatic 146), 3, 144, 2),
  (71, (.if_icmp .ge 13), 3, 84, 0),
  (74, (.aload_n 0), 1, 0, 0),
  (75, (.getfield 47), 3, 9, 17),
  (78, (.iload 4), 2, 0, 0),
  (80, .iaload, 1, 0, 0),
  (81, (.goto 29), 3, 110, 0),
  (84, (.aload_n 0), 1, 0, 0),
  (85, (.getfield 47), 3, 9, 17),
  (88, (.iload 4), 2, 0, 0),
  (90, .iaload, 1, 0, 0),
  (91, (.aload_n 0), 1, 0, 0),
  (92, (.getfield 47), 3, 9, 17),
  (95, (.iload 4), 2, 0, 0),
  (97, (.iload_n 3), 1, 0, 0),
  (98, (.aload_n 0), 1, 0, 0),
  (99, (.getfield 32), 3, 9, 10),
  (102, (.aload_n 0), 1, 0, 0),
  (103, (.getfield 35), 3, 9, 11),
  (106, (.invokestatic 173), 3, 145, 5),
  (109, .isub, 1, 0, 0),
  (110, .ireturn, 1, 0, 0)]
theorem mm_ck178 : mm_c178.all (mm_ckE 9 prog_11_method_56_code) = true := by decide +kernel
def mm_c179 : List (Nat × mm_E) := [
  (0, (.aload_n 0), 1, 0, 0),
  (1, (.iconst 0), 1, 0, 0),
  (2, (.putfield 96), 3, 9, 16),
  (5, (.iload_n 3), 1, 0, 0),
  (6, (.iconst 0), 1, 0, 0),
  (7, (.bipush 7), 2, 0, 0),
  (9, (.invokestatic 102), 3, 125, 3),
  (12, (.ifCond .eq 35), 3, 47, 0),
  (15, (.aload_n 0), 1, 0, 0),
  (16, (.iload_n 1), 1, 0, 0),
  (17, (.iload_n 2), 1, 0, 0),
  (18, (.invokevirtual 261), 3, 175, 3),
  (21, (.ifCond .eq 26), 3, 47, 0),
  (24, (.iload_n 3), 1, 0, 0),
  (25, (.aload_n 0), 1, 0, 0),
  (26, (.getfield 32), 3, 9, 10),
  (29, (.invokestatic 146), 3, 144, 2),
  (32, (.aload_n 0), 1, 0, 0),
  (33, (.getfield 161), 3, 9, 18),
  (36, (.if_icmp .ge 11), 3, 47, 0),
  (39, (.aload_n 0), 1, 0, 0),
  (40, (.iload_n 3), 1, 0, 0),
  (41, (.invokevirtual 225), 3, 165, 2),
  (44, (.goto 4), 3, 48, 0),
  (47, (.iconst (-1)), 1, 0, 0),
  (48, .ireturn, 1, 0, 0)]
theorem mm_ck179 : mm_c179.all (mm_ckE 9 prog_11_method_57_code) = true := by decide +kernel
def mm_c180 : List (Nat × mm_E) := [
  (0, (.aload_n 0), 1, 0, 0),
  (1, (.iconst 0), 1, 0, 0),
  (2, (.putfield 96), 3, 9, 16),
  (5, (.iload_n 3), 1, 0, 0),
  (6, (.iconst 0), 1, 0, 0),
  (7, (.bipush 7), 2, 0, 0),
  (9, (.invokestatic 102), 3, 125, 3),
  (12, (.ifCond .eq 27), 3, 39, 0),
  (15, (.aload_n 0), 1, 0, 0),
  (16, (.iload_n 1), 1, 0, 0),
  (17, (.iload_n 2), 1, 0, 0),
  (18, (.invokevirtual 261), 3, 175, 3),
  (21, (.ifCond .eq 18), 3, 39, 0),
  (24, (.iload_n 3), 1, 0, 0),
  (25, (.aload_n 0), 1, 0, 0),
  (26, (.getfield 32), 3, 9, 10),
  (29, (.invokestatic 146), 3, 144, 2),
  (32, (.aload_n 0), 1, 0, 0),
  (33, (.getfield 161), 3, 9, 18),
  (36, (.if_icmp .lt 5), 3, 41, 0),
  (39, (.iconst (-1)), 1, 0, 0),
  (40, .ireturn, 1, 0, 0),
  (41, (.aload_n 0), 1, 0, 0),
  (42, (.iload_n 3), 1, 0, 0),
  (43, (.invokevirtual 215), 3, 151, 2),
  (46, (.aload_n 0), 1, 0, 0),
  (47, (.invokevirtual 211), 3, 163, 1),
  (50, (.invokestatic 265), 3, 223, 1),
  (53, .ireturn, 1, 0, 0)]
theorem mm_ck180 : mm_c180.all (mm_ckE 9 prog_11_method_58_code) = true := by decide +kernel
def mm_c181 : List (Nat × mm_E) := [
  (0, (.bipush 21), 2, 0, 0),
  (2, (.istore_n 2), 1, 0, 0),
  (3, (.iconst 0), 1, 0, 0),
  (4, (.istore_n 3), 1, 0, 0),
  (5, (.iload_n 3), 1, 0, 0),
  (6, (.aload_n 0), 1, 0, 0),
  (7, (.invokevirtual 158), 3, 147, 1),
  (10, (.if_icmp .ge 44), 3, 54, 0),
  (13, (.iload_n 2), 1, 0, 0),
  (14, (.iconst 4), 1, 0, 0),
  (15, (.aload_n 0), 1, 0, 0),
  (16, (.getfield 99), 3, 9, 4),
  (19, (.iconst 2), 1, 0, 0),
  (20, (.if_icmp .ne 7), 3, 27, 0),
  (23, (.iconst 2), 1, 0, 0),
  (24, (.goto 4), 3, 28, 0),
  (27, (.iconst 0), 1, 0, 0),
  (28, (.aload_n 0), 1, 0, 0),
  (29, (.aload_n 0), 1, 0, 0),
  (30, (.iload_n 3), 1, 0, 0),
  (31, (.iload_n 1), 1, 0, 0),
  (32, (.invokevirtual 258), 3, 172, 3),
  (35, (.invokevirtual 246), 3, 170, 2),
  (38, .iadd, 1, 0, 0),
  (39, (.bipush 7), 2, 0, 0),
  (41, .iadd, 1, 0, 0),
  (42, (.bipush 8), 2, 0, 0),
  (44, .idiv, 1, 0, 0),
  (45, .iadd, 1, 0, 0),
  (46, .iadd, 1, 0, 0),
  (47, (.istore_n 2), 1, 0, 0),
  (48, (.iinc 3 1), 3, 0, 0),
  (51, (.goto (-46)), 3, 5, 0),
  (54, (.iload_n 2), 1, 0, 0),
  (55, .ireturn, 1, 0, 0)]
theorem mm_ck181 : mm_c181.all (mm_ckE 9 prog_11_method_59_code) = true := by decide +kernel
def mm_c182 : List (Nat × mm_E) := [
  (0, (.aload_n 0), 1, 0, 0),
  (1, (.iconst 0), 1, 0, 0),
  (2, (.putfield 96), 3, 9, 16),
  (5, (.aload_n 0), 1, 0, 0),
  (6, (.invokevirtual 154), 3, 146, 1),
  (9, (.ifCond .eq 14), 3, 23, 0),
  (12, (.aload_n 0), 1, 0, 0),
  (13, (.aload_n 0), 1, 0, 0),
  (14, (.getfield 26), 3, 9, 8),
  (17, (.invokevirtual 271), 3, 181, 2),
  (20, (.goto 4), 3, 24, 0),
  (23, (.iconst (-1)), 1, 0, 0),
  (24, .ireturn, 1, 0, 0)]
theorem mm_ck182 : mm_c182.all (mm_ckE 9 prog_11_method_60_code) = true := by decide +kernel
def mm_c183 : List (Nat × mm_E) := [
  (0, (.aload_n 0), 1, 0, 0),
  (1, (.getfield 19), 3, 9, 6),
  (4, (.istore_n 2), 1, 0, 0),
  (5, (.aload_n 0), 1, 0, 0),
  (6, (.iload_n 1), 1, 0, 0),
  (7, (.putfield 19), 3, 9, 6),
  (10, (.aload_n 0), 1, 0, 0),
  (11, (.aload_n 0), 1, 0, 0),
  (12, (.getfield 26), 3, 9, 8),
  (15, (.invokevirtual 271), 3, 181, 2),
  (18, (.istore_n 3), 1, 0, 0),
  (19, (.aload_n 0), 1, 0, 0),
  (20, (.iload_n 2), 1, 0, 0),
  (21, (.putfield 19), 3, 9, 6),
  (24, (.iload_n 3), 1, 0, 0),
  (25, .ireturn, 1, 0, 0)]
theorem mm_ck183 : mm_c183.all (mm_ckE 9 prog_11_method_61_code) = true := by decide +kernel
def mm_c184 : List (Nat × mm_E) := [
  (0, (.aload_n 0), 1, 0, 0),
  (1, (.iconst 0), 1, 0, 0),
  (2, (.putfield 96), 3, 9, 16),
  (5, (.iload_n 1), 1, 0, 0),
  (6, (.invokestatic 143), 3, 127, 1),
  (9, (.ifCond .eq 18), 3, 27, 0),
  (12, (.aload_n 0), 1, 0, 0),
  (13, (.invokevirtual 154), 3, 146, 1),
  (16, (.ifCond .eq 11), 3, 27, 0),
  (19, (.aload_n 0), 1, 0, 0),
  (20, (.iload_n 1), 1, 0, 0),
  (21, (.invokevirtual 274), 3, 183, 2),
  (24, (.goto 4), 3, 28, 0),
  (27, (.iconst (-1)), 1, 0, 0),
  (28, .ireturn, 1, 0, 0)]
theorem mm_ck184 : mm_c184.all (mm_ckE 9 prog_11_method_62_code) = true := by decide +kernel
def mm_c185 : List (Nat × mm_E) := [
  (0, (.aload_n 0), 1, 0, 0),
  (1, (.iconst 0), 1, 0, 0),
  (2, (.putfield 96), 3, 9, 16),
  (5, (.iload_n 1), 1, 0, 0),
  (6, (.iconst 1), 1, 0, 0),
  (7, (.bipush 7), 2, 0, 0),
  (9, (.invokestatic 102), 3, 125, 3),
  (12, (.ifCond .eq 27), 3, 39, 0),
  (15, (.aload_n 0), 1, 0, 0),
  (16, (.invokevirtual 154), 3, 146, 1),
  (19, (.ifCond .eq 20), 3, 39, 0),
  (22, (.aload_n 0), 1, 0, 0),
  (23, (.aload_n 0), 1, 0, 0),
  (24, (.getfield 26), 3, 9, 8),
  (27, (.iconst 1), 1, 0, 0),
  (28, (.iload_n 1), 1, 0, 0),
  (29, .ishl, 1, 0, 0),
  (30, (.iconst (-1)), 1, 0, 0),
  (31, .ixor, 1, 0, 0),
  (32, .iand, 1, 0, 0),
  (33, (.invokevirtual 271), 3, 181, 2),
  (36, (.goto 4), 3, 40, 0),
  (39, (.iconst (-1)), 1, 0, 0),
  (40, .ireturn, 1, 0, 0)]
theorem mm_ck185 : mm_c185.all (mm_ckE 9 prog_11_method_63_code) = true := by decide +kernel
def mm_c186 : List (Nat × mm_E) := [
  (0, (.aload_n 0), 1, 0, 0),
  (1, (.iconst 0), 1, 0, 0),
  (2, (.putfield 96), 3, 9, 16),
  (5, (.aload_n 0), 1, 0, 0),
  (6, (.invokevirtual 154), 3, 146, 1),
  (9, (.ifCond .ne 5), 3, 14, 0),
  (12, (.iconst (-1)), 1, 0, 0),
  (13, .ireturn, 1, 0, 0),
  (14, (.bipush 16), 2, 0, 0),
  (16, (.istore_n 1), 1, 0, 0),
  (17, (.aload_n 0), 1, 0, 0),
  (18, (.bipush 16), 2, 0, 0),
  (20, (.invokevirtual 274), 3, 183, 2),
  (23, (.istore_n 2), 1, 0, 0),
  (24, (.bipush 24), 2, 0, 0),
  (26, (.istore_n 3), 1, 0, 0),
  (27, (.iload_n 3), 1, 0, 0),
  (28, (.bipush 64), 2, 0, 0),
  (30, (.if_icmp .gt 30), 3, 60, 0),
  (33, (.aload_n 0), 1, 0, 0),
  (34, (.iload_n 3), 1, 0, 0),
  (35, (.invokevirtual 274), 3, 183, 2),
  (38, (.istore 4), 2, 0, 0),
  (40, (.iload 4), 2, 0, 0),
  (42, (.iload_n 2), 1, 0, 0),
  (43, (.if_icmp .lt 6), 3, 49, 0),
  (46, (.goto 8), 3, 54, 0),
  (49, (.iload_n 3), 1, 0, 0),
  (50, (.istore_n 1), 1, 0, 0),
  (51, (.iload 4), 2, 0, 0),
  (53, (.istore_n 2), 1, 0, 0),
  (54, (.iinc 3 8), 3, 0, 0),
  (57, (.goto (-30)), 3, 27, 0),
  (60, (.iload_n 1), 1, 0, 0),
  (61, .ireturn, 1, 0, 0)]
theorem mm_ck186 : mm_c186.all (mm_ckE 9 prog_11_method_64_code) = true := by decide +kernel
def mm_c187 : List (Nat × mm_E) := [
  (0, (.aload_n 0), 1, 0, 0),
  (1, (.getfield 44), 3, 9, 14),
  (4, (.aload_n 0), 1, 0, 0),
  (5, (.getfield 277), 3, 9, 15),
  (8, (.iload_n 1), 1, 0, 0),
  (9, (.sipush 255), 3, 0, 0),
  (12, .iand, 1, 0, 0),
  (13, .iastore, 1, 0, 0),
  (14, (.aload_n 0), 1, 0, 0),
  (15, .dup, 1, 0, 0),
  (16, (.getfield 277), 3, 9, 15),
  (19, (.iconst 1), 1, 0, 0),
  (20, .iadd, 1, 0, 0),
  (21, (.putfield 277), 3, 9, 15),
  (24, (.aload_n 0), 1, 0, 0),
  (25, (.iconst 0), 1, 0, 0),
  (26, (.putfield 280), 3, 9, 34),
  (29, .return_, 1, 0, 0)]
theorem mm_ck187 : mm_c187.all (mm_ckE 9 prog_11_method_65_code) = true := by decide +kernel
def mm_c188 : List (Nat × mm_E) := [
  (0, (.iload_n 2), 1, 0, 0),
  (1, (.iconst 1), 1, 0, 0),
  (2, .isub, 1, 0, 0),
  (3, (.istore_n 3), 1, 0, 0),
  (4, (.iload_n 3), 1, 0, 0),
  (5, (.ifCond .lt 61), 3, 66, 0),
  (8, (.aload_n 0), 1, 0, 0),
  (9, (.getfield 280), 3, 9, 34),
  (12, (.ifCond .ne 8), 3, 20, 0),
  (15, (.aload_n 0), 1, 0, 0),
  (16, (.iconst 0), 1, 0, 0),
  (17, (.invokevirtual 283), 3, 187, 2),
  (20, (.aload_n 0), 1, 0, 0),
  (21, (.getfield 44), 3, 9, 14),
  (24, (.aload_n 0), 1, 0, 0),
  (25, (.getfield 277), 3, 9, 15),
  (28, (.iconst 1), 1, 0, 0),
  (29, .isub, 1, 0, 0),
  (30, .dup2, 1, 0, 0),
  (31, .iaload, 1, 0, 0),
  (32, (.iload_n 1), 1, 0, 0),
  (33, (.iload_n 3), 1, 0, 0),
  (34, .ishr, 1, 0, 0),
  (35, (.iconst 1), 1, 0, 0),
  (36, .iand, 1, 0, 0),
  (37, (.bipush 7), 2, 0, 0),
  (39, (.aload_n 0), 1, 0, 0),
  (40, (.getfield 280), 3, 9, 34),
  (43, .isub, 1, 0, 0),
  (44, .ishl, 1, 0, 0),
  (45, .ior, 1, 0, 0),
  (46, .iastore, 1, 0, 0),
  (47, (.aload_n 0), 1, 0, 0),
  (48, (.aload_n 0), 1, 0, 0),
  (49, (.getfield 280), 3, 9, 34),
  (52, (.iconst 1), 1, 0, 0),
  (53, .iadd, 1, 0, 0),
  (54, (.bipush 8), 2, 0, 0),
  (56, .irem, 1, 0, 0),
  (57, (.putfield 280), 3, 9, 34),
  (60, (.iinc 3 (-1)), 3, 0, 0),
  (63, (.goto (-59)), 3, 4, 0),
  (66, .return_, 1, 0, 0)]
theorem mm_ck188 : mm_c188.all (mm_ckE 9 prog_11_method_66_code) = true := by decide +kernel
def mm_c189 : List (Nat × mm_E) := [
  (0, (.ldc_w 286), 3, 65535, 0),
  (3, (.istore_n 3), 1, 0, 0),
  (4, (.iload_n 1), 1, 0, 0),
  (5, (.istore 4), 2, 0, 0),
  (7, (.iload 4), 2, 0, 0),
  (9, (.iload_n 2), 1, 0, 0),
  (10, (.if_icmp .ge 64), 3, 74, 0),
  (13, (.iload_n 3), 1, 0, 0),
  (14, (.sipush 256), 3, 0, 0),
  (17, (.aload_n 0), 1, 0, 0),
  (18, (.getfield 44), 3, 9, 14),
  (21, (.iload 4), 2, 0, 0),
  (23, .iaload, 1, 0, 0),
  (24, .imul, 1, 0, 0),
  (25, .ixor, 1, 0, 0),
  (26, (.istore_n 3), 1, 0, 0),
  (27, (.iconst 0), 1, 0, 0),
  (28, (.istore 5), 2, 0, 0),
  (30, (.iload 5), 2, 0, 0),
  (32, (.bipush 8), 2, 0, 0),
  (34, (.if_icmp .ge 34), 3, 68, 0),
  (37, (.iload_n 3), 1, 0, 0),
  (38, (.ldc_w 287), 3, 32768, 0),
  (41, (.if_icmp .lt 13), 3, 54, 0),
  (44, (.iconst 2), 1, 0, 0),
  (45, (.iload_n 3), 1, 0, 0),
  (46, .imul, 1, 0, 0),
  (47, (.sipush 4129), 3, 0, 0),
  (50, .ixor, 1, 0, 0),
  (51, (.goto 6), 3, 57, 0),
  (54, (.iconst 2), 1, 0, 0),
  (55, (.iload_n 3), 1, 0, 0),
  (56, .imul, 1, 0, 0),
  (57, (.ldc_w 286), 3, 65535, 0),
  (60, .iand, 1, 0, 0),
  (61, (.istore_n 3), 1, 0, 0),
  (62, (.iinc 5 1), 3, 0, 0),
  (65, (.goto (-35)), 3, 30, 0),
  (68, (.iinc 4 1), 3, 0, 0),
  (71, (.goto (-64)), 3, 7, 0),
  (74, (.iload_n 3), 1, 0, 0),
  (75, .ireturn, 1, 0, 0)]
theorem mm_ck189 : mm_c189.all (mm_ckE 9 prog_11_method_67_code) = true := by decide +kernel
def mm_c190 : List (Nat × mm_E) := [
  (0, (.aload_n 0), 1, 0, 0),
  (1, (.iload_n 1), 1, 0, 0),
  (2, (.aload_n 0), 1, 0, 0),
  (3, (.getfield 277), 3, 9, 15),
  (6, (.invokevirtual 288), 3, 189, 3),
  (9, (.istore_n 2), 1, 0, 0),
  (10, (.aload_n 0), 1, 0, 0),
  (11, (.iload_n 2), 1, 0, 0),
  (12, (.bipush 8), 2, 0, 0),
  (14, .ishr, 1, 0, 0),
  (15, (.invokevirtual 283), 3, 187, 2),
  (18, (.aload_n 0), 1, 0, 0),
  (19, (.iload_n 2), 1, 0, 0),
  (20, (.invokevirtual 283), 3, 187, 2),
  (23, .return_, 1, 0, 0)]
theorem mm_ck190 : mm_c190.all (mm_ckE 9 prog_11_method_68_code) = true := by decide +kernel
def mm_c191 : List (Nat × mm_E) := [
  (0, (.aload_n 0), 1, 0, 0),
  (1, (.iload_n 2), 1, 0, 0),
  (2, (.iload_n 1), 1, 0, 0),
  (3, .isub, 1, 0, 0),
  (4, (.iconst 1), 1, 0, 0),
  (5, .isub, 1, 0, 0),
  (6, (.iconst 3), 1, 0, 0),
  (7, (.invokevirtual 291), 3, 188, 3),
  (10, (.aload_n 0), 1, 0, 0),
  (11, (.iload_n 3), 1, 0, 0),
  (12, (.iconst 4), 1, 0, 0),
  (13, (.invokevirtual 291), 3, 188, 3),
  (16, (.iload_n 3), 1, 0, 0),
  (17, (.bipush 15), 2, 0, 0),
  (19, (.if_icmp .ne 4), 3, 23, 0),
  (22, .return_, 1, 0, 0),
  (23, (.bipush 8), 2, 0, 0),
  (25, (.iload_n 1), 1, 0, 0),
  (26, .imul, 1, 0, 0),
  (27, (.istore 5), 2, 0, 0),
  (29, (.bipush 8), 2, 0, 0),
  (31, (.iload_n 2), 1, 0, 0),
  (32, .imul, 1, 0, 0),
  (33, (.aload_n 0), 1, 0, 0),
  (34, (.getfield 167), 3, 9, 21),
  (37, (.if_icmp .ge 10), 3, 47, 0),
  (40, (.bipush 8), 2, 0, 0),
  (42, (.iload_n 2), 1, 0, 0),
  (43, .imul, 1, 0, 0),
  (44, (.goto 7), 3, 51, 0),
  (47, (.aload_n 0), 1, 0, 0),
  (48, (.getfield 167), 3, 9, 21),
  (51, (.istore 6), 2, 0, 0),
  (53, (.iconst 1), 1, 0, 0),
  (54, (.istore 7), 2, 0, 0),
  (56, (.iload 5), 2, 0, 0),
  (58, (.istore 8), 2, 0, 0),
  (60, (.iload 8), 2, 0, 0),
  (62, (.iload 6), 2, 0, 0),
  (64, (.if_icmp .ge 36), 3, 100, 0),
  (67, (.aload_n 0), 1, 0, 0),
  (68, (.getfield 50), 3, 9, 20),
  (71, (.iload 8), 2, 0, 0),
  (73, .iaload, 1, 0, 0),
  (74, (.invokestatic 183), 3, 153, 1),
  (77, (.iload 7), 2, 0, 0),
  (79, (.if_icmp .le 15), 3, 94, 0),
  (82, (.aload_n 0), 1, 0, 0),
  (83, (.getfield 50), 3, 9, 20),
  (86, (.iload 8), 2, 0, 0),
  (88, .iaload, 1, 0, 0),
  (89, (.invokestatic 183), 3, 153, 1),
  (92, (.istore 7), 2, 0, 0),
  (94, (.iinc 8 1), 3, 0, 0),
  (97, (.goto (-37)), 3, 60, 0),
  (100, (.iload_n 3), 1, 0, 0),
  (101, (.bipush 14), 2, 0, 0),
  (103, (.if_icmp .ne 10), 3, 113, 0),
  (106, (.aload_n 0), 1, 0, 0),
  (107, (.iload 7), 2, 0, 0),
  (109, (.iconst 5), 1, 0, 0),
  (110, (.invokevirtual 291), 3, 188, 3),
  (113, (.iload 5), 2, 0, 0),
  (115, (.istore 8), 2, 0, 0),
  (117, (.iload 8), 2, 0, 0),
  (119, (.iload 6), 2, 0, 0),
  (121, (.if_icmp .ge 80), 3, 201, 0),
  (124, (.iload_n 3), 1, 0, 0),
  (125, (.bipush 14), 2, 0, 0),
  (127, (.if_icmp .ne 19), 3, 146, 0),
  (130, (.aload_n 0), 1, 0, 0),
  (131, (.aload_n 0), 1, 0, 0),
  (132, (.getfield 50), 3, 9, 20),
  (135, (.iload 8), 2, 0, 0),
  (137, .iaload, 1, 0, 0),
  (138, (.iload 7), 2, 0, 0),
  (140, (.invokevirtual 291), 3, 188, 3),
  (143, (.goto 52), 3, 195, 0),
  (146, (.aload_n 0), 1, 0, 0),
  (147, (.getfield 50), 3, 9, 20),
  (150, (.iload 8), 2, 0, 0),
  (152, .iaload, 1, 0, 0),
  (153, (.invokestatic 180), 3, 152, 1),
  (156, (.istore 9), 2, 0, 0),
  (158, (.iconst 0), 1, 0, 0),
  (159, (.istore 10), 2, 0, 0),
  (161, (.iload 10), 2, 0, 0),
  (163, (.iload 9), 2, 0, 0),
  (165, (.iload_n 3), 1, 0, 0),
  (166, .ishr, 1, 0, 0),
  (167, (.if_icmp .ge 15), 3, 182, 0),
  (170, (.aload_n 0), 1, 0, 0),
  (171, (.iconst 0), 1, 0, 0),
  (172, (.iconst 1), 1, 0, 0),
  (173, (.invokevirtual 291), 3, 188, 3),
  (176, (.iinc 10 1), 3, 0, 0),
  (179, (.goto (-18)), 3, 161, 0),
  (182, (.aload_n 0), 1, 0, 0),
  (183, (.iconst 1), 1, 0, 0),
  (184, (.iconst 1), 1, 0, 0),
  (185, (.invokevirtual 291), 3, 188, 3),
  (188, (.aload_n 0), 1, 0, 0),
  (189, (.iload 9), 2, 0, 0),
  (191, (.iload_n 3), 1, 0, 0),
  (192, (.invokevirtual 291), 3, 188, 3),
  (195, (.iinc 8 1), 3, 0, 0),
  (198, (.goto (-81)), 3, 117, 0),
  (201, .return_, 1, 0, 0)]
theorem mm_ck191 : mm_c191.all (mm_ckE 9 prog_11_method_69_code) = true := by decide +kernel
def mm_c192 : List (Nat × mm_E) := [
  (0, (.aload_n 0), 1, 0, 0),
  (1, (.iload_n 1), 1, 0, 0),
  (2, (.iload_n 2), 1, 0, 0),
  (3, (.invokevirtual 237), 3, 149, 3),
  (6, (.aload_n 0), 1, 0, 0),
  (7, (.aload_n 0), 1, 0, 0),
  (8, (.getfield 26), 3, 9, 8),
  (11, (.invokevirtual 240), 3, 168, 2),
  (14, .pop, 1, 0, 0),
  (15, (.aload_n 0), 1, 0, 0),
  (16, (.aload_n 0), 1, 0, 0),
  (17, (.getfield 231), 3, 9, 32),
  (20, (.iconst 4), 1, 0, 0),
  (21, (.invokevirtual 291), 3, 188, 3),
  (24, (.aload_n 0), 1, 0, 0),
  (25, (.getfield 231), 3, 9, 32),
  (28, (.bipush 8), 2, 0, 0),
  (30, (.if_icmp .ne 7), 3, 37, 0),
  (33, (.iconst 1), 1, 0, 0),
  (34, (.goto 30), 3, 64, 0),
  (37, (.aload_n 0), 1, 0, 0),
  (38, (.getfield 231), 3, 9, 32),
  (41, (.bipush 9), 2, 0, 0),
  (43, (.if_icmp .ne 10), 3, 53, 0),
  (46, (.aload_n 0), 1, 0, 0),
  (47, (.getfield 161), 3, 9, 18),
  (50, (.goto 14), 3, 64, 0),
  (53, (.aload_n 0), 1, 0, 0),
  (54, (.getfield 231), 3, 9, 32),
  (57, (.aload_n 0), 1, 0, 0),
  (58, (.getfield 32), 3, 9, 10),
  (61, (.invokestatic 146), 3, 144, 2),
  (64, (.istore_n 3), 1, 0, 0),
  (65, (.iconst 0), 1, 0, 0),
  (66, (.istore 4), 2, 0, 0),
  (68, (.iload 4), 2, 0, 0),
  (70, (.iload_n 3), 1, 0, 0),
  (71, (.if_icmp .ge 24), 3, 95, 0),
  (74, (.aload_n 0), 1, 0, 0),
  (75, (.aload_n 0), 1, 0, 0),
  (76, (.getfield 47), 3, 9, 17),
  (79, (.iload 4), 2, 0, 0),
  (81, .iaload, 1, 0, 0),
  (82, (.aload_n 0), 1, 0, 0),
  (83, (.getfield 164), 3, 9, 19),
  (86, (.invokevirtual 291), 3, 188, 3),
  (89, (.iinc 4 1), 3, 0, 0),
  (92, (.goto (-24)), 3, 68, 0),
  (95, (.aload_n 0), 1, 0, 0),
  (96, (.getfield 231), 3, 9, 32),
  (99, (.bipush 8), 2, 0, 0),
  (101, (.if_icmp .lt 4), 3, 105, 0),
  (104, .return_, 1, 0, 0),
  (105, (.aload_n 0), 1, 0, 0),
  (106, (.aload_n 0), 1, 0, 0),
  (107, (.getfield 231), 3, 9, 32),
  (110, (.invokevirtual 225), 3, 165, 2),
  (113, .pop, 1, 0, 0),
  (114, (.iconst 0), 1, 0, 0),
  (115, (.istore 4), 2, 0, 0),
  (117, (.iload 4), 2, 0, 0),
  (119, (.aload_n 0), 1, 0, 0),
  (120, (.getfield 205), 3, 9, 29),
  (123, (.if_icmp .ge 46), 3, 169, 0),
  (126, (.aload_n 0), 1, 0, 0),
  (127, (.iload 4), 2, 0, 0),
  (129, (.ifCond .ne 7), 3, 136, 0),
  (132, (.iconst 0), 1, 0, 0),
  (133, (.goto 12), 3, 145, 0),
  (136, (.aload_n 0), 1, 0, 0),
  (137, (.getfield 63), 3, 9, 26),
  (140, (.iload 4), 2, 0, 0),
  (142, (.iconst 1), 1, 0, 0),
  (143, .isub, 1, 0, 0),
  (144, .iaload, 1, 0, 0),
  (145, (.aload_n 0), 1, 0, 0),
  (146, (.getfield 63), 3, 9, 26),
  (149, (.iload 4), 2, 0, 0),
  (151, .iaload, 1, 0, 0),
  (152, (.aload_n 0), 1, 0, 0),
  (153, (.getfield 66), 3, 9, 27),
  (156, (.iload 4), 2, 0, 0),
  (158, .iaload, 1, 0, 0),
  (159, (.iload_n 3), 1, 0, 0),
  (160, (.invokevirtual 294), 3, 191, 5),
  (163, (.iinc 4 1), 3, 0, 0),
  (166, (.goto (-49)), 3, 117, 0),
  (169, .return_, 1, 0, 0)]
theorem mm_ck192 : mm_c192.all (mm_ckE 9 prog_11_method_70_code) = true := by decide +kernel
def mm_c193 : List (Nat × mm_E) := [
  (0, (.aload_n 0), 1, 0, 0),
  (1, (.iconst 0), 1, 0, 0),
  (2, (.putfield 96), 3, 9, 16),
  (5, (.aload_n 0), 1, 0, 0),
  (6, (.invokevirtual 154), 3, 146, 1),
  (9, (.ifCond .ne 5), 3, 14, 0),
  (12, (.iconst (-1)), 1, 0, 0),
  (13, .ireturn, 1, 0, 0),
  (14, (.aload_n 0), 1, 0, 0),
  (15, (.iconst 0), 1, 0, 0),
  (16, (.putfield 277), 3, 9, 15),
  (19, (.aload_n 0), 1, 0, 0),
  (20, (.bipush 83), 2, 0, 0),
  (22, (.invokevirtual 283), 3, 187, 2),
  (25, (.aload_n 0), 1, 0, 0),
  (26, (.bipush 80), 2, 0, 0),
  (28, (.invokevirtual 283), 3, 187, 2),
  (31, (.aload_n 0), 1, 0, 0),
  (32, (.aload_n 0), 1, 0, 0),
  (33, (.getfield 99), 3, 9, 4),
  (36, (.invokevirtual 283), 3, 187, 2),
  (39, (.aload_n 0), 1, 0, 0),
  (40, (.aload_n 0), 1, 0, 0),
  (41, (.getfield 113), 3, 9, 5),
  (44, (.invokevirtual 283), 3, 187, 2),
  (47, (.aload_n 0), 1, 0, 0),
  (48, (.aload_n 0), 1, 0, 0),
  (49, (.getfield 19), 3, 9, 6),
  (52, (.invokevirtual 283), 3, 187, 2),
  (55, (.aload_n 0), 1, 0, 0),
  (56, (.aload_n 0), 1, 0, 0),
  (57, (.getfield 16), 3, 9, 3),
  (60, (.iconst 0), 1, 0, 0),
  (61, .iaload, 1, 0, 0),
  (62, (.sipush 256), 3, 0, 0),
  (65, .idiv, 1, 0, 0),
  (66, (.invokevirtual 283), 3, 187, 2),
  (69, (.aload_n 0), 1, 0, 0),
  (70, (.aload_n 0), 1, 0, 0),
  (71, (.getfield 16), 3, 9, 3),
  (74, (.iconst 0), 1, 0, 0),
  (75, .iaload, 1, 0, 0),
  (76, (.sipush 256), 3, 0, 0),
  (79, .irem, 1, 0, 0),
  (80, (.invokevirtual 283), 3, 187, 2),
  (83, (.iconst 0), 1, 0, 0),
  (84, (.istore_n 1), 1, 0, 0),
  (85, (.iload_n 1), 1, 0, 0),
  (86, (.iconst 3), 1, 0, 0),
  (87, (.if_icmp .ge 46), 3, 133, 0),
  (90, (.iconst 0), 1, 0, 0),
  (91, (.istore_n 2), 1, 0, 0),
  (92, (.iload_n 2), 1, 0, 0),
  (93, (.iconst 3), 1, 0, 0),
  (94, (.if_icmp .ge 23), 3, 117, 0),
  (97, (.aload_n 0), 1, 0, 0),
  (98, (.aload_n 0), 1, 0, 0),
  (99, (.getfield 32), 3, 9, 10),
  (102, (.iconst 3), 1, 0, 0),
  (103, (.iload_n 1), 1, 0, 0),
  (104, .imul, 1, 0, 0),
  (105, (.iload_n 2), 1, 0, 0),
  (106, .iadd, 1, 0, 0),
  (107, .iaload, 1, 0, 0),
  (108, (.invokevirtual 283), 3, 187, 2),
  (111, (.iinc 2 1), 3, 0, 0),
  (114, (.goto (-22)), 3, 92, 0),
  (117, (.aload_n 0), 1, 0, 0),
  (118, (.aload_n 0), 1, 0, 0),
  (119, (.getfield 35), 3, 9, 11),
  (122, (.iload_n 1), 1, 0, 0),
  (123, .iaload, 1, 0, 0),
  (124, (.invokevirtual 283), 3, 187, 2),
  (127, (.iinc 1 1), 3, 0, 0),
  (130, (.goto (-45)), 3, 85, 0),
  (133, (.aload_n 0), 1, 0, 0),
  (134, (.iconst 0), 1, 0, 0),
  (135, (.invokevirtual 298), 3, 190, 2),
  (138, (.iconst 0), 1, 0, 0),
  (139, (.istore_n 1), 1, 0, 0),
  (140, (.iload_n 1), 1, 0, 0),
  (141, (.aload_n 0), 1, 0, 0),
  (142, (.invokevirtual 158), 3, 147, 1),
  (145, (.if_icmp .ge 84), 3, 229, 0),
  (148, (.aload_n 0), 1, 0, 0),
  (149, (.getfield 277), 3, 9, 15),
  (152, (.istore_n 2), 1, 0, 0),
  (153, (.aload_n 0), 1, 0, 0),
  (154, (.sipush 165), 3, 0, 0),
  (157, (.invokevirtual 283), 3, 187, 2),
  (160, (.aload_n 0), 1, 0, 0),
  (161, (.iload_n 1), 1, 0, 0),
  (162, (.invokevirtual 283), 3, 187, 2),
  (165, (.aload_n 0), 1, 0, 0),
  (166, (.iload_n 1), 1, 0, 0),
  (167, (.aload_n 0), 1, 0, 0),
  (168, (.getfield 26), 3, 9, 8),
  (171, (.invokevirtual 258), 3, 172, 3),
  (174, (.istore_n 3), 1, 0, 0),
  (175, (.aload_n 0), 1, 0, 0),
  (176, (.getfield 99), 3, 9, 4),
  (179, (.iconst 2), 1, 0, 0),
  (180, (.if_icmp .ne 9), 3, 189, 0),
  (183, (.aload_n 0), 1, 0, 0),
  (184, (.iload_n 3), 1, 0, 0),
  (185, (.iconst 2), 1, 0, 0),
  (186, (.invokevirtual 291), 3, 188, 3),
  (189, (.iconst 0), 1, 0, 0),
  (190, (.istore 4), 2, 0, 0),
  (192, (.iload 4), 2, 0, 0),
  (194, (.aload_n 0), 1, 0, 0),
  (195, (.getfield 99), 3, 9, 4),
  (198, (.if_icmp .ge 20), 3, 218, 0),
  (201, (.aload_n 0), 1, 0, 0),
  (202, (.iload_n 1), 1, 0, 0),
  (203, (.iload_n 3), 1, 0, 0),
  (204, (.iload 4), 2, 0, 0),
  (206, (.invokestatic 243), 3, 150, 2),
  (209, (.invokevirtual 301), 3, 192, 3),
  (212, (.iinc 4 1), 3, 0, 0),
  (215, (.goto (-23)), 3, 192, 0),
  (218, (.aload_n 0), 1, 0, 0),
  (219, (.iload_n 2), 1, 0, 0),
  (220, (.invokevirtual 298), 3, 190, 2),
  (223, (.iinc 1 1), 3, 0, 0),
  (226, (.goto (-86)), 3, 140, 0),
  (229, (.aload_n 0), 1, 0, 0),
  (230, (.getfield 277), 3, 9, 15),
  (233, .ireturn, 1, 0, 0)]
theorem mm_ck193 : mm_c193.all (mm_ckE 9 prog_11_method_71_code) = true := by decide +kernel
def mm_c194 : List (Nat × mm_E) := [
  (0, (.aload_n 0), 1, 0, 0),
  (1, (.iconst 0), 1, 0, 0),
  (2, (.putfield 96), 3, 9, 16),
  (5, (.iload_n 1), 1, 0, 0),
  (6, (.iconst 0), 1, 0, 0),
  (7, (.aload_n 0), 1, 0, 0),
  (8, (.getfield 277), 3, 9, 15),
  (11, (.iconst 1), 1, 0, 0),
  (12, .isub, 1, 0, 0),
  (13, (.invokestatic 102), 3, 125, 3),
  (16, (.ifCond .eq 12), 3, 28, 0),
  (19, (.aload_n 0), 1, 0, 0),
  (20, (.getfield 44), 3, 9, 14),
  (23, (.iload_n 1), 1, 0, 0),
  (24, .iaload, 1, 0, 0),
  (25, (.goto 4), 3, 29, 0),
  (28, (.iconst (-1)), 1, 0, 0),
  (29, .ireturn, 1, 0, 0)]
theorem mm_ck194 : mm_c194.all (mm_ckE 9 prog_11_method_72_code) = true := by decide +kernel
def mm_c195 : List (Nat × mm_E) := [
  (0, (.aload_n 0), 1, 0, 0),
  (1, (.iconst 0), 1, 0, 0),
  (2, (.putfield 96), 3, 9, 16),
  (5, (.iload_n 1), 1, 0, 0),
  (6, (.iconst 0), 1, 0, 0),
  (7, (.aload_n 0), 1, 0, 0),
  (8, (.getfield 277), 3, 9, 15),
  (11, (.iconst 1), 1, 0, 0),
  (12, .isub, 1, 0, 0),
  (13, (.invokestatic 102), 3, 125, 3),
  (16, (.ifCond .eq 14), 3, 30, 0),
  (19, (.iload_n 2), 1, 0, 0),
  (20, (.iconst 1), 1, 0, 0),
  (21, (.sipush 255), 3, 0, 0),
  (24, (.invokestatic 102), 3, 125, 3),
  (27, (.ifCond .ne 5), 3, 32, 0),
  (30, (.iconst (-1)), 1, 0, 0),
  (31, .ireturn, 1, 0, 0),
  (32, (.aload_n 0), 1, 0, 0),
  (33, (.getfield 44), 3, 9, 14),
  (36, (.iload_n 1), 1, 0, 0),
  (37, .dup2, 1, 0, 0),
  (38, .iaload, 1, 0, 0),
  (39, (.iload_n 2), 1, 0, 0),
  (40, .ixor, 1, 0, 0),
  (41, .iastore, 1, 0, 0),
  (42, (.aload_n 0), 1, 0, 0),
  (43, (.getfield 44), 3, 9, 14),
  (46, (.iload_n 1), 1, 0, 0),
  (47, .iaload, 1, 0, 0),
  (48, .ireturn, 1, 0, 0)]
theorem mm_ck195 : mm_c195.all (mm_ckE 9 prog_11_method_73_code) = true := by decide +kernel
def mm_c196 : List (Nat × mm_E) := [
  (0, (.aload_n 0), 1, 0, 0),
  (1, (.iconst 0), 1, 0, 0),
  (2, (.putfield 96), 3, 9, 16),
  (5, (.iload_n 1), 1, 0, 0),
  (6, (.iconst 0), 1, 0, 0),
  (7, (.aload_n 0), 1, 0, 0),
  (8, (.getfield 277), 3, 9, 15),
  (11, (.invokestatic 102), 3, 125, 3),
  (14, (.ifCond .ne 5), 3, 19, 0),
  (17, (.iconst (-1)), 1, 0, 0),
  (18, .ireturn, 1, 0, 0),
  (19, (.aload_n 0), 1, 0, 0),
  (20, .dup, 1, 0, 0),
  (21, (.getfield 277), 3, 9, 15),
  (24, (.iload_n 1), 1, 0, 0),
  (25, .isub, 1, 0, 0),
  (26, (.putfield 277), 3, 9, 15),
  (29, (.aload_n 0), 1, 0, 0),
  (30, (.getfield 277), 3, 9, 15),
  (33, .ireturn, 1, 0, 0)]
theorem mm_ck196 : mm_c196.all (mm_ckE 9 prog_11_method_74_code) = true := by decide +kernel
end
section
def mm_c197 : List (Nat × mm_E) := [
  (0, (.aload_n 0), 1, 0, 0),
  (1, (.iconst 0), 1, 0, 0),
  (2, (.putfield 96), 3, 9, 16),
  (5, (.iload_n 1), 1, 0, 0),
  (6, (.iconst 0), 1, 0, 0),
  (7, (.aload_n 0), 1, 0, 0),
  (8, (.getfield 277), 3, 9, 15),
  (11, (.iconst 1), 1, 0, 0),
  (12, .isub, 1, 0, 0),
  (13, (.invokestatic 102), 3, 125, 3),
  (16, (.ifCond .ne 5), 3, 21, 0),
  (19, (.iconst (-1)), 1, 0, 0),
  (20, .ireturn, 1, 0, 0),
  (21, (.aload_n 0), 1, 0, 0),
  (22, (.getfield 44), 3, 9, 14),
  (25, (.iload_n 1), 1, 0, 0),
  (26, .iaload, 1, 0, 0),
  (27, (.istore_n 2), 1, 0, 0),
  (28, (.iload_n 1), 1, 0, 0),
  (29, (.iconst 1), 1, 0, 0),
  (30, .iadd, 1, 0, 0),
  (31, (.istore_n 3), 1, 0, 0),
  (32, (.iload_n 3), 1, 0, 0),
  (33, (.aload_n 0), 1, 0, 0),
  (34, (.getfield 277), 3, 9, 15),
  (37, (.if_icmp .ge 23), 3, 60, 0),
  (40, (.aload_n 0), 1, 0, 0),
  (41, (.getfield 44), 3, 9, 14),
  (44, (.iload_n 3), 1, 0, 0),
  (45, (.iconst 1), 1, 0, 0),
  (46, .isub, 1, 0, 0),
  (47, (.aload_n 0), 1, 0, 0),
  (48, (.getfield 44), 3, 9, 14),
  (51, (.iload_n 3), 1, 0, 0),
  (52, .iaload, 1, 0, 0),
  (53, .iastore, 1, 0, 0),
  (54, (.iinc 3 1), 3, 0, 0),
  (57, (.goto (-25)), 3, 32, 0),
  (60, (.aload_n 0), 1, 0, 0),
  (61, .dup, 1, 0, 0),
  (62, (.getfield 277), 3, 9, 15),
  (65, (.iconst 1), 1, 0, 0),
  (66, .isub, 1, 0, 0),
  (67, (.putfield 277), 3, 9, 15),
  (70, (.iload_n 2), 1, 0, 0),
  (71, .ireturn, 1, 0, 0)]
theorem mm_ck197 : mm_c197.all (mm_ckE 9 prog_11_method_75_code) = true := by decide +kernel
def mm_c198 : List (Nat × mm_E) := [
  (0, (.aload_n 0), 1, 0, 0),
  (1, (.getfield 277), 3, 9, 15),
  (4, (.bipush 21), 2, 0, 0),
  (6, (.if_icmp .ge 5), 3, 11, 0),
  (9, (.iconst 1), 1, 0, 0),
  (10, .ireturn, 1, 0, 0),
  (11, (.aload_n 0), 1, 0, 0),
  (12, (.getfield 44), 3, 9, 14),
  (15, (.iconst 0), 1, 0, 0),
  (16, .iaload, 1, 0, 0),
  (17, (.bipush 83), 2, 0, 0),
  (19, (.if_icmp .ne 14), 3, 33, 0),
  (22, (.aload_n 0), 1, 0, 0),
  (23, (.getfield 44), 3, 9, 14),
  (26, (.iconst 1), 1, 0, 0),
  (27, .iaload, 1, 0, 0),
  (28, (.bipush 80), 2, 0, 0),
  (30, (.if_icmp .eq 5), 3, 35, 0),
  (33, (.iconst 2), 1, 0, 0),
  (34, .ireturn, 1, 0, 0),
  (35, (.aload_n 0), 1, 0, 0),
  (36, (.aload_n 0), 1, 0, 0),
  (37, (.getfield 44), 3, 9, 14),
  (40, (.iconst 2), 1, 0, 0),
  (41, .iaload, 1, 0, 0),
  (42, (.putfield 304), 3, 9, 35),
  (45, (.aload_n 0), 1, 0, 0),
  (46, (.aload_n 0), 1, 0, 0),
  (47, (.getfield 44), 3, 9, 14),
  (50, (.iconst 3), 1, 0, 0),
  (51, .iaload, 1, 0, 0),
  (52, (.putfield 307), 3, 9, 36),
  (55, (.aload_n 0), 1, 0, 0),
  (56, (.aload_n 0), 1, 0, 0),
  (57, (.getfield 44), 3, 9, 14),
  (60, (.iconst 4), 1, 0, 0),
  (61, .iaload, 1, 0, 0),
  (62, (.putfield 310), 3, 9, 37),
  (65, (.aload_n 0), 1, 0, 0),
  (66, (.sipush 256), 3, 0, 0),
  (69, (.aload_n 0), 1, 0, 0),
  (70, (.getfield 44), 3, 9, 14),
  (73, (.iconst 5), 1, 0, 0),
  (74, .iaload, 1, 0, 0),
  (75, .imul, 1, 0, 0),
  (76, (.aload_n 0), 1, 0, 0),
  (77, (.getfield 44), 3, 9, 14),
  (80, (.bipush 6), 2, 0, 0),
  (82, .iaload, 1, 0, 0),
  (83, .iadd, 1, 0, 0),
  (84, (.putfield 313), 3, 9, 38),
  (87, (.aload_n 0), 1, 0, 0),
  (88, (.getfield 304), 3, 9, 35),
  (91, (.iconst 1), 1, 0, 0),
  (92, (.iconst 2), 1, 0, 0),
  (93, (.invokestatic 102), 3, 125, 3),
  (96, (.ifCond .eq 45), 3, 141, 0),
  (99, (.aload_n 0), 1, 0, 0),
  (100, (.getfield 307), 3, 9, 36),
  (103, (.bipush 8), 2, 0, 0),
  (105, (.if_icmp .eq 12), 3, 117, 0),
  (108, (.aload_n 0), 1, 0, 0),
  (109, (.getfield 307), 3, 9, 36),
  (112, (.bipush 16), 2, 0, 0),
  (114, (.if_icmp .ne 27), 3, 141, 0),
  (117, (.aload_n 0), 1, 0, 0),
  (118, (.getfield 310), 3, 9, 37),
  (121, (.invokestatic 143), 3, 127, 1),
  (124, (.ifCond .eq 17), 3, 141, 0),
  (127, (.aload_n 0), 1, 0, 0),
  (128, (.getfield 313), 3, 9, 38),
  (131, (.sipush 256), 3, 0, 0),
  (134, (.if_icmp .gt 7), 3, 141, 0),
  (137, (.iconst 1), 1, 0, 0),
  (138, (.goto 4), 3, 142, 0),
  (141, (.iconst 0), 1, 0, 0),
  (142, (.istore_n 1), 1, 0, 0),
  (143, (.iconst 0), 1, 0, 0),
  (144, (.istore_n 2), 1, 0, 0),
  (145, (.iload_n 2), 1, 0, 0),
  (146, (.iconst 3), 1, 0, 0),
  (147, (.if_icmp .ge 87), 3, 234, 0),
  (150, (.iconst 0), 1, 0, 0),
  (151, (.istore_n 3), 1, 0, 0),
  (152, (.iload_n 3), 1, 0, 0),
  (153, (.iconst 3), 1, 0, 0),
  (154, (.if_icmp .ge 37), 3, 191, 0),
  (157, (.aload_n 0), 1, 0, 0),
  (158, (.getfield 38), 3, 9, 12),
  (161, (.iconst 3), 1, 0, 0),
  (162, (.iload_n 2), 1, 0, 0),
  (163, .imul, 1, 0, 0),
  (164, (.iload_n 3), 1, 0, 0),
  (165, .iadd, 1, 0, 0),
  (166, (.aload_n 0), 1, 0, 0),
  (167, (.getfield 44), 3, 9, 14),
  (170, (.bipush 7), 2, 0, 0),
  (172, (.iconst 4), 1, 0, 0),
  (173, (.iload_n 2), 1, 0, 0),
  (174, .imul, 1, 0, 0),
  (175, .iadd, 1, 0, 0),
  (176, (.iload_n 3), 1, 0, 0),
  (177, .iadd, 1, 0, 0),
  (178, .iaload, 1, 0, 0),
  (179, (.bipush 8), 2, 0, 0),
  (181, (.invokestatic 120), 3, 131, 2),
  (184, .iastore, 1, 0, 0),
  (185, (.iinc 3 1), 3, 0, 0),
  (188, (.goto (-36)), 3, 152, 0),
  (191, (.aload_n 0), 1, 0, 0),
  (192, (.getfield 41), 3, 9, 13),
  (195, (.iload_n 2), 1, 0, 0),
  (196, (.aload_n 0), 1, 0, 0),
  (197, (.getfield 44), 3, 9, 14),
  (200, (.bipush 10), 2, 0, 0),
  (202, (.iconst 4), 1, 0, 0),
  (203, (.iload_n 2), 1, 0, 0),
  (204, .imul, 1, 0, 0),
  (205, .iadd, 1, 0, 0),
  (206, .iaload, 1, 0, 0),
  (207, .iastore, 1, 0, 0),
  (208, (.iload_n 1), 1, 0, 0),
  (209, (.ifCond .eq 17), 3, 226, 0),
  (212, (.aload_n 0), 1, 0, 0),
  (213, (.getfield 41), 3, 9, 13),
  (216, (.iload_n 2), 1, 0, 0),
  (217, .iaload, 1, 0, 0),
  (218, (.iconst 4), 1, 0, 0),
  (219, (.if_icmp .gt 7), 3, 226, 0),
  (222, (.iconst 1), 1, 0, 0),
  (223, (.goto 4), 3, 227, 0),
  (226, (.iconst 0), 1, 0, 0),
  (227, (.istore_n 1), 1, 0, 0),
  (228, (.iinc 2 1), 3, 0, 0),
  (231, (.goto (-86)), 3, 145, 0),
  (234, (.iload_n 1), 1, 0, 0),
  (235, (.ifCond .ne 5), 3, 240, 0),
  (238, (.iconst 3), 1, 0, 0),
  (239, .ireturn, 1, 0, 0),
  (240, (.aload_n 0), 1, 0, 0),
  (241, (.iconst 0), 1, 0, 0),
  (242, (.bipush 19), 2, 0, 0),
  (244, (.invokevirtual 288), 3, 189, 3),
  (247, (.sipush 256), 3, 0, 0),
  (250, (.aload_n 0), 1, 0, 0),
  (251, (.getfield 44), 3, 9, 14),
  (254, (.bipush 19), 2, 0, 0),
  (256, .iaload, 1, 0, 0),
  (257, .imul, 1, 0, 0),
  (258, (.aload_n 0), 1, 0, 0),
  (259, (.getfield 44), 3, 9, 14),
  (262, (.bipush 20), 2, 0, 0),
  (264, .iaload, 1, 0, 0),
  (265, .iadd, 1, 0, 0),
  (266, (.if_icmp .ne 7), 3, 273, 0),
  (269, (.iconst 0), 1, 0, 0),
  (270, (.goto 4), 3, 274, 0),
  (273, (.iconst 4), 1, 0, 0),
  (274, .ireturn, 1, 0, 0)]
theorem mm_ck198 : mm_c198.all (mm_ckE 9 prog_11_method_76_code) = true := by decide +kernel
def mm_c199 : List (Nat × mm_E) := [
  (0, (.aload_n 0), 1, 0, 0),
  (1, (.iconst 0), 1, 0, 0),
  (2, (.putfield 96), 3, 9, 16),
  (5, (.aload_n 0), 1, 0, 0),
  (6, (.invokevirtual 316), 3, 198, 1),
  (9, .ireturn, 1, 0, 0)]
theorem mm_ck199 : mm_c199.all (mm_ckE 9 prog_11_method_77_code) = true := by decide +kernel
def mm_c200 : List (Nat × mm_E) := [
  (0, (.aload_n 0), 1, 0, 0),
  (1, (.getfield 313), 3, 9, 38),
  (4, (.aload_n 0), 1, 0, 0),
  (5, (.getfield 310), 3, 9, 37),
  (8, .iadd, 1, 0, 0),
  (9, (.iconst 1), 1, 0, 0),
  (10, .isub, 1, 0, 0),
  (11, (.aload_n 0), 1, 0, 0),
  (12, (.getfield 310), 3, 9, 37),
  (15, .idiv, 1, 0, 0),
  (16, .ireturn, 1, 0, 0)]
theorem mm_ck200 : mm_c200.all (mm_ckE 9 prog_11_method_78_code) = true := by decide +kernel
def mm_c201 : List (Nat × mm_E) := [
  (0, (.aload_n 0), 1, 0, 0),
  (1, (.getfield 319), 3, 9, 40),
  (4, (.ifCond .ne 17), 3, 21, 0),
  (7, (.aload_n 0), 1, 0, 0),
  (8, (.getfield 323), 3, 9, 39),
  (11, (.bipush 8), 2, 0, 0),
  (13, (.aload_n 0), 1, 0, 0),
  (14, (.getfield 277), 3, 9, 15),
  (17, .imul, 1, 0, 0),
  (18, (.if_icmp .lt 10), 3, 28, 0),
  (21, (.aload_n 0), 1, 0, 0),
  (22, (.iconst 1), 1, 0, 0),
  (23, (.putfield 319), 3, 9, 40),
  (26, (.iconst 0), 1, 0, 0),
  (27, .ireturn, 1, 0, 0),
  (28, (.aload_n 0), 1, 0, 0),
  (29, (.getfield 44), 3, 9, 14),
  (32, (.aload_n 0), 1, 0, 0),
  (33, (.getfield 323), 3, 9, 39),
  (36, (.bipush 8), 2, 0, 0),
  (38, .idiv, 1, 0, 0),
  (39, .iaload, 1, 0, 0),
  (40, (.bipush 7), 2, 0, 0),
  (42, (.aload_n 0), 1, 0, 0),
  (43, (.getfield 323), 3, 9, 39),
  (46, (.bipush 8), 2, 0, 0),
  (48, .irem, 1, 0, 0),
  (49, .isub, 1, 0, 0),
  (50, .ishr, 1, 0, 0),
  (51, (.iconst 1), 1, 0, 0),
  (52, .iand, 1, 0, 0),
  (53, (.istore_n 1), 1, 0, 0),
  (54, (.aload_n 0), 1, 0, 0),
  (55, .dup, 1, 0, 0),
  (56, (.getfield 323), 3, 9, 39),
  (59, (.iconst 1), 1, 0, 0),
  (60, .iadd, 1, 0, 0),
  (61, (.putfield 323), 3, 9, 39),
  (64, (.iload_n 1), 1, 0, 0),
  (65, .ireturn, 1, 0, 0)]
theorem mm_ck201 : mm_c201.all (mm_ckE 9 prog_11_method_79_code) = true := by decide +kernel
def mm_c202 : List (Nat × mm_E) := [
  (0, (.iconst 0), 1, 0, 0),
  (1, (.istore_n 2), 1, 0, 0),
  (2, (.iconst 0), 1, 0, 0),
  (3, (.istore_n 3), 1, 0, 0),
  (4, (.iload_n 3), 1, 0, 0),
  (5, (.iload_n 1), 1, 0, 0),
  (6, (.if_icmp .ge 18), 3, 24, 0),
  (9, (.iconst 2), 1, 0, 0),
  (10, (.iload_n 2), 1, 0, 0),
  (11, .imul, 1, 0, 0),
  (12, (.aload_n 0), 1, 0, 0),
  (13, (.invokevirtual 326), 3, 201, 1),
  (16, .iadd, 1, 0, 0),
  (17, (.istore_n 2), 1, 0, 0),
  (18, (.iinc 3 1), 3, 0, 0),
  (21, (.goto (-17)), 3, 4, 0),
  (24, (.iload_n 2), 1, 0, 0),
  (25, .ireturn, 1, 0, 0)]
theorem mm_ck202 : mm_c202.all (mm_ckE 9 prog_11_method_80_code) = true := by decide +kernel
def mm_c203 : List (Nat × mm_E) := [
  (0, (.iload_n 1), 1, 0, 0),
  (1, (.ifCond .ne 7), 3, 8, 0),
  (4, (.iconst 0), 1, 0, 0),
  (5, (.goto 18), 3, 23, 0),
  (8, (.aload_n 0), 1, 0, 0),
  (9, (.iload_n 1), 1, 0, 0),
  (10, (.invokevirtual 329), 3, 202, 2),
  (13, (.bipush 32), 2, 0, 0),
  (15, (.iload_n 1), 1, 0, 0),
  (16, .isub, 1, 0, 0),
  (17, .ishl, 1, 0, 0),
  (18, (.bipush 32), 2, 0, 0),
  (20, (.iload_n 1), 1, 0, 0),
  (21, .isub, 1, 0, 0),
  (22, .ishr, 1, 0, 0),
  (23, .ireturn, 1, 0, 0)]
theorem mm_ck203 : mm_c203.all (mm_ckE 9 prog_11_method_81_code) = true := by decide +kernel
def mm_c204 : List (Nat × mm_E) := [
  (0, (.iload_n 1), 1, 0, 0),
  (1, (.bipush 15), 2, 0, 0),
  (3, (.if_icmp .ne 5), 3, 8, 0),
  (6, (.iconst 0), 1, 0, 0),
  (7, .ireturn, 1, 0, 0),
  (8, (.iload_n 1), 1, 0, 0),
  (9, (.bipush 14), 2, 0, 0),
  (11, (.if_icmp .ne 9), 3, 20, 0),
  (14, (.aload_n 0), 1, 0, 0),
  (15, (.iload_n 2), 1, 0, 0),
  (16, (.invokevirtual 332), 3, 203, 2),
  (19, .ireturn, 1, 0, 0),
  (20, (.iconst 0), 1, 0, 0),
  (21, (.istore_n 3), 1, 0, 0),
  (22, (.aload_n 0), 1, 0, 0),
  (23, (.getfield 319), 3, 9, 40),
  (26, (.ifCond .ne 16), 3, 42, 0),
  (29, (.aload_n 0), 1, 0, 0),
  (30, (.invokevirtual 326), 3, 201, 1),
  (33, (.ifCond .ne 9), 3, 42, 0),
  (36, (.iinc 3 1), 3, 0, 0),
  (39, (.goto (-17)), 3, 22, 0),
  (42, (.iload_n 3), 1, 0, 0),
  (43, (.iload_n 1), 1, 0, 0),
  (44, .ishl, 1, 0, 0),
  (45, (.aload_n 0), 1, 0, 0),
  (46, (.iload_n 1), 1, 0, 0),
  (47, (.invokevirtual 329), 3, 202, 2),
  (50, .iadd, 1, 0, 0),
  (51, (.istore 4), 2, 0, 0),
  (53, (.iload 4), 2, 0, 0),
  (55, (.iconst 1), 1, 0, 0),
  (56, .iand, 1, 0, 0),
  (57, (.ifCond .ne 10), 3, 67, 0),
  (60, (.iload 4), 2, 0, 0),
  (62, (.iconst 2), 1, 0, 0),
  (63, .idiv, 1, 0, 0),
  (64, (.goto 10), 3, 74, 0),
  (67, (.iload 4), 2, 0, 0),
  (69, (.iconst 1), 1, 0, 0),
  (70, .iadd, 1, 0, 0),
  (71, .ineg, 1, 0, 0),
  (72, (.iconst 2), 1, 0, 0),
  (73, .idiv, 1, 0, 0),
  (74, .ireturn, 1, 0, 0)]
theorem mm_ck204 : mm_c204.all (mm_ckE 9 prog_11_method_82_code) = true := by decide +kernel
def mm_c205 : List (Nat × mm_E) := [
  (0, (.iload_n 2), 1, 0, 0),
  (1, (.iload_n 1), 1, 0, 0),
  (2, .isub, 1, 0, 0),
  (3, (.bipush 7), 2, 0, 0),
  (5, .iadd, 1, 0, 0),
  (6, (.bipush 8), 2, 0, 0),
  (8, .idiv, 1, 0, 0),
  (9, (.istore_n 3), 1, 0, 0),
  (10, (.iconst 0), 1, 0, 0),
  (11, (.istore 4), 2, 0, 0),
  (13, (.iload 4), 2, 0, 0),
  (15, (.iload_n 3), 1, 0, 0),
  (16, (.if_icmp .ge 146), 3, 162, 0),
  (19, (.aload_n 0), 1, 0, 0),
  (20, (.getfield 319), 3, 9, 40),
  (23, (.ifCond .ne 139), 3, 162, 0),
  (26, (.aload_n 0), 1, 0, 0),
  (27, (.iconst 3), 1, 0, 0),
  (28, (.invokevirtual 329), 3, 202, 2),
  (31, (.iconst 1), 1, 0, 0),
  (32, .iadd, 1, 0, 0),
  (33, (.istore 5), 2, 0, 0),
  (35, (.aload_n 0), 1, 0, 0),
  (36, (.iconst 4), 1, 0, 0),
  (37, (.invokevirtual 329), 3, 202, 2),
  (40, (.istore 6), 2, 0, 0),
  (42, (.iload 4), 2, 0, 0),
  (44, (.iload 5), 2, 0, 0),
  (46, .iadd, 1, 0, 0),
  (47, (.iload_n 3), 1, 0, 0),
  (48, (.if_icmp .le 8), 3, 56, 0),
  (51, (.aload_n 0), 1, 0, 0),
  (52, (.iconst 1), 1, 0, 0),
  (53, (.putfield 319), 3, 9, 40),
  (56, (.iload 6), 2, 0, 0),
  (58, (.bipush 14), 2, 0, 0),
  (60, (.if_icmp .ne 11), 3, 71, 0),
  (63, (.aload_n 0), 1, 0, 0),
  (64, (.iconst 5), 1, 0, 0),
  (65, (.invokevirtual 329), 3, 202, 2),
  (68, (.goto 4), 3, 72, 0),
  (71, (.iconst 0), 1, 0, 0),
  (72, (.istore 7), 2, 0, 0),
  (74, (.iload_n 1), 1, 0, 0),
  (75, (.bipush 8), 2, 0, 0),
  (77, (.iload 4), 2, 0, 0),
  (79, .imul, 1, 0, 0),
  (80, .iadd, 1, 0, 0),
  (81, (.istore 8), 2, 0, 0),
  (83, (.iload_n 1), 1, 0, 0),
  (84, (.bipush 8), 2, 0, 0),
  (86, (.iload 4), 2, 0, 0),
  (88, (.iload 5), 2, 0, 0),
  (90, .iadd, 1, 0, 0),
  (91, .imul, 1, 0, 0),
  (92, .iadd, 1, 0, 0),
  (93, (.iload_n 2), 1, 0, 0),
  (94, (.if_icmp .ge 16), 3, 110, 0),
  (97, (.iload_n 1), 1, 0, 0),
  (98, (.bipush 8), 2, 0, 0),
  (100, (.iload 4), 2, 0, 0),
  (102, (.iload 5), 2, 0, 0),
  (104, .iadd, 1, 0, 0),
  (105, .imul, 1, 0, 0),
  (106, .iadd, 1, 0, 0),
  (107, (.goto 4), 3, 111, 0),
  (110, (.iload_n 2), 1, 0, 0),
  (111, (.istore 9), 2, 0, 0),
  (113, (.iload 8), 2, 0, 0),
  (115, (.istore 10), 2, 0, 0),
  (117, (.iload 10), 2, 0, 0),
  (119, (.iload 9), 2, 0, 0),
  (121, (.if_icmp .ge 31), 3, 152, 0),
  (124, (.aload_n 0), 1, 0, 0),
  (125, (.getfield 319), 3, 9, 40),
  (128, (.ifCond .ne 24), 3, 152, 0),
  (131, (.aload_n 0), 1, 0, 0),
  (132, (.getfield 84), 3, 9, 42),
  (135, (.iload 10), 2, 0, 0),
  (137, (.aload_n 0), 1, 0, 0),
  (138, (.iload 6), 2, 0, 0),
  (140, (.iload 7), 2, 0, 0),
  (142, (.invokevirtual 335), 3, 204, 3),
  (145, .iastore, 1, 0, 0),
  (146, (.iinc 10 1), 3, 0, 0),
  (149, (.goto (-32)), 3, 117, 0),
  (152, (.iload 4), 2, 0, 0),
  (154, (.iload 5), 2, 0, 0),
  (156, .iadd, 1, 0, 0),
  (157, (.istore 4), 2, 0, 0),
  (159, (.goto (-146)), 3, 13, 0),
  (162, .return_, 1, 0, 0)]
theorem mm_ck205 : mm_c205.all (mm_ckE 9 prog_11_method_83_code) = true := by decide +kernel
def mm_c206 : List (Nat × mm_E) := [
  (0, (.aload_n 0), 1, 0, 0),
  (1, (.iconst 4), 1, 0, 0),
  (2, (.invokevirtual 329), 3, 202, 2),
  (5, (.istore 4), 2, 0, 0),
  (7, (.iload 4), 2, 0, 0),
  (9, (.bipush 9), 2, 0, 0),
  (11, (.if_icmp .gt 23), 3, 34, 0),
  (14, (.iload 4), 2, 0, 0),
  (16, (.bipush 8), 2, 0, 0),
  (18, (.if_icmp .ge 21), 3, 39, 0),
  (21, (.iload 4), 2, 0, 0),
  (23, (.aload_n 0), 1, 0, 0),
  (24, (.getfield 38), 3, 9, 12),
  (27, (.invokestatic 146), 3, 144, 2),
  (30, (.iload_n 2), 1, 0, 0),
  (31, (.if_icmp .lt 8), 3, 39, 0),
  (34, (.aload_n 0), 1, 0, 0),
  (35, (.iconst 1), 1, 0, 0),
  (36, (.putfield 319), 3, 9, 40),
  (39, (.aload_n 0), 1, 0, 0),
  (40, (.getfield 319), 3, 9, 40),
  (43, (.ifCond .eq 4), 3, 47, 0),
  (46, .return_, 1, 0, 0),
  (47, (.iload 4), 2, 0, 0),
  (49, (.bipush 8), 2, 0, 0),
  (51, (.if_icmp .ge 15), 3, 66, 0),
  (54, (.iload 4), 2, 0, 0),
  (56, (.aload_n 0), 1, 0, 0),
  (57, (.getfield 38), 3, 9, 12),
  (60, (.invokestatic 146), 3, 144, 2),
  (63, (.goto 15), 3, 78, 0),
  (66, (.iload 4), 2, 0, 0),
  (68, (.bipush 8), 2, 0, 0),
  (70, (.if_icmp .ne 7), 3, 77, 0),
  (73, (.iconst 1), 1, 0, 0),
  (74, (.goto 4), 3, 78, 0),
  (77, (.iload_n 2), 1, 0, 0),
  (78, (.istore 5), 2, 0, 0),
  (80, (.iconst 0), 1, 0, 0),
  (81, (.istore 6), 2, 0, 0),
  (83, (.iload 6), 2, 0, 0),
  (85, (.iload 5), 2, 0, 0),
  (87, (.if_icmp .ge 21), 3, 108, 0),
  (90, (.aload_n 0), 1, 0, 0),
  (91, (.getfield 84), 3, 9, 42),
  (94, (.iload 6), 2, 0, 0),
  (96, (.aload_n 0), 1, 0, 0),
  (97, (.iload_n 3), 1, 0, 0),
  (98, (.invokevirtual 332), 3, 203, 2),
  (101, .iastore, 1, 0, 0),
  (102, (.iinc 6 1), 3, 0, 0),
  (105, (.goto (-22)), 3, 83, 0),
  (108, (.iload 4), 2, 0, 0),
  (110, (.bipush 8), 2, 0, 0),
  (112, (.if_icmp .ne 34), 3, 146, 0),
  (115, (.iconst 1), 1, 0, 0),
  (116, (.istore 6), 2, 0, 0),
  (118, (.iload 6), 2, 0, 0),
  (120, (.iload_n 2), 1, 0, 0),
  (121, (.if_icmp .ge 22), 3, 143, 0),
  (124, (.aload_n 0), 1, 0, 0),
  (125, (.getfield 84), 3, 9, 42),
  (128, (.iload 6), 2, 0, 0),
  (130, (.aload_n 0), 1, 0, 0),
  (131, (.getfield 84), 3, 9, 42),
  (134, (.iconst 0), 1, 0, 0),
  (135, .iaload, 1, 0, 0),
  (136, .iastore, 1, 0, 0),
  (137, (.iinc 6 1), 3, 0, 0),
  (140, (.goto (-22)), 3, 118, 0),
  (143, (.goto 69), 3, 212, 0),
  (146, (.iload 4), 2, 0, 0),
  (148, (.bipush 8), 2, 0, 0),
  (150, (.if_icmp .ge 62), 3, 212, 0),
  (153, (.aload_n 0), 1, 0, 0),
  (154, (.iload 5), 2, 0, 0),
  (156, (.iload_n 2), 1, 0, 0),
  (157, (.invokevirtual 338), 3, 205, 3),
  (160, (.iload 5), 2, 0, 0),
  (162, (.istore 6), 2, 0, 0),
  (164, (.iload 6), 2, 0, 0),
  (166, (.iload_n 2), 1, 0, 0),
  (167, (.if_icmp .ge 45), 3, 212, 0),
  (170, (.aload_n 0), 1, 0, 0),
  (171, (.getfield 319), 3, 9, 40),
  (174, (.ifCond .ne 38), 3, 212, 0),
  (177, (.aload_n 0), 1, 0, 0),
  (178, (.getfield 84), 3, 9, 42),
  (181, (.iload 6), 2, 0, 0),
  (183, .dup2, 1, 0, 0),
  (184, .iaload, 1, 0, 0),
  (185, (.aload_n 0), 1, 0, 0),
  (186, (.getfield 84), 3, 9, 42),
  (189, (.iload 6), 2, 0, 0),
  (191, (.iload 4), 2, 0, 0),
  (193, (.aload_n 0), 1, 0, 0),
  (194, (.getfield 38), 3, 9, 12),
  (197, (.aload_n 0), 1, 0, 0),
  (198, (.getfield 41), 3, 9, 13),
  (201, (.invokestatic 173), 3, 145, 5),
  (204, .iadd, 1, 0, 0),
  (205, .iastore, 1, 0, 0),
  (206, (.iinc 6 1), 3, 0, 0),
  (209, (.goto (-45)), 3, 164, 0),
  (212, (.iconst 0), 1, 0, 0),
  (213, (.istore 6), 2, 0, 0),
  (215, (.iload 6), 2, 0, 0),
  (217, (.iload_n 2), 1, 0, 0),
  (218, (.if_icmp .ge 35), 3, 253, 0),
  (221, (.aload_n 0), 1, 0, 0),
  (222, (.getfield 319), 3, 9, 40),
  (225, (.ifCond .ne 28), 3, 253, 0),
  (228, (.aload_n 0), 1, 0, 0),
  (229, (.getfield 81), 3, 9, 41),
  (232, (.bipush 64), 2, 0, 0),
  (234, (.iload_n 1), 1, 0, 0),
  (235, .imul, 1, 0, 0),
  (236, (.iload 6), 2, 0, 0),
  (238, .iadd, 1, 0, 0),
  (239, (.aload_n 0), 1, 0, 0),
  (240, (.getfield 84), 3, 9, 42),
  (243, (.iload 6), 2, 0, 0),
  (245, .iaload, 1, 0, 0),
  (246, .iastore, 1, 0, 0),
  (247, (.iinc 6 1), 3, 0, 0),
  (250, (.goto (-35)), 3, 215, 0),
  (253, .return_, 1, 0, 0)]
theorem mm_ck206 : mm_c206.all (mm_ckE 9 prog_11_method_84_code) = true := by decide +kernel
def mm_c207 : List (Nat × mm_E) := [
  (0, (.iconst 0), 1, 0, 0),
  (1, (.istore_n 3), 1, 0, 0),
  (2, (.iload_n 3), 1, 0, 0),
  (3, (.iload_n 2), 1, 0, 0),
  (4, (.if_icmp .ge 157), 3, 161, 0),
  (7, (.aload_n 0), 1, 0, 0),
  (8, (.getfield 81), 3, 9, 41),
  (11, (.iload_n 3), 1, 0, 0),
  (12, .iaload, 1, 0, 0),
  (13, (.istore 4), 2, 0, 0),
  (15, (.aload_n 0), 1, 0, 0),
  (16, (.getfield 81), 3, 9, 41),
  (19, (.bipush 64), 2, 0, 0),
  (21, (.iload_n 3), 1, 0, 0),
  (22, .iadd, 1, 0, 0),
  (23, .iaload, 1, 0, 0),
  (24, (.istore 5), 2, 0, 0),
  (26, (.iload 4), 2, 0, 0),
  (28, (.istore 6), 2, 0, 0),
  (30, (.iload 5), 2, 0, 0),
  (32, (.istore 7), 2, 0, 0),
  (34, (.iload_n 1), 1, 0, 0),
  (35, (.iconst 1), 1, 0, 0),
  (36, (.if_icmp .ne 10), 3, 46, 0),
  (39, (.iload 4), 2, 0, 0),
  (41, (.iload 5), 2, 0, 0),
  (43, .isub, 1, 0, 0),
  (44, (.istore 7), 2, 0, 0),
  (46, (.iload_n 1), 1, 0, 0),
  (47, (.iconst 2), 1, 0, 0),
  (48, (.if_icmp .ne 10), 3, 58, 0),
  (51, (.iload 4), 2, 0, 0),
  (53, (.iload 5), 2, 0, 0),
  (55, .iadd, 1, 0, 0),
  (56, (.istore 6), 2, 0, 0),
  (58, (.iload_n 1), 1, 0, 0),
  (59, (.iconst 3), 1, 0, 0),
  (60, (.if_icmp .ne 26), 3, 86, 0),
  (63, (.iconst 2), 1, 0, 0),
  (64, (.iload 4), 2, 0, 0),
  (66, .imul, 1, 0, 0),
  (67, (.iload 5), 2, 0, 0),
  (69, (.iconst 1), 1, 0, 0),
  (70, .iand, 1, 0, 0),
  (71, .iadd, 1, 0, 0),
  (72, (.iload 5), 2, 0, 0),
  (74, .iadd, 1, 0, 0),
  (75, (.iconst 1), 1, 0, 0),
  (76, .ishr, 1, 0, 0),
  (77, (.istore 6), 2, 0, 0),
  (79, (.iload 6), 2, 0, 0),
  (81, (.iload 5), 2, 0, 0),
  (83, .isub, 1, 0, 0),
  (84, (.istore 7), 2, 0, 0),
  (86, (.iconst 1), 1, 0, 0),
  (87, (.aload_n 0), 1, 0, 0),
  (88, (.getfield 307), 3, 9, 36),
  (91, (.iconst 1), 1, 0, 0),
  (92, .isub, 1, 0, 0),
  (93, .ishl, 1, 0, 0),
  (94, (.istore 8), 2, 0, 0),
  (96, (.iload 6), 2, 0, 0),
  (98, (.iload 8), 2, 0, 0),
  (100, .ineg, 1, 0, 0),
  (101, (.iload 8), 2, 0, 0),
  (103, (.iconst 1), 1, 0, 0),
  (104, .isub, 1, 0, 0),
  (105, (.invokestatic 102), 3, 125, 3),
  (108, (.ifCond .eq 26), 3, 134, 0),
  (111, (.aload_n 0), 1, 0, 0),
  (112, (.getfield 304), 3, 9, 35),
  (115, (.iconst 2), 1, 0, 0),
  (116, (.if_icmp .ne 20), 3, 136, 0),
  (119, (.iload 7), 2, 0, 0),
  (121, (.iload 8), 2, 0, 0),
  (123, .ineg, 1, 0, 0),
  (124, (.iload 8), 2, 0, 0),
  (126, (.iconst 1), 1, 0, 0),
  (127, .isub, 1, 0, 0),
  (128, (.invokestatic 102), 3, 125, 3),
  (131, (.ifCond .ne 5), 3, 136, 0),
  (134, (.iconst 0), 1, 0, 0),
  (135, .ireturn, 1, 0, 0),
  (136, (.aload_n 0), 1, 0, 0),
  (137, (.getfield 81), 3, 9, 41),
  (140, (.iload_n 3), 1, 0, 0),
  (141, (.iload 6), 2, 0, 0),
  (143, .iastore, 1, 0, 0),
  (144, (.aload_n 0), 1, 0, 0),
  (145, (.getfield 81), 3, 9, 41),
  (148, (.bipush 64), 2, 0, 0),
  (150, (.iload_n 3), 1, 0, 0),
  (151, .iadd, 1, 0, 0),
  (152, (.iload 7), 2, 0, 0),
  (154, .iastore, 1, 0, 0),
  (155, (.iinc 3 1), 3, 0, 0),
  (158, (.goto (-156)), 3, 2, 0),
  (161, (.iconst 1), 1, 0, 0),
  (162, .ireturn, 1, 0, 0)]
theorem mm_ck207 : mm_c207.all (mm_ckE 9 prog_11_method_85_code) = true := by decide +kernel
def mm_c208 : List (Nat × mm_E) := [
  (0, (.aload_n 0), 1, 0, 0),
  (1, (.getfield 313), 3, 9, 38),
  (4, (.aload_n 0), 1, 0, 0),
  (5, (.getfield 310), 3, 9, 37),
  (8, (.iload_n 1), 1, 0, 0),
  (9, .imul, 1, 0, 0),
  (10, .isub, 1, 0, 0),
  (11, (.aload_n 0), 1, 0, 0),
  (12, (.getfield 310), 3, 9, 37),
  (15, (.if_icmp .ge 17), 3, 32, 0),
  (18, (.aload_n 0), 1, 0, 0),
  (19, (.getfield 313), 3, 9, 38),
  (22, (.aload_n 0), 1, 0, 0),
  (23, (.getfield 310), 3, 9, 37),
  (26, (.iload_n 1), 1, 0, 0),
  (27, .imul, 1, 0, 0),
  (28, .isub, 1, 0, 0),
  (29, (.goto 7), 3, 36, 0),
  (32, (.aload_n 0), 1, 0, 0),
  (33, (.getfield 310), 3, 9, 37),
  (36, .ireturn, 1, 0, 0)]
theorem mm_ck208 : mm_c208.all (mm_ckE 9 prog_11_method_86_code) = true := by decide +kernel
def mm_c209 : List (Nat × mm_E) := [
  (0, (.iload_n 1), 1, 0, 0),
  (1, (.iconst 4), 1, 0, 0),
  (2, .iadd, 1, 0, 0),
  (3, (.aload_n 0), 1, 0, 0),
  (4, (.getfield 277), 3, 9, 15),
  (7, (.if_icmp .gt 42), 3, 49, 0),
  (10, (.aload_n 0), 1, 0, 0),
  (11, (.getfield 44), 3, 9, 14),
  (14, (.iload_n 1), 1, 0, 0),
  (15, .iaload, 1, 0, 0),
  (16, (.sipush 165), 3, 0, 0),
  (19, (.if_icmp .ne 30), 3, 49, 0),
  (22, (.aload_n 0), 1, 0, 0),
  (23, (.getfield 44), 3, 9, 14),
  (26, (.iload_n 1), 1, 0, 0),
  (27, (.iconst 1), 1, 0, 0),
  (28, .iadd, 1, 0, 0),
  (29, .iaload, 1, 0, 0),
  (30, (.iload_n 2), 1, 0, 0),
  (31, (.if_icmp .lt 18), 3, 49, 0),
  (34, (.aload_n 0), 1, 0, 0),
  (35, (.getfield 44), 3, 9, 14),
  (38, (.iload_n 1), 1, 0, 0),
  (39, (.iconst 1), 1, 0, 0),
  (40, .iadd, 1, 0, 0),
  (41, .iaload, 1, 0, 0),
  (42, (.aload_n 0), 1, 0, 0),
  (43, (.invokevirtual 341), 3, 200, 1),
  (46, (.if_icmp .lt 5), 3, 51, 0),
  (49, (.iconst (-1)), 1, 0, 0),
  (50, .ireturn, 1, 0, 0),
  (51, (.aload_n 0), 1, 0, 0),
  (52, (.aload_n 0), 1, 0, 0),
  (53, (.getfield 44), 3, 9, 14),
  (56, (.iload_n 1), 1, 0, 0),
  (57, (.iconst 1), 1, 0, 0),
  (58, .iadd, 1, 0, 0),
  (59, .iaload, 1, 0, 0),
  (60, (.invokevirtual 344), 3, 208, 2),
  (63, (.istore_n 3), 1, 0, 0),
  (64, (.aload_n 0), 1, 0, 0),
  (65, (.bipush 8), 2, 0, 0),
  (67, (.iload_n 1), 1, 0, 0),
  (68, .imul, 1, 0, 0),
  (69, (.bipush 16), 2, 0, 0),
  (71, .iadd, 1, 0, 0),
  (72, (.putfield 323), 3, 9, 39),
  (75, (.aload_n 0), 1, 0, 0),
  (76, (.iconst 0), 1, 0, 0),
  (77, (.putfield 319), 3, 9, 40),
  (80, (.aload_n 0), 1, 0, 0),
  (81, (.getfield 304), 3, 9, 35),
  (84, (.iconst 2), 1, 0, 0),
  (85, (.if_icmp .ne 11), 3, 96, 0),
  (88, (.aload_n 0), 1, 0, 0),
  (89, (.iconst 2), 1, 0, 0),
  (90, (.invokevirtual 329), 3, 202, 2),
  (93, (.goto 4), 3, 97, 0),
  (96, (.iconst 0), 1, 0, 0),
  (97, (.istore 4), 2, 0, 0),
  (99, (.iconst 0), 1, 0, 0),
  (100, (.istore 5), 2, 0, 0),
  (102, (.iload 5), 2, 0, 0),
  (104, (.aload_n 0), 1, 0, 0),
  (105, (.getfield 304), 3, 9, 35),
  (108, (.if_icmp .ge 52), 3, 160, 0),
  (111, (.aload_n 0), 1, 0, 0),
  (112, (.getfield 319), 3, 9, 40),
  (115, (.ifCond .ne 45), 3, 160, 0),
  (118, (.aload_n 0), 1, 0, 0),
  (119, (.iload 5), 2, 0, 0),
  (121, (.iload_n 3), 1, 0, 0),
  (122, (.aload_n 0), 1, 0, 0),
  (123, (.getfield 307), 3, 9, 36),
  (126, (.aload_n 0), 1, 0, 0),
  (127, (.getfield 304), 3, 9, 35),
  (130, (.iconst 2), 1, 0, 0),
  (131, (.if_icmp .ne 18), 3, 149, 0),
  (134, (.iload 4), 2, 0, 0),
  (136, (.iload 5), 2, 0, 0),
  (138, (.invokestatic 243), 3, 150, 2),
  (141, (.iconst 2), 1, 0, 0),
  (142, (.if_icmp .ne 7), 3, 149, 0),
  (145, (.iconst 1), 1, 0, 0),
  (146, (.goto 4), 3, 150, 0),
  (149, (.iconst 0), 1, 0, 0),
  (150, .iadd, 1, 0, 0),
  (151, (.invokevirtual 347), 3, 206, 4),
  (154, (.iinc 5 1), 3, 0, 0),
  (157, (.goto (-55)), 3, 102, 0),
  (160, (.aload_n 0), 1, 0, 0),
  (161, (.getfield 323), 3, 9, 39),
  (164, (.bipush 7), 2, 0, 0),
  (166, .iadd, 1, 0, 0),
  (167, (.bipush 8), 2, 0, 0),
  (169, .idiv, 1, 0, 0),
  (170, (.istore 5), 2, 0, 0),
  (172, (.aload_n 0), 1, 0, 0),
  (173, (.getfield 319), 3, 9, 40),
  (176, (.ifCond .ne 55), 3, 231, 0),
  (179, (.iload 5), 2, 0, 0),
  (181, (.iconst 2), 1, 0, 0),
  (182, .iadd, 1, 0, 0),
  (183, (.aload_n 0), 1, 0, 0),
  (184, (.getfield 277), 3, 9, 15),
  (187, (.if_icmp .gt 44), 3, 231, 0),
  (190, (.aload_n 0), 1, 0, 0),
  (191, (.iload_n 1), 1, 0, 0),
  (192, (.iload 5), 2, 0, 0),
  (194, (.invokevirtual 288), 3, 189, 3),
  (197, (.sipush 256), 3, 0, 0),
  (200, (.aload_n 0), 1, 0, 0),
  (201, (.getfield 44), 3, 9, 14),
  (204, (.iload 5), 2, 0, 0),
  (206, .iaload, 1, 0, 0),
  (207, .imul, 1, 0, 0),
  (208, (.aload_n 0), 1, 0, 0),
  (209, (.getfield 44), 3, 9, 14),
  (212, (.iload 5), 2, 0, 0),
  (214, (.iconst 1), 1, 0, 0),
  (215, .iadd, 1, 0, 0),
  (216, .iaload, 1, 0, 0),
  (217, .iadd, 1, 0, 0),
  (218, (.if_icmp .ne 13), 3, 231, 0),
  (221, (.aload_n 0), 1, 0, 0),
  (222, (.iload 4), 2, 0, 0),
  (224, (.iload_n 3), 1, 0, 0),
  (225, (.invokevirtual 351), 3, 207, 3),
  (228, (.ifCond .ne 5), 3, 233, 0),
  (231, (.iconst (-1)), 1, 0, 0),
  (232, .ireturn, 1, 0, 0),
  (233, (.iload 5), 2, 0, 0),
  (235, (.iconst 2), 1, 0, 0),
  (236, .iadd, 1, 0, 0),
  (237, (.iload_n 1), 1, 0, 0),
  (238, .isub, 1, 0, 0),
  (239, .ireturn, 1, 0, 0)]
theorem mm_ck209 : mm_c209.all (mm_ckE 9 prog_11_method_87_code) = true := by decide +kernel
def mm_c210 : List (Nat × mm_E) := [
  (0, (.aload_n 0), 1, 0, 0),
  (1, (.invokevirtual 316), 3, 198, 1),
  (4, (.ifCond .eq 5), 3, 9, 0),
  (7, (.iconst 0), 1, 0, 0),
  (8, .ireturn, 1, 0, 0),
  (9, (.iconst 0), 1, 0, 0),
  (10, (.istore_n 1), 1, 0, 0),
  (11, (.iload_n 1), 1, 0, 0),
  (12, (.bipush 16), 2, 0, 0),
  (14, (.if_icmp .ge 16), 3, 30, 0),
  (17, (.aload_n 0), 1, 0, 0),
  (18, (.getfield 87), 3, 9, 43),
  (21, (.iload_n 1), 1, 0, 0),
  (22, (.iconst (-1)), 1, 0, 0),
  (23, .iastore, 1, 0, 0),
  (24, (.iinc 1 1), 3, 0, 0),
  (27, (.goto (-16)), 3, 11, 0),
  (30, (.iconst 0), 1, 0, 0),
  (31, (.istore_n 1), 1, 0, 0),
  (32, (.iload_n 1), 1, 0, 0),
  (33, (.sipush 512), 3, 0, 0),
  (36, (.if_icmp .ge 16), 3, 52, 0),
  (39, (.aload_n 0), 1, 0, 0),
  (40, (.getfield 93), 3, 9, 45),
  (43, (.iload_n 1), 1, 0, 0),
  (44, (.iconst 0), 1, 0, 0),
  (45, .iastore, 1, 0, 0),
  (46, (.iinc 1 1), 3, 0, 0),
  (49, (.goto (-17)), 3, 32, 0),
  (52, (.iconst 0), 1, 0, 0),
  (53, (.istore_n 1), 1, 0, 0),
  (54, (.bipush 21), 2, 0, 0),
  (56, (.istore_n 2), 1, 0, 0),
  (57, (.iload_n 1), 1, 0, 0),
  (58, (.aload_n 0), 1, 0, 0),
  (59, (.invokevirtual 341), 3, 200, 1),
  (62, (.if_icmp .ge 163), 3, 225, 0),
  (65, (.iload_n 2), 1, 0, 0),
  (66, (.aload_n 0), 1, 0, 0),
  (67, (.getfield 277), 3, 9, 15),
  (70, (.if_icmp .ge 155), 3, 225, 0),
  (73, (.aload_n 0), 1, 0, 0),
  (74, (.iload_n 2), 1, 0, 0),
  (75, (.iload_n 1), 1, 0, 0),
  (76, (.invokevirtual 354), 3, 209, 3),
  (79, (.istore_n 3), 1, 0, 0),
  (80, (.iload_n 2), 1, 0, 0),
  (81, (.istore 4), 2, 0, 0),
  (83, (.iload_n 3), 1, 0, 0),
  (84, (.ifCond .ge 28), 3, 112, 0),
  (87, (.iload 4), 2, 0, 0),
  (89, (.iconst 1), 1, 0, 0),
  (90, .iadd, 1, 0, 0),
  (91, (.aload_n 0), 1, 0, 0),
  (92, (.getfield 277), 3, 9, 15),
  (95, (.if_icmp .ge 17), 3, 112, 0),
  (98, (.iinc 4 1), 3, 0, 0),
  (101, (.aload_n 0), 1, 0, 0),
  (102, (.iload 4), 2, 0, 0),
  (104, (.iload_n 1), 1, 0, 0),
  (105, (.invokevirtual 354), 3, 209, 3),
  (108, (.istore_n 3), 1, 0, 0),
  (109, (.goto (-26)), 3, 83, 0),
  (112, (.iload_n 3), 1, 0, 0),
  (113, (.ifCond .ge 5), 3, 118, 0),
  (116, (.iconst 1), 1, 0, 0),
  (117, .ireturn, 1, 0, 0),
  (118, (.aload_n 0), 1, 0, 0),
  (119, (.getfield 44), 3, 9, 14),
  (122, (.iload 4), 2, 0, 0),
  (124, (.iconst 1), 1, 0, 0),
  (125, .iadd, 1, 0, 0),
  (126, .iaload, 1, 0, 0),
  (127, (.istore_n 1), 1, 0, 0),
  (128, (.aload_n 0), 1, 0, 0),
  (129, (.getfield 87), 3, 9, 43),
  (132, (.iload_n 1), 1, 0, 0),
  (133, (.iload 4), 2, 0, 0),
  (135, .iastore, 1, 0, 0),
  (136, (.aload_n 0), 1, 0, 0),
  (137, (.getfield 90), 3, 9, 44),
  (140, (.iload_n 1), 1, 0, 0),
  (141, (.iload_n 3), 1, 0, 0),
  (142, .iastore, 1, 0, 0),
  (143, (.iconst 0), 1, 0, 0),
  (144, (.istore 5), 2, 0, 0),
  (146, (.iload 5), 2, 0, 0),
  (148, (.aload_n 0), 1, 0, 0),
  (149, (.getfield 304), 3, 9, 35),
  (152, (.if_icmp .ge 62), 3, 214, 0),
  (155, (.iconst 0), 1, 0, 0),
  (156, (.istore 6), 2, 0, 0),
  (158, (.iload 6), 2, 0, 0),
  (160, (.aload_n 0), 1, 0, 0),
  (161, (.iload_n 1), 1, 0, 0),
  (162, (.invokevirtual 344), 3, 208, 2),
  (165, (.if_icmp .ge 43), 3, 208, 0),
  (168, (.aload_n 0), 1, 0, 0),
  (169, (.getfield 93), 3, 9, 45),
  (172, (.sipush 256), 3, 0, 0),
  (175, (.iload 5), 2, 0, 0),
  (177, .imul, 1, 0, 0),
  (178, (.aload_n 0), 1, 0, 0),
  (179, (.getfield 310), 3, 9, 37),
  (182, (.iload_n 1), 1, 0, 0),
  (183, .imul, 1, 0, 0),
  (184, .iadd, 1, 0, 0),
  (185, (.iload 6), 2, 0, 0),
  (187, .iadd, 1, 0, 0),
  (188, (.aload_n 0), 1, 0, 0),
  (189, (.getfield 81), 3, 9, 41),
  (192, (.bipush 64), 2, 0, 0),
  (194, (.iload 5), 2, 0, 0),
  (196, .imul, 1, 0, 0),
  (197, (.iload 6), 2, 0, 0),
  (199, .iadd, 1, 0, 0),
  (200, .iaload, 1, 0, 0),
  (201, .iastore, 1, 0, 0),
  (202, (.iinc 6 1), 3, 0, 0),
  (205, (.goto (-47)), 3, 158, 0),
  (208, (.iinc 5 1), 3, 0, 0),
  (211, (.goto (-65)), 3, 146, 0),
  (214, (.iload 4), 2, 0, 0),
  (216, (.iload_n 3), 1, 0, 0),
  (217, .iadd, 1, 0, 0),
  (218, (.istore_n 2), 1, 0, 0),
  (219, (.iinc 1 1), 3, 0, 0),
  (222, (.goto (-165)), 3, 57, 0),
  (225, (.iconst 1), 1, 0, 0),
  (226, .ireturn, 1, 0, 0)]
theorem mm_ck210 : mm_c210.all (mm_ckE 9 prog_11_method_88_code) = true := by decide +kernel
def mm_c211 : List (Nat × mm_E) := [
  (0, (.aload_n 0), 1, 0, 0),
  (1, (.iconst 0), 1, 0, 0),
  (2, (.putfield 96), 3, 9, 16),
  (5, (.aload_n 0), 1, 0, 0),
  (6, (.invokevirtual 357), 3, 210, 1),
  (9, (.ifCond .ne 5), 3, 14, 0),
  (12, (.iconst (-1)), 1, 0, 0),
  (13, .ireturn, 1, 0, 0),
  (14, (.iconst 0), 1, 0, 0),
  (15, (.istore_n 1), 1, 0, 0),
  (16, (.iconst 0), 1, 0, 0),
  (17, (.istore_n 2), 1, 0, 0),
  (18, (.iload_n 2), 1, 0, 0),
  (19, (.bipush 16), 2, 0, 0),
  (21, (.if_icmp .ge 24), 3, 45, 0),
  (24, (.aload_n 0), 1, 0, 0),
  (25, (.getfield 87), 3, 9, 43),
  (28, (.iload_n 2), 1, 0, 0),
  (29, .iaload, 1, 0, 0),
  (30, (.ifCond .lt 9), 3, 39, 0),
  (33, (.iload_n 1), 1, 0, 0),
  (34, (.iconst 1), 1, 0, 0),
  (35, (.iload_n 2), 1, 0, 0),
  (36, .ishl, 1, 0, 0),
  (37, .ior, 1, 0, 0),
  (38, (.istore_n 1), 1, 0, 0),
  (39, (.iinc 2 1), 3, 0, 0),
  (42, (.goto (-24)), 3, 18, 0),
  (45, (.iload_n 1), 1, 0, 0),
  (46, .ireturn, 1, 0, 0)]
theorem mm_ck211 : mm_c211.all (mm_ckE 9 prog_11_method_89_code) = true := by decide +kernel
def mm_c212 : List (Nat × mm_E) := [
  (0, (.aload_n 0), 1, 0, 0),
  (1, (.iconst 0), 1, 0, 0),
  (2, (.putfield 96), 3, 9, 16),
  (5, (.iload_n 2), 1, 0, 0),
  (6, (.iconst 0), 1, 0, 0),
  (7, (.iconst 1), 1, 0, 0),
  (8, (.invokestatic 102), 3, 125, 3),
  (11, (.ifCond .eq 33), 3, 44, 0),
  (14, (.aload_n 0), 1, 0, 0),
  (15, (.invokevirtual 357), 3, 210, 1),
  (18, (.ifCond .eq 26), 3, 44, 0),
  (21, (.iload_n 1), 1, 0, 0),
  (22, (.iconst 0), 1, 0, 0),
  (23, (.aload_n 0), 1, 0, 0),
  (24, (.invokevirtual 341), 3, 200, 1),
  (27, (.iconst 1), 1, 0, 0),
  (28, .isub, 1, 0, 0),
  (29, (.invokestatic 102), 3, 125, 3),
  (32, (.ifCond .eq 12), 3, 44, 0),
  (35, (.aload_n 0), 1, 0, 0),
  (36, (.getfield 87), 3, 9, 43),
  (39, (.iload_n 1), 1, 0, 0),
  (40, .iaload, 1, 0, 0),
  (41, (.ifCond .ge 5), 3, 46, 0),
  (44, (.iconst (-1)), 1, 0, 0),
  (45, .ireturn, 1, 0, 0),
  (46, (.iload_n 2), 1, 0, 0),
  (47, (.ifCond .ne 12), 3, 59, 0),
  (50, (.aload_n 0), 1, 0, 0),
  (51, (.getfield 87), 3, 9, 43),
  (54, (.iload_n 1), 1, 0, 0),
  (55, .iaload, 1, 0, 0),
  (56, (.goto 9), 3, 65, 0),
  (59, (.aload_n 0), 1, 0, 0),
  (60, (.getfield 90), 3, 9, 44),
  (63, (.iload_n 1), 1, 0, 0),
  (64, .iaload, 1, 0, 0),
  (65, .ireturn, 1, 0, 0)]
theorem mm_ck212 : mm_c212.all (mm_ckE 9 prog_11_method_90_code) = true := by decide +kernel
def mm_c213 : List (Nat × mm_E) := [
  (0, (.aload_n 0), 1, 0, 0),
  (1, (.iconst 0), 1, 0, 0),
  (2, (.putfield 96), 3, 9, 16),
  (5, (.aload_n 0), 1, 0, 0),
  (6, (.invokevirtual 316), 3, 198, 1),
  (9, (.ifCond .ne 26), 3, 35, 0),
  (12, (.iload_n 1), 1, 0, 0),
  (13, (.iconst 0), 1, 0, 0),
  (14, (.aload_n 0), 1, 0, 0),
  (15, (.getfield 313), 3, 9, 38),
  (18, (.iconst 1), 1, 0, 0),
  (19, .isub, 1, 0, 0),
  (20, (.invokestatic 102), 3, 125, 3),
  (23, (.ifCond .eq 12), 3, 35, 0),
  (26, (.iload_n 1), 1, 0, 0),
  (27, (.aload_n 0), 1, 0, 0),
  (28, (.getfield 310), 3, 9, 37),
  (31, .idiv, 1, 0, 0),
  (32, (.goto 4), 3, 36, 0),
  (35, (.iconst (-1)), 1, 0, 0),
  (36, .ireturn, 1, 0, 0)]
theorem mm_ck213 : mm_c213.all (mm_ckE 9 prog_11_method_91_code) = true := by decide +kernel
def mm_c214 : List (Nat × mm_E) := [
  (0, (.aload_n 0), 1, 0, 0),
  (1, (.iconst 0), 1, 0, 0),
  (2, (.putfield 96), 3, 9, 16),
  (5, (.aload_n 0), 1, 0, 0),
  (6, (.invokevirtual 316), 3, 198, 1),
  (9, (.ifCond .ne 17), 3, 26, 0),
  (12, (.iload_n 1), 1, 0, 0),
  (13, (.iconst 0), 1, 0, 0),
  (14, (.aload_n 0), 1, 0, 0),
  (15, (.getfield 277), 3, 9, 15),
  (18, (.iconst 1), 1, 0, 0),
  (19, .isub, 1, 0, 0),
  (20, (.invokestatic 102), 3, 125, 3),
  (23, (.ifCond .ne 5), 3, 28, 0),
  (26, (.iconst (-1)), 1, 0, 0),
  (27, .ireturn, 1, 0, 0),
  (28, (.iload_n 1), 1, 0, 0),
  (29, (.istore_n 2), 1, 0, 0),
  (30, (.iload_n 2), 1, 0, 0),
  (31, (.aload_n 0), 1, 0, 0),
  (32, (.getfield 277), 3, 9, 15),
  (35, (.if_icmp .ge 20), 3, 55, 0),
  (38, (.aload_n 0), 1, 0, 0),
  (39, (.iload_n 2), 1, 0, 0),
  (40, (.iconst 0), 1, 0, 0),
  (41, (.invokevirtual 354), 3, 209, 3),
  (44, (.ifCond .lt 5), 3, 49, 0),
  (47, (.iload_n 2), 1, 0, 0),
  (48, .ireturn, 1, 0, 0),
  (49, (.iinc 2 1), 3, 0, 0),
  (52, (.goto (-22)), 3, 30, 0),
  (55, (.iconst (-1)), 1, 0, 0),
  (56, .ireturn, 1, 0, 0)]
theorem mm_ck214 : mm_c214.all (mm_ckE 9 prog_11_method_92_code) = true := by decide +kernel
def mm_c215 : List (Nat × mm_E) := [
  (0, (.aload_n 0), 1, 0, 0),
  (1, (.iconst 0), 1, 0, 0),
  (2, (.putfield 96), 3, 9, 16),
  (5, (.aload_n 0), 1, 0, 0),
  (6, (.invokevirtual 316), 3, 198, 1),
  (9, (.ifCond .ne 17), 3, 26, 0),
  (12, (.iload_n 1), 1, 0, 0),
  (13, (.iconst 0), 1, 0, 0),
  (14, (.aload_n 0), 1, 0, 0),
  (15, (.getfield 277), 3, 9, 15),
  (18, (.iconst 1), 1, 0, 0),
  (19, .isub, 1, 0, 0),
  (20, (.invokestatic 102), 3, 125, 3),
  (23, (.ifCond .ne 5), 3, 28, 0),
  (26, (.iconst (-1)), 1, 0, 0),
  (27, .ireturn, 1, 0, 0),
  (28, (.aload_n 0), 1, 0, 0),
  (29, (.iload_n 1), 1, 0, 0),
  (30, (.iconst 0), 1, 0, 0),
  (31, (.invokevirtual 354), 3, 209, 3),
  (34, (.ifCond .lt 14), 3, 48, 0),
  (37, (.aload_n 0), 1, 0, 0),
  (38, (.getfield 44), 3, 9, 14),
  (41, (.iload_n 1), 1, 0, 0),
  (42, (.iconst 1), 1, 0, 0),
  (43, .iadd, 1, 0, 0),
  (44, .iaload, 1, 0, 0),
  (45, (.goto 4), 3, 49, 0),
  (48, (.iconst (-1)), 1, 0, 0),
  (49, .ireturn, 1, 0, 0)]
theorem mm_ck215 : mm_c215.all (mm_ckE 9 prog_11_method_93_code) = true := by decide +kernel
def mm_c216 : List (Nat × mm_E) := [
  (0, (.aload_n 0), 1, 0, 0),
  (1, (.iconst 1), 1, 0, 0),
  (2, (.putfield 96), 3, 9, 16),
  (5, (.aload_n 0), 1, 0, 0),
  (6, (.invokevirtual 357), 3, 210, 1),
  (9, (.ifCond .eq 31), 3, 40, 0),
  (12, (.iload_n 1), 1, 0, 0),
  (13, (.iconst 0), 1, 0, 0),
  (14, (.aload_n 0), 1, 0, 0),
  (15, (.getfield 304), 3, 9, 35),
  (18, (.iconst 1), 1, 0, 0),
  (19, .isub, 1, 0, 0),
  (20, (.invokestatic 102), 3, 125, 3),
  (23, (.ifCond .eq 17), 3, 40, 0),
  (26, (.iload_n 2), 1, 0, 0),
  (27, (.iconst 0), 1, 0, 0),
  (28, (.aload_n 0), 1, 0, 0),
  (29, (.getfield 313), 3, 9, 38),
  (32, (.iconst 1), 1, 0, 0),
  (33, .isub, 1, 0, 0),
  (34, (.invokestatic 102), 3, 125, 3),
  (37, (.ifCond .ne 5), 3, 42, 0),
  (40, (.iconst 0), 1, 0, 0),
  (41, .ireturn, 1, 0, 0),
  (42, (.aload_n 0), 1, 0, 0),
  (43, (.iconst 0), 1, 0, 0),
  (44, (.putfield 96), 3, 9, 16),
  (47, (.aload_n 0), 1, 0, 0),
  (48, (.getfield 93), 3, 9, 45),
  (51, (.sipush 256), 3, 0, 0),
  (54, (.iload_n 1), 1, 0, 0),
  (55, .imul, 1, 0, 0),
  (56, (.iload_n 2), 1, 0, 0),
  (57, .iadd, 1, 0, 0),
  (58, .iaload, 1, 0, 0),
  (59, .ireturn, 1, 0, 0)]
theorem mm_ck216 : mm_c216.all (mm_ckE 9 prog_11_method_94_code) = true := by decide +kernel
def mm_c217 : List (Nat × mm_E) := [
  (0, (.aload_n 0), 1, 0, 0),
  (1, (.iconst 0), 1, 0, 0),
  (2, (.putfield 96), 3, 9, 16),
  (5, (.aload_n 0), 1, 0, 0),
  (6, (.invokevirtual 357), 3, 210, 1),
  (9, (.ifCond .ne 5), 3, 14, 0),
  (12, (.iconst (-1)), 1, 0, 0),
  (13, .ireturn, 1, 0, 0),
  (14, (.iconst 0), 1, 0, 0),
  (15, (.istore_n 1), 1, 0, 0),
  (16, (.iconst 0), 1, 0, 0),
  (17, (.istore_n 2), 1, 0, 0),
  (18, (.iload_n 2), 1, 0, 0),
  (19, (.aload_n 0), 1, 0, 0),
  (20, (.getfield 99), 3, 9, 4),
  (23, (.if_icmp .ge 73), 3, 96, 0),
  (26, (.iload_n 2), 1, 0, 0),
  (27, (.aload_n 0), 1, 0, 0),
  (28, (.getfield 304), 3, 9, 35),
  (31, (.if_icmp .ge 65), 3, 96, 0),
  (34, (.iconst 0), 1, 0, 0),
  (35, (.istore_n 3), 1, 0, 0),
  (36, (.iload_n 3), 1, 0, 0),
  (37, (.aload_n 0), 1, 0, 0),
  (38, (.getfield 16), 3, 9, 3),
  (41, (.iload_n 2), 1, 0, 0),
  (42, .iaload, 1, 0, 0),
  (43, (.if_icmp .ge 47), 3, 90, 0),
  (46, (.iload_n 3), 1, 0, 0),
  (47, (.aload_n 0), 1, 0, 0),
  (48, (.getfield 313), 3, 9, 38),
  (51, (.if_icmp .ge 39), 3, 90, 0),
  (54, (.aload_n 0), 1, 0, 0),
  (55, (.getfield 93), 3, 9, 45),
  (58, (.sipush 256), 3, 0, 0),
  (61, (.iload_n 2), 1, 0, 0),
  (62, .imul, 1, 0, 0),
  (63, (.iload_n 3), 1, 0, 0),
  (64, .iadd, 1, 0, 0),
  (65, .iaload, 1, 0, 0),
  (66, (.aload_n 0), 1, 0, 0),
  (67, (.getfield 13), 3, 9, 2),
  (70, (.sipush 256), 3, 0, 0),
  (73, (.iload_n 2), 1, 0, 0),
  (74, .imul, 1, 0, 0),
  (75, (.iload_n 3), 1, 0, 0),
  (76, .iadd, 1, 0, 0),
  (77, .iaload, 1, 0, 0),
  (78, (.if_icmp .ne 6), 3, 84, 0),
  (81, (.iinc 1 1), 3, 0, 0),
  (84, (.iinc 3 1), 3, 0, 0),
  (87, (.goto (-51)), 3, 36, 0),
  (90, (.iinc 2 1), 3, 0, 0),
  (93, (.goto (-75)), 3, 18, 0),
  (96, (.iload_n 1), 1, 0, 0),
  (97, .ireturn, 1, 0, 0)]
theorem mm_ck217 : mm_c217.all (mm_ckE 9 prog_11_method_95_code) = true := by decide +kernel
def mm_c218 : List (Nat × mm_E) := [
  (0, (.aload_n 0), 1, 0, 0),
  (1, (.iconst 0), 1, 0, 0),
  (2, (.putfield 96), 3, 9, 16),
  (5, (.aload_n 0), 1, 0, 0),
  (6, (.invokevirtual 154), 3, 146, 1),
  (9, (.ifCond .eq 12), 3, 21, 0),
  (12, (.aload_n 0), 1, 0, 0),
  (13, (.getfield 16), 3, 9, 3),
  (16, (.iconst 0), 1, 0, 0),
  (17, .iaload, 1, 0, 0),
  (18, (.ifCond .ne 5), 3, 23, 0),
  (21, (.iconst (-1)), 1, 0, 0),
  (22, .ireturn, 1, 0, 0),
  (23, (.aload_n 0), 1, 0, 0),
  (24, (.aload_n 0), 1, 0, 0),
  (25, (.getfield 26), 3, 9, 8),
  (28, (.invokevirtual 271), 3, 181, 2),
  (31, .i2f, 1, 0, 0),
  (32, (.aload_n 0), 1, 0, 0),
  (33, (.getfield 113), 3, 9, 5),
  (36, (.bipush 8), 2, 0, 0),
  (38, .idiv, 1, 0, 0),
  (39, (.aload_n 0), 1, 0, 0),
  (40, (.getfield 99), 3, 9, 4),
  (43, .imul, 1, 0, 0),
  (44, (.aload_n 0), 1, 0, 0),
  (45, (.getfield 16), 3, 9, 3),
  (48, (.iconst 0), 1, 0, 0),
  (49, .iaload, 1, 0, 0),
  (50, .imul, 1, 0, 0),
  (51, .i2f, 1, 0, 0),
  (52, .fdiv, 1, 0, 0),
  (53, (.invokestatic 265), 3, 223, 1),
  (56, .ireturn, 1, 0, 0)]
theorem mm_ck218 : mm_c218.all (mm_ckE 9 prog_11_method_96_code) = true := by decide +kernel
end
section
def mm_c219 : List (Nat × mm_E) := [
  (0, (.aload_n 0), 1, 0, 0),
  (1, (.iconst 1), 1, 0, 0),
  (2, (.putfield 96), 3, 9, 16),
  (5, (.aload_n 0), 1, 0, 0),
  (6, (.iload_n 1), 1, 0, 0),
  (7, (.invokevirtual 116), 3, 126, 2),
  (10, (.ifCond .eq 21), 3, 31, 0),
  (13, (.iload_n 2), 1, 0, 0),
  (14, (.iconst 0), 1, 0, 0),
  (15, (.iconst 1), 1, 0, 0),
  (16, (.invokestatic 102), 3, 125, 3),
  (19, (.ifCond .eq 12), 3, 31, 0),
  (22, (.aload_n 0), 1, 0, 0),
  (23, (.getfield 16), 3, 9, 3),
  (26, (.iload_n 1), 1, 0, 0),
  (27, .iaload, 1, 0, 0),
  (28, (.ifCond .ne 5), 3, 33, 0),
  (31, (.iconst 0), 1, 0, 0),
  (32, .ireturn, 1, 0, 0),
  (33, (.aload_n 0), 1, 0, 0),
  (34, (.iconst 0), 1, 0, 0),
  (35, (.putfield 96), 3, 9, 16),
  (38, (.lconst 0), 1, 0, 0),
  (39, (.lstore_n 3), 1, 0, 0),
  (40, (.iconst 0), 1, 0, 0),
  (41, (.istore 5), 2, 0, 0),
  (43, (.iload 5), 2, 0, 0),
  (45, (.aload_n 0), 1, 0, 0),
  (46, (.getfield 16), 3, 9, 3),
  (49, (.iload_n 1), 1, 0, 0),
  (50, .iaload, 1, 0, 0),
  (51, (.if_icmp .ge 41), 3, 92, 0),
  (54, (.lload_n 3), 1, 0, 0),
  (55, (.aload_n 0), 1, 0, 0),
  (56, (.getfield 13), 3, 9, 2),
  (59, (.sipush 256), 3, 0, 0),
  (62, (.iload_n 1), 1, 0, 0),
  (63, .imul, 1, 0, 0),
  (64, (.iload 5), 2, 0, 0),
  (66, .iadd, 1, 0, 0),
  (67, .iaload, 1, 0, 0),
  (68, .i2l, 1, 0, 0),
  (69, (.aload_n 0), 1, 0, 0),
  (70, (.getfield 13), 3, 9, 2),
  (73, (.sipush 256), 3, 0, 0),
  (76, (.iload_n 1), 1, 0, 0),
  (77, .imul, 1, 0, 0),
  (78, (.iload 5), 2, 0, 0),
  (80, .iadd, 1, 0, 0),
  (81, .iaload, 1, 0, 0),
  (82, .i2l, 1, 0, 0),
  (83, .lmul, 1, 0, 0),
  (84, .ladd, 1, 0, 0),
  (85, (.lstore_n 3), 1, 0, 0),
  (86, (.iinc 5 1), 3, 0, 0),
  (89, (.goto (-46)), 3, 43, 0),
  (92, (.lload_n 3), 1, 0, 0),
  (93, .l2d, 1, 0, 0),
  (94, (.aload_n 0), 1, 0, 0),
  (95, (.getfield 16), 3, 9, 3),
  (98, (.iload_n 1), 1, 0, 0),
  (99, .iaload, 1, 0, 0),
  (100, .i2d, 1, 0, 0),
  (101, .ddiv, 1, 0, 0),
  (102, (.invokestatic 360), 3, 221, 1),
  (105, (.lstore 5), 2, 0, 0),
  (107, (.iload_n 2), 1, 0, 0),
  (108, (.ifCond .ne 12), 3, 120, 0),
  (111, (.lload 5), 2, 0, 0),
  (113, (.bipush 32), 2, 0, 0),
  (115, .lshr, 1, 0, 0),
  (116, .l2i, 1, 0, 0),
  (117, (.goto 6), 3, 123, 0),
  (120, (.lload 5), 2, 0, 0),
  (122, .l2i, 1, 0, 0),
  (123, .ireturn, 1, 0, 0)]
theorem mm_ck219 : mm_c219.all (mm_ckE 9 prog_11_method_97_code) = true := by decide +kernel
def mm_c220 : List (Nat × mm_E) := [
  (0, (.aload_n 0), 1, 0, 0),
  (1, (.iconst 0), 1, 0, 0),
  (2, (.putfield 96), 3, 9, 16),
  (5, (.iload_n 1), 1, 0, 0),
  (6, (.tableswitch 126 0 10 #[58, 63, 68, 73, 78, 83, 83, 106, 111, 116, 121]), 58, 0, 0),
  (64, (.aload_n 0), 1, 0, 0),
  (65, (.getfield 99), 3, 9, 4),
  (68, .ireturn, 1, 0, 0),
  (69, (.aload_n 0), 1, 0, 0),
  (70, (.getfield 113), 3, 9, 5),
  (73, .ireturn, 1, 0, 0),
  (74, (.aload_n 0), 1, 0, 0),
  (75, (.getfield 19), 3, 9, 6),
  (78, .ireturn, 1, 0, 0),
  (79, (.aload_n 0), 1, 0, 0),
  (80, (.getfield 23), 3, 9, 7),
  (83, .ireturn, 1, 0, 0),
  (84, (.aload_n 0), 1, 0, 0),
  (85, (.getfield 26), 3, 9, 8),
  (88, .ireturn, 1, 0, 0),
  (89, (.aload_n 0), 1, 0, 0),
  (90, (.iload_n 1), 1, 0, 0),
  (91, (.iconst 5), 1, 0, 0),
  (92, .isub, 1, 0, 0),
  (93, (.invokevirtual 116), 3, 126, 2),
  (96, (.ifCond .eq 14), 3, 110, 0),
  (99, (.aload_n 0), 1, 0, 0),
  (100, (.getfield 16), 3, 9, 3),
  (103, (.iload_n 1), 1, 0, 0),
  (104, (.iconst 5), 1, 0, 0),
  (105, .isub, 1, 0, 0),
  (106, .iaload, 1, 0, 0),
  (107, (.goto 4), 3, 111, 0),
  (110, (.iconst (-1)), 1, 0, 0),
  (111, .ireturn, 1, 0, 0),
  (112, (.aload_n 0), 1, 0, 0),
  (113, (.invokevirtual 158), 3, 147, 1),
  (116, .ireturn, 1, 0, 0),
  (117, (.aload_n 0), 1, 0, 0),
  (118, (.getfield 277), 3, 9, 15),
  (121, .ireturn, 1, 0, 0),
  (122, (.aload_n 0), 1, 0, 0),
  (123, (.getfield 106), 3, 9, 1),
  (126, .ireturn, 1, 0, 0),
  (127, (.aload_n 0), 1, 0, 0),
  (128, (.getfield 29), 3, 9, 9),
  (131, .ireturn, 1, 0, 0),
  (132, (.iconst (-1)), 1, 0, 0),
  (133, .ireturn, 1, 0, 0)]
theorem mm_ck220 : mm_c220.all (mm_ckE 9 prog_11_method_98_code) = true := by decide +kernel
def mm_c221 : List (Nat × mm_E) := [
  (0, (.dload_n 0), 1, 0, 0),
  (1, (.invokestatic 122), 3, 222, 1),
  (4, (.ifCond .ne 8), 3, 12, 0),
  (7, (.dload_n 0), 1, 0, 0),
  (8, (.invokestatic 134), 3, 1003, 0),
  (11, .lreturn, 1, 0, 0),
  (12, (.ldc2_w 137), 3, 9221120237041090560, 0),
  (15, .lreturn, 1, 0, 0)]
theorem mm_ck221 : mm_c221.all (mm_ckE 12 prog_13_method_23_code) = true := by decide +kernel
def mm_c222 : List (Nat × mm_E) := [
  (0, (.dload_n 0), 1, 0, 0),
  (1, (.dload_n 0), 1, 0, 0),
  (2, (.dcmp .l), 1, 0, 0),
  (3, (.ifCond .eq 7), 3, 10, 0),
  (6, (.iconst 1), 1, 0, 0),
  (7, (.goto 4), 3, 11, 0),
  (10, (.iconst 0), 1, 0, 0),
  (11, .ireturn, 1, 0, 0)]
theorem mm_ck222 : mm_c222.all (mm_ckE 12 prog_13_method_6_code) = true := by decide +kernel
def mm_c223 : List (Nat × mm_E) := [
  (0, (.fload_n 0), 1, 0, 0),
  (1, (.invokestatic 59), 3, 224, 1),
  (4, (.ifCond .ne 8), 3, 12, 0),
  (7, (.fload_n 0), 1, 0, 0),
  (8, (.invokestatic 74), 3, 1002, 0),
  (11, .ireturn, 1, 0, 0),
  (12, (.ldc 77), 2, 2143289344, 0),
  (14, .ireturn, 1, 0, 0)]
theorem mm_ck223 : mm_c223.all (mm_ckE 11 prog_15_method_24_code) = true := by decide +kernel
def mm_c224 : List (Nat × mm_E) := [
  (0, (.fload_n 0), 1, 0, 0),
  (1, (.fload_n 0), 1, 0, 0),
  (2, (.fcmp .l), 1, 0, 0),
  (3, (.ifCond .eq 7), 3, 10, 0),
  (6, (.iconst 1), 1, 0, 0),
  (7, (.goto 4), 3, 11, 0),
  (10, (.iconst 0), 1, 0, 0),
  (11, .ireturn, 1, 0, 0)]
theorem mm_ck224 : mm_c224.all (mm_ckE 11 prog_15_method_6_code) = true := by decide +kernel
def mm_c225 : List (Nat × mm_E) := [
  (0, (.iload_n 0), 1, 0, 0),
  (1, (.iload_n 1), 1, 0, 0),
  (2, (.if_icmp .lt 7), 3, 9, 0),
  (5, (.iload_n 0), 1, 0, 0),
  (6, (.goto 4), 3, 10, 0),
  (9, (.iload_n 1), 1, 0, 0),
  (10, .ireturn, 1, 0, 0)]
theorem mm_ck225 : mm_c225.all (mm_ckE 10 prog_17_method_65_code) = true := by decide +kernel
def mm_c226 : List (Nat × mm_E) := [
  (0, (.iload_n 0), 1, 0, 0),
  (1, (.iload_n 1), 1, 0, 0),
  (2, (.if_icmp .gt 7), 3, 9, 0),
  (5, (.iload_n 0), 1, 0, 0),
  (6, (.goto 4), 3, 10, 0),
  (9, (.iload_n 1), 1, 0, 0),
  (10, .ireturn, 1, 0, 0)]
theorem mm_ck226 : mm_c226.all (mm_ckE 10 prog_17_method_69_code) = true := by decide +kernel
def mm_cz0 : List (List (Nat × mm_E)) := [mm_c0, mm_c1, mm_c2, mm_c3, mm_c4, mm_c5, mm_c6, mm_c7, mm_c8, mm_c9, mm_c10, mm_c11, mm_c12, mm_c13, mm_c14, mm_c15, mm_c16, mm_c17, mm_c18, mm_c19, mm_c20, mm_c21, mm_c22, mm_c23, mm_c24, mm_c25, mm_c26, mm_c27, mm_c28, mm_c29, mm_c30, mm_c31]
def mm_cz1 : List (List (Nat × mm_E)) := [mm_c32, mm_c33, mm_c34, mm_c35, mm_c36, mm_c37, mm_c38, mm_c39, mm_c40, mm_c41, mm_c42, mm_c43, mm_c44, mm_c45, mm_c46, mm_c47, mm_c48, mm_c49, mm_c50, mm_c51, mm_c52, mm_c53, mm_c54, mm_c55, mm_c56, mm_c57, mm_c58, mm_c59, mm_c60, mm_c61, mm_c62, mm_c63]
def mm_cz2 : List (List (Nat × mm_E)) := [mm_c64, mm_c65, mm_c66, mm_c67, mm_c68, mm_c69, mm_c70, mm_c71, mm_c72, mm_c73, mm_c74, mm_c75, mm_c76, mm_c77, mm_c78, mm_c79, mm_c80, mm_c81, mm_c82, mm_c83, mm_c84, mm_c85, mm_c86, mm_c87, mm_c88, mm_c89, mm_c90, mm_c91, mm_c92, mm_c93, mm_c94, mm_c95]
def mm_cz3 : List (List (Nat × mm_E)) := [mm_c96, mm_c97, mm_c98, mm_c99, mm_c100, mm_c101, mm_c102, mm_c103, mm_c104, mm_c105, mm_c106, mm_c107, mm_c108, mm_c109, mm_c110, mm_c111, mm_c112, mm_c113, mm_c114, mm_c115, mm_c116, mm_c117, mm_c118, mm_c119, mm_c120, mm_c121, mm_c122, mm_c123, mm_c124, mm_c125, mm_c126, mm_c127]
def mm_cz4 : List (List (Nat × mm_E)) := [mm_c128, mm_c129, mm_c130, mm_c131, mm_c132, mm_c133, mm_c134, mm_c135, mm_c136, mm_c137, mm_c138, mm_c139, mm_c140, mm_c141, mm_c142, mm_c143, mm_c144, mm_c145, mm_c146, mm_c147, mm_c148, mm_c149, mm_c150, mm_c151, mm_c152, mm_c153, mm_c154, mm_c155, mm_c156, mm_c157, mm_c158, mm_c159]
def mm_cz5 : List (List (Nat × mm_E)) := [mm_c160, mm_c161, mm_c162, mm_c163, mm_c164, mm_c165, mm_c166, mm_c167, mm_c168, mm_c169, mm_c170, mm_c171, mm_c172, mm_c173, mm_c174, mm_c175, mm_c176, mm_c177, mm_c178, mm_c179, mm_c180, mm_c181, mm_c182, mm_c183, mm_c184, mm_c185, mm_c186, mm_c187, mm_c188, mm_c189, mm_c190, mm_c191]
def mm_cz6 : List (List (Nat × mm_E)) := [mm_c192, mm_c193, mm_c194, mm_c195, mm_c196, mm_c197, mm_c198, mm_c199, mm_c200, mm_c201, mm_c202, mm_c203, mm_c204, mm_c205, mm_c206, mm_c207, mm_c208, mm_c209, mm_c210, mm_c211, mm_c212, mm_c213, mm_c214, mm_c215, mm_c216, mm_c217, mm_c218, mm_c219, mm_c220, mm_c221, mm_c222, mm_c223]
def mm_cz7 : List (List (Nat × mm_E)) := [mm_c224, mm_c225, mm_c226]
def mm_czs : List (List (List (Nat × mm_E))) := [mm_cz0, mm_cz1, mm_cz2, mm_cz3, mm_cz4, mm_cz5, mm_cz6, mm_cz7]
def mm_ok2 : List (List (Nat × mm_E)) → List mm_MT → Prop
  | c :: cs, t :: ts => c.all (mm_ckE t.2.2.2.2.2.1 t.2.1) = true ∧ mm_ok2 cs ts
  | [], _ => True
  | _ :: _, [] => False
theorem mm_ok2_0 : mm_ok2 mm_cz0 mm_mt0 := ⟨mm_ck0, mm_ck1, mm_ck2, mm_ck3, mm_ck4, mm_ck5, mm_ck6, mm_ck7, mm_ck8, mm_ck9, mm_ck10, mm_ck11, mm_ck12, mm_ck13, mm_ck14, mm_ck15, mm_ck16, mm_ck17, mm_ck18, mm_ck19, mm_ck20, mm_ck21, mm_ck22, mm_ck23, mm_ck24, mm_ck25, mm_ck26, mm_ck27, mm_ck28, mm_ck29, mm_ck30, mm_ck31, trivial⟩
theorem mm_ok2_1 : mm_ok2 mm_cz1 mm_mt1 := ⟨mm_ck32, mm_ck33, mm_ck34, mm_ck35, mm_ck36, mm_ck37, mm_ck38, mm_ck39, mm_ck40, mm_ck41, mm_ck42, mm_ck43, mm_ck44, mm_ck45, mm_ck46, mm_ck47, mm_ck48, mm_ck49, mm_ck50, mm_ck51, mm_ck52, mm_ck53, mm_ck54, mm_ck55, mm_ck56, mm_ck57, mm_ck58, mm_ck59, mm_ck60, mm_ck61, mm_ck62, mm_ck63, trivial⟩
theorem mm_ok2_2 : mm_ok2 mm_cz2 mm_mt2 := ⟨mm_ck64, mm_ck65, mm_ck66, mm_ck67, mm_ck68, mm_ck69, mm_ck70, mm_ck71, mm_ck72, mm_ck73, mm_ck74, mm_ck75, mm_ck76, mm_ck77, mm_ck78, mm_ck79, mm_ck80, mm_ck81, mm_ck82, mm_ck83, mm_ck84, mm_ck85, mm_ck86, mm_ck87, mm_ck88, mm_ck89, mm_ck90, mm_ck91, mm_ck92, mm_ck93, mm_ck94, mm_ck95, trivial⟩
theorem mm_ok2_3 : mm_ok2 mm_cz3 mm_mt3 := ⟨mm_ck96, mm_ck97, mm_ck98, mm_ck99, mm_ck100, mm_ck101, mm_ck102, mm_ck103, mm_ck104, mm_ck105, mm_ck106, mm_ck107, mm_ck108, mm_ck109, mm_ck110, mm_ck111, mm_ck112, mm_ck113, mm_ck114, mm_ck115, mm_ck116, mm_ck117, mm_ck118, mm_ck119, mm_ck120, mm_ck121, mm_ck122, mm_ck123, mm_ck124, mm_ck125, mm_ck126, mm_ck127, trivial⟩
theorem mm_ok2_4 : mm_ok2 mm_cz4 mm_mt4 := ⟨mm_ck128, mm_ck129, mm_ck130, mm_ck131, mm_ck132, mm_ck133, mm_ck134, mm_ck135, mm_ck136, mm_ck137, mm_ck138, mm_ck139, mm_ck140, mm_ck141, mm_ck142, mm_ck143, mm_ck144, mm_ck145, mm_ck146, mm_ck147, mm_ck148, mm_ck149, mm_ck150, mm_ck151, mm_ck152, mm_ck153, mm_ck154, mm_ck155, mm_ck156, mm_ck157, mm_ck158, mm_ck159, trivial⟩
theorem mm_ok2_5 : mm_ok2 mm_cz5 mm_mt5 := ⟨mm_ck160, mm_ck161, mm_ck162, mm_ck163, mm_ck164, mm_ck165, mm_ck166, mm_ck167, mm_ck168, mm_ck169, mm_ck170, mm_ck171, mm_ck172, mm_ck173, mm_ck174, mm_ck175, mm_ck176, mm_ck177, mm_ck178, mm_ck179, mm_ck180, mm_ck181, mm_ck182, mm_ck183, mm_ck184, mm_ck185, mm_ck186, mm_ck187, mm_ck188, mm_ck189, mm_ck190, mm_ck191, trivial⟩
theorem mm_ok2_6 : mm_ok2 mm_cz6 mm_mt6 := ⟨mm_ck192, mm_ck193, mm_ck194, mm_ck195, mm_ck196, mm_ck197, mm_ck198, mm_ck199, mm_ck200, mm_ck201, mm_ck202, mm_ck203, mm_ck204, mm_ck205, mm_ck206, mm_ck207, mm_ck208, mm_ck209, mm_ck210, mm_ck211, mm_ck212, mm_ck213, mm_ck214, mm_ck215, mm_ck216, mm_ck217, mm_ck218, mm_ck219, mm_ck220, mm_ck221, mm_ck222, mm_ck223, trivial⟩
theorem mm_ok2_7 : mm_ok2 mm_cz7 mm_mt7 := ⟨mm_ck224, mm_ck225, mm_ck226, trivial⟩
end
section
abbrev mm_Ls : Type := List (Option Value)
abbrev mm_Ly : Type := Nat × Nat × (Nat → Nat) × (Nat → Nat) × (Nat → Nat → Option Nat)
abbrev mm_I : Type := Nat → Nat → Int32
abbrev mm_H : Type := mm_Ly × mm_I
abbrev mm_S : Type := Nat × mm_Ls × List Value × mm_H
def mm_n (h : mm_H) : Nat := h.1.1
def mm_sl (h : mm_H) : Nat := h.1.2.1
def mm_K (h : mm_H) (a : Nat) : Nat := h.1.2.2.1 a
def mm_L (h : mm_H) (a : Nat) : Nat := h.1.2.2.2.1 a
def mm_R (h : mm_H) (a k : Nat) : Option Nat := h.1.2.2.2.2 a k
def mm_G (h : mm_H) (a k : Nat) : Int32 := h.2 a k
def mm_up (I : mm_I) (a i : Nat) (v : Int32) : mm_I := fun b j => bif (Nat.beq b a && Nat.beq j i) then v else I b j
def mm_find : List (Nat × mm_E) → Nat → Option mm_E
  | [], _ => none
  | e :: l, pc => bif Nat.beq e.1 pc then some e.2 else mm_find l pc
def mm_lst (k : Nat) : List (Nat × mm_E) := mm_nth [] (mm_nth [] mm_czs (k / 32)) (k % 32)
def mm_cod (k pc : Nat) : Option mm_E := mm_find (mm_lst k) pc
def mm_ft (c s : Nat) : Nat := match mm_ty c s with
  | .int => 0
  | .boolean => 1
  | .object _ => 2
  | .array _ => 2
  | _ => 9
def mm_rk (o : Option FieldType) : Nat := match o with
  | none => 0
  | some .int => 1
  | some .boolean => 2
  | some .float => 3
  | some .long => 4
  | some .double => 5
  | some (.object _) => 6
  | some (.array _) => 6
  | _ => 9
def mm_ld (ls : mm_Ls) (i : Nat) : Option Value := mm_nth none ls i
def mm_clr (ls : mm_Ls) (i : Nat) : mm_Ls := match i with
  | 0 => ls
  | j + 1 => match mm_ld ls j with
    | some v => bif Nat.beq v.category 2 then ls.set j none else ls
    | none => ls
def mm_s1 (ls : mm_Ls) (i : Nat) (v : Value) : mm_Ls := (mm_clr ls i).set i (some v)
def mm_s2 (ls : mm_Ls) (i : Nat) (v : Value) : mm_Ls := ((mm_clr ls i).set i (some v)).set (i + 1) none
def mm_ent0 : List Value → mm_Ls
  | [] => []
  | v :: l => bif Nat.beq v.category 2 then some v :: none :: mm_ent0 l else some v :: mm_ent0 l
def mm_ent (n : Nat) (vs : List Value) : mm_Ls := mm_ent0 vs ++ List.replicate (n - (mm_ent0 vs).length) none
/-- simple instructions -/
def mm_psh (n : Nat) (ls : mm_Ls) (st : List Value) (h : mm_H) (v : Value) : Option mm_S := some (n, ls, v :: st, h)
def mm_i2 (f : Int32 → Int32 → Int32) (n : Nat) (ls : mm_Ls) (st : List Value) (h : mm_H) : Option mm_S := match st with
  | .int y :: .int x :: r => some (n, ls, .int (f x y) :: r, h)
  | _ => none
def mm_i1 (f : Int32 → Value) (n : Nat) (ls : mm_Ls) (st : List Value) (h : mm_H) : Option mm_S := match st with
  | .int x :: r => some (n, ls, f x :: r, h)
  | _ => none
def mm_l2 (f : Int64 → Int64 → Value) (n : Nat) (ls : mm_Ls) (st : List Value) (h : mm_H) : Option mm_S := match st with
  | .long y :: .long x :: r => some (n, ls, f x y :: r, h)
  | _ => none
def mm_l1 (f : Int64 → Value) (n : Nat) (ls : mm_Ls) (st : List Value) (h : mm_H) : Option mm_S := match st with
  | .long x :: r => some (n, ls, f x :: r, h)
  | _ => none
def mm_li (f : Int64 → Int32 → Int64) (n : Nat) (ls : mm_Ls) (st : List Value) (h : mm_H) : Option mm_S := match st with
  | .int y :: .long x :: r => some (n, ls, .long (f x y) :: r, h)
  | _ => none
def mm_dv (f : Int32 → Int32 → Int32) (n : Nat) (ls : mm_Ls) (st : List Value) (h : mm_H) : Option mm_S := match st with
  | .int y :: .int x :: r => if y = 0 then none else some (n, ls, .int (f x y) :: r, h)
  | _ => none
def mm_f2 (f : UInt32 → UInt32 → UInt32) (n : Nat) (ls : mm_Ls) (st : List Value) (h : mm_H) : Option mm_S := match st with
  | .float y :: .float x :: r => if f x y &&& 0x7fffffff ≤ 0x7f800000 then some (n, ls, .float (f x y) :: r, h) else none
  | _ => none
def mm_d2 (f : UInt64 → UInt64 → UInt64) (n : Nat) (ls : mm_Ls) (st : List Value) (h : mm_H) : Option mm_S := match st with
  | .double y :: .double x :: r => if f x y &&& 0x7fffffffffffffff ≤ 0x7ff0000000000000 then some (n, ls, .double (f x y) :: r, h) else none
  | _ => none
def mm_ldv (t : Value → Bool) (n : Nat) (ls : mm_Ls) (st : List Value) (h : mm_H) (i : Nat) : Option mm_S := match mm_ld ls i with
  | some v => bif t v then some (n, ls, v :: st, h) else none
  | none => none
def mm_isI (v : Value) : Bool := match v with | .int _ => true | _ => false
def mm_isL (v : Value) : Bool := match v with | .long _ => true | _ => false
def mm_isF (v : Value) : Bool := match v with | .float _ => true | _ => false
def mm_isD (v : Value) : Bool := match v with | .double _ => true | _ => false
def mm_isA (v : Value) : Bool := match v with | .ref _ => true | .null => true | _ => false
def mm_stv (t : Value → Bool) (w : Nat) (n : Nat) (ls : mm_Ls) (st : List Value) (h : mm_H) (i : Nat) : Option mm_S := match st with
  | v :: r => bif (t v && Nat.ble (i + w) ls.length) then some (n, (bif Nat.beq w 2 then mm_s2 ls i v else mm_s1 ls i v), r, h) else none
  | [] => none
def mm_cI (c : ClassFile.Cond) (x y : Int32) : Bool := match c with
  | .eq => decide (x = y)
  | .ne => decide (¬ x = y)
  | .lt => decide (x < y)
  | .ge => decide (y ≤ x)
  | .gt => decide (y < x)
  | .le => decide (x ≤ y)
def mm_sw (pc : Nat) (d lo hi : Int) (offs : Array Int) (x : Int32) : Option Nat :=
  if x.toInt < lo ∨ hi < x.toInt then (if (pc : Int) + d < 0 then none else some ((pc : Int) + d).toNat)
  else match offs[(x.toInt - lo).toNat]? with
    | some o => if (pc : Int) + o < 0 then none else some ((pc : Int) + o).toNat
    | none => none
def mm_fix (i : Nat) : Int32 := mm_nth 0 [0, 0, 0, 0, 1, 0, 0, 0, 2, -1, 0, 0, 3, -3, 1, 0, 4, -6, 4, -1] i
def mm_inb (i : Int32) (n : Nat) : Bool := decide (¬ (i < 0 ∨ n ≤ i.toNatClampNeg))
def mm_aid (h : mm_H) (a c : Nat) : Bool := Nat.blt a (mm_n h) && Nat.beq (mm_K h a) c
def mm_fv (h : mm_H) (c a s : Nat) : Value := bif Nat.beq (mm_ft c s) 2 then va_rf (mm_R h a s) else .int (mm_G h a s)
def mm_gf (c s n : Nat) (ls : mm_Ls) (st : List Value) (h : mm_H) : Option mm_S := match st with
  | .ref a :: r => bif mm_aid h a c then some (n, ls, mm_fv h c a s :: r, h) else none
  | _ => none
def mm_fin (c s : Nat) : Bool := (mm_T c s).2.2.2
def mm_sR (h : mm_H) (a s : Nat) (v : Option Nat) : mm_H := ((h.1.1, h.1.2.1, h.1.2.2.1, h.1.2.2.2.1, fun b j => bif (Nat.beq b a && Nat.beq j s) then v else h.1.2.2.2.2 b j), h.2)
def mm_pf (k c s n : Nat) (ls : mm_Ls) (st : List Value) (h : mm_H) : Option mm_S := match st with
  | v :: .ref a :: r => bif (mm_aid h a c && (!(mm_fin c s) || (Nat.beq (mm_md k) 2 && Nat.beq (mm_c k) c))) then
      (match v with
        | .int x => bif Nat.beq (mm_ft c s) 0 then some (n, ls, r, (h.1, mm_up h.2 a s x)) else bif (Nat.beq (mm_ft c s) 1 && (x == 0 || x == 1)) then some (n, ls, r, (h.1, mm_up h.2 a s x)) else none
        | .ref b => bif (Nat.beq (mm_ft c s) 2 && Nat.blt b (mm_n h)) then some (n, ls, r, mm_sR h a s (some b)) else none
        | _ => none)
    else none
  | _ => none
def mm_al (c n : Nat) (ls : mm_Ls) (st : List Value) (h : mm_H) : Option mm_S := match st with
  | .int i :: .ref a :: r => bif (Nat.beq c 100 && Nat.beq a 5000) then (bif mm_inb i 20 then some (n, ls, .int (mm_fix i.toNatClampNeg) :: r, h) else none)
      else bif (mm_aid h a c && mm_inb i (mm_L h a)) then some (n, ls, .int (mm_G h a i.toNatClampNeg) :: r, h) else none
  | _ => none
def mm_as (c n : Nat) (ls : mm_Ls) (st : List Value) (h : mm_H) : Option mm_S := match st with
  | .int x :: .int i :: .ref a :: r => bif (mm_aid h a c && mm_inb i (mm_L h a) && (Nat.beq c 100 || (x == 0 || x == 1))) then some (n, ls, r, (h.1, mm_up h.2 a i.toNatClampNeg x)) else none
  | _ => none
def mm_len (n : Nat) (ls : mm_Ls) (st : List Value) (h : mm_H) : Option mm_S := match st with
  | .ref a :: r => bif mm_aid h a 100 then some (n, ls, .int (Int32.ofNat (mm_L h a)) :: r, h) else none
  | _ => none
def mm_add (h : mm_H) (c s : Nat) : mm_H := ((h.1.1 + 1, h.1.2.1 + s, (fun b => bif Nat.beq b h.1.1 then c else h.1.2.2.1 b), (fun b => bif Nat.beq b h.1.1 then s else h.1.2.2.2.1 b), fun b j => bif Nat.beq b h.1.1 then none else h.1.2.2.2.2 b j), fun b j => bif Nat.beq b h.1.1 then 0 else h.2 b j)
def mm_nw1 (ng : Bool) (c s n : Nat) (ls : mm_Ls) (st : List Value) (h : mm_H) : Option mm_S := bif (ng && Nat.blt (mm_n h) 4000) then some (n, ls, .ref (mm_n h) :: st, mm_add h c s) else none
def mm_nwa (ng : Bool) (c n : Nat) (ls : mm_Ls) (st : List Value) (h : mm_H) : Option mm_S := match st with
  | .int x :: r => bif (ng && Nat.blt (mm_n h) 4000 && mm_inb x 10000) then some (n, ls, .ref (mm_n h) :: r, mm_add h c x.toNatClampNeg) else none
  | _ => none
def mm_bi (c : Int32 → Bool) (t n : Nat) (ls : mm_Ls) (st : List Value) (h : mm_H) : Option mm_S := match st with
  | .int x :: r => some ((bif c x then t else n), ls, r, h)
  | _ => none
def mm_bi2 (c : Int32 → Int32 → Bool) (t n : Nat) (ls : mm_Ls) (st : List Value) (h : mm_H) : Option mm_S := match st with
  | .int y :: .int x :: r => some ((bif c x y then t else n), ls, r, h)
  | _ => none
def mm_bn (nl : Bool) (t n : Nat) (ls : mm_Ls) (st : List Value) (h : mm_H) : Option mm_S := match st with
  | .null :: r => some ((bif nl then t else n), ls, r, h)
  | .ref _ :: r => some ((bif nl then n else t), ls, r, h)
  | _ => none
def mm_ins (ng : Bool) (k pc : Nat) (ins : Instr) (len p q : Nat) (ls : mm_Ls) (st : List Value) (h : mm_H) : Option mm_S := match ins with
  | .iconst n => mm_psh (pc + 1) ls st h (.int (Int32.ofInt n))
  | .bipush n => mm_psh (pc + 2) ls st h (.int (Int8.ofInt n).toInt32)
  | .sipush n => mm_psh (pc + 3) ls st h (.int (Int16.ofInt n).toInt32)
  | .lconst n => mm_psh (pc + 1) ls st h (.long (Int64.ofNat (n : Nat)))
  | .fconst n => mm_psh (pc + 1) ls st h (.float (bif Nat.beq n.val 0 then FP.fconst0 else bif Nat.beq n.val 1 then FP.fconst1 else FP.fconst2))
  | .dconst n => mm_psh (pc + 1) ls st h (.double (bif Nat.beq n.val 0 then FP.dconst0 else FP.dconst1))
  | .aconst_null => mm_psh (pc + 1) ls st h .null
  | .ldc _ => bif Nat.beq q 0 then mm_psh (pc + 2) ls st h (.int (Int32.ofNat p)) else mm_psh (pc + 2) ls st h (.float (UInt32.ofNat p))
  | .ldc_w _ => bif Nat.beq q 0 then mm_psh (pc + 3) ls st h (.int (Int32.ofNat p)) else mm_psh (pc + 3) ls st h (.float (UInt32.ofNat p))
  | .ldc2_w _ => bif Nat.beq q 0 then mm_psh (pc + 3) ls st h (.long (Int64.ofNat p)) else mm_psh (pc + 3) ls st h (.double (UInt64.ofNat p))
  | .iload i => mm_ldv mm_isI (pc + 2) ls st h i
  | .iload_n i => mm_ldv mm_isI (pc + 1) ls st h i.val
  | .lload i => mm_ldv mm_isL (pc + 2) ls st h i
  | .lload_n i => mm_ldv mm_isL (pc + 1) ls st h i.val
  | .fload i => mm_ldv mm_isF (pc + 2) ls st h i
  | .fload_n i => mm_ldv mm_isF (pc + 1) ls st h i.val
  | .dload i => mm_ldv mm_isD (pc + 2) ls st h i
  | .dload_n i => mm_ldv mm_isD (pc + 1) ls st h i.val
  | .aload i => mm_ldv mm_isA (pc + 2) ls st h i
  | .aload_n i => mm_ldv mm_isA (pc + 1) ls st h i.val
  | .istore i => mm_stv mm_isI 1 (pc + 2) ls st h i
  | .istore_n i => mm_stv mm_isI 1 (pc + 1) ls st h i.val
  | .lstore i => mm_stv mm_isL 2 (pc + 2) ls st h i
  | .lstore_n i => mm_stv mm_isL 2 (pc + 1) ls st h i.val
  | .fstore i => mm_stv mm_isF 1 (pc + 2) ls st h i
  | .fstore_n i => mm_stv mm_isF 1 (pc + 1) ls st h i.val
  | .dstore i => mm_stv mm_isD 2 (pc + 2) ls st h i
  | .dstore_n i => mm_stv mm_isD 2 (pc + 1) ls st h i.val
  | .astore i => mm_stv mm_isA 1 (pc + 2) ls st h i
  | .astore_n i => mm_stv mm_isA 1 (pc + 1) ls st h i.val
  | .iinc i c => bif Nat.beq len 3 then (match mm_ld ls i with
    | some (.int x) => some (pc + 3, mm_s1 ls i (.int (x + Int32.ofInt c)), st, h)
    | _ => none) else none
  | .iadd => mm_i2 (fun x y => x + y) (pc + 1) ls st h
  | .isub => mm_i2 (fun x y => x - y) (pc + 1) ls st h
  | .imul => mm_i2 (fun x y => x * y) (pc + 1) ls st h
  | .iand => mm_i2 (fun x y => x &&& y) (pc + 1) ls st h
  | .ior => mm_i2 (fun x y => x ||| y) (pc + 1) ls st h
  | .ixor => mm_i2 (fun x y => x ^^^ y) (pc + 1) ls st h
  | .ishl => mm_i2 (fun x y => x <<< (y &&& 31)) (pc + 1) ls st h
  | .ishr => mm_i2 (fun x y => x >>> (y &&& 31)) (pc + 1) ls st h
  | .iushr => mm_i2 (fun x y => (x.toUInt32 >>> (y.toUInt32 &&& Int32.toUInt32 31)).toInt32) (pc + 1) ls st h
  | .idiv => mm_dv (fun x y => x / y) (pc + 1) ls st h
  | .irem => mm_dv (fun x y => x - x / y * y) (pc + 1) ls st h
  | .ineg => mm_i1 (fun x => .int (-x)) (pc + 1) ls st h
  | .i2l => mm_i1 (fun x => .long x.toInt64) (pc + 1) ls st h
  | .i2b => mm_i1 (fun x => .int x.toInt8.toInt32) (pc + 1) ls st h
  | .i2f => mm_i1 (fun x => .float (FP.i2f x)) (pc + 1) ls st h
  | .i2d => mm_i1 (fun x => .double (FP.i2d x)) (pc + 1) ls st h
  | .l2i => mm_l1 (fun x => .int x.toInt32) (pc + 1) ls st h
  | .l2d => mm_l1 (fun x => .double (FP.l2d x)) (pc + 1) ls st h
  | .ladd => mm_l2 (fun x y => .long (x + y)) (pc + 1) ls st h
  | .lsub => mm_l2 (fun x y => .long (x - y)) (pc + 1) ls st h
  | .lmul => mm_l2 (fun x y => .long (x * y)) (pc + 1) ls st h
  | .land => mm_l2 (fun x y => .long (x &&& y)) (pc + 1) ls st h
  | .lor => mm_l2 (fun x y => .long (x ||| y)) (pc + 1) ls st h
  | .lcmp => mm_l2 (fun x y => .int (lg_cmp x y)) (pc + 1) ls st h
  | .lshl => mm_li (fun x y => x <<< (y.toInt64 &&& 63)) (pc + 1) ls st h
  | .lshr => mm_li (fun x y => x >>> (y.toInt64 &&& 63)) (pc + 1) ls st h
  | .lushr => mm_li (fun x y => (x.toUInt64 >>> (y.toInt64.toUInt64 &&& Int64.toUInt64 63)).toInt64) (pc + 1) ls st h
  | .fdiv => mm_f2 FP.fdiv (pc + 1) ls st h
  | .fmul => mm_f2 FP.fmul (pc + 1) ls st h
  | .fcmp o => (match st with
    | .float y :: .float x :: r => some (pc + 1, ls, .int (Op.cmpValue (FP.fcmp x y) o) :: r, h)
    | _ => none)
  | .f2i => (match st with
    | .float x :: r => some (pc + 1, ls, .int (FP.f2i x) :: r, h)
    | _ => none)
  | .ddiv => mm_d2 FP.ddiv (pc + 1) ls st h
  | .dmul => mm_d2 FP.dmul (pc + 1) ls st h
  | .dcmp o => (match st with
    | .double y :: .double x :: r => some (pc + 1, ls, .int (Op.cmpValue (FP.dcmp x y) o) :: r, h)
    | _ => none)
  | .d2l => (match st with
    | .double x :: r => some (pc + 1, ls, .long (FP.d2l x) :: r, h)
    | _ => none)
  | .dup => (match st with
    | v :: r => bif Nat.beq v.category 1 then some (pc + 1, ls, v :: v :: r, h) else none
    | _ => none)
  | .pop => (match st with
    | v :: r => bif Nat.beq v.category 1 then some (pc + 1, ls, r, h) else none
    | _ => none)
  | .dup2 => (match st with
    | v :: w :: r => bif (Nat.beq v.category 1 && Nat.beq w.category 1) then some (pc + 1, ls, v :: w :: v :: w :: r, h) else none
    | _ => none)
  | .goto _ => some (p, ls, st, h)
  | .ifCond c _ => mm_bi (fun x => mm_cI c x 0) p (pc + 3) ls st h
  | .if_icmp c _ => mm_bi2 (mm_cI c) p (pc + 3) ls st h
  | .ifnull _ => mm_bn true p (pc + 3) ls st h
  | .ifnonnull _ => mm_bn false p (pc + 3) ls st h
  | .tableswitch d lo hi offs => (match st with
    | .int x :: r => (match mm_sw pc d lo hi offs x with
      | some t => some (t, ls, r, h)
      | none => none)
    | _ => none)
  | .getfield _ => mm_gf p q (pc + 3) ls st h
  | .putfield _ => mm_pf k p q (pc + 3) ls st h
  | .getstatic _ => mm_psh (pc + 3) ls st h (.ref 5000)
  | .iaload => mm_al 100 (pc + 1) ls st h
  | .baload => mm_al 101 (pc + 1) ls st h
  | .iastore => mm_as 100 (pc + 1) ls st h
  | .bastore => mm_as 101 (pc + 1) ls st h
  | .arraylength => mm_len (pc + 1) ls st h
  | .new _ => mm_nw1 ng p q (pc + 3) ls st h
  | .newarray _ => mm_nwa ng p (pc + 2) ls st h
  | .invokespecial _ => (match st with
    | .ref _ :: r => bif (Nat.ble (r.map fun v => v.category).sum 8 && Nat.ble 1 (mm_dp k)) then some (pc + 3, ls, r, h) else none
    | _ => none)
  | .invokestatic _ => (match st with
    | .float x :: r => bif (Nat.beq p 1002 && Nat.ble (r.map fun v => v.category).sum 8 && Nat.ble 1 (mm_dp k)) then some (pc + 3, ls, .int x.toInt32 :: r, h) else none
    | .double x :: r => bif (Nat.beq p 1003 && Nat.ble (r.map fun v => v.category).sum 8 && Nat.ble 1 (mm_dp k)) then some (pc + 3, ls, .long x.toInt64 :: r, h) else none
    | _ => none)
  | _ => none
/-- 0: simple, 1: a call of a method of the table, 2: an end -/
def mm_knd (ins : Instr) (p : Nat) : Nat := match ins with
  | .ireturn => 2
  | .lreturn => 2
  | .freturn => 2
  | .dreturn => 2
  | .areturn => 2
  | .return_ => 2
  | .invokevirtual _ => 1
  | .invokestatic _ => bif Nat.blt p 1000 then 1 else 0
  | .invokespecial _ => bif Nat.blt p 1000 then 1 else bif Nat.beq p 1004 then 0 else 3
  | .new _ => bif Nat.blt p 100 then 0 else 2
  | _ => 0
def mm_call (k p q : Nat) (st : List Value) (h : mm_H) : Option (List Value × List Value) :=
  bif (Nat.ble q st.length && Nat.ble ((st.drop q).map fun v => v.category).sum 8 && Nat.blt (mm_dp p) (mm_dp k) && Nat.beq (mm_na p) q && Nat.ble (mm_ent0 (st.take q).reverse).length (mm_mL p)) then
    (bif Nat.beq (mm_md p) 0 then some ((st.take q).reverse, st.drop q) else match (st.take q).reverse with
      | .ref a :: _ => bif mm_aid h a (mm_c p) then some ((st.take q).reverse, st.drop q) else none
      | _ => none)
  else none
def mm_ret (k pc : Nat) (st : List Value) : Option (Option Value) := match mm_cod k pc with
  | none => none
  | some (ins, _, _, _) => match ins, st with
    | .return_, [] => bif Nat.beq (mm_rk (mm_rt k)) 0 then some none else none
    | .ireturn, [.int v] => bif Nat.beq (mm_rk (mm_rt k)) 1 then some (some (.int v)) else bif (Nat.beq (mm_rk (mm_rt k)) 2 && (v == 0 || v == 1)) then some (some (.int v)) else none
    | .freturn, [.float v] => bif Nat.beq (mm_rk (mm_rt k)) 3 then some (some (.float v)) else none
    | .lreturn, [.long v] => bif Nat.beq (mm_rk (mm_rt k)) 4 then some (some (.long v)) else none
    | .areturn, [.ref a] => bif Nat.beq (mm_rk (mm_rt k)) 6 then some (some (.ref a)) else none
    | .areturn, [.null] => bif Nat.beq (mm_rk (mm_rt k)) 6 then some (some .null) else none
    | _, _ => none
def mm_run (ng : Bool) : Nat → Nat → Nat → mm_Ls → List Value → mm_H → Option mm_S
  | 0, _, _, _, _, _ => none
  | f + 1, k, pc, ls, st, h => match mm_cod k pc with
    | none => none
    | some (ins, len, p, q) => match mm_knd ins p with
      | 0 => match mm_ins ng k pc ins len p q ls st h with
        | none => none
        | some (pc', ls', st', h') => mm_run ng f k pc' ls' st' h'
      | 1 => match mm_call k p q st h with
        | none => none
        | some (as, rest) => match mm_run ng f p 0 (mm_ent (mm_mL p) as) [] h with
          | none => none
          | some (pc', _, st', h') => match mm_ret p pc' st' with
            | none => none
            | some v => mm_run ng f k (pc + 3) ls (v.toList ++ rest) h'
      | 2 => some (pc, ls, st, h)
      | _ => none
end
section
def mm_ad (B t a : Nat) : Nat := bif Nat.beq a 5000 then t else B + a
def mm_rv (B t : Nat) (v : Value) : Value := match v with
  | .ref a => .ref (mm_ad B t a)
  | v => v
theorem mm_rv_cat (B t : Nat) (v : Value) : (mm_rv B t v).category = v.category := by cases v <;> rfl
theorem mm_nth_eq {α : Type} (d : α) (l : List α) (i : Nat) : mm_nth d l i = (l[i]?).getD d := by
  induction l generalizing i with
  | nil => rfl
  | cons x l ih =>
    cases i with
    | zero => rfl
    | succ i => simp [mm_nth, ih]
theorem mm_ld_iff (ls : mm_Ls) (i : Nat) (v : Value) : mm_ld ls i = some v ↔ ls[i]? = some (some v) := by
  unfold mm_ld
  rw [mm_nth_eq]
  cases h : ls[i]? with
  | none => simp
  | some x => simp
theorem mm_ld_lt {ls : mm_Ls} {i : Nat} {v : Value} (h : mm_ld ls i = some v) : i < ls.length := by
  rw [mm_ld_iff] at h
  exact (List.getElem?_eq_some_iff.mp h).1
theorem mm_ld_set {ls : mm_Ls} {i j : Nat} {x : Option Value} (hij : j ≠ i) : mm_ld (ls.set i x) j = mm_ld ls j := by
  unfold mm_ld
  rw [mm_nth_eq, mm_nth_eq, List.getElem?_set_ne (Ne.symm hij)]
theorem mm_ld_set_self {ls : mm_Ls} {i : Nat} {x : Option Value} (hi : i < ls.length) : mm_ld (ls.set i x) i = x := by
  unfold mm_ld
  rw [mm_nth_eq, List.getElem?_set_self hi]
  rfl
theorem mm_clr_len (ls : mm_Ls) (i : Nat) : (mm_clr ls i).length = ls.length := by
  unfold mm_clr
  cases i with
  | zero => rfl
  | succ j =>
    simp only
    cases mm_ld ls j with
    | none => rfl
    | some v =>
      simp only
      cases Nat.beq v.category 2 <;> simp
theorem mm_clr_ld {ls : mm_Ls} {i j : Nat} {w : Value} (h : mm_ld (mm_clr ls i) j = some w) : mm_ld ls j = some w ∧ ¬ (j + 1 = i ∧ w.category = 2) := by
  unfold mm_clr at h
  cases i with
  | zero => exact ⟨h, fun q => by omega⟩
  | succ i =>
    simp only at h
    cases hu : mm_ld ls i with
    | none =>
      rw [hu] at h
      refine ⟨h, fun q => ?_⟩
      have : j = i := by omega
      subst this
      rw [hu] at h
      cases h
    | some u =>
      rw [hu] at h
      simp only at h
      cases hc : Nat.beq u.category 2 with
      | false =>
        rw [hc] at h
        simp only [cond_false] at h
        refine ⟨h, fun q => ?_⟩
        have : j = i := by omega
        subst this
        rw [hu] at h
        cases h
        rw [q.2] at hc
        cases hc
      | true =>
        rw [hc] at h
        simp only [cond_true] at h
        by_cases hj : j = i
        · subst hj
          rw [mm_ld_set_self (mm_ld_lt hu)] at h
          cases h
        · rw [mm_ld_set hj] at h
          exact ⟨h, fun q => hj (by omega)⟩
def mm_LR (B t : Nat) (sl : Array Slot) (ls : mm_Ls) : Prop := sl.size = ls.length ∧ lv_wf sl ∧ ∀ (i : Nat) (v : Value), mm_ld ls i = some v → sl[i]? = some (.val (mm_rv B t v))
def mm_asc (B t : Nat) (ls : mm_Ls) : List (Nat × Value) := (List.range ls.length).filterMap (fun i => (mm_ld ls i).map (fun v => (i, mm_rv B t v)))
theorem mm_asc_mem {B t : Nat} {ls : mm_Ls} {i : Nat} {v : Value} (h : mm_ld ls i = some v) : (i, mm_rv B t v) ∈ mm_asc B t ls :=
  List.mem_filterMap.mpr ⟨i, List.mem_range.mpr (mm_ld_lt h), by rw [h]; rfl⟩
theorem mm_LR.has {B t : Nat} {sl : Array Slot} {ls : mm_Ls} (h : mm_LR B t sl ls) : lv_has sl ls.length (mm_asc B t ls) := by
  refine ⟨h.1, h.2.1, fun q hq => ?_⟩
  obtain ⟨i, hi, he⟩ := List.mem_filterMap.mp hq
  cases hv : mm_ld ls i with
  | none => rw [hv] at he; cases he
  | some v =>
    rw [hv] at he
    cases he
    exact h.2.2 i v hv
theorem mm_LR.of1 {B t : Nat} {sl : Array Slot} {ls : mm_Ls} {i : Nat} {v : Value} (hi : i < ls.length) (h : lv_has sl ls.length ((i, mm_rv B t v) :: (mm_asc B t ls).filter (fun q => !(q.1 == i) && !(q.1 + 1 == i && q.2.category == 2)))) : mm_LR B t sl (mm_s1 ls i v) := by
  refine ⟨by rw [h.1]; simp [mm_s1, mm_clr_len], h.2.1, fun j w hw => ?_⟩
  unfold mm_s1 at hw
  by_cases hj : j = i
  · subst hj
    rw [mm_ld_set_self (by rw [mm_clr_len]; exact hi)] at hw
    cases hw
    exact h.2.2 _ List.mem_cons_self
  · rw [mm_ld_set hj] at hw
    obtain ⟨h1, h2⟩ := mm_clr_ld hw
    refine h.2.2 (j, mm_rv B t w) (List.mem_cons_of_mem _ (List.mem_filter.mpr ⟨mm_asc_mem h1, ?_⟩))
    simp only [Bool.and_eq_true, Bool.not_eq_true', beq_eq_false_iff_ne, ne_eq, Bool.and_eq_false_iff, mm_rv_cat]
    refine ⟨hj, ?_⟩
    by_cases q : j + 1 = i
    · exact Or.inr fun z => h2 ⟨q, z⟩
    · exact Or.inl q
theorem mm_LR.of2 {B t : Nat} {sl : Array Slot} {ls : mm_Ls} {i : Nat} {v : Value} (hi : i + 1 < ls.length) (h : lv_has sl ls.length ((i, mm_rv B t v) :: (mm_asc B t ls).filter (fun q => !(q.1 == i) && (!(q.1 == i + 1) && !(q.1 + 1 == i && q.2.category == 2))))) : mm_LR B t sl (mm_s2 ls i v) := by
  refine ⟨by rw [h.1]; simp [mm_s2, mm_clr_len], h.2.1, fun j w hw => ?_⟩
  unfold mm_s2 at hw
  by_cases hj1 : j = i + 1
  · subst hj1
    rw [mm_ld_set_self (by rw [List.length_set, mm_clr_len]; exact hi)] at hw
    cases hw
  rw [mm_ld_set hj1] at hw
  by_cases hj : j = i
  · subst hj
    rw [mm_ld_set_self (by rw [mm_clr_len]; omega)] at hw
    cases hw
    exact h.2.2 _ List.mem_cons_self
  · rw [mm_ld_set hj] at hw
    obtain ⟨h1, h2⟩ := mm_clr_ld hw
    refine h.2.2 (j, mm_rv B t w) (List.mem_cons_of_mem _ (List.mem_filter.mpr ⟨mm_asc_mem h1, ?_⟩))
    simp only [Bool.and_eq_true, Bool.not_eq_true', beq_eq_false_iff_ne, ne_eq, Bool.and_eq_false_iff, mm_rv_cat]
    refine ⟨hj, hj1, ?_⟩
    by_cases q : j + 1 = i
    · exact Or.inr fun z => h2 ⟨q, z⟩
    · exact Or.inl q
theorem mm_beq_iff (a b : Nat) : Nat.beq a b = true ↔ a = b := ⟨Nat.eq_of_beq_eq_true, fun h => by subst h; exact Nat.beq_refl a⟩
theorem mm_ent_len (B t : Nat) (vs : List Value) : (lg_sl (vs.map (mm_rv B t))).length = (mm_ent0 vs).length := by
  induction vs with
  | nil => rfl
  | cons v vs ih =>
    have e : lg_sl ((v :: vs).map (mm_rv B t)) = (if (mm_rv B t v).category = 2 then [.val (mm_rv B t v), .second] else [.val (mm_rv B t v)]) ++ lg_sl (vs.map (mm_rv B t)) := rfl
    have e0 : mm_ent0 (v :: vs) = bif Nat.beq v.category 2 then some v :: none :: mm_ent0 vs else some v :: mm_ent0 vs := rfl
    rw [e, List.length_append, ih, mm_rv_cat, e0]
    by_cases hc : v.category = 2
    · rw [if_pos hc, (mm_beq_iff _ _).mpr hc]
      simp
      omega
    · have : Nat.beq v.category 2 = false := by
        cases hb : Nat.beq v.category 2 with
        | false => rfl
        | true => exact absurd ((mm_beq_iff _ _).mp hb) hc
      rw [if_neg hc, this]
      simp
      omega
theorem mm_ld_nones (n i : Nat) (v : Value) : ¬ mm_ld (List.replicate n none) i = some v := by
  rw [mm_ld_iff]
  intro h
  rw [List.getElem?_replicate] at h
  split at h
  · cases h
  · cases h
theorem mm_ent_mem (B t n : Nat) : ∀ (vs : List Value) (o j : Nat) (v : Value), mm_ld (mm_ent0 vs ++ List.replicate n none) j = some v → (o + j, mm_rv B t v) ∈ lv_args o (vs.map (mm_rv B t))
  | [], o, j, v, h => absurd h (mm_ld_nones n j v)
  | u :: vs, o, j, v, h => by
    have ea : lv_args o ((u :: vs).map (mm_rv B t)) = (o, mm_rv B t u) :: lv_args (if (mm_rv B t u).category = 2 then o + 2 else o + 1) (vs.map (mm_rv B t)) := rfl
    rw [ea, mm_rv_cat]
    have e0 : mm_ent0 (u :: vs) = bif Nat.beq u.category 2 then some u :: none :: mm_ent0 vs else some u :: mm_ent0 vs := rfl
    rw [e0] at h
    by_cases hc : u.category = 2
    · rw [(mm_beq_iff _ _).mpr hc] at h
      rw [if_pos hc]
      match j, h with
      | 0, h =>
        have e : some u = some v := h
        cases e
        exact List.mem_cons_self
      | 1, h =>
        have e : (none : Option Value) = some v := h
        cases e
      | j + 2, h =>
        have e : mm_ld (mm_ent0 vs ++ List.replicate n none) j = some v := h
        have := mm_ent_mem B t n vs (o + 2) j v e
        rw [show o + (j + 2) = o + 2 + j by omega]
        exact List.mem_cons_of_mem _ this
    · have hb : Nat.beq u.category 2 = false := by
        cases hb : Nat.beq u.category 2 with
        | false => rfl
        | true => exact absurd ((mm_beq_iff _ _).mp hb) hc
      rw [hb] at h
      rw [if_neg hc]
      match j, h with
      | 0, h =>
        have e : some u = some v := h
        cases e
        exact List.mem_cons_self
      | j + 1, h =>
        have e : mm_ld (mm_ent0 vs ++ List.replicate n none) j = some v := h
        have := mm_ent_mem B t n vs (o + 1) j v e
        rw [show o + (j + 1) = o + 1 + j by omega]
        exact List.mem_cons_of_mem _ this
theorem mm_LR_ent {B t n : Nat} {vs : List Value} (h : (mm_ent0 vs).length ≤ n) : mm_LR B t ((lg_sl (vs.map (mm_rv B t)) ++ List.replicate (n - (lg_sl (vs.map (mm_rv B t))).length) Slot.unset).toArray) (mm_ent n vs) := by
  have hE := lv_entry (vs.map (mm_rv B t)) (n := n) (by rw [mm_ent_len]; exact h)
  refine ⟨by rw [hE.1]; simp [mm_ent]; omega, hE.2.1, fun j v hj => ?_⟩
  have := mm_ent_mem B t _ vs 0 j v hj
  rw [Nat.zero_add] at this
  exact hE.2.2 _ this
end
section
def mm_tys (cI cZ : ClassId) : List (ClassId × FieldType) := [(cI, .int), (cZ, .boolean)]
def mm_cel (B t : Nat) (cI cZ : ClassId) (h : mm_H) (a : Nat) : va_E :=
  if mm_K h a = 100 then .inl (cI, mm_L h a, .inl (mm_G h a)) else if mm_K h a = 101 then .inl (cZ, mm_L h a, .inl (mm_G h a))
  else .inr (mm_K h a, (List.range (mm_N (mm_K h a))).map (fun s => mm_rv B t (mm_fv h (mm_K h a) a s)))
def mm_wl (B t : Nat) (cI cZ : ClassId) (h : mm_H) : va_W := (List.range (mm_n h)).map (fun a => (B + a, mm_cel B t cI cZ h a))
theorem mm_wl_get {B t : Nat} {cI cZ : ClassId} {h : mm_H} {a : Nat} (ha : a < mm_n h) : (mm_wl B t cI cZ h)[a]? = some (B + a, mm_cel B t cI cZ h a) := by
  unfold mm_wl
  rw [List.getElem?_map, List.getElem?_range ha]
  rfl
theorem mm_wl_set {B t : Nat} {cI cZ : ClassId} {h h' : mm_H} {a : Nat} {e : va_E} (hn : mm_n h' = mm_n h) (he : mm_cel B t cI cZ h' a = e) (ho : ∀ b, b ≠ a → mm_cel B t cI cZ h' b = mm_cel B t cI cZ h b) : (mm_wl B t cI cZ h).set a (B + a, e) = mm_wl B t cI cZ h' := by
  refine List.ext_getElem? fun i => ?_
  by_cases hi : i < mm_n h
  · by_cases hia : i = a
    · subst hia
      rw [List.getElem?_set_self (by simp [mm_wl, hi]), mm_wl_get (by rw [hn]; exact hi), he]
    · rw [List.getElem?_set_ne (Ne.symm hia), mm_wl_get hi, mm_wl_get (by rw [hn]; exact hi), ho i hia]
  · rw [List.getElem?_eq_none (by simp [mm_wl]; omega), List.getElem?_eq_none (by simp [mm_wl]; omega)]
theorem mm_wl_add {B t : Nat} {cI cZ : ClassId} {h h' : mm_H} {e : va_E} (hn : mm_n h' = mm_n h + 1) (he : mm_cel B t cI cZ h' (mm_n h) = e) (ho : ∀ b, b < mm_n h → mm_cel B t cI cZ h' b = mm_cel B t cI cZ h b) : mm_wl B t cI cZ h ++ [(B + mm_n h, e)] = mm_wl B t cI cZ h' := by
  unfold mm_wl
  rw [hn, List.range_succ, List.map_append, List.map_cons, List.map_nil, he]
  congr 1
  exact List.map_congr_left fun b hb => by rw [ho b (List.mem_range.mp hb)]
theorem mm_bf {b : Bool} (h : ¬ b = true) : b = false := by cases b <;> simp_all
theorem mm_beq_f {a b : Nat} (h : ¬ a = b) : Nat.beq a b = false := mm_bf fun z => h ((mm_beq_iff _ _).mp z)
theorem mm_up_ne {I : mm_I} {a i b : Nat} {v : Int32} (h : b ≠ a) : mm_up I a i v b = I b := by
  funext j
  unfold mm_up
  rw [mm_beq_f h]
  rfl
theorem mm_up_at (I : mm_I) (a i : Nat) (v : Int32) : mm_up I a i v a = upd (I a) i v := by
  funext j
  unfold mm_up upd
  rw [Nat.beq_refl, Bool.true_and]
  by_cases hj : j = i
  · subst hj
    rw [Nat.beq_refl]
    simp
  · rw [mm_beq_f hj, if_neg hj]
    rfl
theorem mm_up_ns {I : mm_I} {a i j : Nat} {v : Int32} (h : j ≠ i) : mm_up I a i v a j = I a j := by
  unfold mm_up
  rw [mm_beq_f h, Bool.and_false]
  rfl
theorem mm_up_s {I : mm_I} {a i : Nat} {v : Int32} : mm_up I a i v a i = v := by
  unfold mm_up
  rw [Nat.beq_refl, Nat.beq_refl]
  rfl
/-- an int store: other cells -/
theorem mm_cel_up {B t : Nat} {cI cZ : ClassId} {h : mm_H} {a i b : Nat} {v : Int32} (hb : b ≠ a) : mm_cel B t cI cZ (h.1, mm_up h.2 a i v) b = mm_cel B t cI cZ h b := by
  have e : mm_G (h.1, mm_up h.2 a i v) b = mm_G h b := mm_up_ne hb
  have eK : mm_K (h.1, mm_up h.2 a i v) b = mm_K h b := rfl
  have eL : mm_L (h.1, mm_up h.2 a i v) b = mm_L h b := rfl
  have ef : ∀ c s, mm_fv (h.1, mm_up h.2 a i v) c b s = mm_fv h c b s := fun c s => by
    have eR : mm_R (h.1, mm_up h.2 a i v) b s = mm_R h b s := rfl
    unfold mm_fv
    rw [eR, congrFun e s]
  unfold mm_cel
  rw [eK, eL, e]
  simp only [ef]
theorem mm_cel_arr {B t : Nat} {cI cZ : ClassId} {h : mm_H} {a : Nat} (hK : mm_K h a = 100) : mm_cel B t cI cZ h a = .inl (cI, mm_L h a, .inl (mm_G h a)) := by
  unfold mm_cel
  rw [if_pos hK]
theorem mm_cel_boo {B t : Nat} {cI cZ : ClassId} {h : mm_H} {a : Nat} (hK : mm_K h a = 101) : mm_cel B t cI cZ h a = .inl (cZ, mm_L h a, .inl (mm_G h a)) := by
  unfold mm_cel
  rw [if_neg (by rw [hK]; decide), if_pos hK]
theorem mm_cel_obj {B t : Nat} {cI cZ : ClassId} {h : mm_H} {a c : Nat} (hK : mm_K h a = c) (hc : c < 10) : mm_cel B t cI cZ h a = .inr (c, (List.range (mm_N c)).map (fun s => mm_rv B t (mm_fv h c a s))) := by
  subst hK
  unfold mm_cel
  rw [if_neg (by omega), if_neg (by omega)]
theorem mm_fs_get {B t : Nat} {h : mm_H} {c a s : Nat} (hs : s < mm_N c) : ((List.range (mm_N c)).map (fun s => mm_rv B t (mm_fv h c a s)))[s]? = some (mm_rv B t (mm_fv h c a s)) := by
  rw [List.getElem?_map, List.getElem?_range hs]
  rfl
theorem mm_fs_set {B t : Nat} {h h' : mm_H} {c a s : Nat} {v : Value} (hv : mm_rv B t (mm_fv h' c a s) = v) (ho : ∀ j, j ≠ s → mm_fv h' c a j = mm_fv h c a j) : ((List.range (mm_N c)).map (fun s => mm_rv B t (mm_fv h c a s))).set s v = (List.range (mm_N c)).map (fun s => mm_rv B t (mm_fv h' c a s)) := by
  refine List.ext_getElem? fun i => ?_
  by_cases hi : i < mm_N c
  · by_cases his : i = s
    · subst his
      rw [List.getElem?_set_self (by simp [hi]), mm_fs_get hi, hv]
    · rw [List.getElem?_set_ne (Ne.symm his), mm_fs_get hi, mm_fs_get hi, ho i his]
  · rw [List.getElem?_eq_none (by simp; omega), List.getElem?_eq_none (by simp; omega)]
theorem mm_fv_up {h : mm_H} {c a s : Nat} {x : Int32} (hf : mm_ft c s ≠ 2) : mm_fv (h.1, mm_up h.2 a s x) c a s = .int x := by
  unfold mm_fv
  rw [mm_beq_f hf]
  show Value.int (mm_up h.2 a s x a s) = _
  rw [mm_up_s]
theorem mm_fv_upo {h : mm_H} {c a s j : Nat} {x : Int32} (hj : j ≠ s) : mm_fv (h.1, mm_up h.2 a s x) c a j = mm_fv h c a j := by
  unfold mm_fv
  show (bif Nat.beq (mm_ft c j) 2 then va_rf (mm_R h a j) else Value.int (mm_up h.2 a s x a j)) = _
  rw [mm_up_ns hj]
  rfl
theorem mm_sR_R {h : mm_H} {a s b j : Nat} {v : Option Nat} (hx : ¬ (b = a ∧ j = s)) : mm_R (mm_sR h a s v) b j = mm_R h b j := by
  show (bif (Nat.beq b a && Nat.beq j s) then v else h.1.2.2.2.2 b j) = _
  have e : (Nat.beq b a && Nat.beq j s) = false := mm_bf fun z => hx (by
    rw [Bool.and_eq_true] at z
    exact ⟨(mm_beq_iff _ _).mp z.1, (mm_beq_iff _ _).mp z.2⟩)
  rw [e]
  rfl
theorem mm_sR_s {h : mm_H} {a s : Nat} {v : Option Nat} : mm_R (mm_sR h a s v) a s = v := by
  show (bif (Nat.beq a a && Nat.beq s s) then v else h.1.2.2.2.2 a s) = _
  rw [Nat.beq_refl, Nat.beq_refl]
  rfl
theorem mm_cel_sR {B t : Nat} {cI cZ : ClassId} {h : mm_H} {a s b : Nat} {v : Option Nat} (hb : b ≠ a) : mm_cel B t cI cZ (mm_sR h a s v) b = mm_cel B t cI cZ h b := by
  have e : mm_G (mm_sR h a s v) b = mm_G h b := rfl
  have eK : mm_K (mm_sR h a s v) b = mm_K h b := rfl
  have eL : mm_L (mm_sR h a s v) b = mm_L h b := rfl
  have ef : ∀ c j, mm_fv (mm_sR h a s v) c b j = mm_fv h c b j := fun c j => by
    unfold mm_fv
    rw [mm_sR_R (fun z => hb z.1), congrFun e j]
  unfold mm_cel
  rw [eK, eL, e]
  simp only [ef]
/-- a new cell: the others -/
theorem mm_cel_add {B t : Nat} {cI cZ : ClassId} {h : mm_H} {c s b : Nat} (hb : b < mm_n h) : mm_cel B t cI cZ (mm_add h c s) b = mm_cel B t cI cZ h b := by
  have hne : Nat.beq b h.1.1 = false := mm_beq_f (show ¬ b = mm_n h by omega)
  have eG : mm_G (mm_add h c s) b = mm_G h b := by
    funext j
    show (bif Nat.beq b h.1.1 then 0 else h.2 b j) = h.2 b j
    rw [hne]; rfl
  have eK : mm_K (mm_add h c s) b = mm_K h b := by
    show (bif Nat.beq b h.1.1 then c else h.1.2.2.1 b) = _
    rw [hne]; rfl
  have eL : mm_L (mm_add h c s) b = mm_L h b := by
    show (bif Nat.beq b h.1.1 then s else h.1.2.2.2.1 b) = _
    rw [hne]; rfl
  have ef : ∀ c' j, mm_fv (mm_add h c s) c' b j = mm_fv h c' b j := fun c' j => by
    have eR : mm_R (mm_add h c s) b j = mm_R h b j := by
      show (bif Nat.beq b h.1.1 then none else h.1.2.2.2.2 b j) = _
      rw [hne]; rfl
    unfold mm_fv
    rw [eR, congrFun eG j]
  unfold mm_cel
  rw [eK, eL, eG]
  simp only [ef]
theorem mm_add_K {h : mm_H} {c s : Nat} : mm_K (mm_add h c s) (mm_n h) = c := by
  show (bif Nat.beq (mm_n h) h.1.1 then c else h.1.2.2.1 (mm_n h)) = _
  rw [show Nat.beq (mm_n h) h.1.1 = true from Nat.beq_refl _]; rfl
theorem mm_add_L {h : mm_H} {c s : Nat} : mm_L (mm_add h c s) (mm_n h) = s := by
  show (bif Nat.beq (mm_n h) h.1.1 then s else h.1.2.2.2.1 (mm_n h)) = _
  rw [show Nat.beq (mm_n h) h.1.1 = true from Nat.beq_refl _]; rfl
theorem mm_add_G {h : mm_H} {c s : Nat} : mm_G (mm_add h c s) (mm_n h) = fun _ => 0 := by
  funext j
  show (bif Nat.beq (mm_n h) h.1.1 then 0 else h.2 (mm_n h) j) = 0
  rw [show Nat.beq (mm_n h) h.1.1 = true from Nat.beq_refl _]; rfl
theorem mm_add_R {h : mm_H} {c s j : Nat} : mm_R (mm_add h c s) (mm_n h) j = none := by
  show (bif Nat.beq (mm_n h) h.1.1 then none else h.1.2.2.2.2 (mm_n h) j) = none
  rw [show Nat.beq (mm_n h) h.1.1 = true from Nat.beq_refl _]; rfl
end
section
theorem mm_ofW {l : Launch} {y : MethodName} {ws ws' : List Cond} {rm : Room} {Pc : Array Value → State → Prop} {Qc : Array Value → State → Outcome → State → Prop} {mc ms : Nat} {free : Addr → Prop} {cc : ByteArray} {maxL : Nat} {ret : Option FieldType}
    (hy : plainFor y = true) (hw : ws = Cond.code y cc maxL ret :: ws')
    (body : ∀ p e s m args below meth c s₁, BodyLoose p l y (headSpec ws rm) cc maxL ret e s m args below meth c s₁ → c.maxLocals = maxL → Pc args s →
      W p l e (headSpec ws rm).room s m args below meth c s.heap [] 0 0 (MQ below Qc args s mc ms free) (entryFrame m args maxL)) : Met l y ws rm Pc Qc mc ms free := by
  refine MetFree.of_bodyRF (code := cc) (maxLocals := maxL) (ret := ret) hy ?_ ?_
  · intro args s m h hn
    obtain ⟨meth, c, h1, h2, h3, h4, h5, h6, -, -⟩ := Cond.code_spec hn (atoms_spec (ws := ws) h _ (by rw [hw]; exact List.mem_cons_self))
    exact ⟨meth, c, h1, h2, h3, h4, h5, h6⟩
  · intro p e s m args below meth c s₁ B hml hP _ hst
    have hh0 : s₁.heap = s.heap := by rw [B.state]; rfl
    obtain ⟨t, a1, o, b1, b2, b3⟩ := body p e s m args below meth c s₁ B hml hP s₁ hh0 (Stand.of_body B)
    exact ⟨t, o, hst.trans a1, b1, b2, ⟨b3.1, b3.2⟩⟩
/-- lengths of instructions -/
def mm_ln (ins : Instr) (len : Nat) : Nat := match ins with
  | .bipush _ => 2
  | .ldc _ => 2
  | .iload _ => 2
  | .lload _ => 2
  | .fload _ => 2
  | .dload _ => 2
  | .aload _ => 2
  | .istore _ => 2
  | .lstore _ => 2
  | .fstore _ => 2
  | .dstore _ => 2
  | .astore _ => 2
  | .newarray _ => 2
  | .sipush _ => 3
  | .ldc_w _ => 3
  | .ldc2_w _ => 3
  | .iinc _ _ => 3
  | .goto _ => 3
  | .if_icmp _ _ => 3
  | .ifCond _ _ => 3
  | .ifnull _ => 3
  | .ifnonnull _ => 3
  | .getfield _ => 3
  | .putfield _ => 3
  | .getstatic _ => 3
  | .invokevirtual _ => 3
  | .invokestatic _ => 3
  | .invokespecial _ => 3
  | .new _ => 3
  | .tableswitch _ _ _ _ => len
  | _ => 1
theorem mm_lnk : mm_czs.all (fun z => z.all (fun c => c.all (fun e => Nat.beq e.2.2.1 (mm_ln e.2.1 e.2.2.1)))) = true := by decide +kernel
theorem mm_find_mem {l : List (Nat × mm_E)} {pc : Nat} {e : mm_E} (h : mm_find l pc = some e) : (pc, e) ∈ l := by
  induction l with
  | nil => cases h
  | cons x l ih =>
    unfold mm_find at h
    cases hb : Nat.beq x.1 pc with
    | true =>
      rw [hb] at h
      have e1 : x.2 = e := Option.some.inj h
      have e2 := (mm_beq_iff _ _).mp hb
      obtain ⟨x1, x2⟩ := x
      cases e1
      cases e2
      exact List.mem_cons_self
    | false =>
      rw [hb] at h
      exact List.mem_cons_of_mem _ (ih h)
theorem mm_nth_mem {α : Type} {d : α} {l : List α} {i : Nat} (h : i < l.length) : mm_nth d l i ∈ l := by
  rw [mm_nth_eq, List.getElem?_eq_getElem h]
  exact List.getElem_mem h
theorem mm_nth_out {α : Type} {d : α} {l : List α} {i : Nat} (h : l.length ≤ i) : mm_nth d l i = d := by
  rw [mm_nth_eq, List.getElem?_eq_none h]
  rfl
theorem mm_ok2_nth : ∀ (cs : List (List (Nat × mm_E))) (ts : List mm_MT), mm_ok2 cs ts → ∀ i, (mm_nth [] cs i).all (mm_ckE (mm_nth mm_m0 ts i).2.2.2.2.2.1 (mm_nth mm_m0 ts i).2.1) = true
  | [], _, _, i => rfl
  | _ :: _, [], h, _ => h.elim
  | c :: cs, t :: ts, h, 0 => h.1
  | c :: cs, t :: ts, h, i + 1 => mm_ok2_nth cs ts h.2 i
theorem mm_ok3 : ∀ j, mm_ok2 (mm_nth [] mm_czs j) (mm_nth [] mm_mts j)
  | 0 => mm_ok2_0
  | 1 => mm_ok2_1
  | 2 => mm_ok2_2
  | 3 => mm_ok2_3
  | 4 => mm_ok2_4
  | 5 => mm_ok2_5
  | 6 => mm_ok2_6
  | 7 => mm_ok2_7
  | _ + 8 => trivial
theorem mm_cod_ok {k pc : Nat} {ins : Instr} {len p q : Nat} (h : mm_cod k pc = some (ins, len, p, q)) : decode (mm_by k) pc = .ok (ins, len) ∧ mm_ckP (mm_c k) pc ins p q = true ∧ len = mm_ln ins len := by
  have h1 := mm_find_mem h
  have h2 := List.all_eq_true.mp (mm_ok2_nth _ _ (mm_ok3 (k / 32)) (k % 32)) _ h1
  simp only [mm_ckE, Bool.and_eq_true, decide_eq_true_eq] at h2
  refine ⟨h2.1, h2.2, ?_⟩
  have h3 := mm_lnk
  by_cases hj : k / 32 < mm_czs.length
  · have h4 := List.all_eq_true.mp h3 _ (mm_nth_mem (d := []) hj)
    by_cases hi : k % 32 < (mm_nth [] mm_czs (k / 32)).length
    · have h5 := List.all_eq_true.mp h4 _ (mm_nth_mem (d := []) hi)
      have h6 := List.all_eq_true.mp h5 _ h1
      exact (mm_beq_iff _ _).mp h6
    · unfold mm_lst at h1
      rw [mm_nth_out (Nat.le_of_not_lt hi)] at h1
      cases h1
  · unfold mm_lst at h1
    rw [mm_nth_out (Nat.le_of_not_lt hj)] at h1
    cases h1
theorem mm_klt : (List.range 227).all (fun k => Nat.blt (k / 32) 8 && Nat.blt (k % 32) (mm_nth [] mm_mts (k / 32)).length) = true := by decide +kernel
theorem mm_blt_iff (a b : Nat) : Nat.blt a b = true ↔ a < b := by
  unfold Nat.blt
  exact ⟨fun h => Nat.le_of_ble_eq_true h, fun h => Nat.ble_eq_true_of_le h⟩
theorem mm_m_mem {k : Nat} (hk : k < 227) : ∃ l ∈ mm_mts, mm_m k ∈ l := by
  have h := List.all_eq_true.mp mm_klt k (List.mem_range.mpr hk)
  rw [Bool.and_eq_true, mm_blt_iff, mm_blt_iff] at h
  exact ⟨_, mm_nth_mem (d := []) (by exact h.1), mm_nth_mem h.2⟩
/-- what holds of every method of the table -/
theorem mm_mk {k : Nat} (hk : k < 227) : (mm_y k).cls = mm_cn (mm_c k) ∧ (Cond.initialized (mm_y k).cls) ∈ mm_GW ∧ mm_mL k + 19 ≤ 40 ∧ mm_dp k ≤ 13 ∧ plainFor (mm_y k) = true ∧ ((mm_y k).cls ≠ "java/lang/invoke/MethodHandle" ∧ (mm_y k).cls ≠ "java/lang/invoke/VarHandle") ∧ Cond.code (mm_y k) (mm_by k) (mm_mL k) (mm_rt k) ∈ mm_GW ∧
    (mm_md k = 0 → Cond.static (mm_y k) ∈ mm_GW ∧ (parseMethodDescriptor (mm_y k).desc).map (fun d => d.parameters.length) = some (mm_na k)) ∧
    (mm_md k ≠ 0 → Cond.instanceMethod (mm_y k) ∈ mm_GW ∧ (parseMethodDescriptor (mm_y k).desc).map (fun d => d.parameters.length + 1) = some (mm_na k)) ∧
    (mm_md k = 1 → Cond.selects (mm_y k).cls (mm_y k) (mm_y k) ∈ mm_GW) ∧ (mm_md k ≠ 0 → mm_md k ≠ 1 → (mm_y k).name = "<init>" ∧ mm_md k = 2) := by
  obtain ⟨l, hl, hm⟩ := mm_m_mem hk
  have h1 := List.all_eq_true.mp (mm_mtk l hl) _ hm
  have h2 := mm_cwk l hl _ hm
  unfold mm_y mm_c mm_mL mm_dp mm_by mm_rt mm_md mm_na
  generalize mm_m k = t at h1 h2 ⊢
  obtain ⟨y, by_, ml, rt, na, c, md, dp, p0, p1, p2, p3⟩ := t
  simp only [mm_ckM, Bool.and_eq_true, decide_eq_true_eq] at h1
  obtain ⟨⟨⟨⟨⟨⟨a1, a2⟩, a3⟩, a4⟩, a5⟩, a6⟩, a7⟩ := h1
  refine ⟨a1, mm_wt_mem a2, a3, a4, a5, a6, h2, fun h0 => ?_, fun h0 => ?_, fun h0 => ?_, fun h0 h1 => ?_⟩
  · simp only at h0
    rw [if_pos h0, Bool.and_eq_true, decide_eq_true_eq] at a7
    exact ⟨mm_wt_mem a7.1, a7.2⟩
  · simp only at h0
    rw [if_neg h0, Bool.and_eq_true, Bool.and_eq_true, decide_eq_true_eq] at a7
    exact ⟨mm_wt_mem a7.1.1, a7.1.2⟩
  · simp only at h0
    rw [if_neg (by omega), Bool.and_eq_true, if_pos h0] at a7
    exact mm_wt_mem a7.2
  · simp only at h0 h1
    rw [if_neg h0, Bool.and_eq_true, if_neg h1, decide_eq_true_eq] at a7
    exact a7.2
theorem mm_fl_ok {o ix c s : Nat} (h : mm_flC o ix c s = true) : Cond.fieldLink (mm_cn o) ix (mm_T c s).1 (mm_T c s).2.1 (mm_T c s).2.2.1 ∈ mm_GW ∧ s < mm_N c ∧ c < 10 := by
  obtain ⟨⟨o', ix', c', s', p⟩, hm, he⟩ := List.any_eq_true.mp h
  simp only [Bool.and_eq_true, beq_iff_eq] at he
  obtain ⟨rfl, rfl, rfl, rfl⟩ := he
  have h1 := List.all_eq_true.mp mm_flk _ hm
  simp only [mm_ckF, Bool.and_eq_true, decide_eq_true_eq] at h1
  exact ⟨mm_wt_mem h1.1.1, h1.1.2, h1.2⟩
def mm_Nst (U : State) : Prop := ∀ (o ix : Nat) (y : MethodName), mm_nw o ix y ∈ lw_tbl → va_Nw (mm_nw o ix y) U
theorem mm_Nst.warm {s U : State} (hW : s.WarmedH U.vm) (h : mm_Nst s) : mm_Nst U := fun o ix y hm => va_Nw.warmM hW (h o ix y hm)
theorem mm_Nst.same {s U : State} (hv : s.vm = U.vm) (h : mm_Nst s) : mm_Nst U := fun o ix y hm => va_Nw.same rfl hv (h o ix y hm)
theorem mm_ml_ok {o ix k md : Nat} (h : mm_mlC o ix k md = true) : k < 227 ∧ mm_md k = md ∧ (Cond.methodLink (mm_cn o) ix (mm_y k) ∈ mm_GW ∨ mm_nw o ix (mm_y k) ∈ lw_tbl) := by
  obtain ⟨⟨o', ix', k', md', ns, p⟩, hm, he⟩ := List.any_eq_true.mp h
  simp only [Bool.and_eq_true, beq_iff_eq] at he
  obtain ⟨rfl, rfl, rfl, rfl⟩ := he
  have h1 := List.all_eq_true.mp mm_mlk _ hm
  simp only [mm_ckL, Bool.and_eq_true, decide_eq_true_eq] at h1
  refine ⟨h1.1.1, h1.1.2, ?_⟩
  by_cases hn : ns = 0
  · rw [if_pos hn] at h1
    exact Or.inl (mm_wt_mem h1.2)
  · rw [if_neg hn, decide_eq_true_eq] at h1
    exact Or.inr (List.mem_of_getElem? h1.2)
theorem mm_cs_ok {o ix kd v : Nat} (h : mm_csC o ix kd v = true) : ∃ p, mm_ckC (o, ix, kd, v, p) = true := by
  obtain ⟨⟨o', ix', k', v', p⟩, hm, he⟩ := List.any_eq_true.mp h
  simp only [Bool.and_eq_true, beq_iff_eq] at he
  obtain ⟨rfl, rfl, rfl, rfl⟩ := he
  exact ⟨p, List.all_eq_true.mp mm_csk _ hm⟩
theorem mm_cs0 {o ix v : Nat} (h : mm_csC o ix 0 v = true) : Cond.constant (mm_cn o) ix (Int32.ofNat v) ∈ mm_GW := by
  obtain ⟨p, hp⟩ := mm_cs_ok h
  exact mm_wt_mem hp
theorem mm_cs1 {o ix v : Nat} (h : mm_csC o ix 1 v = true) : Cond.constantLong (mm_cn o) ix (Int64.ofNat v) ∈ mm_GW := by
  obtain ⟨p, hp⟩ := mm_cs_ok h
  exact mm_wt_mem hp
theorem mm_cs2 {o ix v : Nat} (h : mm_csC o ix 2 v = true) : Cond.constantFloat (mm_cn o) ix (UInt32.ofNat v) ∈ mm_GW := by
  obtain ⟨p, hp⟩ := mm_cs_ok h
  exact mm_wt_mem hp
theorem mm_cs3 {o ix v : Nat} (h : mm_csC o ix 3 v = true) : Cond.constantDouble (mm_cn o) ix (UInt64.ofNat v) ∈ mm_GW := by
  obtain ⟨p, hp⟩ := mm_cs_ok h
  exact mm_wt_mem hp
theorem mm_nl_ok {o ix c : Nat} (h : mm_nlC o ix c = true) : Cond.classLink (mm_cn o) ix (mm_cn c) ∈ mm_GW ∧ Cond.instantiable (mm_cn c) (mm_N c) ∈ mm_GW ∧ Cond.initialized (mm_cn c) ∈ mm_GW ∧ c < 10 := by
  obtain ⟨⟨o', ix', c', p1, p2, p3⟩, hm, he⟩ := List.any_eq_true.mp h
  simp only [Bool.and_eq_true, beq_iff_eq] at he
  obtain ⟨rfl, rfl, rfl⟩ := he
  have h1 := List.all_eq_true.mp mm_nlk _ hm
  simp only [mm_ckN, Bool.and_eq_true, decide_eq_true_eq] at h1
  exact ⟨mm_wt_mem h1.1.1.1, mm_wt_mem h1.1.1.2, mm_wt_mem h1.1.2, h1.2⟩
theorem mm_ol_ok {o ix : Nat} (h : mm_olC o ix = true) : Cond.methodLink (mm_cn o) ix Lib.objectInit ∈ mm_GW := by
  obtain ⟨⟨o', ix', p⟩, hm, he⟩ := List.any_eq_true.mp h
  simp only [Bool.and_eq_true, beq_iff_eq] at he
  obtain ⟨rfl, rfl⟩ := he
  exact mm_wt_mem (List.all_eq_true.mp mm_olk _ hm)
/-- classes -/
theorem mm_cl {c : Nat} (hc : c < 10) : vwCl[c]? = some (mm_cn c, mm_T c, mm_N c) ∧ (∀ w ∈ u_ws (mm_cn c) (mm_T c) (mm_N c), w ∈ mm_GW) ∧ (∀ k, k < mm_N c → parseFieldDescriptor (mm_T c k).2.2.1 = some (mm_ty c k)) ∧ (∀ a, a < mm_N c → ∀ b, b < mm_N c → a ≠ b → (mm_T c a).2.1 ≠ (mm_T c b).2.1) := by
  match c, hc with
  | 0, _ => exact ⟨rfl, mm_u0, tyX0_ok, nmX0⟩
  | 1, _ => exact ⟨rfl, mm_u1, tyX1_ok, nmX1⟩
  | 2, _ => exact ⟨rfl, mm_u2, tyX2_ok, nmX2⟩
  | 3, _ => exact ⟨rfl, mm_u3, tyX3_ok, nmX3⟩
  | 4, _ => exact ⟨rfl, mm_u4, tyX4_ok, nmX4⟩
  | 5, _ => exact ⟨rfl, mm_u5, tyX5_ok, nmX5⟩
  | 6, _ => exact ⟨rfl, mm_u6, tyX6_ok, nmX6⟩
  | 7, _ => exact ⟨rfl, mm_u7, tyX7_ok, nmX7⟩
  | 8, _ => exact ⟨rfl, mm_u8, tyX8_ok, nmX8⟩
  | 9, _ => exact ⟨rfl, mm_u9, tyX9_ok, nmX9⟩
theorem mm_own : ∀ c, c < 10 → ∀ k, k < mm_N c → (mm_T c k).1 = mm_cn c := by decide +kernel
end
section
theorem mm_i2_inv {f : Int32 → Int32 → Int32} {n : Nat} {ls : mm_Ls} {st : List Value} {h : mm_H} {s' : mm_S} (hs : mm_i2 f n ls st h = some s') : ∃ x y r, st = .int y :: .int x :: r ∧ s' = (n, ls, .int (f x y) :: r, h) := by
  unfold mm_i2 at hs
  split at hs
  · exact ⟨_, _, _, rfl, (Option.some.inj hs).symm⟩
  · cases hs
theorem mm_i1_inv {f : Int32 → Value} {n : Nat} {ls : mm_Ls} {st : List Value} {h : mm_H} {s' : mm_S} (hs : mm_i1 f n ls st h = some s') : ∃ x r, st = .int x :: r ∧ s' = (n, ls, f x :: r, h) := by
  unfold mm_i1 at hs
  split at hs
  · exact ⟨_, _, rfl, (Option.some.inj hs).symm⟩
  · cases hs
theorem mm_l2_inv {f : Int64 → Int64 → Value} {n : Nat} {ls : mm_Ls} {st : List Value} {h : mm_H} {s' : mm_S} (hs : mm_l2 f n ls st h = some s') : ∃ x y r, st = .long y :: .long x :: r ∧ s' = (n, ls, f x y :: r, h) := by
  unfold mm_l2 at hs
  split at hs
  · exact ⟨_, _, _, rfl, (Option.some.inj hs).symm⟩
  · cases hs
theorem mm_l1_inv {f : Int64 → Value} {n : Nat} {ls : mm_Ls} {st : List Value} {h : mm_H} {s' : mm_S} (hs : mm_l1 f n ls st h = some s') : ∃ x r, st = .long x :: r ∧ s' = (n, ls, f x :: r, h) := by
  unfold mm_l1 at hs
  split at hs
  · exact ⟨_, _, rfl, (Option.some.inj hs).symm⟩
  · cases hs
theorem mm_li_inv {f : Int64 → Int32 → Int64} {n : Nat} {ls : mm_Ls} {st : List Value} {h : mm_H} {s' : mm_S} (hs : mm_li f n ls st h = some s') : ∃ x y r, st = .int y :: .long x :: r ∧ s' = (n, ls, .long (f x y) :: r, h) := by
  unfold mm_li at hs
  split at hs
  · exact ⟨_, _, _, rfl, (Option.some.inj hs).symm⟩
  · cases hs
theorem mm_dv_inv {f : Int32 → Int32 → Int32} {n : Nat} {ls : mm_Ls} {st : List Value} {h : mm_H} {s' : mm_S} (hs : mm_dv f n ls st h = some s') : ∃ x y r, st = .int y :: .int x :: r ∧ ¬ y = 0 ∧ s' = (n, ls, .int (f x y) :: r, h) := by
  unfold mm_dv at hs
  split at hs
  · split at hs
    · cases hs
    · rename_i hy
      exact ⟨_, _, _, rfl, hy, (Option.some.inj hs).symm⟩
  · cases hs
theorem mm_f2_inv {f : UInt32 → UInt32 → UInt32} {n : Nat} {ls : mm_Ls} {st : List Value} {h : mm_H} {s' : mm_S} (hs : mm_f2 f n ls st h = some s') : ∃ x y r, st = .float y :: .float x :: r ∧ vf_n32 (f x y) ∧ s' = (n, ls, .float (f x y) :: r, h) := by
  unfold mm_f2 at hs
  split at hs
  · split at hs
    · rename_i hy
      exact ⟨_, _, _, rfl, hy, (Option.some.inj hs).symm⟩
    · cases hs
  · cases hs
theorem mm_d2_inv {f : UInt64 → UInt64 → UInt64} {n : Nat} {ls : mm_Ls} {st : List Value} {h : mm_H} {s' : mm_S} (hs : mm_d2 f n ls st h = some s') : ∃ x y r, st = .double y :: .double x :: r ∧ vf_n64 (f x y) ∧ s' = (n, ls, .double (f x y) :: r, h) := by
  unfold mm_d2 at hs
  split at hs
  · split at hs
    · rename_i hy
      exact ⟨_, _, _, rfl, hy, (Option.some.inj hs).symm⟩
    · cases hs
  · cases hs
theorem mm_cond_inv {α : Type} {b : Bool} {x : Option α} {y : α} (h : (bif b then x else none) = some y) : b = true ∧ x = some y := by
  cases b with
  | true => exact ⟨rfl, h⟩
  | false => cases h
theorem mm_ldv_inv {T : Value → Bool} {n : Nat} {ls : mm_Ls} {st : List Value} {h : mm_H} {i : Nat} {s' : mm_S} (hs : mm_ldv T n ls st h i = some s') : ∃ v, mm_ld ls i = some v ∧ T v = true ∧ s' = (n, ls, v :: st, h) := by
  unfold mm_ldv at hs
  split at hs
  · rename_i v hv
    obtain ⟨h1, h2⟩ := mm_cond_inv hs
    exact ⟨v, hv, h1, (Option.some.inj h2).symm⟩
  · cases hs
theorem mm_stv_inv {T : Value → Bool} {w n : Nat} {ls : mm_Ls} {st : List Value} {h : mm_H} {i : Nat} {s' : mm_S} (hs : mm_stv T w n ls st h i = some s') : ∃ v r, st = v :: r ∧ T v = true ∧ i + w ≤ ls.length ∧ s' = (n, (bif Nat.beq w 2 then mm_s2 ls i v else mm_s1 ls i v), r, h) := by
  unfold mm_stv at hs
  split at hs
  · obtain ⟨h1, h2⟩ := mm_cond_inv hs
    rw [Bool.and_eq_true] at h1
    exact ⟨_, _, rfl, h1.1, Nat.le_of_ble_eq_true h1.2, (Option.some.inj h2).symm⟩
  · cases hs
theorem mm_bi_inv {f : Int32 → Bool} {t n : Nat} {ls : mm_Ls} {st : List Value} {h : mm_H} {s' : mm_S} (hs : mm_bi f t n ls st h = some s') : ∃ x r, st = .int x :: r ∧ s' = ((bif f x then t else n), ls, r, h) := by
  unfold mm_bi at hs
  split at hs
  · exact ⟨_, _, rfl, (Option.some.inj hs).symm⟩
  · cases hs
theorem mm_bi2_inv {f : Int32 → Int32 → Bool} {t n : Nat} {ls : mm_Ls} {st : List Value} {h : mm_H} {s' : mm_S} (hs : mm_bi2 f t n ls st h = some s') : ∃ x y r, st = .int y :: .int x :: r ∧ s' = ((bif f x y then t else n), ls, r, h) := by
  unfold mm_bi2 at hs
  split at hs
  · exact ⟨_, _, _, rfl, (Option.some.inj hs).symm⟩
  · cases hs
theorem mm_aid_inv {h : mm_H} {a c : Nat} (hs : mm_aid h a c = true) : a < mm_n h ∧ mm_K h a = c := by
  unfold mm_aid at hs
  rw [Bool.and_eq_true, mm_blt_iff, mm_beq_iff] at hs
  exact hs
theorem mm_inb_inv {i : Int32} {n : Nat} (h : mm_inb i n = true) : vp_in i n := by
  unfold mm_inb at h
  have h2 := of_decide_eq_true h
  exact h2
theorem mm_gf_inv {c s n : Nat} {ls : mm_Ls} {st : List Value} {h : mm_H} {s' : mm_S} (hs : mm_gf c s n ls st h = some s') : ∃ a r, st = .ref a :: r ∧ a < mm_n h ∧ mm_K h a = c ∧ s' = (n, ls, mm_fv h c a s :: r, h) := by
  unfold mm_gf at hs
  split at hs
  · obtain ⟨h1, h2⟩ := mm_cond_inv hs
    obtain ⟨h3, h4⟩ := mm_aid_inv h1
    exact ⟨_, _, rfl, h3, h4, (Option.some.inj h2).symm⟩
  · cases hs
theorem mm_ft2 {c s : Nat} (h : mm_ft c s = 2) : (∃ o, mm_ty c s = .object o) ∨ ∃ o, mm_ty c s = .array o := by
  unfold mm_ft at h
  split at h
  · cases h
  · cases h
  · rename_i o e
    exact Or.inl ⟨o, e⟩
  · rename_i o e
    exact Or.inr ⟨o, e⟩
  · cases h
theorem mm_ft0 {c s : Nat} (h : mm_ft c s = 0) : mm_ty c s = .int := by
  unfold mm_ft at h
  split at h
  · assumption
  all_goals cases h
theorem mm_ft1 {c s : Nat} (h : mm_ft c s = 1) : mm_ty c s = .boolean := by
  unfold mm_ft at h
  split at h
  · cases h
  · assumption
  all_goals cases h
/-- a field's store: what is stored, and the heap behind -/
def mm_pfR (c s a : Nat) (v : Value) (h h' : mm_H) : Prop :=
  (∃ x, v = .int x ∧ h' = (h.1, mm_up h.2 a s x) ∧ (mm_ft c s = 0 ∨ (mm_ft c s = 1 ∧ (x = 0 ∨ x = 1)))) ∨ ∃ b, v = .ref b ∧ h' = mm_sR h a s (some b) ∧ mm_ft c s = 2 ∧ b < mm_n h
theorem mm_pf_inv {k c s n : Nat} {ls : mm_Ls} {st : List Value} {h : mm_H} {s' : mm_S} (hs : mm_pf k c s n ls st h = some s') : ∃ v a r h', st = v :: .ref a :: r ∧ a < mm_n h ∧ mm_K h a = c ∧ (mm_fin c s = false ∨ (mm_md k = 2 ∧ mm_c k = c)) ∧ mm_pfR c s a v h h' ∧ s' = (n, ls, r, h') := by
  unfold mm_pf at hs
  split at hs
  · obtain ⟨h1, h2⟩ := mm_cond_inv hs
    rw [Bool.and_eq_true, Bool.or_eq_true, Bool.and_eq_true, mm_beq_iff, mm_beq_iff, Bool.not_eq_true'] at h1
    obtain ⟨h3, h4⟩ := mm_aid_inv h1.1
    split at h2
    · rename_i x
      cases h0 : Nat.beq (mm_ft c s) 0 with
      | true =>
        rw [h0] at h2
        exact ⟨_, _, _, _, rfl, h3, h4, h1.2, Or.inl ⟨x, rfl, rfl, Or.inl ((mm_beq_iff _ _).mp h0)⟩, (Option.some.inj h2).symm⟩
      | false =>
        rw [h0] at h2
        obtain ⟨h5, h6⟩ := mm_cond_inv h2
        rw [Bool.and_eq_true, mm_beq_iff, Bool.or_eq_true, beq_iff_eq, beq_iff_eq] at h5
        exact ⟨_, _, _, _, rfl, h3, h4, h1.2, Or.inl ⟨x, rfl, rfl, Or.inr h5⟩, (Option.some.inj h6).symm⟩
    · rename_i b
      obtain ⟨h5, h6⟩ := mm_cond_inv h2
      rw [Bool.and_eq_true, mm_beq_iff, mm_blt_iff] at h5
      exact ⟨_, _, _, _, rfl, h3, h4, h1.2, Or.inr ⟨b, rfl, rfl, h5⟩, (Option.some.inj h6).symm⟩
    · cases h2
  · cases hs
theorem mm_al_inv {c n : Nat} {ls : mm_Ls} {st : List Value} {h : mm_H} {s' : mm_S} (hs : mm_al c n ls st h = some s') : ∃ i a r, st = .int i :: .ref a :: r ∧
    ((c = 100 ∧ a = 5000 ∧ vp_in i 20 ∧ s' = (n, ls, .int (mm_fix i.toNatClampNeg) :: r, h)) ∨ (a < mm_n h ∧ mm_K h a = c ∧ vp_in i (mm_L h a) ∧ s' = (n, ls, .int (mm_G h a i.toNatClampNeg) :: r, h))) := by
  unfold mm_al at hs
  split at hs
  · rename_i i a r
    refine ⟨i, a, r, rfl, ?_⟩
    cases hb : (Nat.beq c 100 && Nat.beq a 5000) with
    | true =>
      rw [hb] at hs
      obtain ⟨h1, h2⟩ := mm_cond_inv hs
      rw [Bool.and_eq_true, mm_beq_iff, mm_beq_iff] at hb
      exact Or.inl ⟨hb.1, hb.2, mm_inb_inv h1, (Option.some.inj h2).symm⟩
    | false =>
      rw [hb] at hs
      obtain ⟨h1, h2⟩ := mm_cond_inv hs
      rw [Bool.and_eq_true] at h1
      obtain ⟨h3, h4⟩ := mm_aid_inv h1.1
      exact Or.inr ⟨h3, h4, mm_inb_inv h1.2, (Option.some.inj h2).symm⟩
  · cases hs
theorem mm_as_inv {c n : Nat} {ls : mm_Ls} {st : List Value} {h : mm_H} {s' : mm_S} (hs : mm_as c n ls st h = some s') : ∃ x i a r, st = .int x :: .int i :: .ref a :: r ∧ a < mm_n h ∧ mm_K h a = c ∧ vp_in i (mm_L h a) ∧ (c = 100 ∨ (x = 0 ∨ x = 1)) ∧ s' = (n, ls, r, (h.1, mm_up h.2 a i.toNatClampNeg x)) := by
  unfold mm_as at hs
  split at hs
  · obtain ⟨h1, h2⟩ := mm_cond_inv hs
    rw [Bool.and_eq_true, Bool.and_eq_true, Bool.or_eq_true, Bool.or_eq_true, mm_beq_iff, beq_iff_eq, beq_iff_eq] at h1
    obtain ⟨h3, h4⟩ := mm_aid_inv h1.1.1
    exact ⟨_, _, _, _, rfl, h3, h4, mm_inb_inv h1.1.2, h1.2, (Option.some.inj h2).symm⟩
  · cases hs
theorem mm_len_inv {n : Nat} {ls : mm_Ls} {st : List Value} {h : mm_H} {s' : mm_S} (hs : mm_len n ls st h = some s') : ∃ a r, st = .ref a :: r ∧ a < mm_n h ∧ mm_K h a = 100 ∧ s' = (n, ls, .int (Int32.ofNat (mm_L h a)) :: r, h) := by
  unfold mm_len at hs
  split at hs
  · obtain ⟨h1, h2⟩ := mm_cond_inv hs
    obtain ⟨h3, h4⟩ := mm_aid_inv h1
    exact ⟨_, _, rfl, h3, h4, (Option.some.inj h2).symm⟩
  · cases hs
theorem mm_nw1_inv {ng : Bool} {c s n : Nat} {ls : mm_Ls} {st : List Value} {h : mm_H} {s' : mm_S} (hs : mm_nw1 ng c s n ls st h = some s') : ng = true ∧ mm_n h < 4000 ∧ s' = (n, ls, .ref (mm_n h) :: st, mm_add h c s) := by
  unfold mm_nw1 at hs
  obtain ⟨h1, h2⟩ := mm_cond_inv hs
  rw [Bool.and_eq_true, mm_blt_iff] at h1
  exact ⟨h1.1, h1.2, (Option.some.inj h2).symm⟩
theorem mm_nwa_inv {ng : Bool} {c n : Nat} {ls : mm_Ls} {st : List Value} {h : mm_H} {s' : mm_S} (hs : mm_nwa ng c n ls st h = some s') : ∃ x r, st = .int x :: r ∧ ng = true ∧ mm_n h < 4000 ∧ vp_in x 10000 ∧ s' = (n, ls, .ref (mm_n h) :: r, mm_add h c x.toNatClampNeg) := by
  unfold mm_nwa at hs
  split at hs
  · obtain ⟨h1, h2⟩ := mm_cond_inv hs
    rw [Bool.and_eq_true, Bool.and_eq_true, mm_blt_iff] at h1
    exact ⟨_, _, rfl, h1.1.1, h1.1.2, mm_inb_inv h1.2, (Option.some.inj h2).symm⟩
  · cases hs
theorem mm_ad_lt {B t a n : Nat} (h : a < n) (hn : n ≤ 4000) : mm_ad B t a = B + a := by
  unfold mm_ad
  rw [mm_beq_f (by omega)]
  rfl
theorem mm_rv_ref {B t a n : Nat} (h : a < n) (hn : n ≤ 4000) : mm_rv B t (.ref a) = .ref (B + a) := by
  show Value.ref (mm_ad B t a) = _
  rw [mm_ad_lt h hn]
end
section
def mm_Cx (p : Program) (R : Room) (s : State) (m : MethodId) (args : Array Value) (meth : Method) (c : Code) (D : va_G) (B t : Nat) (cI cZ : ClassId) (k : Nat) : Prop :=
  p.tables.exec = Jvm.exec ∧ c.code = mm_by k ∧ c.maxLocals = mm_mL k ∧ s.vm.findClass (mm_cn (mm_c k)) = some m.cls ∧ (∀ w ∈ mm_GW, w.before args s = true) ∧ meth.locks = false ∧ meth.sig.returnType = mm_rt k ∧ (mm_md k = 2 → meth.name = "<init>") ∧ va_K D vwCl (mm_tys cI cZ) s ∧ mm_Nst s ∧ va_Z "WholeSoundModel" "FIXED" "[I" (.ref t) (fun q => B ≤ q) s s.heap ∧ va_T .int t 20 (fun j => .int (mm_fix j)) (fun q => B ≤ q) s s.heap ∧ B ≤ s.heap.size ∧ mm_dp k ≤ R.frames ∧ 40 * mm_dp k ≤ R.locals
def mm_Rl (D : va_G) (B t : Nat) (cI cZ : ClassId) (s : State) (h : mm_H) (H : Heap) (locs : List Loc) : Prop :=
  va_P D vwCl (mm_wl B t cI cZ h) H ∧ va_D (fun q => B ≤ q) (mm_wl B t cI cZ h) ∧ va_S (fun q => B ≤ q) s.heap H locs ∧ mm_n h ≤ 4000
theorem mm_ft_le : ∀ c, c < 10 → ∀ j, j < mm_N c → mm_ft c j ≤ 2 := by decide +kernel
section MMS
variable {p : Program} {l : Launch} {e : Env} {R : Room} {s : State} {m : MethodId} {args : Array Value} {below : List Frame} {meth : Method} {c : Code} {H : Heap} {locs : List Loc} {cells slots : Nat} {Q : State → Prop} {D : va_G} {B t : Nat} {cI cZ : ClassId} {k pc : Nat} {ls : mm_Ls} {st : List Value} {h : mm_H} {sl : Array Slot}
theorem mm_Wsz {g : JFrame} (kk : H.size ≤ s.heap.size + cells → W p l e R s m args below meth c H locs cells slots Q g) : W p l e R s m args below meth c H locs cells slots Q g :=
  fun T hT X => kk (by rw [← hT]; exact X.heapSize) T hT X
theorem mm_ldcwF (hexec : p.tables.exec = Jvm.exec) {cc : ByteArray} (hb : c.code = cc) {own : String} {index : Nat} {v : UInt32} {rest : List Value} (hown : s.vm.findClass own = some m.cls) (hconst : (Jvm.Cond.constantFloat own index v).before args s = true) (hdg : decode cc pc = .ok (.ldc_w index, 3)) (kk : W p l e R s m args below meth c H locs cells slots Q (F0 m (pc + 3) sl (.float v :: rest))) : W p l e R s m args below meth c H locs cells slots Q (F0 m pc sl rest) := by
  intro T hT X
  obtain ⟨t, a, b⟩ := kk T hT X
  refine ⟨t, ?_, b⟩
  obtain ⟨k, cf, hk, hcf, hcp⟩ := Cond.constantFloat_spec hown hconst
  obtain ⟨k', hk', he⟩ := X.warmed.alike.2.2 _ _ hk
  have hdg' : decode c.code (F0 m pc sl rest).pc = .ok (.ldc_w index, 3) := by rw [hb]; exact hdg
  jvm_step X.here [hexec, hdg', ldc_w.wp_float (s := T) (f := F0 m pc sl rest) X.here.top hk' (by rw [he]; exact hcf) hcp]
  exact a
theorem mm_mem_pos {α : Type} {x : α} {l : List α} (h : x ∈ l) : ∃ k : Nat, l[k]? = some x := List.getElem?_of_mem h
theorem mm_cat_sum (B t : Nat) (r : List Value) : ((r.map (mm_rv B t)).map fun v => v.category).sum = (r.map fun v => v.category).sum := by
  rw [List.map_map]
  congr 1
  exact List.map_congr_left fun v _ => mm_rv_cat B t v
theorem mm_low (hR : mm_Rl D B t cI cZ s h H locs) (hB : B ≤ s.heap.size) : B + mm_n h ≤ H.size := by
  obtain ⟨hP, hD, hS, hn⟩ := hR
  by_cases h0 : mm_n h = 0
  · rw [h0]
    exact Nat.le_trans hB hS.1
  · have hlt : mm_n h - 1 < mm_n h := by omega
    have := (hP _ _ (mm_wl_get (B := B) (t := t) (cI := cI) (cZ := cZ) hlt)).lt
    simp only at this
    omega
set_option maxHeartbeats 4000000 in
set_option maxRecDepth 100000 in
theorem mm_step {ng : Bool} {n0 s0 : Nat} {ins : Instr} {len pp q : Nat} {s' : mm_S} (C : mm_Cx p R s m args meth c D B t cI cZ k) (hd : decode (mm_by k) pc = .ok (ins, len)) (hk : mm_ckP (mm_c k) pc ins pp q = true) (hlen : len = mm_ln ins len) (hs : mm_ins ng k pc ins len pp q ls st h = some s') (hk0 : mm_knd ins pp = 0)
    (hng : ng = true → s.heap.size = B + n0) (hn0 : n0 ≤ mm_n h) (hs0 : s0 ≤ mm_sl h) (hrc : mm_n s'.2.2.2 - n0 ≤ R.cells) (hrs : mm_sl s'.2.2.2 - s0 ≤ R.slots) (hR : mm_Rl D B t cI cZ s h H locs) (hL : mm_LR B t sl ls) (hll : ls.length = mm_mL k)
    (kk : ∀ H1 locs1 sl1, mm_Rl D B t cI cZ s s'.2.2.2 H1 locs1 → mm_LR B t sl1 s'.2.1 → W p l e R s m args below meth c H1 locs1 (mm_n s'.2.2.2 - n0) (mm_sl s'.2.2.2 - s0) Q (F0 m s'.1 sl1 (s'.2.2.1.map (mm_rv B t)))) :
    W p l e R s m args below meth c H locs (mm_n h - n0) (mm_sl h - s0) Q (F0 m pc sl (st.map (mm_rv B t))) := by
  obtain ⟨hx, hb, hml, hown, hts, hlocks, hret, hinit, hK, hN, hZ, hT, hB, hfr, hlo⟩ := id C
  cases ins with
  | iconst n =>
    obtain rfl : len = 1 := hlen
    obtain rfl := Option.some.inj hs
    exact lv_iconst hx hb hd rfl (kk H locs sl hR hL)
  | bipush n =>
    obtain rfl : len = 2 := hlen
    obtain rfl := Option.some.inj hs
    exact lv_bipush hx hb hd rfl (kk H locs sl hR hL)
  | sipush n =>
    obtain rfl : len = 3 := hlen
    obtain rfl := Option.some.inj hs
    exact lv_sipush hx hb hd rfl (kk H locs sl hR hL)
  | lconst n =>
    obtain rfl : len = 1 := hlen
    obtain rfl := Option.some.inj hs
    exact lv_lconst hx hb hd rfl (kk H locs sl hR hL)
  | fconst n =>
    obtain rfl : len = 1 := hlen
    obtain rfl := Option.some.inj hs
    match n, hd, kk with
    | 0, hd, kk => exact lv_fconst0 hx hb hd (kk H locs sl hR hL)
    | 1, hd, kk => exact lv_fconst1 hx hb hd (kk H locs sl hR hL)
    | 2, hd, kk => exact lv_fconst2 hx hb hd (kk H locs sl hR hL)
  | dconst n =>
    obtain rfl : len = 1 := hlen
    obtain rfl := Option.some.inj hs
    match n, hd, kk with
    | 0, hd, kk => exact lv_dconst0 hx hb hd (kk H locs sl hR hL)
    | 1, hd, kk => exact lv_dconst1 hx hb hd (kk H locs sl hR hL)
  | aconst_null =>
    obtain rfl : len = 1 := hlen
    obtain rfl := Option.some.inj hs
    exact lv_null hx hb hd (kk H locs sl hR hL)
  | ldc i =>
    obtain rfl : len = 2 := hlen
    by_cases h0 : q = 0
    · subst h0
      obtain rfl := Option.some.inj hs
      exact lv_ldc hx hb hown (hts _ (mm_cs0 hk)) hd (kk H locs sl hR hL)
    · simp only [mm_ckP, if_neg h0] at hk
      simp only [mm_ins, mm_beq_f h0, cond_false] at hs
      obtain rfl := Option.some.inj hs
      exact lv_ldcf hx hb hown (hts _ (mm_cs2 hk)) hd (kk H locs sl hR hL)
  | ldc_w i =>
    obtain rfl : len = 3 := hlen
    by_cases h0 : q = 0
    · subst h0
      obtain rfl := Option.some.inj hs
      exact lv_ldcw hx hb hown (hts _ (mm_cs0 hk)) hd (kk H locs sl hR hL)
    · simp only [mm_ckP, if_neg h0] at hk
      simp only [mm_ins, mm_beq_f h0, cond_false] at hs
      obtain rfl := Option.some.inj hs
      exact mm_ldcwF hx hb hown (hts _ (mm_cs2 hk)) hd (kk H locs sl hR hL)
  | ldc2_w i =>
    obtain rfl : len = 3 := hlen
    by_cases h0 : q = 0
    · subst h0
      obtain rfl := Option.some.inj hs
      exact lv_ldc2 hx hb hown (hts _ (mm_cs1 hk)) hd (kk H locs sl hR hL)
    · simp only [mm_ckP, if_neg h0] at hk
      simp only [mm_ins, mm_beq_f h0, cond_false] at hs
      obtain rfl := Option.some.inj hs
      exact lv_ldc2d hx hb hown (hts _ (mm_cs3 hk)) hd (kk H locs sl hR hL)
  | iload i =>
    obtain rfl : len = 2 := hlen
    obtain ⟨v, h1, h2, rfl⟩ := mm_ldv_inv hs
    cases v with
    | int x => exact lv_iload hx hb hd (hL.2.2 _ _ h1) (kk H locs sl hR hL)
    | _ => simp [mm_isI] at h2
  | iload_n i =>
    obtain rfl : len = 1 := hlen
    obtain ⟨v, h1, h2, rfl⟩ := mm_ldv_inv hs
    cases v with
    | int x => exact lv_iload_n hx hb hd rfl (hL.2.2 _ _ h1) (kk H locs sl hR hL)
    | _ => simp [mm_isI] at h2
  | lload i =>
    obtain rfl : len = 2 := hlen
    obtain ⟨v, h1, h2, rfl⟩ := mm_ldv_inv hs
    cases v with
    | long x => exact lv_lload hx hb hd (hL.2.2 _ _ h1) (kk H locs sl hR hL)
    | _ => simp [mm_isL] at h2
  | lload_n i =>
    obtain rfl : len = 1 := hlen
    obtain ⟨v, h1, h2, rfl⟩ := mm_ldv_inv hs
    cases v with
    | long x => exact lv_lload_n hx hb hd rfl (hL.2.2 _ _ h1) (kk H locs sl hR hL)
    | _ => simp [mm_isL] at h2
  | fload i =>
    obtain rfl : len = 2 := hlen
    obtain ⟨v, h1, h2, rfl⟩ := mm_ldv_inv hs
    cases v with
    | float x => exact lv_fload hx hb hd (hL.2.2 _ _ h1) (kk H locs sl hR hL)
    | _ => simp [mm_isF] at h2
  | fload_n i =>
    obtain rfl : len = 1 := hlen
    obtain ⟨v, h1, h2, rfl⟩ := mm_ldv_inv hs
    cases v with
    | float x => exact lv_fload_n hx hb hd rfl (hL.2.2 _ _ h1) (kk H locs sl hR hL)
    | _ => simp [mm_isF] at h2
  | dload i =>
    obtain rfl : len = 2 := hlen
    obtain ⟨v, h1, h2, rfl⟩ := mm_ldv_inv hs
    cases v with
    | double x => exact lv_dload hx hb hd (hL.2.2 _ _ h1) (kk H locs sl hR hL)
    | _ => simp [mm_isD] at h2
  | dload_n i =>
    obtain rfl : len = 1 := hlen
    obtain ⟨v, h1, h2, rfl⟩ := mm_ldv_inv hs
    cases v with
    | double x => exact lv_dload_n hx hb hd rfl (hL.2.2 _ _ h1) (kk H locs sl hR hL)
    | _ => simp [mm_isD] at h2
  | aload i =>
    obtain rfl : len = 2 := hlen
    obtain ⟨v, h1, h2, rfl⟩ := mm_ldv_inv hs
    cases v with
    | ref x => exact lv_aload hx hb hd (hL.2.2 _ _ h1) (kk H locs sl hR hL)
    | null => exact lv_aloadN hx hb hd (hL.2.2 _ _ h1) (kk H locs sl hR hL)
    | _ => simp [mm_isA] at h2
  | aload_n i =>
    obtain rfl : len = 1 := hlen
    obtain ⟨v, h1, h2, rfl⟩ := mm_ldv_inv hs
    cases v with
    | ref x => exact lv_aload_n hx hb hd rfl (hL.2.2 _ _ h1) (kk H locs sl hR hL)
    | null => exact lv_aload_nN hx hb hd rfl (hL.2.2 _ _ h1) (kk H locs sl hR hL)
    | _ => simp [mm_isA] at h2
  | istore i =>
    obtain rfl : len = 2 := hlen
    obtain ⟨v, r, rfl, h2, h3, rfl⟩ := mm_stv_inv hs
    cases v with
    | int x => exact lv_istore hx hb hd hL.has h3 rfl (fun sl1 hl1 => kk H locs sl1 hR (mm_LR.of1 h3 hl1))
    | _ => simp [mm_isI] at h2
  | istore_n i =>
    obtain rfl : len = 1 := hlen
    obtain ⟨v, r, rfl, h2, h3, rfl⟩ := mm_stv_inv hs
    cases v with
    | int x => exact lv_istore_n hx hb hd rfl hL.has h3 rfl (fun sl1 hl1 => kk H locs sl1 hR (mm_LR.of1 h3 hl1))
    | _ => simp [mm_isI] at h2
  | lstore i =>
    obtain rfl : len = 2 := hlen
    obtain ⟨v, r, rfl, h2, h3, rfl⟩ := mm_stv_inv hs
    cases v with
    | long x => exact lv_lstore hx hb hd hL.has h3 rfl (fun sl1 hl1 => kk H locs sl1 hR (mm_LR.of2 h3 hl1))
    | _ => simp [mm_isL] at h2
  | lstore_n i =>
    obtain rfl : len = 1 := hlen
    obtain ⟨v, r, rfl, h2, h3, rfl⟩ := mm_stv_inv hs
    cases v with
    | long x => exact lv_lstore_n hx hb hd rfl hL.has h3 rfl (fun sl1 hl1 => kk H locs sl1 hR (mm_LR.of2 h3 hl1))
    | _ => simp [mm_isL] at h2
  | fstore i =>
    obtain rfl : len = 2 := hlen
    obtain ⟨v, r, rfl, h2, h3, rfl⟩ := mm_stv_inv hs
    cases v with
    | float x => exact lv_fstore hx hb hd hL.has h3 rfl (fun sl1 hl1 => kk H locs sl1 hR (mm_LR.of1 h3 hl1))
    | _ => simp [mm_isF] at h2
  | fstore_n i =>
    obtain rfl : len = 1 := hlen
    obtain ⟨v, r, rfl, h2, h3, rfl⟩ := mm_stv_inv hs
    cases v with
    | float x => exact lv_fstore_n hx hb hd rfl hL.has h3 rfl (fun sl1 hl1 => kk H locs sl1 hR (mm_LR.of1 h3 hl1))
    | _ => simp [mm_isF] at h2
  | dstore i =>
    obtain rfl : len = 2 := hlen
    obtain ⟨v, r, rfl, h2, h3, rfl⟩ := mm_stv_inv hs
    cases v with
    | double x => exact lv_dstore hx hb hd hL.has h3 rfl (fun sl1 hl1 => kk H locs sl1 hR (mm_LR.of2 h3 hl1))
    | _ => simp [mm_isD] at h2
  | dstore_n i =>
    obtain rfl : len = 1 := hlen
    obtain ⟨v, r, rfl, h2, h3, rfl⟩ := mm_stv_inv hs
    cases v with
    | double x => exact lv_dstore_n hx hb hd rfl hL.has h3 rfl (fun sl1 hl1 => kk H locs sl1 hR (mm_LR.of2 h3 hl1))
    | _ => simp [mm_isD] at h2
  | astore i =>
    obtain rfl : len = 2 := hlen
    obtain ⟨v, r, rfl, h2, h3, rfl⟩ := mm_stv_inv hs
    cases v with
    | ref x => exact lv_astore hx hb hd hL.has h3 rfl (fun sl1 hl1 => kk H locs sl1 hR (mm_LR.of1 h3 hl1))
    | null => exact lv_astoreN hx hb hd hL.has h3 rfl (fun sl1 hl1 => kk H locs sl1 hR (mm_LR.of1 h3 hl1))
    | _ => simp [mm_isA] at h2
  | astore_n i =>
    obtain rfl : len = 1 := hlen
    obtain ⟨v, r, rfl, h2, h3, rfl⟩ := mm_stv_inv hs
    cases v with
    | ref x => exact lv_astore_n hx hb hd rfl hL.has h3 rfl (fun sl1 hl1 => kk H locs sl1 hR (mm_LR.of1 h3 hl1))
    | null => exact lv_astore_nN hx hb hd rfl hL.has h3 rfl (fun sl1 hl1 => kk H locs sl1 hR (mm_LR.of1 h3 hl1))
    | _ => simp [mm_isA] at h2
  | iinc i cc =>
    obtain rfl : len = 3 := hlen
    simp only [mm_ins] at hs
    have hs : (match mm_ld ls i with
      | some (.int x) => some (pc + 3, mm_s1 ls i (.int (x + Int32.ofInt cc)), st, h)
      | _ => none) = some s' := hs
    split at hs
    · rename_i x hv
      obtain rfl := Option.some.inj hs
      obtain ⟨j, hj⟩ := mm_mem_pos (mm_asc_mem (B := B) (t := t) hv)
      exact lv_iinc hx hb hd hL.has hj rfl (mm_ld_lt hv) rfl (fun sl1 hl1 => kk H locs sl1 hR (mm_LR.of1 (mm_ld_lt hv) hl1))
    · cases hs
  | iadd =>
    obtain rfl : len = 1 := hlen
    obtain ⟨x, y, r, rfl, rfl⟩ := mm_i2_inv hs
    exact lv_iadd hx hb hd (kk H locs sl hR hL)
  | isub =>
    obtain rfl : len = 1 := hlen
    obtain ⟨x, y, r, rfl, rfl⟩ := mm_i2_inv hs
    exact lv_isub hx hb hd (kk H locs sl hR hL)
  | imul =>
    obtain rfl : len = 1 := hlen
    obtain ⟨x, y, r, rfl, rfl⟩ := mm_i2_inv hs
    exact lv_imul hx hb hd (kk H locs sl hR hL)
  | iand =>
    obtain rfl : len = 1 := hlen
    obtain ⟨x, y, r, rfl, rfl⟩ := mm_i2_inv hs
    exact lv_iand hx hb hd (kk H locs sl hR hL)
  | ior =>
    obtain rfl : len = 1 := hlen
    obtain ⟨x, y, r, rfl, rfl⟩ := mm_i2_inv hs
    exact lv_ior hx hb hd (kk H locs sl hR hL)
  | ixor =>
    obtain rfl : len = 1 := hlen
    obtain ⟨x, y, r, rfl, rfl⟩ := mm_i2_inv hs
    exact lv_ixor hx hb hd (kk H locs sl hR hL)
  | ishl =>
    obtain rfl : len = 1 := hlen
    obtain ⟨x, y, r, rfl, rfl⟩ := mm_i2_inv hs
    exact lv_ishl hx hb hd (kk H locs sl hR hL)
  | ishr =>
    obtain rfl : len = 1 := hlen
    obtain ⟨x, y, r, rfl, rfl⟩ := mm_i2_inv hs
    exact lv_ishr hx hb hd (kk H locs sl hR hL)
  | iushr =>
    obtain rfl : len = 1 := hlen
    obtain ⟨x, y, r, rfl, rfl⟩ := mm_i2_inv hs
    exact lv_iushr hx hb hd rfl (kk H locs sl hR hL)
  | idiv =>
    obtain rfl : len = 1 := hlen
    obtain ⟨x, y, r, rfl, hy, rfl⟩ := mm_dv_inv hs
    exact lv_idiv hx hb hd hy (kk H locs sl hR hL)
  | irem =>
    obtain rfl : len = 1 := hlen
    obtain ⟨x, y, r, rfl, hy, rfl⟩ := mm_dv_inv hs
    exact lv_irem hx hb hd hy (kk H locs sl hR hL)
  | ineg =>
    obtain rfl : len = 1 := hlen
    obtain ⟨x, r, rfl, rfl⟩ := mm_i1_inv hs
    exact lv_ineg hx hb hd (kk H locs sl hR hL)
  | i2l =>
    obtain rfl : len = 1 := hlen
    obtain ⟨x, r, rfl, rfl⟩ := mm_i1_inv hs
    exact lv_i2l hx hb hd rfl (kk H locs sl hR hL)
  | i2b =>
    obtain rfl : len = 1 := hlen
    obtain ⟨x, r, rfl, rfl⟩ := mm_i1_inv hs
    exact lv_i2b hx hb hd rfl (kk H locs sl hR hL)
  | i2f =>
    obtain rfl : len = 1 := hlen
    obtain ⟨x, r, rfl, rfl⟩ := mm_i1_inv hs
    exact lv_i2f hx hb hd (kk H locs sl hR hL)
  | i2d =>
    obtain rfl : len = 1 := hlen
    obtain ⟨x, r, rfl, rfl⟩ := mm_i1_inv hs
    exact lv_i2d hx hb hd (kk H locs sl hR hL)
  | l2i =>
    obtain rfl : len = 1 := hlen
    obtain ⟨x, r, rfl, rfl⟩ := mm_l1_inv hs
    exact lv_l2i hx hb hd rfl (kk H locs sl hR hL)
  | l2d =>
    obtain rfl : len = 1 := hlen
    obtain ⟨x, r, rfl, rfl⟩ := mm_l1_inv hs
    exact lv_l2d hx hb hd (kk H locs sl hR hL)
  | ladd =>
    obtain rfl : len = 1 := hlen
    obtain ⟨x, y, r, rfl, rfl⟩ := mm_l2_inv hs
    exact lv_ladd hx hb hd (kk H locs sl hR hL)
  | lsub =>
    obtain rfl : len = 1 := hlen
    obtain ⟨x, y, r, rfl, rfl⟩ := mm_l2_inv hs
    exact lv_lsub hx hb hd (kk H locs sl hR hL)
  | lmul =>
    obtain rfl : len = 1 := hlen
    obtain ⟨x, y, r, rfl, rfl⟩ := mm_l2_inv hs
    exact lv_lmul hx hb hd (kk H locs sl hR hL)
  | land =>
    obtain rfl : len = 1 := hlen
    obtain ⟨x, y, r, rfl, rfl⟩ := mm_l2_inv hs
    exact lv_land hx hb hd (kk H locs sl hR hL)
  | lor =>
    obtain rfl : len = 1 := hlen
    obtain ⟨x, y, r, rfl, rfl⟩ := mm_l2_inv hs
    exact lv_lor hx hb hd (kk H locs sl hR hL)
  | lcmp =>
    obtain rfl : len = 1 := hlen
    obtain ⟨x, y, r, rfl, rfl⟩ := mm_l2_inv hs
    exact W.lcmp hx hb hd (kk H locs sl hR hL)
  | lshl =>
    obtain rfl : len = 1 := hlen
    obtain ⟨x, y, r, rfl, rfl⟩ := mm_li_inv hs
    exact lv_lshl hx hb hd rfl (kk H locs sl hR hL)
  | lshr =>
    obtain rfl : len = 1 := hlen
    obtain ⟨x, y, r, rfl, rfl⟩ := mm_li_inv hs
    exact lv_lshr hx hb hd rfl (kk H locs sl hR hL)
  | lushr =>
    obtain rfl : len = 1 := hlen
    obtain ⟨x, y, r, rfl, rfl⟩ := mm_li_inv hs
    exact lv_lushr hx hb hd rfl (kk H locs sl hR hL)
  | fdiv =>
    obtain rfl : len = 1 := hlen
    obtain ⟨x, y, r, rfl, hy, rfl⟩ := mm_f2_inv hs
    exact lv_fdiv hx hb hd hy (kk H locs sl hR hL)
  | fmul =>
    obtain rfl : len = 1 := hlen
    obtain ⟨x, y, r, rfl, hy, rfl⟩ := mm_f2_inv hs
    exact lv_fmul hx hb hd hy (kk H locs sl hR hL)
  | ddiv =>
    obtain rfl : len = 1 := hlen
    obtain ⟨x, y, r, rfl, hy, rfl⟩ := mm_d2_inv hs
    exact lv_ddiv hx hb hd hy (kk H locs sl hR hL)
  | dmul =>
    obtain rfl : len = 1 := hlen
    obtain ⟨x, y, r, rfl, hy, rfl⟩ := mm_d2_inv hs
    exact lv_dmul hx hb hd hy (kk H locs sl hR hL)
  | fcmp o =>
    obtain rfl : len = 1 := hlen
    simp only [mm_ins] at hs
    split at hs
    · obtain rfl := Option.some.inj hs
      exact lv_fcmp hx hb hd (kk H locs sl hR hL)
    · cases hs
  | dcmp o =>
    obtain rfl : len = 1 := hlen
    simp only [mm_ins] at hs
    split at hs
    · obtain rfl := Option.some.inj hs
      exact lv_dcmp hx hb hd (kk H locs sl hR hL)
    · cases hs
  | f2i =>
    obtain rfl : len = 1 := hlen
    simp only [mm_ins] at hs
    split at hs
    · obtain rfl := Option.some.inj hs
      exact lv_f2i hx hb hd (kk H locs sl hR hL)
    · cases hs
  | d2l =>
    obtain rfl : len = 1 := hlen
    simp only [mm_ins] at hs
    split at hs
    · obtain rfl := Option.some.inj hs
      exact lv_d2l hx hb hd (kk H locs sl hR hL)
    · cases hs
  | dup =>
    obtain rfl : len = 1 := hlen
    simp only [mm_ins] at hs
    split at hs
    · obtain ⟨h1, h2⟩ := mm_cond_inv hs
      obtain rfl := Option.some.inj h2
      exact lv_dup hx hb hd (by rw [mm_rv_cat]; exact (mm_beq_iff _ _).mp h1) (kk H locs sl hR hL)
    · cases hs
  | pop =>
    obtain rfl : len = 1 := hlen
    simp only [mm_ins] at hs
    split at hs
    · obtain ⟨h1, h2⟩ := mm_cond_inv hs
      obtain rfl := Option.some.inj h2
      exact lv_pop hx hb hd (by rw [mm_rv_cat]; exact (mm_beq_iff _ _).mp h1) (kk H locs sl hR hL)
    · cases hs
  | dup2 =>
    obtain rfl : len = 1 := hlen
    simp only [mm_ins] at hs
    split at hs
    · obtain ⟨h1, h2⟩ := mm_cond_inv hs
      obtain rfl := Option.some.inj h2
      rw [Bool.and_eq_true, mm_beq_iff, mm_beq_iff] at h1
      exact lv_dup2_11 hx hb hd (by rw [mm_rv_cat]; exact h1.1) (by rw [mm_rv_cat]; exact h1.2) (kk H locs sl hR hL)
    · cases hs
  | goto off =>
    obtain rfl : len = 3 := hlen
    obtain rfl := Option.some.inj hs
    exact lv_goto hx hb hd (of_decide_eq_true hk) (kk H locs sl hR hL)
  | ifCond cnd off =>
    obtain rfl : len = 3 := hlen
    obtain ⟨x, r, rfl, rfl⟩ := mm_bi_inv hs
    have ht : (pc : Int) + off = (pp : Int) := of_decide_eq_true hk
    have kt : ∀ hc : mm_cI cnd x 0 = true, W p l e R s m args below meth c H locs (mm_n h - n0) (mm_sl h - s0) Q (F0 m pp sl (r.map (mm_rv B t))) := fun hc => by
      have := kk H locs sl hR hL
      simp only [hc, cond_true] at this
      exact this
    have kf : ∀ hc : mm_cI cnd x 0 = false, W p l e R s m args below meth c H locs (mm_n h - n0) (mm_sl h - s0) Q (F0 m (pc + 3) sl (r.map (mm_rv B t))) := fun hc => by
      have := kk H locs sl hR hL
      simp only [hc, cond_false] at this
      exact this
    cases cnd with
    | eq => exact lv_if_eq hx hb hd ht (fun hc => kt (decide_eq_true hc)) (fun hc => kf (decide_eq_false hc))
    | ne => exact lv_if_ne hx hb hd ht (fun hc => kt (decide_eq_true hc)) (fun hc => kf (decide_eq_false (fun z => z hc)))
    | lt => exact lv_if_lt hx hb hd ht (fun hc => kt (decide_eq_true hc)) (fun hc => kf (decide_eq_false hc))
    | ge => exact lv_if_ge hx hb hd ht (fun hc => kt (decide_eq_true hc)) (fun hc => kf (decide_eq_false hc))
    | gt => exact lv_if_gt hx hb hd ht (fun hc => kt (decide_eq_true hc)) (fun hc => kf (decide_eq_false hc))
    | le => exact lv_if_le hx hb hd ht (fun hc => kt (decide_eq_true hc)) (fun hc => kf (decide_eq_false hc))
  | if_icmp cnd off =>
    obtain rfl : len = 3 := hlen
    obtain ⟨x, y, r, rfl, rfl⟩ := mm_bi2_inv hs
    have ht : (pc : Int) + off = (pp : Int) := of_decide_eq_true hk
    have kt : ∀ hc : mm_cI cnd x y = true, W p l e R s m args below meth c H locs (mm_n h - n0) (mm_sl h - s0) Q (F0 m pp sl (r.map (mm_rv B t))) := fun hc => by
      have := kk H locs sl hR hL
      simp only [hc, cond_true] at this
      exact this
    have kf : ∀ hc : mm_cI cnd x y = false, W p l e R s m args below meth c H locs (mm_n h - n0) (mm_sl h - s0) Q (F0 m (pc + 3) sl (r.map (mm_rv B t))) := fun hc => by
      have := kk H locs sl hR hL
      simp only [hc, cond_false] at this
      exact this
    cases cnd with
    | eq => exact lv_icmp_eq hx hb hd ht (fun hc => kt (decide_eq_true hc)) (fun hc => kf (decide_eq_false hc))
    | ne => exact lv_icmp_ne hx hb hd ht (fun hc => kt (decide_eq_true hc)) (fun hc => kf (decide_eq_false (fun z => z hc)))
    | lt => exact lv_icmp_lt hx hb hd ht (fun hc => kt (decide_eq_true hc)) (fun hc => kf (decide_eq_false hc))
    | ge => exact lv_icmp_ge hx hb hd ht (fun hc => kt (decide_eq_true hc)) (fun hc => kf (decide_eq_false hc))
    | gt => exact lv_icmp_gt hx hb hd ht (fun hc => kt (decide_eq_true hc)) (fun hc => kf (decide_eq_false hc))
    | le => exact lv_icmp_le hx hb hd ht (fun hc => kt (decide_eq_true hc)) (fun hc => kf (decide_eq_false hc))
  | ifnull off =>
    obtain rfl : len = 3 := hlen
    have ht : (pc : Int) + off = (pp : Int) := of_decide_eq_true hk
    simp only [mm_ins, mm_bn] at hs
    split at hs
    · obtain rfl := Option.some.inj hs
      exact lv_ifnullN hx hb hd ht (kk H locs sl hR hL)
    · obtain rfl := Option.some.inj hs
      exact lv_ifnull hx hb hd (kk H locs sl hR hL)
    · cases hs
  | ifnonnull off =>
    obtain rfl : len = 3 := hlen
    have ht : (pc : Int) + off = (pp : Int) := of_decide_eq_true hk
    simp only [mm_ins, mm_bn] at hs
    split at hs
    · obtain rfl := Option.some.inj hs
      exact lv_ifnonnullN hx hb hd (kk H locs sl hR hL)
    · obtain rfl := Option.some.inj hs
      exact lv_ifnonnull hx hb hd ht (kk H locs sl hR hL)
    · cases hs
  | tableswitch dd lo hi offs =>
    simp only [mm_ins] at hs
    split at hs
    · split at hs
      · rename_i tg hsw
        obtain rfl := Option.some.inj hs
        unfold mm_sw at hsw
        split at hsw
        · rename_i hout
          split at hsw
          · cases hsw
          · rename_i h0
            obtain rfl := Option.some.inj hsw
            exact lv_tableOut hx hb hd hout (by omega) (kk H locs sl hR hL)
        · rename_i hout
          split at hsw
          · rename_i o ho
            split at hsw
            · cases hsw
            · rename_i h0
              obtain rfl := Option.some.inj hsw
              exact lv_tableIn hx hb hd (fun z => hout (Or.inl z)) (fun z => hout (Or.inr z)) ho (by omega) (kk H locs sl hR hL)
          · cases hsw
      · cases hs
    · cases hs
  | getfield ix =>
    obtain rfl : len = 3 := hlen
    obtain ⟨a, r, rfl, ha, hKa, rfl⟩ := mm_gf_inv hs
    obtain ⟨g1, g2, g3⟩ := mm_fl_ok hk
    obtain ⟨c1, c2, c3, c4⟩ := mm_cl g3
    obtain ⟨hP, hD, hS, hn⟩ := id hR
    have hget := mm_wl_get (B := B) (t := t) (cI := cI) (cZ := cZ) ha
    rw [mm_cel_obj hKa g3] at hget
    rw [List.map_cons, mm_rv_ref ha hn]
    exact va_get hx hb hts c2 hown hK hP a hget c1 q g2 (hts _ g1) (fun _ z => z) (mm_fs_get g2) hd (kk H locs sl hR hL)
  | putfield ix =>
    obtain rfl : len = 3 := hlen
    obtain ⟨v, a, r, h', rfl, ha, hKa, hfi, hpf, rfl⟩ := mm_pf_inv hs
    obtain ⟨g1, g2, g3⟩ := mm_fl_ok hk
    obtain ⟨c1, c2, c3, c4⟩ := mm_cl g3
    obtain ⟨hP, hD, hS, hn⟩ := id hR
    have hget := mm_wl_get (B := B) (t := t) (cI := cI) (cZ := cZ) ha
    rw [mm_cel_obj hKa g3] at hget
    rw [List.map_cons, List.map_cons, mm_rv_ref ha hn]
    have hfl : q < ((List.range (mm_N pp)).map (fun s => mm_rv B t (mm_fv h pp a s))).length := by simp [g2]
    have hty := c3 q g2
    -- what the store comes to
    have key : mm_n h' = mm_n h ∧ mm_sl h' = mm_sl h ∧ mm_K h' a = mm_K h a ∧ mm_rv B t (mm_fv h' pp a q) = mm_rv B t v ∧ (∀ j, j ≠ q → mm_fv h' pp a j = mm_fv h pp a j) ∧ (∀ b, b ≠ a → mm_cel B t cI cZ h' b = mm_cel B t cI cZ h b) ∧ narrow (mm_ty pp q) (mm_rv B t v) = mm_rv B t v ∧ fits (mm_ty pp q) (mm_rv B t v) = true := by
      rcases hpf with ⟨x, rfl, rfl, hf⟩ | ⟨b, rfl, rfl, hf, hbn⟩
      · have hf2 : mm_ft pp q ≠ 2 := by rcases hf with z | z <;> omega
        refine ⟨rfl, rfl, rfl, by rw [mm_fv_up hf2], fun j hj => mm_fv_upo hj, fun b hb => mm_cel_up hb, ?_⟩
        rcases hf with z | ⟨z, hx01⟩
        · rw [mm_ft0 z]
          exact ⟨rfl, rfl⟩
        · rw [mm_ft1 z]
          rcases hx01 with rfl | rfl <;> exact ⟨rfl, rfl⟩
      · refine ⟨rfl, rfl, rfl, ?_, fun j hj => ?_, fun b hb => mm_cel_sR hb, ?_⟩
        · unfold mm_fv
          rw [(mm_beq_iff _ _).mpr hf, mm_sR_s]
          rfl
        · unfold mm_fv
          rw [mm_sR_R (fun z => hj z.2)]
          rfl
        · rcases mm_ft2 hf with ⟨o, z⟩ | ⟨o, z⟩ <;> rw [z] <;> exact ⟨rfl, rfl⟩
    obtain ⟨k1, k1s, k2, k3, k4, k5, k6, k7⟩ := key
    have hset : (mm_wl B t cI cZ h).set a (B + a, .inr (pp, ((List.range (mm_N pp)).map (fun s => mm_rv B t (mm_fv h pp a s))).set q (mm_rv B t v))) = mm_wl B t cI cZ h' := by
      refine mm_wl_set k1 ?_ k5
      rw [mm_cel_obj (k2.trans hKa) g3, mm_fs_set k3 k4]
    have kk2 : ∀ (H1 : Heap) (locs1 : List Loc), va_P D vwCl ((mm_wl B t cI cZ h).set a (B + a, .inr (pp, ((List.range (mm_N pp)).map (fun s => mm_rv B t (mm_fv h pp a s))).set q (mm_rv B t v)))) H1 → va_D (fun q => B ≤ q) ((mm_wl B t cI cZ h).set a (B + a, .inr (pp, ((List.range (mm_N pp)).map (fun s => mm_rv B t (mm_fv h pp a s))).set q (mm_rv B t v)))) → va_S (fun q => B ≤ q) s.heap H1 locs1 → W p l e R s m args below meth c H1 locs1 (mm_n h - n0) (mm_sl h - s0) Q (F0 m (pc + 3) sl (r.map (mm_rv B t))) := by
      intro H1 locs1 a1 a2 a3
      rw [hset] at a1 a2
      have := kk H1 locs1 sl ⟨a1, a2, a3, by show mm_n h' ≤ 4000; omega⟩ hL
      simp only [k1, k1s] at this
      exact this
    by_cases hf : mm_fin pp q = false
    · exact va_put hx hb hts c2 (mm_ty pp) c3 c4 hown hK hP hD hS a hget c1 q g2 (hts _ g1) (fun _ z => z) hf hty k6 k7 hfl hd kk2
    · rcases hfi with z | ⟨z1, z2⟩
      · exact absurd z hf
      · refine va_putF hx hb hts c2 (mm_ty pp) c3 c4 hown hK hP hD hS a hget c1 q g2 (hts _ g1) (fun _ z => z) (by cases hff : mm_fin pp q with | true => exact hff | false => exact absurd hff hf) (hinit z1) ?_ hty k6 k7 hfl hd kk2
        rw [z2]
        exact mm_own pp g3 q g2
  | getstatic ix =>
    obtain rfl : len = 3 := hlen
    obtain rfl := Option.some.inj hs
    obtain ⟨ho, hi⟩ : mm_c k = 9 ∧ ix = 151 := of_decide_eq_true hk
    subst hi
    rw [ho] at hown
    have := kk H locs sl hR hL
    exact va_gets hx hb hZ hR.2.2.1 hown (hts _ mm_fx) (fun _ z => z) hd this
  | iaload =>
    obtain rfl : len = 1 := hlen
    obtain ⟨i, a, r, rfl, hcase⟩ := mm_al_inv hs
    rcases hcase with ⟨-, rfl, hin, rfl⟩ | ⟨ha, hKa, hin, rfl⟩
    · exact va_ti hx hb hT hR.2.2.1 hin rfl hd (kk H locs sl hR hL)
    · obtain ⟨hP, hD, hS, hn⟩ := id hR
      have hget := mm_wl_get (B := B) (t := t) (cI := cI) (cZ := cZ) ha
      rw [mm_cel_arr hKa] at hget
      rw [List.map_cons, List.map_cons, mm_rv_ref ha hn]
      exact va_iald hx hb hK hP a 0 hget rfl hin hd (kk H locs sl hR hL)
  | baload =>
    obtain rfl : len = 1 := hlen
    obtain ⟨i, a, r, rfl, hcase⟩ := mm_al_inv hs
    rcases hcase with ⟨z, -⟩ | ⟨ha, hKa, hin, rfl⟩
    · cases z
    · obtain ⟨hP, hD, hS, hn⟩ := id hR
      have hget := mm_wl_get (B := B) (t := t) (cI := cI) (cZ := cZ) ha
      rw [mm_cel_boo hKa] at hget
      rw [List.map_cons, List.map_cons, mm_rv_ref ha hn]
      exact va_zald hx hb hK hP a 1 hget rfl hin hd (kk H locs sl hR hL)
  | iastore =>
    obtain rfl : len = 1 := hlen
    obtain ⟨x, i, a, r, rfl, ha, hKa, hin, -, rfl⟩ := mm_as_inv hs
    obtain ⟨hP, hD, hS, hn⟩ := id hR
    have hget := mm_wl_get (B := B) (t := t) (cI := cI) (cZ := cZ) ha
    rw [mm_cel_arr hKa] at hget
    rw [List.map_cons, List.map_cons, List.map_cons, mm_rv_ref ha hn]
    refine va_iast hx hb hK hP hD hS a 0 hget rfl hin hd (fun H1 locs1 a1 a2 a3 => ?_)
    have hset : (mm_wl B t cI cZ h).set a (B + a, .inl (cI, mm_L h a, .inl (upd (mm_G h a) i.toNatClampNeg x))) = mm_wl B t cI cZ (h.1, mm_up h.2 a i.toNatClampNeg x) := by
      refine mm_wl_set rfl ?_ (fun b hb => mm_cel_up hb)
      rw [mm_cel_arr (h := (h.1, mm_up h.2 a i.toNatClampNeg x)) hKa]
      rw [show mm_G (h.1, mm_up h.2 a i.toNatClampNeg x) a = upd (mm_G h a) i.toNatClampNeg x from mm_up_at _ _ _ _]
      rfl
    rw [hset] at a1 a2
    exact kk H1 locs1 sl ⟨a1, a2, a3, hn⟩ hL
  | bastore =>
    obtain rfl : len = 1 := hlen
    obtain ⟨x, i, a, r, rfl, ha, hKa, hin, hx01, rfl⟩ := mm_as_inv hs
    obtain ⟨hP, hD, hS, hn⟩ := id hR
    have hget := mm_wl_get (B := B) (t := t) (cI := cI) (cZ := cZ) ha
    rw [mm_cel_boo hKa] at hget
    rw [List.map_cons, List.map_cons, List.map_cons, mm_rv_ref ha hn]
    refine va_zast hx hb hK hP hD hS a 1 hget rfl hin hd (fun H1 locs1 a1 a2 a3 => ?_)
    have hnr : vp_nar .boolean x = x := by
      rcases hx01 with z | z | z
      · cases z
      · subst z; rfl
      · subst z; rfl
    have hset : (mm_wl B t cI cZ h).set a (B + a, .inl (cZ, mm_L h a, .inl (upd (mm_G h a) i.toNatClampNeg (vp_nar .boolean x)))) = mm_wl B t cI cZ (h.1, mm_up h.2 a i.toNatClampNeg x) := by
      refine mm_wl_set rfl ?_ (fun b hb => mm_cel_up hb)
      rw [mm_cel_boo (h := (h.1, mm_up h.2 a i.toNatClampNeg x)) hKa, hnr]
      rw [show mm_G (h.1, mm_up h.2 a i.toNatClampNeg x) a = upd (mm_G h a) i.toNatClampNeg x from mm_up_at _ _ _ _]
      rfl
    rw [hset] at a1 a2
    exact kk H1 locs1 sl ⟨a1, a2, a3, hn⟩ hL
  | arraylength =>
    obtain rfl : len = 1 := hlen
    obtain ⟨a, r, rfl, ha, hKa, rfl⟩ := mm_len_inv hs
    obtain ⟨hP, hD, hS, hn⟩ := id hR
    have hget := mm_wl_get (B := B) (t := t) (cI := cI) (cZ := cZ) ha
    rw [mm_cel_arr hKa] at hget
    rw [List.map_cons, mm_rv_ref ha hn]
    exact va_alen hx hb hK hP a 0 hget rfl rfl hd (kk H locs sl hR hL)
  | new ix =>
    obtain rfl : len = 3 := hlen
    obtain ⟨hngT, hn4, rfl⟩ := mm_nw1_inv hs
    have hp : pp < 100 := by
      simp only [mm_knd] at hk0
      cases hb0 : Nat.blt pp 100 with
      | true => exact (mm_blt_iff _ _).mp hb0
      | false => rw [hb0] at hk0; cases hk0
    simp only [mm_ckP, if_pos hp, Bool.and_eq_true, decide_eq_true_eq] at hk
    obtain ⟨g1, g2, g3, g4⟩ := mm_nl_ok hk.1
    obtain ⟨c1, c2, c3, c4⟩ := mm_cl g4
    obtain ⟨hP, hD, hS, hn⟩ := id hR
    have hq0 := hk.2
    subst hq0
    have e1 : mm_n (mm_add h pp (mm_N pp)) = mm_n h + 1 := rfl
    have e2 : mm_sl (mm_add h pp (mm_N pp)) = mm_sl h + mm_N pp := rfl
    have hce : mm_n h + 1 - n0 = mm_n h - n0 + 1 := by omega
    have hse : mm_sl h + mm_N pp - s0 = mm_sl h - s0 + mm_N pp := by omega
    have hrc' : mm_n h - n0 + 1 ≤ R.cells := by rw [← hce]; exact hrc
    have hrs' : mm_sl h - s0 + mm_N pp ≤ R.slots := by rw [← hse]; exact hrs
    refine va_new (ci := pp) (fs := (List.range (mm_N pp)).map (fun s => mm_rv B t (mm_fv (mm_add h pp (mm_N pp)) pp (mm_n h) s))) hx hb hts c2 (mm_ty pp) c3 hown (hts _ g1) (hts _ g2) (hts _ g3) hK hP hD hS (fun q hq => Nat.le_trans hB hq) c1 (fun j hj => ?_) hrc' hrs' hd (fun qa H1 a1 a2 a3 => ?_)
    · have hg := mm_fs_get (B := B) (t := t) (h := mm_add h pp (mm_N pp)) (c := pp) (a := mm_n h) hj
      unfold vp_V
      rw [List.getD_eq_getElem?_getD, hg]
      have hf := mm_ft_le pp g4 j hj
      show _ = mm_rv B t (mm_fv (mm_add h pp (mm_N pp)) pp (mm_n h) j)
      unfold mm_fv
      rw [mm_add_R, congrFun mm_add_G j]
      rcases Nat.lt_or_ge (mm_ft pp j) 2 with z | z
      · rw [mm_beq_f (by omega)]
        rcases (by omega : mm_ft pp j = 0 ∨ mm_ft pp j = 1) with z | z
        · rw [mm_ft0 z]; rfl
        · rw [mm_ft1 z]; rfl
      · have z2 : mm_ft pp j = 2 := by omega
        rw [(mm_beq_iff _ _).mpr z2]
        rcases mm_ft2 z2 with ⟨o, z⟩ | ⟨o, z⟩ <;> rw [z] <;> rfl
    · refine mm_Wsz (fun hsz => ?_)
      have hlow := mm_low hR hB
      have hs1 := hng hngT
      have hlen : (mm_wl B t cI cZ h).length = mm_n h := by simp [mm_wl]
      have hat : (mm_wl B t cI cZ h ++ [(qa, (.inr (pp, (List.range (mm_N pp)).map (fun s => mm_rv B t (mm_fv (mm_add h pp (mm_N pp)) pp (mm_n h) s))) : va_E))])[mm_n h]? = some (qa, .inr (pp, (List.range (mm_N pp)).map (fun s => mm_rv B t (mm_fv (mm_add h pp (mm_N pp)) pp (mm_n h) s)))) := by
        rw [List.getElem?_append_right (by omega), hlen, Nat.sub_self]
        rfl
      have q1 : B ≤ qa := a2.2 _ _ hat
      have q2 : qa < H1.size := (a1 _ _ hat).lt
      have q3 : ¬ qa < B + mm_n h := fun z => by
        have hj : qa - B < mm_n h := by omega
        have hat2 : (mm_wl B t cI cZ h ++ [(qa, (.inr (pp, (List.range (mm_N pp)).map (fun s => mm_rv B t (mm_fv (mm_add h pp (mm_N pp)) pp (mm_n h) s))) : va_E))])[qa - B]? = some (B + (qa - B), mm_cel B t cI cZ h (qa - B)) := by
          rw [List.getElem?_append_left (by omega), mm_wl_get hj]
        have := a2.1 _ _ _ _ hat2 hat (by simp only; omega)
        omega
      have hqe : qa = B + mm_n h := by omega
      subst hqe
      have hadd := mm_wl_add (B := B) (t := t) (cI := cI) (cZ := cZ) (h := h) (h' := mm_add h pp (mm_N pp)) rfl (mm_cel_obj mm_add_K g4) (fun b hb => mm_cel_add hb)
      rw [hadd] at a1 a2
      have := kk H1 locs sl ⟨a1, a2, a3, by show mm_n h + 1 ≤ 4000; omega⟩ hL
      have er : mm_rv B t (.ref (mm_n h)) = .ref (B + mm_n h) := by
        show Value.ref (mm_ad B t (mm_n h)) = _
        rw [mm_ad_lt (n := mm_n h + 1) (by omega) (by omega)]
      simp only [e1, e2, List.map_cons, er, hce, hse] at this
      exact this
  | newarray at_ =>
    obtain rfl : len = 2 := hlen
    obtain ⟨x, r, rfl, hngT, hn4, hin, rfl⟩ := mm_nwa_inv hs
    obtain ⟨hP, hD, hS, hn⟩ := id hR
    have e1 : mm_n (mm_add h pp x.toNatClampNeg) = mm_n h + 1 := rfl
    have e2 : mm_sl (mm_add h pp x.toNatClampNeg) = mm_sl h + x.toNatClampNeg := rfl
    have hce : mm_n h + 1 - n0 = mm_n h - n0 + 1 := by omega
    have hse : mm_sl h + x.toNatClampNeg - s0 = mm_sl h - s0 + x.toNatClampNeg := by omega
    have hrc' : mm_n h - n0 + 1 ≤ R.cells := by rw [← hce]; exact hrc
    have hrs' : mm_sl h - s0 + x.toNatClampNeg ≤ R.slots := by rw [← hse]; exact hrs
    have hnn : ¬ x < 0 := fun z => hin (Or.inl z)
    have hxl : x.toNatClampNeg < 10000 := Nat.not_le.mp fun z => hin (Or.inr z)
    have fin : ∀ (ty : FieldType) (cT : ClassId) (ti : Nat), (mm_tys cI cZ)[ti]? = some (cT, ty) → (ty = .int ∨ ty = .boolean) → mm_cel B t cI cZ (mm_add h pp x.toNatClampNeg) (mm_n h) = .inl (cT, x.toNatClampNeg, .inl (fun _ => 0)) → ∀ (qa : Nat) (cA : ClassId) (H1 : Heap), va_K D vwCl (mm_tys cI cZ ++ [(cA, ty)]) s → va_P D vwCl (mm_wl B t cI cZ h ++ [(qa, .inl (cA, x.toNatClampNeg, .inl (fun _ => 0)))]) H1 → va_D (fun q => B ≤ q) (mm_wl B t cI cZ h ++ [(qa, .inl (cA, x.toNatClampNeg, .inl (fun _ => 0)))]) → va_S (fun q => B ≤ q) s.heap H1 locs →
        W p l e R s m args below meth c H1 locs (mm_n h - n0 + 1) (mm_sl h - s0 + x.toNatClampNeg) Q (F0 m (pc + 2) sl (.ref qa :: r.map (mm_rv B t))) := by
      intro ty cT ti hti hty2 hcel qa cA H1 a0 a1 a2 a3
      have hcA : cA = cT := by
        have h1 := (hK.2 ti _ hti).2
        have h2 := (a0.2 2 (cA, ty) rfl).2
        rcases hty2 with rfl | rfl
        · exact Option.some.inj (h2.symm.trans h1)
        · exact Option.some.inj (h2.symm.trans h1)
      subst hcA
      refine mm_Wsz (fun hsz => ?_)
      have hlow := mm_low hR hB
      have hs1 := hng hngT
      have hlen : (mm_wl B t cI cZ h).length = mm_n h := by simp [mm_wl]
      have hat : (mm_wl B t cI cZ h ++ [(qa, (.inl (cA, x.toNatClampNeg, .inl (fun _ => 0)) : va_E))])[mm_n h]? = some (qa, .inl (cA, x.toNatClampNeg, .inl (fun _ => 0))) := by
        rw [List.getElem?_append_right (by omega), hlen, Nat.sub_self]
        rfl
      have q1 : B ≤ qa := a2.2 _ _ hat
      have q2 : qa < H1.size := (a1 _ _ hat).lt
      have q3 : ¬ qa < B + mm_n h := fun z => by
        have hj : qa - B < mm_n h := by omega
        have hat2 : (mm_wl B t cI cZ h ++ [(qa, (.inl (cA, x.toNatClampNeg, .inl (fun _ => 0)) : va_E))])[qa - B]? = some (B + (qa - B), mm_cel B t cI cZ h (qa - B)) := by
          rw [List.getElem?_append_left (by omega), mm_wl_get hj]
        have := a2.1 _ _ _ _ hat2 hat (by simp only; omega)
        omega
      have hqe : qa = B + mm_n h := by omega
      subst hqe
      have hadd := mm_wl_add (B := B) (t := t) (cI := cI) (cZ := cZ) (h := h) (h' := mm_add h pp x.toNatClampNeg) rfl hcel (fun b hb => mm_cel_add hb)
      rw [hadd] at a1 a2
      have := kk H1 locs sl ⟨a1, a2, a3, by show mm_n h + 1 ≤ 4000; omega⟩ hL
      have er : mm_rv B t (.ref (mm_n h)) = .ref (B + mm_n h) := by
        show Value.ref (mm_ad B t (mm_n h)) = _
        rw [mm_ad_lt (n := mm_n h + 1) (by omega) (by omega)]
      simp only [e1, e2, List.map_cons, er, hce, hse] at this
      exact this
    simp only [mm_ckP] at hk
    by_cases hp : pp = 100
    · rw [if_pos hp] at hk
      obtain rfl : at_ = .int := of_decide_eq_true hk
      have hcel : mm_cel B t cI cZ (mm_add h pp x.toNatClampNeg) (mm_n h) = .inl (cI, x.toNatClampNeg, .inl (fun _ => 0)) := by
        rw [mm_cel_arr (mm_add_K.trans hp), mm_add_L, mm_add_G]
      exact va_newa (atype := .int) (a0 := (x.toNatClampNeg, .inl (fun _ => 0))) hx hb (hts _ mm_ac_int) rfl hK hP hD hS (fun q hq => Nat.le_trans hB hq) (fun cA => vp_cell_i cA _ _) hnn rfl (by show x.toNatClampNeg * 4 ≤ _; omega) hrc' hrs' hd (fin .int cI 0 rfl (Or.inl rfl) hcel)
    · rw [if_neg hp] at hk
      obtain ⟨hp, rfl⟩ : pp = 101 ∧ at_ = .boolean := of_decide_eq_true hk
      have hcel : mm_cel B t cI cZ (mm_add h pp x.toNatClampNeg) (mm_n h) = .inl (cZ, x.toNatClampNeg, .inl (fun _ => 0)) := by
        rw [mm_cel_boo (mm_add_K.trans hp), mm_add_L, mm_add_G]
      exact va_newa (atype := .boolean) (a0 := (x.toNatClampNeg, .inl (fun _ => 0))) hx hb (hts _ mm_ac_boolean) rfl hK hP hD hS (fun q hq => Nat.le_trans hB hq) (fun cA => vp_cell_i cA _ _) hnn rfl (by show x.toNatClampNeg * 1 ≤ _; omega) hrc' hrs' hd (fin .boolean cZ 1 rfl (Or.inr rfl) hcel)
  | invokespecial ix =>
    obtain rfl : len = 3 := hlen
    have hp : pp = 1004 := by
      simp only [mm_knd] at hk0
      cases hb0 : Nat.blt pp 1000 with
      | true => rw [hb0] at hk0; cases hk0
      | false =>
        rw [hb0] at hk0
        cases hb1 : Nat.beq pp 1004 with
        | true => exact (mm_beq_iff _ _).mp hb1
        | false => rw [hb1] at hk0; cases hk0
    subst hp
    simp only [mm_ins] at hs
    split at hs
    · rename_i a r
      obtain ⟨h1, h2⟩ := mm_cond_inv hs
      obtain rfl := Option.some.inj h2
      rw [Bool.and_eq_true] at h1
      have h3 := Nat.le_of_ble_eq_true h1.1
      have h4 := Nat.le_of_ble_eq_true h1.2
      refine W.objInit hx hb hown (hts _ (mm_ol_ok hk)) (hts _ mm_oi1) (hts _ mm_oi2) (g := F0 m pc sl (Value.ref (mm_ad B t a) :: r.map (mm_rv B t))) rfl ?_ rfl hd (by omega) ?_ (kk H locs sl hR hL)
      · rw [hml, ← hll]; exact hL.1
      · show 2 * 0 + _ + 12 ≤ _
        rw [mm_cat_sum]
        omega
    · cases hs
  | invokestatic ix =>
    obtain rfl : len = 3 := hlen
    simp only [mm_ins] at hs
    split at hs
    · rename_i x r
      obtain ⟨h1, h2⟩ := mm_cond_inv hs
      obtain rfl := Option.some.inj h2
      rw [Bool.and_eq_true, Bool.and_eq_true, mm_beq_iff] at h1
      have h3 := Nat.le_of_ble_eq_true h1.1.2
      have h4 := Nat.le_of_ble_eq_true h1.2
      simp only [mm_ckP, if_pos h1.1.1, decide_eq_true_eq] at hk
      rw [hk.1] at hown
      obtain rfl := hk.2
      exact vn_f2i hx hb (by rw [hml, ← hll]; exact hL.1.symm) hown (hts _ mm_nvf1) (hts _ mm_nvf2) (hts _ mm_nvf3) (hts _ mm_nvf4) (by omega) (by rw [mm_cat_sum]; omega) hd (kk H locs sl hR hL)
    · rename_i x r
      obtain ⟨h1, h2⟩ := mm_cond_inv hs
      obtain rfl := Option.some.inj h2
      rw [Bool.and_eq_true, Bool.and_eq_true, mm_beq_iff] at h1
      have h3 := Nat.le_of_ble_eq_true h1.1.2
      have h4 := Nat.le_of_ble_eq_true h1.2
      obtain rfl := h1.1.1
      have hk2 : mm_c k = 12 ∧ ix = 134 := of_decide_eq_true hk
      rw [hk2.1] at hown
      obtain rfl := hk2.2
      exact vn_d2l hx hb (by rw [hml, ← hll]; exact hL.1.symm) hown (hts _ mm_nvd1) (hts _ mm_nvd2) (hts _ mm_nvd3) (hts _ mm_nvd4) (by omega) (by rw [mm_cat_sum]; omega) hd (kk H locs sl hR hL)
    · cases hs
  | _ => exact absurd hs (by simp [mm_ins])
end MMS
end
section
theorem mm_s1_len (ls : mm_Ls) (i : Nat) (v : Value) : (mm_s1 ls i v).length = ls.length := by simp [mm_s1, mm_clr_len]
theorem mm_s2_len (ls : mm_Ls) (i : Nat) (v : Value) : (mm_s2 ls i v).length = ls.length := by simp [mm_s2, mm_clr_len]
def mm_mo (h : mm_H) (ls : mm_Ls) (s' : mm_S) : Prop := mm_n h ≤ mm_n s'.2.2.2 ∧ mm_sl h ≤ mm_sl s'.2.2.2 ∧ s'.2.1.length = ls.length
theorem mm_mo_r {h : mm_H} {ls : mm_Ls} {n : Nat} {st : List Value} : mm_mo h ls (n, ls, st, h) := ⟨Nat.le_refl _, Nat.le_refl _, rfl⟩
set_option maxHeartbeats 4000000 in
theorem mm_ins_mono {ng : Bool} {k pc : Nat} {ins : Instr} {len p q : Nat} {ls : mm_Ls} {st : List Value} {h : mm_H} {s' : mm_S} (hs : mm_ins ng k pc ins len p q ls st h = some s') : mm_mo h ls s' := by
  cases ins <;> first
    | (obtain rfl := Option.some.inj hs; exact mm_mo_r)
    | (obtain ⟨x, y, r, rfl, rfl⟩ := mm_i2_inv hs; exact mm_mo_r)
    | (obtain ⟨x, r, rfl, rfl⟩ := mm_i1_inv hs; exact mm_mo_r)
    | (obtain ⟨v, h1, h2, rfl⟩ := mm_ldv_inv hs; exact mm_mo_r)
    | (obtain ⟨v, r, rfl, h2, h3, rfl⟩ := mm_stv_inv hs; exact ⟨Nat.le_refl _, Nat.le_refl _, by first | exact mm_s1_len _ _ _ | exact mm_s2_len _ _ _⟩)
    | (obtain ⟨x, y, r, rfl, rfl⟩ := mm_l2_inv hs; exact mm_mo_r)
    | (obtain ⟨x, r, rfl, rfl⟩ := mm_l1_inv hs; exact mm_mo_r)
    | (obtain ⟨x, y, r, rfl, rfl⟩ := mm_li_inv hs; exact mm_mo_r)
    | (obtain ⟨x, y, r, rfl, h1, rfl⟩ := mm_dv_inv hs; exact mm_mo_r)
    | (obtain ⟨x, y, r, rfl, h1, rfl⟩ := mm_f2_inv hs; exact mm_mo_r)
    | (obtain ⟨x, y, r, rfl, h1, rfl⟩ := mm_d2_inv hs; exact mm_mo_r)
    | (obtain ⟨x, r, rfl, rfl⟩ := mm_bi_inv hs; exact mm_mo_r)
    | (obtain ⟨x, y, r, rfl, rfl⟩ := mm_bi2_inv hs; exact mm_mo_r)
    | (obtain ⟨a, r, rfl, h1, h2, rfl⟩ := mm_gf_inv hs; exact mm_mo_r)
    | (obtain ⟨v, a, r, h', rfl, h1, h2, h3, h4, rfl⟩ := mm_pf_inv hs
       rcases h4 with ⟨x, -, rfl, -⟩ | ⟨b, -, rfl, -⟩ <;> exact ⟨Nat.le_refl _, Nat.le_refl _, rfl⟩)
    | (obtain ⟨i, a, r, rfl, h1⟩ := mm_al_inv hs
       rcases h1 with ⟨-, -, -, rfl⟩ | ⟨-, -, -, rfl⟩ <;> exact mm_mo_r)
    | (obtain ⟨x, i, a, r, rfl, -, -, -, -, rfl⟩ := mm_as_inv hs; exact ⟨Nat.le_refl _, Nat.le_refl _, rfl⟩)
    | (obtain ⟨a, r, rfl, -, -, rfl⟩ := mm_len_inv hs; exact mm_mo_r)
    | (obtain ⟨-, -, rfl⟩ := mm_nw1_inv hs; exact ⟨Nat.le_succ _, Nat.le_add_right _ _, rfl⟩)
    | (obtain ⟨x, r, rfl, -, -, -, rfl⟩ := mm_nwa_inv hs; exact ⟨Nat.le_succ _, Nat.le_add_right _ _, rfl⟩)
    | (simp only [mm_ins, mm_bn] at hs
       repeat' split at hs
       all_goals first
         | (cases hs; done)
         | (obtain rfl := Option.some.inj hs; exact mm_mo_r)
         | (obtain ⟨h1, h2⟩ := mm_cond_inv hs; obtain rfl := Option.some.inj h2; exact mm_mo_r))
    | (simp only [mm_ins] at hs
       cases hq : Nat.beq q 0 <;> rw [hq] at hs <;> (obtain rfl := Option.some.inj hs; exact mm_mo_r))
    | (simp only [mm_ins] at hs
       obtain ⟨h0, hs⟩ := mm_cond_inv hs
       split at hs
       · obtain rfl := Option.some.inj hs
         exact ⟨Nat.le_refl _, Nat.le_refl _, mm_s1_len _ _ _⟩
       · cases hs)
    | (simp [mm_ins] at hs)
theorem mm_run_succ (ng : Bool) (f k pc : Nat) (ls : mm_Ls) (st : List Value) (h : mm_H) : mm_run ng (f + 1) k pc ls st h = match mm_cod k pc with
    | none => none
    | some (ins, len, p, q) => match mm_knd ins p with
      | 0 => match mm_ins ng k pc ins len p q ls st h with
        | none => none
        | some (pc', ls', st', h') => mm_run ng f k pc' ls' st' h'
      | 1 => match mm_call k p q st h with
        | none => none
        | some (as, rest) => match mm_run ng f p 0 (mm_ent (mm_mL p) as) [] h with
          | none => none
          | some (pc', _, st', h') => match mm_ret p pc' st' with
            | none => none
            | some v => mm_run ng f k (pc + 3) ls (v.toList ++ rest) h'
      | 2 => some (pc, ls, st, h)
      | _ => none := rfl
/-- the four ways of a run -/
theorem mm_run_inv {ng : Bool} {f k pc : Nat} {ls : mm_Ls} {st : List Value} {h : mm_H} {s' : mm_S} (hr : mm_run ng (f + 1) k pc ls st h = some s') : ∃ ins len p q, mm_cod k pc = some (ins, len, p, q) ∧
    ((mm_knd ins p = 0 ∧ ∃ pc' ls' st' h', mm_ins ng k pc ins len p q ls st h = some (pc', ls', st', h') ∧ mm_run ng f k pc' ls' st' h' = some s') ∨
     (mm_knd ins p = 1 ∧ ∃ as rest pc' ls' st' h' v, mm_call k p q st h = some (as, rest) ∧ mm_run ng f p 0 (mm_ent (mm_mL p) as) [] h = some (pc', ls', st', h') ∧ mm_ret p pc' st' = some v ∧ mm_run ng f k (pc + 3) ls (v.toList ++ rest) h' = some s') ∨
     (mm_knd ins p = 2 ∧ s' = (pc, ls, st, h))) := by
  rw [mm_run_succ] at hr
  cases hc : mm_cod k pc with
  | none => rw [hc] at hr; cases hr
  | some x =>
    obtain ⟨ins, len, p, q⟩ := x
    rw [hc] at hr
    refine ⟨ins, len, p, q, rfl, ?_⟩
    simp only at hr
    match hk : mm_knd ins p with
    | 0 =>
      rw [hk] at hr
      simp only at hr
      cases hi : mm_ins ng k pc ins len p q ls st h with
      | none => rw [hi] at hr; cases hr
      | some y =>
        obtain ⟨pc', ls', st', h'⟩ := y
        rw [hi] at hr
        exact Or.inl ⟨rfl, pc', ls', st', h', rfl, hr⟩
    | 1 =>
      rw [hk] at hr
      simp only at hr
      cases hi : mm_call k p q st h with
      | none => rw [hi] at hr; cases hr
      | some y =>
        obtain ⟨as, rest⟩ := y
        rw [hi] at hr
        simp only at hr
        cases h2 : mm_run ng f p 0 (mm_ent (mm_mL p) as) [] h with
        | none => rw [h2] at hr; cases hr
        | some z =>
          obtain ⟨pc', ls', st', h'⟩ := z
          rw [h2] at hr
          simp only at hr
          cases h3 : mm_ret p pc' st' with
          | none => rw [h3] at hr; cases hr
          | some v =>
            rw [h3] at hr
            exact Or.inr (Or.inl ⟨rfl, as, rest, pc', ls', st', h', v, rfl, h2, h3, hr⟩)
    | 2 =>
      rw [hk] at hr
      exact Or.inr (Or.inr ⟨rfl, (Option.some.inj hr).symm⟩)
    | n + 3 =>
      rw [hk] at hr
      cases hr
theorem mm_run_mono {ng : Bool} : ∀ {f k pc : Nat} {ls : mm_Ls} {st : List Value} {h : mm_H} {s' : mm_S}, mm_run ng f k pc ls st h = some s' → mm_n h ≤ mm_n s'.2.2.2 ∧ mm_sl h ≤ mm_sl s'.2.2.2
  | 0, _, _, _, _, _, _, hr => by cases hr
  | f + 1, k, pc, ls, st, h, s', hr => by
    obtain ⟨ins, len, p, q, hc, hcase⟩ := mm_run_inv hr
    rcases hcase with ⟨-, pc', ls', st', h', hi, hr⟩ | ⟨-, as, rest, pc', ls', st', h', v, -, h2, -, hr⟩ | ⟨-, rfl⟩
    · have a := mm_ins_mono hi
      have b := mm_run_mono hr
      exact ⟨Nat.le_trans a.1 b.1, Nat.le_trans a.2.1 b.2⟩
    · have a := mm_run_mono h2
      have b := mm_run_mono hr
      exact ⟨Nat.le_trans a.1 b.1, Nat.le_trans a.2 b.2⟩
    · exact ⟨Nat.le_refl _, Nat.le_refl _⟩
theorem mm_call_inv {k p q : Nat} {st : List Value} {h : mm_H} {as rest : List Value} (hc : mm_call k p q st h = some (as, rest)) : st = as.reverse ++ rest ∧ as.length = q ∧ (rest.map fun v => v.category).sum ≤ 8 ∧ mm_dp p < mm_dp k ∧ mm_na p = q ∧ (mm_ent0 as).length ≤ mm_mL p ∧ (mm_md p = 0 ∨ ∃ a as', as = .ref a :: as' ∧ a < mm_n h ∧ mm_K h a = mm_c p) := by
  unfold mm_call at hc
  obtain ⟨h1, h2⟩ := mm_cond_inv hc
  rw [Bool.and_eq_true, Bool.and_eq_true, Bool.and_eq_true, Bool.and_eq_true, mm_blt_iff, mm_beq_iff] at h1
  obtain ⟨⟨⟨⟨a1, a2⟩, a3⟩, a4⟩, a5⟩ := h1
  have a1 := Nat.le_of_ble_eq_true a1
  have a2 := Nat.le_of_ble_eq_true a2
  have a5 := Nat.le_of_ble_eq_true a5
  have fin : as = (st.take q).reverse → rest = st.drop q → st = as.reverse ++ rest ∧ as.length = q ∧ (rest.map fun v => v.category).sum ≤ 8 ∧ mm_dp p < mm_dp k ∧ mm_na p = q ∧ (mm_ent0 as).length ≤ mm_mL p := by
    rintro rfl rfl
    exact ⟨by rw [List.reverse_reverse, List.take_append_drop], by simp; omega, a2, a3, a4, a5⟩
  cases hm : Nat.beq (mm_md p) 0 with
  | true =>
    rw [hm] at h2
    have e := Option.some.inj h2
    cases e
    obtain ⟨b1, b2, b3, b4, b5, b6⟩ := fin rfl rfl
    exact ⟨b1, b2, b3, b4, b5, b6, Or.inl ((mm_beq_iff _ _).mp hm)⟩
  | false =>
    rw [hm] at h2
    simp only [cond_false] at h2
    split at h2
    · rename_i a as' heq
      obtain ⟨h3, h4⟩ := mm_cond_inv h2
      have e := Option.some.inj h4
      cases e
      obtain ⟨b1, b2, b3, b4, b5, b6⟩ := fin rfl rfl
      exact ⟨b1, b2, b3, b4, b5, b6, Or.inr ⟨a, as', heq, mm_aid_inv h3⟩⟩
    · cases h2
def mm_Wd (D : va_G) (B t : Nat) (cI cZ : ClassId) (ng : Bool) (h : mm_H) (U : State) : Prop :=
  va_P D vwCl (mm_wl B t cI cZ h) U.heap ∧ va_D (fun q => B ≤ q) (mm_wl B t cI cZ h) ∧ va_K D vwCl (mm_tys cI cZ) U ∧ mm_Nst U ∧ va_Z "WholeSoundModel" "FIXED" "[I" (.ref t) (fun q => B ≤ q) U U.heap ∧ va_T .int t 20 (fun j => .int (mm_fix j)) (fun q => B ≤ q) U U.heap ∧ (ng = true → U.heap.size = B + mm_n h) ∧ B ≤ U.heap.size ∧ mm_n h ≤ 4000
def mm_Pc (D : va_G) (B t : Nat) (cI cZ : ClassId) (ng : Bool) (as : List Value) (h : mm_H) : Array Value → State → Prop := va_Pc (as.map (mm_rv B t)) (fun U => mm_Wd D B t cI cZ ng h U)
def mm_Qc (D : va_G) (B t : Nat) (cI cZ : ClassId) (v : Option Value) (h' : mm_H) : Array Value → State → Outcome → State → Prop := fun _ st o t' => o = .returned (v.map (mm_rv B t)) ∧ va_P D vwCl (mm_wl B t cI cZ h') t'.heap ∧ va_D (fun q => B ≤ q) (mm_wl B t cI cZ h') ∧ va_F (fun q => B ≤ q) st t' ∧ mm_n h' ≤ 4000
def mm_ws (k : Nat) : List Cond := Cond.code (mm_y k) (mm_by k) (mm_mL k) (mm_rt k) :: mm_GW
def mm_rm (k mc ms : Nat) : Room := { frames := mm_dp k, cells := mc, slots := ms, locals := 40 * mm_dp k }
def mm_Mt (l : Launch) (D : va_G) (B t : Nat) (cI cZ : ClassId) (ng : Bool) (k : Nat) (as : List Value) (h : mm_H) (v : Option Value) (h' : mm_H) : Prop :=
  Met l (mm_y k) (mm_ws k) (mm_rm k (mm_n h' - mm_n h) (mm_sl h' - mm_sl h)) (mm_Pc D B t cI cZ ng as h) (mm_Qc D B t cI cZ v h') (mm_n h' - mm_n h) (mm_sl h' - mm_sl h) (fun q => B ≤ q)
theorem mm_Pc_blind {D : va_G} {B t : Nat} {cI cZ : ClassId} {ng : Bool} {as : List Value} {h : mm_H} : FrameBlind (mm_Pc D B t cI cZ ng as h) := by
  intro a U g mk q
  obtain ⟨q0, q1, q2, q3, q4, q5, q6, q7, q8, q9⟩ := q
  exact ⟨q0, q1, q2, va_K.moved (u := U) (U := U.calling g mk a) (Vm.Alike.refl U.vm) q3, mm_Nst.same (s := U) (U := U.calling g mk a) rfl q4, va_Z.moved (u := U) (U := U.calling g mk a) (Vm.Alike.refl U.vm) q5, va_T.moved (u := U) (U := U.calling g mk a) (Vm.Alike.refl U.vm) q6, q7, q8, q9⟩
section MMT
variable {p : Program} {l : Launch} {e : Env} {R : Room} {s : State} {m : MethodId} {args : Array Value} {below : List Frame} {meth : Method} {c : Code} {H : Heap} {locs : List Loc} {cells slots : Nat} {Q : State → Prop} {D : va_G} {B t : Nat} {cI cZ : ClassId} {k pc : Nat} {ls : mm_Ls} {st : List Value} {h : mm_H} {sl : Array Slot}
theorem mm_Wd_of {ng : Bool} (C : mm_Cx p R s m args meth c D B t cI cZ k) (hR : mm_Rl D B t cI cZ s h H locs) (hsz : ng = true → H.size = B + mm_n h) {U : State} (hU : U.heap = H) (hW : s.WarmedH U.vm) : mm_Wd D B t cI cZ ng h U := by
  obtain ⟨hx, hb, hml, hown, hts, hlocks, hret, hinit, hK, hN, hZ, hT, hB, hfr, hlo⟩ := C
  obtain ⟨hP, hD, hS, hn⟩ := hR
  unfold mm_Wd
  rw [hU]
  exact ⟨hP, hD, va_K.moved hW.alike hK, hN.warm hW, (hZ.moved hW.alike).kept (fun a h1 h2 => hS.2.1 a h1 h2), (hT.moved hW.alike).kept (fun a h1 h2 => hS.2.1 a h1 h2), hsz, Nat.le_trans hB hS.1, hn⟩
theorem mm_back {mc ms : Nat} {st0 rest : List Value} {a : Array Value} {v : Option Value} {h' : mm_H} (hr : va_Run p l e R s m args below meth c H locs cells slots mc ms (F0 m pc sl st0) rest (mm_Qc D B t cI cZ v h' a) (fun q => B ≤ q)) (hS : va_S (fun q => B ≤ q) s.heap H locs)
    (kk : ∀ (H1 : Heap) (locs1 : List Loc), mm_Rl D B t cI cZ s h' H1 locs1 → W p l e R s m args below meth c H1 locs1 (cells + mc) (slots + ms) Q (F0 m (pc + 3) sl ((v.map (mm_rv B t)).toList ++ rest))) : W p l e R s m args below meth c H locs cells slots Q (F0 m pc sl st0) := by
  intro T hT X
  obtain ⟨v', st₀, t', T', L, h0, X', hL, e1, e2, ⟨hv, hP, hD, hF, hn⟩, st⟩ := hr T hT X
  cases hv
  obtain ⟨hz, hk⟩ := hF
  rw [h0] at hz hk
  obtain ⟨t2, a1, b1⟩ := kk T'.heap (locs ++ L) ⟨by rw [e1]; exact hP, hD, ⟨Nat.le_trans hS.1 (by rw [e1]; exact hz), fun q h1 h2 => by rw [e1, hk q (Nat.lt_of_lt_of_le h1 hS.1) h2]; exact hS.2.1 q h1 h2, fun q hq => by
      rcases List.mem_append.mp hq with z | z
      · exact hS.2.2 q z
      · exact hL q z⟩, hn⟩ T' rfl X'
  exact ⟨t2, st t2 a1, b1⟩
end MMT
end
section
theorem mm_rk1 {o : Option FieldType} (h : mm_rk o = 1) : o = some .int := by
  unfold mm_rk at h
  split at h <;> first | rfl | cases h
theorem mm_rk2 {o : Option FieldType} (h : mm_rk o = 2) : o = some .boolean := by
  unfold mm_rk at h
  split at h <;> first | rfl | cases h
theorem mm_rk0 {o : Option FieldType} (h : mm_rk o = 0) : o = none := by
  unfold mm_rk at h
  split at h <;> first | rfl | cases h
theorem mm_rk3 {o : Option FieldType} (h : mm_rk o = 3) : o = some .float := by
  unfold mm_rk at h
  split at h <;> first | rfl | cases h
theorem mm_rk4 {o : Option FieldType} (h : mm_rk o = 4) : o = some .long := by
  unfold mm_rk at h
  split at h <;> first | rfl | cases h
theorem mm_rk6 {o : Option FieldType} (h : mm_rk o = 6) : ∃ rt, o = some rt ∧ ((∃ n, rt = .object n) ∨ ∃ t, rt = .array t) := by
  unfold mm_rk at h
  split at h <;> first | (cases h; done) | exact ⟨_, rfl, Or.inl ⟨_, rfl⟩⟩ | exact ⟨_, rfl, Or.inr ⟨_, rfl⟩⟩
theorem mm_cmd : (List.range 227).all (fun k => Nat.beq (mm_md k) 0 || Nat.blt (mm_c k) 10) = true := by decide +kernel
theorem mm_irtk : (List.range 227).all (fun k => !(Nat.beq (mm_md k) 2) || Nat.beq (mm_rk (mm_rt k)) 0) = true := by decide +kernel
theorem mm_irt (k : Nat) (hk : k < 227) (hm : mm_md k = 2) : mm_rt k = none := by
  have := List.all_eq_true.mp mm_irtk k (List.mem_range.mpr hk)
  rw [hm] at this
  exact mm_rk0 ((mm_beq_iff _ _).mp this)
theorem mm_ar {a n0 b c R : Nat} (h1 : n0 ≤ a) (h2 : a ≤ b) (h3 : b ≤ c) (h4 : c - n0 ≤ R) : a - n0 + (b - a) ≤ R := by omega
section MMU
variable {p : Program} {l : Launch} {e : Env} {R : Room} {s : State} {m : MethodId} {args : Array Value} {below : List Frame} {meth : Method} {c : Code} {H : Heap} {locs : List Loc} {cells slots : Nat} {Q : State → Prop} {D : va_G} {B t : Nat} {cI cZ : ClassId} {k pc : Nat} {ls : mm_Ls} {st : List Value} {h : mm_H} {sl : Array Slot}
/-- the end of a method -/
theorem mm_end {v : Option Value} {n0 s0 : Nat} (C : mm_Cx p R s m args meth c D B t cI cZ k) (hv : mm_ret k pc st = some v) (hR : mm_Rl D B t cI cZ s h H locs) : W p l e R s m args below meth c H locs n0 s0 (MQ below (mm_Qc D B t cI cZ v h) args s n0 s0 (fun q => B ≤ q)) (F0 m pc sl (st.map (mm_rv B t))) := by
  obtain ⟨hx, hb, hml, hown, hts, hlocks, hret, hinit, hK, hN, hZ, hT, hB, hfr, hlo⟩ := C
  obtain ⟨hP, hD, hS, hn⟩ := hR
  have post : ∀ t' : State, t'.heap = H → s.WarmedH t'.vm → mm_Qc D B t cI cZ v h args s (.returned (v.map (mm_rv B t))) t' := fun t' ht _ => ⟨rfl, by rw [ht]; exact hP, hD, hS.F ht, hn⟩
  unfold mm_ret at hv
  split at hv
  · cases hv
  · rename_i ins len p0 q0 hcod
    obtain ⟨hd, -, hlen⟩ := mm_cod_ok hcod
    split at hv
    · obtain rfl : len = 1 := hlen
      obtain ⟨h1, h2⟩ := mm_cond_inv hv
      obtain rfl := Option.some.inj h2
      exact W.vret hx hb (hret.trans (mm_rk0 ((mm_beq_iff _ _).mp h1))) post hS.2.2 hd
    · obtain rfl : len = 1 := hlen
      cases h1 : Nat.beq (mm_rk (mm_rt k)) 1 with
      | true =>
        rw [h1] at hv
        obtain rfl := Option.some.inj hv
        exact W.iret hx hb (hret.trans (mm_rk1 ((mm_beq_iff _ _).mp h1))) post hS.2.2 hd
      | false =>
        rw [h1] at hv
        obtain ⟨h1, h2⟩ := mm_cond_inv hv
        obtain rfl := Option.some.inj h2
        rw [Bool.and_eq_true, mm_beq_iff, Bool.or_eq_true, beq_iff_eq, beq_iff_eq] at h1
        refine W.zret hx hb (hret.trans (mm_rk2 h1.1)) ?_ post hS.2.2 hd
        rcases h1.2 with z | z <;> rw [z] <;> rfl
    · obtain rfl : len = 1 := hlen
      obtain ⟨h1, h2⟩ := mm_cond_inv hv
      obtain rfl := Option.some.inj h2
      exact W.fret hx hb (hret.trans (mm_rk3 ((mm_beq_iff _ _).mp h1))) post hS.2.2 hd
    · obtain rfl : len = 1 := hlen
      obtain ⟨h1, h2⟩ := mm_cond_inv hv
      obtain rfl := Option.some.inj h2
      exact W.lret hx hb (hret.trans (mm_rk4 ((mm_beq_iff _ _).mp h1))) post hS.2.2 hd
    · obtain rfl : len = 1 := hlen
      obtain ⟨h1, h2⟩ := mm_cond_inv hv
      obtain rfl := Option.some.inj h2
      obtain ⟨rt, hrt, hr2⟩ := mm_rk6 ((mm_beq_iff _ _).mp h1)
      exact W.aret hx hb (hret.trans hrt) hr2 (Or.inr ⟨_, rfl⟩) post hS.2.2 hd
    · obtain rfl : len = 1 := hlen
      obtain ⟨h1, h2⟩ := mm_cond_inv hv
      obtain rfl := Option.some.inj h2
      obtain ⟨rt, hrt, hr2⟩ := mm_rk6 ((mm_beq_iff _ _).mp h1)
      exact W.aret hx hb (hret.trans hrt) hr2 (Or.inl rfl) post hS.2.2 hd
    · cases hv
end MMU
/-- a run within a method -/
def mm_SW (l : Launch) (D : va_G) (B t : Nat) (cI cZ : ClassId) (ng : Bool) (f : Nat) : Prop :=
  ∀ {p : Program} {e : Env} {R : Room} {s : State} {m : MethodId} {args : Array Value} {below : List Frame} {meth : Method} {c : Code} {H : Heap} {locs : List Loc} {Q : State → Prop} {k pc : Nat} {ls : mm_Ls} {st : List Value} {h : mm_H} {sl : Array Slot} {n0 s0 : Nat} {s' : mm_S},
    mm_run ng f k pc ls st h = some s' → mm_Cx p R s m args meth c D B t cI cZ k → (ng = true → s.heap.size = B + n0) → n0 ≤ mm_n h → s0 ≤ mm_sl h → mm_n s'.2.2.2 - n0 ≤ R.cells → mm_sl s'.2.2.2 - s0 ≤ R.slots → mm_Rl D B t cI cZ s h H locs → mm_LR B t sl ls → ls.length = mm_mL k →
    (∀ H1 locs1 sl1, mm_Rl D B t cI cZ s s'.2.2.2 H1 locs1 → mm_LR B t sl1 s'.2.1 → W p l e R s m args below meth c H1 locs1 (mm_n s'.2.2.2 - n0) (mm_sl s'.2.2.2 - s0) Q (F0 m s'.1 sl1 (s'.2.2.1.map (mm_rv B t)))) →
    W p l e R s m args below meth c H locs (mm_n h - n0) (mm_sl h - s0) Q (F0 m pc sl (st.map (mm_rv B t)))
set_option maxHeartbeats 4000000 in
theorem mm_met_of {l : Launch} {D : va_G} {B t : Nat} {cI cZ : ClassId} {ng : Bool} {f k : Nat} {as : List Value} {h : mm_H} {s' : mm_S} {v : Option Value} (hSW : mm_SW l D B t cI cZ ng f) (hk : k < 227) (hrun : mm_run ng f k 0 (mm_ent (mm_mL k) as) [] h = some s') (hret : mm_ret k s'.1 s'.2.2.1 = some v) (hfit : (mm_ent0 as).length ≤ mm_mL k) : mm_Mt l D B t cI cZ ng k as h v s'.2.2.2 := by
  obtain ⟨f1, f2, f3, f4, f5, f6, f7, f8, f9, f10, f11⟩ := mm_mk hk
  refine mm_ofW (cc := mm_by k) (maxL := mm_mL k) (ret := mm_rt k) f5 rfl ?_
  intro p e s m args below meth c s₁ Bd hml hv
  obtain ⟨rfl, w1, w2, w3, w4, w5, w6, w7, w8, w9⟩ := hv
  have hown : s.vm.findClass (mm_cn (mm_c k)) = some m.cls := by
    rw [← f1]
    exact findClass_of_methodNamed Bd.named
  have hts0 := atoms_spec (ws := mm_ws k) Bd.pre
  have C : mm_Cx p (mm_rm k (mm_n s'.2.2.2 - mm_n h) (mm_sl s'.2.2.2 - mm_sl h)) s m (as.map (mm_rv B t)).toArray meth c D B t cI cZ k := ⟨Bd.exec, Bd.bytes, hml, hown, fun w hw => hts0 w (List.mem_cons_of_mem _ hw), Bd.notSynchronized, Bd.returns, fun h2 => (name_of_methodNamed Bd.named Bd.method).1.trans (f11 (by omega) (by omega)).1, w3, w4, w5, w6, w8, Nat.le_refl _, Nat.le_refl _⟩
  rw [lg_entry_eq]
  have key := hSW (p := p) (e := e) (R := mm_rm k (mm_n s'.2.2.2 - mm_n h) (mm_sl s'.2.2.2 - mm_sl h)) (s := s) (m := m) (args := (as.map (mm_rv B t)).toArray) (below := below) (meth := meth) (c := c) (H := s.heap) (locs := []) (Q := MQ below (mm_Qc D B t cI cZ v s'.2.2.2) (as.map (mm_rv B t)).toArray s (mm_n s'.2.2.2 - mm_n h) (mm_sl s'.2.2.2 - mm_sl h) (fun q => B ≤ q)) (n0 := mm_n h) (s0 := mm_sl h) hrun C w7 (Nat.le_refl _) (Nat.le_refl _) (Nat.le_refl _) (Nat.le_refl _) ⟨w1, w2, va_S.rf, w9⟩ (mm_LR_ent hfit) (by simp [mm_ent]; omega) (fun H1 locs1 sl1 hR1 hL1 => mm_end C hret hR1)
  rw [Nat.sub_self, Nat.sub_self] at key
  exact key
set_option maxHeartbeats 4000000 in
theorem mm_swAll (l : Launch) (D : va_G) (B t : Nat) (cI cZ : ClassId) (ng : Bool) : ∀ f, mm_SW l D B t cI cZ ng f := by
  intro f
  induction f with
  | zero =>
    intro p e R s m args below meth c H locs Q k pc ls st h sl n0 s0 s' hrun
    cases hrun
  | succ f ih =>
    intro p e R s m args below meth c H locs Q k pc ls st h sl n0 s0 s' hrun C hng hn0 hs0 hrc hrs hR hL hll kk
    obtain ⟨ins, len, pp, q, hcod, hcase⟩ := mm_run_inv hrun
    obtain ⟨hd, hck, hlen⟩ := mm_cod_ok hcod
    rcases hcase with ⟨hk0, pc', ls', st', h', hi, hr⟩ | ⟨hk1, as, rest, pc', ls', st', h1, v, hcall, hr1, hv, hr⟩ | ⟨-, rfl⟩
    · have hm1 := mm_ins_mono hi
      have hm2 := mm_run_mono hr
      refine mm_step C hd hck hlen hi hk0 hng hn0 hs0 (Nat.le_trans (Nat.sub_le_sub_right hm2.1 n0) hrc) (Nat.le_trans (Nat.sub_le_sub_right hm2.2 s0) hrs) hR hL hll (fun H1 locs1 sl1 hR1 hL1 => ?_)
      exact ih hr C hng (Nat.le_trans hn0 hm1.1) (Nat.le_trans hs0 hm1.2.1) hrc hrs hR1 hL1 (hm1.2.2.trans hll) kk
    · obtain ⟨hst, hlen2, hsum, hdp, hna, hfit, hrecv⟩ := mm_call_inv hcall
      have hm1 := mm_run_mono hr1
      have hm2 := mm_run_mono hr
      simp only at hm1
      obtain ⟨hx, hb, hml, hown, hts, hlocks, hret, hinit, hK, hN, hZ, hT, hB, hfr, hlo⟩ := id C
      -- which method, and how it is linked
      have hlink : ∃ ix : Nat, pp < 227 ∧ len = 3 ∧ ((ins = .invokevirtual ix ∧ mm_md pp = 1) ∨ (ins = .invokestatic ix ∧ mm_md pp = 0) ∨ (ins = .invokespecial ix ∧ mm_md pp = 2)) ∧ (Cond.methodLink (mm_cn (mm_c k)) ix (mm_y pp) ∈ mm_GW ∨ mm_nw (mm_c k) ix (mm_y pp) ∈ lw_tbl) := by
        cases ins with
        | invokevirtual ix =>
          simp only [mm_ckP, Bool.and_eq_true] at hck
          obtain ⟨a1, a2, a3⟩ := mm_ml_ok hck.1
          exact ⟨ix, a1, hlen, Or.inl ⟨rfl, a2⟩, a3⟩
        | invokestatic ix =>
          have hp : pp < 1000 := by
            simp only [mm_knd] at hk1
            cases hb0 : Nat.blt pp 1000 with
            | true => exact (mm_blt_iff _ _).mp hb0
            | false => rw [hb0] at hk1; cases hk1
          simp only [mm_ckP, if_neg (show ¬ pp = 1002 by omega), if_neg (show ¬ pp = 1003 by omega), Bool.and_eq_true] at hck
          obtain ⟨a1, a2, a3⟩ := mm_ml_ok hck.1
          exact ⟨ix, a1, hlen, Or.inr (Or.inl ⟨rfl, a2⟩), a3⟩
        | invokespecial ix =>
          have hp : pp < 1000 := by
            simp only [mm_knd] at hk1
            cases hb0 : Nat.blt pp 1000 with
            | true => exact (mm_blt_iff _ _).mp hb0
            | false =>
              rw [hb0] at hk1
              cases hb1 : Nat.beq pp 1004 <;> rw [hb1] at hk1 <;> cases hk1
          simp only [mm_ckP, if_neg (show ¬ pp = 1004 by omega), if_neg (show ¬ pp = 1999 by omega), Bool.and_eq_true] at hck
          obtain ⟨a1, a2, a3⟩ := mm_ml_ok hck.1
          exact ⟨ix, a1, hlen, Or.inr (Or.inr ⟨rfl, a2⟩), a3⟩
        | new ix =>
          simp only [mm_knd] at hk1
          cases hb0 : Nat.blt pp 100 <;> rw [hb0] at hk1 <;> cases hk1
        | _ => cases hk1
      obtain ⟨ix, hpk, rfl, hkind, hword⟩ := hlink
      obtain ⟨f1, f2, f3, f4, f5, f6, f7, f8, f9, f10, f11⟩ := mm_mk hpk
      have hM := mm_met_of (l := l) ih hpk hr1 hv hfit
      unfold mm_Mt at hM
      have hgood : ∀ w ∈ mm_ws pp, w ∈ mm_GW := fun w hw => by
        rcases List.mem_cons.mp hw with rfl | z
        · exact f7
        · exact z
      have hroom : (mm_rm pp (mm_n h1 - mm_n h) (mm_sl h1 - mm_sl h)).frames + 1 ≤ R.frames ∧ 8 + (mm_mL pp + 11) + (mm_rm pp (mm_n h1 - mm_n h) (mm_sl h1 - mm_sl h)).locals ≤ R.locals := ⟨by show mm_dp pp + 1 ≤ _; omega, by show 8 + (mm_mL pp + 11) + 40 * mm_dp pp ≤ _; omega⟩
      have hcell : mm_n h - n0 + (mm_n h1 - mm_n h) ≤ R.cells ∧ mm_sl h - s0 + (mm_sl h1 - mm_sl h) ≤ R.slots := ⟨mm_ar hn0 hm1.1 hm2.1 hrc, mm_ar hs0 hm1.2 hm2.2 hrs⟩
      have hsl : sl.size = mm_mL k := hL.1.trans hll
      have hsum' : 2 * (F0 m pc sl (st.map (mm_rv B t))).monitorRoom + ((rest.map (mm_rv B t)).map fun v => v.category).sum ≤ 8 := lv_room (by rw [mm_cat_sum]; exact hsum)
      have hce : mm_n h - n0 + (mm_n h1 - mm_n h) = mm_n h1 - n0 := by have := hm1.1; omega
      have hse : mm_sl h - s0 + (mm_sl h1 - mm_sl h) = mm_sl h1 - s0 := by have := hm1.2; omega
      refine mm_Wsz (fun hsz => ?_)
      have hlow := mm_low hR hB
      have hsize : ng = true → H.size = B + mm_n h := fun z => by have := hng z; omega
      have hgo : va_Run p l e R s m args below meth c H locs (mm_n h - n0) (mm_sl h - s0) (mm_n h1 - mm_n h) (mm_sl h1 - mm_sl h) (F0 m pc sl (st.map (mm_rv B t))) (rest.map (mm_rv B t)) (mm_Qc D B t cI cZ v h1 (as.map (mm_rv B t)).toArray) (fun q => B ≤ q) := by
        have hstat : (F0 m pc sl (st.map (mm_rv B t))).stack = (as.map (mm_rv B t)).reverse ++ rest.map (mm_rv B t) := by
          show st.map (mm_rv B t) = _
          rw [hst, List.map_append, List.map_reverse]
        rcases hkind with ⟨rfl, hmd⟩ | ⟨rfl, hmd⟩ | ⟨rfl, hmd⟩
        · obtain ⟨a, as', rfl, ha, hKa⟩ := hrecv.resolve_left (by omega)
          have hc10 : mm_c pp < 10 := by
            have := List.all_eq_true.mp mm_cmd pp (List.mem_range.mpr hpk)
            rw [Bool.or_eq_true, mm_beq_iff, mm_blt_iff] at this
            omega
          have hget := mm_wl_get (B := B) (t := t) (cI := cI) (cZ := cZ) ha
          rw [mm_cel_obj hKa hc10] at hget
          have hrc2 := va_recv hK hR.1 (mm_cl hc10).1 hget
          have er : mm_rv B t (.ref a) = .ref (B + a) := mm_rv_ref ha hR.2.2.2
          rw [List.map_cons, er] at hstat ⊢
          have hpar : (parseMethodDescriptor (mm_y pp).desc).map (fun d => d.parameters.length) = some as'.length := by
            have h1 := (f9 (by omega)).2
            cases hpd : parseMethodDescriptor (mm_y pp).desc with
            | none => rw [hpd] at h1; cases h1
            | some d =>
              rw [hpd] at h1
              have h2 : d.parameters.length + 1 = mm_na pp := Option.some.inj h1
              simp only [List.length_cons] at hlen2
              show some d.parameters.length = _
              congr 1
              omega
          have hstk : (F0 m pc sl (st.map (mm_rv B t))).stack = (as'.map (mm_rv B t)).reverse ++ .ref (B + a) :: rest.map (mm_rv B t) := by
            rw [hstat]
            simp
          have hpre : PreV s H (mm_cn (mm_c pp)) (B + a) (mm_Pc D B t cI cZ ng (.ref a :: as') h) (as'.map (mm_rv B t)) := ⟨mm_Pc_blind, hrc2, fun U hU hW => ⟨by rw [List.map_cons, er], mm_Wd_of C hR hsize hU hW⟩⟩
          have hsel := f10 hmd
          rw [f1] at hsel
          rcases hword with hword | hword
          · refine va_runV ⟨hx, hb, hml, hown, hts⟩ hM (cwV as'.length hts (mm_gw_good _ ?_) rfl rfl rfl ⟨f1, f6.1, f6.2, hpar⟩ hroom) hpre rfl (by simp) hsl hstk hsum' hd hcell
            intro w hw
            simp only [wsV, List.mem_append, List.mem_cons, List.not_mem_nil, or_false] at hw
            rcases hw with (rfl | rfl | rfl | rfl) | z
            · exact hword
            · exact (f9 (by omega)).1
            · exact hsel
            · rw [← f1]; exact f2
            · exact hgood w z
          · exact va_runVN ⟨hx, hb, hml, hown, hts⟩ hM ⟨va_cnB as'.length hts (mm_gw_good _ hgood) rfl rfl rfl (hN _ _ _ hword) (hts _ f2) ⟨f6.1, f6.2, hpar⟩ hroom, hts _ (f9 (by omega)).1, hts _ hsel⟩ hpre rfl (by simp) hsl hstk hsum' hd hcell
        · have hpar := (f8 hmd).2
          rw [hna] at hpar
          have hpre : PreS s H (mm_Pc D B t cI cZ ng as h) (as.map (mm_rv B t)) := ⟨mm_Pc_blind, fun U hU hW => ⟨rfl, mm_Wd_of C hR hsize hU hW⟩⟩
          rcases hword with hword | hword
          · refine va_runS ⟨hx, hb, hml, hown, hts⟩ hM (va_cwS q hts (mm_gw_good _ ?_) rfl rfl rfl ⟨f6.1, f6.2, hpar⟩ hroom) hpre rfl (by simp [hlen2]) hsl hstat hsum' hd hcell
            intro w hw
            simp only [va_wsS, List.mem_append, List.mem_cons, List.not_mem_nil, or_false] at hw
            rcases hw with (rfl | rfl | rfl) | z
            · exact hword
            · exact (f8 hmd).1
            · exact f2
            · exact hgood w z
          · exact va_runSN ⟨hx, hb, hml, hown, hts⟩ hM ⟨va_cnB q hts (mm_gw_good _ hgood) rfl rfl rfl (hN _ _ _ hword) (hts _ f2) ⟨f6.1, f6.2, hpar⟩ hroom, hts _ (f8 hmd).1, trivial⟩ hpre rfl (by simp [hlen2]) hsl hstat hsum' hd hcell
        · obtain ⟨a, as', rfl, ha, hKa⟩ := hrecv.resolve_left (by omega)
          have er : mm_rv B t (.ref a) = .ref (B + a) := mm_rv_ref ha hR.2.2.2
          rw [List.map_cons, er] at hstat ⊢
          have hpar : (parseMethodDescriptor (mm_y pp).desc).map (fun d => d.parameters.length) = some as'.length := by
            have h1 := (f9 (by omega)).2
            cases hpd : parseMethodDescriptor (mm_y pp).desc with
            | none => rw [hpd] at h1; cases h1
            | some d =>
              rw [hpd] at h1
              have h2 : d.parameters.length + 1 = mm_na pp := Option.some.inj h1
              simp only [List.length_cons] at hlen2
              show some d.parameters.length = _
              congr 1
              omega
          have hstk : (F0 m pc sl (st.map (mm_rv B t))).stack = (as'.map (mm_rv B t)).reverse ++ .ref (B + a) :: rest.map (mm_rv B t) := by
            rw [hstat]
            simp
          have hpre : PreS s H (mm_Pc D B t cI cZ ng (.ref a :: as') h) (.ref (B + a) :: as'.map (mm_rv B t)) := ⟨mm_Pc_blind, fun U hU hW => ⟨by rw [List.map_cons, er], mm_Wd_of C hR hsize hU hW⟩⟩
          have hnm := (f11 (by omega) (by omega)).1
          have hrt : mm_rt pp = none := mm_irt pp hpk hmd
          have hM2 := hM
          have hcodeN : mm_ws pp = Cond.code (mm_y pp) (mm_by pp) (mm_mL pp) none :: mm_GW := by
            unfold mm_ws
            rw [hrt]
          rcases hword with hword | hword
          · exact va_runI ⟨hx, hb, hml, hown, hts⟩ hM2 (cwI as'.length hts (mm_gw_good _ hgood) hcodeN rfl rfl (hts _ f2) (hts _ hword) (hts _ (f9 (by omega)).1) hnm ⟨f6.1, f6.2, hpar⟩ hroom) hpre rfl (by simp) hsl hstk hsum' hd hcell
          · exact va_runIN ⟨hx, hb, hml, hown, hts⟩ hM2 ⟨va_cnB as'.length hts (mm_gw_good _ hgood) hcodeN rfl rfl (hN _ _ _ hword) (hts _ f2) ⟨f6.1, f6.2, hpar⟩ hroom, hnm, hts _ (f9 (by omega)).1⟩ hpre rfl (by simp) hsl hstk hsum' hd hcell
      refine mm_back hgo hR.2.2.1 (fun H1 locs1 hR1 => ?_)
      have := ih hr C hng (by have := hm1.1; omega) (by have := hm1.2; omega) hrc hrs hR1 hL hll kk
      rw [List.map_append] at this
      rw [hce, hse]
      have ev : (v.map (mm_rv B t)).toList = v.toList.map (mm_rv B t) := by cases v <;> rfl
      rw [ev]
      exact this
    · exact kk H locs sl hR hL
end
section
def mm_lK : List Nat := [8, 7, 100, 5, 100, 100, 2, 100, 100, 100, 1, 0, 100, 100, 100, 100, 100, 100, 100, 100, 100, 100, 4, 100, 100, 100, 100, 100, 4, 100, 100, 100, 100, 100, 4, 100, 100, 100, 100, 100, 4, 100, 100, 100, 100, 100, 3, 6, 100, 2, 100, 100, 100, 100, 100, 100, 100, 100, 9, 100, 100, 100, 100, 100, 100, 100, 100, 100, 100, 100, 100, 101, 100, 100, 100, 100, 100, 100, 100, 100, 100, 100, 100]
def mm_lL : List Nat := [10, 2, 240, 5, 512, 2, 3, 32, 8, 8, 7, 15, 64, 9, 8, 126, 9, 9, 8, 8, 8, 8, 10, 64, 8, 8, 8, 8, 10, 64, 8, 8, 8, 8, 10, 64, 8, 8, 8, 8, 10, 64, 8, 8, 8, 8, 13, 3, 4000, 3, 32, 8, 8, 64, 64, 16, 16, 512, 46, 240, 512, 2, 9, 3, 9, 3, 4000, 64, 64, 112, 8, 8, 8, 8, 8, 81, 81, 4, 128, 64, 16, 16, 512]
def mm_lR : List (List (Option Nat)) := [[some 1, some 3, some 6, some 10, some 11, some 46, some 47], [some 2], [], [some 4, some 5], [], [], [some 7, some 8, some 9], [], [], [], [some 11, some 22, some 28, some 34, some 40], [some 12, none, none, none, some 13, some 14, some 15, some 16, some 17, some 18, some 19, some 20, some 21], [], [], [], [], [], [], [], [], [], [], [some 23, none, none, none, none, none, some 24, some 25, some 26, some 27], [], [], [], [], [], [some 29, none, none, none, none, none, some 30, some 31, some 32, some 33], [], [], [], [], [], [some 35, none, none, none, none, none, some 36, some 37, some 38, some 39], [], [], [], [], [], [some 41, none, none, none, none, none, some 42, some 43, some 44, some 45], [], [], [], [], [], [some 47, some 49, none, none, none, none, none, none, some 53, some 54, some 55, some 56, some 57], [some 48], [], [some 50, some 51, some 52], [], [], [], [], [], [], [], [], [some 59, none, some 60, some 61, none, none, none, none, none, none, some 62, some 63, some 64, some 65, some 66, none, none, some 67, none, none, some 68, none, none, some 69, some 70, some 71, some 72, some 73, some 74, none, some 75, some 76, none, some 77, none, none, none, none, none, none, none, some 78, some 79, some 80, some 81, some 82], [], [], [], [], [], [], [], [], [], [], [], [], [], [], [], [], [], [], [], [], [], [], [], []]
def mm_lay : mm_Ly := (83, 12270, mm_nth 0 mm_lK, mm_nth 0 mm_lL, fun a k => mm_nth none (mm_nth [] mm_lR a) k)
theorem mm_run_up {ng : Bool} : ∀ {f k pc : Nat} {ls : mm_Ls} {st : List Value} {h : mm_H} {s' : mm_S}, mm_run ng f k pc ls st h = some s' → mm_run ng (f + 1) k pc ls st h = some s'
  | 0, _, _, _, _, _, _, hr => by cases hr
  | f + 1, k, pc, ls, st, h, s', hr => by
    obtain ⟨ins, len, p, q, hc, hcase⟩ := mm_run_inv hr
    rw [mm_run_succ, hc]
    rcases hcase with ⟨hk, pc', ls', st', h', hi, hr⟩ | ⟨hk, as, rest, pc', ls', st', h', v, hcl, h2, hv, hr⟩ | ⟨hk, rfl⟩
    · simp only [hk, hi]
      exact mm_run_up hr
    · simp only [hk, hcl, mm_run_up h2, hv]
      exact mm_run_up hr
    · simp only [hk]
theorem mm_run_le {ng : Bool} {f g k pc : Nat} {ls : mm_Ls} {st : List Value} {h : mm_H} {s' : mm_S} (hr : mm_run ng f k pc ls st h = some s') (hfg : f ≤ g) : mm_run ng g k pc ls st h = some s' := by
  obtain ⟨d, rfl⟩ := Nat.exists_eq_add_of_le hfg
  induction d with
  | zero => exact hr
  | succ d ih => exact mm_run_up (ih (Nat.le_add_right _ _))
def mm_W (k pc : Nat) (ls : mm_Ls) (st : List Value) (I : mm_I) (Q : mm_S → Prop) : Prop := ∃ f s', mm_run false f k pc ls st (mm_lay, I) = some s' ∧ Q s'
def mm_Rn (k : Nat) (as : List Value) (I : mm_I) (v : Option Value) (I' : mm_I) : Prop := ∃ f pc ls st, mm_run false f k 0 (mm_ent (mm_mL k) as) [] (mm_lay, I) = some (pc, ls, st, (mm_lay, I')) ∧ mm_ret k pc st = some v
def mm_Mi (k : Nat) (as : List Value) (I : mm_I) (P : Int32 → mm_I → Prop) : Prop := ∃ r I', mm_Rn k as I (some (.int r)) I' ∧ P r I'
def mm_Mv (k : Nat) (as : List Value) (I : mm_I) (P : mm_I → Prop) : Prop := ∃ I', mm_Rn k as I none I' ∧ P I'
def mm_Mf (k : Nat) (as : List Value) (I : mm_I) (P : UInt32 → mm_I → Prop) : Prop := ∃ r I', mm_Rn k as I (some (.float r)) I' ∧ P r I'
def mm_Ml (k : Nat) (as : List Value) (I : mm_I) (P : Int64 → mm_I → Prop) : Prop := ∃ r I', mm_Rn k as I (some (.long r)) I' ∧ P r I'
def mm_Mr (k : Nat) (as : List Value) (I : mm_I) (P : Option Nat → mm_I → Prop) : Prop := ∃ r I', mm_Rn k as I (some (va_rf r)) I' ∧ P r I'
def mm_qi (k : Nat) (P : Int32 → mm_I → Prop) : mm_S → Prop := fun s => ∃ r I', mm_ret k s.1 s.2.2.1 = some (some (.int r)) ∧ s.2.2.2 = (mm_lay, I') ∧ P r I'
def mm_qv (k : Nat) (P : mm_I → Prop) : mm_S → Prop := fun s => ∃ I', mm_ret k s.1 s.2.2.1 = some none ∧ s.2.2.2 = (mm_lay, I') ∧ P I'
def mm_qf (k : Nat) (P : UInt32 → mm_I → Prop) : mm_S → Prop := fun s => ∃ r I', mm_ret k s.1 s.2.2.1 = some (some (.float r)) ∧ s.2.2.2 = (mm_lay, I') ∧ P r I'
def mm_ql (k : Nat) (P : Int64 → mm_I → Prop) : mm_S → Prop := fun s => ∃ r I', mm_ret k s.1 s.2.2.1 = some (some (.long r)) ∧ s.2.2.2 = (mm_lay, I') ∧ P r I'
def mm_qr (k : Nat) (P : Option Nat → mm_I → Prop) : mm_S → Prop := fun s => ∃ r I', mm_ret k s.1 s.2.2.1 = some (some (va_rf r)) ∧ s.2.2.2 = (mm_lay, I') ∧ P r I'
theorem mm_Rn_det {k : Nat} {as : List Value} {I : mm_I} {v v' : Option Value} {I1 I2 : mm_I} (h1 : mm_Rn k as I v I1) (h2 : mm_Rn k as I v' I2) : v = v' ∧ I1 = I2 := by
  obtain ⟨f, pc, ls, st, a1, a2⟩ := h1
  obtain ⟨g, pc', ls', st', b1, b2⟩ := h2
  have c1 := mm_run_le a1 (Nat.le_max_left f g)
  have c2 := mm_run_le b1 (Nat.le_max_right f g)
  have e := Option.some.inj (c1.symm.trans c2)
  cases e
  exact ⟨Option.some.inj (a2.symm.trans b2), rfl⟩
theorem mm_Mi_eq {k : Nat} {as : List Value} {I : mm_I} {r : Int32} {I' : mm_I} (h : mm_Rn k as I (some (.int r)) I') (P : Int32 → mm_I → Prop) : mm_Mi k as I P = P r I' := by
  apply propext
  constructor
  · rintro ⟨r2, I2, h2, hP⟩
    obtain ⟨e1, rfl⟩ := mm_Rn_det h h2
    cases e1
    exact hP
  · exact fun hP => ⟨r, I', h, hP⟩
theorem mm_Mv_eq {k : Nat} {as : List Value} {I : mm_I} {I' : mm_I} (h : mm_Rn k as I none I') (P : mm_I → Prop) : mm_Mv k as I P = P I' := by
  apply propext
  constructor
  · rintro ⟨I2, h2, hP⟩
    obtain ⟨e1, rfl⟩ := mm_Rn_det h h2
    exact hP
  · exact fun hP => ⟨I', h, hP⟩
theorem mm_Mf_eq {k : Nat} {as : List Value} {I : mm_I} {r : UInt32} {I' : mm_I} (h : mm_Rn k as I (some (.float r)) I') (P : UInt32 → mm_I → Prop) : mm_Mf k as I P = P r I' := by
  apply propext
  constructor
  · rintro ⟨r2, I2, h2, hP⟩
    obtain ⟨e1, rfl⟩ := mm_Rn_det h h2
    cases e1
    exact hP
  · exact fun hP => ⟨r, I', h, hP⟩
theorem mm_Ml_eq {k : Nat} {as : List Value} {I : mm_I} {r : Int64} {I' : mm_I} (h : mm_Rn k as I (some (.long r)) I') (P : Int64 → mm_I → Prop) : mm_Ml k as I P = P r I' := by
  apply propext
  constructor
  · rintro ⟨r2, I2, h2, hP⟩
    obtain ⟨e1, rfl⟩ := mm_Rn_det h h2
    cases e1
    exact hP
  · exact fun hP => ⟨r, I', h, hP⟩
theorem mm_rf_inj {a b : Option Nat} (h : va_rf a = va_rf b) : a = b := by
  cases a <;> cases b <;> first | rfl | (cases h; rfl) | cases h
theorem mm_Mr_eq {k : Nat} {as : List Value} {I : mm_I} {r : Option Nat} {I' : mm_I} (h : mm_Rn k as I (some (va_rf r)) I') (P : Option Nat → mm_I → Prop) : mm_Mr k as I P = P r I' := by
  apply propext
  constructor
  · rintro ⟨r2, I2, h2, hP⟩
    obtain ⟨e1, rfl⟩ := mm_Rn_det h h2
    have e2 := mm_rf_inj (Option.some.inj e1)
    subst e2
    exact hP
  · exact fun hP => ⟨r, I', h, hP⟩
theorem mm_Mi_of {k : Nat} {as : List Value} {I : mm_I} {P : Int32 → mm_I → Prop} (h : mm_W k 0 (mm_ent (mm_mL k) as) [] I (mm_qi k P)) : mm_Mi k as I P := by
  obtain ⟨f, ⟨pc, ls, st, hh⟩, hr, r, I', h1, h2, h3⟩ := h
  simp only at h2
  subst h2
  exact ⟨r, I', ⟨f, pc, ls, st, hr, h1⟩, h3⟩
theorem mm_Mv_of {k : Nat} {as : List Value} {I : mm_I} {P : mm_I → Prop} (h : mm_W k 0 (mm_ent (mm_mL k) as) [] I (mm_qv k P)) : mm_Mv k as I P := by
  obtain ⟨f, ⟨pc, ls, st, hh⟩, hr, I', h1, h2, h3⟩ := h
  simp only at h2
  subst h2
  exact ⟨I', ⟨f, pc, ls, st, hr, h1⟩, h3⟩
theorem mm_Mf_of {k : Nat} {as : List Value} {I : mm_I} {P : UInt32 → mm_I → Prop} (h : mm_W k 0 (mm_ent (mm_mL k) as) [] I (mm_qf k P)) : mm_Mf k as I P := by
  obtain ⟨f, ⟨pc, ls, st, hh⟩, hr, r, I', h1, h2, h3⟩ := h
  simp only at h2
  subst h2
  exact ⟨r, I', ⟨f, pc, ls, st, hr, h1⟩, h3⟩
theorem mm_Ml_of {k : Nat} {as : List Value} {I : mm_I} {P : Int64 → mm_I → Prop} (h : mm_W k 0 (mm_ent (mm_mL k) as) [] I (mm_ql k P)) : mm_Ml k as I P := by
  obtain ⟨f, ⟨pc, ls, st, hh⟩, hr, r, I', h1, h2, h3⟩ := h
  simp only at h2
  subst h2
  exact ⟨r, I', ⟨f, pc, ls, st, hr, h1⟩, h3⟩
theorem mm_Mr_of {k : Nat} {as : List Value} {I : mm_I} {P : Option Nat → mm_I → Prop} (h : mm_W k 0 (mm_ent (mm_mL k) as) [] I (mm_qr k P)) : mm_Mr k as I P := by
  obtain ⟨f, ⟨pc, ls, st, hh⟩, hr, r, I', h1, h2, h3⟩ := h
  simp only at h2
  subst h2
  exact ⟨r, I', ⟨f, pc, ls, st, hr, h1⟩, h3⟩
theorem mm_Mi.im {k : Nat} {as : List Value} {I : mm_I} {P P' : Int32 → mm_I → Prop} (h : mm_Mi k as I P) (hp : ∀ r I', P r I' → P' r I') : mm_Mi k as I P' := by
  obtain ⟨r, I', h1, h2⟩ := h
  exact ⟨r, I', h1, hp r I' h2⟩
theorem mm_Mv.im {k : Nat} {as : List Value} {I : mm_I} {P P' : mm_I → Prop} (h : mm_Mv k as I P) (hp : ∀ I', P I' → P' I') : mm_Mv k as I P' := by
  obtain ⟨I', h1, h2⟩ := h
  exact ⟨I', h1, hp I' h2⟩
theorem mm_W.im {k pc : Nat} {ls : mm_Ls} {st : List Value} {I : mm_I} {Q Q' : mm_S → Prop} (h : mm_W k pc ls st I Q) (hp : ∀ s, Q s → Q' s) : mm_W k pc ls st I Q' := by
  obtain ⟨f, s, h1, h2⟩ := h
  exact ⟨f, s, h1, hp s h2⟩
section MMW
variable {k pc n p q : Nat} {ls ls' : mm_Ls} {st : List Value} {I : mm_I} {Q : mm_S → Prop}
theorem mm_W.step {ins : Instr} {len : Nat} {st' : List Value} {I' : mm_I} (hc : mm_cod k pc = some (ins, len, p, q)) (hk : mm_knd ins p = 0) (hs : mm_ins false k pc ins len p q ls st (mm_lay, I) = some (n, ls', st', (mm_lay, I'))) (H : mm_W k n ls' st' I' Q) : mm_W k pc ls st I Q := by
  obtain ⟨f, s', hr, hq⟩ := H
  exact ⟨f + 1, s', by rw [mm_run_succ, hc]; simp only [hk, hs]; exact hr, hq⟩
theorem mm_W.call {ins : Instr} {len : Nat} {as rest : List Value} {v : Option Value} {I' : mm_I} (hc : mm_cod k pc = some (ins, len, p, q)) (hk : mm_knd ins p = 1) (hcl : mm_call k p q st (mm_lay, I) = some (as, rest)) (hR : mm_Rn p as I v I') (hn : pc + 3 = n) (H : mm_W k n ls (v.toList ++ rest) I' Q) : mm_W k pc ls st I Q := by
  subst hn
  obtain ⟨f, s', hr, hq⟩ := H
  obtain ⟨g, pc', ls', st', h1, h2⟩ := hR
  refine ⟨max f g + 1, s', ?_, hq⟩
  rw [mm_run_succ, hc]
  simp only [hk, hcl, mm_run_le h1 (Nat.le_max_right f g), h2]
  exact mm_run_le hr (Nat.le_max_left f g)
theorem w_calli {ins : Instr} {len : Nat} {as rest : List Value} (hc : mm_cod k pc = some (ins, len, p, q)) (hk : mm_knd ins p = 1) (hcl : mm_call k p q st (mm_lay, I) = some (as, rest)) (hn : pc + 3 = n) (H : mm_Mi p as I (fun r I' => mm_W k n ls (.int r :: rest) I' Q)) : mm_W k pc ls st I Q := by
  obtain ⟨r, I', h1, h2⟩ := H
  exact mm_W.call hc hk hcl h1 hn h2
theorem w_callv {ins : Instr} {len : Nat} {as rest : List Value} (hc : mm_cod k pc = some (ins, len, p, q)) (hk : mm_knd ins p = 1) (hcl : mm_call k p q st (mm_lay, I) = some (as, rest)) (hn : pc + 3 = n) (H : mm_Mv p as I (fun I' => mm_W k n ls rest I' Q)) : mm_W k pc ls st I Q := by
  obtain ⟨I', h1, h2⟩ := H
  exact mm_W.call hc hk hcl h1 hn h2
theorem w_callf {ins : Instr} {len : Nat} {as rest : List Value} (hc : mm_cod k pc = some (ins, len, p, q)) (hk : mm_knd ins p = 1) (hcl : mm_call k p q st (mm_lay, I) = some (as, rest)) (hn : pc + 3 = n) (H : mm_Mf p as I (fun r I' => mm_W k n ls (.float r :: rest) I' Q)) : mm_W k pc ls st I Q := by
  obtain ⟨r, I', h1, h2⟩ := H
  exact mm_W.call hc hk hcl h1 hn h2
theorem w_calll {ins : Instr} {len : Nat} {as rest : List Value} (hc : mm_cod k pc = some (ins, len, p, q)) (hk : mm_knd ins p = 1) (hcl : mm_call k p q st (mm_lay, I) = some (as, rest)) (hn : pc + 3 = n) (H : mm_Ml p as I (fun r I' => mm_W k n ls (.long r :: rest) I' Q)) : mm_W k pc ls st I Q := by
  obtain ⟨r, I', h1, h2⟩ := H
  exact mm_W.call hc hk hcl h1 hn h2
theorem w_callr {ins : Instr} {len : Nat} {as rest : List Value} (hc : mm_cod k pc = some (ins, len, p, q)) (hk : mm_knd ins p = 1) (hcl : mm_call k p q st (mm_lay, I) = some (as, rest)) (hn : pc + 3 = n) (H : mm_Mr p as I (fun r I' => mm_W k n ls (va_rf r :: rest) I' Q)) : mm_W k pc ls st I Q := by
  obtain ⟨r, I', h1, h2⟩ := H
  exact mm_W.call hc hk hcl h1 hn h2
theorem mm_W.end {ins : Instr} {len : Nat} (hc : mm_cod k pc = some (ins, len, p, q)) (hk : mm_knd ins p = 2) (H : Q (pc, ls, st, (mm_lay, I))) : mm_W k pc ls st I Q :=
  ⟨1, _, by rw [mm_run_succ, hc]; simp only [hk], H⟩
theorem w_ireturn {x : Int32} {P : Int32 → mm_I → Prop} (hc : mm_cod k pc = some (.ireturn, 1, p, q)) (hr : mm_rk (mm_rt k) = 1) (H : P x I) : mm_W k pc ls [.int x] I (mm_qi k P) := by
  refine mm_W.end hc rfl ⟨x, I, ?_, rfl, H⟩
  simp only [mm_ret, hc, hr]
  rfl
theorem w_zreturn {x : Int32} {P : Int32 → mm_I → Prop} (hc : mm_cod k pc = some (.ireturn, 1, p, q)) (hr : mm_rk (mm_rt k) = 2) (H : (x = 0 ∨ x = 1) ∧ P x I) : mm_W k pc ls [.int x] I (mm_qi k P) := by
  refine mm_W.end hc rfl ⟨x, I, ?_, rfl, H.2⟩
  simp only [mm_ret, hc, hr]
  rcases H.1 with rfl | rfl <;> rfl
theorem w_vreturn {P : mm_I → Prop} (hc : mm_cod k pc = some (.return_, 1, p, q)) (hr : mm_rk (mm_rt k) = 0) (H : P I) : mm_W k pc ls [] I (mm_qv k P) := by
  refine mm_W.end hc rfl ⟨I, ?_, rfl, H⟩
  simp only [mm_ret, hc, hr]
  rfl
theorem w_freturn {x : UInt32} {P : UInt32 → mm_I → Prop} (hc : mm_cod k pc = some (.freturn, 1, p, q)) (hr : mm_rk (mm_rt k) = 3) (H : P x I) : mm_W k pc ls [.float x] I (mm_qf k P) := by
  refine mm_W.end hc rfl ⟨x, I, ?_, rfl, H⟩
  simp only [mm_ret, hc, hr]
  rfl
theorem w_lreturn {x : Int64} {P : Int64 → mm_I → Prop} (hc : mm_cod k pc = some (.lreturn, 1, p, q)) (hr : mm_rk (mm_rt k) = 4) (H : P x I) : mm_W k pc ls [.long x] I (mm_ql k P) := by
  refine mm_W.end hc rfl ⟨x, I, ?_, rfl, H⟩
  simp only [mm_ret, hc, hr]
  rfl
theorem w_areturn {x : Option Nat} {P : Option Nat → mm_I → Prop} (hc : mm_cod k pc = some (.areturn, 1, p, q)) (hr : mm_rk (mm_rt k) = 6) (H : P x I) : mm_W k pc ls [va_rf x] I (mm_qr k P) := by
  refine mm_W.end hc rfl ⟨x, I, ?_, rfl, H⟩
  cases x <;> (simp only [mm_ret, hc, hr, va_rf]; rfl)
theorem w_iconst {i : Int} {v : Int32} (hc : mm_cod k pc = some (.iconst i, 1, p, q)) (hv : Int32.ofInt i = v) (hn : pc + 1 = n) (H : mm_W k n ls (.int v :: st) I Q) : mm_W k pc ls st I Q := by
  subst hn
  subst hv
  exact mm_W.step hc rfl rfl H
theorem w_bipush {i : Int} {v : Int32} (hc : mm_cod k pc = some (.bipush i, 2, p, q)) (hv : (Int8.ofInt i).toInt32 = v) (hn : pc + 2 = n) (H : mm_W k n ls (.int v :: st) I Q) : mm_W k pc ls st I Q := by
  subst hn
  subst hv
  exact mm_W.step hc rfl rfl H
theorem w_sipush {i : Int} {v : Int32} (hc : mm_cod k pc = some (.sipush i, 3, p, q)) (hv : (Int16.ofInt i).toInt32 = v) (hn : pc + 3 = n) (H : mm_W k n ls (.int v :: st) I Q) : mm_W k pc ls st I Q := by
  subst hn
  subst hv
  exact mm_W.step hc rfl rfl H
theorem w_lconst {i : Fin 2} {v : Int64} (hc : mm_cod k pc = some (.lconst i, 1, p, q)) (hv : Int64.ofNat (i : Nat) = v) (hn : pc + 1 = n) (H : mm_W k n ls (.long v :: st) I Q) : mm_W k pc ls st I Q := by
  subst hn
  subst hv
  exact mm_W.step hc rfl rfl H
theorem w_fconst0 (hc : mm_cod k pc = some (.fconst 0, 1, p, q)) (hn : pc + 1 = n) (H : mm_W k n ls (.float FP.fconst0 :: st) I Q) : mm_W k pc ls st I Q := by
  subst hn
  exact mm_W.step hc rfl rfl H
theorem w_fconst1 (hc : mm_cod k pc = some (.fconst 1, 1, p, q)) (hn : pc + 1 = n) (H : mm_W k n ls (.float FP.fconst1 :: st) I Q) : mm_W k pc ls st I Q := by
  subst hn
  exact mm_W.step hc rfl rfl H
theorem w_fconst2 (hc : mm_cod k pc = some (.fconst 2, 1, p, q)) (hn : pc + 1 = n) (H : mm_W k n ls (.float FP.fconst2 :: st) I Q) : mm_W k pc ls st I Q := by
  subst hn
  exact mm_W.step hc rfl rfl H
theorem w_dconst0 (hc : mm_cod k pc = some (.dconst 0, 1, p, q)) (hn : pc + 1 = n) (H : mm_W k n ls (.double FP.dconst0 :: st) I Q) : mm_W k pc ls st I Q := by
  subst hn
  exact mm_W.step hc rfl rfl H
theorem w_dconst1 (hc : mm_cod k pc = some (.dconst 1, 1, p, q)) (hn : pc + 1 = n) (H : mm_W k n ls (.double FP.dconst1 :: st) I Q) : mm_W k pc ls st I Q := by
  subst hn
  exact mm_W.step hc rfl rfl H
theorem w_null (hc : mm_cod k pc = some (.aconst_null, 1, p, q)) (hn : pc + 1 = n) (H : mm_W k n ls (.null :: st) I Q) : mm_W k pc ls st I Q := by
  subst hn
  exact mm_W.step hc rfl rfl H
theorem w_ldc {ix : Nat} {v : Int32} (hc : mm_cod k pc = some (.ldc ix, 2, p, 0)) (hv : Int32.ofNat p = v) (hn : pc + 2 = n) (H : mm_W k n ls (.int v :: st) I Q) : mm_W k pc ls st I Q := by
  subst hn
  subst hv
  exact mm_W.step hc rfl rfl H
theorem w_ldcf {ix : Nat} {v : UInt32} (hc : mm_cod k pc = some (.ldc ix, 2, p, 1)) (hv : UInt32.ofNat p = v) (hn : pc + 2 = n) (H : mm_W k n ls (.float v :: st) I Q) : mm_W k pc ls st I Q := by
  subst hn
  subst hv
  exact mm_W.step hc rfl rfl H
theorem w_ldc_w {ix : Nat} {v : Int32} (hc : mm_cod k pc = some (.ldc_w ix, 3, p, 0)) (hv : Int32.ofNat p = v) (hn : pc + 3 = n) (H : mm_W k n ls (.int v :: st) I Q) : mm_W k pc ls st I Q := by
  subst hn
  subst hv
  exact mm_W.step hc rfl rfl H
theorem w_ldc_wf {ix : Nat} {v : UInt32} (hc : mm_cod k pc = some (.ldc_w ix, 3, p, 1)) (hv : UInt32.ofNat p = v) (hn : pc + 3 = n) (H : mm_W k n ls (.float v :: st) I Q) : mm_W k pc ls st I Q := by
  subst hn
  subst hv
  exact mm_W.step hc rfl rfl H
theorem w_ldc2_w {ix : Nat} {v : Int64} (hc : mm_cod k pc = some (.ldc2_w ix, 3, p, 0)) (hv : Int64.ofNat p = v) (hn : pc + 3 = n) (H : mm_W k n ls (.long v :: st) I Q) : mm_W k pc ls st I Q := by
  subst hn
  subst hv
  exact mm_W.step hc rfl rfl H
theorem w_ldc2_wd {ix : Nat} {v : UInt64} (hc : mm_cod k pc = some (.ldc2_w ix, 3, p, 1)) (hv : UInt64.ofNat p = v) (hn : pc + 3 = n) (H : mm_W k n ls (.double v :: st) I Q) : mm_W k pc ls st I Q := by
  subst hn
  subst hv
  exact mm_W.step hc rfl rfl H
theorem w_iload {i : Nat} {x : Int32} (hc : mm_cod k pc = some (.iload i, 2, p, q)) (hl : mm_ld ls i = some (.int x)) (hn : pc + 2 = n) (H : mm_W k n ls (.int x :: st) I Q) : mm_W k pc ls st I Q := by
  subst hn
  exact mm_W.step hc rfl (by simp only [mm_ins, mm_ldv, hl]; rfl) H
theorem w_iload_n {i : Fin 4} {x : Int32} (hc : mm_cod k pc = some (.iload_n i, 1, p, q)) (hl : mm_ld ls i = some (.int x)) (hn : pc + 1 = n) (H : mm_W k n ls (.int x :: st) I Q) : mm_W k pc ls st I Q := by
  subst hn
  exact mm_W.step hc rfl (by simp only [mm_ins, mm_ldv, hl]; rfl) H
theorem w_istore {i : Nat} {x : Int32} (hc : mm_cod k pc = some (.istore i, 2, p, q)) (hb : Nat.ble ((i : Nat) + 1) ls.length = true) (hl : mm_s1 ls i (.int x) = ls') (hn : pc + 2 = n) (H : mm_W k n ls' st I Q) : mm_W k pc ls (.int x :: st) I Q := by
  subst hn
  subst hl
  exact mm_W.step hc rfl (by simp only [mm_ins, mm_stv, hb, mm_isI]; rfl) H
theorem w_istore_n {i : Fin 4} {x : Int32} (hc : mm_cod k pc = some (.istore_n i, 1, p, q)) (hb : Nat.ble ((i : Nat) + 1) ls.length = true) (hl : mm_s1 ls i (.int x) = ls') (hn : pc + 1 = n) (H : mm_W k n ls' st I Q) : mm_W k pc ls (.int x :: st) I Q := by
  subst hn
  subst hl
  exact mm_W.step hc rfl (by simp only [mm_ins, mm_stv, hb, mm_isI]; rfl) H
theorem w_lload {i : Nat} {x : Int64} (hc : mm_cod k pc = some (.lload i, 2, p, q)) (hl : mm_ld ls i = some (.long x)) (hn : pc + 2 = n) (H : mm_W k n ls (.long x :: st) I Q) : mm_W k pc ls st I Q := by
  subst hn
  exact mm_W.step hc rfl (by simp only [mm_ins, mm_ldv, hl]; rfl) H
theorem w_lload_n {i : Fin 4} {x : Int64} (hc : mm_cod k pc = some (.lload_n i, 1, p, q)) (hl : mm_ld ls i = some (.long x)) (hn : pc + 1 = n) (H : mm_W k n ls (.long x :: st) I Q) : mm_W k pc ls st I Q := by
  subst hn
  exact mm_W.step hc rfl (by simp only [mm_ins, mm_ldv, hl]; rfl) H
theorem w_lstore {i : Nat} {x : Int64} (hc : mm_cod k pc = some (.lstore i, 2, p, q)) (hb : Nat.ble ((i : Nat) + 2) ls.length = true) (hl : mm_s2 ls i (.long x) = ls') (hn : pc + 2 = n) (H : mm_W k n ls' st I Q) : mm_W k pc ls (.long x :: st) I Q := by
  subst hn
  subst hl
  exact mm_W.step hc rfl (by simp only [mm_ins, mm_stv, hb, mm_isL]; rfl) H
theorem w_lstore_n {i : Fin 4} {x : Int64} (hc : mm_cod k pc = some (.lstore_n i, 1, p, q)) (hb : Nat.ble ((i : Nat) + 2) ls.length = true) (hl : mm_s2 ls i (.long x) = ls') (hn : pc + 1 = n) (H : mm_W k n ls' st I Q) : mm_W k pc ls (.long x :: st) I Q := by
  subst hn
  subst hl
  exact mm_W.step hc rfl (by simp only [mm_ins, mm_stv, hb, mm_isL]; rfl) H
theorem w_fload {i : Nat} {x : UInt32} (hc : mm_cod k pc = some (.fload i, 2, p, q)) (hl : mm_ld ls i = some (.float x)) (hn : pc + 2 = n) (H : mm_W k n ls (.float x :: st) I Q) : mm_W k pc ls st I Q := by
  subst hn
  exact mm_W.step hc rfl (by simp only [mm_ins, mm_ldv, hl]; rfl) H
theorem w_fload_n {i : Fin 4} {x : UInt32} (hc : mm_cod k pc = some (.fload_n i, 1, p, q)) (hl : mm_ld ls i = some (.float x)) (hn : pc + 1 = n) (H : mm_W k n ls (.float x :: st) I Q) : mm_W k pc ls st I Q := by
  subst hn
  exact mm_W.step hc rfl (by simp only [mm_ins, mm_ldv, hl]; rfl) H
theorem w_fstore {i : Nat} {x : UInt32} (hc : mm_cod k pc = some (.fstore i, 2, p, q)) (hb : Nat.ble ((i : Nat) + 1) ls.length = true) (hl : mm_s1 ls i (.float x) = ls') (hn : pc + 2 = n) (H : mm_W k n ls' st I Q) : mm_W k pc ls (.float x :: st) I Q := by
  subst hn
  subst hl
  exact mm_W.step hc rfl (by simp only [mm_ins, mm_stv, hb, mm_isF]; rfl) H
theorem w_fstore_n {i : Fin 4} {x : UInt32} (hc : mm_cod k pc = some (.fstore_n i, 1, p, q)) (hb : Nat.ble ((i : Nat) + 1) ls.length = true) (hl : mm_s1 ls i (.float x) = ls') (hn : pc + 1 = n) (H : mm_W k n ls' st I Q) : mm_W k pc ls (.float x :: st) I Q := by
  subst hn
  subst hl
  exact mm_W.step hc rfl (by simp only [mm_ins, mm_stv, hb, mm_isF]; rfl) H
theorem w_dload {i : Nat} {x : UInt64} (hc : mm_cod k pc = some (.dload i, 2, p, q)) (hl : mm_ld ls i = some (.double x)) (hn : pc + 2 = n) (H : mm_W k n ls (.double x :: st) I Q) : mm_W k pc ls st I Q := by
  subst hn
  exact mm_W.step hc rfl (by simp only [mm_ins, mm_ldv, hl]; rfl) H
theorem w_dload_n {i : Fin 4} {x : UInt64} (hc : mm_cod k pc = some (.dload_n i, 1, p, q)) (hl : mm_ld ls i = some (.double x)) (hn : pc + 1 = n) (H : mm_W k n ls (.double x :: st) I Q) : mm_W k pc ls st I Q := by
  subst hn
  exact mm_W.step hc rfl (by simp only [mm_ins, mm_ldv, hl]; rfl) H
theorem w_dstore {i : Nat} {x : UInt64} (hc : mm_cod k pc = some (.dstore i, 2, p, q)) (hb : Nat.ble ((i : Nat) + 2) ls.length = true) (hl : mm_s2 ls i (.double x) = ls') (hn : pc + 2 = n) (H : mm_W k n ls' st I Q) : mm_W k pc ls (.double x :: st) I Q := by
  subst hn
  subst hl
  exact mm_W.step hc rfl (by simp only [mm_ins, mm_stv, hb, mm_isD]; rfl) H
theorem w_dstore_n {i : Fin 4} {x : UInt64} (hc : mm_cod k pc = some (.dstore_n i, 1, p, q)) (hb : Nat.ble ((i : Nat) + 2) ls.length = true) (hl : mm_s2 ls i (.double x) = ls') (hn : pc + 1 = n) (H : mm_W k n ls' st I Q) : mm_W k pc ls (.double x :: st) I Q := by
  subst hn
  subst hl
  exact mm_W.step hc rfl (by simp only [mm_ins, mm_stv, hb, mm_isD]; rfl) H
theorem w_aload {i : Nat} {x : Option Nat} (hc : mm_cod k pc = some (.aload i, 2, p, q)) (hl : mm_ld ls i = some (va_rf x)) (hn : pc + 2 = n) (H : mm_W k n ls (va_rf x :: st) I Q) : mm_W k pc ls st I Q := by
  subst hn
  refine mm_W.step hc rfl ?_ H
  simp only [mm_ins, mm_ldv, hl]
  cases x <;> rfl
theorem w_aloadR {i : Nat} {x : Nat} (hc : mm_cod k pc = some (.aload i, 2, p, q)) (hl : mm_ld ls i = some (.ref x)) (hn : pc + 2 = n) (H : mm_W k n ls (.ref x :: st) I Q) : mm_W k pc ls st I Q := w_aload (x := some x) hc hl hn H
theorem w_aload_n {i : Fin 4} {x : Option Nat} (hc : mm_cod k pc = some (.aload_n i, 1, p, q)) (hl : mm_ld ls i = some (va_rf x)) (hn : pc + 1 = n) (H : mm_W k n ls (va_rf x :: st) I Q) : mm_W k pc ls st I Q := by
  subst hn
  refine mm_W.step hc rfl ?_ H
  simp only [mm_ins, mm_ldv, hl]
  cases x <;> rfl
theorem w_aload_nR {i : Fin 4} {x : Nat} (hc : mm_cod k pc = some (.aload_n i, 1, p, q)) (hl : mm_ld ls i = some (.ref x)) (hn : pc + 1 = n) (H : mm_W k n ls (.ref x :: st) I Q) : mm_W k pc ls st I Q := w_aload_n (x := some x) hc hl hn H
theorem w_astore {i : Nat} {x : Option Nat} (hc : mm_cod k pc = some (.astore i, 2, p, q)) (hb : Nat.ble ((i : Nat) + 1) ls.length = true) (hl : mm_s1 ls i (va_rf x) = ls') (hn : pc + 2 = n) (H : mm_W k n ls' st I Q) : mm_W k pc ls (va_rf x :: st) I Q := by
  subst hn
  subst hl
  refine mm_W.step hc rfl ?_ H
  simp only [mm_ins, mm_stv, hb]
  cases x <;> rfl
theorem w_astore_n {i : Fin 4} {x : Option Nat} (hc : mm_cod k pc = some (.astore_n i, 1, p, q)) (hb : Nat.ble ((i : Nat) + 1) ls.length = true) (hl : mm_s1 ls i (va_rf x) = ls') (hn : pc + 1 = n) (H : mm_W k n ls' st I Q) : mm_W k pc ls (va_rf x :: st) I Q := by
  subst hn
  subst hl
  refine mm_W.step hc rfl ?_ H
  simp only [mm_ins, mm_stv, hb]
  cases x <;> rfl
theorem w_iinc {i : Nat} {cc : Int} {x y : Int32} (hc : mm_cod k pc = some (.iinc i cc, 3, p, q)) (hl : mm_ld ls i = some (.int x)) (hy : x + Int32.ofInt cc = y) (hs : mm_s1 ls i (.int y) = ls') (hn : pc + 3 = n) (H : mm_W k n ls' st I Q) : mm_W k pc ls st I Q := by
  subst hn
  subst hy
  subst hs
  exact mm_W.step hc rfl (by simp only [mm_ins, hl]; rfl) H
theorem w_iadd {x y : Int32} (hc : mm_cod k pc = some (.iadd, 1, p, q)) (hn : pc + 1 = n) (H : mm_W k n ls (.int (x + y) :: st) I Q) : mm_W k pc ls (.int y :: .int x :: st) I Q := by
  subst hn
  exact mm_W.step hc rfl rfl H
theorem w_isub {x y : Int32} (hc : mm_cod k pc = some (.isub, 1, p, q)) (hn : pc + 1 = n) (H : mm_W k n ls (.int (x - y) :: st) I Q) : mm_W k pc ls (.int y :: .int x :: st) I Q := by
  subst hn
  exact mm_W.step hc rfl rfl H
theorem w_imul {x y : Int32} (hc : mm_cod k pc = some (.imul, 1, p, q)) (hn : pc + 1 = n) (H : mm_W k n ls (.int (x * y) :: st) I Q) : mm_W k pc ls (.int y :: .int x :: st) I Q := by
  subst hn
  exact mm_W.step hc rfl rfl H
theorem w_iand {x y : Int32} (hc : mm_cod k pc = some (.iand, 1, p, q)) (hn : pc + 1 = n) (H : mm_W k n ls (.int (x &&& y) :: st) I Q) : mm_W k pc ls (.int y :: .int x :: st) I Q := by
  subst hn
  exact mm_W.step hc rfl rfl H
theorem w_ior {x y : Int32} (hc : mm_cod k pc = some (.ior, 1, p, q)) (hn : pc + 1 = n) (H : mm_W k n ls (.int (x ||| y) :: st) I Q) : mm_W k pc ls (.int y :: .int x :: st) I Q := by
  subst hn
  exact mm_W.step hc rfl rfl H
theorem w_ixor {x y : Int32} (hc : mm_cod k pc = some (.ixor, 1, p, q)) (hn : pc + 1 = n) (H : mm_W k n ls (.int (x ^^^ y) :: st) I Q) : mm_W k pc ls (.int y :: .int x :: st) I Q := by
  subst hn
  exact mm_W.step hc rfl rfl H
theorem w_ishl {x y : Int32} (hc : mm_cod k pc = some (.ishl, 1, p, q)) (hn : pc + 1 = n) (H : mm_W k n ls (.int (x <<< (y &&& 31)) :: st) I Q) : mm_W k pc ls (.int y :: .int x :: st) I Q := by
  subst hn
  exact mm_W.step hc rfl rfl H
theorem w_ishr {x y : Int32} (hc : mm_cod k pc = some (.ishr, 1, p, q)) (hn : pc + 1 = n) (H : mm_W k n ls (.int (x >>> (y &&& 31)) :: st) I Q) : mm_W k pc ls (.int y :: .int x :: st) I Q := by
  subst hn
  exact mm_W.step hc rfl rfl H
theorem w_iushr {x y : Int32} (hc : mm_cod k pc = some (.iushr, 1, p, q)) (hn : pc + 1 = n) (H : mm_W k n ls (.int ((x.toUInt32 >>> (y.toUInt32 &&& Int32.toUInt32 31)).toInt32) :: st) I Q) : mm_W k pc ls (.int y :: .int x :: st) I Q := by
  subst hn
  exact mm_W.step hc rfl rfl H
theorem w_idiv {x y : Int32} (hc : mm_cod k pc = some (.idiv, 1, p, q)) (hn : pc + 1 = n) (H : ¬ y = 0 ∧ mm_W k n ls (.int (x / y) :: st) I Q) : mm_W k pc ls (.int y :: .int x :: st) I Q := by
  subst hn
  exact mm_W.step hc rfl (by simp only [mm_ins, mm_dv, if_neg H.1]) H.2
theorem w_irem {x y : Int32} (hc : mm_cod k pc = some (.irem, 1, p, q)) (hn : pc + 1 = n) (H : ¬ y = 0 ∧ mm_W k n ls (.int (x - x / y * y) :: st) I Q) : mm_W k pc ls (.int y :: .int x :: st) I Q := by
  subst hn
  exact mm_W.step hc rfl (by simp only [mm_ins, mm_dv, if_neg H.1]) H.2
theorem w_ineg {x : Int32} (hc : mm_cod k pc = some (.ineg, 1, p, q)) (hn : pc + 1 = n) (H : mm_W k n ls (.int (-x) :: st) I Q) : mm_W k pc ls (.int x :: st) I Q := by
  subst hn
  exact mm_W.step hc rfl rfl H
theorem w_i2l {x : Int32} (hc : mm_cod k pc = some (.i2l, 1, p, q)) (hn : pc + 1 = n) (H : mm_W k n ls (.long (x.toInt64) :: st) I Q) : mm_W k pc ls (.int x :: st) I Q := by
  subst hn
  exact mm_W.step hc rfl rfl H
theorem w_i2b {x : Int32} (hc : mm_cod k pc = some (.i2b, 1, p, q)) (hn : pc + 1 = n) (H : mm_W k n ls (.int (x.toInt8.toInt32) :: st) I Q) : mm_W k pc ls (.int x :: st) I Q := by
  subst hn
  exact mm_W.step hc rfl rfl H
theorem w_i2f {x : Int32} (hc : mm_cod k pc = some (.i2f, 1, p, q)) (hn : pc + 1 = n) (H : mm_W k n ls (.float (FP.i2f x) :: st) I Q) : mm_W k pc ls (.int x :: st) I Q := by
  subst hn
  exact mm_W.step hc rfl rfl H
theorem w_i2d {x : Int32} (hc : mm_cod k pc = some (.i2d, 1, p, q)) (hn : pc + 1 = n) (H : mm_W k n ls (.double (FP.i2d x) :: st) I Q) : mm_W k pc ls (.int x :: st) I Q := by
  subst hn
  exact mm_W.step hc rfl rfl H
theorem w_l2i {x : Int64} (hc : mm_cod k pc = some (.l2i, 1, p, q)) (hn : pc + 1 = n) (H : mm_W k n ls (.int (x.toInt32) :: st) I Q) : mm_W k pc ls (.long x :: st) I Q := by
  subst hn
  exact mm_W.step hc rfl rfl H
theorem w_l2d {x : Int64} (hc : mm_cod k pc = some (.l2d, 1, p, q)) (hn : pc + 1 = n) (H : mm_W k n ls (.double (FP.l2d x) :: st) I Q) : mm_W k pc ls (.long x :: st) I Q := by
  subst hn
  exact mm_W.step hc rfl rfl H
theorem w_f2i {x : UInt32} (hc : mm_cod k pc = some (.f2i, 1, p, q)) (hn : pc + 1 = n) (H : mm_W k n ls (.int (FP.f2i x) :: st) I Q) : mm_W k pc ls (.float x :: st) I Q := by
  subst hn
  exact mm_W.step hc rfl rfl H
theorem w_d2l {x : UInt64} (hc : mm_cod k pc = some (.d2l, 1, p, q)) (hn : pc + 1 = n) (H : mm_W k n ls (.long (FP.d2l x) :: st) I Q) : mm_W k pc ls (.double x :: st) I Q := by
  subst hn
  exact mm_W.step hc rfl rfl H
theorem w_ladd {x y : Int64} (hc : mm_cod k pc = some (.ladd, 1, p, q)) (hn : pc + 1 = n) (H : mm_W k n ls (.long (x + y) :: st) I Q) : mm_W k pc ls (.long y :: .long x :: st) I Q := by
  subst hn
  exact mm_W.step hc rfl rfl H
theorem w_lsub {x y : Int64} (hc : mm_cod k pc = some (.lsub, 1, p, q)) (hn : pc + 1 = n) (H : mm_W k n ls (.long (x - y) :: st) I Q) : mm_W k pc ls (.long y :: .long x :: st) I Q := by
  subst hn
  exact mm_W.step hc rfl rfl H
theorem w_lmul {x y : Int64} (hc : mm_cod k pc = some (.lmul, 1, p, q)) (hn : pc + 1 = n) (H : mm_W k n ls (.long (x * y) :: st) I Q) : mm_W k pc ls (.long y :: .long x :: st) I Q := by
  subst hn
  exact mm_W.step hc rfl rfl H
theorem w_land {x y : Int64} (hc : mm_cod k pc = some (.land, 1, p, q)) (hn : pc + 1 = n) (H : mm_W k n ls (.long (x &&& y) :: st) I Q) : mm_W k pc ls (.long y :: .long x :: st) I Q := by
  subst hn
  exact mm_W.step hc rfl rfl H
theorem w_lor {x y : Int64} (hc : mm_cod k pc = some (.lor, 1, p, q)) (hn : pc + 1 = n) (H : mm_W k n ls (.long (x ||| y) :: st) I Q) : mm_W k pc ls (.long y :: .long x :: st) I Q := by
  subst hn
  exact mm_W.step hc rfl rfl H
theorem w_lcmp {x y : Int64} (hc : mm_cod k pc = some (.lcmp, 1, p, q)) (hn : pc + 1 = n) (H : mm_W k n ls (.int (lg_cmp x y) :: st) I Q) : mm_W k pc ls (.long y :: .long x :: st) I Q := by
  subst hn
  exact mm_W.step hc rfl rfl H
theorem w_lshl {x : Int64} {y : Int32} (hc : mm_cod k pc = some (.lshl, 1, p, q)) (hn : pc + 1 = n) (H : mm_W k n ls (.long (x <<< (y.toInt64 &&& 63)) :: st) I Q) : mm_W k pc ls (.int y :: .long x :: st) I Q := by
  subst hn
  exact mm_W.step hc rfl rfl H
theorem w_lshr {x : Int64} {y : Int32} (hc : mm_cod k pc = some (.lshr, 1, p, q)) (hn : pc + 1 = n) (H : mm_W k n ls (.long (x >>> (y.toInt64 &&& 63)) :: st) I Q) : mm_W k pc ls (.int y :: .long x :: st) I Q := by
  subst hn
  exact mm_W.step hc rfl rfl H
theorem w_lushr {x : Int64} {y : Int32} (hc : mm_cod k pc = some (.lushr, 1, p, q)) (hn : pc + 1 = n) (H : mm_W k n ls (.long ((x.toUInt64 >>> (y.toInt64.toUInt64 &&& Int64.toUInt64 63)).toInt64) :: st) I Q) : mm_W k pc ls (.int y :: .long x :: st) I Q := by
  subst hn
  exact mm_W.step hc rfl rfl H
theorem w_fdiv {x y : UInt32} (hc : mm_cod k pc = some (.fdiv, 1, p, q)) (hn : pc + 1 = n) (H : vf_n32 (FP.fdiv x y) ∧ mm_W k n ls (.float (FP.fdiv x y) :: st) I Q) : mm_W k pc ls (.float y :: .float x :: st) I Q := by
  subst hn
  exact mm_W.step hc rfl (if_pos H.1) H.2
theorem w_fmul {x y : UInt32} (hc : mm_cod k pc = some (.fmul, 1, p, q)) (hn : pc + 1 = n) (H : vf_n32 (FP.fmul x y) ∧ mm_W k n ls (.float (FP.fmul x y) :: st) I Q) : mm_W k pc ls (.float y :: .float x :: st) I Q := by
  subst hn
  exact mm_W.step hc rfl (if_pos H.1) H.2
theorem w_ddiv {x y : UInt64} (hc : mm_cod k pc = some (.ddiv, 1, p, q)) (hn : pc + 1 = n) (H : vf_n64 (FP.ddiv x y) ∧ mm_W k n ls (.double (FP.ddiv x y) :: st) I Q) : mm_W k pc ls (.double y :: .double x :: st) I Q := by
  subst hn
  exact mm_W.step hc rfl (if_pos H.1) H.2
theorem w_dmul {x y : UInt64} (hc : mm_cod k pc = some (.dmul, 1, p, q)) (hn : pc + 1 = n) (H : vf_n64 (FP.dmul x y) ∧ mm_W k n ls (.double (FP.dmul x y) :: st) I Q) : mm_W k pc ls (.double y :: .double x :: st) I Q := by
  subst hn
  exact mm_W.step hc rfl (if_pos H.1) H.2
theorem w_fcmp {x y : UInt32} {o : CmpOp} (hc : mm_cod k pc = some (.fcmp o, 1, p, q)) (hn : pc + 1 = n) (H : mm_W k n ls (.int (Op.cmpValue (FP.fcmp x y) o) :: st) I Q) : mm_W k pc ls (.float y :: .float x :: st) I Q := by
  subst hn
  exact mm_W.step hc rfl rfl H
theorem w_dcmp {x y : UInt64} {o : CmpOp} (hc : mm_cod k pc = some (.dcmp o, 1, p, q)) (hn : pc + 1 = n) (H : mm_W k n ls (.int (Op.cmpValue (FP.dcmp x y) o) :: st) I Q) : mm_W k pc ls (.double y :: .double x :: st) I Q := by
  subst hn
  exact mm_W.step hc rfl rfl H
theorem w_dup {v : Value} (hc : mm_cod k pc = some (.dup, 1, p, q)) (hv : Nat.beq v.category 1 = true) (hn : pc + 1 = n) (H : mm_W k n ls (v :: v :: st) I Q) : mm_W k pc ls (v :: st) I Q := by
  subst hn
  exact mm_W.step hc rfl (by simp only [mm_ins, hv, cond_true]) H
theorem w_pop {v : Value} (hc : mm_cod k pc = some (.pop, 1, p, q)) (hv : Nat.beq v.category 1 = true) (hn : pc + 1 = n) (H : mm_W k n ls st I Q) : mm_W k pc ls (v :: st) I Q := by
  subst hn
  exact mm_W.step hc rfl (by simp only [mm_ins, hv, cond_true]) H
theorem w_dup2 {v w : Value} (hc : mm_cod k pc = some (.dup2, 1, p, q)) (hv : (Nat.beq v.category 1 && Nat.beq w.category 1) = true) (hn : pc + 1 = n) (H : mm_W k n ls (v :: w :: v :: w :: st) I Q) : mm_W k pc ls (v :: w :: st) I Q := by
  subst hn
  exact mm_W.step hc rfl (by simp only [mm_ins, hv, cond_true]) H
theorem w_goto {off : Int} (hc : mm_cod k pc = some (.goto off, 3, p, q)) (H : mm_W k p ls st I Q) : mm_W k pc ls st I Q := mm_W.step hc rfl rfl H
theorem fa_nlt {a b : Int32} (h : b ≤ a) : ¬ a < b := by
  rw [Int32.lt_iff_toInt_lt]; rw [Int32.le_iff_toInt_le] at h; omega
theorem fa_nle {a b : Int32} (h : b < a) : ¬ a ≤ b := by
  rw [Int32.le_iff_toInt_le]; rw [Int32.lt_iff_toInt_lt] at h; omega
theorem fa_nlt' {a b : Int32} (h : ¬ a < b) : b ≤ a := by
  rw [Int32.lt_iff_toInt_lt] at h; rw [Int32.le_iff_toInt_le]; omega
theorem fa_nle' {a b : Int32} (h : ¬ a ≤ b) : b < a := by
  rw [Int32.le_iff_toInt_le] at h; rw [Int32.lt_iff_toInt_lt]; omega
theorem w_if_eq {x : Int32} {off : Int} (hc : mm_cod k pc = some (.ifCond .eq off, 3, p, q)) (hn : pc + 3 = n) (H : (x = 0 → mm_W k p ls st I Q) ∧ (¬ x = 0 → mm_W k n ls st I Q)) : mm_W k pc ls (.int x :: st) I Q := by
  subst hn
  by_cases h : x = 0
  · exact mm_W.step (n := p) hc rfl (by simp only [mm_ins, mm_bi, mm_cI, decide_eq_true h, cond_true]) (H.1 h)
  · exact mm_W.step (n := pc + 3) hc rfl (by simp only [mm_ins, mm_bi, mm_cI, decide_eq_false h, cond_false]) (H.2 h)
theorem w_icmp_eq {x y : Int32} {off : Int} (hc : mm_cod k pc = some (.if_icmp .eq off, 3, p, q)) (hn : pc + 3 = n) (H : (x = y → mm_W k p ls st I Q) ∧ (¬ x = y → mm_W k n ls st I Q)) : mm_W k pc ls (.int y :: .int x :: st) I Q := by
  subst hn
  by_cases h : x = y
  · exact mm_W.step (n := p) hc rfl (by simp only [mm_ins, mm_bi2, mm_cI, decide_eq_true h, cond_true]) (H.1 h)
  · exact mm_W.step (n := pc + 3) hc rfl (by simp only [mm_ins, mm_bi2, mm_cI, decide_eq_false h, cond_false]) (H.2 h)
theorem w_if_ne {x : Int32} {off : Int} (hc : mm_cod k pc = some (.ifCond .ne off, 3, p, q)) (hn : pc + 3 = n) (H : (¬ x = 0 → mm_W k p ls st I Q) ∧ (x = 0 → mm_W k n ls st I Q)) : mm_W k pc ls (.int x :: st) I Q := by
  subst hn
  by_cases h : ¬ x = 0
  · exact mm_W.step (n := p) hc rfl (by simp only [mm_ins, mm_bi, mm_cI, decide_eq_true h, cond_true]) (H.1 h)
  · exact mm_W.step (n := pc + 3) hc rfl (by simp only [mm_ins, mm_bi, mm_cI, decide_eq_false h, cond_false]) (H.2 (Decidable.not_not.mp h))
theorem w_icmp_ne {x y : Int32} {off : Int} (hc : mm_cod k pc = some (.if_icmp .ne off, 3, p, q)) (hn : pc + 3 = n) (H : (¬ x = y → mm_W k p ls st I Q) ∧ (x = y → mm_W k n ls st I Q)) : mm_W k pc ls (.int y :: .int x :: st) I Q := by
  subst hn
  by_cases h : ¬ x = y
  · exact mm_W.step (n := p) hc rfl (by simp only [mm_ins, mm_bi2, mm_cI, decide_eq_true h, cond_true]) (H.1 h)
  · exact mm_W.step (n := pc + 3) hc rfl (by simp only [mm_ins, mm_bi2, mm_cI, decide_eq_false h, cond_false]) (H.2 (Decidable.not_not.mp h))
theorem w_if_lt {x : Int32} {off : Int} (hc : mm_cod k pc = some (.ifCond .lt off, 3, p, q)) (hn : pc + 3 = n) (H : (x < 0 → mm_W k p ls st I Q) ∧ (0 ≤ x → mm_W k n ls st I Q)) : mm_W k pc ls (.int x :: st) I Q := by
  subst hn
  by_cases h : x < 0
  · exact mm_W.step (n := p) hc rfl (by simp only [mm_ins, mm_bi, mm_cI, decide_eq_true h, cond_true]) (H.1 h)
  · exact mm_W.step (n := pc + 3) hc rfl (by simp only [mm_ins, mm_bi, mm_cI, decide_eq_false h, cond_false]) (H.2 (fa_nlt' h))
theorem w_icmp_lt {x y : Int32} {off : Int} (hc : mm_cod k pc = some (.if_icmp .lt off, 3, p, q)) (hn : pc + 3 = n) (H : (x < y → mm_W k p ls st I Q) ∧ (y ≤ x → mm_W k n ls st I Q)) : mm_W k pc ls (.int y :: .int x :: st) I Q := by
  subst hn
  by_cases h : x < y
  · exact mm_W.step (n := p) hc rfl (by simp only [mm_ins, mm_bi2, mm_cI, decide_eq_true h, cond_true]) (H.1 h)
  · exact mm_W.step (n := pc + 3) hc rfl (by simp only [mm_ins, mm_bi2, mm_cI, decide_eq_false h, cond_false]) (H.2 (fa_nlt' h))
theorem w_if_ge {x : Int32} {off : Int} (hc : mm_cod k pc = some (.ifCond .ge off, 3, p, q)) (hn : pc + 3 = n) (H : (0 ≤ x → mm_W k p ls st I Q) ∧ (x < 0 → mm_W k n ls st I Q)) : mm_W k pc ls (.int x :: st) I Q := by
  subst hn
  by_cases h : 0 ≤ x
  · exact mm_W.step (n := p) hc rfl (by simp only [mm_ins, mm_bi, mm_cI, decide_eq_true h, cond_true]) (H.1 h)
  · exact mm_W.step (n := pc + 3) hc rfl (by simp only [mm_ins, mm_bi, mm_cI, decide_eq_false h, cond_false]) (H.2 (fa_nle' h))
theorem w_icmp_ge {x y : Int32} {off : Int} (hc : mm_cod k pc = some (.if_icmp .ge off, 3, p, q)) (hn : pc + 3 = n) (H : (y ≤ x → mm_W k p ls st I Q) ∧ (x < y → mm_W k n ls st I Q)) : mm_W k pc ls (.int y :: .int x :: st) I Q := by
  subst hn
  by_cases h : y ≤ x
  · exact mm_W.step (n := p) hc rfl (by simp only [mm_ins, mm_bi2, mm_cI, decide_eq_true h, cond_true]) (H.1 h)
  · exact mm_W.step (n := pc + 3) hc rfl (by simp only [mm_ins, mm_bi2, mm_cI, decide_eq_false h, cond_false]) (H.2 (fa_nle' h))
theorem w_if_gt {x : Int32} {off : Int} (hc : mm_cod k pc = some (.ifCond .gt off, 3, p, q)) (hn : pc + 3 = n) (H : (0 < x → mm_W k p ls st I Q) ∧ (x ≤ 0 → mm_W k n ls st I Q)) : mm_W k pc ls (.int x :: st) I Q := by
  subst hn
  by_cases h : 0 < x
  · exact mm_W.step (n := p) hc rfl (by simp only [mm_ins, mm_bi, mm_cI, decide_eq_true h, cond_true]) (H.1 h)
  · exact mm_W.step (n := pc + 3) hc rfl (by simp only [mm_ins, mm_bi, mm_cI, decide_eq_false h, cond_false]) (H.2 (fa_nlt' h))
theorem w_icmp_gt {x y : Int32} {off : Int} (hc : mm_cod k pc = some (.if_icmp .gt off, 3, p, q)) (hn : pc + 3 = n) (H : (y < x → mm_W k p ls st I Q) ∧ (x ≤ y → mm_W k n ls st I Q)) : mm_W k pc ls (.int y :: .int x :: st) I Q := by
  subst hn
  by_cases h : y < x
  · exact mm_W.step (n := p) hc rfl (by simp only [mm_ins, mm_bi2, mm_cI, decide_eq_true h, cond_true]) (H.1 h)
  · exact mm_W.step (n := pc + 3) hc rfl (by simp only [mm_ins, mm_bi2, mm_cI, decide_eq_false h, cond_false]) (H.2 (fa_nlt' h))
theorem w_if_le {x : Int32} {off : Int} (hc : mm_cod k pc = some (.ifCond .le off, 3, p, q)) (hn : pc + 3 = n) (H : (x ≤ 0 → mm_W k p ls st I Q) ∧ (0 < x → mm_W k n ls st I Q)) : mm_W k pc ls (.int x :: st) I Q := by
  subst hn
  by_cases h : x ≤ 0
  · exact mm_W.step (n := p) hc rfl (by simp only [mm_ins, mm_bi, mm_cI, decide_eq_true h, cond_true]) (H.1 h)
  · exact mm_W.step (n := pc + 3) hc rfl (by simp only [mm_ins, mm_bi, mm_cI, decide_eq_false h, cond_false]) (H.2 (fa_nle' h))
theorem w_icmp_le {x y : Int32} {off : Int} (hc : mm_cod k pc = some (.if_icmp .le off, 3, p, q)) (hn : pc + 3 = n) (H : (x ≤ y → mm_W k p ls st I Q) ∧ (y < x → mm_W k n ls st I Q)) : mm_W k pc ls (.int y :: .int x :: st) I Q := by
  subst hn
  by_cases h : x ≤ y
  · exact mm_W.step (n := p) hc rfl (by simp only [mm_ins, mm_bi2, mm_cI, decide_eq_true h, cond_true]) (H.1 h)
  · exact mm_W.step (n := pc + 3) hc rfl (by simp only [mm_ins, mm_bi2, mm_cI, decide_eq_false h, cond_false]) (H.2 (fa_nle' h))
theorem w_ifnull {x : Option Nat} {off : Int} (hc : mm_cod k pc = some (.ifnull off, 3, p, q)) (hn : pc + 3 = n) (H : (x = none → mm_W k p ls st I Q) ∧ (∀ a, x = some a → mm_W k n ls st I Q)) : mm_W k pc ls (va_rf x :: st) I Q := by
  subst hn
  cases x with
  | none => exact mm_W.step (n := p) hc rfl rfl (H.1 rfl)
  | some a => exact mm_W.step (n := pc + 3) hc rfl rfl (H.2 a rfl)
theorem w_ifnonnull {x : Option Nat} {off : Int} (hc : mm_cod k pc = some (.ifnonnull off, 3, p, q)) (hn : pc + 3 = n) (H : (x = none → mm_W k n ls st I Q) ∧ (∀ a, x = some a → mm_W k p ls st I Q)) : mm_W k pc ls (va_rf x :: st) I Q := by
  subst hn
  cases x with
  | none => exact mm_W.step (n := pc + 3) hc rfl rfl (H.1 rfl)
  | some a => exact mm_W.step (n := p) hc rfl rfl (H.2 a rfl)
theorem w_switch {d lo hi : Int} {offs : Array Int} {len : Nat} {x : Int32} {tg : Nat} (hc : mm_cod k pc = some (.tableswitch d lo hi offs, len, p, q)) (hs : mm_sw pc d lo hi offs x = some tg) (H : mm_W k tg ls st I Q) : mm_W k pc ls (.int x :: st) I Q :=
  mm_W.step (n := tg) hc rfl (by simp only [mm_ins, hs]) H
theorem w_getI {a : Nat} {ix : Nat} (hc : mm_cod k pc = some (.getfield ix, 3, p, q)) (ha : mm_aid (mm_lay, I) a p = true) (hf : Nat.beq (mm_ft p q) 2 = false) (hn : pc + 3 = n) (H : mm_W k n ls (.int (I a q) :: st) I Q) : mm_W k pc ls (.ref a :: st) I Q := by
  subst hn
  exact mm_W.step (n := pc + 3) hc rfl (by simp only [mm_ins, mm_gf, ha, cond_true, mm_fv, hf, cond_false]; rfl) H
theorem w_getR {a b : Nat} {ix : Nat} (hc : mm_cod k pc = some (.getfield ix, 3, p, q)) (ha : mm_aid (mm_lay, I) a p = true) (hf : Nat.beq (mm_ft p q) 2 = true) (hb : mm_R (mm_lay, I) a q = some b) (hn : pc + 3 = n) (H : mm_W k n ls (.ref b :: st) I Q) : mm_W k pc ls (.ref a :: st) I Q := by
  subst hn
  exact mm_W.step (n := pc + 3) hc rfl (by simp only [mm_ins, mm_gf, ha, cond_true, mm_fv, hf, hb]; rfl) H
theorem w_putI {a : Nat} {ix : Nat} {x : Int32} (hc : mm_cod k pc = some (.putfield ix, 3, p, q)) (ha : mm_aid (mm_lay, I) a p = true) (hf : Nat.beq (mm_ft p q) 0 = true) (hi : mm_fin p q = false) (hn : pc + 3 = n) (H : mm_W k n ls st (mm_up I a q x) Q) : mm_W k pc ls (.int x :: .ref a :: st) I Q := by
  subst hn
  exact mm_W.step (n := pc + 3) hc rfl (by simp only [mm_ins, mm_pf, ha, hi, hf]; rfl) H
theorem w_putZ {a : Nat} {ix : Nat} {x : Int32} (hc : mm_cod k pc = some (.putfield ix, 3, p, q)) (ha : mm_aid (mm_lay, I) a p = true) (h0 : Nat.beq (mm_ft p q) 0 = false) (hf : Nat.beq (mm_ft p q) 1 = true) (hi : mm_fin p q = false) (hn : pc + 3 = n) (H : (x = 0 ∨ x = 1) ∧ mm_W k n ls st (mm_up I a q x) Q) : mm_W k pc ls (.int x :: .ref a :: st) I Q := by
  subst hn
  exact mm_W.step (n := pc + 3) hc rfl (by rcases H.1 with rfl | rfl <;> (simp only [mm_ins, mm_pf, ha, hi, hf, h0]; rfl)) H.2
theorem w_getS {ix : Nat} (hc : mm_cod k pc = some (.getstatic ix, 3, p, q)) (hn : pc + 3 = n) (H : mm_W k n ls (.ref 5000 :: st) I Q) : mm_W k pc ls st I Q := by
  subst hn
  exact mm_W.step hc rfl rfl H
theorem mm_inb_of {i : Int32} {n : Nat} (h : vp_in i n) : mm_inb i n = true := decide_eq_true (p := ¬ (i < 0 ∨ n ≤ i.toNatClampNeg)) h
theorem w_iaload {a N : Nat} {i : Int32} (hc : mm_cod k pc = some (.iaload, 1, p, q)) (h5 : Nat.beq a 5000 = false) (ha : mm_aid (mm_lay, I) a 100 = true) (hl : mm_L (mm_lay, I) a = N) (hn : pc + 1 = n) (H : vp_in i N ∧ mm_W k n ls (.int (I a i.toNatClampNeg) :: st) I Q) : mm_W k pc ls (.int i :: .ref a :: st) I Q := by
  subst hn
  subst hl
  exact mm_W.step (n := pc + 1) hc rfl (by simp only [mm_ins, mm_al, h5, ha, mm_inb_of H.1]; rfl) H.2
theorem w_ialoadF {i : Int32} (hc : mm_cod k pc = some (.iaload, 1, p, q)) (hn : pc + 1 = n) (H : vp_in i 20 ∧ mm_W k n ls (.int (mm_fix i.toNatClampNeg) :: st) I Q) : mm_W k pc ls (.int i :: .ref 5000 :: st) I Q := by
  subst hn
  exact mm_W.step (n := pc + 1) hc rfl (by simp only [mm_ins, mm_al, mm_inb_of H.1]; rfl) H.2
theorem w_baload {a N : Nat} {i : Int32} (hc : mm_cod k pc = some (.baload, 1, p, q)) (ha : mm_aid (mm_lay, I) a 101 = true) (hl : mm_L (mm_lay, I) a = N) (hn : pc + 1 = n) (H : vp_in i N ∧ mm_W k n ls (.int (I a i.toNatClampNeg) :: st) I Q) : mm_W k pc ls (.int i :: .ref a :: st) I Q := by
  subst hn
  subst hl
  exact mm_W.step (n := pc + 1) hc rfl (by simp only [mm_ins, mm_al, ha, mm_inb_of H.1]; rfl) H.2
theorem w_iastore {a N : Nat} {i x : Int32} (hc : mm_cod k pc = some (.iastore, 1, p, q)) (ha : mm_aid (mm_lay, I) a 100 = true) (hl : mm_L (mm_lay, I) a = N) (hn : pc + 1 = n) (H : vp_in i N ∧ mm_W k n ls st (mm_up I a i.toNatClampNeg x) Q) : mm_W k pc ls (.int x :: .int i :: .ref a :: st) I Q := by
  subst hn
  subst hl
  exact mm_W.step (n := pc + 1) hc rfl (by simp only [mm_ins, mm_as, ha, mm_inb_of H.1]; rfl) H.2
theorem w_bastore {a N : Nat} {i x : Int32} (hc : mm_cod k pc = some (.bastore, 1, p, q)) (ha : mm_aid (mm_lay, I) a 101 = true) (hl : mm_L (mm_lay, I) a = N) (hn : pc + 1 = n) (H : vp_in i N ∧ (x = 0 ∨ x = 1) ∧ mm_W k n ls st (mm_up I a i.toNatClampNeg x) Q) : mm_W k pc ls (.int x :: .int i :: .ref a :: st) I Q := by
  subst hn
  subst hl
  exact mm_W.step (n := pc + 1) hc rfl (by rcases H.2.1 with rfl | rfl <;> (simp only [mm_ins, mm_as, ha, mm_inb_of H.1]; rfl)) H.2.2
theorem w_alen {a N : Nat} {v : Int32} (hc : mm_cod k pc = some (.arraylength, 1, p, q)) (ha : mm_aid (mm_lay, I) a 100 = true) (hl : mm_L (mm_lay, I) a = N) (hv : Int32.ofNat N = v) (hn : pc + 1 = n) (H : mm_W k n ls (.int v :: st) I Q) : mm_W k pc ls (.ref a :: st) I Q := by
  subst hn
  subst hv
  subst hl
  exact mm_W.step (n := pc + 1) hc rfl (by simp only [mm_ins, mm_len, ha]; rfl) H
theorem w_f2raw {ix : Nat} {x : UInt32} (hc : mm_cod k pc = some (.invokestatic ix, 3, 1002, q)) (hb : (Nat.ble (st.map fun v => v.category).sum 8 && Nat.ble 1 (mm_dp k)) = true) (hn : pc + 3 = n) (H : mm_W k n ls (.int x.toInt32 :: st) I Q) : mm_W k pc ls (.float x :: st) I Q := by
  subst hn
  rw [Bool.and_eq_true] at hb
  exact mm_W.step (n := pc + 3) hc rfl (by simp only [mm_ins, hb.1, hb.2]; rfl) H
theorem w_d2raw {ix : Nat} {x : UInt64} (hc : mm_cod k pc = some (.invokestatic ix, 3, 1003, q)) (hb : (Nat.ble (st.map fun v => v.category).sum 8 && Nat.ble 1 (mm_dp k)) = true) (hn : pc + 3 = n) (H : mm_W k n ls (.long x.toInt64 :: st) I Q) : mm_W k pc ls (.double x :: st) I Q := by
  subst hn
  rw [Bool.and_eq_true] at hb
  exact mm_W.step (n := pc + 3) hc rfl (by simp only [mm_ins, hb.1, hb.2]; rfl) H
end MMW
end
