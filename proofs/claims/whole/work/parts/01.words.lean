-- ===== PART A: goes FIRST, ahead of the names: the tables' words, and 'selects' of the private methods out of them =====
/-- a private method of a class that the tables say can be made, by its rows of tables_1 -/
def lw_okq (q : MethodName × Nat) : Prop := (q.1.cls ≠ "java/lang/invoke/MethodHandle" ∧ q.1.cls ≠ "java/lang/invoke/VarHandle") ∧ Cond.instantiable q.1.cls q.2 ∈ tables_1 ∧ Cond.privateMethod q.1 ∈ tables_1 ∧ Cond.instanceMethod q.1 ∈ tables_1
theorem lw_p0 : lw_okq (⟨"WholeSound", "filled", "(IIIII)I"⟩, 10) := ⟨⟨by decide +kernel, by decide +kernel⟩, List.mem_of_getElem? (i := 21) (by decide +kernel), List.mem_of_getElem? (i := 382) (by decide +kernel), List.mem_of_getElem? (i := 383) (by decide +kernel)⟩
theorem lw_p1 : lw_okq (⟨"WholeSound", "hasFrame", "(I)Z"⟩, 10) := ⟨⟨by decide +kernel, by decide +kernel⟩, List.mem_of_getElem? (i := 21) (by decide +kernel), List.mem_of_getElem? (i := 467) (by decide +kernel), List.mem_of_getElem? (i := 468) (by decide +kernel)⟩
theorem lw_p2 : lw_okq (⟨"WholeSound$Row", "isStill", "()Z"⟩, 10) := ⟨⟨by decide +kernel, by decide +kernel⟩, List.mem_of_getElem? (i := 160) (by decide +kernel), List.mem_of_getElem? (i := 494) (by decide +kernel), List.mem_of_getElem? (i := 495) (by decide +kernel)⟩
theorem lw_p3 : lw_okq (⟨"WholeSound$Cutter", "measureGroups", "()V"⟩, 15) := ⟨⟨by decide +kernel, by decide +kernel⟩, List.mem_of_getElem? (i := 100) (by decide +kernel), List.mem_of_getElem? (i := 515) (by decide +kernel), List.mem_of_getElem? (i := 516) (by decide +kernel)⟩
theorem lw_p4 : lw_okq (⟨"WholeSound$Cutter", "findParameter", "(III)V"⟩, 15) := ⟨⟨by decide +kernel, by decide +kernel⟩, List.mem_of_getElem? (i := 100) (by decide +kernel), List.mem_of_getElem? (i := 527) (by decide +kernel), List.mem_of_getElem? (i := 528) (by decide +kernel)⟩
theorem lw_p5 : lw_okq (⟨"WholeSound$Cutter", "parameterOfMean", "()I"⟩, 15) := ⟨⟨by decide +kernel, by decide +kernel⟩, List.mem_of_getElem? (i := 100) (by decide +kernel), List.mem_of_getElem? (i := 535) (by decide +kernel), List.mem_of_getElem? (i := 536) (by decide +kernel)⟩
theorem lw_p6 : lw_okq (⟨"WholeSound$Row", "keepRuns", "(LWholeSound$Cutter;)V"⟩, 10) := ⟨⟨by decide +kernel, by decide +kernel⟩, List.mem_of_getElem? (i := 160) (by decide +kernel), List.mem_of_getElem? (i := 543) (by decide +kernel), List.mem_of_getElem? (i := 544) (by decide +kernel)⟩
theorem lw_p7 : lw_okq (⟨"WholeSound$Plan", "joinRows", "(LWholeSound$Sound;II)V"⟩, 7) := ⟨⟨by decide +kernel, by decide +kernel⟩, List.mem_of_getElem? (i := 94) (by decide +kernel), List.mem_of_getElem? (i := 547) (by decide +kernel), List.mem_of_getElem? (i := 548) (by decide +kernel)⟩
theorem lw_p8 : lw_okq (⟨"WholeSound$Plan", "chooseWay", "()V"⟩, 7) := ⟨⟨by decide +kernel, by decide +kernel⟩, List.mem_of_getElem? (i := 94) (by decide +kernel), List.mem_of_getElem? (i := 551) (by decide +kernel), List.mem_of_getElem? (i := 552) (by decide +kernel)⟩
theorem lw_p9 : lw_okq (⟨"WholeSound", "plannedRow", "(II)LWholeSound$Row;"⟩, 10) := ⟨⟨by decide +kernel, by decide +kernel⟩, List.mem_of_getElem? (i := 21) (by decide +kernel), List.mem_of_getElem? (i := 576) (by decide +kernel), List.mem_of_getElem? (i := 577) (by decide +kernel)⟩
theorem lw_p10 : lw_okq (⟨"WholeSound", "canTry", "(LWholeSound$Row;I)Z"⟩, 10) := ⟨⟨by decide +kernel, by decide +kernel⟩, List.mem_of_getElem? (i := 21) (by decide +kernel), List.mem_of_getElem? (i := 590) (by decide +kernel), List.mem_of_getElem? (i := 591) (by decide +kernel)⟩
theorem lw_p11 : lw_okq (⟨"WholeSound", "packedSize", "(II)I"⟩, 10) := ⟨⟨by decide +kernel, by decide +kernel⟩, List.mem_of_getElem? (i := 21) (by decide +kernel), List.mem_of_getElem? (i := 613) (by decide +kernel), List.mem_of_getElem? (i := 614) (by decide +kernel)⟩
theorem lw_p12 : lw_okq (⟨"WholeSound", "writeHead", "()V"⟩, 10) := ⟨⟨by decide +kernel, by decide +kernel⟩, List.mem_of_getElem? (i := 21) (by decide +kernel), List.mem_of_getElem? (i := 637) (by decide +kernel), List.mem_of_getElem? (i := 638) (by decide +kernel)⟩
theorem lw_p13 : lw_okq (⟨"WholeSound", "writeFrame", "(I)V"⟩, 10) := ⟨⟨by decide +kernel, by decide +kernel⟩, List.mem_of_getElem? (i := 21) (by decide +kernel), List.mem_of_getElem? (i := 664) (by decide +kernel), List.mem_of_getElem? (i := 665) (by decide +kernel)⟩
theorem lw_p14 : lw_okq (⟨"WholeSound", "writeRow", "(LWholeSound$Row;)V"⟩, 10) := ⟨⟨by decide +kernel, by decide +kernel⟩, List.mem_of_getElem? (i := 21) (by decide +kernel), List.mem_of_getElem? (i := 672) (by decide +kernel), List.mem_of_getElem? (i := 673) (by decide +kernel)⟩
theorem lw_p15 : lw_okq (⟨"WholeSound", "writeRuns", "(LWholeSound$Row;)V"⟩, 10) := ⟨⟨by decide +kernel, by decide +kernel⟩, List.mem_of_getElem? (i := 21) (by decide +kernel), List.mem_of_getElem? (i := 676) (by decide +kernel), List.mem_of_getElem? (i := 677) (by decide +kernel)⟩
def lw_privs_1 : List (MethodName × Nat) := [(⟨"WholeSound", "filled", "(IIIII)I"⟩, 10), (⟨"WholeSound", "hasFrame", "(I)Z"⟩, 10), (⟨"WholeSound$Row", "isStill", "()Z"⟩, 10), (⟨"WholeSound$Cutter", "measureGroups", "()V"⟩, 15), (⟨"WholeSound$Cutter", "findParameter", "(III)V"⟩, 15), (⟨"WholeSound$Cutter", "parameterOfMean", "()I"⟩, 15), (⟨"WholeSound$Row", "keepRuns", "(LWholeSound$Cutter;)V"⟩, 10), (⟨"WholeSound$Plan", "joinRows", "(LWholeSound$Sound;II)V"⟩, 7), (⟨"WholeSound$Plan", "chooseWay", "()V"⟩, 7), (⟨"WholeSound", "plannedRow", "(II)LWholeSound$Row;"⟩, 10), (⟨"WholeSound", "canTry", "(LWholeSound$Row;I)Z"⟩, 10), (⟨"WholeSound", "packedSize", "(II)I"⟩, 10), (⟨"WholeSound", "writeHead", "()V"⟩, 10), (⟨"WholeSound", "writeFrame", "(I)V"⟩, 10), (⟨"WholeSound", "writeRow", "(LWholeSound$Row;)V"⟩, 10), (⟨"WholeSound", "writeRuns", "(LWholeSound$Row;)V"⟩, 10)]
theorem lw_r1 : ∀ q ∈ lw_privs_1, lw_okq q := List.forall_mem_cons.mpr ⟨lw_p0, List.forall_mem_cons.mpr ⟨lw_p1, List.forall_mem_cons.mpr ⟨lw_p2, List.forall_mem_cons.mpr ⟨lw_p3, List.forall_mem_cons.mpr ⟨lw_p4, List.forall_mem_cons.mpr ⟨lw_p5, List.forall_mem_cons.mpr ⟨lw_p6, List.forall_mem_cons.mpr ⟨lw_p7, List.forall_mem_cons.mpr ⟨lw_p8, List.forall_mem_cons.mpr ⟨lw_p9, List.forall_mem_cons.mpr ⟨lw_p10, List.forall_mem_cons.mpr ⟨lw_p11, List.forall_mem_cons.mpr ⟨lw_p12, List.forall_mem_cons.mpr ⟨lw_p13, List.forall_mem_cons.mpr ⟨lw_p14, List.forall_mem_cons.mpr ⟨lw_p15, fun _ h => absurd h List.not_mem_nil⟩⟩⟩⟩⟩⟩⟩⟩⟩⟩⟩⟩⟩⟩⟩⟩
theorem lw_p16 : lw_okq (⟨"WholeSound", "writeFixed", "(III)V"⟩, 10) := ⟨⟨by decide +kernel, by decide +kernel⟩, List.mem_of_getElem? (i := 21) (by decide +kernel), List.mem_of_getElem? (i := 681) (by decide +kernel), List.mem_of_getElem? (i := 682) (by decide +kernel)⟩
theorem lw_p17 : lw_okq (⟨"WholeSound", "writeSplit", "(III)V"⟩, 10) := ⟨⟨by decide +kernel, by decide +kernel⟩, List.mem_of_getElem? (i := 21) (by decide +kernel), List.mem_of_getElem? (i := 685) (by decide +kernel), List.mem_of_getElem? (i := 686) (by decide +kernel)⟩
theorem lw_p18 : lw_okq (⟨"WholeSound$Reader", "forgetFound", "()V"⟩, 13) := ⟨⟨by decide +kernel, by decide +kernel⟩, List.mem_of_getElem? (i := 235) (by decide +kernel), List.mem_of_getElem? (i := 735) (by decide +kernel), List.mem_of_getElem? (i := 736) (by decide +kernel)⟩
theorem lw_p19 : lw_okq (⟨"WholeSound$Reader", "frames", "()I"⟩, 13) := ⟨⟨by decide +kernel, by decide +kernel⟩, List.mem_of_getElem? (i := 235) (by decide +kernel), List.mem_of_getElem? (i := 744) (by decide +kernel), List.mem_of_getElem? (i := 745) (by decide +kernel)⟩
theorem lw_p20 : lw_okq (⟨"WholeSound$Reader", "readBits", "(I)I"⟩, 13) := ⟨⟨by decide +kernel, by decide +kernel⟩, List.mem_of_getElem? (i := 235) (by decide +kernel), List.mem_of_getElem? (i := 753) (by decide +kernel), List.mem_of_getElem? (i := 754) (by decide +kernel)⟩
theorem lw_p21 : lw_okq (⟨"WholeSound$Reader", "readRow", "([III)V"⟩, 13) := ⟨⟨by decide +kernel, by decide +kernel⟩, List.mem_of_getElem? (i := 235) (by decide +kernel), List.mem_of_getElem? (i := 757) (by decide +kernel), List.mem_of_getElem? (i := 758) (by decide +kernel)⟩
theorem lw_p22 : lw_okq (⟨"WholeSound$Reader", "readSigned", "(I)I"⟩, 13) := ⟨⟨by decide +kernel, by decide +kernel⟩, List.mem_of_getElem? (i := 235) (by decide +kernel), List.mem_of_getElem? (i := 761) (by decide +kernel), List.mem_of_getElem? (i := 762) (by decide +kernel)⟩
theorem lw_p23 : lw_okq (⟨"WholeSound$Reader", "readNumbers", "([III)V"⟩, 13) := ⟨⟨by decide +kernel, by decide +kernel⟩, List.mem_of_getElem? (i := 235) (by decide +kernel), List.mem_of_getElem? (i := 765) (by decide +kernel), List.mem_of_getElem? (i := 766) (by decide +kernel)⟩
theorem lw_p24 : lw_okq (⟨"WholeSound$Reader", "readRuns", "([III)V"⟩, 13) := ⟨⟨by decide +kernel, by decide +kernel⟩, List.mem_of_getElem? (i := 235) (by decide +kernel), List.mem_of_getElem? (i := 769) (by decide +kernel), List.mem_of_getElem? (i := 770) (by decide +kernel)⟩
theorem lw_p25 : lw_okq (⟨"WholeSound$Reader", "readSplit", "(I)I"⟩, 13) := ⟨⟨by decide +kernel, by decide +kernel⟩, List.mem_of_getElem? (i := 235) (by decide +kernel), List.mem_of_getElem? (i := 773) (by decide +kernel), List.mem_of_getElem? (i := 774) (by decide +kernel)⟩
theorem lw_p26 : lw_okq (⟨"WholeSound$Reader", "part", "(II)V"⟩, 13) := ⟨⟨by decide +kernel, by decide +kernel⟩, List.mem_of_getElem? (i := 235) (by decide +kernel), List.mem_of_getElem? (i := 778) (by decide +kernel), List.mem_of_getElem? (i := 779) (by decide +kernel)⟩
theorem lw_p27 : lw_okq (⟨"WholeSound$Reader", "isOfWidth", "([II)Z"⟩, 13) := ⟨⟨by decide +kernel, by decide +kernel⟩, List.mem_of_getElem? (i := 235) (by decide +kernel), List.mem_of_getElem? (i := 782) (by decide +kernel), List.mem_of_getElem? (i := 783) (by decide +kernel)⟩
theorem lw_p28 : lw_okq (⟨"WholeSound$Reader", "keepFound", "(III)V"⟩, 13) := ⟨⟨by decide +kernel, by decide +kernel⟩, List.mem_of_getElem? (i := 235) (by decide +kernel), List.mem_of_getElem? (i := 787) (by decide +kernel), List.mem_of_getElem? (i := 788) (by decide +kernel)⟩
theorem lw_p29 : lw_okq (⟨"java/lang/Throwable", "fillInStackTrace", "(I)Ljava/lang/Throwable;"⟩, 6) := ⟨⟨by decide +kernel, by decide +kernel⟩, List.mem_of_getElem? (i := 866) (by decide +kernel), List.mem_of_getElem? (i := 864) (by decide +kernel), List.mem_of_getElem? (i := 865) (by decide +kernel)⟩
theorem lw_p30 : lw_okq (⟨"WholeSoundModel", "eight", "(J)V"⟩, 46) := ⟨⟨by decide +kernel, by decide +kernel⟩, List.mem_of_getElem? (i := 930) (by decide +kernel), List.mem_of_getElem? (i := 1084) (by decide +kernel), List.mem_of_getElem? (i := 1085) (by decide +kernel)⟩
theorem lw_p31 : lw_okq (⟨"WholeSoundModel", "isChannel", "(I)Z"⟩, 46) := ⟨⟨by decide +kernel, by decide +kernel⟩, List.mem_of_getElem? (i := 930) (by decide +kernel), List.mem_of_getElem? (i := 1096) (by decide +kernel), List.mem_of_getElem? (i := 1097) (by decide +kernel)⟩
def lw_privs_2 : List (MethodName × Nat) := [(⟨"WholeSound", "writeFixed", "(III)V"⟩, 10), (⟨"WholeSound", "writeSplit", "(III)V"⟩, 10), (⟨"WholeSound$Reader", "forgetFound", "()V"⟩, 13), (⟨"WholeSound$Reader", "frames", "()I"⟩, 13), (⟨"WholeSound$Reader", "readBits", "(I)I"⟩, 13), (⟨"WholeSound$Reader", "readRow", "([III)V"⟩, 13), (⟨"WholeSound$Reader", "readSigned", "(I)I"⟩, 13), (⟨"WholeSound$Reader", "readNumbers", "([III)V"⟩, 13), (⟨"WholeSound$Reader", "readRuns", "([III)V"⟩, 13), (⟨"WholeSound$Reader", "readSplit", "(I)I"⟩, 13), (⟨"WholeSound$Reader", "part", "(II)V"⟩, 13), (⟨"WholeSound$Reader", "isOfWidth", "([II)Z"⟩, 13), (⟨"WholeSound$Reader", "keepFound", "(III)V"⟩, 13), (⟨"java/lang/Throwable", "fillInStackTrace", "(I)Ljava/lang/Throwable;"⟩, 6), (⟨"WholeSoundModel", "eight", "(J)V"⟩, 46), (⟨"WholeSoundModel", "isChannel", "(I)Z"⟩, 46)]
theorem lw_r2 : ∀ q ∈ lw_privs_2, lw_okq q := List.forall_mem_cons.mpr ⟨lw_p16, List.forall_mem_cons.mpr ⟨lw_p17, List.forall_mem_cons.mpr ⟨lw_p18, List.forall_mem_cons.mpr ⟨lw_p19, List.forall_mem_cons.mpr ⟨lw_p20, List.forall_mem_cons.mpr ⟨lw_p21, List.forall_mem_cons.mpr ⟨lw_p22, List.forall_mem_cons.mpr ⟨lw_p23, List.forall_mem_cons.mpr ⟨lw_p24, List.forall_mem_cons.mpr ⟨lw_p25, List.forall_mem_cons.mpr ⟨lw_p26, List.forall_mem_cons.mpr ⟨lw_p27, List.forall_mem_cons.mpr ⟨lw_p28, List.forall_mem_cons.mpr ⟨lw_p29, List.forall_mem_cons.mpr ⟨lw_p30, List.forall_mem_cons.mpr ⟨lw_p31, fun _ h => absurd h List.not_mem_nil⟩⟩⟩⟩⟩⟩⟩⟩⟩⟩⟩⟩⟩⟩⟩⟩
theorem lw_p32 : lw_okq (⟨"WholeSoundModel", "puts", "(II)V"⟩, 46) := ⟨⟨by decide +kernel, by decide +kernel⟩, List.mem_of_getElem? (i := 930) (by decide +kernel), List.mem_of_getElem? (i := 1106) (by decide +kernel), List.mem_of_getElem? (i := 1107) (by decide +kernel)⟩
theorem lw_p33 : lw_okq (⟨"WholeSoundModel", "filled", "(IIIII)I"⟩, 46) := ⟨⟨by decide +kernel, by decide +kernel⟩, List.mem_of_getElem? (i := 930) (by decide +kernel), List.mem_of_getElem? (i := 1116) (by decide +kernel), List.mem_of_getElem? (i := 1117) (by decide +kernel)⟩
theorem lw_p34 : lw_okq (⟨"WholeSoundModel", "drawn", "()I"⟩, 46) := ⟨⟨by decide +kernel, by decide +kernel⟩, List.mem_of_getElem? (i := 930) (by decide +kernel), List.mem_of_getElem? (i := 1120) (by decide +kernel), List.mem_of_getElem? (i := 1121) (by decide +kernel)⟩
theorem lw_p35 : lw_okq (⟨"WholeSoundModel", "held", "(I)I"⟩, 46) := ⟨⟨by decide +kernel, by decide +kernel⟩, List.mem_of_getElem? (i := 930) (by decide +kernel), List.mem_of_getElem? (i := 1125) (by decide +kernel), List.mem_of_getElem? (i := 1126) (by decide +kernel)⟩
theorem lw_p36 : lw_okq (⟨"WholeSoundModel", "isFrameThere", "(I)Z"⟩, 46) := ⟨⟨by decide +kernel, by decide +kernel⟩, List.mem_of_getElem? (i := 930) (by decide +kernel), List.mem_of_getElem? (i := 1164) (by decide +kernel), List.mem_of_getElem? (i := 1165) (by decide +kernel)⟩
theorem lw_p37 : lw_okq (⟨"WholeSoundModel", "frames", "()I"⟩, 46) := ⟨⟨by decide +kernel, by decide +kernel⟩, List.mem_of_getElem? (i := 930) (by decide +kernel), List.mem_of_getElem? (i := 1168) (by decide +kernel), List.mem_of_getElem? (i := 1169) (by decide +kernel)⟩
theorem lw_p38 : lw_okq (⟨"WholeSoundModel", "isReady", "()Z"⟩, 46) := ⟨⟨by decide +kernel, by decide +kernel⟩, List.mem_of_getElem? (i := 930) (by decide +kernel), List.mem_of_getElem? (i := 1172) (by decide +kernel), List.mem_of_getElem? (i := 1173) (by decide +kernel)⟩
theorem lw_p39 : lw_okq (⟨"WholeSoundModel", "joinOf", "(II)I"⟩, 46) := ⟨⟨by decide +kernel, by decide +kernel⟩, List.mem_of_getElem? (i := 930) (by decide +kernel), List.mem_of_getElem? (i := 1176) (by decide +kernel), List.mem_of_getElem? (i := 1177) (by decide +kernel)⟩
theorem lw_p40 : lw_okq (⟨"WholeSoundModel", "laysSorts", "(II)V"⟩, 46) := ⟨⟨by decide +kernel, by decide +kernel⟩, List.mem_of_getElem? (i := 930) (by decide +kernel), List.mem_of_getElem? (i := 1180) (by decide +kernel), List.mem_of_getElem? (i := 1181) (by decide +kernel)⟩
theorem lw_p41 : lw_okq (⟨"WholeSoundModel", "laysRow", "(II)V"⟩, 46) := ⟨⟨by decide +kernel, by decide +kernel⟩, List.mem_of_getElem? (i := 930) (by decide +kernel), List.mem_of_getElem? (i := 1184) (by decide +kernel), List.mem_of_getElem? (i := 1185) (by decide +kernel)⟩
theorem lw_p42 : lw_okq (⟨"WholeSoundModel", "rowCosts", "(I)I"⟩, 46) := ⟨⟨by decide +kernel, by decide +kernel⟩, List.mem_of_getElem? (i := 930) (by decide +kernel), List.mem_of_getElem? (i := 1188) (by decide +kernel), List.mem_of_getElem? (i := 1189) (by decide +kernel)⟩
theorem lw_p43 : lw_okq (⟨"WholeSoundModel", "isStill", "()Z"⟩, 46) := ⟨⟨by decide +kernel, by decide +kernel⟩, List.mem_of_getElem? (i := 930) (by decide +kernel), List.mem_of_getElem? (i := 1192) (by decide +kernel), List.mem_of_getElem? (i := 1193) (by decide +kernel)⟩
theorem lw_p44 : lw_okq (⟨"WholeSoundModel", "predictorFor", "(I)I"⟩, 46) := ⟨⟨by decide +kernel, by decide +kernel⟩, List.mem_of_getElem? (i := 930) (by decide +kernel), List.mem_of_getElem? (i := 1196) (by decide +kernel), List.mem_of_getElem? (i := 1197) (by decide +kernel)⟩
theorem lw_p45 : lw_okq (⟨"WholeSoundModel", "costs", "(I)I"⟩, 46) := ⟨⟨by decide +kernel, by decide +kernel⟩, List.mem_of_getElem? (i := 930) (by decide +kernel), List.mem_of_getElem? (i := 1200) (by decide +kernel), List.mem_of_getElem? (i := 1201) (by decide +kernel)⟩
theorem lw_p46 : lw_okq (⟨"WholeSoundModel", "laysErrors", "(I)V"⟩, 46) := ⟨⟨by decide +kernel, by decide +kernel⟩, List.mem_of_getElem? (i := 930) (by decide +kernel), List.mem_of_getElem? (i := 1204) (by decide +kernel), List.mem_of_getElem? (i := 1205) (by decide +kernel)⟩
theorem lw_p47 : lw_okq (⟨"WholeSoundModel", "runsWhole", "()I"⟩, 46) := ⟨⟨by decide +kernel, by decide +kernel⟩, List.mem_of_getElem? (i := 930) (by decide +kernel), List.mem_of_getElem? (i := 1213) (by decide +kernel), List.mem_of_getElem? (i := 1214) (by decide +kernel)⟩
def lw_privs_3 : List (MethodName × Nat) := [(⟨"WholeSoundModel", "puts", "(II)V"⟩, 46), (⟨"WholeSoundModel", "filled", "(IIIII)I"⟩, 46), (⟨"WholeSoundModel", "drawn", "()I"⟩, 46), (⟨"WholeSoundModel", "held", "(I)I"⟩, 46), (⟨"WholeSoundModel", "isFrameThere", "(I)Z"⟩, 46), (⟨"WholeSoundModel", "frames", "()I"⟩, 46), (⟨"WholeSoundModel", "isReady", "()Z"⟩, 46), (⟨"WholeSoundModel", "joinOf", "(II)I"⟩, 46), (⟨"WholeSoundModel", "laysSorts", "(II)V"⟩, 46), (⟨"WholeSoundModel", "laysRow", "(II)V"⟩, 46), (⟨"WholeSoundModel", "rowCosts", "(I)I"⟩, 46), (⟨"WholeSoundModel", "isStill", "()Z"⟩, 46), (⟨"WholeSoundModel", "predictorFor", "(I)I"⟩, 46), (⟨"WholeSoundModel", "costs", "(I)I"⟩, 46), (⟨"WholeSoundModel", "laysErrors", "(I)V"⟩, 46), (⟨"WholeSoundModel", "runsWhole", "()I"⟩, 46)]
theorem lw_r3 : ∀ q ∈ lw_privs_3, lw_okq q := List.forall_mem_cons.mpr ⟨lw_p32, List.forall_mem_cons.mpr ⟨lw_p33, List.forall_mem_cons.mpr ⟨lw_p34, List.forall_mem_cons.mpr ⟨lw_p35, List.forall_mem_cons.mpr ⟨lw_p36, List.forall_mem_cons.mpr ⟨lw_p37, List.forall_mem_cons.mpr ⟨lw_p38, List.forall_mem_cons.mpr ⟨lw_p39, List.forall_mem_cons.mpr ⟨lw_p40, List.forall_mem_cons.mpr ⟨lw_p41, List.forall_mem_cons.mpr ⟨lw_p42, List.forall_mem_cons.mpr ⟨lw_p43, List.forall_mem_cons.mpr ⟨lw_p44, List.forall_mem_cons.mpr ⟨lw_p45, List.forall_mem_cons.mpr ⟨lw_p46, List.forall_mem_cons.mpr ⟨lw_p47, fun _ h => absurd h List.not_mem_nil⟩⟩⟩⟩⟩⟩⟩⟩⟩⟩⟩⟩⟩⟩⟩⟩
theorem lw_p48 : lw_okq (⟨"WholeSoundModel", "laysGroups", "()V"⟩, 46) := ⟨⟨by decide +kernel, by decide +kernel⟩, List.mem_of_getElem? (i := 930) (by decide +kernel), List.mem_of_getElem? (i := 1217) (by decide +kernel), List.mem_of_getElem? (i := 1218) (by decide +kernel)⟩
theorem lw_p49 : lw_okq (⟨"WholeSoundModel", "inGroup", "(I)I"⟩, 46) := ⟨⟨by decide +kernel, by decide +kernel⟩, List.mem_of_getElem? (i := 930) (by decide +kernel), List.mem_of_getElem? (i := 1221) (by decide +kernel), List.mem_of_getElem? (i := 1222) (by decide +kernel)⟩
theorem lw_p50 : lw_okq (⟨"WholeSoundModel", "laysSpans", "()V"⟩, 46) := ⟨⟨by decide +kernel, by decide +kernel⟩, List.mem_of_getElem? (i := 930) (by decide +kernel), List.mem_of_getElem? (i := 1231) (by decide +kernel), List.mem_of_getElem? (i := 1232) (by decide +kernel)⟩
theorem lw_p51 : lw_okq (⟨"WholeSoundModel", "parameterOf", "(II)I"⟩, 46) := ⟨⟨by decide +kernel, by decide +kernel⟩, List.mem_of_getElem? (i := 930) (by decide +kernel), List.mem_of_getElem? (i := 1235) (by decide +kernel), List.mem_of_getElem? (i := 1236) (by decide +kernel)⟩
theorem lw_p52 : lw_okq (⟨"WholeSoundModel", "bitsBy", "(III)I"⟩, 46) := ⟨⟨by decide +kernel, by decide +kernel⟩, List.mem_of_getElem? (i := 930) (by decide +kernel), List.mem_of_getElem? (i := 1239) (by decide +kernel), List.mem_of_getElem? (i := 1240) (by decide +kernel)⟩
theorem lw_p53 : lw_okq (⟨"WholeSoundModel", "bitsOfWay", "(I)I"⟩, 46) := ⟨⟨by decide +kernel, by decide +kernel⟩, List.mem_of_getElem? (i := 930) (by decide +kernel), List.mem_of_getElem? (i := 1243) (by decide +kernel), List.mem_of_getElem? (i := 1244) (by decide +kernel)⟩
theorem lw_p54 : lw_okq (⟨"WholeSoundModel", "runByMean", "()I"⟩, 46) := ⟨⟨by decide +kernel, by decide +kernel⟩, List.mem_of_getElem? (i := 930) (by decide +kernel), List.mem_of_getElem? (i := 1250) (by decide +kernel), List.mem_of_getElem? (i := 1251) (by decide +kernel)⟩
theorem lw_p55 : lw_okq (⟨"WholeSoundModel", "sizes", "()I"⟩, 46) := ⟨⟨by decide +kernel, by decide +kernel⟩, List.mem_of_getElem? (i := 930) (by decide +kernel), List.mem_of_getElem? (i := 1254) (by decide +kernel), List.mem_of_getElem? (i := 1255) (by decide +kernel)⟩
theorem lw_p56 : lw_okq (⟨"WholeSoundModel", "meanNow", "()F"⟩, 46) := ⟨⟨by decide +kernel, by decide +kernel⟩, List.mem_of_getElem? (i := 930) (by decide +kernel), List.mem_of_getElem? (i := 1258) (by decide +kernel), List.mem_of_getElem? (i := 1259) (by decide +kernel)⟩
theorem lw_p57 : lw_okq (⟨"WholeSoundModel", "joinNow", "()I"⟩, 46) := ⟨⟨by decide +kernel, by decide +kernel⟩, List.mem_of_getElem? (i := 930) (by decide +kernel), List.mem_of_getElem? (i := 1262) (by decide +kernel), List.mem_of_getElem? (i := 1263) (by decide +kernel)⟩
theorem lw_p58 : lw_okq (⟨"WholeSoundModel", "joinedBits", "(I)I"⟩, 46) := ⟨⟨by decide +kernel, by decide +kernel⟩, List.mem_of_getElem? (i := 930) (by decide +kernel), List.mem_of_getElem? (i := 1266) (by decide +kernel), List.mem_of_getElem? (i := 1267) (by decide +kernel)⟩
theorem lw_p59 : lw_okq (⟨"WholeSoundModel", "isRowLaid", "(II)Z"⟩, 46) := ⟨⟨by decide +kernel, by decide +kernel⟩, List.mem_of_getElem? (i := 930) (by decide +kernel), List.mem_of_getElem? (i := 1281) (by decide +kernel), List.mem_of_getElem? (i := 1282) (by decide +kernel)⟩
theorem lw_p60 : lw_okq (⟨"WholeSoundModel", "sizeBy", "(I)I"⟩, 46) := ⟨⟨by decide +kernel, by decide +kernel⟩, List.mem_of_getElem? (i := 930) (by decide +kernel), List.mem_of_getElem? (i := 1315) (by decide +kernel), List.mem_of_getElem? (i := 1316) (by decide +kernel)⟩
theorem lw_p61 : lw_okq (⟨"WholeSoundModel", "sizeOf", "(I)I"⟩, 46) := ⟨⟨by decide +kernel, by decide +kernel⟩, List.mem_of_getElem? (i := 930) (by decide +kernel), List.mem_of_getElem? (i := 1323) (by decide +kernel), List.mem_of_getElem? (i := 1324) (by decide +kernel)⟩
theorem lw_p62 : lw_okq (⟨"WholeSoundModel", "putsByte", "(I)V"⟩, 46) := ⟨⟨by decide +kernel, by decide +kernel⟩, List.mem_of_getElem? (i := 930) (by decide +kernel), List.mem_of_getElem? (i := 1339) (by decide +kernel), List.mem_of_getElem? (i := 1340) (by decide +kernel)⟩
theorem lw_p63 : lw_okq (⟨"WholeSoundModel", "putsCheck", "(I)V"⟩, 46) := ⟨⟨by decide +kernel, by decide +kernel⟩, List.mem_of_getElem? (i := 930) (by decide +kernel), List.mem_of_getElem? (i := 1343) (by decide +kernel), List.mem_of_getElem? (i := 1344) (by decide +kernel)⟩
def lw_privs_4 : List (MethodName × Nat) := [(⟨"WholeSoundModel", "laysGroups", "()V"⟩, 46), (⟨"WholeSoundModel", "inGroup", "(I)I"⟩, 46), (⟨"WholeSoundModel", "laysSpans", "()V"⟩, 46), (⟨"WholeSoundModel", "parameterOf", "(II)I"⟩, 46), (⟨"WholeSoundModel", "bitsBy", "(III)I"⟩, 46), (⟨"WholeSoundModel", "bitsOfWay", "(I)I"⟩, 46), (⟨"WholeSoundModel", "runByMean", "()I"⟩, 46), (⟨"WholeSoundModel", "sizes", "()I"⟩, 46), (⟨"WholeSoundModel", "meanNow", "()F"⟩, 46), (⟨"WholeSoundModel", "joinNow", "()I"⟩, 46), (⟨"WholeSoundModel", "joinedBits", "(I)I"⟩, 46), (⟨"WholeSoundModel", "isRowLaid", "(II)Z"⟩, 46), (⟨"WholeSoundModel", "sizeBy", "(I)I"⟩, 46), (⟨"WholeSoundModel", "sizeOf", "(I)I"⟩, 46), (⟨"WholeSoundModel", "putsByte", "(I)V"⟩, 46), (⟨"WholeSoundModel", "putsCheck", "(I)V"⟩, 46)]
theorem lw_r4 : ∀ q ∈ lw_privs_4, lw_okq q := List.forall_mem_cons.mpr ⟨lw_p48, List.forall_mem_cons.mpr ⟨lw_p49, List.forall_mem_cons.mpr ⟨lw_p50, List.forall_mem_cons.mpr ⟨lw_p51, List.forall_mem_cons.mpr ⟨lw_p52, List.forall_mem_cons.mpr ⟨lw_p53, List.forall_mem_cons.mpr ⟨lw_p54, List.forall_mem_cons.mpr ⟨lw_p55, List.forall_mem_cons.mpr ⟨lw_p56, List.forall_mem_cons.mpr ⟨lw_p57, List.forall_mem_cons.mpr ⟨lw_p58, List.forall_mem_cons.mpr ⟨lw_p59, List.forall_mem_cons.mpr ⟨lw_p60, List.forall_mem_cons.mpr ⟨lw_p61, List.forall_mem_cons.mpr ⟨lw_p62, List.forall_mem_cons.mpr ⟨lw_p63, fun _ h => absurd h List.not_mem_nil⟩⟩⟩⟩⟩⟩⟩⟩⟩⟩⟩⟩⟩⟩⟩⟩
theorem lw_p64 : lw_okq (⟨"WholeSoundModel", "checked", "(II)I"⟩, 46) := ⟨⟨by decide +kernel, by decide +kernel⟩, List.mem_of_getElem? (i := 930) (by decide +kernel), List.mem_of_getElem? (i := 1347) (by decide +kernel), List.mem_of_getElem? (i := 1348) (by decide +kernel)⟩
theorem lw_p65 : lw_okq (⟨"WholeSoundModel", "putsBits", "(II)V"⟩, 46) := ⟨⟨by decide +kernel, by decide +kernel⟩, List.mem_of_getElem? (i := 930) (by decide +kernel), List.mem_of_getElem? (i := 1353) (by decide +kernel), List.mem_of_getElem? (i := 1354) (by decide +kernel)⟩
theorem lw_p66 : lw_okq (⟨"WholeSoundModel", "putsRow", "(II)V"⟩, 46) := ⟨⟨by decide +kernel, by decide +kernel⟩, List.mem_of_getElem? (i := 930) (by decide +kernel), List.mem_of_getElem? (i := 1357) (by decide +kernel), List.mem_of_getElem? (i := 1358) (by decide +kernel)⟩
theorem lw_p67 : lw_okq (⟨"WholeSoundModel", "putsRun", "(IIII)V"⟩, 46) := ⟨⟨by decide +kernel, by decide +kernel⟩, List.mem_of_getElem? (i := 930) (by decide +kernel), List.mem_of_getElem? (i := 1361) (by decide +kernel), List.mem_of_getElem? (i := 1362) (by decide +kernel)⟩
theorem lw_p68 : lw_okq (⟨"WholeSoundModel", "headNow", "()I"⟩, 46) := ⟨⟨by decide +kernel, by decide +kernel⟩, List.mem_of_getElem? (i := 930) (by decide +kernel), List.mem_of_getElem? (i := 1385) (by decide +kernel), List.mem_of_getElem? (i := 1386) (by decide +kernel)⟩
theorem lw_p69 : lw_okq (⟨"WholeSoundModel", "finds", "()Z"⟩, 46) := ⟨⟨by decide +kernel, by decide +kernel⟩, List.mem_of_getElem? (i := 930) (by decide +kernel), List.mem_of_getElem? (i := 1393) (by decide +kernel), List.mem_of_getElem? (i := 1394) (by decide +kernel)⟩
theorem lw_p70 : lw_okq (⟨"WholeSoundModel", "headFrames", "()I"⟩, 46) := ⟨⟨by decide +kernel, by decide +kernel⟩, List.mem_of_getElem? (i := 930) (by decide +kernel), List.mem_of_getElem? (i := 1397) (by decide +kernel), List.mem_of_getElem? (i := 1398) (by decide +kernel)⟩
theorem lw_p71 : lw_okq (⟨"WholeSoundModel", "lengthAt", "(II)I"⟩, 46) := ⟨⟨by decide +kernel, by decide +kernel⟩, List.mem_of_getElem? (i := 930) (by decide +kernel), List.mem_of_getElem? (i := 1401) (by decide +kernel), List.mem_of_getElem? (i := 1402) (by decide +kernel)⟩
theorem lw_p72 : lw_okq (⟨"WholeSoundModel", "sizeAt", "(I)I"⟩, 46) := ⟨⟨by decide +kernel, by decide +kernel⟩, List.mem_of_getElem? (i := 930) (by decide +kernel), List.mem_of_getElem? (i := 1405) (by decide +kernel), List.mem_of_getElem? (i := 1406) (by decide +kernel)⟩
theorem lw_p73 : lw_okq (⟨"WholeSoundModel", "bits", "(I)I"⟩, 46) := ⟨⟨by decide +kernel, by decide +kernel⟩, List.mem_of_getElem? (i := 930) (by decide +kernel), List.mem_of_getElem? (i := 1409) (by decide +kernel), List.mem_of_getElem? (i := 1410) (by decide +kernel)⟩
theorem lw_p74 : lw_okq (⟨"WholeSoundModel", "bit", "()I"⟩, 46) := ⟨⟨by decide +kernel, by decide +kernel⟩, List.mem_of_getElem? (i := 930) (by decide +kernel), List.mem_of_getElem? (i := 1413) (by decide +kernel), List.mem_of_getElem? (i := 1414) (by decide +kernel)⟩
theorem lw_p75 : lw_okq (⟨"WholeSoundModel", "readsRow", "(III)V"⟩, 46) := ⟨⟨by decide +kernel, by decide +kernel⟩, List.mem_of_getElem? (i := 930) (by decide +kernel), List.mem_of_getElem? (i := 1417) (by decide +kernel), List.mem_of_getElem? (i := 1418) (by decide +kernel)⟩
theorem lw_p76 : lw_okq (⟨"WholeSoundModel", "signedBits", "(I)I"⟩, 46) := ⟨⟨by decide +kernel, by decide +kernel⟩, List.mem_of_getElem? (i := 930) (by decide +kernel), List.mem_of_getElem? (i := 1421) (by decide +kernel), List.mem_of_getElem? (i := 1422) (by decide +kernel)⟩
theorem lw_p77 : lw_okq (⟨"WholeSoundModel", "readsRuns", "(II)V"⟩, 46) := ⟨⟨by decide +kernel, by decide +kernel⟩, List.mem_of_getElem? (i := 930) (by decide +kernel), List.mem_of_getElem? (i := 1425) (by decide +kernel), List.mem_of_getElem? (i := 1426) (by decide +kernel)⟩
theorem lw_p78 : lw_okq (⟨"WholeSoundModel", "readError", "(II)I"⟩, 46) := ⟨⟨by decide +kernel, by decide +kernel⟩, List.mem_of_getElem? (i := 930) (by decide +kernel), List.mem_of_getElem? (i := 1429) (by decide +kernel), List.mem_of_getElem? (i := 1430) (by decide +kernel)⟩
theorem lw_p79 : lw_okq (⟨"WholeSoundModel", "parts", "(II)Z"⟩, 46) := ⟨⟨by decide +kernel, by decide +kernel⟩, List.mem_of_getElem? (i := 930) (by decide +kernel), List.mem_of_getElem? (i := 1433) (by decide +kernel), List.mem_of_getElem? (i := 1434) (by decide +kernel)⟩
def lw_privs_5 : List (MethodName × Nat) := [(⟨"WholeSoundModel", "checked", "(II)I"⟩, 46), (⟨"WholeSoundModel", "putsBits", "(II)V"⟩, 46), (⟨"WholeSoundModel", "putsRow", "(II)V"⟩, 46), (⟨"WholeSoundModel", "putsRun", "(IIII)V"⟩, 46), (⟨"WholeSoundModel", "headNow", "()I"⟩, 46), (⟨"WholeSoundModel", "finds", "()Z"⟩, 46), (⟨"WholeSoundModel", "headFrames", "()I"⟩, 46), (⟨"WholeSoundModel", "lengthAt", "(II)I"⟩, 46), (⟨"WholeSoundModel", "sizeAt", "(I)I"⟩, 46), (⟨"WholeSoundModel", "bits", "(I)I"⟩, 46), (⟨"WholeSoundModel", "bit", "()I"⟩, 46), (⟨"WholeSoundModel", "readsRow", "(III)V"⟩, 46), (⟨"WholeSoundModel", "signedBits", "(I)I"⟩, 46), (⟨"WholeSoundModel", "readsRuns", "(II)V"⟩, 46), (⟨"WholeSoundModel", "readError", "(II)I"⟩, 46), (⟨"WholeSoundModel", "parts", "(II)Z"⟩, 46)]
theorem lw_r5 : ∀ q ∈ lw_privs_5, lw_okq q := List.forall_mem_cons.mpr ⟨lw_p64, List.forall_mem_cons.mpr ⟨lw_p65, List.forall_mem_cons.mpr ⟨lw_p66, List.forall_mem_cons.mpr ⟨lw_p67, List.forall_mem_cons.mpr ⟨lw_p68, List.forall_mem_cons.mpr ⟨lw_p69, List.forall_mem_cons.mpr ⟨lw_p70, List.forall_mem_cons.mpr ⟨lw_p71, List.forall_mem_cons.mpr ⟨lw_p72, List.forall_mem_cons.mpr ⟨lw_p73, List.forall_mem_cons.mpr ⟨lw_p74, List.forall_mem_cons.mpr ⟨lw_p75, List.forall_mem_cons.mpr ⟨lw_p76, List.forall_mem_cons.mpr ⟨lw_p77, List.forall_mem_cons.mpr ⟨lw_p78, List.forall_mem_cons.mpr ⟨lw_p79, fun _ h => absurd h List.not_mem_nil⟩⟩⟩⟩⟩⟩⟩⟩⟩⟩⟩⟩⟩⟩⟩⟩
def lw_privs : List (MethodName × Nat) := lw_privs_1 ++ (lw_privs_2 ++ (lw_privs_3 ++ (lw_privs_4 ++ (lw_privs_5))))
def lw_tbl : List Cond := k2_sels lw_privs ++ tables_1
theorem lw_privs_ok : ∀ q ∈ lw_privs, lw_okq q := by
  show ∀ q ∈ lw_privs_1 ++ (lw_privs_2 ++ (lw_privs_3 ++ (lw_privs_4 ++ (lw_privs_5)))), lw_okq q
  exact List.forall_mem_append.mpr ⟨lw_r1, List.forall_mem_append.mpr ⟨lw_r2, List.forall_mem_append.mpr ⟨lw_r3, List.forall_mem_append.mpr ⟨lw_r4, lw_r5⟩⟩⟩⟩
/-- the streams that the claim lets the run draw from -/
abbrev lw_cs : List Choice := [Jvm.Choice.named "NaN.bits"]
theorem lw_bits : nanBits ∈ lw_cs := by first | decide | exact List.mem_cons_self | simp [lw_cs, nanBits]
def RX0 : String := "WholeSound$Cutter"
def TX0 : u_T := fun k => match k with
  | 0 => ("WholeSound$Cutter", "residuals", "[I", true)
  | 1 => ("WholeSound$Cutter", "many", "I", false)
  | 2 => ("WholeSound$Cutter", "groups", "I", false)
  | 3 => ("WholeSound$Cutter", "sum", "I", false)
  | 4 => ("WholeSound$Cutter", "starts", "[I", true)
  | 5 => ("WholeSound$Cutter", "groupWidths", "[I", true)
  | 6 => ("WholeSound$Cutter", "quotients", "[I", true)
  | 7 => ("WholeSound$Cutter", "least", "[I", true)
  | 8 => ("WholeSound$Cutter", "fewest", "[I", true)
  | 9 => ("WholeSound$Cutter", "lengths", "[I", true)
  | 10 => ("WholeSound$Cutter", "parameters", "[I", true)
  | 11 => ("WholeSound$Cutter", "widths", "[I", true)
  | 12 => ("WholeSound$Cutter", "bits", "[I", true)
  | 13 => ("WholeSound$Cutter", "foundParameter", "I", false)
  | _ => ("WholeSound$Cutter", "foundBits", "I", false)
def tyX0 : Nat → FieldType := fun k => match k with
  | 0 => .array .int
  | 1 => .int
  | 2 => .int
  | 3 => .int
  | 4 => .array .int
  | 5 => .array .int
  | 6 => .array .int
  | 7 => .array .int
  | 8 => .array .int
  | 9 => .array .int
  | 10 => .array .int
  | 11 => .array .int
  | 12 => .array .int
  | 13 => .int
  | _ => .int
abbrev wsX00 : List Cond := u_ws RX0 TX0 15
theorem nmX0 : ∀ a, a < 15 → ∀ b, b < 15 → a ≠ b → (TX0 a).2.1 ≠ (TX0 b).2.1 := by decide +kernel
theorem tyX0_ok : ∀ k, k < 15 → parseFieldDescriptor (TX0 k).2.2.1 = some (tyX0 k) := by decide +kernel
def RX1 : String := "WholeSound$Plan"
def TX1 : u_T := fun k => match k with
  | 0 => ("WholeSound$Plan", "cutter", "LWholeSound$Cutter;", true)
  | 1 => ("WholeSound$Plan", "left", "LWholeSound$Row;", true)
  | 2 => ("WholeSound$Plan", "right", "LWholeSound$Row;", true)
  | 3 => ("WholeSound$Plan", "side", "LWholeSound$Row;", true)
  | 4 => ("WholeSound$Plan", "middle", "LWholeSound$Row;", true)
  | 5 => ("WholeSound$Plan", "two", "Z", false)
  | _ => ("WholeSound$Plan", "way", "I", false)
def tyX1 : Nat → FieldType := fun k => match k with
  | 0 => .object "WholeSound$Cutter"
  | 1 => .object "WholeSound$Row"
  | 2 => .object "WholeSound$Row"
  | 3 => .object "WholeSound$Row"
  | 4 => .object "WholeSound$Row"
  | 5 => .boolean
  | _ => .int
abbrev wsX10 : List Cond := u_ws RX1 TX1 7
theorem nmX1 : ∀ a, a < 7 → ∀ b, b < 7 → a ≠ b → (TX1 a).2.1 ≠ (TX1 b).2.1 := by decide +kernel
theorem tyX1_ok : ∀ k, k < 7 → parseFieldDescriptor (TX1 k).2.2.1 = some (tyX1 k) := by decide +kernel
def RX2 : String := "WholeSound$Predictors"
def TX2 : u_T := fun k => match k with
  | 0 => ("WholeSound$Predictors", "weights", "[I", true)
  | 1 => ("WholeSound$Predictors", "orders", "[I", true)
  | _ => ("WholeSound$Predictors", "shifts", "[I", true)
def tyX2 : Nat → FieldType := fun k => match k with
  | 0 => .array .int
  | 1 => .array .int
  | _ => .array .int
abbrev wsX20 : List Cond := u_ws RX2 TX2 3
theorem nmX2 : ∀ a, a < 3 → ∀ b, b < 3 → a ≠ b → (TX2 a).2.1 ≠ (TX2 b).2.1 := by decide +kernel
theorem tyX2_ok : ∀ k, k < 3 → parseFieldDescriptor (TX2 k).2.2.1 = some (tyX2 k) := by decide +kernel
def RX3 : String := "WholeSound$Reader"
def TX3 : u_T := fun k => match k with
  | 0 => ("WholeSound$Reader", "store", "LWholeSound$Store;", true)
  | 1 => ("WholeSound$Reader", "predictors", "LWholeSound$Predictors;", true)
  | 2 => ("WholeSound$Reader", "channels", "I", false)
  | 3 => ("WholeSound$Reader", "width", "I", false)
  | 4 => ("WholeSound$Reader", "size", "I", false)
  | 5 => ("WholeSound$Reader", "samples", "I", false)
  | 6 => ("WholeSound$Reader", "bit", "I", false)
  | 7 => ("WholeSound$Reader", "broken", "Z", false)
  | 8 => ("WholeSound$Reader", "first", "[I", true)
  | 9 => ("WholeSound$Reader", "second", "[I", true)
  | 10 => ("WholeSound$Reader", "places", "[I", true)
  | 11 => ("WholeSound$Reader", "lengths", "[I", true)
  | _ => ("WholeSound$Reader", "out", "[I", true)
def tyX3 : Nat → FieldType := fun k => match k with
  | 0 => .object "WholeSound$Store"
  | 1 => .object "WholeSound$Predictors"
  | 2 => .int
  | 3 => .int
  | 4 => .int
  | 5 => .int
  | 6 => .int
  | 7 => .boolean
  | 8 => .array .int
  | 9 => .array .int
  | 10 => .array .int
  | 11 => .array .int
  | _ => .array .int
abbrev wsX30 : List Cond := u_ws RX3 TX3 13
theorem nmX3 : ∀ a, a < 13 → ∀ b, b < 13 → a ≠ b → (TX3 a).2.1 ≠ (TX3 b).2.1 := by decide +kernel
theorem tyX3_ok : ∀ k, k < 13 → parseFieldDescriptor (TX3 k).2.2.1 = some (tyX3 k) := by decide +kernel
def RX4 : String := "WholeSound$Row"
def TX4 : u_T := fun k => match k with
  | 0 => ("WholeSound$Row", "numbers", "[I", true)
  | 1 => ("WholeSound$Row", "many", "I", false)
  | 2 => ("WholeSound$Row", "width", "I", false)
  | 3 => ("WholeSound$Row", "how", "I", false)
  | 4 => ("WholeSound$Row", "bits", "I", false)
  | 5 => ("WholeSound$Row", "runs", "I", false)
  | 6 => ("WholeSound$Row", "runGroups", "[I", true)
  | 7 => ("WholeSound$Row", "runParameters", "[I", true)
  | 8 => ("WholeSound$Row", "runWidths", "[I", true)
  | _ => ("WholeSound$Row", "runBits", "[I", true)
def tyX4 : Nat → FieldType := fun k => match k with
  | 0 => .array .int
  | 1 => .int
  | 2 => .int
  | 3 => .int
  | 4 => .int
  | 5 => .int
  | 6 => .array .int
  | 7 => .array .int
  | 8 => .array .int
  | _ => .array .int
abbrev wsX40 : List Cond := u_ws RX4 TX4 10
theorem nmX4 : ∀ a, a < 10 → ∀ b, b < 10 → a ≠ b → (TX4 a).2.1 ≠ (TX4 b).2.1 := by decide +kernel
theorem tyX4_ok : ∀ k, k < 10 → parseFieldDescriptor (TX4 k).2.2.1 = some (tyX4 k) := by decide +kernel
def RX5 : String := "WholeSound$Sound"
def TX5 : u_T := fun k => match k with
  | 0 => ("WholeSound$Sound", "values", "[I", true)
  | 1 => ("WholeSound$Sound", "counts", "[I", true)
  | 2 => ("WholeSound$Sound", "channels", "I", false)
  | 3 => ("WholeSound$Sound", "width", "I", false)
  | _ => ("WholeSound$Sound", "seed", "I", false)
def tyX5 : Nat → FieldType := fun k => match k with
  | 0 => .array .int
  | 1 => .array .int
  | 2 => .int
  | 3 => .int
  | _ => .int
abbrev wsX50 : List Cond := u_ws RX5 TX5 5
theorem nmX5 : ∀ a, a < 5 → ∀ b, b < 5 → a ≠ b → (TX5 a).2.1 ≠ (TX5 b).2.1 := by decide +kernel
theorem tyX5_ok : ∀ k, k < 5 → parseFieldDescriptor (TX5 k).2.2.1 = some (tyX5 k) := by decide +kernel
def RX6 : String := "WholeSound$Store"
def TX6 : u_T := fun k => match k with
  | 0 => ("WholeSound$Store", "bytes", "[I", true)
  | 1 => ("WholeSound$Store", "used", "I", false)
  | _ => ("WholeSound$Store", "spare", "I", false)
def tyX6 : Nat → FieldType := fun k => match k with
  | 0 => .array .int
  | 1 => .int
  | _ => .int
abbrev wsX60 : List Cond := u_ws RX6 TX6 3
theorem nmX6 : ∀ a, a < 3 → ∀ b, b < 3 → a ≠ b → (TX6 a).2.1 ≠ (TX6 b).2.1 := by decide +kernel
theorem tyX6_ok : ∀ k, k < 3 → parseFieldDescriptor (TX6 k).2.2.1 = some (tyX6 k) := by decide +kernel
def RX7 : String := "WholeSound$Tape"
def TX7 : u_T := fun k => match k with
  | 0 => ("WholeSound$Tape", "bytes", "[I", true)
  | _ => ("WholeSound$Tape", "used", "I", false)
def tyX7 : Nat → FieldType := fun k => match k with
  | 0 => .array .int
  | _ => .int
abbrev wsX70 : List Cond := u_ws RX7 TX7 2
theorem nmX7 : ∀ a, a < 2 → ∀ b, b < 2 → a ≠ b → (TX7 a).2.1 ≠ (TX7 b).2.1 := by decide +kernel
theorem tyX7_ok : ∀ k, k < 2 → parseFieldDescriptor (TX7 k).2.2.1 = some (tyX7 k) := by decide +kernel
def RX8 : String := "WholeSound"
def TX8 : u_T := fun k => match k with
  | 0 => ("WholeSound", "tape", "LWholeSound$Tape;", true)
  | 1 => ("WholeSound", "sound", "LWholeSound$Sound;", true)
  | 2 => ("WholeSound", "predictors", "LWholeSound$Predictors;", true)
  | 3 => ("WholeSound", "plan", "LWholeSound$Plan;", true)
  | 4 => ("WholeSound", "cutter", "LWholeSound$Cutter;", true)
  | 5 => ("WholeSound", "reader", "LWholeSound$Reader;", true)
  | 6 => ("WholeSound", "store", "LWholeSound$Store;", true)
  | 7 => ("WholeSound", "frameSize", "I", false)
  | 8 => ("WholeSound", "effort", "I", false)
  | _ => ("WholeSound", "allowed", "I", false)
def tyX8 : Nat → FieldType := fun k => match k with
  | 0 => .object "WholeSound$Tape"
  | 1 => .object "WholeSound$Sound"
  | 2 => .object "WholeSound$Predictors"
  | 3 => .object "WholeSound$Plan"
  | 4 => .object "WholeSound$Cutter"
  | 5 => .object "WholeSound$Reader"
  | 6 => .object "WholeSound$Store"
  | 7 => .int
  | 8 => .int
  | _ => .int
abbrev wsX80 : List Cond := u_ws RX8 TX8 10
theorem nmX8 : ∀ a, a < 10 → ∀ b, b < 10 → a ≠ b → (TX8 a).2.1 ≠ (TX8 b).2.1 := by decide +kernel
theorem tyX8_ok : ∀ k, k < 10 → parseFieldDescriptor (TX8 k).2.2.1 = some (tyX8 k) := by decide +kernel
def RX9 : String := "WholeSoundModel"
def TX9 : u_T := fun k => match k with
  | 0 => ("WholeSoundModel", "tape", "[I", true)
  | 1 => ("WholeSoundModel", "taped", "I", false)
  | 2 => ("WholeSoundModel", "sample", "[I", true)
  | 3 => ("WholeSoundModel", "many", "[I", true)
  | 4 => ("WholeSoundModel", "channels", "I", false)
  | 5 => ("WholeSoundModel", "width", "I", false)
  | 6 => ("WholeSoundModel", "frame", "I", false)
  | 7 => ("WholeSoundModel", "effort", "I", false)
  | 8 => ("WholeSoundModel", "allowed", "I", false)
  | 9 => ("WholeSoundModel", "seed", "I", false)
  | 10 => ("WholeSoundModel", "weights", "[I", true)
  | 11 => ("WholeSoundModel", "shifts", "[I", true)
  | 12 => ("WholeSoundModel", "headWeights", "[I", true)
  | 13 => ("WholeSoundModel", "headShifts", "[I", true)
  | 14 => ("WholeSoundModel", "store", "[I", true)
  | 15 => ("WholeSoundModel", "stored", "I", false)
  | 16 => ("WholeSoundModel", "thrown", "I", false)
  | 17 => ("WholeSoundModel", "x", "[I", true)
  | 18 => ("WholeSoundModel", "n", "I", false)
  | 19 => ("WholeSoundModel", "rowBits", "I", false)
  | 20 => ("WholeSoundModel", "e", "[I", true)
  | 21 => ("WholeSoundModel", "errors", "I", false)
  | 22 => ("WholeSoundModel", "groups", "I", false)
  | 23 => ("WholeSoundModel", "groupBits", "[I", true)
  | 24 => ("WholeSoundModel", "groupWidth", "[I", true)
  | 25 => ("WholeSoundModel", "isNothing", "[Z", true)
  | 26 => ("WholeSoundModel", "runEnd", "[I", true)
  | 27 => ("WholeSoundModel", "runBy", "[I", true)
  | 28 => ("WholeSoundModel", "runBits", "[I", true)
  | 29 => ("WholeSoundModel", "runs", "I", false)
  | 30 => ("WholeSoundModel", "spanBy", "[I", true)
  | 31 => ("WholeSoundModel", "spanBits", "[I", true)
  | 32 => ("WholeSoundModel", "how", "I", false)
  | 33 => ("WholeSoundModel", "sortBits", "[I", true)
  | 34 => ("WholeSoundModel", "spent", "I", false)
  | 35 => ("WholeSoundModel", "headChannels", "I", false)
  | 36 => ("WholeSoundModel", "headWidth", "I", false)
  | 37 => ("WholeSoundModel", "headFrame", "I", false)
  | 38 => ("WholeSoundModel", "headMany", "I", false)
  | 39 => ("WholeSoundModel", "bitAt", "I", false)
  | 40 => ("WholeSoundModel", "bad", "Z", false)
  | 41 => ("WholeSoundModel", "readRow", "[I", true)
  | 42 => ("WholeSoundModel", "one", "[I", true)
  | 43 => ("WholeSoundModel", "foundAt", "[I", true)
  | 44 => ("WholeSoundModel", "foundLong", "[I", true)
  | _ => ("WholeSoundModel", "sounds", "[I", true)
def tyX9 : Nat → FieldType := fun k => match k with
  | 0 => .array .int
  | 1 => .int
  | 2 => .array .int
  | 3 => .array .int
  | 4 => .int
  | 5 => .int
  | 6 => .int
  | 7 => .int
  | 8 => .int
  | 9 => .int
  | 10 => .array .int
  | 11 => .array .int
  | 12 => .array .int
  | 13 => .array .int
  | 14 => .array .int
  | 15 => .int
  | 16 => .int
  | 17 => .array .int
  | 18 => .int
  | 19 => .int
  | 20 => .array .int
  | 21 => .int
  | 22 => .int
  | 23 => .array .int
  | 24 => .array .int
  | 25 => .array .boolean
  | 26 => .array .int
  | 27 => .array .int
  | 28 => .array .int
  | 29 => .int
  | 30 => .array .int
  | 31 => .array .int
  | 32 => .int
  | 33 => .array .int
  | 34 => .int
  | 35 => .int
  | 36 => .int
  | 37 => .int
  | 38 => .int
  | 39 => .int
  | 40 => .boolean
  | 41 => .array .int
  | 42 => .array .int
  | 43 => .array .int
  | 44 => .array .int
  | _ => .array .int
abbrev wsX90 : List Cond := u_ws RX9 TX9 46
theorem nmX9 : ∀ a, a < 46 → ∀ b, b < 46 → a ≠ b → (TX9 a).2.1 ≠ (TX9 b).2.1 := by decide +kernel
theorem tyX9_ok : ∀ k, k < 46 → parseFieldDescriptor (TX9 k).2.2.1 = some (tyX9 k) := by decide +kernel
abbrev vwCl : List vw_C := [(RX0, TX0, 15), (RX1, TX1, 7), (RX2, TX2, 3), (RX3, TX3, 13), (RX4, TX4, 10), (RX5, TX5, 5), (RX6, TX6, 3), (RX7, TX7, 2), (RX8, TX8, 10), (RX9, TX9, 46)]
def mm_GW : List Cond := lw_tbl.filter goodWord
theorem mm_gw {w : Cond} (i : Nat) (h : lw_tbl[i]? = some w) (g : goodWord w = true) : w ∈ mm_GW := List.mem_filter.mpr ⟨List.mem_of_getElem? h, g⟩
theorem mm_gw_good (ws : List Cond) (h : ∀ w ∈ ws, w ∈ mm_GW) : GoodIn mm_GW ws := fun w hw => ⟨h w hw, good_of_word (List.mem_filter.mp (h w hw)).2⟩
theorem mm_u0 : ∀ w ∈ u_ws RX0 TX0 15, w ∈ mm_GW := by
  have h : (u_ws RX0 TX0 15).all goodWord = true := by decide +kernel
  have e : u_ws RX0 TX0 15 = ([208, 210, 212, 214, 216, 218, 220, 222, 224, 226, 228, 230, 232, 234, 236] : List Nat).filterMap (fun i => lw_tbl[i]?) := by decide +kernel
  intro w hw
  have g := List.all_eq_true.mp h w hw
  rw [e] at hw
  obtain ⟨i, -, hi⟩ := List.mem_filterMap.mp hw
  exact mm_gw i hi g
theorem mm_u1 : ∀ w ∈ u_ws RX1 TX1 7, w ∈ mm_GW := by
  have h : (u_ws RX1 TX1 7).all goodWord = true := by decide +kernel
  have e : u_ws RX1 TX1 7 = ([299, 301, 303, 305, 307, 309, 311] : List Nat).filterMap (fun i => lw_tbl[i]?) := by decide +kernel
  intro w hw
  have g := List.all_eq_true.mp h w hw
  rw [e] at hw
  obtain ⟨i, -, hi⟩ := List.mem_filterMap.mp hw
  exact mm_gw i hi g
theorem mm_u2 : ∀ w ∈ u_ws RX2 TX2 3, w ∈ mm_GW := by
  have h : (u_ws RX2 TX2 3).all goodWord = true := by decide +kernel
  have e : u_ws RX2 TX2 3 = ([166, 168, 170] : List Nat).filterMap (fun i => lw_tbl[i]?) := by decide +kernel
  intro w hw
  have g := List.all_eq_true.mp h w hw
  rw [e] at hw
  obtain ⟨i, -, hi⟩ := List.mem_filterMap.mp hw
  exact mm_gw i hi g
theorem mm_u3 : ∀ w ∈ u_ws RX3 TX3 13, w ∈ mm_GW := by
  have h : (u_ws RX3 TX3 13).all goodWord = true := by decide +kernel
  have e : u_ws RX3 TX3 13 = ([362, 364, 366, 368, 370, 372, 374, 376, 378, 380, 382, 384, 386] : List Nat).filterMap (fun i => lw_tbl[i]?) := by decide +kernel
  intro w hw
  have g := List.all_eq_true.mp h w hw
  rw [e] at hw
  obtain ⟨i, -, hi⟩ := List.mem_filterMap.mp hw
  exact mm_gw i hi g
theorem mm_u4 : ∀ w ∈ u_ws RX4 TX4 10, w ∈ mm_GW := by
  have h : (u_ws RX4 TX4 10).all goodWord = true := by decide +kernel
  have e : u_ws RX4 TX4 10 = ([269, 271, 273, 275, 277, 279, 281, 283, 285, 287] : List Nat).filterMap (fun i => lw_tbl[i]?) := by decide +kernel
  intro w hw
  have g := List.all_eq_true.mp h w hw
  rw [e] at hw
  obtain ⟨i, -, hi⟩ := List.mem_filterMap.mp hw
  exact mm_gw i hi g
theorem mm_u5 : ∀ w ∈ u_ws RX5 TX5 5, w ∈ mm_GW := by
  have h : (u_ws RX5 TX5 5).all goodWord = true := by decide +kernel
  have e : u_ws RX5 TX5 5 = ([141, 143, 145, 147, 149] : List Nat).filterMap (fun i => lw_tbl[i]?) := by decide +kernel
  intro w hw
  have g := List.all_eq_true.mp h w hw
  rw [e] at hw
  obtain ⟨i, -, hi⟩ := List.mem_filterMap.mp hw
  exact mm_gw i hi g
theorem mm_u6 : ∀ w ∈ u_ws RX6 TX6 3, w ∈ mm_GW := by
  have h : (u_ws RX6 TX6 3).all goodWord = true := by decide +kernel
  have e : u_ws RX6 TX6 3 = ([333, 335, 337] : List Nat).filterMap (fun i => lw_tbl[i]?) := by decide +kernel
  intro w hw
  have g := List.all_eq_true.mp h w hw
  rw [e] at hw
  obtain ⟨i, -, hi⟩ := List.mem_filterMap.mp hw
  exact mm_gw i hi g
theorem mm_u7 : ∀ w ∈ u_ws RX7 TX7 2, w ∈ mm_GW := by
  have h : (u_ws RX7 TX7 2).all goodWord = true := by decide +kernel
  have e : u_ws RX7 TX7 2 = ([117, 119] : List Nat).filterMap (fun i => lw_tbl[i]?) := by decide +kernel
  intro w hw
  have g := List.all_eq_true.mp h w hw
  rw [e] at hw
  obtain ⟨i, -, hi⟩ := List.mem_filterMap.mp hw
  exact mm_gw i hi g
theorem mm_u8 : ∀ w ∈ u_ws RX8 TX8 10, w ∈ mm_GW := by
  have h : (u_ws RX8 TX8 10).all goodWord = true := by decide +kernel
  have e : u_ws RX8 TX8 10 = ([399, 401, 403, 405, 407, 409, 411, 413, 415, 417] : List Nat).filterMap (fun i => lw_tbl[i]?) := by decide +kernel
  intro w hw
  have g := List.all_eq_true.mp h w hw
  rw [e] at hw
  obtain ⟨i, -, hi⟩ := List.mem_filterMap.mp hw
  exact mm_gw i hi g
theorem mm_u9 : ∀ w ∈ u_ws RX9 TX9 46, w ∈ mm_GW := by
  have h : (u_ws RX9 TX9 46).all goodWord = true := by decide +kernel
  have e : u_ws RX9 TX9 46 = ([1061, 1063, 1065, 1067, 1069, 1071, 1073, 1075, 1077, 1079, 1081, 1083, 1085, 1087, 1089, 1091, 1093, 1095, 1097, 1099, 1101, 1103, 1105, 1107, 1109, 1111, 1113, 1115, 1117, 1119, 1121, 1123, 1125, 1127, 1129, 1131, 1133, 1135, 1137, 1139, 1141, 1143, 1145, 1147, 1149, 1151] : List Nat).filterMap (fun i => lw_tbl[i]?) := by decide +kernel
  intro w hw
  have g := List.all_eq_true.mp h w hw
  rw [e] at hw
  obtain ⟨i, -, hi⟩ := List.mem_filterMap.mp hw
  exact mm_gw i hi g
