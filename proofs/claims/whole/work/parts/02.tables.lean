def mm_cn (c : Nat) : String := match c with
  | 0 => "WholeSound$Cutter"
  | 1 => "WholeSound$Plan"
  | 2 => "WholeSound$Predictors"
  | 3 => "WholeSound$Reader"
  | 4 => "WholeSound$Row"
  | 5 => "WholeSound$Sound"
  | 6 => "WholeSound$Store"
  | 7 => "WholeSound$Tape"
  | 8 => "WholeSound"
  | 9 => "WholeSoundModel"
  | 10 => "java/lang/Math"
  | 11 => "java/lang/Float"
  | _ => "java/lang/Double"
def mm_T (c : Nat) : u_T := match c with
  | 0 => TX0
  | 1 => TX1
  | 2 => TX2
  | 3 => TX3
  | 4 => TX4
  | 5 => TX5
  | 6 => TX6
  | 7 => TX7
  | 8 => TX8
  | _ => TX9
def mm_N (c : Nat) : Nat := match c with
  | 0 => 15
  | 1 => 7
  | 2 => 3
  | 3 => 13
  | 4 => 10
  | 5 => 5
  | 6 => 3
  | 7 => 2
  | 8 => 10
  | 9 => 46
  | _ => 0
def mm_ty (c : Nat) : Nat → FieldType := match c with
  | 0 => tyX0
  | 1 => tyX1
  | 2 => tyX2
  | 3 => tyX3
  | 4 => tyX4
  | 5 => tyX5
  | 6 => tyX6
  | 7 => tyX7
  | 8 => tyX8
  | _ => tyX9
abbrev mm_E : Type := Instr × Nat × Nat × Nat
abbrev mm_MT : Type := MethodName × ByteArray × Nat × Option FieldType × Nat × Nat × Nat × Nat × Nat × Nat × Nat × Nat
def mm_mt0 : List mm_MT := [
  (⟨"WholeSound$Cutter", "<init>", "()V"⟩, prog_2_method_1_code, 1, none, 1, 0, 2, 1, 183, 182, 0, 86),
  (⟨"WholeSound$Cutter", "unsigned", "(I)I"⟩, prog_2_method_2_code, 1, some .int, 1, 0, 0, 0, 601, 600, 0, 86),
  (⟨"WholeSound$Cutter", "load", "(LWholeSound$Row;LWholeSound$Predictors;I)V"⟩, prog_2_method_3_code, 6, none, 4, 0, 1, 1, 581, 579, 580, 86),
  (⟨"WholeSound$Cutter", "meanSize", "()F"⟩, prog_2_method_4_code, 1, some .float, 1, 0, 1, 0, 621, 619, 620, 86),
  (⟨"WholeSound$Cutter", "cutNowhere", "()I"⟩, prog_2_method_5_code, 4, some .int, 1, 0, 1, 2, 613, 611, 612, 86),
  (⟨"WholeSound$Cutter", "parameterOfMean", "()I"⟩, prog_2_method_6_code, 4, some .int, 1, 0, 1, 1, 617, 616, 5, 86),
  (⟨"WholeSound$Cutter", "cutForLeast", "()I"⟩, prog_2_method_7_code, 6, some .int, 1, 0, 1, 2, 593, 591, 592, 86),
  (⟨"WholeSound$Cutter", "measureGroups", "()V"⟩, prog_2_method_8_code, 8, none, 1, 0, 1, 1, 597, 596, 3, 86),
  (⟨"WholeSound$Cutter", "widthOf", "(I)I"⟩, prog_2_method_9_code, 2, some .int, 1, 0, 0, 0, 604, 603, 0, 86),
  (⟨"WholeSound$Cutter", "findParameter", "(III)V"⟩, prog_2_method_10_code, 10, none, 4, 0, 1, 0, 609, 608, 4, 86),
  (⟨"WholeSound$Plan", "<init>", "()V"⟩, prog_3_method_1_code, 1, none, 1, 1, 2, 2, 177, 176, 0, 85),
  (⟨"WholeSound$Plan", "make", "(LWholeSound$Sound;LWholeSound$Predictors;IIII)V"⟩, prog_3_method_2_code, 10, none, 7, 1, 1, 4, 561, 559, 560, 85),
  (⟨"WholeSound$Plan", "joinRows", "(LWholeSound$Sound;II)V"⟩, prog_3_method_3_code, 7, none, 4, 1, 1, 1, 629, 628, 7, 85),
  (⟨"WholeSound$Plan", "chooseWay", "()V"⟩, prog_3_method_4_code, 2, none, 1, 1, 1, 2, 633, 632, 8, 85),
  (⟨"WholeSound$Plan", "firstRow", "(I)LWholeSound$Row;"⟩, prog_3_method_5_code, 2, some (.object "WholeSound$Row"), 2, 1, 1, 0, 641, 639, 640, 85),
  (⟨"WholeSound$Plan", "secondRow", "(I)LWholeSound$Row;"⟩, prog_3_method_6_code, 2, some (.object "WholeSound$Row"), 2, 1, 1, 0, 645, 643, 644, 85),
  (⟨"WholeSound$Plan", "rowBits", "(I)I"⟩, prog_3_method_7_code, 3, some .int, 2, 1, 1, 1, 637, 635, 636, 85),
  (⟨"WholeSound$Plan", "allBits", "()I"⟩, prog_3_method_8_code, 1, some .int, 1, 1, 1, 2, 699, 697, 698, 85),
  (⟨"WholeSound$Predictors", "<init>", "()V"⟩, prog_4_method_1_code, 1, none, 1, 2, 2, 1, 156, 155, 0, 84),
  (⟨"WholeSound$Predictors", "forget", "()V"⟩, prog_4_method_2_code, 2, none, 1, 2, 1, 1, 504, 502, 503, 84),
  (⟨"WholeSound$Predictors", "tell", "(IIIII)V"⟩, prog_4_method_3_code, 6, none, 6, 2, 1, 0, 508, 506, 507, 84),
  (⟨"WholeSound$Predictors", "weightAt", "(II)I"⟩, prog_4_method_4_code, 3, some .int, 3, 2, 1, 0, 727, 725, 726, 84),
  (⟨"WholeSound$Predictors", "guess", "(I[II)I"⟩, prog_4_method_5_code, 7, some .int, 4, 2, 1, 0, 585, 583, 584, 84),
  (⟨"WholeSound$Reader", "<init>", "()V"⟩, prog_5_method_1_code, 1, none, 1, 3, 2, 2, 318, 317, 0, 88),
  (⟨"WholeSound$Reader", "readHead", "()I"⟩, prog_5_method_2_code, 5, some .int, 1, 3, 1, 3, 797, 795, 796, 88),
  (⟨"WholeSound$Reader", "frames", "()I"⟩, prog_5_method_3_code, 1, some .int, 1, 3, 1, 0, 826, 825, 19, 88),
  (⟨"WholeSound$Reader", "numberAt", "(I)I"⟩, prog_5_method_4_code, 3, some .int, 2, 3, 1, 1, 821, 819, 820, 88),
  (⟨"WholeSound$Reader", "lengthAt", "(I)I"⟩, prog_5_method_5_code, 6, some .int, 2, 3, 1, 4, 830, 828, 829, 88),
  (⟨"WholeSound$Reader", "readBits", "(I)I"⟩, prog_5_method_6_code, 4, some .int, 2, 3, 1, 0, 835, 834, 20, 88),
  (⟨"WholeSound$Reader", "readSigned", "(I)I"⟩, prog_5_method_7_code, 3, some .int, 2, 3, 1, 1, 843, 842, 22, 88),
  (⟨"WholeSound$Reader", "readSplit", "(I)I"⟩, prog_5_method_8_code, 4, some .int, 2, 3, 1, 1, 855, 854, 25, 88),
  (⟨"WholeSound$Reader", "readRow", "([III)V"⟩, prog_5_method_9_code, 7, none, 4, 3, 1, 3, 839, 838, 21, 88)]
def mm_mt1 : List mm_MT := [
  (⟨"WholeSound$Reader", "readNumbers", "([III)V"⟩, prog_5_method_10_code, 5, none, 4, 3, 1, 2, 847, 846, 23, 88),
  (⟨"WholeSound$Reader", "readRuns", "([III)V"⟩, prog_5_method_11_code, 13, none, 4, 3, 1, 2, 851, 850, 24, 88),
  (⟨"WholeSound$Reader", "part", "(II)V"⟩, prog_5_method_12_code, 6, none, 3, 3, 1, 0, 860, 859, 26, 88),
  (⟨"WholeSound$Reader", "isOfWidth", "([II)Z"⟩, prog_5_method_13_code, 5, some .boolean, 3, 3, 1, 0, 864, 863, 27, 88),
  (⟨"WholeSound$Reader", "find", "()V"⟩, prog_5_method_14_code, 6, none, 1, 3, 1, 5, 813, 811, 812, 88),
  (⟨"WholeSound$Reader", "forgetFound", "()V"⟩, prog_5_method_15_code, 2, none, 1, 3, 1, 0, 817, 816, 18, 88),
  (⟨"WholeSound$Reader", "keepFound", "(III)V"⟩, prog_5_method_16_code, 7, none, 4, 3, 1, 1, 869, 868, 28, 88),
  (⟨"WholeSound$Row", "<init>", "()V"⟩, prog_6_method_1_code, 1, none, 1, 4, 2, 1, 243, 242, 0, 87),
  (⟨"WholeSound$Row", "start", "(II)V"⟩, prog_6_method_2_code, 3, none, 3, 4, 1, 0, 567, 565, 566, 87),
  (⟨"WholeSound$Row", "choose", "(LWholeSound$Predictors;LWholeSound$Cutter;II)V"⟩, prog_6_method_3_code, 9, none, 5, 4, 1, 3, 572, 570, 571, 87),
  (⟨"WholeSound$Row", "isStill", "()Z"⟩, prog_6_method_4_code, 2, some .boolean, 1, 4, 1, 0, 576, 575, 2, 87),
  (⟨"WholeSound$Row", "firstBits", "(I)I"⟩, prog_6_method_5_code, 2, some .int, 2, 4, 1, 0, 589, 587, 588, 87),
  (⟨"WholeSound$Row", "keepRuns", "(LWholeSound$Cutter;)V"⟩, prog_6_method_6_code, 4, none, 2, 4, 1, 0, 625, 624, 6, 87),
  (⟨"WholeSound$Sound", "<init>", "()V"⟩, prog_7_method_1_code, 1, none, 1, 5, 2, 1, 127, 126, 0, 83),
  (⟨"WholeSound$Sound", "forget", "()V"⟩, prog_7_method_2_code, 2, none, 1, 5, 1, 0, 500, 498, 499, 83),
  (⟨"WholeSound$Sound", "has", "(I)Z"⟩, prog_7_method_3_code, 2, some .boolean, 2, 5, 1, 0, 442, 440, 441, 83),
  (⟨"WholeSound$Sound", "holdsPlace", "(II)Z"⟩, prog_7_method_4_code, 3, some .boolean, 3, 5, 1, 1, 477, 475, 476, 83),
  (⟨"WholeSound$Sound", "valueAt", "(II)I"⟩, prog_7_method_5_code, 3, some .int, 3, 5, 1, 0, 481, 479, 480, 83),
  (⟨"WholeSound$Sound", "orZero", "(II)I"⟩, prog_7_method_6_code, 3, some .int, 3, 5, 1, 2, 473, 471, 472, 83),
  (⟨"WholeSound$Sound", "put", "(II)V"⟩, prog_7_method_7_code, 3, none, 3, 5, 1, 1, 450, 448, 449, 83),
  (⟨"WholeSound$Sound", "held", "(I)I"⟩, prog_7_method_8_code, 3, some .int, 2, 5, 1, 1, 485, 483, 484, 83),
  (⟨"WholeSound$Sound", "draw", "()I"⟩, prog_7_method_9_code, 1, some .int, 1, 5, 1, 0, 468, 466, 467, 83),
  (⟨"WholeSound$Sound", "ready", "()Z"⟩, prog_7_method_10_code, 1, some .boolean, 1, 5, 1, 0, 557, 555, 556, 83),
  (⟨"WholeSound$Sound", "frames", "(I)I"⟩, prog_7_method_11_code, 2, some .int, 2, 5, 1, 1, 553, 551, 552, 83),
  (⟨"WholeSound$Store", "<init>", "()V"⟩, prog_8_method_1_code, 1, none, 1, 6, 2, 1, 324, 323, 0, 89),
  (⟨"WholeSound$Store", "has", "(I)Z"⟩, prog_8_method_2_code, 2, some .boolean, 2, 6, 1, 0, 740, 738, 739, 89),
  (⟨"WholeSound$Store", "putByte", "(I)V"⟩, prog_8_method_3_code, 2, none, 2, 6, 1, 0, 723, 721, 722, 89),
  (⟨"WholeSound$Store", "putBits", "(II)V"⟩, prog_8_method_4_code, 4, none, 3, 6, 1, 1, 750, 748, 749, 89),
  (⟨"WholeSound$Store", "endBits", "()V"⟩, prog_8_method_5_code, 1, none, 1, 6, 1, 0, 772, 770, 771, 89),
  (⟨"WholeSound$Store", "putCheck", "(I)V"⟩, prog_8_method_6_code, 3, none, 2, 6, 1, 2, 731, 729, 730, 89),
  (⟨"WholeSound$Store", "checkOf", "(II)I"⟩, prog_8_method_7_code, 6, some .int, 3, 6, 1, 1, 735, 733, 734, 89),
  (⟨"WholeSound$Store", "hasCheck", "(II)Z"⟩, prog_8_method_8_code, 3, some .boolean, 3, 6, 1, 2, 805, 803, 804, 89)]
def mm_mt2 : List mm_MT := [
  (⟨"WholeSound$Tape", "<init>", "()V"⟩, prog_9_method_1_code, 1, none, 1, 7, 2, 1, 112, 111, 0, 82),
  (⟨"WholeSound$Tape", "push", "(J)V"⟩, prog_9_method_2_code, 4, none, 2, 7, 1, 0, 427, 425, 426, 82),
  (⟨"WholeSound$Tape", "signedAt", "(II)I"⟩, prog_9_method_3_code, 5, some .int, 3, 7, 1, 0, 446, 444, 445, 82),
  (⟨"WholeSound", "<init>", "()V"⟩, prog_1_method_1_code, 1, none, 1, 8, 2, 3, 104, 103, 0, 81),
  (⟨"WholeSound", "feed", "(JJJ)I"⟩, prog_1_method_2_code, 7, some .int, 4, 8, 1, 1, 423, 421, 422, 81),
  (⟨"WholeSound", "channel", "(I)I"⟩, prog_1_method_3_code, 2, some .int, 2, 8, 1, 1, 431, 429, 430, 81),
  (⟨"WholeSound", "samples", "(II)I"⟩, prog_1_method_4_code, 5, some .int, 3, 8, 1, 2, 438, 436, 437, 81),
  (⟨"WholeSound", "fill", "(IIIII)I"⟩, prog_1_method_5_code, 7, some .int, 6, 8, 1, 4, 455, 453, 454, 81),
  (⟨"WholeSound", "canFill", "(III)Z"⟩, prog_1_method_6_code, 3, some .boolean, 3, 8, 0, 0, 458, 457, 0, 81),
  (⟨"WholeSound", "filled", "(IIIII)I"⟩, prog_1_method_7_code, 6, some .int, 6, 8, 1, 3, 464, 463, 0, 81),
  (⟨"WholeSound", "clear", "()I"⟩, prog_1_method_8_code, 2, some .int, 1, 8, 1, 2, 496, 494, 495, 81),
  (⟨"WholeSound", "frame", "(I)I"⟩, prog_1_method_9_code, 3, some .int, 2, 8, 1, 1, 512, 510, 511, 81),
  (⟨"WholeSound", "predictor", "(IIIII)I"⟩, prog_1_method_10_code, 6, some .int, 6, 8, 1, 1, 519, 517, 518, 81),
  (⟨"WholeSound", "effort", "(I)I"⟩, prog_1_method_11_code, 3, some .int, 2, 8, 1, 0, 530, 528, 529, 81),
  (⟨"WholeSound", "allow", "(I)I"⟩, prog_1_method_12_code, 3, some .int, 2, 8, 1, 0, 534, 532, 533, 81),
  (⟨"WholeSound", "sample", "(II)I"⟩, prog_1_method_13_code, 3, some .int, 3, 8, 1, 2, 538, 536, 537, 81),
  (⟨"WholeSound", "join", "(I)I"⟩, prog_1_method_14_code, 2, some .int, 2, 8, 1, 5, 545, 543, 544, 81),
  (⟨"WholeSound", "joined", "(II)I"⟩, prog_1_method_15_code, 3, some .int, 3, 8, 1, 5, 649, 647, 648, 81),
  (⟨"WholeSound", "row", "(III)I"⟩, prog_1_method_16_code, 5, some .int, 4, 8, 1, 6, 654, 652, 653, 81),
  (⟨"WholeSound", "run", "(IIII)I"⟩, prog_1_method_17_code, 6, some .int, 5, 8, 1, 6, 664, 662, 663, 81),
  (⟨"WholeSound", "residual", "(IIII)I"⟩, prog_1_method_18_code, 7, some .int, 5, 8, 1, 6, 907, 905, 906, 81),
  (⟨"WholeSound", "tried", "(III)I"⟩, prog_1_method_19_code, 5, some .int, 4, 8, 1, 6, 668, 666, 667, 81),
  (⟨"WholeSound", "mean", "(III)I"⟩, prog_1_method_20_code, 5, some .int, 4, 8, 1, 6, 680, 678, 679, 81),
  (⟨"WholeSound", "hasFrame", "(I)Z"⟩, prog_1_method_21_code, 2, some .boolean, 2, 8, 1, 2, 549, 548, 1, 81),
  (⟨"WholeSound", "plannedRow", "(II)LWholeSound$Row;"⟩, prog_1_method_22_code, 3, some (.object "WholeSound$Row"), 3, 8, 1, 5, 658, 657, 9, 81),
  (⟨"WholeSound", "canTry", "(LWholeSound$Row;I)Z"⟩, prog_1_method_23_code, 3, some .boolean, 3, 8, 1, 0, 672, 671, 10, 81),
  (⟨"WholeSound", "size", "()I"⟩, prog_1_method_24_code, 1, some .int, 1, 8, 1, 6, 690, 688, 689, 81),
  (⟨"WholeSound", "sized", "(I)I"⟩, prog_1_method_25_code, 2, some .int, 2, 8, 1, 6, 703, 701, 702, 81),
  (⟨"WholeSound", "without", "(I)I"⟩, prog_1_method_26_code, 2, some .int, 2, 8, 1, 6, 707, 705, 706, 81),
  (⟨"WholeSound", "best", "()I"⟩, prog_1_method_27_code, 5, some .int, 1, 8, 1, 6, 711, 709, 710, 81),
  (⟨"WholeSound", "packedSize", "(II)I"⟩, prog_1_method_28_code, 6, some .int, 3, 8, 1, 5, 695, 694, 11, 81),
  (⟨"WholeSound", "pack", "()I"⟩, prog_1_method_29_code, 3, some .int, 1, 8, 1, 6, 715, 713, 714, 81)]
def mm_mt3 : List mm_MT := [
  (⟨"WholeSound", "writeHead", "()V"⟩, prog_1_method_30_code, 3, none, 1, 8, 1, 3, 719, 718, 12, 81),
  (⟨"WholeSound", "writeFrame", "(I)V"⟩, prog_1_method_31_code, 3, none, 2, 8, 1, 5, 746, 745, 13, 81),
  (⟨"WholeSound", "writeRow", "(LWholeSound$Row;)V"⟩, prog_1_method_32_code, 4, none, 2, 8, 1, 4, 754, 753, 14, 81),
  (⟨"WholeSound", "writeRuns", "(LWholeSound$Row;)V"⟩, prog_1_method_33_code, 6, none, 2, 8, 1, 3, 758, 757, 15, 81),
  (⟨"WholeSound", "writeFixed", "(III)V"⟩, prog_1_method_34_code, 5, none, 4, 8, 1, 2, 763, 762, 16, 81),
  (⟨"WholeSound", "writeSplit", "(III)V"⟩, prog_1_method_35_code, 8, none, 4, 8, 1, 2, 767, 766, 17, 81),
  (⟨"WholeSound", "store", "(I)I"⟩, prog_1_method_36_code, 2, some .int, 2, 8, 1, 1, 776, 774, 775, 81),
  (⟨"WholeSound", "spoil", "(II)I"⟩, prog_1_method_37_code, 3, some .int, 3, 8, 1, 1, 781, 779, 780, 81),
  (⟨"WholeSound", "drop", "(I)I"⟩, prog_1_method_38_code, 2, some .int, 2, 8, 1, 0, 785, 783, 784, 81),
  (⟨"WholeSound", "take", "(I)I"⟩, prog_1_method_39_code, 4, some .int, 2, 8, 1, 1, 789, 787, 788, 81),
  (⟨"WholeSound", "head", "()I"⟩, prog_1_method_40_code, 1, some .int, 1, 8, 1, 4, 793, 791, 792, 81),
  (⟨"WholeSound", "good", "()I"⟩, prog_1_method_41_code, 3, some .int, 1, 8, 1, 6, 809, 807, 808, 81),
  (⟨"WholeSound", "seek", "(II)I"⟩, prog_1_method_42_code, 3, some .int, 3, 8, 1, 6, 873, 871, 872, 81),
  (⟨"WholeSound", "holds", "(I)I"⟩, prog_1_method_43_code, 2, some .int, 2, 8, 1, 4, 877, 875, 876, 81),
  (⟨"WholeSound", "near", "(I)I"⟩, prog_1_method_44_code, 3, some .int, 2, 8, 1, 5, 881, 879, 880, 81),
  (⟨"WholeSound", "at", "(I)I"⟩, prog_1_method_45_code, 2, some .int, 2, 8, 1, 5, 886, 884, 885, 81),
  (⟨"WholeSound", "heard", "(II)I"⟩, prog_1_method_46_code, 3, some .int, 3, 8, 1, 6, 978, 976, 977, 81),
  (⟨"WholeSound", "same", "()I"⟩, prog_1_method_47_code, 5, some .int, 1, 8, 1, 6, 891, 889, 890, 81),
  (⟨"WholeSound", "ratio", "()I"⟩, prog_1_method_48_code, 2, some .int, 1, 8, 1, 6, 895, 893, 894, 81),
  (⟨"WholeSound", "loud", "(II)I"⟩, prog_1_method_49_code, 8, some .int, 3, 8, 1, 1, 1000, 998, 999, 81),
  (⟨"WholeSound", "count", "(I)I"⟩, prog_1_method_50_code, 2, some .int, 2, 8, 1, 2, 899, 897, 898, 81),
  (⟨"WholeSound", "isWidth", "(I)Z"⟩, prog_1_method_51_code, 1, some .boolean, 1, 8, 0, 0, 434, 433, 0, 81),
  (⟨"WholeSound", "isFrame", "(I)Z"⟩, prog_1_method_52_code, 1, some .boolean, 1, 8, 0, 0, 515, 514, 0, 81),
  (⟨"WholeSound", "isShift", "(I)Z"⟩, prog_1_method_53_code, 1, some .boolean, 1, 8, 0, 0, 522, 521, 0, 81),
  (⟨"WholeSound", "isWeight", "(I)Z"⟩, prog_1_method_54_code, 1, some .boolean, 1, 8, 0, 0, 525, 524, 0, 81),
  (⟨"WholeSound", "floatBits", "(F)I"⟩, prog_1_method_55_code, 3, some .int, 1, 8, 0, 0, 684, 683, 0, 81),
  (⟨"WholeSound", "doubleBits", "(D)J"⟩, prog_1_method_56_code, 6, some .long, 1, 8, 0, 0, 1003, 1002, 0, 81),
  (⟨"WholeSoundModel", "<init>", "()V"⟩, prog_11_method_1_code, 1, none, 1, 9, 2, 1, 1013, 1012, 0, 90),
  (⟨"WholeSoundModel", "thrown", "()I"⟩, prog_11_method_2_code, 1, some .int, 1, 9, 1, 0, 1158, 1156, 1157, 90),
  (⟨"WholeSoundModel", "within", "(III)Z"⟩, prog_11_method_3_code, 3, some .boolean, 3, 9, 0, 0, 1181, 1180, 0, 90),
  (⟨"WholeSoundModel", "isChannel", "(I)Z"⟩, prog_11_method_4_code, 2, some .boolean, 2, 9, 1, 1, 1178, 1177, 31, 90),
  (⟨"WholeSoundModel", "isFrame", "(I)Z"⟩, prog_11_method_5_code, 1, some .boolean, 1, 9, 0, 1, 1218, 1217, 0, 90)]
def mm_mt4 : List mm_MT := [
  (⟨"WholeSoundModel", "eight", "(J)V"⟩, prog_11_method_6_code, 4, none, 2, 9, 1, 0, 1166, 1165, 30, 90),
  (⟨"WholeSoundModel", "feed", "(JJJ)I"⟩, prog_11_method_7_code, 7, some .int, 4, 9, 1, 1, 1162, 1160, 1161, 90),
  (⟨"WholeSoundModel", "channel", "(I)I"⟩, prog_11_method_8_code, 2, some .int, 2, 9, 1, 0, 1170, 1168, 1169, 90),
  (⟨"WholeSoundModel", "signed", "(II)I"⟩, prog_11_method_9_code, 2, some .int, 2, 9, 0, 0, 1184, 1183, 0, 90),
  (⟨"WholeSoundModel", "puts", "(II)V"⟩, prog_11_method_10_code, 3, none, 3, 9, 1, 0, 1188, 1187, 32, 90),
  (⟨"WholeSoundModel", "samples", "(II)I"⟩, prog_11_method_11_code, 4, some .int, 3, 9, 1, 2, 1174, 1172, 1173, 90),
  (⟨"WholeSoundModel", "held", "(I)I"⟩, prog_11_method_12_code, 3, some .int, 2, 9, 1, 0, 1207, 1206, 35, 90),
  (⟨"WholeSoundModel", "drawn", "()I"⟩, prog_11_method_13_code, 1, some .int, 1, 9, 1, 0, 1202, 1201, 34, 90),
  (⟨"WholeSoundModel", "filled", "(IIIII)I"⟩, prog_11_method_14_code, 7, some .int, 6, 9, 1, 1, 1198, 1197, 33, 90),
  (⟨"WholeSoundModel", "fill", "(IIIII)I"⟩, prog_11_method_15_code, 7, some .int, 6, 9, 1, 2, 1192, 1190, 1191, 90),
  (⟨"WholeSoundModel", "clear", "()I"⟩, prog_11_method_16_code, 3, some .int, 1, 9, 1, 0, 1211, 1209, 1210, 90),
  (⟨"WholeSoundModel", "frame", "(I)I"⟩, prog_11_method_17_code, 3, some .int, 2, 9, 1, 2, 1215, 1213, 1214, 90),
  (⟨"WholeSoundModel", "predictor", "(IIIII)I"⟩, prog_11_method_18_code, 7, some .int, 6, 9, 1, 1, 1222, 1220, 1221, 90),
  (⟨"WholeSoundModel", "effort", "(I)I"⟩, prog_11_method_19_code, 3, some .int, 2, 9, 1, 1, 1229, 1227, 1228, 90),
  (⟨"WholeSoundModel", "allow", "(I)I"⟩, prog_11_method_20_code, 3, some .int, 2, 9, 1, 1, 1233, 1231, 1232, 90),
  (⟨"WholeSoundModel", "sample", "(II)I"⟩, prog_11_method_21_code, 3, some .int, 3, 9, 1, 2, 1237, 1235, 1236, 90),
  (⟨"WholeSoundModel", "orderOf", "(I[I)I"⟩, prog_11_method_22_code, 3, some .int, 2, 9, 0, 0, 1225, 1224, 0, 90),
  (⟨"WholeSoundModel", "guessed", "([III[I[I)I"⟩, prog_11_method_23_code, 7, some .int, 5, 9, 0, 1, 1289, 1288, 0, 90),
  (⟨"WholeSoundModel", "isReady", "()Z"⟩, prog_11_method_24_code, 1, some .boolean, 1, 9, 1, 0, 1254, 1253, 38, 90),
  (⟨"WholeSoundModel", "frames", "()I"⟩, prog_11_method_25_code, 1, some .int, 1, 9, 1, 1, 1250, 1249, 37, 90),
  (⟨"WholeSoundModel", "isFrameThere", "(I)Z"⟩, prog_11_method_26_code, 2, some .boolean, 2, 9, 1, 2, 1246, 1245, 36, 90),
  (⟨"WholeSoundModel", "laysRow", "(II)V"⟩, prog_11_method_27_code, 7, none, 3, 9, 1, 0, 1266, 1265, 41, 90),
  (⟨"WholeSoundModel", "sortOf", "(II)I"⟩, prog_11_method_28_code, 2, some .int, 2, 9, 0, 0, 1351, 1350, 0, 90),
  (⟨"WholeSoundModel", "laysErrors", "(I)V"⟩, prog_11_method_29_code, 4, none, 2, 9, 1, 2, 1286, 1285, 46, 90),
  (⟨"WholeSoundModel", "folded", "(I)I"⟩, prog_11_method_30_code, 1, some .int, 1, 9, 0, 0, 1306, 1305, 0, 90),
  (⟨"WholeSoundModel", "widthOf", "(I)I"⟩, prog_11_method_31_code, 2, some .int, 1, 9, 0, 0, 1309, 1308, 0, 90),
  (⟨"WholeSoundModel", "inGroup", "(I)I"⟩, prog_11_method_32_code, 2, some .int, 2, 9, 1, 0, 1303, 1302, 49, 90),
  (⟨"WholeSoundModel", "laysGroups", "()V"⟩, prog_11_method_33_code, 5, none, 1, 9, 1, 1, 1299, 1298, 48, 90),
  (⟨"WholeSoundModel", "bitsBy", "(III)I"⟩, prog_11_method_34_code, 9, some .int, 4, 9, 1, 1, 1321, 1320, 52, 90),
  (⟨"WholeSoundModel", "parameterOf", "(II)I"⟩, prog_11_method_35_code, 6, some .int, 3, 9, 1, 2, 1317, 1316, 51, 90),
  (⟨"WholeSoundModel", "laysSpans", "()V"⟩, prog_11_method_36_code, 4, none, 1, 9, 1, 3, 1313, 1312, 50, 90),
  (⟨"WholeSoundModel", "bitsOfWay", "(I)I"⟩, prog_11_method_37_code, 5, some .int, 2, 9, 1, 0, 1325, 1324, 53, 90)]
def mm_mt5 : List mm_MT := [
  (⟨"WholeSoundModel", "cutsOf", "(I)I"⟩, prog_11_method_38_code, 3, some .int, 1, 9, 0, 0, 1328, 1327, 0, 90),
  (⟨"WholeSoundModel", "runsWhole", "()I"⟩, prog_11_method_39_code, 5, some .int, 1, 9, 1, 4, 1295, 1294, 47, 90),
  (⟨"WholeSoundModel", "sizes", "()I"⟩, prog_11_method_40_code, 3, some .int, 1, 9, 1, 0, 1336, 1335, 55, 90),
  (⟨"WholeSoundModel", "meanNow", "()F"⟩, prog_11_method_41_code, 1, some .float, 1, 9, 1, 1, 1340, 1339, 56, 90),
  (⟨"WholeSoundModel", "runByMean", "()I"⟩, prog_11_method_42_code, 4, some .int, 1, 9, 1, 2, 1332, 1331, 54, 90),
  (⟨"WholeSoundModel", "costs", "(I)I"⟩, prog_11_method_43_code, 2, some .int, 2, 9, 1, 5, 1282, 1281, 45, 90),
  (⟨"WholeSoundModel", "isStill", "()Z"⟩, prog_11_method_44_code, 2, some .boolean, 1, 9, 1, 0, 1274, 1273, 43, 90),
  (⟨"WholeSoundModel", "predictorFor", "(I)I"⟩, prog_11_method_45_code, 6, some .int, 2, 9, 1, 6, 1278, 1277, 44, 90),
  (⟨"WholeSoundModel", "rowCosts", "(I)I"⟩, prog_11_method_46_code, 4, some .int, 2, 9, 1, 7, 1270, 1269, 42, 90),
  (⟨"WholeSoundModel", "laysSorts", "(II)V"⟩, prog_11_method_47_code, 4, none, 3, 9, 1, 8, 1262, 1261, 40, 90),
  (⟨"WholeSoundModel", "joinedBits", "(I)I"⟩, prog_11_method_48_code, 2, some .int, 2, 9, 1, 1, 1348, 1347, 58, 90),
  (⟨"WholeSoundModel", "joinNow", "()I"⟩, prog_11_method_49_code, 3, some .int, 1, 9, 1, 2, 1344, 1343, 57, 90),
  (⟨"WholeSoundModel", "joinOf", "(II)I"⟩, prog_11_method_50_code, 3, some .int, 3, 9, 1, 9, 1258, 1257, 39, 90),
  (⟨"WholeSoundModel", "join", "(I)I"⟩, prog_11_method_51_code, 2, some .int, 2, 9, 1, 10, 1242, 1240, 1241, 90),
  (⟨"WholeSoundModel", "joined", "(II)I"⟩, prog_11_method_52_code, 3, some .int, 3, 9, 1, 9, 1355, 1353, 1354, 90),
  (⟨"WholeSoundModel", "isRowLaid", "(II)Z"⟩, prog_11_method_53_code, 3, some .boolean, 3, 9, 1, 10, 1363, 1362, 59, 90),
  (⟨"WholeSoundModel", "row", "(III)I"⟩, prog_11_method_54_code, 5, some .int, 4, 9, 1, 11, 1359, 1357, 1358, 90),
  (⟨"WholeSoundModel", "run", "(IIII)I"⟩, prog_11_method_55_code, 5, some .int, 5, 9, 1, 11, 1367, 1365, 1366, 90),
  (⟨"WholeSoundModel", "residual", "(IIII)I"⟩, prog_11_method_56_code, 5, some .int, 5, 9, 1, 11, 1371, 1369, 1370, 90),
  (⟨"WholeSoundModel", "tried", "(III)I"⟩, prog_11_method_57_code, 4, some .int, 4, 9, 1, 11, 1375, 1373, 1374, 90),
  (⟨"WholeSoundModel", "mean", "(III)I"⟩, prog_11_method_58_code, 4, some .int, 4, 9, 1, 11, 1379, 1377, 1378, 90),
  (⟨"WholeSoundModel", "sizeBy", "(I)I"⟩, prog_11_method_59_code, 4, some .int, 2, 9, 1, 10, 1397, 1396, 60, 90),
  (⟨"WholeSoundModel", "size", "()I"⟩, prog_11_method_60_code, 1, some .int, 1, 9, 1, 11, 1393, 1391, 1392, 90),
  (⟨"WholeSoundModel", "sizeOf", "(I)I"⟩, prog_11_method_61_code, 4, some .int, 2, 9, 1, 11, 1405, 1404, 61, 90),
  (⟨"WholeSoundModel", "sized", "(I)I"⟩, prog_11_method_62_code, 2, some .int, 2, 9, 1, 12, 1401, 1399, 1400, 90),
  (⟨"WholeSoundModel", "without", "(I)I"⟩, prog_11_method_63_code, 2, some .int, 2, 9, 1, 11, 1409, 1407, 1408, 90),
  (⟨"WholeSoundModel", "best", "()I"⟩, prog_11_method_64_code, 5, some .int, 1, 9, 1, 12, 1413, 1411, 1412, 90),
  (⟨"WholeSoundModel", "putsByte", "(I)V"⟩, prog_11_method_65_code, 2, none, 2, 9, 1, 0, 1421, 1420, 62, 90),
  (⟨"WholeSoundModel", "putsBits", "(II)V"⟩, prog_11_method_66_code, 4, none, 3, 9, 1, 1, 1435, 1434, 65, 90),
  (⟨"WholeSoundModel", "checked", "(II)I"⟩, prog_11_method_67_code, 6, some .int, 3, 9, 1, 0, 1429, 1428, 64, 90),
  (⟨"WholeSoundModel", "putsCheck", "(I)V"⟩, prog_11_method_68_code, 3, none, 2, 9, 1, 1, 1425, 1424, 63, 90),
  (⟨"WholeSoundModel", "putsRun", "(IIII)V"⟩, prog_11_method_69_code, 11, none, 5, 9, 1, 2, 1443, 1442, 67, 90)]
def mm_mt6 : List mm_MT := [
  (⟨"WholeSoundModel", "putsRow", "(II)V"⟩, prog_11_method_70_code, 5, none, 3, 9, 1, 8, 1439, 1438, 66, 90),
  (⟨"WholeSoundModel", "pack", "()I"⟩, prog_11_method_71_code, 5, some .int, 1, 9, 1, 10, 1417, 1415, 1416, 90),
  (⟨"WholeSoundModel", "store", "(I)I"⟩, prog_11_method_72_code, 2, some .int, 2, 9, 1, 1, 1447, 1445, 1446, 90),
  (⟨"WholeSoundModel", "spoil", "(II)I"⟩, prog_11_method_73_code, 3, some .int, 3, 9, 1, 1, 1451, 1449, 1450, 90),
  (⟨"WholeSoundModel", "drop", "(I)I"⟩, prog_11_method_74_code, 2, some .int, 2, 9, 1, 1, 1455, 1453, 1454, 90),
  (⟨"WholeSoundModel", "take", "(I)I"⟩, prog_11_method_75_code, 4, some .int, 2, 9, 1, 1, 1459, 1457, 1458, 90),
  (⟨"WholeSoundModel", "headNow", "()I"⟩, prog_11_method_76_code, 4, some .int, 1, 9, 1, 2, 1467, 1466, 68, 90),
  (⟨"WholeSoundModel", "head", "()I"⟩, prog_11_method_77_code, 1, some .int, 1, 9, 1, 3, 1463, 1461, 1462, 90),
  (⟨"WholeSoundModel", "headFrames", "()I"⟩, prog_11_method_78_code, 1, some .int, 1, 9, 1, 0, 1479, 1478, 70, 90),
  (⟨"WholeSoundModel", "bit", "()I"⟩, prog_11_method_79_code, 2, some .int, 1, 9, 1, 0, 1495, 1494, 74, 90),
  (⟨"WholeSoundModel", "bits", "(I)I"⟩, prog_11_method_80_code, 4, some .int, 2, 9, 1, 1, 1491, 1490, 73, 90),
  (⟨"WholeSoundModel", "signedBits", "(I)I"⟩, prog_11_method_81_code, 2, some .int, 2, 9, 1, 2, 1503, 1502, 76, 90),
  (⟨"WholeSoundModel", "readError", "(II)I"⟩, prog_11_method_82_code, 5, some .int, 3, 9, 1, 3, 1511, 1510, 78, 90),
  (⟨"WholeSoundModel", "readsRuns", "(II)V"⟩, prog_11_method_83_code, 11, none, 3, 9, 1, 4, 1507, 1506, 77, 90),
  (⟨"WholeSoundModel", "readsRow", "(III)V"⟩, prog_11_method_84_code, 7, none, 4, 9, 1, 5, 1499, 1498, 75, 90),
  (⟨"WholeSoundModel", "parts", "(II)Z"⟩, prog_11_method_85_code, 9, some .boolean, 3, 9, 1, 1, 1515, 1514, 79, 90),
  (⟨"WholeSoundModel", "sizeAt", "(I)I"⟩, prog_11_method_86_code, 2, some .int, 2, 9, 1, 0, 1487, 1486, 72, 90),
  (⟨"WholeSoundModel", "lengthAt", "(II)I"⟩, prog_11_method_87_code, 6, some .int, 3, 9, 1, 6, 1483, 1482, 71, 90),
  (⟨"WholeSoundModel", "finds", "()Z"⟩, prog_11_method_88_code, 7, some .boolean, 1, 9, 1, 7, 1475, 1474, 69, 90),
  (⟨"WholeSoundModel", "good", "()I"⟩, prog_11_method_89_code, 3, some .int, 1, 9, 1, 8, 1471, 1469, 1470, 90),
  (⟨"WholeSoundModel", "seek", "(II)I"⟩, prog_11_method_90_code, 3, some .int, 3, 9, 1, 8, 1519, 1517, 1518, 90),
  (⟨"WholeSoundModel", "holds", "(I)I"⟩, prog_11_method_91_code, 2, some .int, 2, 9, 1, 3, 1523, 1521, 1522, 90),
  (⟨"WholeSoundModel", "near", "(I)I"⟩, prog_11_method_92_code, 3, some .int, 2, 9, 1, 7, 1527, 1525, 1526, 90),
  (⟨"WholeSoundModel", "at", "(I)I"⟩, prog_11_method_93_code, 2, some .int, 2, 9, 1, 7, 1531, 1529, 1530, 90),
  (⟨"WholeSoundModel", "heard", "(II)I"⟩, prog_11_method_94_code, 3, some .int, 3, 9, 1, 8, 1535, 1533, 1534, 90),
  (⟨"WholeSoundModel", "same", "()I"⟩, prog_11_method_95_code, 4, some .int, 1, 9, 1, 8, 1539, 1537, 1538, 90),
  (⟨"WholeSoundModel", "ratio", "()I"⟩, prog_11_method_96_code, 1, some .int, 1, 9, 1, 11, 1543, 1541, 1542, 90),
  (⟨"WholeSoundModel", "loud", "(II)I"⟩, prog_11_method_97_code, 7, some .int, 3, 9, 1, 2, 1547, 1545, 1546, 90),
  (⟨"WholeSoundModel", "count", "(I)I"⟩, prog_11_method_98_code, 2, some .int, 2, 9, 1, 2, 1561, 1559, 1560, 90),
  (⟨"java/lang/Double", "doubleToLongBits", "(D)J"⟩, prog_13_method_23_code, 2, some .long, 1, 12, 0, 1, 1550, 1549, 0, 99),
  (⟨"java/lang/Double", "isNaN", "(D)Z"⟩, prog_13_method_6_code, 2, some .boolean, 1, 12, 0, 0, 1553, 1552, 0, 99),
  (⟨"java/lang/Float", "floatToIntBits", "(F)I"⟩, prog_15_method_24_code, 1, some .int, 1, 11, 0, 1, 1382, 1381, 0, 97)]
def mm_mt7 : List mm_MT := [
  (⟨"java/lang/Float", "isNaN", "(F)Z"⟩, prog_15_method_6_code, 1, some .boolean, 1, 11, 0, 0, 1385, 1384, 0, 97),
  (⟨"java/lang/Math", "max", "(II)I"⟩, prog_17_method_65_code, 2, some .int, 2, 10, 0, 0, 492, 491, 0, 91),
  (⟨"java/lang/Math", "min", "(II)I"⟩, prog_17_method_69_code, 2, some .int, 2, 10, 0, 0, 489, 488, 0, 91)]
def mm_mts : List (List mm_MT) := [mm_mt0, mm_mt1, mm_mt2, mm_mt3, mm_mt4, mm_mt5, mm_mt6, mm_mt7]
def mm_wt (i : Nat) (w : Cond) : Bool := decide (lw_tbl[i]? = some w) && goodWord w
theorem mm_wt_mem {i : Nat} {w : Cond} (h : mm_wt i w = true) : w ∈ mm_GW := by
  simp only [mm_wt, Bool.and_eq_true, decide_eq_true_eq] at h
  exact mm_gw i h.1 h.2
def mm_ckM (t : mm_MT) : Bool := match t with
  | (y, by_, ml, rt, na, c, md, dp, p0, p1, p2, p3) =>
    decide (y.cls = mm_cn c) && mm_wt p3 (.initialized y.cls) && decide (ml + 19 ≤ 40) && decide (dp ≤ 13) && plainFor y
    && decide ((y.cls ≠ "java/lang/invoke/MethodHandle") ∧ y.cls ≠ "java/lang/invoke/VarHandle") && (if md = 0 then mm_wt p1 (.static y) && decide ((parseMethodDescriptor y.desc).map (fun d => d.parameters.length) = some na)
      else mm_wt p1 (.instanceMethod y) && decide ((parseMethodDescriptor y.desc).map (fun d => d.parameters.length + 1) = some na) && (if md = 1 then mm_wt p2 (.selects y.cls y y) else decide (y.name = "<init>" ∧ md = 2)))
theorem mm_mtk0 : mm_mt0.all mm_ckM = true := by decide +kernel
theorem mm_mtk1 : mm_mt1.all mm_ckM = true := by decide +kernel
theorem mm_mtk2 : mm_mt2.all mm_ckM = true := by decide +kernel
theorem mm_mtk3 : mm_mt3.all mm_ckM = true := by decide +kernel
theorem mm_mtk4 : mm_mt4.all mm_ckM = true := by decide +kernel
theorem mm_mtk5 : mm_mt5.all mm_ckM = true := by decide +kernel
theorem mm_mtk6 : mm_mt6.all mm_ckM = true := by decide +kernel
theorem mm_mtk7 : mm_mt7.all mm_ckM = true := by decide +kernel
def mm_cw (t : mm_MT) : Cond := .code t.1 t.2.1 t.2.2.1 t.2.2.2.1
theorem mm_cw_good (t : mm_MT) : goodWord (mm_cw t) = true := rfl
theorem mm_cw_of {ps : List Nat} {l : List mm_MT} (h : ps.map (fun i => lw_tbl[i]?) = l.map (fun t => some (mm_cw t))) : ∀ t ∈ l, mm_cw t ∈ mm_GW := by
  intro t ht
  have h1 : some (mm_cw t) ∈ ps.map (fun i => lw_tbl[i]?) := by rw [h]; exact List.mem_map.mpr ⟨t, ht, rfl⟩
  obtain ⟨i, -, hi⟩ := List.mem_map.mp h1
  exact mm_gw i hi (mm_cw_good t)
set_option maxRecDepth 100000 in
theorem mm_cwk0 : ∀ t ∈ mm_mt0, mm_cw t ∈ mm_GW := mm_cw_of (ps := [183, 601, 581, 621, 613, 617, 593, 597, 604, 609, 177, 561, 629, 633, 641, 645, 637, 699, 156, 504, 508, 727, 585, 318, 797, 826, 821, 830, 835, 843, 855, 839]) rfl
set_option maxRecDepth 100000 in
theorem mm_cwk1 : ∀ t ∈ mm_mt1, mm_cw t ∈ mm_GW := mm_cw_of (ps := [847, 851, 860, 864, 813, 817, 869, 243, 567, 572, 576, 589, 625, 127, 500, 442, 477, 481, 473, 450, 485, 468, 557, 553, 324, 740, 723, 750, 772, 731, 735, 805]) rfl
set_option maxRecDepth 100000 in
theorem mm_cwk2 : ∀ t ∈ mm_mt2, mm_cw t ∈ mm_GW := mm_cw_of (ps := [112, 427, 446, 104, 423, 431, 438, 455, 458, 464, 496, 512, 519, 530, 534, 538, 545, 649, 654, 664, 907, 668, 680, 549, 658, 672, 690, 703, 707, 711, 695, 715]) rfl
set_option maxRecDepth 100000 in
theorem mm_cwk3 : ∀ t ∈ mm_mt3, mm_cw t ∈ mm_GW := mm_cw_of (ps := [719, 746, 754, 758, 763, 767, 776, 781, 785, 789, 793, 809, 873, 877, 881, 886, 978, 891, 895, 1000, 899, 434, 515, 522, 525, 684, 1003, 1013, 1158, 1181, 1178, 1218]) rfl
set_option maxRecDepth 100000 in
theorem mm_cwk4 : ∀ t ∈ mm_mt4, mm_cw t ∈ mm_GW := mm_cw_of (ps := [1166, 1162, 1170, 1184, 1188, 1174, 1207, 1202, 1198, 1192, 1211, 1215, 1222, 1229, 1233, 1237, 1225, 1289, 1254, 1250, 1246, 1266, 1351, 1286, 1306, 1309, 1303, 1299, 1321, 1317, 1313, 1325]) rfl
set_option maxRecDepth 100000 in
theorem mm_cwk5 : ∀ t ∈ mm_mt5, mm_cw t ∈ mm_GW := mm_cw_of (ps := [1328, 1295, 1336, 1340, 1332, 1282, 1274, 1278, 1270, 1262, 1348, 1344, 1258, 1242, 1355, 1363, 1359, 1367, 1371, 1375, 1379, 1397, 1393, 1405, 1401, 1409, 1413, 1421, 1435, 1429, 1425, 1443]) rfl
set_option maxRecDepth 100000 in
theorem mm_cwk6 : ∀ t ∈ mm_mt6, mm_cw t ∈ mm_GW := mm_cw_of (ps := [1439, 1417, 1447, 1451, 1455, 1459, 1467, 1463, 1479, 1495, 1491, 1503, 1511, 1507, 1499, 1515, 1487, 1483, 1475, 1471, 1519, 1523, 1527, 1531, 1535, 1539, 1543, 1547, 1561, 1550, 1553, 1382]) rfl
set_option maxRecDepth 100000 in
theorem mm_cwk7 : ∀ t ∈ mm_mt7, mm_cw t ∈ mm_GW := mm_cw_of (ps := [1385, 492, 489]) rfl
theorem mm_cwk : ∀ l ∈ mm_mts, ∀ t ∈ l, mm_cw t ∈ mm_GW := by
  intro l hl
  simp only [mm_mts, List.mem_cons, List.not_mem_nil, or_false] at hl
  rcases hl with rfl | rfl | rfl | rfl | rfl | rfl | rfl | rfl
  · exact mm_cwk0
  · exact mm_cwk1
  · exact mm_cwk2
  · exact mm_cwk3
  · exact mm_cwk4
  · exact mm_cwk5
  · exact mm_cwk6
  · exact mm_cwk7
theorem mm_mtk : ∀ l ∈ mm_mts, l.all mm_ckM = true := by
  intro l hl
  simp only [mm_mts, List.mem_cons, List.not_mem_nil, or_false] at hl
  rcases hl with rfl | rfl | rfl | rfl | rfl | rfl | rfl | rfl
  · exact mm_mtk0
  · exact mm_mtk1
  · exact mm_mtk2
  · exact mm_mtk3
  · exact mm_mtk4
  · exact mm_mtk5
  · exact mm_mtk6
  · exact mm_mtk7
def mm_fl : List (Nat × Nat × Nat × Nat × Nat) := [(0, 9, 0, 0, 185), (0, 15, 0, 4, 193), (0, 18, 0, 5, 194), (0, 21, 0, 6, 195), (0, 24, 0, 7, 196), (0, 27, 0, 8, 197), (0, 30, 0, 9, 198), (0, 33, 0, 10, 200), (0, 36, 0, 11, 202), (0, 39, 0, 12, 204), (0, 42, 0, 1, 187), (0, 46, 0, 3, 191), (0, 49, 2, 1, 160), (0, 54, 4, 1, 250), (0, 57, 4, 0, 247), (0, 64, 0, 2, 189), (0, 92, 0, 14, 207), (0, 95, 0, 13, 206), (1, 12, 1, 0, 290), (1, 21, 1, 1, 292), (1, 25, 1, 2, 293), (1, 28, 1, 3, 294), (1, 31, 1, 4, 295), (1, 40, 5, 1, 131), (1, 49, 5, 3, 137), (1, 57, 4, 0, 246), (1, 67, 5, 2, 134), (1, 70, 1, 5, 296), (1, 74, 1, 6, 297), (1, 92, 4, 4, 257), (2, 9, 2, 0, 158), (2, 15, 2, 1, 159), (2, 18, 2, 2, 164), (3, 12, 3, 0, 342), (3, 21, 3, 1, 344), (3, 25, 3, 8, 354), (3, 29, 3, 9, 355), (3, 32, 3, 10, 356), (3, 35, 3, 11, 358), (3, 38, 3, 12, 360), (3, 41, 6, 1, 329), (3, 45, 6, 0, 327), (3, 48, 3, 2, 345), (3, 51, 3, 3, 347), (3, 54, 3, 4, 348), (3, 57, 3, 5, 350), (3, 95, 3, 6, 352), (3, 98, 3, 7, 353), (3, 123, 2, 1, 162), (4, 9, 4, 0, 245), (4, 15, 4, 6, 261), (4, 18, 4, 7, 263), (4, 21, 4, 8, 265), (4, 24, 4, 9, 267), (4, 27, 4, 1, 249), (4, 31, 4, 2, 252), (4, 34, 4, 5, 259), (4, 41, 4, 3, 254), (4, 44, 4, 4, 256), (4, 50, 2, 1, 161), (4, 61, 0, 3, 192), (4, 79, 0, 2, 190), (4, 82, 0, 9, 199), (4, 85, 0, 10, 201), (4, 88, 0, 11, 203), (4, 91, 0, 12, 205), (5, 9, 5, 0, 129), (5, 15, 5, 1, 130), (5, 18, 5, 4, 139), (5, 22, 5, 2, 133), (5, 25, 5, 3, 136), (6, 9, 6, 0, 326), (6, 15, 6, 1, 330), (6, 19, 6, 2, 332), (7, 9, 7, 0, 114), (7, 15, 7, 1, 116), (8, 12, 8, 0, 389), (8, 19, 8, 1, 390), (8, 26, 8, 2, 391), (8, 33, 8, 3, 392), (8, 37, 1, 0, 291), (8, 41, 8, 4, 393), (8, 45, 8, 5, 394), (8, 49, 3, 0, 343), (8, 53, 8, 6, 395), (8, 54, 8, 7, 396), (8, 58, 8, 8, 397), (8, 61, 8, 9, 398), (8, 64, 7, 1, 115), (8, 75, 5, 2, 135), (8, 78, 5, 3, 138), (8, 84, 5, 1, 132), (8, 100, 5, 4, 140), (8, 137, 2, 1, 163), (8, 157, 1, 6, 298), (8, 167, 4, 3, 255), (8, 172, 4, 4, 258), (8, 175, 4, 5, 260), (8, 178, 4, 6, 262), (8, 181, 4, 7, 264), (8, 184, 4, 9, 268), (8, 191, 4, 1, 251), (8, 197, 4, 0, 248), (8, 247, 6, 1, 331), (8, 263, 2, 2, 165), (8, 279, 4, 2, 253), (8, 283, 0, 1, 188), (8, 289, 4, 8, 266), (8, 299, 0, 0, 186), (8, 306, 6, 0, 328), (8, 315, 3, 10, 357), (8, 318, 3, 11, 359), (8, 321, 3, 5, 351), (8, 324, 3, 4, 349), (8, 333, 3, 2, 346), (8, 337, 3, 12, 361), (9, 7, 9, 0, 1015), (9, 13, 9, 2, 1017), (9, 16, 9, 3, 1018), (9, 19, 9, 6, 1021), (9, 23, 9, 7, 1022), (9, 26, 9, 8, 1023), (9, 29, 9, 9, 1024), (9, 32, 9, 10, 1025), (9, 35, 9, 11, 1026), (9, 38, 9, 12, 1027), (9, 41, 9, 13, 1028), (9, 44, 9, 14, 1029), (9, 47, 9, 17, 1032), (9, 50, 9, 20, 1035), (9, 53, 9, 23, 1038), (9, 56, 9, 24, 1039), (9, 59, 9, 25, 1040), (9, 63, 9, 26, 1041), (9, 66, 9, 27, 1042), (9, 69, 9, 28, 1043), (9, 72, 9, 30, 1045), (9, 75, 9, 31, 1046), (9, 78, 9, 33, 1048), (9, 81, 9, 41, 1056), (9, 84, 9, 42, 1057), (9, 87, 9, 43, 1058), (9, 90, 9, 44, 1059), (9, 93, 9, 45, 1060), (9, 96, 9, 16, 1031), (9, 99, 9, 4, 1019), (9, 106, 9, 1, 1016), (9, 113, 9, 5, 1020), (9, 161, 9, 18, 1033), (9, 164, 9, 19, 1034), (9, 167, 9, 21, 1036), (9, 170, 9, 22, 1037), (9, 205, 9, 29, 1044), (9, 231, 9, 32, 1047), (9, 277, 9, 15, 1030), (9, 280, 9, 34, 1049), (9, 304, 9, 35, 1050), (9, 307, 9, 36, 1051), (9, 310, 9, 37, 1052), (9, 313, 9, 38, 1053), (9, 319, 9, 40, 1055), (9, 323, 9, 39, 1054)]
def mm_ckF (t : Nat × Nat × Nat × Nat × Nat) : Bool := match t with
  | (o, ix, c, s, p) => mm_wt p (.fieldLink (mm_cn o) ix (mm_T c s).1 (mm_T c s).2.1 (mm_T c s).2.2.1) && decide (s < mm_N c) && decide (c < 10)
theorem mm_flk : mm_fl.all mm_ckF = true := by decide +kernel
def mm_flC (o ix c s : Nat) : Bool := mm_fl.any (fun t => t.1 == o && (t.2.1 == ix && (t.2.2.1 == c && t.2.2.2.1 == s)))
def mm_ml : List (Nat × Nat × Nat × Nat × Nat × Nat) := [(0, 60, 22, 1, 0, 582), (0, 67, 5, 1, 0, 614), (0, 71, 1, 0, 0, 599), (0, 75, 3, 1, 0, 618), (0, 79, 7, 1, 0, 594), (0, 82, 225, 0, 0, 605), (0, 88, 9, 1, 0, 606), (0, 98, 226, 0, 0, 598), (0, 101, 8, 0, 0, 602), (1, 11, 0, 2, 1, 181), (1, 20, 39, 2, 1, 241), (1, 34, 226, 0, 0, 562), (1, 46, 225, 0, 0, 563), (1, 53, 40, 1, 0, 564), (1, 60, 49, 1, 0, 568), (1, 63, 41, 1, 0, 569), (1, 77, 12, 1, 0, 626), (1, 81, 13, 1, 0, 630), (1, 84, 16, 1, 0, 634), (1, 88, 14, 1, 0, 638), (1, 95, 15, 1, 0, 642), (2, 21, 20, 1, 0, 505), (3, 11, 56, 2, 1, 322), (3, 20, 18, 2, 1, 341), (3, 60, 117, 0, 1, 798), (3, 64, 118, 0, 1, 799), (3, 67, 119, 0, 1, 800), (3, 70, 20, 1, 0, 801), (3, 74, 63, 1, 0, 802), (3, 78, 57, 1, 0, 822), (3, 81, 25, 1, 0, 823), (3, 85, 26, 1, 0, 818), (3, 89, 226, 0, 0, 831), (3, 102, 28, 1, 0, 832), (3, 105, 31, 1, 0, 836), (3, 109, 34, 1, 0, 857), (3, 113, 35, 1, 0, 861), (3, 117, 29, 1, 0, 840), (3, 120, 32, 1, 0, 844), (3, 126, 33, 1, 0, 848), (3, 129, 30, 1, 0, 852), (3, 132, 22, 1, 0, 856), (3, 137, 37, 1, 0, 814), (3, 140, 27, 1, 0, 827), (3, 143, 38, 1, 0, 866), (4, 37, 42, 1, 0, 573), (4, 55, 2, 1, 0, 578), (4, 64, 43, 1, 0, 586), (4, 68, 6, 1, 0, 590), (4, 72, 4, 1, 0, 610), (4, 75, 44, 1, 0, 622), (5, 28, 47, 1, 0, 451), (5, 32, 48, 1, 0, 474), (5, 36, 49, 1, 0, 478), (5, 41, 226, 0, 0, 487), (5, 46, 225, 0, 0, 490), (5, 50, 54, 1, 0, 554), (6, 22, 58, 1, 0, 742), (6, 26, 62, 1, 0, 732), (6, 31, 57, 1, 0, 737), (8, 11, 64, 2, 1, 110), (8, 18, 45, 2, 1, 125), (8, 25, 18, 2, 1, 154), (8, 32, 10, 2, 1, 175), (8, 44, 23, 2, 1, 316), (8, 67, 65, 1, 0, 424), (8, 71, 117, 0, 0, 432), (8, 81, 47, 1, 0, 439), (8, 88, 66, 1, 0, 443), (8, 92, 51, 1, 0, 447), (8, 96, 72, 0, 0, 456), (8, 103, 73, 1, 0, 461), (8, 107, 52, 1, 0, 482), (8, 113, 53, 1, 0, 465), (8, 117, 50, 1, 0, 470), (8, 120, 46, 1, 0, 497), (8, 123, 19, 1, 0, 501), (8, 124, 118, 0, 0, 513), (8, 127, 119, 0, 0, 520), (8, 130, 120, 0, 0, 523), (8, 133, 20, 1, 0, 526), (8, 140, 48, 1, 0, 539), (8, 144, 49, 1, 0, 540), (8, 150, 87, 1, 0, 546), (8, 153, 11, 1, 0, 558), (8, 160, 16, 1, 0, 650), (8, 163, 88, 1, 0, 655), (8, 187, 89, 1, 0, 669), (8, 200, 22, 1, 0, 970), (8, 204, 2, 1, 0, 673), (8, 210, 43, 1, 0, 674), (8, 213, 4, 1, 0, 675), (8, 216, 6, 1, 0, 676), (8, 219, 3, 1, 0, 681), (8, 223, 121, 0, 0, 682), (8, 227, 55, 1, 0, 550), (8, 230, 14, 1, 0, 659), (8, 234, 15, 1, 0, 660), (8, 237, 54, 1, 0, 691), (8, 241, 94, 1, 0, 692), (8, 244, 17, 1, 0, 696), (8, 250, 96, 1, 0, 716), (8, 253, 97, 1, 0, 743), (8, 257, 58, 1, 0, 720), (8, 260, 21, 1, 0, 724), (8, 266, 61, 1, 0, 728), (8, 269, 59, 1, 0, 747), (8, 272, 98, 1, 0, 751), (8, 276, 60, 1, 0, 769), (8, 280, 99, 1, 0, 755), (8, 284, 226, 0, 0, 759), (8, 292, 100, 1, 0, 760), (8, 296, 101, 1, 0, 764), (8, 302, 1, 0, 0, 768), (8, 305, 57, 1, 0, 777), (8, 309, 24, 1, 0, 794), (8, 312, 36, 1, 0, 810), (8, 327, 27, 1, 0, 882), (8, 330, 26, 1, 0, 887), (8, 340, 122, 0, 0, 1001), (9, 102, 125, 0, 0, 1179), (9, 109, 128, 1, 0, 1163), (9, 116, 126, 1, 0, 1175), (9, 120, 131, 0, 0, 1182), (9, 124, 132, 1, 0, 1185), (9, 129, 135, 1, 0, 1199), (9, 135, 136, 1, 0, 1195), (9, 139, 134, 1, 0, 1204), (9, 143, 127, 0, 0, 1216), (9, 146, 144, 0, 0, 1223), (9, 154, 146, 1, 0, 1251), (9, 158, 147, 1, 0, 1247), (9, 173, 145, 0, 0, 1287), (9, 177, 154, 1, 0, 1300), (9, 180, 152, 0, 0, 1304), (9, 183, 153, 0, 0, 1307), (9, 186, 156, 1, 0, 1318), (9, 190, 157, 1, 0, 1314), (9, 193, 155, 1, 0, 1296), (9, 196, 158, 1, 0, 1310), (9, 199, 159, 1, 0, 1322), (9, 202, 160, 0, 0, 1326), (9, 208, 162, 1, 0, 1333), (9, 211, 163, 1, 0, 1337), (9, 215, 151, 1, 0, 1283), (9, 219, 161, 1, 0, 1292), (9, 222, 164, 1, 0, 1329), (9, 225, 165, 1, 0, 1279), (9, 228, 166, 1, 0, 1271), (9, 234, 167, 1, 0, 1275), (9, 237, 149, 1, 0, 1263), (9, 240, 168, 1, 0, 1267), (9, 243, 150, 0, 0, 1349), (9, 246, 170, 1, 0, 1345), (9, 249, 169, 1, 0, 1259), (9, 252, 171, 1, 0, 1341), (9, 255, 148, 1, 0, 1243), (9, 258, 172, 1, 0, 1255), (9, 261, 175, 1, 0, 1360), (9, 265, 223, 0, 0, 1380), (9, 271, 181, 1, 0, 1394), (9, 274, 183, 1, 0, 1402), (9, 283, 187, 1, 0, 1418), (9, 288, 189, 1, 0, 1426), (9, 291, 188, 1, 0, 1432), (9, 294, 191, 1, 0, 1440), (9, 298, 190, 1, 0, 1422), (9, 301, 192, 1, 0, 1436), (9, 316, 198, 1, 0, 1464), (9, 326, 201, 1, 0, 1492), (9, 329, 202, 1, 0, 1488), (9, 332, 203, 1, 0, 1500), (9, 335, 204, 1, 0, 1508), (9, 338, 205, 1, 0, 1504), (9, 341, 200, 1, 0, 1476), (9, 344, 208, 1, 0, 1484), (9, 347, 206, 1, 0, 1496), (9, 351, 207, 1, 0, 1512), (9, 354, 209, 1, 0, 1480), (9, 357, 210, 1, 0, 1472), (9, 360, 221, 0, 0, 1548), (11, 59, 224, 0, 0, 1383), (12, 122, 222, 0, 0, 1551)]
def mm_m0 : mm_MT := (⟨"", "", ""⟩, ⟨#[]⟩, 0, none, 0, 0, 0, 0, 0, 0, 0, 0)
def mm_nth {α : Type} (d : α) : List α → Nat → α
  | [], _ => d
  | x :: _, 0 => x
  | _ :: l, n + 1 => mm_nth d l n
def mm_m (k : Nat) : mm_MT := mm_nth mm_m0 (mm_nth [] mm_mts (k / 32)) (k % 32)
def mm_y (k : Nat) : MethodName := (mm_m k).1
def mm_by (k : Nat) : ByteArray := (mm_m k).2.1
def mm_mL (k : Nat) : Nat := (mm_m k).2.2.1
def mm_rt (k : Nat) : Option FieldType := (mm_m k).2.2.2.1
def mm_na (k : Nat) : Nat := (mm_m k).2.2.2.2.1
def mm_c (k : Nat) : Nat := (mm_m k).2.2.2.2.2.1
def mm_md (k : Nat) : Nat := (mm_m k).2.2.2.2.2.2.1
def mm_dp (k : Nat) : Nat := (mm_m k).2.2.2.2.2.2.2.1
def mm_nw (o ix : Nat) (y : MethodName) : Cond := .methodLinkNest (mm_cn o) ix y "WholeSound"
def mm_ckL (t : Nat × Nat × Nat × Nat × Nat × Nat) : Bool := match t with
  | (o, ix, k, md, ns, p) => decide (k < 227) && decide (mm_md k = md) && (if ns = 0 then mm_wt p (.methodLink (mm_cn o) ix (mm_y k)) else decide (lw_tbl[p]? = some (mm_nw o ix (mm_y k))))
theorem mm_mlk : mm_ml.all mm_ckL = true := by decide +kernel
def mm_mlC (o ix k md : Nat) : Bool := mm_ml.any (fun t => t.1 == o && (t.2.1 == ix && (t.2.2.1 == k && t.2.2.2.1 == md)))
def mm_cs : List (Nat × Nat × Nat × Nat × Nat) := [(3, 136, 0, 32768, 865), (4, 49, 0, 2147483647, 577), (5, 40, 0, 32768, 486), (5, 49, 0, 1103515245, 469), (6, 30, 0, 65535, 736), (6, 35, 0, 32768, 741), (8, 111, 0, 4294901760, 459), (8, 112, 0, 65536, 460), (8, 149, 0, 2147483648, 541), (8, 344, 2, 1258291200, 685), (8, 345, 0, 8388608, 686), (8, 346, 1, 1023, 1004), (8, 348, 3, 4611686018427387904, 1005), (8, 350, 1, 2046, 1006), (8, 352, 3, 4841369599423283200, 1007), (8, 354, 1, 4503599627370496, 1008), (9, 128, 0, 1103515245, 1203), (9, 133, 0, 4294901760, 1193), (9, 134, 0, 65536, 1194), (9, 150, 0, 2147483648, 1238), (9, 286, 0, 65535, 1430), (9, 287, 0, 32768, 1431), (11, 77, 0, 2143289344, 1389), (12, 137, 1, 9221120237041090560, 1557)]
def mm_ckC (t : Nat × Nat × Nat × Nat × Nat) : Bool := match t with
  | (o, ix, kd, v, p) => if kd = 0 then mm_wt p (.constant (mm_cn o) ix (Int32.ofNat v)) else if kd = 1 then mm_wt p (.constantLong (mm_cn o) ix (Int64.ofNat v)) else if kd = 2 then mm_wt p (.constantFloat (mm_cn o) ix (UInt32.ofNat v)) else mm_wt p (.constantDouble (mm_cn o) ix (UInt64.ofNat v))
theorem mm_csk : mm_cs.all mm_ckC = true := by decide +kernel
def mm_csC (o ix kd v : Nat) : Bool := mm_cs.any (fun t => t.1 == o && (t.2.1 == ix && (t.2.2.1 == kd && t.2.2.2.1 == v)))
def mm_nl : List (Nat × Nat × Nat × Nat × Nat × Nat) := [(1, 9, 0, 179, 180, 86), (1, 18, 4, 239, 240, 87), (3, 9, 6, 320, 321, 89), (3, 18, 2, 340, 153, 84), (8, 9, 7, 108, 109, 82), (8, 16, 5, 123, 124, 83), (8, 23, 2, 152, 153, 84), (8, 30, 1, 173, 174, 85), (8, 42, 3, 314, 315, 88)]
def mm_ckN (t : Nat × Nat × Nat × Nat × Nat × Nat) : Bool := match t with
  | (o, ix, c, p1, p2, p3) => mm_wt p1 (.classLink (mm_cn o) ix (mm_cn c)) && mm_wt p2 (.instantiable (mm_cn c) (mm_N c)) && mm_wt p3 (.initialized (mm_cn c)) && decide (c < 10)
theorem mm_nlk : mm_nl.all mm_ckN = true := by decide +kernel
def mm_nlC (o ix c : Nat) : Bool := mm_nl.any (fun t => t.1 == o && (t.2.1 == ix && t.2.2.1 == c))
def mm_ol : List (Nat × Nat × Nat) := [(0, 3, 184), (1, 3, 178), (2, 3, 157), (3, 3, 319), (4, 3, 244), (5, 3, 128), (6, 3, 325), (7, 3, 113), (8, 3, 105), (9, 1, 1014)]
theorem mm_olk : mm_ol.all (fun t => mm_wt t.2.2 (.methodLink (mm_cn t.1) t.2.1 Lib.objectInit)) = true := by decide +kernel
def mm_olC (o ix : Nat) : Bool := mm_ol.any (fun t => t.1 == o && t.2.1 == ix)
theorem mm_oi1 : (.instanceMethod Lib.objectInit : Cond) ∈ mm_GW := mm_wt_mem (i := 106) (by decide +kernel)
theorem mm_oi2 : (.code Lib.objectInit ⟨#[0xb1]⟩ 1 none : Cond) ∈ mm_GW := mm_wt_mem (i := 107) (by decide +kernel)
theorem mm_nvf1 : (.methodLink "java/lang/Float" 74 (⟨"java/lang/Float", "floatToRawIntBits", "(F)I"⟩ : MethodName) : Cond) ∈ mm_GW := mm_wt_mem (i := 1386) (by decide +kernel)
theorem mm_nvf2 : (.native (⟨"java/lang/Float", "floatToRawIntBits", "(F)I"⟩ : MethodName) : Cond) ∈ mm_GW := mm_wt_mem (i := 1388) (by decide +kernel)
theorem mm_nvf3 : (.static (⟨"java/lang/Float", "floatToRawIntBits", "(F)I"⟩ : MethodName) : Cond) ∈ mm_GW := mm_wt_mem (i := 1387) (by decide +kernel)
theorem mm_nvf4 : (.initialized "java/lang/Float" : Cond) ∈ mm_GW := mm_wt_mem (i := 97) (by decide +kernel)
theorem mm_nvd1 : (.methodLink "java/lang/Double" 134 (⟨"java/lang/Double", "doubleToRawLongBits", "(D)J"⟩ : MethodName) : Cond) ∈ mm_GW := mm_wt_mem (i := 1554) (by decide +kernel)
theorem mm_nvd2 : (.native (⟨"java/lang/Double", "doubleToRawLongBits", "(D)J"⟩ : MethodName) : Cond) ∈ mm_GW := mm_wt_mem (i := 1556) (by decide +kernel)
theorem mm_nvd3 : (.static (⟨"java/lang/Double", "doubleToRawLongBits", "(D)J"⟩ : MethodName) : Cond) ∈ mm_GW := mm_wt_mem (i := 1555) (by decide +kernel)
theorem mm_nvd4 : (.initialized "java/lang/Double" : Cond) ∈ mm_GW := mm_wt_mem (i := 99) (by decide +kernel)
theorem mm_ac_int : (.arrayClass .int : Cond) ∈ mm_GW := mm_wt_mem (i := 122) (by decide +kernel)
theorem mm_ac_boolean : (.arrayClass .boolean : Cond) ∈ mm_GW := mm_wt_mem (i := 1154) (by decide +kernel)
-- FIXED: Jvm.Cond.fieldLink "WholeSoundModel" (151 : Nat) "WholeSoundModel" "FIXED" "[I" at [1210]
theorem mm_fx : (.fieldLink "WholeSoundModel" 151 "WholeSoundModel" "FIXED" "[I" : Cond) ∈ mm_GW := mm_wt_mem (i := 1290) (by decide +kernel)
