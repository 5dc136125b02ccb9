def mm_c219 : List (Nat × mm_E) := [
  (0, (.aload_n 0), 1, 0, 0),
  (1, (.iconst 1), 1, 0, 0),
  (2, (.putfield 96), 3, 9, 16),
  (5, (.aload_n 0), 1, 0, 0),
  (6, (.iload_n 1), 1, 0, 0),
  (7, (.invokevirtual 116), 3, 126, 2),
  (10, (.ifCond .eq 21), 3, 31, 0),
  (13, (.iload_n 2), 1, 0, 0),
  (14, (.iconst 0), 1, 0, 0),
  (15, (.iconst 1), 1, 0, 0),
  (16, (.invokestatic 102), 3, 125, 3),
  (19, (.ifCond .eq 12), 3, 31, 0),
  (22, (.aload_n 0), 1, 0, 0),
  (23, (.getfield 16), 3, 9, 3),
  (26, (.iload_n 1), 1, 0, 0),
  (27, .iaload, 1, 0, 0),
  (28, (.ifCond .ne 5), 3, 33, 0),
  (31, (.iconst 0), 1, 0, 0),
  (32, .ireturn, 1, 0, 0),
  (33, (.aload_n 0), 1, 0, 0),
  (34, (.iconst 0), 1, 0, 0),
  (35, (.putfield 96), 3, 9, 16),
  (38, (.lconst 0), 1, 0, 0),
  (39, (.lstore_n 3), 1, 0, 0),
  (40, (.iconst 0), 1, 0, 0),
  (41, (.istore 5), 2, 0, 0),
  (43, (.iload 5), 2, 0, 0),
  (45, (.aload_n 0), 1, 0, 0),
  (46, (.getfield 16), 3, 9, 3),
  (49, (.iload_n 1), 1, 0, 0),
  (50, .iaload, 1, 0, 0),
  (51, (.if_icmp .ge 41), 3, 92, 0),
  (54, (.lload_n 3), 1, 0, 0),
  (55, (.aload_n 0), 1, 0, 0),
  (56, (.getfield 13), 3, 9, 2),
  (59, (.sipush 256), 3, 0, 0),
  (62, (.iload_n 1), 1, 0, 0),
  (63, .imul, 1, 0, 0),
  (64, (.iload 5), 2, 0, 0),
  (66, .iadd, 1, 0, 0),
  (67, .iaload, 1, 0, 0),
  (68, .i2l, 1, 0, 0),
  (69, (.aload_n 0), 1, 0, 0),
  (70, (.getfield 13), 3, 9, 2),
  (73, (.sipush 256), 3, 0, 0),
  (76, (.iload_n 1), 1, 0, 0),
  (77, .imul, 1, 0, 0),
  (78, (.iload 5), 2, 0, 0),
  (80, .iadd, 1, 0, 0),
  (81, .iaload, 1, 0, 0),
  (82, .i2l, 1, 0, 0),
  (83, .lmul, 1, 0, 0),
  (84, .ladd, 1, 0, 0),
  (85, (.lstore_n 3), 1, 0, 0),
  (86, (.iinc 5 1), 3, 0, 0),
  (89, (.goto (-46)), 3, 43, 0),
  (92, (.lload_n 3), 1, 0, 0),
  (93, .l2d, 1, 0, 0),
  (94, (.aload_n 0), 1, 0, 0),
  (95, (.getfield 16), 3, 9, 3),
  (98, (.iload_n 1), 1, 0, 0),
  (99, .iaload, 1, 0, 0),
  (100, .i2d, 1, 0, 0),
  (101, .ddiv, 1, 0, 0),
  (102, (.invokestatic 360), 3, 221, 1),
  (105, (.lstore 5), 2, 0, 0),
  (107, (.iload_n 2), 1, 0, 0),
  (108, (.ifCond .ne 12), 3, 120, 0),
  (111, (.lload 5), 2, 0, 0),
  (113, (.bipush 32), 2, 0, 0),
  (115, .lshr, 1, 0, 0),
  (116, .l2i, 1, 0, 0),
  (117, (.goto 6), 3, 123, 0),
  (120, (.lload 5), 2, 0, 0),
  (122, .l2i, 1, 0, 0),
  (123, .ireturn, 1, 0, 0)]
theorem mm_ck219 : mm_c219.all (mm_ckE 9 prog_11_method_97_code) = true := by decide +kernel
def mm_c220 : List (Nat × mm_E) := [
  (0, (.aload_n 0), 1, 0, 0),
  (1, (.iconst 0), 1, 0, 0),
  (2, (.putfield 96), 3, 9, 16),
  (5, (.iload_n 1), 1, 0, 0),
  (6, (.tableswitch 126 0 10 #[58, 63, 68, 73, 78, 83, 83, 106, 111, 116, 121]), 58, 0, 0),
  (64, (.aload_n 0), 1, 0, 0),
  (65, (.getfield 99), 3, 9, 4),
  (68, .ireturn, 1, 0, 0),
  (69, (.aload_n 0), 1, 0, 0),
  (70, (.getfield 113), 3, 9, 5),
  (73, .ireturn, 1, 0, 0),
  (74, (.aload_n 0), 1, 0, 0),
  (75, (.getfield 19), 3, 9, 6),
  (78, .ireturn, 1, 0, 0),
  (79, (.aload_n 0), 1, 0, 0),
  (80, (.getfield 23), 3, 9, 7),
  (83, .ireturn, 1, 0, 0),
  (84, (.aload_n 0), 1, 0, 0),
  (85, (.getfield 26), 3, 9, 8),
  (88, .ireturn, 1, 0, 0),
  (89, (.aload_n 0), 1, 0, 0),
  (90, (.iload_n 1), 1, 0, 0),
  (91, (.iconst 5), 1, 0, 0),
  (92, .isub, 1, 0, 0),
  (93, (.invokevirtual 116), 3, 126, 2),
  (96, (.ifCond .eq 14), 3, 110, 0),
  (99, (.aload_n 0), 1, 0, 0),
  (100, (.getfield 16), 3, 9, 3),
  (103, (.iload_n 1), 1, 0, 0),
  (104, (.iconst 5), 1, 0, 0),
  (105, .isub, 1, 0, 0),
  (106, .iaload, 1, 0, 0),
  (107, (.goto 4), 3, 111, 0),
  (110, (.iconst (-1)), 1, 0, 0),
  (111, .ireturn, 1, 0, 0),
  (112, (.aload_n 0), 1, 0, 0),
  (113, (.invokevirtual 158), 3, 147, 1),
  (116, .ireturn, 1, 0, 0),
  (117, (.aload_n 0), 1, 0, 0),
  (118, (.getfield 277), 3, 9, 15),
  (121, .ireturn, 1, 0, 0),
  (122, (.aload_n 0), 1, 0, 0),
  (123, (.getfield 106), 3, 9, 1),
  (126, .ireturn, 1, 0, 0),
  (127, (.aload_n 0), 1, 0, 0),
  (128, (.getfield 29), 3, 9, 9),
  (131, .ireturn, 1, 0, 0),
  (132, (.iconst (-1)), 1, 0, 0),
  (133, .ireturn, 1, 0, 0)]
theorem mm_ck220 : mm_c220.all (mm_ckE 9 prog_11_method_98_code) = true := by decide +kernel
def mm_c221 : List (Nat × mm_E) := [
  (0, (.dload_n 0), 1, 0, 0),
  (1, (.invokestatic 122), 3, 222, 1),
  (4, (.ifCond .ne 8), 3, 12, 0),
  (7, (.dload_n 0), 1, 0, 0),
  (8, (.invokestatic 134), 3, 1003, 0),
  (11, .lreturn, 1, 0, 0),
  (12, (.ldc2_w 137), 3, 9221120237041090560, 0),
  (15, .lreturn, 1, 0, 0)]
theorem mm_ck221 : mm_c221.all (mm_ckE 12 prog_13_method_23_code) = true := by decide +kernel
def mm_c222 : List (Nat × mm_E) := [
  (0, (.dload_n 0), 1, 0, 0),
  (1, (.dload_n 0), 1, 0, 0),
  (2, (.dcmp .l), 1, 0, 0),
  (3, (.ifCond .eq 7), 3, 10, 0),
  (6, (.iconst 1), 1, 0, 0),
  (7, (.goto 4), 3, 11, 0),
  (10, (.iconst 0), 1, 0, 0),
  (11, .ireturn, 1, 0, 0)]
theorem mm_ck222 : mm_c222.all (mm_ckE 12 prog_13_method_6_code) = true := by decide +kernel
def mm_c223 : List (Nat × mm_E) := [
  (0, (.fload_n 0), 1, 0, 0),
  (1, (.invokestatic 59), 3, 224, 1),
  (4, (.ifCond .ne 8), 3, 12, 0),
  (7, (.fload_n 0), 1, 0, 0),
  (8, (.invokestatic 74), 3, 1002, 0),
  (11, .ireturn, 1, 0, 0),
  (12, (.ldc 77), 2, 2143289344, 0),
  (14, .ireturn, 1, 0, 0)]
theorem mm_ck223 : mm_c223.all (mm_ckE 11 prog_15_method_24_code) = true := by decide +kernel
def mm_c224 : List (Nat × mm_E) := [
  (0, (.fload_n 0), 1, 0, 0),
  (1, (.fload_n 0), 1, 0, 0),
  (2, (.fcmp .l), 1, 0, 0),
  (3, (.ifCond .eq 7), 3, 10, 0),
  (6, (.iconst 1), 1, 0, 0),
  (7, (.goto 4), 3, 11, 0),
  (10, (.iconst 0), 1, 0, 0),
  (11, .ireturn, 1, 0, 0)]
theorem mm_ck224 : mm_c224.all (mm_ckE 11 prog_15_method_6_code) = true := by decide +kernel
def mm_c225 : List (Nat × mm_E) := [
  (0, (.iload_n 0), 1, 0, 0),
  (1, (.iload_n 1), 1, 0, 0),
  (2, (.if_icmp .lt 7), 3, 9, 0),
  (5, (.iload_n 0), 1, 0, 0),
  (6, (.goto 4), 3, 10, 0),
  (9, (.iload_n 1), 1, 0, 0),
  (10, .ireturn, 1, 0, 0)]
theorem mm_ck225 : mm_c225.all (mm_ckE 10 prog_17_method_65_code) = true := by decide +kernel
def mm_c226 : List (Nat × mm_E) := [
  (0, (.iload_n 0), 1, 0, 0),
  (1, (.iload_n 1), 1, 0, 0),
  (2, (.if_icmp .gt 7), 3, 9, 0),
  (5, (.iload_n 0), 1, 0, 0),
  (6, (.goto 4), 3, 10, 0),
  (9, (.iload_n 1), 1, 0, 0),
  (10, .ireturn, 1, 0, 0)]
theorem mm_ck226 : mm_c226.all (mm_ckE 10 prog_17_method_69_code) = true := by decide +kernel
def mm_cz0 : List (List (Nat × mm_E)) := [mm_c0, mm_c1, mm_c2, mm_c3, mm_c4, mm_c5, mm_c6, mm_c7, mm_c8, mm_c9, mm_c10, mm_c11, mm_c12, mm_c13, mm_c14, mm_c15, mm_c16, mm_c17, mm_c18, mm_c19, mm_c20, mm_c21, mm_c22, mm_c23, mm_c24, mm_c25, mm_c26, mm_c27, mm_c28, mm_c29, mm_c30, mm_c31]
def mm_cz1 : List (List (Nat × mm_E)) := [mm_c32, mm_c33, mm_c34, mm_c35, mm_c36, mm_c37, mm_c38, mm_c39, mm_c40, mm_c41, mm_c42, mm_c43, mm_c44, mm_c45, mm_c46, mm_c47, mm_c48, mm_c49, mm_c50, mm_c51, mm_c52, mm_c53, mm_c54, mm_c55, mm_c56, mm_c57, mm_c58, mm_c59, mm_c60, mm_c61, mm_c62, mm_c63]
def mm_cz2 : List (List (Nat × mm_E)) := [mm_c64, mm_c65, mm_c66, mm_c67, mm_c68, mm_c69, mm_c70, mm_c71, mm_c72, mm_c73, mm_c74, mm_c75, mm_c76, mm_c77, mm_c78, mm_c79, mm_c80, mm_c81, mm_c82, mm_c83, mm_c84, mm_c85, mm_c86, mm_c87, mm_c88, mm_c89, mm_c90, mm_c91, mm_c92, mm_c93, mm_c94, mm_c95]
def mm_cz3 : List (List (Nat × mm_E)) := [mm_c96, mm_c97, mm_c98, mm_c99, mm_c100, mm_c101, mm_c102, mm_c103, mm_c104, mm_c105, mm_c106, mm_c107, mm_c108, mm_c109, mm_c110, mm_c111, mm_c112, mm_c113, mm_c114, mm_c115, mm_c116, mm_c117, mm_c118, mm_c119, mm_c120, mm_c121, mm_c122, mm_c123, mm_c124, mm_c125, mm_c126, mm_c127]
def mm_cz4 : List (List (Nat × mm_E)) := [mm_c128, mm_c129, mm_c130, mm_c131, mm_c132, mm_c133, mm_c134, mm_c135, mm_c136, mm_c137, mm_c138, mm_c139, mm_c140, mm_c141, mm_c142, mm_c143, mm_c144, mm_c145, mm_c146, mm_c147, mm_c148, mm_c149, mm_c150, mm_c151, mm_c152, mm_c153, mm_c154, mm_c155, mm_c156, mm_c157, mm_c158, mm_c159]
def mm_cz5 : List (List (Nat × mm_E)) := [mm_c160, mm_c161, mm_c162, mm_c163, mm_c164, mm_c165, mm_c166, mm_c167, mm_c168, mm_c169, mm_c170, mm_c171, mm_c172, mm_c173, mm_c174, mm_c175, mm_c176, mm_c177, mm_c178, mm_c179, mm_c180, mm_c181, mm_c182, mm_c183, mm_c184, mm_c185, mm_c186, mm_c187, mm_c188, mm_c189, mm_c190, mm_c191]
def mm_cz6 : List (List (Nat × mm_E)) := [mm_c192, mm_c193, mm_c194, mm_c195, mm_c196, mm_c197, mm_c198, mm_c199, mm_c200, mm_c201, mm_c202, mm_c203, mm_c204, mm_c205, mm_c206, mm_c207, mm_c208, mm_c209, mm_c210, mm_c211, mm_c212, mm_c213, mm_c214, mm_c215, mm_c216, mm_c217, mm_c218, mm_c219, mm_c220, mm_c221, mm_c222, mm_c223]
def mm_cz7 : List (List (Nat × mm_E)) := [mm_c224, mm_c225, mm_c226]
def mm_czs : List (List (List (Nat × mm_E))) := [mm_cz0, mm_cz1, mm_cz2, mm_cz3, mm_cz4, mm_cz5, mm_cz6, mm_cz7]
def mm_ok2 : List (List (Nat × mm_E)) → List mm_MT → Prop
  | c :: cs, t :: ts => c.all (mm_ckE t.2.2.2.2.2.1 t.2.1) = true ∧ mm_ok2 cs ts
  | [], _ => True
  | _ :: _, [] => False
theorem mm_ok2_0 : mm_ok2 mm_cz0 mm_mt0 := ⟨mm_ck0, mm_ck1, mm_ck2, mm_ck3, mm_ck4, mm_ck5, mm_ck6, mm_ck7, mm_ck8, mm_ck9, mm_ck10, mm_ck11, mm_ck12, mm_ck13, mm_ck14, mm_ck15, mm_ck16, mm_ck17, mm_ck18, mm_ck19, mm_ck20, mm_ck21, mm_ck22, mm_ck23, mm_ck24, mm_ck25, mm_ck26, mm_ck27, mm_ck28, mm_ck29, mm_ck30, mm_ck31, trivial⟩
theorem mm_ok2_1 : mm_ok2 mm_cz1 mm_mt1 := ⟨mm_ck32, mm_ck33, mm_ck34, mm_ck35, mm_ck36, mm_ck37, mm_ck38, mm_ck39, mm_ck40, mm_ck41, mm_ck42, mm_ck43, mm_ck44, mm_ck45, mm_ck46, mm_ck47, mm_ck48, mm_ck49, mm_ck50, mm_ck51, mm_ck52, mm_ck53, mm_ck54, mm_ck55, mm_ck56, mm_ck57, mm_ck58, mm_ck59, mm_ck60, mm_ck61, mm_ck62, mm_ck63, trivial⟩
theorem mm_ok2_2 : mm_ok2 mm_cz2 mm_mt2 := ⟨mm_ck64, mm_ck65, mm_ck66, mm_ck67, mm_ck68, mm_ck69, mm_ck70, mm_ck71, mm_ck72, mm_ck73, mm_ck74, mm_ck75, mm_ck76, mm_ck77, mm_ck78, mm_ck79, mm_ck80, mm_ck81, mm_ck82, mm_ck83, mm_ck84, mm_ck85, mm_ck86, mm_ck87, mm_ck88, mm_ck89, mm_ck90, mm_ck91, mm_ck92, mm_ck93, mm_ck94, mm_ck95, trivial⟩
theorem mm_ok2_3 : mm_ok2 mm_cz3 mm_mt3 := ⟨mm_ck96, mm_ck97, mm_ck98, mm_ck99, mm_ck100, mm_ck101, mm_ck102, mm_ck103, mm_ck104, mm_ck105, mm_ck106, mm_ck107, mm_ck108, mm_ck109, mm_ck110, mm_ck111, mm_ck112, mm_ck113, mm_ck114, mm_ck115, mm_ck116, mm_ck117, mm_ck118, mm_ck119, mm_ck120, mm_ck121, mm_ck122, mm_ck123, mm_ck124, mm_ck125, mm_ck126, mm_ck127, trivial⟩
theorem mm_ok2_4 : mm_ok2 mm_cz4 mm_mt4 := ⟨mm_ck128, mm_ck129, mm_ck130, mm_ck131, mm_ck132, mm_ck133, mm_ck134, mm_ck135, mm_ck136, mm_ck137, mm_ck138, mm_ck139, mm_ck140, mm_ck141, mm_ck142, mm_ck143, mm_ck144, mm_ck145, mm_ck146, mm_ck147, mm_ck148, mm_ck149, mm_ck150, mm_ck151, mm_ck152, mm_ck153, mm_ck154, mm_ck155, mm_ck156, mm_ck157, mm_ck158, mm_ck159, trivial⟩
theorem mm_ok2_5 : mm_ok2 mm_cz5 mm_mt5 := ⟨mm_ck160, mm_ck161, mm_ck162, mm_ck163, mm_ck164, mm_ck165, mm_ck166, mm_ck167, mm_ck168, mm_ck169, mm_ck170, mm_ck171, mm_ck172, mm_ck173, mm_ck174, mm_ck175, mm_ck176, mm_ck177, mm_ck178, mm_ck179, mm_ck180, mm_ck181, mm_ck182, mm_ck183, mm_ck184, mm_ck185, mm_ck186, mm_ck187, mm_ck188, mm_ck189, mm_ck190, mm_ck191, trivial⟩
theorem mm_ok2_6 : mm_ok2 mm_cz6 mm_mt6 := ⟨mm_ck192, mm_ck193, mm_ck194, mm_ck195, mm_ck196, mm_ck197, mm_ck198, mm_ck199, mm_ck200, mm_ck201, mm_ck202, mm_ck203, mm_ck204, mm_ck205, mm_ck206, mm_ck207, mm_ck208, mm_ck209, mm_ck210, mm_ck211, mm_ck212, mm_ck213, mm_ck214, mm_ck215, mm_ck216, mm_ck217, mm_ck218, mm_ck219, mm_ck220, mm_ck221, mm_ck222, mm_ck223, trivial⟩
theorem mm_ok2_7 : mm_ok2 mm_cz7 mm_mt7 := ⟨mm_ck224, mm_ck225, mm_ck226, trivial⟩
