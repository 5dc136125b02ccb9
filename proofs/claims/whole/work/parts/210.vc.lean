theorem e_M_runByMean {P : Int32 → mm_I → Prop} {I : mm_I}
  (H : mm_Mv 155 [.ref 58] I (fun I1 =>  -- M.laysGroups
    mm_Mi 162 [.ref 58] I1 (fun r8 I8 =>  -- M.sizes
    (r8 ≤ 0 →
      mm_Mi 156 [.ref 58, .int 0, .int (I8 58 22), .int 15] (mm_up (mm_up (mm_up I8 58 29 1) 72 0 (I8 58 22)) 73 0 15) (fun r79 I79 =>  -- M.bitsBy
      P r79 (mm_up I79 74 0 r79))) ∧
    (0 < r8 →
      mm_Mf 163 [.ref 58] I8 (fun r15 I15 =>  -- M.meanNow
      mm_W 164 23 [some (.ref 58), some (.int 0), some (.float r15), some (.float FP.fconst1)] [] I15 (mm_qi 164 P)))))) : mm_Mi 164 [.ref 58] I P := by
  refine mm_Mi_of ?_
  show mm_W 164 0 [some (.ref 58), none, none, none] [] I (mm_qi 164 P)
  refine w_aload_nR (x := 58) (n := 1) rfl rfl rfl ?_
  refine w_callv (as := [.ref 58]) (rest := []) (n := 4) rfl rfl rfl rfl ?_
  obtain ⟨I1, hI1, H⟩ := H
  refine ⟨I1, hI1, ?_⟩
  refine w_bipush (v := 15) (n := 6) rfl rfl rfl ?_
  refine w_istore_n (ls' := [some (.ref 58), some (.int 15), none, none]) (n := 7) rfl rfl rfl rfl ?_
  refine w_aload_nR (x := 58) (n := 8) rfl rfl rfl ?_
  refine w_calli (as := [.ref 58]) (rest := []) (n := 11) rfl rfl rfl rfl ?_
  obtain ⟨r8, I8, hI8, H⟩ := H
  refine ⟨r8, I8, hI8, ?_⟩
  refine w_if_le (n := 14) rfl rfl ⟨fun hc => ?_, fun hc => ?_⟩
  · replace H := H.1 hc
    refine w_aload_nR (x := 58) (n := 46) rfl rfl rfl ?_
    refine w_iconst (v := 1) (n := 47) rfl rfl rfl ?_
    refine w_putI (n := 50) rfl rfl rfl rfl rfl ?_
    refine w_aload_nR (x := 58) (n := 51) rfl rfl rfl ?_
    refine w_getR (b := 72) (n := 54) rfl rfl rfl rfl rfl ?_
    refine w_iconst (v := 0) (n := 55) rfl rfl rfl ?_
    refine w_aload_nR (x := 58) (n := 56) rfl rfl rfl ?_
    refine w_getI (n := 59) rfl rfl rfl rfl ?_
    refine w_iastore (N := 8) (j := 0) (n := 60) rfl rfl rfl (by decide) rfl ⟨mm_vpc (by decide), ?_⟩
    refine w_aload_nR (x := 58) (n := 61) rfl rfl rfl ?_
    refine w_getR (b := 73) (n := 64) rfl rfl rfl rfl rfl ?_
    refine w_iconst (v := 0) (n := 65) rfl rfl rfl ?_
    refine w_iload_n (n := 66) rfl rfl rfl ?_
    refine w_iastore (N := 8) (j := 0) (n := 67) rfl rfl rfl (by decide) rfl ⟨mm_vpc (by decide), ?_⟩
    refine w_aload_nR (x := 58) (n := 68) rfl rfl rfl ?_
    refine w_getR (b := 74) (n := 71) rfl rfl rfl rfl rfl ?_
    refine w_iconst (v := 0) (n := 72) rfl rfl rfl ?_
    refine w_aload_nR (x := 58) (n := 73) rfl rfl rfl ?_
    refine w_iconst (v := 0) (n := 74) rfl rfl rfl ?_
    refine w_aload_nR (x := 58) (n := 75) rfl rfl rfl ?_
    refine w_getI (n := 78) rfl rfl rfl rfl ?_
    refine w_iload_n (n := 79) rfl rfl rfl ?_
    refine w_calli (as := [.ref 58, .int 0, .int (I8 58 22), .int 15]) (rest := [.int 0, .ref 74]) (n := 82) rfl rfl rfl rfl ?_
    obtain ⟨r79, I79, hI79, H⟩ := H
    refine ⟨r79, I79, hI79, ?_⟩
    refine w_iastore (N := 8) (j := 0) (n := 83) rfl rfl rfl (by decide) rfl ⟨mm_vpc (by decide), ?_⟩
    refine w_aload_nR (x := 58) (n := 84) rfl rfl rfl ?_
    refine w_getR (b := 74) (n := 87) rfl rfl rfl rfl rfl ?_
    refine w_iconst (v := 0) (n := 88) rfl rfl rfl ?_
    refine w_iaload (N := 8) (j := 0) (n := 89) rfl rfl rfl rfl (by decide) rfl ⟨mm_vpc (by decide), ?_⟩
    exact w_ireturn rfl rfl H
  · replace H := H.2 hc
    refine w_aload_nR (x := 58) (n := 15) rfl rfl rfl ?_
    refine w_callf (as := [.ref 58]) (rest := []) (n := 18) rfl rfl rfl rfl ?_
    obtain ⟨r15, I15, hI15, H⟩ := H
    refine ⟨r15, I15, hI15, ?_⟩
    refine w_fstore_n (ls' := [some (.ref 58), some (.int 15), some (.float r15), none]) (n := 19) rfl rfl rfl rfl ?_
    refine w_iconst (v := 0) (n := 20) rfl rfl rfl ?_
    refine w_istore_n (ls' := [some (.ref 58), some (.int 0), some (.float r15), none]) (n := 21) rfl rfl rfl rfl ?_
    refine w_fconst1 (n := 22) rfl rfl ?_
    refine w_fstore_n (ls' := [some (.ref 58), some (.int 0), some (.float r15), some (.float FP.fconst1)]) (n := 23) rfl rfl rfl rfl ?_
    exact w_drp mm_Qf_i H (lb_s (lb_s (lb_s (lb_s lb_e))))
theorem c_M_runByMean_23 {P : Int32 → mm_I → Prop} {I : mm_I} (x1 : Int32) (x2 : UInt32) (x3 : UInt32)
  (H : (13 ≤ x1 →
      mm_Mi 156 [.ref 58, .int 0, .int (I 58 22), .int x1] (mm_up (mm_up (mm_up I 58 29 1) 72 0 (I 58 22)) 73 0 x1) (fun r79 I79 =>  -- M.bitsBy
      P r79 (mm_up I79 74 0 r79))) ∧
    (x1 < 13 →
      ((Op.cmpValue (FP.fcmp x2 x3) .l) < 0 →
        mm_Mi 156 [.ref 58, .int 0, .int (I 58 22), .int x1] (mm_up (mm_up (mm_up I 58 29 1) 72 0 (I 58 22)) 73 0 x1) (fun r79 I79 =>  -- M.bitsBy
        P r79 (mm_up I79 74 0 r79))) ∧
      (0 ≤ (Op.cmpValue (FP.fcmp x2 x3) .l) →
        vf_n32 (FP.fmul x3 FP.fconst2) ∧
        mm_W 164 23 [some (.ref 58), some (.int (x1 + 1)), some (.float x2), some (.float (FP.fmul x3 FP.fconst2))] [] I (mm_qi 164 P)))) : mm_W 164 23 [some (.ref 58), some (.int x1), some (.float x2), some (.float x3)] [] I (mm_qi 164 P) := by
  refine w_iload_n (n := 24) rfl rfl rfl ?_
  refine w_bipush (v := 13) (n := 26) rfl rfl rfl ?_
  refine w_icmp_ge (n := 29) rfl rfl ⟨fun hc => ?_, fun hc => ?_⟩
  · replace H := H.1 hc
    refine w_aload_nR (x := 58) (n := 46) rfl rfl rfl ?_
    refine w_iconst (v := 1) (n := 47) rfl rfl rfl ?_
    refine w_putI (n := 50) rfl rfl rfl rfl rfl ?_
    refine w_aload_nR (x := 58) (n := 51) rfl rfl rfl ?_
    refine w_getR (b := 72) (n := 54) rfl rfl rfl rfl rfl ?_
    refine w_iconst (v := 0) (n := 55) rfl rfl rfl ?_
    refine w_aload_nR (x := 58) (n := 56) rfl rfl rfl ?_
    refine w_getI (n := 59) rfl rfl rfl rfl ?_
    refine w_iastore (N := 8) (j := 0) (n := 60) rfl rfl rfl (by decide) rfl ⟨mm_vpc (by decide), ?_⟩
    refine w_aload_nR (x := 58) (n := 61) rfl rfl rfl ?_
    refine w_getR (b := 73) (n := 64) rfl rfl rfl rfl rfl ?_
    refine w_iconst (v := 0) (n := 65) rfl rfl rfl ?_
    refine w_iload_n (n := 66) rfl rfl rfl ?_
    refine w_iastore (N := 8) (j := 0) (n := 67) rfl rfl rfl (by decide) rfl ⟨mm_vpc (by decide), ?_⟩
    refine w_aload_nR (x := 58) (n := 68) rfl rfl rfl ?_
    refine w_getR (b := 74) (n := 71) rfl rfl rfl rfl rfl ?_
    refine w_iconst (v := 0) (n := 72) rfl rfl rfl ?_
    refine w_aload_nR (x := 58) (n := 73) rfl rfl rfl ?_
    refine w_iconst (v := 0) (n := 74) rfl rfl rfl ?_
    refine w_aload_nR (x := 58) (n := 75) rfl rfl rfl ?_
    refine w_getI (n := 78) rfl rfl rfl rfl ?_
    refine w_iload_n (n := 79) rfl rfl rfl ?_
    refine w_calli (as := [.ref 58, .int 0, .int (I 58 22), .int x1]) (rest := [.int 0, .ref 74]) (n := 82) rfl rfl rfl rfl ?_
    obtain ⟨r79, I79, hI79, H⟩ := H
    refine ⟨r79, I79, hI79, ?_⟩
    refine w_iastore (N := 8) (j := 0) (n := 83) rfl rfl rfl (by decide) rfl ⟨mm_vpc (by decide), ?_⟩
    refine w_aload_nR (x := 58) (n := 84) rfl rfl rfl ?_
    refine w_getR (b := 74) (n := 87) rfl rfl rfl rfl rfl ?_
    refine w_iconst (v := 0) (n := 88) rfl rfl rfl ?_
    refine w_iaload (N := 8) (j := 0) (n := 89) rfl rfl rfl rfl (by decide) rfl ⟨mm_vpc (by decide), ?_⟩
    exact w_ireturn rfl rfl H
  · replace H := H.2 hc
    refine w_fload_n (n := 30) rfl rfl rfl ?_
    refine w_fload_n (n := 31) rfl rfl rfl ?_
    refine w_fcmp (n := 32) rfl rfl ?_
    refine w_if_lt (n := 35) rfl rfl ⟨fun hc => ?_, fun hc => ?_⟩
    · replace H := H.1 hc
      refine w_aload_nR (x := 58) (n := 46) rfl rfl rfl ?_
      refine w_iconst (v := 1) (n := 47) rfl rfl rfl ?_
      refine w_putI (n := 50) rfl rfl rfl rfl rfl ?_
      refine w_aload_nR (x := 58) (n := 51) rfl rfl rfl ?_
      refine w_getR (b := 72) (n := 54) rfl rfl rfl rfl rfl ?_
      refine w_iconst (v := 0) (n := 55) rfl rfl rfl ?_
      refine w_aload_nR (x := 58) (n := 56) rfl rfl rfl ?_
      refine w_getI (n := 59) rfl rfl rfl rfl ?_
      refine w_iastore (N := 8) (j := 0) (n := 60) rfl rfl rfl (by decide) rfl ⟨mm_vpc (by decide), ?_⟩
      refine w_aload_nR (x := 58) (n := 61) rfl rfl rfl ?_
      refine w_getR (b := 73) (n := 64) rfl rfl rfl rfl rfl ?_
      refine w_iconst (v := 0) (n := 65) rfl rfl rfl ?_
      refine w_iload_n (n := 66) rfl rfl rfl ?_
      refine w_iastore (N := 8) (j := 0) (n := 67) rfl rfl rfl (by decide) rfl ⟨mm_vpc (by decide), ?_⟩
      refine w_aload_nR (x := 58) (n := 68) rfl rfl rfl ?_
      refine w_getR (b := 74) (n := 71) rfl rfl rfl rfl rfl ?_
      refine w_iconst (v := 0) (n := 72) rfl rfl rfl ?_
      refine w_aload_nR (x := 58) (n := 73) rfl rfl rfl ?_
      refine w_iconst (v := 0) (n := 74) rfl rfl rfl ?_
      refine w_aload_nR (x := 58) (n := 75) rfl rfl rfl ?_
      refine w_getI (n := 78) rfl rfl rfl rfl ?_
      refine w_iload_n (n := 79) rfl rfl rfl ?_
      refine w_calli (as := [.ref 58, .int 0, .int (I 58 22), .int x1]) (rest := [.int 0, .ref 74]) (n := 82) rfl rfl rfl rfl ?_
      obtain ⟨r79, I79, hI79, H⟩ := H
      refine ⟨r79, I79, hI79, ?_⟩
      refine w_iastore (N := 8) (j := 0) (n := 83) rfl rfl rfl (by decide) rfl ⟨mm_vpc (by decide), ?_⟩
      refine w_aload_nR (x := 58) (n := 84) rfl rfl rfl ?_
      refine w_getR (b := 74) (n := 87) rfl rfl rfl rfl rfl ?_
      refine w_iconst (v := 0) (n := 88) rfl rfl rfl ?_
      refine w_iaload (N := 8) (j := 0) (n := 89) rfl rfl rfl rfl (by decide) rfl ⟨mm_vpc (by decide), ?_⟩
      exact w_ireturn rfl rfl H
    · replace H := H.2 hc
      refine w_iinc (y := x1 + 1) (ls' := [some (.ref 58), some (.int (x1 + 1)), some (.float x2), some (.float x3)]) (n := 38) rfl rfl rfl rfl rfl ?_
      refine w_fload_n (n := 39) rfl rfl rfl ?_
      refine w_fconst2 (n := 40) rfl rfl ?_
      refine w_fmul (n := 41) rfl rfl ⟨H.1, ?_⟩
      replace H := H.2
      refine w_fstore_n (ls' := [some (.ref 58), some (.int (x1 + 1)), some (.float x2), some (.float (FP.fmul x3 FP.fconst2))]) (n := 42) rfl rfl rfl rfl ?_
      refine w_goto rfl ?_
      exact w_drp mm_Qf_i H (lb_s (lb_s (lb_s (lb_s lb_e))))
theorem e_M_costs {P : Int32 → mm_I → Prop} {I : mm_I} (x1 : Int32)
  (H : mm_Mv 151 [.ref 58, .int x1] I (fun I2 =>  -- M.laysErrors
    mm_Mi 144 [.int x1, .ref 62] I2 (fun r15 I15 =>  -- M.orderOf
    (¬ (I15 58 7) = 1 →
      mm_Mi 164 [.ref 58] I15 (fun r36 I36 =>  -- M.runByMean
      P ((4 + ((I2 58 19) * r15)) + r36) I36)) ∧
    ((I15 58 7) = 1 →
      mm_Mi 161 [.ref 58] I15 (fun r29 I29 =>  -- M.runsWhole
      P ((4 + ((I2 58 19) * r15)) + r29) I29))))) : mm_Mi 165 [.ref 58, .int x1] I P := by
  refine mm_Mi_of ?_
  show mm_W 165 0 [some (.ref 58), some (.int x1)] [] I (mm_qi 165 P)
  refine w_aload_nR (x := 58) (n := 1) rfl rfl rfl ?_
  refine w_iload_n (n := 2) rfl rfl rfl ?_
  refine w_callv (as := [.ref 58, .int x1]) (rest := []) (n := 5) rfl rfl rfl rfl ?_
  obtain ⟨I2, hI2, H⟩ := H
  refine ⟨I2, hI2, ?_⟩
  refine w_iconst (v := 4) (n := 6) rfl rfl rfl ?_
  refine w_aload_nR (x := 58) (n := 7) rfl rfl rfl ?_
  refine w_getI (n := 10) rfl rfl rfl rfl ?_
  refine w_iload_n (n := 11) rfl rfl rfl ?_
  refine w_aload_nR (x := 58) (n := 12) rfl rfl rfl ?_
  refine w_getR (b := 62) (n := 15) rfl rfl rfl rfl rfl ?_
  refine w_calli (as := [.int x1, .ref 62]) (rest := [.int (I2 58 19), .int 4]) (n := 18) rfl rfl rfl rfl ?_
  obtain ⟨r15, I15, hI15, H⟩ := H
  refine ⟨r15, I15, hI15, ?_⟩
  refine w_imul (n := 19) rfl rfl ?_
  refine w_iadd (n := 20) rfl rfl ?_
  refine w_aload_nR (x := 58) (n := 21) rfl rfl rfl ?_
  refine w_getI (n := 24) rfl rfl rfl rfl ?_
  refine w_iconst (v := 1) (n := 25) rfl rfl rfl ?_
  refine w_icmp_ne (n := 28) rfl rfl ⟨fun hc => ?_, fun hc => ?_⟩
  · replace H := H.1 hc
    refine w_aload_nR (x := 58) (n := 36) rfl rfl rfl ?_
    refine w_calli (as := [.ref 58]) (rest := [.int (4 + ((I2 58 19) * r15))]) (n := 39) rfl rfl rfl rfl ?_
    obtain ⟨r36, I36, hI36, H⟩ := H
    refine ⟨r36, I36, hI36, ?_⟩
    refine w_iadd (n := 40) rfl rfl ?_
    exact w_ireturn rfl rfl H
  · replace H := H.2 hc
    refine w_aload_nR (x := 58) (n := 29) rfl rfl rfl ?_
    refine w_calli (as := [.ref 58]) (rest := [.int (4 + ((I2 58 19) * r15))]) (n := 32) rfl rfl rfl rfl ?_
    obtain ⟨r29, I29, hI29, H⟩ := H
    refine ⟨r29, I29, hI29, ?_⟩
    refine w_goto rfl ?_
    refine w_iadd (n := 40) rfl rfl ?_
    exact w_ireturn rfl rfl H
theorem e_M_isStill {P : Int32 → mm_I → Prop} {I : mm_I}
  (H : mm_W 166 2 [some (.ref 58), some (.int 1)] [] I (mm_qi 166 P)) : mm_Mi 166 [.ref 58] I P := by
  refine mm_Mi_of ?_
  show mm_W 166 0 [some (.ref 58), none] [] I (mm_qi 166 P)
  refine w_iconst (v := 1) (n := 1) rfl rfl rfl ?_
  refine w_istore_n (ls' := [some (.ref 58), some (.int 1)]) (n := 2) rfl rfl rfl rfl ?_
  exact w_drp mm_Qf_i H (lb_s (lb_s lb_e))
theorem c_M_isStill_2 {P : Int32 → mm_I → Prop} {I : mm_I} (x1 : Int32)
  (H : ((I 58 18) ≤ x1 →
      P 1 I) ∧
    (x1 < (I 58 18) →
      vp_in x1 64 ∧
      ((I 67 x1.toNatClampNeg) = (I 67 0) →
        mm_W 166 2 [some (.ref 58), some (.int (x1 + 1))] [] I (mm_qi 166 P)) ∧
      (¬ (I 67 x1.toNatClampNeg) = (I 67 0) →
        P 0 I))) : mm_W 166 2 [some (.ref 58), some (.int x1)] [] I (mm_qi 166 P) := by
  refine w_iload_n (n := 3) rfl rfl rfl ?_
  refine w_aload_nR (x := 58) (n := 4) rfl rfl rfl ?_
  refine w_getI (n := 7) rfl rfl rfl rfl ?_
  refine w_icmp_ge (n := 10) rfl rfl ⟨fun hc => ?_, fun hc => ?_⟩
  · replace H := H.1 hc
    refine w_iconst (v := 1) (n := 34) rfl rfl rfl ?_
    exact w_zreturn rfl rfl ⟨by decide, H⟩
  · replace H := H.2 hc
    refine w_aload_nR (x := 58) (n := 11) rfl rfl rfl ?_
    refine w_getR (b := 67) (n := 14) rfl rfl rfl rfl rfl ?_
    refine w_iload_n (n := 15) rfl rfl rfl ?_
    refine w_iaload (N := 64) (j := x1.toNatClampNeg) (n := 16) rfl rfl rfl rfl rfl rfl ⟨H.1, ?_⟩
    replace H := H.2
    refine w_aload_nR (x := 58) (n := 17) rfl rfl rfl ?_
    refine w_getR (b := 67) (n := 20) rfl rfl rfl rfl rfl ?_
    refine w_iconst (v := 0) (n := 21) rfl rfl rfl ?_
    refine w_iaload (N := 64) (j := 0) (n := 22) rfl rfl rfl rfl (by decide) rfl ⟨mm_vpc (by decide), ?_⟩
    refine w_icmp_eq (n := 25) rfl rfl ⟨fun hc => ?_, fun hc => ?_⟩
    · replace H := H.1 hc
      refine w_iinc (y := x1 + 1) (ls' := [some (.ref 58), some (.int (x1 + 1))]) (n := 30) rfl rfl rfl rfl rfl ?_
      refine w_goto rfl ?_
      exact w_drp mm_Qf_i H (lb_s (lb_s lb_e))
    · replace H := H.2 hc
      refine w_iconst (v := 0) (n := 26) rfl rfl rfl ?_
      exact w_zreturn rfl rfl ⟨by decide, H⟩
theorem e_M_predictorFor {P : Int32 → mm_I → Prop} {I : mm_I} (x1 : Int32)
  (H : mm_W 167 7 [some (.ref 58), some (.int x1), some (.int (-1)), some (.int 0), some (.int 0), none] [] I (mm_qi 167 P)) : mm_Mi 167 [.ref 58, .int x1] I P := by
  refine mm_Mi_of ?_
  show mm_W 167 0 [some (.ref 58), some (.int x1), none, none, none, none] [] I (mm_qi 167 P)
  refine w_iconst (v := (-1)) (n := 1) rfl rfl rfl ?_
  refine w_istore_n (ls' := [some (.ref 58), some (.int x1), some (.int (-1)), none, none, none]) (n := 2) rfl rfl rfl rfl ?_
  refine w_iconst (v := 0) (n := 3) rfl rfl rfl ?_
  refine w_istore_n (ls' := [some (.ref 58), some (.int x1), some (.int (-1)), some (.int 0), none, none]) (n := 4) rfl rfl rfl rfl ?_
  refine w_iconst (v := 0) (n := 5) rfl rfl rfl ?_
  refine w_istore (ls' := [some (.ref 58), some (.int x1), some (.int (-1)), some (.int 0), some (.int 0), none]) (n := 7) rfl rfl rfl rfl ?_
  exact w_drp mm_Qf_i H (lb_s (lb_s (lb_s (lb_s (lb_s (lb_n lb_e))))))
theorem c_M_predictorFor_7 {P : Int32 → mm_I → Prop} {I : mm_I} (x1 : Int32) (x2 : Int32) (x3 : Int32) (x4 : Int32)
  (H : (8 ≤ x4 →
      P x2 I) ∧
    (x4 < 8 →
      (((x1 >>> (x4 &&& 31)) &&& 1) = 0 →
        mm_W 167 7 [some (.ref 58), some (.int x1), some (.int x2), some (.int x3), some (.int (x4 + 1)), none] [] I (mm_qi 167 P)) ∧
      (¬ ((x1 >>> (x4 &&& 31)) &&& 1) = 0 →
        mm_Mi 144 [.int x4, .ref 62] I (fun r29 I29 =>  -- M.orderOf
        (r29 < (I29 58 18) →
          (¬ (I29 58 7) = 1 →
            mm_Mv 151 [.ref 58, .int x4] I29 (fun I64 =>  -- M.laysErrors
            mm_Mi 162 [.ref 58] I64 (fun r68 I68 =>  -- M.sizes
            mm_W 167 7 [some (.ref 58), some (.int x1), some (.int (if x2 < 0 then (x4 : Int32) else (if r68 < x3 then (x4 : Int32) else x2))), some (.int (if x2 < 0 then (r68 : Int32) else (if r68 < x3 then (r68 : Int32) else x3))), some (.int (x4 + 1)), none] [] I68 (mm_qi 167 P)))) ∧
          ((I29 58 7) = 1 →
            mm_Mi 165 [.ref 58, .int x4] I29 (fun r53 I53 =>  -- M.costs
            mm_W 167 7 [some (.ref 58), some (.int x1), some (.int (if x2 < 0 then (x4 : Int32) else (if r53 < x3 then (x4 : Int32) else x2))), some (.int (if x2 < 0 then (r53 : Int32) else (if r53 < x3 then (r53 : Int32) else x3))), some (.int (x4 + 1)), none] [] I53 (mm_qi 167 P)))) ∧
        ((I29 58 18) ≤ r29 →
          mm_W 167 7 [some (.ref 58), some (.int x1), some (.int x2), some (.int x3), some (.int (x4 + 1)), none] [] I29 (mm_qi 167 P)))))) : mm_W 167 7 [some (.ref 58), some (.int x1), some (.int x2), some (.int x3), some (.int x4), none] [] I (mm_qi 167 P) := by
  refine w_iload (n := 9) rfl rfl rfl ?_
  refine w_bipush (v := 8) (n := 11) rfl rfl rfl ?_
  refine w_icmp_ge (n := 14) rfl rfl ⟨fun hc => ?_, fun hc => ?_⟩
  · replace H := H.1 hc
    refine w_iload_n (n := 99) rfl rfl rfl ?_
    exact w_ireturn rfl rfl H
  · replace H := H.2 hc
    refine w_iload_n (n := 15) rfl rfl rfl ?_
    refine w_iload (n := 17) rfl rfl rfl ?_
    refine w_ishr (n := 18) rfl rfl ?_
    refine w_iconst (v := 1) (n := 19) rfl rfl rfl ?_
    refine w_iand (n := 20) rfl rfl ?_
    refine w_if_eq (n := 23) rfl rfl ⟨fun hc => ?_, fun hc => ?_⟩
    · replace H := H.1 hc
      refine w_iinc (y := x4 + 1) (ls' := [some (.ref 58), some (.int x1), some (.int x2), some (.int x3), some (.int (x4 + 1)), none]) (n := 95) rfl rfl rfl rfl rfl ?_
      refine w_goto rfl ?_
      exact w_drp mm_Qf_i H (lb_s (lb_s (lb_s (lb_s (lb_s (lb_n lb_e))))))
    · replace H := H.2 hc
      refine w_iload (n := 25) rfl rfl rfl ?_
      refine w_aload_nR (x := 58) (n := 26) rfl rfl rfl ?_
      refine w_getR (b := 62) (n := 29) rfl rfl rfl rfl rfl ?_
      refine w_calli (as := [.int x4, .ref 62]) (rest := []) (n := 32) rfl rfl rfl rfl ?_
      obtain ⟨r29, I29, hI29, H⟩ := H
      refine ⟨r29, I29, hI29, ?_⟩
      refine w_aload_nR (x := 58) (n := 33) rfl rfl rfl ?_
      refine w_getI (n := 36) rfl rfl rfl rfl ?_
      refine w_icmp_lt (n := 39) rfl rfl ⟨fun hc => ?_, fun hc => ?_⟩
      · replace H := H.1 hc
        refine w_aload_nR (x := 58) (n := 43) rfl rfl rfl ?_
        refine w_getI (n := 46) rfl rfl rfl rfl ?_
        refine w_iconst (v := 1) (n := 47) rfl rfl rfl ?_
        refine w_icmp_ne (n := 50) rfl rfl ⟨fun hc => ?_, fun hc => ?_⟩
        · replace H := H.1 hc
          refine w_aload_nR (x := 58) (n := 62) rfl rfl rfl ?_
          refine w_iload (n := 64) rfl rfl rfl ?_
          refine w_callv (as := [.ref 58, .int x4]) (rest := []) (n := 67) rfl rfl rfl rfl ?_
          obtain ⟨I64, hI64, H⟩ := H
          refine ⟨I64, hI64, ?_⟩
          refine w_aload_nR (x := 58) (n := 68) rfl rfl rfl ?_
          refine w_calli (as := [.ref 58]) (rest := []) (n := 71) rfl rfl rfl rfl ?_
          obtain ⟨r68, I68, hI68, H⟩ := H
          refine ⟨r68, I68, hI68, ?_⟩
          refine w_istore (ls' := [some (.ref 58), some (.int x1), some (.int x2), some (.int x3), some (.int x4), some (.int r68)]) (n := 73) rfl rfl rfl rfl ?_
          refine w_iload_n (n := 74) rfl rfl rfl ?_
          have J74 : ∀ (y74_2 : Int32) (y74_3 : Int32), y74_2 = (if x2 < 0 then (x4 : Int32) else (if r68 < x3 then (x4 : Int32) else x2)) → y74_3 = (if x2 < 0 then (r68 : Int32) else (if r68 < x3 then (r68 : Int32) else x3)) → mm_W 167 92 [some (.ref 58), some (.int x1), some (.int y74_2), some (.int y74_3), some (.int x4), some (.int r68)] [] I68 (mm_qi 167 P) := by
            intro y74_2 y74_3 e74_0 e74_1
            subst e74_0
            subst e74_1
            refine w_iinc (y := x4 + 1) (ls' := [some (.ref 58), some (.int x1), some (.int (if x2 < 0 then (x4 : Int32) else (if r68 < x3 then (x4 : Int32) else x2))), some (.int (if x2 < 0 then (r68 : Int32) else (if r68 < x3 then (r68 : Int32) else x3))), some (.int (x4 + 1)), some (.int r68)]) (n := 95) rfl rfl rfl rfl rfl ?_
            refine w_goto rfl ?_
            exact w_drp mm_Qf_i H (lb_s (lb_s (lb_s (lb_s (lb_s (lb_n lb_e))))))
          refine w_if_lt (n := 77) rfl rfl ⟨fun hc => ?_, fun hc => ?_⟩
          · refine w_iload (n := 88) rfl rfl rfl ?_
            refine w_istore_n (ls' := [some (.ref 58), some (.int x1), some (.int x4), some (.int x3), some (.int x4), some (.int r68)]) (n := 89) rfl rfl rfl rfl ?_
            refine w_iload (n := 91) rfl rfl rfl ?_
            refine w_istore_n (ls' := [some (.ref 58), some (.int x1), some (.int x4), some (.int r68), some (.int x4), some (.int r68)]) (n := 92) rfl rfl rfl rfl ?_
            refine w_drp mm_Qf_i (J74 _ _ ?_ ?_) (lb_s (lb_s (lb_s (lb_s (lb_s (lb_s lb_e))))))
            · exact (if_pos hc).symm
            · exact (if_pos hc).symm
          · refine w_iload (n := 79) rfl rfl rfl ?_
            refine w_iload_n (n := 80) rfl rfl rfl ?_
            have J80 : ∀ (y80_2 : Int32) (y80_3 : Int32), y80_2 = (if r68 < x3 then (x4 : Int32) else x2) → y80_3 = (if r68 < x3 then (r68 : Int32) else x3) → mm_W 167 92 [some (.ref 58), some (.int x1), some (.int y80_2), some (.int y80_3), some (.int x4), some (.int r68)] [] I68 (mm_qi 167 P) := by
              intro y80_2 y80_3 e80_0 e80_1
              subst e80_0
              subst e80_1
              refine w_drp mm_Qf_i (J74 _ _ ?_ ?_) (lb_s (lb_s (lb_s (lb_s (lb_s (lb_s lb_e))))))
              · exact (if_neg (fa_nlt hc)).symm
              · exact (if_neg (fa_nlt hc)).symm
            refine w_icmp_lt (n := 83) rfl rfl ⟨fun hc => ?_, fun hc => ?_⟩
            · refine w_iload (n := 88) rfl rfl rfl ?_
              refine w_istore_n (ls' := [some (.ref 58), some (.int x1), some (.int x4), some (.int x3), some (.int x4), some (.int r68)]) (n := 89) rfl rfl rfl rfl ?_
              refine w_iload (n := 91) rfl rfl rfl ?_
              refine w_istore_n (ls' := [some (.ref 58), some (.int x1), some (.int x4), some (.int r68), some (.int x4), some (.int r68)]) (n := 92) rfl rfl rfl rfl ?_
              refine w_drp mm_Qf_i (J80 _ _ ?_ ?_) (lb_s (lb_s (lb_s (lb_s (lb_s (lb_s lb_e))))))
              · exact (if_pos hc).symm
              · exact (if_pos hc).symm
            · refine w_goto rfl ?_
              refine w_drp mm_Qf_i (J80 _ _ ?_ ?_) (lb_s (lb_s (lb_s (lb_s (lb_s (lb_s lb_e))))))
              · exact (if_neg (fa_nlt hc)).symm
              · exact (if_neg (fa_nlt hc)).symm
        · replace H := H.2 hc
          refine w_aload_nR (x := 58) (n := 51) rfl rfl rfl ?_
          refine w_iload (n := 53) rfl rfl rfl ?_
          refine w_calli (as := [.ref 58, .int x4]) (rest := []) (n := 56) rfl rfl rfl rfl ?_
          obtain ⟨r53, I53, hI53, H⟩ := H
          refine ⟨r53, I53, hI53, ?_⟩
          refine w_istore (ls' := [some (.ref 58), some (.int x1), some (.int x2), some (.int x3), some (.int x4), some (.int r53)]) (n := 58) rfl rfl rfl rfl ?_
          refine w_goto rfl ?_
          refine w_iload_n (n := 74) rfl rfl rfl ?_
          have J74 : ∀ (y74_2 : Int32) (y74_3 : Int32), y74_2 = (if x2 < 0 then (x4 : Int32) else (if r53 < x3 then (x4 : Int32) else x2)) → y74_3 = (if x2 < 0 then (r53 : Int32) else (if r53 < x3 then (r53 : Int32) else x3)) → mm_W 167 92 [some (.ref 58), some (.int x1), some (.int y74_2), some (.int y74_3), some (.int x4), some (.int r53)] [] I53 (mm_qi 167 P) := by
            intro y74_2 y74_3 e74_0 e74_1
            subst e74_0
            subst e74_1
            refine w_iinc (y := x4 + 1) (ls' := [some (.ref 58), some (.int x1), some (.int (if x2 < 0 then (x4 : Int32) else (if r53 < x3 then (x4 : Int32) else x2))), some (.int (if x2 < 0 then (r53 : Int32) else (if r53 < x3 then (r53 : Int32) else x3))), some (.int (x4 + 1)), some (.int r53)]) (n := 95) rfl rfl rfl rfl rfl ?_
            refine w_goto rfl ?_
            exact w_drp mm_Qf_i H (lb_s (lb_s (lb_s (lb_s (lb_s (lb_n lb_e))))))
          refine w_if_lt (n := 77) rfl rfl ⟨fun hc => ?_, fun hc => ?_⟩
          · refine w_iload (n := 88) rfl rfl rfl ?_
            refine w_istore_n (ls' := [some (.ref 58), some (.int x1), some (.int x4), some (.int x3), some (.int x4), some (.int r53)]) (n := 89) rfl rfl rfl rfl ?_
            refine w_iload (n := 91) rfl rfl rfl ?_
            refine w_istore_n (ls' := [some (.ref 58), some (.int x1), some (.int x4), some (.int r53), some (.int x4), some (.int r53)]) (n := 92) rfl rfl rfl rfl ?_
            refine w_drp mm_Qf_i (J74 _ _ ?_ ?_) (lb_s (lb_s (lb_s (lb_s (lb_s (lb_s lb_e))))))
            · exact (if_pos hc).symm
            · exact (if_pos hc).symm
          · refine w_iload (n := 79) rfl rfl rfl ?_
            refine w_iload_n (n := 80) rfl rfl rfl ?_
            have J80 : ∀ (y80_2 : Int32) (y80_3 : Int32), y80_2 = (if r53 < x3 then (x4 : Int32) else x2) → y80_3 = (if r53 < x3 then (r53 : Int32) else x3) → mm_W 167 92 [some (.ref 58), some (.int x1), some (.int y80_2), some (.int y80_3), some (.int x4), some (.int r53)] [] I53 (mm_qi 167 P) := by
              intro y80_2 y80_3 e80_0 e80_1
              subst e80_0
              subst e80_1
              refine w_drp mm_Qf_i (J74 _ _ ?_ ?_) (lb_s (lb_s (lb_s (lb_s (lb_s (lb_s lb_e))))))
              · exact (if_neg (fa_nlt hc)).symm
              · exact (if_neg (fa_nlt hc)).symm
            refine w_icmp_lt (n := 83) rfl rfl ⟨fun hc => ?_, fun hc => ?_⟩
            · refine w_iload (n := 88) rfl rfl rfl ?_
              refine w_istore_n (ls' := [some (.ref 58), some (.int x1), some (.int x4), some (.int x3), some (.int x4), some (.int r53)]) (n := 89) rfl rfl rfl rfl ?_
              refine w_iload (n := 91) rfl rfl rfl ?_
              refine w_istore_n (ls' := [some (.ref 58), some (.int x1), some (.int x4), some (.int r53), some (.int x4), some (.int r53)]) (n := 92) rfl rfl rfl rfl ?_
              refine w_drp mm_Qf_i (J80 _ _ ?_ ?_) (lb_s (lb_s (lb_s (lb_s (lb_s (lb_s lb_e))))))
              · exact (if_pos hc).symm
              · exact (if_pos hc).symm
            · refine w_goto rfl ?_
              refine w_drp mm_Qf_i (J80 _ _ ?_ ?_) (lb_s (lb_s (lb_s (lb_s (lb_s (lb_s lb_e))))))
              · exact (if_neg (fa_nlt hc)).symm
              · exact (if_neg (fa_nlt hc)).symm
      · replace H := H.2 hc
        refine w_goto rfl ?_
        refine w_iinc (y := x4 + 1) (ls' := [some (.ref 58), some (.int x1), some (.int x2), some (.int x3), some (.int (x4 + 1)), none]) (n := 95) rfl rfl rfl rfl rfl ?_
        refine w_goto rfl ?_
        exact w_drp mm_Qf_i H (lb_s (lb_s (lb_s (lb_s (lb_s (lb_n lb_e))))))
theorem e_M_rowCosts {P : Int32 → mm_I → Prop} {I : mm_I} (x1 : Int32)
  (H : mm_Mi 166 [.ref 58] (mm_up I 58 29 0) (fun r6 I6 =>  -- M.isStill
    (r6 = 0 →
      mm_Mi 167 [.ref 58, .int x1] I6 (fun r28 I28 =>  -- M.predictorFor
      mm_Mi 165 [.ref 58, .int r28] (mm_up I28 58 32 r28) (fun r39 I39 =>  -- M.costs
      ((4 + ((I39 58 18) * (I39 58 19))) < r39 →
        P (4 + ((I39 58 18) * (I39 58 19))) (mm_up (mm_up I39 58 32 9) 58 29 0)) ∧
      (r39 ≤ (4 + ((I39 58 18) * (I39 58 19))) →
        P r39 I39)))) ∧
    (¬ r6 = 0 →
      P (4 + (I6 58 19)) (mm_up I6 58 32 8)))) : mm_Mi 168 [.ref 58, .int x1] I P := by
  refine mm_Mi_of ?_
  show mm_W 168 0 [some (.ref 58), some (.int x1), none, none] [] I (mm_qi 168 P)
  refine w_aload_nR (x := 58) (n := 1) rfl rfl rfl ?_
  refine w_iconst (v := 0) (n := 2) rfl rfl rfl ?_
  refine w_putI (n := 5) rfl rfl rfl rfl rfl ?_
  refine w_aload_nR (x := 58) (n := 6) rfl rfl rfl ?_
  refine w_calli (as := [.ref 58]) (rest := []) (n := 9) rfl rfl rfl rfl ?_
  obtain ⟨r6, I6, hI6, H⟩ := H
  refine ⟨r6, I6, hI6, ?_⟩
  refine w_if_eq (n := 12) rfl rfl ⟨fun hc => ?_, fun hc => ?_⟩
  · replace H := H.1 hc
    refine w_aload_nR (x := 58) (n := 26) rfl rfl rfl ?_
    refine w_aload_nR (x := 58) (n := 27) rfl rfl rfl ?_
    refine w_iload_n (n := 28) rfl rfl rfl ?_
    refine w_calli (as := [.ref 58, .int x1]) (rest := [.ref 58]) (n := 31) rfl rfl rfl rfl ?_
    obtain ⟨r28, I28, hI28, H⟩ := H
    refine ⟨r28, I28, hI28, ?_⟩
    refine w_putI (n := 34) rfl rfl rfl rfl rfl ?_
    refine w_aload_nR (x := 58) (n := 35) rfl rfl rfl ?_
    refine w_aload_nR (x := 58) (n := 36) rfl rfl rfl ?_
    refine w_getI (n := 39) rfl rfl rfl rfl ?_
    refine w_calli (as := [.ref 58, .int r28]) (rest := []) (n := 42) rfl rfl rfl rfl ?_
    obtain ⟨r39, I39, hI39, H⟩ := H
    refine ⟨r39, I39, hI39, ?_⟩
    refine w_istore_n (ls' := [some (.ref 58), some (.int x1), some (.int r39), none]) (n := 43) rfl rfl rfl rfl ?_
    refine w_iconst (v := 4) (n := 44) rfl rfl rfl ?_
    refine w_aload_nR (x := 58) (n := 45) rfl rfl rfl ?_
    refine w_getI (n := 48) rfl rfl rfl rfl ?_
    refine w_aload_nR (x := 58) (n := 49) rfl rfl rfl ?_
    refine w_getI (n := 52) rfl rfl rfl rfl ?_
    refine w_imul (n := 53) rfl rfl ?_
    refine w_iadd (n := 54) rfl rfl ?_
    refine w_istore_n (ls' := [some (.ref 58), some (.int x1), some (.int r39), some (.int (4 + ((I39 58 18) * (I39 58 19))))]) (n := 55) rfl rfl rfl rfl ?_
    refine w_iload_n (n := 56) rfl rfl rfl ?_
    refine w_iload_n (n := 57) rfl rfl rfl ?_
    refine w_icmp_gt (n := 60) rfl rfl ⟨fun hc => ?_, fun hc => ?_⟩
    · replace H := H.1 hc
      refine w_aload_nR (x := 58) (n := 63) rfl rfl rfl ?_
      refine w_bipush (v := 9) (n := 65) rfl rfl rfl ?_
      refine w_putI (n := 68) rfl rfl rfl rfl rfl ?_
      refine w_aload_nR (x := 58) (n := 69) rfl rfl rfl ?_
      refine w_iconst (v := 0) (n := 70) rfl rfl rfl ?_
      refine w_putI (n := 73) rfl rfl rfl rfl rfl ?_
      refine w_iload_n (n := 74) rfl rfl rfl ?_
      exact w_ireturn rfl rfl H
    · replace H := H.2 hc
      refine w_iload_n (n := 61) rfl rfl rfl ?_
      exact w_ireturn rfl rfl H
  · replace H := H.2 hc
    refine w_aload_nR (x := 58) (n := 13) rfl rfl rfl ?_
    refine w_bipush (v := 8) (n := 15) rfl rfl rfl ?_
    refine w_putI (n := 18) rfl rfl rfl rfl rfl ?_
    refine w_iconst (v := 4) (n := 19) rfl rfl rfl ?_
    refine w_aload_nR (x := 58) (n := 20) rfl rfl rfl ?_
    refine w_getI (n := 23) rfl rfl rfl rfl ?_
    refine w_iadd (n := 24) rfl rfl ?_
    exact w_ireturn rfl rfl H
theorem e_M_laysSorts {P : mm_I → Prop} {I : mm_I} (x1 : Int32) (x2 : Int32)
  (H : mm_W 169 2 [some (.ref 58), some (.int x1), some (.int x2), some (.int 0)] [] I (mm_qv 169 P)) : mm_Mv 169 [.ref 58, .int x1, .int x2] I P := by
  refine mm_Mv_of ?_
  show mm_W 169 0 [some (.ref 58), some (.int x1), some (.int x2), none] [] I (mm_qv 169 P)
  refine w_iconst (v := 0) (n := 1) rfl rfl rfl ?_
  refine w_istore_n (ls' := [some (.ref 58), some (.int x1), some (.int x2), some (.int 0)]) (n := 2) rfl rfl rfl rfl ?_
  exact w_drp mm_Qf_v H (lb_s (lb_s (lb_s (lb_s lb_e))))
theorem c_M_laysSorts_2 {P : mm_I → Prop} {I : mm_I} (x1 : Int32) (x2 : Int32) (x3 : Int32)
  (H : ((if (I 58 4) = 2 then (4 : Int32) else 1) ≤ x3 →
      P I) ∧
    (x3 < (if (I 58 4) = 2 then (4 : Int32) else 1) →
      mm_Mv 149 [.ref 58, .int x1, .int x3] I (fun I22 =>  -- M.laysRow
      mm_Mi 168 [.ref 58, .int x2] I22 (fun r32 I32 =>  -- M.rowCosts
      vp_in x3 4 ∧
      mm_W 169 2 [some (.ref 58), some (.int x1), some (.int x2), some (.int (x3 + 1))] [] (mm_up I32 77 x3.toNatClampNeg r32) (mm_qv 169 P))))) : mm_W 169 2 [some (.ref 58), some (.int x1), some (.int x2), some (.int x3)] [] I (mm_qv 169 P) := by
  refine w_iload_n (n := 3) rfl rfl rfl ?_
  refine w_aload_nR (x := 58) (n := 4) rfl rfl rfl ?_
  refine w_getI (n := 7) rfl rfl rfl rfl ?_
  refine w_iconst (v := 2) (n := 8) rfl rfl rfl ?_
  have J8 : ∀ (w8_1 : Int32), w8_1 = (if (I 58 4) = 2 then (4 : Int32) else 1) → mm_W 169 16 [some (.ref 58), some (.int x1), some (.int x2), some (.int x3)] [.int w8_1, .int x3] I (mm_qv 169 P) := by
    intro w8_1 e8_0
    subst e8_0
    refine w_icmp_ge (n := 19) rfl rfl ⟨fun hc => ?_, fun hc => ?_⟩
    · replace H := H.1 hc
      exact w_vreturn rfl rfl H
    · replace H := H.2 hc
      refine w_aload_nR (x := 58) (n := 20) rfl rfl rfl ?_
      refine w_iload_n (n := 21) rfl rfl rfl ?_
      refine w_iload_n (n := 22) rfl rfl rfl ?_
      refine w_callv (as := [.ref 58, .int x1, .int x3]) (rest := []) (n := 25) rfl rfl rfl rfl ?_
      obtain ⟨I22, hI22, H⟩ := H
      refine ⟨I22, hI22, ?_⟩
      refine w_aload_nR (x := 58) (n := 26) rfl rfl rfl ?_
      refine w_getR (b := 77) (n := 29) rfl rfl rfl rfl rfl ?_
      refine w_iload_n (n := 30) rfl rfl rfl ?_
      refine w_aload_nR (x := 58) (n := 31) rfl rfl rfl ?_
      refine w_iload_n (n := 32) rfl rfl rfl ?_
      refine w_calli (as := [.ref 58, .int x2]) (rest := [.int x3, .ref 77]) (n := 35) rfl rfl rfl rfl ?_
      obtain ⟨r32, I32, hI32, H⟩ := H
      refine ⟨r32, I32, hI32, ?_⟩
      refine w_iastore (N := 4) (j := x3.toNatClampNeg) (n := 36) rfl rfl rfl rfl rfl ⟨H.1, ?_⟩
      replace H := H.2
      refine w_iinc (y := x3 + 1) (ls' := [some (.ref 58), some (.int x1), some (.int x2), some (.int (x3 + 1))]) (n := 39) rfl rfl rfl rfl rfl ?_
      refine w_goto rfl ?_
      exact w_drp mm_Qf_v H (lb_s (lb_s (lb_s (lb_s lb_e))))
  refine w_icmp_ne (n := 11) rfl rfl ⟨fun hc => ?_, fun hc => ?_⟩
  · refine w_iconst (v := 1) (n := 16) rfl rfl rfl ?_
    refine w_drp mm_Qf_v (J8 _ ?_) (lb_s (lb_s (lb_s (lb_s lb_e))))
    · exact (if_neg hc).symm
  · refine w_iconst (v := 4) (n := 12) rfl rfl rfl ?_
    refine w_goto rfl ?_
    refine w_drp mm_Qf_v (J8 _ ?_) (lb_s (lb_s (lb_s (lb_s lb_e))))
    · exact (if_pos hc).symm
theorem e_M_joinedBits {P : Int32 → mm_I → Prop} {I : mm_I} (x1 : Int32)
  (H : mm_Mi 150 [.int x1, .int 0] I (fun r6 I6 =>  -- M.sortOf
    vp_in r6 4 ∧
    (¬ (I6 58 4) = 2 →
      P ((I6 77 r6.toNatClampNeg) + 0) I6) ∧
    ((I6 58 4) = 2 →
      mm_Mi 150 [.int x1, .int 1] I6 (fun r24 I24 =>  -- M.sortOf
      vp_in r24 4 ∧
      P ((I6 77 r6.toNatClampNeg) + (I24 77 r24.toNatClampNeg)) I24)))) : mm_Mi 170 [.ref 58, .int x1] I P := by
  refine mm_Mi_of ?_
  show mm_W 170 0 [some (.ref 58), some (.int x1)] [] I (mm_qi 170 P)
  refine w_aload_nR (x := 58) (n := 1) rfl rfl rfl ?_
  refine w_getR (b := 77) (n := 4) rfl rfl rfl rfl rfl ?_
  refine w_iload_n (n := 5) rfl rfl rfl ?_
  refine w_iconst (v := 0) (n := 6) rfl rfl rfl ?_
  refine w_calli (as := [.int x1, .int 0]) (rest := [.ref 77]) (n := 9) rfl rfl rfl rfl ?_
  obtain ⟨r6, I6, hI6, H⟩ := H
  refine ⟨r6, I6, hI6, ?_⟩
  refine w_iaload (N := 4) (j := r6.toNatClampNeg) (n := 10) rfl rfl rfl rfl rfl rfl ⟨H.1, ?_⟩
  replace H := H.2
  refine w_aload_nR (x := 58) (n := 11) rfl rfl rfl ?_
  refine w_getI (n := 14) rfl rfl rfl rfl ?_
  refine w_iconst (v := 2) (n := 15) rfl rfl rfl ?_
  refine w_icmp_ne (n := 18) rfl rfl ⟨fun hc => ?_, fun hc => ?_⟩
  · replace H := H.1 hc
    refine w_iconst (v := 0) (n := 32) rfl rfl rfl ?_
    refine w_iadd (n := 33) rfl rfl ?_
    exact w_ireturn rfl rfl H
  · replace H := H.2 hc
    refine w_aload_nR (x := 58) (n := 19) rfl rfl rfl ?_
    refine w_getR (b := 77) (n := 22) rfl rfl rfl rfl rfl ?_
    refine w_iload_n (n := 23) rfl rfl rfl ?_
    refine w_iconst (v := 1) (n := 24) rfl rfl rfl ?_
    refine w_calli (as := [.int x1, .int 1]) (rest := [.ref 77, .int (I6 77 r6.toNatClampNeg)]) (n := 27) rfl rfl rfl rfl ?_
    obtain ⟨r24, I24, hI24, H⟩ := H
    refine ⟨r24, I24, hI24, ?_⟩
    refine w_iaload (N := 4) (j := r24.toNatClampNeg) (n := 28) rfl rfl rfl rfl rfl rfl ⟨H.1, ?_⟩
    replace H := H.2
    refine w_goto rfl ?_
    refine w_iadd (n := 33) rfl rfl ?_
    exact w_ireturn rfl rfl H
theorem e_M_joinNow {P : Int32 → mm_I → Prop} {I : mm_I}
  (H : mm_W 171 4 [some (.ref 58), some (.int 0), some (.int 1)] [] I (mm_qi 171 P)) : mm_Mi 171 [.ref 58] I P := by
  refine mm_Mi_of ?_
  show mm_W 171 0 [some (.ref 58), none, none] [] I (mm_qi 171 P)
  refine w_iconst (v := 0) (n := 1) rfl rfl rfl ?_
  refine w_istore_n (ls' := [some (.ref 58), some (.int 0), none]) (n := 2) rfl rfl rfl rfl ?_
  refine w_iconst (v := 1) (n := 3) rfl rfl rfl ?_
  refine w_istore_n (ls' := [some (.ref 58), some (.int 0), some (.int 1)]) (n := 4) rfl rfl rfl rfl ?_
  exact w_drp mm_Qf_i H (lb_s (lb_s (lb_s lb_e)))
theorem c_M_joinNow_4 {P : Int32 → mm_I → Prop} {I : mm_I} (x1 : Int32) (x2 : Int32)
  (H : (4 ≤ x2 →
      P x1 I) ∧
    (x2 < 4 →
      (¬ (I 58 4) = 2 →
        P x1 I) ∧
      ((I 58 4) = 2 →
        mm_Mi 170 [.ref 58, .int x2] I (fun r19 I19 =>  -- M.joinedBits
        mm_Mi 170 [.ref 58, .int x1] I19 (fun r24 I24 =>  -- M.joinedBits
        mm_W 171 4 [some (.ref 58), some (.int (if r24 ≤ r19 then (x1 : Int32) else x2)), some (.int (x2 + 1))] [] I24 (mm_qi 171 P)))))) : mm_W 171 4 [some (.ref 58), some (.int x1), some (.int x2)] [] I (mm_qi 171 P) := by
  refine w_iload_n (n := 5) rfl rfl rfl ?_
  refine w_iconst (v := 4) (n := 6) rfl rfl rfl ?_
  refine w_icmp_ge (n := 9) rfl rfl ⟨fun hc => ?_, fun hc => ?_⟩
  · replace H := H.1 hc
    refine w_iload_n (n := 39) rfl rfl rfl ?_
    exact w_ireturn rfl rfl H
  · replace H := H.2 hc
    refine w_aload_nR (x := 58) (n := 10) rfl rfl rfl ?_
    refine w_getI (n := 13) rfl rfl rfl rfl ?_
    refine w_iconst (v := 2) (n := 14) rfl rfl rfl ?_
    refine w_icmp_ne (n := 17) rfl rfl ⟨fun hc => ?_, fun hc => ?_⟩
    · replace H := H.1 hc
      refine w_iload_n (n := 39) rfl rfl rfl ?_
      exact w_ireturn rfl rfl H
    · replace H := H.2 hc
      refine w_aload_nR (x := 58) (n := 18) rfl rfl rfl ?_
      refine w_iload_n (n := 19) rfl rfl rfl ?_
      refine w_calli (as := [.ref 58, .int x2]) (rest := []) (n := 22) rfl rfl rfl rfl ?_
      obtain ⟨r19, I19, hI19, H⟩ := H
      refine ⟨r19, I19, hI19, ?_⟩
      refine w_aload_nR (x := 58) (n := 23) rfl rfl rfl ?_
      refine w_iload_n (n := 24) rfl rfl rfl ?_
      refine w_calli (as := [.ref 58, .int x1]) (rest := [.int r19]) (n := 27) rfl rfl rfl rfl ?_
      obtain ⟨r24, I24, hI24, H⟩ := H
      refine ⟨r24, I24, hI24, ?_⟩
      have J27 : ∀ (y27_1 : Int32), y27_1 = (if r24 ≤ r19 then (x1 : Int32) else x2) → mm_W 171 32 [some (.ref 58), some (.int y27_1), some (.int x2)] [] I24 (mm_qi 171 P) := by
        intro y27_1 e27_0
        subst e27_0
        refine w_iinc (y := x2 + 1) (ls' := [some (.ref 58), some (.int (if r24 ≤ r19 then (x1 : Int32) else x2)), some (.int (x2 + 1))]) (n := 35) rfl rfl rfl rfl rfl ?_
        refine w_goto rfl ?_
        exact w_drp mm_Qf_i H (lb_s (lb_s (lb_s lb_e)))
      refine w_icmp_ge (n := 30) rfl rfl ⟨fun hc => ?_, fun hc => ?_⟩
      · refine w_drp mm_Qf_i (J27 _ ?_) (lb_s (lb_s (lb_s lb_e)))
        · exact (if_pos hc).symm
      · refine w_iload_n (n := 31) rfl rfl rfl ?_
        refine w_istore_n (ls' := [some (.ref 58), some (.int x2), some (.int x2)]) (n := 32) rfl rfl rfl rfl ?_
        refine w_drp mm_Qf_i (J27 _ ?_) (lb_s (lb_s (lb_s lb_e)))
        · exact (if_neg (fa_nle hc)).symm
theorem e_M_joinOf {P : Int32 → mm_I → Prop} {I : mm_I} (x1 : Int32) (x2 : Int32)
  (H : mm_Mv 169 [.ref 58, .int x1, .int x2] I (fun I3 =>  -- M.laysSorts
    mm_Mi 171 [.ref 58] I3 (fun r7 I7 =>  -- M.joinNow
    P r7 I7))) : mm_Mi 172 [.ref 58, .int x1, .int x2] I P := by
  refine mm_Mi_of ?_
  show mm_W 172 0 [some (.ref 58), some (.int x1), some (.int x2)] [] I (mm_qi 172 P)
  refine w_aload_nR (x := 58) (n := 1) rfl rfl rfl ?_
  refine w_iload_n (n := 2) rfl rfl rfl ?_
  refine w_iload_n (n := 3) rfl rfl rfl ?_
  refine w_callv (as := [.ref 58, .int x1, .int x2]) (rest := []) (n := 6) rfl rfl rfl rfl ?_
  obtain ⟨I3, hI3, H⟩ := H
  refine ⟨I3, hI3, ?_⟩
  refine w_aload_nR (x := 58) (n := 7) rfl rfl rfl ?_
  refine w_calli (as := [.ref 58]) (rest := []) (n := 10) rfl rfl rfl rfl ?_
  obtain ⟨r7, I7, hI7, H⟩ := H
  refine ⟨r7, I7, hI7, ?_⟩
  exact w_ireturn rfl rfl H
theorem e_M_join {P : Int32 → mm_I → Prop} {I : mm_I} (x1 : Int32)
  (H : mm_Mi 148 [.ref 58, .int x1] (mm_up I 58 16 0) (fun r7 I7 =>  -- M.isFrameThere
    (r7 = 0 →
      P (-1) I7) ∧
    (¬ r7 = 0 →
      mm_Mi 172 [.ref 58, .int x1, .int (I7 58 8)] I7 (fun r19 I19 =>  -- M.joinOf
      P r19 I19)))) : mm_Mi 173 [.ref 58, .int x1] I P := by
  refine mm_Mi_of ?_
  show mm_W 173 0 [some (.ref 58), some (.int x1)] [] I (mm_qi 173 P)
  refine w_aload_nR (x := 58) (n := 1) rfl rfl rfl ?_
  refine w_iconst (v := 0) (n := 2) rfl rfl rfl ?_
  refine w_putI (n := 5) rfl rfl rfl rfl rfl ?_
  refine w_aload_nR (x := 58) (n := 6) rfl rfl rfl ?_
  refine w_iload_n (n := 7) rfl rfl rfl ?_
  refine w_calli (as := [.ref 58, .int x1]) (rest := []) (n := 10) rfl rfl rfl rfl ?_
  obtain ⟨r7, I7, hI7, H⟩ := H
  refine ⟨r7, I7, hI7, ?_⟩
  refine w_if_eq (n := 13) rfl rfl ⟨fun hc => ?_, fun hc => ?_⟩
  · replace H := H.1 hc
    refine w_iconst (v := (-1)) (n := 26) rfl rfl rfl ?_
    exact w_ireturn rfl rfl H
  · replace H := H.2 hc
    refine w_aload_nR (x := 58) (n := 14) rfl rfl rfl ?_
    refine w_iload_n (n := 15) rfl rfl rfl ?_
    refine w_aload_nR (x := 58) (n := 16) rfl rfl rfl ?_
    refine w_getI (n := 19) rfl rfl rfl rfl ?_
    refine w_calli (as := [.ref 58, .int x1, .int (I7 58 8)]) (rest := []) (n := 22) rfl rfl rfl rfl ?_
    obtain ⟨r19, I19, hI19, H⟩ := H
    refine ⟨r19, I19, hI19, ?_⟩
    refine w_goto rfl ?_
    exact w_ireturn rfl rfl H
theorem e_M_joined {P : Int32 → mm_I → Prop} {I : mm_I} (x1 : Int32) (x2 : Int32)
  (H : mm_Mi 148 [.ref 58, .int x1] (mm_up I 58 16 0) (fun r7 I7 =>  -- M.isFrameThere
    (r7 = 0 →
      P (-1) I7) ∧
    (¬ r7 = 0 →
      mm_Mi 125 [.int x2, .int 0, .int (if (I7 58 4) = 2 then (3 : Int32) else 0)] I7 (fun r28 I28 =>  -- M.within
      (¬ r28 = 0 →
        mm_Mv 169 [.ref 58, .int x1, .int (I28 58 8)] I28 (fun I42 =>  -- M.laysSorts
        mm_Mi 170 [.ref 58, .int x2] I42 (fun r47 I47 =>  -- M.joinedBits
        P r47 I47))) ∧
      (r28 = 0 →
        P (-1) I28))))) : mm_Mi 174 [.ref 58, .int x1, .int x2] I P := by
  refine mm_Mi_of ?_
  show mm_W 174 0 [some (.ref 58), some (.int x1), some (.int x2)] [] I (mm_qi 174 P)
  refine w_aload_nR (x := 58) (n := 1) rfl rfl rfl ?_
  refine w_iconst (v := 0) (n := 2) rfl rfl rfl ?_
  refine w_putI (n := 5) rfl rfl rfl rfl rfl ?_
  refine w_aload_nR (x := 58) (n := 6) rfl rfl rfl ?_
  refine w_iload_n (n := 7) rfl rfl rfl ?_
  refine w_calli (as := [.ref 58, .int x1]) (rest := []) (n := 10) rfl rfl rfl rfl ?_
  obtain ⟨r7, I7, hI7, H⟩ := H
  refine ⟨r7, I7, hI7, ?_⟩
  refine w_if_eq (n := 13) rfl rfl ⟨fun hc => ?_, fun hc => ?_⟩
  · replace H := H.1 hc
    refine w_iconst (v := (-1)) (n := 35) rfl rfl rfl ?_
    exact w_ireturn rfl rfl H
  · replace H := H.2 hc
    refine w_iload_n (n := 14) rfl rfl rfl ?_
    refine w_iconst (v := 0) (n := 15) rfl rfl rfl ?_
    refine w_aload_nR (x := 58) (n := 16) rfl rfl rfl ?_
    refine w_getI (n := 19) rfl rfl rfl rfl ?_
    refine w_iconst (v := 2) (n := 20) rfl rfl rfl ?_
    have J20 : ∀ (w20_2 : Int32), w20_2 = (if (I7 58 4) = 2 then (3 : Int32) else 0) → mm_W 174 28 [some (.ref 58), some (.int x1), some (.int x2)] [.int w20_2, .int 0, .int x2] I7 (mm_qi 174 P) := by
      intro w20_2 e20_0
      subst e20_0
      refine w_calli (as := [.int x2, .int 0, .int (if (I7 58 4) = 2 then (3 : Int32) else 0)]) (rest := []) (n := 31) rfl rfl rfl rfl ?_
      obtain ⟨r28, I28, hI28, H⟩ := H
      refine ⟨r28, I28, hI28, ?_⟩
      refine w_if_ne (n := 34) rfl rfl ⟨fun hc => ?_, fun hc => ?_⟩
      · replace H := H.1 hc
        refine w_aload_nR (x := 58) (n := 37) rfl rfl rfl ?_
        refine w_iload_n (n := 38) rfl rfl rfl ?_
        refine w_aload_nR (x := 58) (n := 39) rfl rfl rfl ?_
        refine w_getI (n := 42) rfl rfl rfl rfl ?_
        refine w_callv (as := [.ref 58, .int x1, .int (I28 58 8)]) (rest := []) (n := 45) rfl rfl rfl rfl ?_
        obtain ⟨I42, hI42, H⟩ := H
        refine ⟨I42, hI42, ?_⟩
        refine w_aload_nR (x := 58) (n := 46) rfl rfl rfl ?_
        refine w_iload_n (n := 47) rfl rfl rfl ?_
        refine w_calli (as := [.ref 58, .int x2]) (rest := []) (n := 50) rfl rfl rfl rfl ?_
        obtain ⟨r47, I47, hI47, H⟩ := H
        refine ⟨r47, I47, hI47, ?_⟩
        exact w_ireturn rfl rfl H
      · replace H := H.2 hc
        refine w_iconst (v := (-1)) (n := 35) rfl rfl rfl ?_
        exact w_ireturn rfl rfl H
    refine w_icmp_ne (n := 23) rfl rfl ⟨fun hc => ?_, fun hc => ?_⟩
    · refine w_iconst (v := 0) (n := 28) rfl rfl rfl ?_
      refine w_drp mm_Qf_i (J20 _ ?_) (lb_s (lb_s (lb_s lb_e)))
      · exact (if_neg hc).symm
    · refine w_iconst (v := 3) (n := 24) rfl rfl rfl ?_
      refine w_goto rfl ?_
      refine w_drp mm_Qf_i (J20 _ ?_) (lb_s (lb_s (lb_s lb_e)))
      · exact (if_pos hc).symm
theorem e_M_isRowLaid {P : Int32 → mm_I → Prop} {I : mm_I} (x1 : Int32) (x2 : Int32)
  (H : mm_Mi 148 [.ref 58, .int x1] I (fun r2 I2 =>  -- M.isFrameThere
    (r2 = 0 →
      P 0 I2) ∧
    (¬ r2 = 0 →
      mm_Mi 125 [.int x2, .int 0, .int ((I2 58 4) - 1)] I2 (fun r16 I16 =>  -- M.within
      (¬ r16 = 0 →
        mm_Mi 172 [.ref 58, .int x1, .int (I16 58 8)] I16 (fun r32 I32 =>  -- M.joinOf
        mm_Mi 150 [.int r32, .int x2] I32 (fun r36 I36 =>  -- M.sortOf
        mm_Mv 149 [.ref 58, .int x1, .int r36] I36 (fun I39 =>  -- M.laysRow
        P 1 I39)))) ∧
      (r16 = 0 →
        P 0 I16))))) : mm_Mi 175 [.ref 58, .int x1, .int x2] I P := by
  refine mm_Mi_of ?_
  show mm_W 175 0 [some (.ref 58), some (.int x1), some (.int x2)] [] I (mm_qi 175 P)
  refine w_aload_nR (x := 58) (n := 1) rfl rfl rfl ?_
  refine w_iload_n (n := 2) rfl rfl rfl ?_
  refine w_calli (as := [.ref 58, .int x1]) (rest := []) (n := 5) rfl rfl rfl rfl ?_
  obtain ⟨r2, I2, hI2, H⟩ := H
  refine ⟨r2, I2, hI2, ?_⟩
  refine w_if_eq (n := 8) rfl rfl ⟨fun hc => ?_, fun hc => ?_⟩
  · replace H := H.1 hc
    refine w_iconst (v := 0) (n := 23) rfl rfl rfl ?_
    exact w_zreturn rfl rfl ⟨by decide, H⟩
  · replace H := H.2 hc
    refine w_iload_n (n := 9) rfl rfl rfl ?_
    refine w_iconst (v := 0) (n := 10) rfl rfl rfl ?_
    refine w_aload_nR (x := 58) (n := 11) rfl rfl rfl ?_
    refine w_getI (n := 14) rfl rfl rfl rfl ?_
    refine w_iconst (v := 1) (n := 15) rfl rfl rfl ?_
    refine w_isub (n := 16) rfl rfl ?_
    refine w_calli (as := [.int x2, .int 0, .int ((I2 58 4) - 1)]) (rest := []) (n := 19) rfl rfl rfl rfl ?_
    obtain ⟨r16, I16, hI16, H⟩ := H
    refine ⟨r16, I16, hI16, ?_⟩
    refine w_if_ne (n := 22) rfl rfl ⟨fun hc => ?_, fun hc => ?_⟩
    · replace H := H.1 hc
      refine w_aload_nR (x := 58) (n := 25) rfl rfl rfl ?_
      refine w_iload_n (n := 26) rfl rfl rfl ?_
      refine w_aload_nR (x := 58) (n := 27) rfl rfl rfl ?_
      refine w_iload_n (n := 28) rfl rfl rfl ?_
      refine w_aload_nR (x := 58) (n := 29) rfl rfl rfl ?_
      refine w_getI (n := 32) rfl rfl rfl rfl ?_
      refine w_calli (as := [.ref 58, .int x1, .int (I16 58 8)]) (rest := [.int x1, .ref 58]) (n := 35) rfl rfl rfl rfl ?_
      obtain ⟨r32, I32, hI32, H⟩ := H
      refine ⟨r32, I32, hI32, ?_⟩
      refine w_iload_n (n := 36) rfl rfl rfl ?_
      refine w_calli (as := [.int r32, .int x2]) (rest := [.int x1, .ref 58]) (n := 39) rfl rfl rfl rfl ?_
      obtain ⟨r36, I36, hI36, H⟩ := H
      refine ⟨r36, I36, hI36, ?_⟩
      refine w_callv (as := [.ref 58, .int x1, .int r36]) (rest := []) (n := 42) rfl rfl rfl rfl ?_
      obtain ⟨I39, hI39, H⟩ := H
      refine ⟨I39, hI39, ?_⟩
      refine w_iconst (v := 1) (n := 43) rfl rfl rfl ?_
      exact w_zreturn rfl rfl ⟨by decide, H⟩
    · replace H := H.2 hc
      refine w_iconst (v := 0) (n := 23) rfl rfl rfl ?_
      exact w_zreturn rfl rfl ⟨by decide, H⟩
theorem e_M_row {P : Int32 → mm_I → Prop} {I : mm_I} (x1 : Int32) (x2 : Int32) (x3 : Int32)
  (H : mm_Mi 125 [.int x3, .int 0, .int 2] (mm_up I 58 16 0) (fun r8 I8 =>  -- M.within
    (r8 = 0 →
      P (-1) I8) ∧
    (¬ r8 = 0 →
      mm_Mi 175 [.ref 58, .int x1, .int x2] I8 (fun r17 I17 =>  -- M.isRowLaid
      (¬ r17 = 0 →
        mm_Mi 168 [.ref 58, .int (I17 58 8)] I17 (fun r30 I30 =>  -- M.rowCosts
        P (if x3 = 0 then ((I30 58 32) : Int32) else (if x3 = 1 then (r30 : Int32) else (I30 58 29))) I30)) ∧
      (r17 = 0 →
        P (-1) I17))))) : mm_Mi 176 [.ref 58, .int x1, .int x2, .int x3] I P := by
  refine mm_Mi_of ?_
  show mm_W 176 0 [some (.ref 58), some (.int x1), some (.int x2), some (.int x3), none] [] I (mm_qi 176 P)
  refine w_aload_nR (x := 58) (n := 1) rfl rfl rfl ?_
  refine w_iconst (v := 0) (n := 2) rfl rfl rfl ?_
  refine w_putI (n := 5) rfl rfl rfl rfl rfl ?_
  refine w_iload_n (n := 6) rfl rfl rfl ?_
  refine w_iconst (v := 0) (n := 7) rfl rfl rfl ?_
  refine w_iconst (v := 2) (n := 8) rfl rfl rfl ?_
  refine w_calli (as := [.int x3, .int 0, .int 2]) (rest := []) (n := 11) rfl rfl rfl rfl ?_
  obtain ⟨r8, I8, hI8, H⟩ := H
  refine ⟨r8, I8, hI8, ?_⟩
  refine w_if_eq (n := 14) rfl rfl ⟨fun hc => ?_, fun hc => ?_⟩
  · replace H := H.1 hc
    refine w_iconst (v := (-1)) (n := 24) rfl rfl rfl ?_
    exact w_ireturn rfl rfl H
  · replace H := H.2 hc
    refine w_aload_nR (x := 58) (n := 15) rfl rfl rfl ?_
    refine w_iload_n (n := 16) rfl rfl rfl ?_
    refine w_iload_n (n := 17) rfl rfl rfl ?_
    refine w_calli (as := [.ref 58, .int x1, .int x2]) (rest := []) (n := 20) rfl rfl rfl rfl ?_
    obtain ⟨r17, I17, hI17, H⟩ := H
    refine ⟨r17, I17, hI17, ?_⟩
    refine w_if_ne (n := 23) rfl rfl ⟨fun hc => ?_, fun hc => ?_⟩
    · replace H := H.1 hc
      refine w_aload_nR (x := 58) (n := 26) rfl rfl rfl ?_
      refine w_aload_nR (x := 58) (n := 27) rfl rfl rfl ?_
      refine w_getI (n := 30) rfl rfl rfl rfl ?_
      refine w_calli (as := [.ref 58, .int (I17 58 8)]) (rest := []) (n := 33) rfl rfl rfl rfl ?_
      obtain ⟨r30, I30, hI30, H⟩ := H
      refine ⟨r30, I30, hI30, ?_⟩
      refine w_istore (ls' := [some (.ref 58), some (.int x1), some (.int x2), some (.int x3), some (.int r30)]) (n := 35) rfl rfl rfl rfl ?_
      refine w_iload_n (n := 36) rfl rfl rfl ?_
      have J36 : ∀ (w36_0 : Int32), w36_0 = (if x3 = 0 then ((I30 58 32) : Int32) else (if x3 = 1 then (r30 : Int32) else (I30 58 29))) → mm_W 176 60 [some (.ref 58), some (.int x1), some (.int x2), some (.int x3), some (.int r30)] [.int w36_0] I30 (mm_qi 176 P) := by
        intro w36_0 e36_0
        subst e36_0
        exact w_ireturn rfl rfl H
      refine w_if_ne (n := 39) rfl rfl ⟨fun hc => ?_, fun hc => ?_⟩
      · refine w_iload_n (n := 47) rfl rfl rfl ?_
        refine w_iconst (v := 1) (n := 48) rfl rfl rfl ?_
        have J48 : ∀ (w48_0 : Int32), w48_0 = (if x3 = 1 then (r30 : Int32) else (I30 58 29)) → mm_W 176 60 [some (.ref 58), some (.int x1), some (.int x2), some (.int x3), some (.int r30)] [.int w48_0] I30 (mm_qi 176 P) := by
          intro w48_0 e48_0
          subst e48_0
          refine w_drp mm_Qf_i (J36 _ ?_) (lb_s (lb_s (lb_s (lb_s (lb_s lb_e)))))
          · exact (if_neg hc).symm
        refine w_icmp_ne (n := 51) rfl rfl ⟨fun hc => ?_, fun hc => ?_⟩
        · refine w_aload_nR (x := 58) (n := 57) rfl rfl rfl ?_
          refine w_getI (n := 60) rfl rfl rfl rfl ?_
          refine w_drp mm_Qf_i (J48 _ ?_) (lb_s (lb_s (lb_s (lb_s (lb_s lb_e)))))
          · exact (if_neg hc).symm
        · refine w_iload (n := 53) rfl rfl rfl ?_
          refine w_goto rfl ?_
          refine w_drp mm_Qf_i (J48 _ ?_) (lb_s (lb_s (lb_s (lb_s (lb_s lb_e)))))
          · exact (if_pos hc).symm
      · refine w_aload_nR (x := 58) (n := 40) rfl rfl rfl ?_
        refine w_getI (n := 43) rfl rfl rfl rfl ?_
        refine w_goto rfl ?_
        refine w_drp mm_Qf_i (J36 _ ?_) (lb_s (lb_s (lb_s (lb_s (lb_s lb_e)))))
        · exact (if_pos hc).symm
    · replace H := H.2 hc
      refine w_iconst (v := (-1)) (n := 24) rfl rfl rfl ?_
      exact w_ireturn rfl rfl H
theorem e_M_run {P : Int32 → mm_I → Prop} {I : mm_I} (x1 : Int32) (x2 : Int32) (x3 : Int32) (x4 : Int32)
  (H : mm_Mi 125 [.int x4, .int 0, .int 2] (mm_up I 58 16 0) (fun r9 I9 =>  -- M.within
    (r9 = 0 →
      P (-1) I9) ∧
    (¬ r9 = 0 →
      mm_Mi 175 [.ref 58, .int x1, .int x2] I9 (fun r18 I18 =>  -- M.isRowLaid
      (¬ r18 = 0 →
        mm_Mi 168 [.ref 58, .int (I18 58 8)] I18 (fun r31 I31 =>  -- M.rowCosts
        mm_Mi 125 [.int x3, .int 0, .int ((I31 58 29) - 1)] I31 (fun r43 I43 =>  -- M.within
        (¬ r43 = 0 →
          (¬ x4 = 0 →
            (¬ x4 = 1 →
              vp_in x3 8 ∧
              True) ∧
            (x4 = 1 →
              vp_in x3 8 ∧
              True) ∧
            True) ∧
          (x4 = 0 →
            vp_in x3 8 ∧
            (¬ x3 = 0 →
              vp_in (x3 - 1) 8 ∧
              True) ∧
            True) ∧
          P (if x4 = 0 then ((I43 72 x3.toNatClampNeg) - (if x3 = 0 then (0 : Int32) else (I43 72 ((x3 - 1).toNatClampNeg))) : Int32) else (if x4 = 1 then ((I43 73 x3.toNatClampNeg) : Int32) else (I43 74 x3.toNatClampNeg))) I43) ∧
        (r43 = 0 →
          P (-1) I43)))) ∧
      (r18 = 0 →
        P (-1) I18))))) : mm_Mi 177 [.ref 58, .int x1, .int x2, .int x3, .int x4] I P := by
  refine mm_Mi_of ?_
  show mm_W 177 0 [some (.ref 58), some (.int x1), some (.int x2), some (.int x3), some (.int x4)] [] I (mm_qi 177 P)
  refine w_aload_nR (x := 58) (n := 1) rfl rfl rfl ?_
  refine w_iconst (v := 0) (n := 2) rfl rfl rfl ?_
  refine w_putI (n := 5) rfl rfl rfl rfl rfl ?_
  refine w_iload (n := 7) rfl rfl rfl ?_
  refine w_iconst (v := 0) (n := 8) rfl rfl rfl ?_
  refine w_iconst (v := 2) (n := 9) rfl rfl rfl ?_
  refine w_calli (as := [.int x4, .int 0, .int 2]) (rest := []) (n := 12) rfl rfl rfl rfl ?_
  obtain ⟨r9, I9, hI9, H⟩ := H
  refine ⟨r9, I9, hI9, ?_⟩
  refine w_if_eq (n := 15) rfl rfl ⟨fun hc => ?_, fun hc => ?_⟩
  · replace H := H.1 hc
    refine w_iconst (v := (-1)) (n := 25) rfl rfl rfl ?_
    exact w_ireturn rfl rfl H
  · replace H := H.2 hc
    refine w_aload_nR (x := 58) (n := 16) rfl rfl rfl ?_
    refine w_iload_n (n := 17) rfl rfl rfl ?_
    refine w_iload_n (n := 18) rfl rfl rfl ?_
    refine w_calli (as := [.ref 58, .int x1, .int x2]) (rest := []) (n := 21) rfl rfl rfl rfl ?_
    obtain ⟨r18, I18, hI18, H⟩ := H
    refine ⟨r18, I18, hI18, ?_⟩
    refine w_if_ne (n := 24) rfl rfl ⟨fun hc => ?_, fun hc => ?_⟩
    · replace H := H.1 hc
      refine w_aload_nR (x := 58) (n := 27) rfl rfl rfl ?_
      refine w_aload_nR (x := 58) (n := 28) rfl rfl rfl ?_
      refine w_getI (n := 31) rfl rfl rfl rfl ?_
      refine w_calli (as := [.ref 58, .int (I18 58 8)]) (rest := []) (n := 34) rfl rfl rfl rfl ?_
      obtain ⟨r31, I31, hI31, H⟩ := H
      refine ⟨r31, I31, hI31, ?_⟩
      refine w_pop (n := 35) rfl rfl rfl ?_
      refine w_iload_n (n := 36) rfl rfl rfl ?_
      refine w_iconst (v := 0) (n := 37) rfl rfl rfl ?_
      refine w_aload_nR (x := 58) (n := 38) rfl rfl rfl ?_
      refine w_getI (n := 41) rfl rfl rfl rfl ?_
      refine w_iconst (v := 1) (n := 42) rfl rfl rfl ?_
      refine w_isub (n := 43) rfl rfl ?_
      refine w_calli (as := [.int x3, .int 0, .int ((I31 58 29) - 1)]) (rest := []) (n := 46) rfl rfl rfl rfl ?_
      obtain ⟨r43, I43, hI43, H⟩ := H
      refine ⟨r43, I43, hI43, ?_⟩
      refine w_if_ne (n := 49) rfl rfl ⟨fun hc => ?_, fun hc => ?_⟩
      · replace H := H.1 hc
        refine w_iload (n := 53) rfl rfl rfl ?_
        obtain ⟨K1, K2, H⟩ := H
        have J53 : ∀ (w53_0 : Int32), w53_0 = (if x4 = 0 then ((I43 72 x3.toNatClampNeg) - (if x3 = 0 then (0 : Int32) else (I43 72 ((x3 - 1).toNatClampNeg))) : Int32) else (if x4 = 1 then ((I43 73 x3.toNatClampNeg) : Int32) else (I43 74 x3.toNatClampNeg))) → mm_W 177 103 [some (.ref 58), some (.int x1), some (.int x2), some (.int x3), some (.int x4)] [.int w53_0] I43 (mm_qi 177 P) := by
          intro w53_0 e53_0
          subst e53_0
          exact w_ireturn rfl rfl H
        refine w_if_ne (n := 56) rfl rfl ⟨fun hc => ?_, fun hc => ?_⟩
        · have H := K1 hc
          refine w_iload (n := 84) rfl rfl rfl ?_
          refine w_iconst (v := 1) (n := 85) rfl rfl rfl ?_
          obtain ⟨K1, K2, H⟩ := H
          have J85 : ∀ (w85_0 : Int32), w85_0 = (if x4 = 1 then ((I43 73 x3.toNatClampNeg) : Int32) else (I43 74 x3.toNatClampNeg)) → mm_W 177 103 [some (.ref 58), some (.int x1), some (.int x2), some (.int x3), some (.int x4)] [.int w85_0] I43 (mm_qi 177 P) := by
            intro w85_0 e85_0
            subst e85_0
            refine w_drp mm_Qf_i (J53 _ ?_) (lb_s (lb_s (lb_s (lb_s (lb_s lb_e)))))
            · exact (if_neg hc).symm
          refine w_icmp_ne (n := 88) rfl rfl ⟨fun hc => ?_, fun hc => ?_⟩
          · have H := K1 hc
            refine w_aload_nR (x := 58) (n := 98) rfl rfl rfl ?_
            refine w_getR (b := 74) (n := 101) rfl rfl rfl rfl rfl ?_
            refine w_iload_n (n := 102) rfl rfl rfl ?_
            refine w_iaload (N := 8) (j := x3.toNatClampNeg) (n := 103) rfl rfl rfl rfl rfl rfl ⟨H.1, ?_⟩
            replace H := H.2
            refine w_drp mm_Qf_i (J85 _ ?_) (lb_s (lb_s (lb_s (lb_s (lb_s lb_e)))))
            · exact (if_neg hc).symm
          · have H := K2 hc
            refine w_aload_nR (x := 58) (n := 89) rfl rfl rfl ?_
            refine w_getR (b := 73) (n := 92) rfl rfl rfl rfl rfl ?_
            refine w_iload_n (n := 93) rfl rfl rfl ?_
            refine w_iaload (N := 8) (j := x3.toNatClampNeg) (n := 94) rfl rfl rfl rfl rfl rfl ⟨H.1, ?_⟩
            replace H := H.2
            refine w_goto rfl ?_
            refine w_drp mm_Qf_i (J85 _ ?_) (lb_s (lb_s (lb_s (lb_s (lb_s lb_e)))))
            · exact (if_pos hc).symm
        · have H := K2 hc
          refine w_aload_nR (x := 58) (n := 57) rfl rfl rfl ?_
          refine w_getR (b := 72) (n := 60) rfl rfl rfl rfl rfl ?_
          refine w_iload_n (n := 61) rfl rfl rfl ?_
          refine w_iaload (N := 8) (j := x3.toNatClampNeg) (n := 62) rfl rfl rfl rfl rfl rfl ⟨H.1, ?_⟩
          replace H := H.2
          refine w_iload_n (n := 63) rfl rfl rfl ?_
          obtain ⟨K1, H⟩ := H
          have J63 : ∀ (w63_1 : Int32), w63_1 = (if x3 = 0 then (0 : Int32) else (I43 72 ((x3 - 1).toNatClampNeg))) → mm_W 177 78 [some (.ref 58), some (.int x1), some (.int x2), some (.int x3), some (.int x4)] [.int w63_1, .int (I43 72 x3.toNatClampNeg)] I43 (mm_qi 177 P) := by
            intro w63_1 e63_0
            subst e63_0
            refine w_isub (n := 79) rfl rfl ?_
            refine w_goto rfl ?_
            refine w_drp mm_Qf_i (J53 _ ?_) (lb_s (lb_s (lb_s (lb_s (lb_s lb_e)))))
            · exact (if_pos hc).symm
          refine w_if_ne (n := 66) rfl rfl ⟨fun hc => ?_, fun hc => ?_⟩
          · have H := K1 hc
            refine w_aload_nR (x := 58) (n := 71) rfl rfl rfl ?_
            refine w_getR (b := 72) (n := 74) rfl rfl rfl rfl rfl ?_
            refine w_iload_n (n := 75) rfl rfl rfl ?_
            refine w_iconst (v := 1) (n := 76) rfl rfl rfl ?_
            refine w_isub (n := 77) rfl rfl ?_
            refine w_iaload (N := 8) (j := (x3 - 1).toNatClampNeg) (n := 78) rfl rfl rfl rfl rfl rfl ⟨H.1, ?_⟩
            replace H := H.2
            refine w_drp mm_Qf_i (J63 _ ?_) (lb_s (lb_s (lb_s (lb_s (lb_s lb_e)))))
            · exact (if_neg hc).symm
          · refine w_iconst (v := 0) (n := 67) rfl rfl rfl ?_
            refine w_goto rfl ?_
            refine w_drp mm_Qf_i (J63 _ ?_) (lb_s (lb_s (lb_s (lb_s (lb_s lb_e)))))
            · exact (if_pos hc).symm
      · replace H := H.2 hc
        refine w_iconst (v := (-1)) (n := 50) rfl rfl rfl ?_
        exact w_ireturn rfl rfl H
    · replace H := H.2 hc
      refine w_iconst (v := (-1)) (n := 25) rfl rfl rfl ?_
      exact w_ireturn rfl rfl H
theorem e_M_residual {P : Int32 → mm_I → Prop} {I : mm_I} (x1 : Int32) (x2 : Int32) (x3 : Int32) (x4 : Int32)
  (H : mm_Mi 125 [.int x3, .int 0, .int 7] (mm_up I 58 16 1) (fun r9 I9 =>  -- M.within
    (r9 = 0 →
      P 0 I9) ∧
    (¬ r9 = 0 →
      mm_Mi 175 [.ref 58, .int x1, .int x2] I9 (fun r18 I18 =>  -- M.isRowLaid
      (r18 = 0 →
        P 0 I18) ∧
      (¬ r18 = 0 →
        mm_Mi 144 [.int x3, .ref 62] I18 (fun r29 I29 =>  -- M.orderOf
        ((I29 58 18) ≤ r29 →
          P 0 I29) ∧
        (r29 < (I29 58 18) →
          mm_Mi 125 [.int x4, .int 0, .int ((I29 58 18) - 1)] I29 (fun r48 I48 =>  -- M.within
          (¬ r48 = 0 →
            mm_Mi 144 [.int x3, .ref 62] (mm_up I48 58 16 0) (fun r68 I68 =>  -- M.orderOf
            (r68 ≤ x4 →
              vp_in x4 64 ∧
              mm_Mi 145 [.ref 67, .int x4, .int x3, .ref 62, .ref 63] I68 (fun r106 I106 =>  -- M.guessed
              P ((I68 67 x4.toNatClampNeg) - r106) I106)) ∧
            (x4 < r68 →
              vp_in x4 64 ∧
              P (I68 67 x4.toNatClampNeg) I68))) ∧
          (r48 = 0 →
            P 0 I48))))))))) : mm_Mi 178 [.ref 58, .int x1, .int x2, .int x3, .int x4] I P := by
  refine mm_Mi_of ?_
  show mm_W 178 0 [some (.ref 58), some (.int x1), some (.int x2), some (.int x3), some (.int x4)] [] I (mm_qi 178 P)
  refine w_aload_nR (x := 58) (n := 1) rfl rfl rfl ?_
  refine w_iconst (v := 1) (n := 2) rfl rfl rfl ?_
  refine w_putI (n := 5) rfl rfl rfl rfl rfl ?_
  refine w_iload_n (n := 6) rfl rfl rfl ?_
  refine w_iconst (v := 0) (n := 7) rfl rfl rfl ?_
  refine w_bipush (v := 7) (n := 9) rfl rfl rfl ?_
  refine w_calli (as := [.int x3, .int 0, .int 7]) (rest := []) (n := 12) rfl rfl rfl rfl ?_
  obtain ⟨r9, I9, hI9, H⟩ := H
  refine ⟨r9, I9, hI9, ?_⟩
  refine w_if_eq (n := 15) rfl rfl ⟨fun hc => ?_, fun hc => ?_⟩
  · replace H := H.1 hc
    refine w_iconst (v := 0) (n := 55) rfl rfl rfl ?_
    exact w_ireturn rfl rfl H
  · replace H := H.2 hc
    refine w_aload_nR (x := 58) (n := 16) rfl rfl rfl ?_
    refine w_iload_n (n := 17) rfl rfl rfl ?_
    refine w_iload_n (n := 18) rfl rfl rfl ?_
    refine w_calli (as := [.ref 58, .int x1, .int x2]) (rest := []) (n := 21) rfl rfl rfl rfl ?_
    obtain ⟨r18, I18, hI18, H⟩ := H
    refine ⟨r18, I18, hI18, ?_⟩
    refine w_if_eq (n := 24) rfl rfl ⟨fun hc => ?_, fun hc => ?_⟩
    · replace H := H.1 hc
      refine w_iconst (v := 0) (n := 55) rfl rfl rfl ?_
      exact w_ireturn rfl rfl H
    · replace H := H.2 hc
      refine w_iload_n (n := 25) rfl rfl rfl ?_
      refine w_aload_nR (x := 58) (n := 26) rfl rfl rfl ?_
      refine w_getR (b := 62) (n := 29) rfl rfl rfl rfl rfl ?_
      refine w_calli (as := [.int x3, .ref 62]) (rest := []) (n := 32) rfl rfl rfl rfl ?_
      obtain ⟨r29, I29, hI29, H⟩ := H
      refine ⟨r29, I29, hI29, ?_⟩
      refine w_aload_nR (x := 58) (n := 33) rfl rfl rfl ?_
      refine w_getI (n := 36) rfl rfl rfl rfl ?_
      refine w_icmp_ge (n := 39) rfl rfl ⟨fun hc => ?_, fun hc => ?_⟩
      · replace H := H.1 hc
        refine w_iconst (v := 0) (n := 55) rfl rfl rfl ?_
        exact w_ireturn rfl rfl H
      · replace H := H.2 hc
        refine w_iload (n := 41) rfl rfl rfl ?_
        refine w_iconst (v := 0) (n := 42) rfl rfl rfl ?_
        refine w_aload_nR (x := 58) (n := 43) rfl rfl rfl ?_
        refine w_getI (n := 46) rfl rfl rfl rfl ?_
        refine w_iconst (v := 1) (n := 47) rfl rfl rfl ?_
        refine w_isub (n := 48) rfl rfl ?_
        refine w_calli (as := [.int x4, .int 0, .int ((I29 58 18) - 1)]) (rest := []) (n := 51) rfl rfl rfl rfl ?_
        obtain ⟨r48, I48, hI48, H⟩ := H
        refine ⟨r48, I48, hI48, ?_⟩
        refine w_if_ne (n := 54) rfl rfl ⟨fun hc => ?_, fun hc => ?_⟩
        · replace H := H.1 hc
          refine w_aload_nR (x := 58) (n := 57) rfl rfl rfl ?_
          refine w_iconst (v := 0) (n := 58) rfl rfl rfl ?_
          refine w_putI (n := 61) rfl rfl rfl rfl rfl ?_
          refine w_iload (n := 63) rfl rfl rfl ?_
          refine w_iload_n (n := 64) rfl rfl rfl ?_
          refine w_aload_nR (x := 58) (n := 65) rfl rfl rfl ?_
          refine w_getR (b := 62) (n := 68) rfl rfl rfl rfl rfl ?_
          refine w_calli (as := [.int x3, .ref 62]) (rest := [.int x4]) (n := 71) rfl rfl rfl rfl ?_
          obtain ⟨r68, I68, hI68, H⟩ := H
          refine ⟨r68, I68, hI68, ?_⟩
          refine w_icmp_ge (n := 74) rfl rfl ⟨fun hc => ?_, fun hc => ?_⟩
          · replace H := H.1 hc
            refine w_aload_nR (x := 58) (n := 85) rfl rfl rfl ?_
            refine w_getR (b := 67) (n := 88) rfl rfl rfl rfl rfl ?_
            refine w_iload (n := 90) rfl rfl rfl ?_
            refine w_iaload (N := 64) (j := x4.toNatClampNeg) (n := 91) rfl rfl rfl rfl rfl rfl ⟨H.1, ?_⟩
            replace H := H.2
            refine w_aload_nR (x := 58) (n := 92) rfl rfl rfl ?_
            refine w_getR (b := 67) (n := 95) rfl rfl rfl rfl rfl ?_
            refine w_iload (n := 97) rfl rfl rfl ?_
            refine w_iload_n (n := 98) rfl rfl rfl ?_
            refine w_aload_nR (x := 58) (n := 99) rfl rfl rfl ?_
            refine w_getR (b := 62) (n := 102) rfl rfl rfl rfl rfl ?_
            refine w_aload_nR (x := 58) (n := 103) rfl rfl rfl ?_
            refine w_getR (b := 63) (n := 106) rfl rfl rfl rfl rfl ?_
            refine w_calli (as := [.ref 67, .int x4, .int x3, .ref 62, .ref 63]) (rest := [.int (I68 67 x4.toNatClampNeg)]) (n := 109) rfl rfl rfl rfl ?_
            obtain ⟨r106, I106, hI106, H⟩ := H
            refine ⟨r106, I106, hI106, ?_⟩
            refine w_isub (n := 110) rfl rfl ?_
            exact w_ireturn rfl rfl H
          · replace H := H.2 hc
            refine w_aload_nR (x := 58) (n := 75) rfl rfl rfl ?_
            refine w_getR (b := 67) (n := 78) rfl rfl rfl rfl rfl ?_
            refine w_iload (n := 80) rfl rfl rfl ?_
            refine w_iaload (N := 64) (j := x4.toNatClampNeg) (n := 81) rfl rfl rfl rfl rfl rfl ⟨H.1, ?_⟩
            replace H := H.2
            refine w_goto rfl ?_
            exact w_ireturn rfl rfl H
        · replace H := H.2 hc
          refine w_iconst (v := 0) (n := 55) rfl rfl rfl ?_
          exact w_ireturn rfl rfl H
theorem e_M_tried {P : Int32 → mm_I → Prop} {I : mm_I} (x1 : Int32) (x2 : Int32) (x3 : Int32)
  (H : mm_Mi 125 [.int x3, .int 0, .int 7] (mm_up I 58 16 0) (fun r9 I9 =>  -- M.within
    (r9 = 0 →
      P (-1) I9) ∧
    (¬ r9 = 0 →
      mm_Mi 175 [.ref 58, .int x1, .int x2] I9 (fun r18 I18 =>  -- M.isRowLaid
      (r18 = 0 →
        P (-1) I18) ∧
      (¬ r18 = 0 →
        mm_Mi 144 [.int x3, .ref 62] I18 (fun r29 I29 =>  -- M.orderOf
        ((I29 58 18) ≤ r29 →
          P (-1) I29) ∧
        (r29 < (I29 58 18) →
          mm_Mi 165 [.ref 58, .int x3] I29 (fun r41 I41 =>  -- M.costs
          P r41 I41)))))))) : mm_Mi 179 [.ref 58, .int x1, .int x2, .int x3] I P := by
  refine mm_Mi_of ?_
  show mm_W 179 0 [some (.ref 58), some (.int x1), some (.int x2), some (.int x3)] [] I (mm_qi 179 P)
  refine w_aload_nR (x := 58) (n := 1) rfl rfl rfl ?_
  refine w_iconst (v := 0) (n := 2) rfl rfl rfl ?_
  refine w_putI (n := 5) rfl rfl rfl rfl rfl ?_
  refine w_iload_n (n := 6) rfl rfl rfl ?_
  refine w_iconst (v := 0) (n := 7) rfl rfl rfl ?_
  refine w_bipush (v := 7) (n := 9) rfl rfl rfl ?_
  refine w_calli (as := [.int x3, .int 0, .int 7]) (rest := []) (n := 12) rfl rfl rfl rfl ?_
  obtain ⟨r9, I9, hI9, H⟩ := H
  refine ⟨r9, I9, hI9, ?_⟩
  refine w_if_eq (n := 15) rfl rfl ⟨fun hc => ?_, fun hc => ?_⟩
  · replace H := H.1 hc
    refine w_iconst (v := (-1)) (n := 48) rfl rfl rfl ?_
    exact w_ireturn rfl rfl H
  · replace H := H.2 hc
    refine w_aload_nR (x := 58) (n := 16) rfl rfl rfl ?_
    refine w_iload_n (n := 17) rfl rfl rfl ?_
    refine w_iload_n (n := 18) rfl rfl rfl ?_
    refine w_calli (as := [.ref 58, .int x1, .int x2]) (rest := []) (n := 21) rfl rfl rfl rfl ?_
    obtain ⟨r18, I18, hI18, H⟩ := H
    refine ⟨r18, I18, hI18, ?_⟩
    refine w_if_eq (n := 24) rfl rfl ⟨fun hc => ?_, fun hc => ?_⟩
    · replace H := H.1 hc
      refine w_iconst (v := (-1)) (n := 48) rfl rfl rfl ?_
      exact w_ireturn rfl rfl H
    · replace H := H.2 hc
      refine w_iload_n (n := 25) rfl rfl rfl ?_
      refine w_aload_nR (x := 58) (n := 26) rfl rfl rfl ?_
      refine w_getR (b := 62) (n := 29) rfl rfl rfl rfl rfl ?_
      refine w_calli (as := [.int x3, .ref 62]) (rest := []) (n := 32) rfl rfl rfl rfl ?_
      obtain ⟨r29, I29, hI29, H⟩ := H
      refine ⟨r29, I29, hI29, ?_⟩
      refine w_aload_nR (x := 58) (n := 33) rfl rfl rfl ?_
      refine w_getI (n := 36) rfl rfl rfl rfl ?_
      refine w_icmp_ge (n := 39) rfl rfl ⟨fun hc => ?_, fun hc => ?_⟩
      · replace H := H.1 hc
        refine w_iconst (v := (-1)) (n := 48) rfl rfl rfl ?_
        exact w_ireturn rfl rfl H
      · replace H := H.2 hc
        refine w_aload_nR (x := 58) (n := 40) rfl rfl rfl ?_
        refine w_iload_n (n := 41) rfl rfl rfl ?_
        refine w_calli (as := [.ref 58, .int x3]) (rest := []) (n := 44) rfl rfl rfl rfl ?_
        obtain ⟨r41, I41, hI41, H⟩ := H
        refine ⟨r41, I41, hI41, ?_⟩
        refine w_goto rfl ?_
        exact w_ireturn rfl rfl H
theorem e_M_mean {P : Int32 → mm_I → Prop} {I : mm_I} (x1 : Int32) (x2 : Int32) (x3 : Int32)
  (H : mm_Mi 125 [.int x3, .int 0, .int 7] (mm_up I 58 16 0) (fun r9 I9 =>  -- M.within
    (r9 = 0 →
      P (-1) I9) ∧
    (¬ r9 = 0 →
      mm_Mi 175 [.ref 58, .int x1, .int x2] I9 (fun r18 I18 =>  -- M.isRowLaid
      (r18 = 0 →
        P (-1) I18) ∧
      (¬ r18 = 0 →
        mm_Mi 144 [.int x3, .ref 62] I18 (fun r29 I29 =>  -- M.orderOf
        (r29 < (I29 58 18) →
          mm_Mv 151 [.ref 58, .int x3] I29 (fun I43 =>  -- M.laysErrors
          mm_Mf 163 [.ref 58] I43 (fun r47 I47 =>  -- M.meanNow
          mm_Mi 223 [.float r47] I47 (fun r50 I50 =>  -- Float.floatToIntBits
          P r50 I50)))) ∧
        ((I29 58 18) ≤ r29 →
          P (-1) I29))))))) : mm_Mi 180 [.ref 58, .int x1, .int x2, .int x3] I P := by
  refine mm_Mi_of ?_
  show mm_W 180 0 [some (.ref 58), some (.int x1), some (.int x2), some (.int x3)] [] I (mm_qi 180 P)
  refine w_aload_nR (x := 58) (n := 1) rfl rfl rfl ?_
  refine w_iconst (v := 0) (n := 2) rfl rfl rfl ?_
  refine w_putI (n := 5) rfl rfl rfl rfl rfl ?_
  refine w_iload_n (n := 6) rfl rfl rfl ?_
  refine w_iconst (v := 0) (n := 7) rfl rfl rfl ?_
  refine w_bipush (v := 7) (n := 9) rfl rfl rfl ?_
  refine w_calli (as := [.int x3, .int 0, .int 7]) (rest := []) (n := 12) rfl rfl rfl rfl ?_
  obtain ⟨r9, I9, hI9, H⟩ := H
  refine ⟨r9, I9, hI9, ?_⟩
  refine w_if_eq (n := 15) rfl rfl ⟨fun hc => ?_, fun hc => ?_⟩
  · replace H := H.1 hc
    refine w_iconst (v := (-1)) (n := 40) rfl rfl rfl ?_
    exact w_ireturn rfl rfl H
  · replace H := H.2 hc
    refine w_aload_nR (x := 58) (n := 16) rfl rfl rfl ?_
    refine w_iload_n (n := 17) rfl rfl rfl ?_
    refine w_iload_n (n := 18) rfl rfl rfl ?_
    refine w_calli (as := [.ref 58, .int x1, .int x2]) (rest := []) (n := 21) rfl rfl rfl rfl ?_
    obtain ⟨r18, I18, hI18, H⟩ := H
    refine ⟨r18, I18, hI18, ?_⟩
    refine w_if_eq (n := 24) rfl rfl ⟨fun hc => ?_, fun hc => ?_⟩
    · replace H := H.1 hc
      refine w_iconst (v := (-1)) (n := 40) rfl rfl rfl ?_
      exact w_ireturn rfl rfl H
    · replace H := H.2 hc
      refine w_iload_n (n := 25) rfl rfl rfl ?_
      refine w_aload_nR (x := 58) (n := 26) rfl rfl rfl ?_
      refine w_getR (b := 62) (n := 29) rfl rfl rfl rfl rfl ?_
      refine w_calli (as := [.int x3, .ref 62]) (rest := []) (n := 32) rfl rfl rfl rfl ?_
      obtain ⟨r29, I29, hI29, H⟩ := H
      refine ⟨r29, I29, hI29, ?_⟩
      refine w_aload_nR (x := 58) (n := 33) rfl rfl rfl ?_
      refine w_getI (n := 36) rfl rfl rfl rfl ?_
      refine w_icmp_lt (n := 39) rfl rfl ⟨fun hc => ?_, fun hc => ?_⟩
      · replace H := H.1 hc
        refine w_aload_nR (x := 58) (n := 42) rfl rfl rfl ?_
        refine w_iload_n (n := 43) rfl rfl rfl ?_
        refine w_callv (as := [.ref 58, .int x3]) (rest := []) (n := 46) rfl rfl rfl rfl ?_
        obtain ⟨I43, hI43, H⟩ := H
        refine ⟨I43, hI43, ?_⟩
        refine w_aload_nR (x := 58) (n := 47) rfl rfl rfl ?_
        refine w_callf (as := [.ref 58]) (rest := []) (n := 50) rfl rfl rfl rfl ?_
        obtain ⟨r47, I47, hI47, H⟩ := H
        refine ⟨r47, I47, hI47, ?_⟩
        refine w_calli (as := [.float r47]) (rest := []) (n := 53) rfl rfl rfl rfl ?_
        obtain ⟨r50, I50, hI50, H⟩ := H
        refine ⟨r50, I50, hI50, ?_⟩
        exact w_ireturn rfl rfl H
      · replace H := H.2 hc
        refine w_iconst (v := (-1)) (n := 40) rfl rfl rfl ?_
        exact w_ireturn rfl rfl H
theorem e_M_sizeBy {P : Int32 → mm_I → Prop} {I : mm_I} (x1 : Int32)
  (H : mm_W 181 5 [some (.ref 58), some (.int x1), some (.int 21), some (.int 0)] [] I (mm_qi 181 P)) : mm_Mi 181 [.ref 58, .int x1] I P := by
  refine mm_Mi_of ?_
  show mm_W 181 0 [some (.ref 58), some (.int x1), none, none] [] I (mm_qi 181 P)
  refine w_bipush (v := 21) (n := 2) rfl rfl rfl ?_
  refine w_istore_n (ls' := [some (.ref 58), some (.int x1), some (.int 21), none]) (n := 3) rfl rfl rfl rfl ?_
  refine w_iconst (v := 0) (n := 4) rfl rfl rfl ?_
  refine w_istore_n (ls' := [some (.ref 58), some (.int x1), some (.int 21), some (.int 0)]) (n := 5) rfl rfl rfl rfl ?_
  exact w_drp mm_Qf_i H (lb_s (lb_s (lb_s (lb_s lb_e))))
theorem c_M_sizeBy_5 {P : Int32 → mm_I → Prop} {I : mm_I} (x1 : Int32) (x2 : Int32) (x3 : Int32)
  (H : mm_Mi 147 [.ref 58] I (fun r7 I7 =>  -- M.frames
    (r7 ≤ x3 →
      P x2 I7) ∧
    (x3 < r7 →
      mm_Mi 172 [.ref 58, .int x3, .int x1] I7 (fun r32 I32 =>  -- M.joinOf
      mm_Mi 170 [.ref 58, .int r32] I32 (fun r35 I35 =>  -- M.joinedBits
      mm_W 181 5 [some (.ref 58), some (.int x1), some (.int (x2 + (4 + ((((if (I7 58 4) = 2 then (2 : Int32) else 0) + r35) + 7) / 8)))), some (.int (x3 + 1))] [] I35 (mm_qi 181 P)))))) : mm_W 181 5 [some (.ref 58), some (.int x1), some (.int x2), some (.int x3)] [] I (mm_qi 181 P) := by
  refine w_iload_n (n := 6) rfl rfl rfl ?_
  refine w_aload_nR (x := 58) (n := 7) rfl rfl rfl ?_
  refine w_calli (as := [.ref 58]) (rest := [.int x3]) (n := 10) rfl rfl rfl rfl ?_
  obtain ⟨r7, I7, hI7, H⟩ := H
  refine ⟨r7, I7, hI7, ?_⟩
  refine w_icmp_ge (n := 13) rfl rfl ⟨fun hc => ?_, fun hc => ?_⟩
  · replace H := H.1 hc
    refine w_iload_n (n := 55) rfl rfl rfl ?_
    exact w_ireturn rfl rfl H
  · replace H := H.2 hc
    refine w_iload_n (n := 14) rfl rfl rfl ?_
    refine w_iconst (v := 4) (n := 15) rfl rfl rfl ?_
    refine w_aload_nR (x := 58) (n := 16) rfl rfl rfl ?_
    refine w_getI (n := 19) rfl rfl rfl rfl ?_
    refine w_iconst (v := 2) (n := 20) rfl rfl rfl ?_
    have J20 : ∀ (w20_2 : Int32), w20_2 = (if (I7 58 4) = 2 then (2 : Int32) else 0) → mm_W 181 28 [some (.ref 58), some (.int x1), some (.int x2), some (.int x3)] [.int w20_2, .int 4, .int x2] I7 (mm_qi 181 P) := by
      intro w20_2 e20_0
      subst e20_0
      refine w_aload_nR (x := 58) (n := 29) rfl rfl rfl ?_
      refine w_aload_nR (x := 58) (n := 30) rfl rfl rfl ?_
      refine w_iload_n (n := 31) rfl rfl rfl ?_
      refine w_iload_n (n := 32) rfl rfl rfl ?_
      refine w_calli (as := [.ref 58, .int x3, .int x1]) (rest := [.ref 58, .int (if (I7 58 4) = 2 then (2 : Int32) else 0), .int 4, .int x2]) (n := 35) rfl rfl rfl rfl ?_
      obtain ⟨r32, I32, hI32, H⟩ := H
      refine ⟨r32, I32, hI32, ?_⟩
      refine w_calli (as := [.ref 58, .int r32]) (rest := [.int (if (I7 58 4) = 2 then (2 : Int32) else 0), .int 4, .int x2]) (n := 38) rfl rfl rfl rfl ?_
      obtain ⟨r35, I35, hI35, H⟩ := H
      refine ⟨r35, I35, hI35, ?_⟩
      refine w_iadd (n := 39) rfl rfl ?_
      refine w_bipush (v := 7) (n := 41) rfl rfl rfl ?_
      refine w_iadd (n := 42) rfl rfl ?_
      refine w_bipush (v := 8) (n := 44) rfl rfl rfl ?_
      refine w_idiv (n := 45) rfl rfl ⟨by decide, ?_⟩
      refine w_iadd (n := 46) rfl rfl ?_
      refine w_iadd (n := 47) rfl rfl ?_
      refine w_istore_n (ls' := [some (.ref 58), some (.int x1), some (.int (x2 + (4 + ((((if (I7 58 4) = 2 then (2 : Int32) else 0) + r35) + 7) / 8)))), some (.int x3)]) (n := 48) rfl rfl rfl rfl ?_
      refine w_iinc (y := x3 + 1) (ls' := [some (.ref 58), some (.int x1), some (.int (x2 + (4 + ((((if (I7 58 4) = 2 then (2 : Int32) else 0) + r35) + 7) / 8)))), some (.int (x3 + 1))]) (n := 51) rfl rfl rfl rfl rfl ?_
      refine w_goto rfl ?_
      exact w_drp mm_Qf_i H (lb_s (lb_s (lb_s (lb_s lb_e))))
    refine w_icmp_ne (n := 23) rfl rfl ⟨fun hc => ?_, fun hc => ?_⟩
    · refine w_iconst (v := 0) (n := 28) rfl rfl rfl ?_
      refine w_drp mm_Qf_i (J20 _ ?_) (lb_s (lb_s (lb_s (lb_s lb_e))))
      · exact (if_neg hc).symm
    · refine w_iconst (v := 2) (n := 24) rfl rfl rfl ?_
      refine w_goto rfl ?_
      refine w_drp mm_Qf_i (J20 _ ?_) (lb_s (lb_s (lb_s (lb_s lb_e))))
      · exact (if_pos hc).symm
theorem e_M_size {P : Int32 → mm_I → Prop} {I : mm_I}
  (H : mm_Mi 146 [.ref 58] (mm_up I 58 16 0) (fun r6 I6 =>  -- M.isReady
    (r6 = 0 →
      P (-1) I6) ∧
    (¬ r6 = 0 →
      mm_Mi 181 [.ref 58, .int (I6 58 8)] I6 (fun r17 I17 =>  -- M.sizeBy
      P r17 I17)))) : mm_Mi 182 [.ref 58] I P := by
  refine mm_Mi_of ?_
  show mm_W 182 0 [some (.ref 58)] [] I (mm_qi 182 P)
  refine w_aload_nR (x := 58) (n := 1) rfl rfl rfl ?_
  refine w_iconst (v := 0) (n := 2) rfl rfl rfl ?_
  refine w_putI (n := 5) rfl rfl rfl rfl rfl ?_
  refine w_aload_nR (x := 58) (n := 6) rfl rfl rfl ?_
  refine w_calli (as := [.ref 58]) (rest := []) (n := 9) rfl rfl rfl rfl ?_
  obtain ⟨r6, I6, hI6, H⟩ := H
  refine ⟨r6, I6, hI6, ?_⟩
  refine w_if_eq (n := 12) rfl rfl ⟨fun hc => ?_, fun hc => ?_⟩
  · replace H := H.1 hc
    refine w_iconst (v := (-1)) (n := 24) rfl rfl rfl ?_
    exact w_ireturn rfl rfl H
  · replace H := H.2 hc
    refine w_aload_nR (x := 58) (n := 13) rfl rfl rfl ?_
    refine w_aload_nR (x := 58) (n := 14) rfl rfl rfl ?_
    refine w_getI (n := 17) rfl rfl rfl rfl ?_
    refine w_calli (as := [.ref 58, .int (I6 58 8)]) (rest := []) (n := 20) rfl rfl rfl rfl ?_
    obtain ⟨r17, I17, hI17, H⟩ := H
    refine ⟨r17, I17, hI17, ?_⟩
    refine w_goto rfl ?_
    exact w_ireturn rfl rfl H
theorem e_M_sizeOf {P : Int32 → mm_I → Prop} {I : mm_I} (x1 : Int32)
  (H : mm_Mi 181 [.ref 58, .int (I 58 8)] (mm_up I 58 6 x1) (fun r15 I15 =>  -- M.sizeBy
    P r15 (mm_up I15 58 6 (I 58 6)))) : mm_Mi 183 [.ref 58, .int x1] I P := by
  refine mm_Mi_of ?_
  show mm_W 183 0 [some (.ref 58), some (.int x1), none, none] [] I (mm_qi 183 P)
  refine w_aload_nR (x := 58) (n := 1) rfl rfl rfl ?_
  refine w_getI (n := 4) rfl rfl rfl rfl ?_
  refine w_istore_n (ls' := [some (.ref 58), some (.int x1), some (.int (I 58 6)), none]) (n := 5) rfl rfl rfl rfl ?_
  refine w_aload_nR (x := 58) (n := 6) rfl rfl rfl ?_
  refine w_iload_n (n := 7) rfl rfl rfl ?_
  refine w_putI (n := 10) rfl rfl rfl rfl rfl ?_
  refine w_aload_nR (x := 58) (n := 11) rfl rfl rfl ?_
  refine w_aload_nR (x := 58) (n := 12) rfl rfl rfl ?_
  refine w_getI (n := 15) rfl rfl rfl rfl ?_
  refine w_calli (as := [.ref 58, .int (I 58 8)]) (rest := []) (n := 18) rfl rfl rfl rfl ?_
  obtain ⟨r15, I15, hI15, H⟩ := H
  refine ⟨r15, I15, hI15, ?_⟩
  refine w_istore_n (ls' := [some (.ref 58), some (.int x1), some (.int (I 58 6)), some (.int r15)]) (n := 19) rfl rfl rfl rfl ?_
  refine w_aload_nR (x := 58) (n := 20) rfl rfl rfl ?_
  refine w_iload_n (n := 21) rfl rfl rfl ?_
  refine w_putI (n := 24) rfl rfl rfl rfl rfl ?_
  refine w_iload_n (n := 25) rfl rfl rfl ?_
  exact w_ireturn rfl rfl H
theorem e_M_sized {P : Int32 → mm_I → Prop} {I : mm_I} (x1 : Int32)
  (H : mm_Mi 127 [.int x1] (mm_up I 58 16 0) (fun r6 I6 =>  -- M.isFrame
    (r6 = 0 →
      P (-1) I6) ∧
    (¬ r6 = 0 →
      mm_Mi 146 [.ref 58] I6 (fun r13 I13 =>  -- M.isReady
      (r13 = 0 →
        P (-1) I13) ∧
      (¬ r13 = 0 →
        mm_Mi 183 [.ref 58, .int x1] I13 (fun r21 I21 =>  -- M.sizeOf
        P r21 I21)))))) : mm_Mi 184 [.ref 58, .int x1] I P := by
  refine mm_Mi_of ?_
  show mm_W 184 0 [some (.ref 58), some (.int x1)] [] I (mm_qi 184 P)
  refine w_aload_nR (x := 58) (n := 1) rfl rfl rfl ?_
  refine w_iconst (v := 0) (n := 2) rfl rfl rfl ?_
  refine w_putI (n := 5) rfl rfl rfl rfl rfl ?_
  refine w_iload_n (n := 6) rfl rfl rfl ?_
  refine w_calli (as := [.int x1]) (rest := []) (n := 9) rfl rfl rfl rfl ?_
  obtain ⟨r6, I6, hI6, H⟩ := H
  refine ⟨r6, I6, hI6, ?_⟩
  refine w_if_eq (n := 12) rfl rfl ⟨fun hc => ?_, fun hc => ?_⟩
  · replace H := H.1 hc
    refine w_iconst (v := (-1)) (n := 28) rfl rfl rfl ?_
    exact w_ireturn rfl rfl H
  · replace H := H.2 hc
    refine w_aload_nR (x := 58) (n := 13) rfl rfl rfl ?_
    refine w_calli (as := [.ref 58]) (rest := []) (n := 16) rfl rfl rfl rfl ?_
    obtain ⟨r13, I13, hI13, H⟩ := H
    refine ⟨r13, I13, hI13, ?_⟩
    refine w_if_eq (n := 19) rfl rfl ⟨fun hc => ?_, fun hc => ?_⟩
    · replace H := H.1 hc
      refine w_iconst (v := (-1)) (n := 28) rfl rfl rfl ?_
      exact w_ireturn rfl rfl H
    · replace H := H.2 hc
      refine w_aload_nR (x := 58) (n := 20) rfl rfl rfl ?_
      refine w_iload_n (n := 21) rfl rfl rfl ?_
      refine w_calli (as := [.ref 58, .int x1]) (rest := []) (n := 24) rfl rfl rfl rfl ?_
      obtain ⟨r21, I21, hI21, H⟩ := H
      refine ⟨r21, I21, hI21, ?_⟩
      refine w_goto rfl ?_
      exact w_ireturn rfl rfl H
theorem e_M_without {P : Int32 → mm_I → Prop} {I : mm_I} (x1 : Int32)
  (H : mm_Mi 125 [.int x1, .int 1, .int 7] (mm_up I 58 16 0) (fun r9 I9 =>  -- M.within
    (r9 = 0 →
      P (-1) I9) ∧
    (¬ r9 = 0 →
      mm_Mi 146 [.ref 58] I9 (fun r16 I16 =>  -- M.isReady
      (r16 = 0 →
        P (-1) I16) ∧
      (¬ r16 = 0 →
        mm_Mi 181 [.ref 58, .int ((I16 58 8) &&& ((1 <<< (x1 &&& 31)) ^^^ (-1)))] I16 (fun r33 I33 =>  -- M.sizeBy
        P r33 I33)))))) : mm_Mi 185 [.ref 58, .int x1] I P := by
  refine mm_Mi_of ?_
  show mm_W 185 0 [some (.ref 58), some (.int x1)] [] I (mm_qi 185 P)
  refine w_aload_nR (x := 58) (n := 1) rfl rfl rfl ?_
  refine w_iconst (v := 0) (n := 2) rfl rfl rfl ?_
  refine w_putI (n := 5) rfl rfl rfl rfl rfl ?_
  refine w_iload_n (n := 6) rfl rfl rfl ?_
  refine w_iconst (v := 1) (n := 7) rfl rfl rfl ?_
  refine w_bipush (v := 7) (n := 9) rfl rfl rfl ?_
  refine w_calli (as := [.int x1, .int 1, .int 7]) (rest := []) (n := 12) rfl rfl rfl rfl ?_
  obtain ⟨r9, I9, hI9, H⟩ := H
  refine ⟨r9, I9, hI9, ?_⟩
  refine w_if_eq (n := 15) rfl rfl ⟨fun hc => ?_, fun hc => ?_⟩
  · replace H := H.1 hc
    refine w_iconst (v := (-1)) (n := 40) rfl rfl rfl ?_
    exact w_ireturn rfl rfl H
  · replace H := H.2 hc
    refine w_aload_nR (x := 58) (n := 16) rfl rfl rfl ?_
    refine w_calli (as := [.ref 58]) (rest := []) (n := 19) rfl rfl rfl rfl ?_
    obtain ⟨r16, I16, hI16, H⟩ := H
    refine ⟨r16, I16, hI16, ?_⟩
    refine w_if_eq (n := 22) rfl rfl ⟨fun hc => ?_, fun hc => ?_⟩
    · replace H := H.1 hc
      refine w_iconst (v := (-1)) (n := 40) rfl rfl rfl ?_
      exact w_ireturn rfl rfl H
    · replace H := H.2 hc
      refine w_aload_nR (x := 58) (n := 23) rfl rfl rfl ?_
      refine w_aload_nR (x := 58) (n := 24) rfl rfl rfl ?_
      refine w_getI (n := 27) rfl rfl rfl rfl ?_
      refine w_iconst (v := 1) (n := 28) rfl rfl rfl ?_
      refine w_iload_n (n := 29) rfl rfl rfl ?_
      refine w_ishl (n := 30) rfl rfl ?_
      refine w_iconst (v := (-1)) (n := 31) rfl rfl rfl ?_
      refine w_ixor (n := 32) rfl rfl ?_
      refine w_iand (n := 33) rfl rfl ?_
      refine w_calli (as := [.ref 58, .int ((I16 58 8) &&& ((1 <<< (x1 &&& 31)) ^^^ (-1)))]) (rest := []) (n := 36) rfl rfl rfl rfl ?_
      obtain ⟨r33, I33, hI33, H⟩ := H
      refine ⟨r33, I33, hI33, ?_⟩
      refine w_goto rfl ?_
      exact w_ireturn rfl rfl H
theorem e_M_best {P : Int32 → mm_I → Prop} {I : mm_I}
  (H : mm_Mi 146 [.ref 58] (mm_up I 58 16 0) (fun r6 I6 =>  -- M.isReady
    (¬ r6 = 0 →
      mm_Mi 183 [.ref 58, .int 16] I6 (fun r20 I20 =>  -- M.sizeOf
      mm_W 186 27 [some (.ref 58), some (.int 16), some (.int r20), some (.int 24), none] [] I20 (mm_qi 186 P))) ∧
    (r6 = 0 →
      P (-1) I6))) : mm_Mi 186 [.ref 58] I P := by
  refine mm_Mi_of ?_
  show mm_W 186 0 [some (.ref 58), none, none, none, none] [] I (mm_qi 186 P)
  refine w_aload_nR (x := 58) (n := 1) rfl rfl rfl ?_
  refine w_iconst (v := 0) (n := 2) rfl rfl rfl ?_
  refine w_putI (n := 5) rfl rfl rfl rfl rfl ?_
  refine w_aload_nR (x := 58) (n := 6) rfl rfl rfl ?_
  refine w_calli (as := [.ref 58]) (rest := []) (n := 9) rfl rfl rfl rfl ?_
  obtain ⟨r6, I6, hI6, H⟩ := H
  refine ⟨r6, I6, hI6, ?_⟩
  refine w_if_ne (n := 12) rfl rfl ⟨fun hc => ?_, fun hc => ?_⟩
  · replace H := H.1 hc
    refine w_bipush (v := 16) (n := 16) rfl rfl rfl ?_
    refine w_istore_n (ls' := [some (.ref 58), some (.int 16), none, none, none]) (n := 17) rfl rfl rfl rfl ?_
    refine w_aload_nR (x := 58) (n := 18) rfl rfl rfl ?_
    refine w_bipush (v := 16) (n := 20) rfl rfl rfl ?_
    refine w_calli (as := [.ref 58, .int 16]) (rest := []) (n := 23) rfl rfl rfl rfl ?_
    obtain ⟨r20, I20, hI20, H⟩ := H
    refine ⟨r20, I20, hI20, ?_⟩
    refine w_istore_n (ls' := [some (.ref 58), some (.int 16), some (.int r20), none, none]) (n := 24) rfl rfl rfl rfl ?_
    refine w_bipush (v := 24) (n := 26) rfl rfl rfl ?_
    refine w_istore_n (ls' := [some (.ref 58), some (.int 16), some (.int r20), some (.int 24), none]) (n := 27) rfl rfl rfl rfl ?_
    exact w_drp mm_Qf_i H (lb_s (lb_s (lb_s (lb_s (lb_n lb_e)))))
  · replace H := H.2 hc
    refine w_iconst (v := (-1)) (n := 13) rfl rfl rfl ?_
    exact w_ireturn rfl rfl H
theorem c_M_best_27 {P : Int32 → mm_I → Prop} {I : mm_I} (x1 : Int32) (x2 : Int32) (x3 : Int32)
  (H : (64 < x3 →
      P x1 I) ∧
    (x3 ≤ 64 →
      mm_Mi 183 [.ref 58, .int x3] I (fun r35 I35 =>  -- M.sizeOf
      mm_W 186 27 [some (.ref 58), some (.int (if r35 < x2 then (x3 : Int32) else x1)), some (.int (if r35 < x2 then (r35 : Int32) else x2)), some (.int (x3 + 8)), none] [] I35 (mm_qi 186 P)))) : mm_W 186 27 [some (.ref 58), some (.int x1), some (.int x2), some (.int x3), none] [] I (mm_qi 186 P) := by
  refine w_iload_n (n := 28) rfl rfl rfl ?_
  refine w_bipush (v := 64) (n := 30) rfl rfl rfl ?_
  refine w_icmp_gt (n := 33) rfl rfl ⟨fun hc => ?_, fun hc => ?_⟩
  · replace H := H.1 hc
    refine w_iload_n (n := 61) rfl rfl rfl ?_
    exact w_ireturn rfl rfl H
  · replace H := H.2 hc
    refine w_aload_nR (x := 58) (n := 34) rfl rfl rfl ?_
    refine w_iload_n (n := 35) rfl rfl rfl ?_
    refine w_calli (as := [.ref 58, .int x3]) (rest := []) (n := 38) rfl rfl rfl rfl ?_
    obtain ⟨r35, I35, hI35, H⟩ := H
    refine ⟨r35, I35, hI35, ?_⟩
    refine w_istore (ls' := [some (.ref 58), some (.int x1), some (.int x2), some (.int x3), some (.int r35)]) (n := 40) rfl rfl rfl rfl ?_
    refine w_iload (n := 42) rfl rfl rfl ?_
    refine w_iload_n (n := 43) rfl rfl rfl ?_
    have J43 : ∀ (y43_1 : Int32) (y43_2 : Int32), y43_1 = (if r35 < x2 then (x3 : Int32) else x1) → y43_2 = (if r35 < x2 then (r35 : Int32) else x2) → mm_W 186 54 [some (.ref 58), some (.int y43_1), some (.int y43_2), some (.int x3), some (.int r35)] [] I35 (mm_qi 186 P) := by
      intro y43_1 y43_2 e43_0 e43_1
      subst e43_0
      subst e43_1
      refine w_iinc (y := x3 + 8) (ls' := [some (.ref 58), some (.int (if r35 < x2 then (x3 : Int32) else x1)), some (.int (if r35 < x2 then (r35 : Int32) else x2)), some (.int (x3 + 8)), some (.int r35)]) (n := 57) rfl rfl rfl rfl rfl ?_
      refine w_goto rfl ?_
      exact w_drp mm_Qf_i H (lb_s (lb_s (lb_s (lb_s (lb_n lb_e)))))
    refine w_icmp_lt (n := 46) rfl rfl ⟨fun hc => ?_, fun hc => ?_⟩
    · refine w_iload_n (n := 50) rfl rfl rfl ?_
      refine w_istore_n (ls' := [some (.ref 58), some (.int x3), some (.int x2), some (.int x3), some (.int r35)]) (n := 51) rfl rfl rfl rfl ?_
      refine w_iload (n := 53) rfl rfl rfl ?_
      refine w_istore_n (ls' := [some (.ref 58), some (.int x3), some (.int r35), some (.int x3), some (.int r35)]) (n := 54) rfl rfl rfl rfl ?_
      refine w_drp mm_Qf_i (J43 _ _ ?_ ?_) (lb_s (lb_s (lb_s (lb_s (lb_s lb_e)))))
      · exact (if_pos hc).symm
      · exact (if_pos hc).symm
    · refine w_goto rfl ?_
      refine w_drp mm_Qf_i (J43 _ _ ?_ ?_) (lb_s (lb_s (lb_s (lb_s (lb_s lb_e)))))
      · exact (if_neg (fa_nlt hc)).symm
      · exact (if_neg (fa_nlt hc)).symm
theorem e_M_putsByte {P : mm_I → Prop} {I : mm_I} (x1 : Int32)
  (H : vp_in (I 58 15) 4000 ∧
    P (mm_up (mm_up (mm_up I 66 ((I 58 15).toNatClampNeg) (x1 &&& 255)) 58 15 ((I 58 15) + 1)) 58 34 0)) : mm_Mv 187 [.ref 58, .int x1] I P := by
  refine mm_Mv_of ?_
  show mm_W 187 0 [some (.ref 58), some (.int x1)] [] I (mm_qv 187 P)
  refine w_aload_nR (x := 58) (n := 1) rfl rfl rfl ?_
  refine w_getR (b := 66) (n := 4) rfl rfl rfl rfl rfl ?_
  refine w_aload_nR (x := 58) (n := 5) rfl rfl rfl ?_
  refine w_getI (n := 8) rfl rfl rfl rfl ?_
  refine w_iload_n (n := 9) rfl rfl rfl ?_
  refine w_sipush (v := 255) (n := 12) rfl rfl rfl ?_
  refine w_iand (n := 13) rfl rfl ?_
  refine w_iastore (N := 4000) (j := (I 58 15).toNatClampNeg) (n := 14) rfl rfl rfl rfl rfl ⟨H.1, ?_⟩
  replace H := H.2
  refine w_aload_nR (x := 58) (n := 15) rfl rfl rfl ?_
  refine w_dup (n := 16) rfl rfl rfl ?_
  refine w_getI (n := 19) rfl rfl rfl rfl ?_
  refine w_iconst (v := 1) (n := 20) rfl rfl rfl ?_
  refine w_iadd (n := 21) rfl rfl ?_
  refine w_putI (n := 24) rfl rfl rfl rfl rfl ?_
  refine w_aload_nR (x := 58) (n := 25) rfl rfl rfl ?_
  refine w_iconst (v := 0) (n := 26) rfl rfl rfl ?_
  refine w_putI (n := 29) rfl rfl rfl rfl rfl ?_
  exact w_vreturn rfl rfl H
theorem e_M_putsBits {P : mm_I → Prop} {I : mm_I} (x1 : Int32) (x2 : Int32)
  (H : mm_W 188 4 [some (.ref 58), some (.int x1), none, some (.int (x2 - 1))] [] I (mm_qv 188 P)) : mm_Mv 188 [.ref 58, .int x1, .int x2] I P := by
  refine mm_Mv_of ?_
  show mm_W 188 0 [some (.ref 58), some (.int x1), some (.int x2), none] [] I (mm_qv 188 P)
  refine w_iload_n (n := 1) rfl rfl rfl ?_
  refine w_iconst (v := 1) (n := 2) rfl rfl rfl ?_
  refine w_isub (n := 3) rfl rfl ?_
  refine w_istore_n (ls' := [some (.ref 58), some (.int x1), some (.int x2), some (.int (x2 - 1))]) (n := 4) rfl rfl rfl rfl ?_
  exact w_drp mm_Qf_v H (lb_s (lb_s (lb_n (lb_s lb_e))))
theorem c_M_putsBits_4 {P : mm_I → Prop} {I : mm_I} (x1 : Int32) (x3 : Int32)
  (H : (x3 < 0 →
      P I) ∧
    (0 ≤ x3 →
      (¬ (I 58 34) = 0 →
        vp_in ((I 58 15) - 1) 4000 ∧
        vp_in ((I 58 15) - 1) 4000 ∧
        mm_W 188 4 [some (.ref 58), some (.int x1), none, some (.int (x3 + (-1)))] [] (mm_up (mm_up I 66 (((I 58 15) - 1).toNatClampNeg) ((I 66 (((I 58 15) - 1).toNatClampNeg)) ||| (((x1 >>> (x3 &&& 31)) &&& 1) <<< ((7 - (I 58 34)) &&& 31)))) 58 34 (((I 58 34) + 1) - ((I 58 34) + 1) / 8 * 8)) (mm_qv 188 P)) ∧
      ((I 58 34) = 0 →
        mm_Mv 187 [.ref 58, .int 0] I (fun I17 =>  -- M.putsByte
        vp_in ((I17 58 15) - 1) 4000 ∧
        vp_in ((I17 58 15) - 1) 4000 ∧
        mm_W 188 4 [some (.ref 58), some (.int x1), none, some (.int (x3 + (-1)))] [] (mm_up (mm_up I17 66 (((I17 58 15) - 1).toNatClampNeg) ((I17 66 (((I17 58 15) - 1).toNatClampNeg)) ||| (((x1 >>> (x3 &&& 31)) &&& 1) <<< ((7 - (I17 58 34)) &&& 31)))) 58 34 (((I17 58 34) + 1) - ((I17 58 34) + 1) / 8 * 8)) (mm_qv 188 P))))) : mm_W 188 4 [some (.ref 58), some (.int x1), none, some (.int x3)] [] I (mm_qv 188 P) := by
  refine w_iload_n (n := 5) rfl rfl rfl ?_
  refine w_if_lt (n := 8) rfl rfl ⟨fun hc => ?_, fun hc => ?_⟩
  · replace H := H.1 hc
    exact w_vreturn rfl rfl H
  · replace H := H.2 hc
    refine w_aload_nR (x := 58) (n := 9) rfl rfl rfl ?_
    refine w_getI (n := 12) rfl rfl rfl rfl ?_
    refine w_if_ne (n := 15) rfl rfl ⟨fun hc => ?_, fun hc => ?_⟩
    · replace H := H.1 hc
      refine w_aload_nR (x := 58) (n := 21) rfl rfl rfl ?_
      refine w_getR (b := 66) (n := 24) rfl rfl rfl rfl rfl ?_
      refine w_aload_nR (x := 58) (n := 25) rfl rfl rfl ?_
      refine w_getI (n := 28) rfl rfl rfl rfl ?_
      refine w_iconst (v := 1) (n := 29) rfl rfl rfl ?_
      refine w_isub (n := 30) rfl rfl ?_
      refine w_dup2 (n := 31) rfl rfl rfl ?_
      refine w_iaload (N := 4000) (j := ((I 58 15) - 1).toNatClampNeg) (n := 32) rfl rfl rfl rfl rfl rfl ⟨H.1, ?_⟩
      replace H := H.2
      refine w_iload_n (n := 33) rfl rfl rfl ?_
      refine w_iload_n (n := 34) rfl rfl rfl ?_
      refine w_ishr (n := 35) rfl rfl ?_
      refine w_iconst (v := 1) (n := 36) rfl rfl rfl ?_
      refine w_iand (n := 37) rfl rfl ?_
      refine w_bipush (v := 7) (n := 39) rfl rfl rfl ?_
      refine w_aload_nR (x := 58) (n := 40) rfl rfl rfl ?_
      refine w_getI (n := 43) rfl rfl rfl rfl ?_
      refine w_isub (n := 44) rfl rfl ?_
      refine w_ishl (n := 45) rfl rfl ?_
      refine w_ior (n := 46) rfl rfl ?_
      refine w_iastore (N := 4000) (j := ((I 58 15) - 1).toNatClampNeg) (n := 47) rfl rfl rfl rfl rfl ⟨H.1, ?_⟩
      replace H := H.2
      refine w_aload_nR (x := 58) (n := 48) rfl rfl rfl ?_
      refine w_aload_nR (x := 58) (n := 49) rfl rfl rfl ?_
      refine w_getI (n := 52) rfl rfl rfl rfl ?_
      refine w_iconst (v := 1) (n := 53) rfl rfl rfl ?_
      refine w_iadd (n := 54) rfl rfl ?_
      refine w_bipush (v := 8) (n := 56) rfl rfl rfl ?_
      refine w_irem (n := 57) rfl rfl ⟨by decide, ?_⟩
      refine w_putI (n := 60) rfl rfl rfl rfl rfl ?_
      refine w_iinc (y := x3 + (-1)) (ls' := [some (.ref 58), some (.int x1), none, some (.int (x3 + (-1)))]) (n := 63) rfl rfl rfl rfl rfl ?_
      refine w_goto rfl ?_
      exact w_drp mm_Qf_v H (lb_s (lb_s (lb_n (lb_s lb_e))))
    · replace H := H.2 hc
      refine w_aload_nR (x := 58) (n := 16) rfl rfl rfl ?_
      refine w_iconst (v := 0) (n := 17) rfl rfl rfl ?_
      refine w_callv (as := [.ref 58, .int 0]) (rest := []) (n := 20) rfl rfl rfl rfl ?_
      obtain ⟨I17, hI17, H⟩ := H
      refine ⟨I17, hI17, ?_⟩
      refine w_aload_nR (x := 58) (n := 21) rfl rfl rfl ?_
      refine w_getR (b := 66) (n := 24) rfl rfl rfl rfl rfl ?_
      refine w_aload_nR (x := 58) (n := 25) rfl rfl rfl ?_
      refine w_getI (n := 28) rfl rfl rfl rfl ?_
      refine w_iconst (v := 1) (n := 29) rfl rfl rfl ?_
      refine w_isub (n := 30) rfl rfl ?_
      refine w_dup2 (n := 31) rfl rfl rfl ?_
      refine w_iaload (N := 4000) (j := ((I17 58 15) - 1).toNatClampNeg) (n := 32) rfl rfl rfl rfl rfl rfl ⟨H.1, ?_⟩
      replace H := H.2
      refine w_iload_n (n := 33) rfl rfl rfl ?_
      refine w_iload_n (n := 34) rfl rfl rfl ?_
      refine w_ishr (n := 35) rfl rfl ?_
      refine w_iconst (v := 1) (n := 36) rfl rfl rfl ?_
      refine w_iand (n := 37) rfl rfl ?_
      refine w_bipush (v := 7) (n := 39) rfl rfl rfl ?_
      refine w_aload_nR (x := 58) (n := 40) rfl rfl rfl ?_
      refine w_getI (n := 43) rfl rfl rfl rfl ?_
      refine w_isub (n := 44) rfl rfl ?_
      refine w_ishl (n := 45) rfl rfl ?_
      refine w_ior (n := 46) rfl rfl ?_
      refine w_iastore (N := 4000) (j := ((I17 58 15) - 1).toNatClampNeg) (n := 47) rfl rfl rfl rfl rfl ⟨H.1, ?_⟩
      replace H := H.2
      refine w_aload_nR (x := 58) (n := 48) rfl rfl rfl ?_
      refine w_aload_nR (x := 58) (n := 49) rfl rfl rfl ?_
      refine w_getI (n := 52) rfl rfl rfl rfl ?_
      refine w_iconst (v := 1) (n := 53) rfl rfl rfl ?_
      refine w_iadd (n := 54) rfl rfl ?_
      refine w_bipush (v := 8) (n := 56) rfl rfl rfl ?_
      refine w_irem (n := 57) rfl rfl ⟨by decide, ?_⟩
      refine w_putI (n := 60) rfl rfl rfl rfl rfl ?_
      refine w_iinc (y := x3 + (-1)) (ls' := [some (.ref 58), some (.int x1), none, some (.int (x3 + (-1)))]) (n := 63) rfl rfl rfl rfl rfl ?_
      refine w_goto rfl ?_
      exact w_drp mm_Qf_v H (lb_s (lb_s (lb_n (lb_s lb_e))))
theorem e_M_checked {P : Int32 → mm_I → Prop} {I : mm_I} (x1 : Int32) (x2 : Int32)
  (H : mm_W 189 7 [some (.ref 58), none, some (.int x2), some (.int 65535), some (.int x1), none] [] I (mm_qi 189 P)) : mm_Mi 189 [.ref 58, .int x1, .int x2] I P := by
  refine mm_Mi_of ?_
  show mm_W 189 0 [some (.ref 58), some (.int x1), some (.int x2), none, none, none] [] I (mm_qi 189 P)
  refine w_ldc_w (v := 65535) (n := 3) rfl rfl rfl ?_
  refine w_istore_n (ls' := [some (.ref 58), some (.int x1), some (.int x2), some (.int 65535), none, none]) (n := 4) rfl rfl rfl rfl ?_
  refine w_iload_n (n := 5) rfl rfl rfl ?_
  refine w_istore (ls' := [some (.ref 58), some (.int x1), some (.int x2), some (.int 65535), some (.int x1), none]) (n := 7) rfl rfl rfl rfl ?_
  exact w_drp mm_Qf_i H (lb_s (lb_n (lb_s (lb_s (lb_s (lb_n lb_e))))))
theorem c_M_checked_7 {P : Int32 → mm_I → Prop} {I : mm_I} (x2 : Int32) (x3 : Int32) (x4 : Int32)
  (H : (x2 ≤ x4 →
      P x3 I) ∧
    (x4 < x2 →
      vp_in x4 4000 ∧
      mm_W 189 30 [some (.ref 58), none, some (.int x2), some (.int (x3 ^^^ (256 * (I 66 x4.toNatClampNeg)))), some (.int x4), some (.int 0)] [] I (mm_qi 189 P))) : mm_W 189 7 [some (.ref 58), none, some (.int x2), some (.int x3), some (.int x4), none] [] I (mm_qi 189 P) := by
  refine w_iload (n := 9) rfl rfl rfl ?_
  refine w_iload_n (n := 10) rfl rfl rfl ?_
  refine w_icmp_ge (n := 13) rfl rfl ⟨fun hc => ?_, fun hc => ?_⟩
  · replace H := H.1 hc
    refine w_iload_n (n := 75) rfl rfl rfl ?_
    exact w_ireturn rfl rfl H
  · replace H := H.2 hc
    refine w_iload_n (n := 14) rfl rfl rfl ?_
    refine w_sipush (v := 256) (n := 17) rfl rfl rfl ?_
    refine w_aload_nR (x := 58) (n := 18) rfl rfl rfl ?_
    refine w_getR (b := 66) (n := 21) rfl rfl rfl rfl rfl ?_
    refine w_iload (n := 23) rfl rfl rfl ?_
    refine w_iaload (N := 4000) (j := x4.toNatClampNeg) (n := 24) rfl rfl rfl rfl rfl rfl ⟨H.1, ?_⟩
    replace H := H.2
    refine w_imul (n := 25) rfl rfl ?_
    refine w_ixor (n := 26) rfl rfl ?_
    refine w_istore_n (ls' := [some (.ref 58), none, some (.int x2), some (.int (x3 ^^^ (256 * (I 66 x4.toNatClampNeg)))), some (.int x4), none]) (n := 27) rfl rfl rfl rfl ?_
    refine w_iconst (v := 0) (n := 28) rfl rfl rfl ?_
    refine w_istore (ls' := [some (.ref 58), none, some (.int x2), some (.int (x3 ^^^ (256 * (I 66 x4.toNatClampNeg)))), some (.int x4), some (.int 0)]) (n := 30) rfl rfl rfl rfl ?_
    exact w_drp mm_Qf_i H (lb_s (lb_n (lb_s (lb_s (lb_s (lb_s lb_e))))))
theorem c_M_checked_30 {P : Int32 → mm_I → Prop} {I : mm_I} (x2 : Int32) (x3 : Int32) (x4 : Int32) (x5 : Int32)
  (H : (8 ≤ x5 →
      mm_W 189 7 [some (.ref 58), none, some (.int x2), some (.int x3), some (.int (x4 + 1)), none] [] I (mm_qi 189 P)) ∧
    (x5 < 8 →
      mm_W 189 30 [some (.ref 58), none, some (.int x2), some (.int ((if x3 < 32768 then (2 * x3 : Int32) else (2 * x3) ^^^ 4129) &&& 65535)), some (.int x4), some (.int (x5 + 1))] [] I (mm_qi 189 P))) : mm_W 189 30 [some (.ref 58), none, some (.int x2), some (.int x3), some (.int x4), some (.int x5)] [] I (mm_qi 189 P) := by
  refine w_iload (n := 32) rfl rfl rfl ?_
  refine w_bipush (v := 8) (n := 34) rfl rfl rfl ?_
  refine w_icmp_ge (n := 37) rfl rfl ⟨fun hc => ?_, fun hc => ?_⟩
  · replace H := H.1 hc
    refine w_iinc (y := x4 + 1) (ls' := [some (.ref 58), none, some (.int x2), some (.int x3), some (.int (x4 + 1)), some (.int x5)]) (n := 71) rfl rfl rfl rfl rfl ?_
    refine w_goto rfl ?_
    exact w_drp mm_Qf_i H (lb_s (lb_n (lb_s (lb_s (lb_s (lb_n lb_e))))))
  · replace H := H.2 hc
    refine w_iload_n (n := 38) rfl rfl rfl ?_
    refine w_ldc_w (v := 32768) (n := 41) rfl rfl rfl ?_
    have J41 : ∀ (w41_0 : Int32), w41_0 = (if x3 < 32768 then (2 * x3 : Int32) else (2 * x3) ^^^ 4129) → mm_W 189 57 [some (.ref 58), none, some (.int x2), some (.int x3), some (.int x4), some (.int x5)] [.int w41_0] I (mm_qi 189 P) := by
      intro w41_0 e41_0
      subst e41_0
      refine w_ldc_w (v := 65535) (n := 60) rfl rfl rfl ?_
      refine w_iand (n := 61) rfl rfl ?_
      refine w_istore_n (ls' := [some (.ref 58), none, some (.int x2), some (.int ((if x3 < 32768 then (2 * x3 : Int32) else (2 * x3) ^^^ 4129) &&& 65535)), some (.int x4), some (.int x5)]) (n := 62) rfl rfl rfl rfl ?_
      refine w_iinc (y := x5 + 1) (ls' := [some (.ref 58), none, some (.int x2), some (.int ((if x3 < 32768 then (2 * x3 : Int32) else (2 * x3) ^^^ 4129) &&& 65535)), some (.int x4), some (.int (x5 + 1))]) (n := 65) rfl rfl rfl rfl rfl ?_
      refine w_goto rfl ?_
      exact w_drp mm_Qf_i H (lb_s (lb_n (lb_s (lb_s (lb_s (lb_s lb_e))))))
    refine w_icmp_lt (n := 44) rfl rfl ⟨fun hc => ?_, fun hc => ?_⟩
    · refine w_iconst (v := 2) (n := 55) rfl rfl rfl ?_
      refine w_iload_n (n := 56) rfl rfl rfl ?_
      refine w_imul (n := 57) rfl rfl ?_
      refine w_drp mm_Qf_i (J41 _ ?_) (lb_s (lb_n (lb_s (lb_s (lb_s (lb_s lb_e))))))
      · exact (if_pos hc).symm
    · refine w_iconst (v := 2) (n := 45) rfl rfl rfl ?_
      refine w_iload_n (n := 46) rfl rfl rfl ?_
      refine w_imul (n := 47) rfl rfl ?_
      refine w_sipush (v := 4129) (n := 50) rfl rfl rfl ?_
      refine w_ixor (n := 51) rfl rfl ?_
      refine w_goto rfl ?_
      refine w_drp mm_Qf_i (J41 _ ?_) (lb_s (lb_n (lb_s (lb_s (lb_s (lb_s lb_e))))))
      · exact (if_neg (fa_nlt hc)).symm
theorem e_M_putsCheck {P : mm_I → Prop} {I : mm_I} (x1 : Int32)
  (H : mm_Mi 189 [.ref 58, .int x1, .int (I 58 15)] I (fun r6 I6 =>  -- M.checked
    mm_Mv 187 [.ref 58, .int (r6 >>> (8 &&& 31))] I6 (fun I15 =>  -- M.putsByte
    mm_Mv 187 [.ref 58, .int r6] I15 (fun I20 =>  -- M.putsByte
    P I20)))) : mm_Mv 190 [.ref 58, .int x1] I P := by
  refine mm_Mv_of ?_
  show mm_W 190 0 [some (.ref 58), some (.int x1), none] [] I (mm_qv 190 P)
  refine w_aload_nR (x := 58) (n := 1) rfl rfl rfl ?_
  refine w_iload_n (n := 2) rfl rfl rfl ?_
  refine w_aload_nR (x := 58) (n := 3) rfl rfl rfl ?_
  refine w_getI (n := 6) rfl rfl rfl rfl ?_
  refine w_calli (as := [.ref 58, .int x1, .int (I 58 15)]) (rest := []) (n := 9) rfl rfl rfl rfl ?_
  obtain ⟨r6, I6, hI6, H⟩ := H
  refine ⟨r6, I6, hI6, ?_⟩
  refine w_istore_n (ls' := [some (.ref 58), some (.int x1), some (.int r6)]) (n := 10) rfl rfl rfl rfl ?_
  refine w_aload_nR (x := 58) (n := 11) rfl rfl rfl ?_
  refine w_iload_n (n := 12) rfl rfl rfl ?_
  refine w_bipush (v := 8) (n := 14) rfl rfl rfl ?_
  refine w_ishr (n := 15) rfl rfl ?_
  refine w_callv (as := [.ref 58, .int (r6 >>> (8 &&& 31))]) (rest := []) (n := 18) rfl rfl rfl rfl ?_
  obtain ⟨I15, hI15, H⟩ := H
  refine ⟨I15, hI15, ?_⟩
  refine w_aload_nR (x := 58) (n := 19) rfl rfl rfl ?_
  refine w_iload_n (n := 20) rfl rfl rfl ?_
  refine w_callv (as := [.ref 58, .int r6]) (rest := []) (n := 23) rfl rfl rfl rfl ?_
  obtain ⟨I20, hI20, H⟩ := H
  refine ⟨I20, hI20, ?_⟩
  exact w_vreturn rfl rfl H
