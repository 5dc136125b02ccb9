theorem e_M_putsRun {P : mm_I → Prop} {I : mm_I} (x1 : Int32) (x2 : Int32) (x3 : Int32) (x4 : Int32)
  (H : mm_Mv 188 [.ref 58, .int ((x2 - x1) - 1), .int 3] I (fun I7 =>  -- M.putsBits
    mm_Mv 188 [.ref 58, .int x3, .int 4] I7 (fun I13 =>  -- M.putsBits
    (¬ x3 = 15 →
      mm_W 191 60 [some (.ref 58), none, none, some (.int x3), none, some (.int (8 * x1)), some (.int (if (I13 58 21) ≤ (8 * x2) then ((I13 58 21) : Int32) else 8 * x2)), some (.int 1), some (.int (8 * x1)), none, none] [] I13 (mm_qv 191 P)) ∧
    (x3 = 15 →
      P I13)))) : mm_Mv 191 [.ref 58, .int x1, .int x2, .int x3, .int x4] I P := by
  refine mm_Mv_of ?_
  show mm_W 191 0 [some (.ref 58), some (.int x1), some (.int x2), some (.int x3), some (.int x4), none, none, none, none, none, none] [] I (mm_qv 191 P)
  refine w_aload_nR (x := 58) (n := 1) rfl rfl rfl ?_
  refine w_iload_n (n := 2) rfl rfl rfl ?_
  refine w_iload_n (n := 3) rfl rfl rfl ?_
  refine w_isub (n := 4) rfl rfl ?_
  refine w_iconst (v := 1) (n := 5) rfl rfl rfl ?_
  refine w_isub (n := 6) rfl rfl ?_
  refine w_iconst (v := 3) (n := 7) rfl rfl rfl ?_
  refine w_callv (as := [.ref 58, .int ((x2 - x1) - 1), .int 3]) (rest := []) (n := 10) rfl rfl rfl rfl ?_
  obtain ⟨I7, hI7, H⟩ := H
  refine ⟨I7, hI7, ?_⟩
  refine w_aload_nR (x := 58) (n := 11) rfl rfl rfl ?_
  refine w_iload_n (n := 12) rfl rfl rfl ?_
  refine w_iconst (v := 4) (n := 13) rfl rfl rfl ?_
  refine w_callv (as := [.ref 58, .int x3, .int 4]) (rest := []) (n := 16) rfl rfl rfl rfl ?_
  obtain ⟨I13, hI13, H⟩ := H
  refine ⟨I13, hI13, ?_⟩
  refine w_iload_n (n := 17) rfl rfl rfl ?_
  refine w_bipush (v := 15) (n := 19) rfl rfl rfl ?_
  refine w_icmp_ne (n := 22) rfl rfl ⟨fun hc => ?_, fun hc => ?_⟩
  · replace H := H.1 hc
    refine w_bipush (v := 8) (n := 25) rfl rfl rfl ?_
    refine w_iload_n (n := 26) rfl rfl rfl ?_
    refine w_imul (n := 27) rfl rfl ?_
    refine w_istore (ls' := [some (.ref 58), some (.int x1), some (.int x2), some (.int x3), some (.int x4), some (.int (8 * x1)), none, none, none, none, none]) (n := 29) rfl rfl rfl rfl ?_
    refine w_bipush (v := 8) (n := 31) rfl rfl rfl ?_
    refine w_iload_n (n := 32) rfl rfl rfl ?_
    refine w_imul (n := 33) rfl rfl ?_
    refine w_aload_nR (x := 58) (n := 34) rfl rfl rfl ?_
    refine w_getI (n := 37) rfl rfl rfl rfl ?_
    have J37 : ∀ (w37_0 : Int32), w37_0 = (if (I13 58 21) ≤ (8 * x2) then ((I13 58 21) : Int32) else 8 * x2) → mm_W 191 51 [some (.ref 58), some (.int x1), some (.int x2), some (.int x3), some (.int x4), some (.int (8 * x1)), none, none, none, none, none] [.int w37_0] I13 (mm_qv 191 P) := by
      intro w37_0 e37_0
      subst e37_0
      refine w_istore (ls' := [some (.ref 58), some (.int x1), some (.int x2), some (.int x3), some (.int x4), some (.int (8 * x1)), some (.int (if (I13 58 21) ≤ (8 * x2) then ((I13 58 21) : Int32) else 8 * x2)), none, none, none, none]) (n := 53) rfl rfl rfl rfl ?_
      refine w_iconst (v := 1) (n := 54) rfl rfl rfl ?_
      refine w_istore (ls' := [some (.ref 58), some (.int x1), some (.int x2), some (.int x3), some (.int x4), some (.int (8 * x1)), some (.int (if (I13 58 21) ≤ (8 * x2) then ((I13 58 21) : Int32) else 8 * x2)), some (.int 1), none, none, none]) (n := 56) rfl rfl rfl rfl ?_
      refine w_iload (n := 58) rfl rfl rfl ?_
      refine w_istore (ls' := [some (.ref 58), some (.int x1), some (.int x2), some (.int x3), some (.int x4), some (.int (8 * x1)), some (.int (if (I13 58 21) ≤ (8 * x2) then ((I13 58 21) : Int32) else 8 * x2)), some (.int 1), some (.int (8 * x1)), none, none]) (n := 60) rfl rfl rfl rfl ?_
      exact w_drp mm_Qf_v H (lb_s (lb_n (lb_n (lb_s (lb_n (lb_s (lb_s (lb_s (lb_s (lb_n (lb_n lb_e)))))))))))
    refine w_icmp_ge (n := 40) rfl rfl ⟨fun hc => ?_, fun hc => ?_⟩
    · refine w_aload_nR (x := 58) (n := 48) rfl rfl rfl ?_
      refine w_getI (n := 51) rfl rfl rfl rfl ?_
      refine w_drp mm_Qf_v (J37 _ ?_) (lb_s (lb_s (lb_s (lb_s (lb_s (lb_s (lb_n (lb_n (lb_n (lb_n (lb_n lb_e)))))))))))
      · exact (if_pos hc).symm
    · refine w_bipush (v := 8) (n := 42) rfl rfl rfl ?_
      refine w_iload_n (n := 43) rfl rfl rfl ?_
      refine w_imul (n := 44) rfl rfl ?_
      refine w_goto rfl ?_
      refine w_drp mm_Qf_v (J37 _ ?_) (lb_s (lb_s (lb_s (lb_s (lb_s (lb_s (lb_n (lb_n (lb_n (lb_n (lb_n lb_e)))))))))))
      · exact (if_neg (fa_nle hc)).symm
  · replace H := H.2 hc
    exact w_vreturn rfl rfl H
theorem c_M_putsRun_60 {P : mm_I → Prop} {I : mm_I} (x3 : Int32) (x5 : Int32) (x6 : Int32) (x7 : Int32) (x8 : Int32)
  (H : (x6 ≤ x8 →
      (¬ x3 = 14 →
        mm_W 191 117 [some (.ref 58), none, none, some (.int x3), none, none, some (.int x6), some (.int x7), some (.int x5), none, none] [] I (mm_qv 191 P)) ∧
      (x3 = 14 →
        mm_Mv 188 [.ref 58, .int x7, .int 5] I (fun I110 =>  -- M.putsBits
        mm_W 191 117 [some (.ref 58), none, none, some (.int x3), none, none, some (.int x6), some (.int x7), some (.int x5), none, none] [] I110 (mm_qv 191 P)))) ∧
    (x8 < x6 →
      vp_in x8 64 ∧
      mm_Mi 153 [.int (I 68 x8.toNatClampNeg)] I (fun r74 I74 =>  -- M.widthOf
      (r74 ≤ x7 →
        mm_W 191 60 [some (.ref 58), none, none, some (.int x3), none, some (.int x5), some (.int x6), some (.int x7), some (.int (x8 + 1)), none, none] [] I74 (mm_qv 191 P)) ∧
      (x7 < r74 →
        vp_in x8 64 ∧
        mm_Mi 153 [.int (I74 68 x8.toNatClampNeg)] I74 (fun r89 I89 =>  -- M.widthOf
        mm_W 191 60 [some (.ref 58), none, none, some (.int x3), none, some (.int x5), some (.int x6), some (.int r89), some (.int (x8 + 1)), none, none] [] I89 (mm_qv 191 P)))))) : mm_W 191 60 [some (.ref 58), none, none, some (.int x3), none, some (.int x5), some (.int x6), some (.int x7), some (.int x8), none, none] [] I (mm_qv 191 P) := by
  refine w_iload (n := 62) rfl rfl rfl ?_
  refine w_iload (n := 64) rfl rfl rfl ?_
  refine w_icmp_ge (n := 67) rfl rfl ⟨fun hc => ?_, fun hc => ?_⟩
  · replace H := H.1 hc
    refine w_iload_n (n := 101) rfl rfl rfl ?_
    refine w_bipush (v := 14) (n := 103) rfl rfl rfl ?_
    refine w_icmp_ne (n := 106) rfl rfl ⟨fun hc => ?_, fun hc => ?_⟩
    · replace H := H.1 hc
      refine w_iload (n := 115) rfl rfl rfl ?_
      refine w_istore (ls' := [some (.ref 58), none, none, some (.int x3), none, some (.int x5), some (.int x6), some (.int x7), some (.int x5), none, none]) (n := 117) rfl rfl rfl rfl ?_
      exact w_drp mm_Qf_v H (lb_s (lb_n (lb_n (lb_s (lb_n (lb_n (lb_s (lb_s (lb_s (lb_n (lb_n lb_e)))))))))))
    · replace H := H.2 hc
      refine w_aload_nR (x := 58) (n := 107) rfl rfl rfl ?_
      refine w_iload (n := 109) rfl rfl rfl ?_
      refine w_iconst (v := 5) (n := 110) rfl rfl rfl ?_
      refine w_callv (as := [.ref 58, .int x7, .int 5]) (rest := []) (n := 113) rfl rfl rfl rfl ?_
      obtain ⟨I110, hI110, H⟩ := H
      refine ⟨I110, hI110, ?_⟩
      refine w_iload (n := 115) rfl rfl rfl ?_
      refine w_istore (ls' := [some (.ref 58), none, none, some (.int x3), none, some (.int x5), some (.int x6), some (.int x7), some (.int x5), none, none]) (n := 117) rfl rfl rfl rfl ?_
      exact w_drp mm_Qf_v H (lb_s (lb_n (lb_n (lb_s (lb_n (lb_n (lb_s (lb_s (lb_s (lb_n (lb_n lb_e)))))))))))
  · replace H := H.2 hc
    refine w_aload_nR (x := 58) (n := 68) rfl rfl rfl ?_
    refine w_getR (b := 68) (n := 71) rfl rfl rfl rfl rfl ?_
    refine w_iload (n := 73) rfl rfl rfl ?_
    refine w_iaload (N := 64) (j := x8.toNatClampNeg) (n := 74) rfl rfl rfl rfl rfl rfl ⟨H.1, ?_⟩
    replace H := H.2
    refine w_calli (as := [.int (I 68 x8.toNatClampNeg)]) (rest := []) (n := 77) rfl rfl rfl rfl ?_
    obtain ⟨r74, I74, hI74, H⟩ := H
    refine ⟨r74, I74, hI74, ?_⟩
    refine w_iload (n := 79) rfl rfl rfl ?_
    refine w_icmp_le (n := 82) rfl rfl ⟨fun hc => ?_, fun hc => ?_⟩
    · replace H := H.1 hc
      refine w_iinc (y := x8 + 1) (ls' := [some (.ref 58), none, none, some (.int x3), none, some (.int x5), some (.int x6), some (.int x7), some (.int (x8 + 1)), none, none]) (n := 97) rfl rfl rfl rfl rfl ?_
      refine w_goto rfl ?_
      exact w_drp mm_Qf_v H (lb_s (lb_n (lb_n (lb_s (lb_n (lb_s (lb_s (lb_s (lb_s (lb_n (lb_n lb_e)))))))))))
    · replace H := H.2 hc
      refine w_aload_nR (x := 58) (n := 83) rfl rfl rfl ?_
      refine w_getR (b := 68) (n := 86) rfl rfl rfl rfl rfl ?_
      refine w_iload (n := 88) rfl rfl rfl ?_
      refine w_iaload (N := 64) (j := x8.toNatClampNeg) (n := 89) rfl rfl rfl rfl rfl rfl ⟨H.1, ?_⟩
      replace H := H.2
      refine w_calli (as := [.int (I74 68 x8.toNatClampNeg)]) (rest := []) (n := 92) rfl rfl rfl rfl ?_
      obtain ⟨r89, I89, hI89, H⟩ := H
      refine ⟨r89, I89, hI89, ?_⟩
      refine w_istore (ls' := [some (.ref 58), none, none, some (.int x3), none, some (.int x5), some (.int x6), some (.int r89), some (.int x8), none, none]) (n := 94) rfl rfl rfl rfl ?_
      refine w_iinc (y := x8 + 1) (ls' := [some (.ref 58), none, none, some (.int x3), none, some (.int x5), some (.int x6), some (.int r89), some (.int (x8 + 1)), none, none]) (n := 97) rfl rfl rfl rfl rfl ?_
      refine w_goto rfl ?_
      exact w_drp mm_Qf_v H (lb_s (lb_n (lb_n (lb_s (lb_n (lb_s (lb_s (lb_s (lb_s (lb_n (lb_n lb_e)))))))))))
theorem c_M_putsRun_117 {P : mm_I → Prop} {I : mm_I} (x3 : Int32) (x6 : Int32) (x7 : Int32) (x8 : Int32)
  (H : (x6 ≤ x8 →
      P I) ∧
    (x8 < x6 →
      (¬ x3 = 14 →
        vp_in x8 64 ∧
        mm_Mi 152 [.int (I 68 x8.toNatClampNeg)] I (fun r153 I153 =>  -- M.folded
        mm_W 191 161 [some (.ref 58), none, none, some (.int x3), none, none, some (.int x6), some (.int x7), some (.int x8), some (.int r153), some (.int 0)] [] I153 (mm_qv 191 P))) ∧
      (x3 = 14 →
        vp_in x8 64 ∧
        mm_Mv 188 [.ref 58, .int (I 68 x8.toNatClampNeg), .int x7] I (fun I140 =>  -- M.putsBits
        mm_W 191 117 [some (.ref 58), none, none, some (.int x3), none, none, some (.int x6), some (.int x7), some (.int (x8 + 1)), none, none] [] I140 (mm_qv 191 P))))) : mm_W 191 117 [some (.ref 58), none, none, some (.int x3), none, none, some (.int x6), some (.int x7), some (.int x8), none, none] [] I (mm_qv 191 P) := by
  refine w_iload (n := 119) rfl rfl rfl ?_
  refine w_iload (n := 121) rfl rfl rfl ?_
  refine w_icmp_ge (n := 124) rfl rfl ⟨fun hc => ?_, fun hc => ?_⟩
  · replace H := H.1 hc
    exact w_vreturn rfl rfl H
  · replace H := H.2 hc
    refine w_iload_n (n := 125) rfl rfl rfl ?_
    refine w_bipush (v := 14) (n := 127) rfl rfl rfl ?_
    refine w_icmp_ne (n := 130) rfl rfl ⟨fun hc => ?_, fun hc => ?_⟩
    · replace H := H.1 hc
      refine w_aload_nR (x := 58) (n := 147) rfl rfl rfl ?_
      refine w_getR (b := 68) (n := 150) rfl rfl rfl rfl rfl ?_
      refine w_iload (n := 152) rfl rfl rfl ?_
      refine w_iaload (N := 64) (j := x8.toNatClampNeg) (n := 153) rfl rfl rfl rfl rfl rfl ⟨H.1, ?_⟩
      replace H := H.2
      refine w_calli (as := [.int (I 68 x8.toNatClampNeg)]) (rest := []) (n := 156) rfl rfl rfl rfl ?_
      obtain ⟨r153, I153, hI153, H⟩ := H
      refine ⟨r153, I153, hI153, ?_⟩
      refine w_istore (ls' := [some (.ref 58), none, none, some (.int x3), none, none, some (.int x6), some (.int x7), some (.int x8), some (.int r153), none]) (n := 158) rfl rfl rfl rfl ?_
      refine w_iconst (v := 0) (n := 159) rfl rfl rfl ?_
      refine w_istore (ls' := [some (.ref 58), none, none, some (.int x3), none, none, some (.int x6), some (.int x7), some (.int x8), some (.int r153), some (.int 0)]) (n := 161) rfl rfl rfl rfl ?_
      exact w_drp mm_Qf_v H (lb_s (lb_n (lb_n (lb_s (lb_n (lb_n (lb_s (lb_s (lb_s (lb_s (lb_s lb_e)))))))))))
    · replace H := H.2 hc
      refine w_aload_nR (x := 58) (n := 131) rfl rfl rfl ?_
      refine w_aload_nR (x := 58) (n := 132) rfl rfl rfl ?_
      refine w_getR (b := 68) (n := 135) rfl rfl rfl rfl rfl ?_
      refine w_iload (n := 137) rfl rfl rfl ?_
      refine w_iaload (N := 64) (j := x8.toNatClampNeg) (n := 138) rfl rfl rfl rfl rfl rfl ⟨H.1, ?_⟩
      replace H := H.2
      refine w_iload (n := 140) rfl rfl rfl ?_
      refine w_callv (as := [.ref 58, .int (I 68 x8.toNatClampNeg), .int x7]) (rest := []) (n := 143) rfl rfl rfl rfl ?_
      obtain ⟨I140, hI140, H⟩ := H
      refine ⟨I140, hI140, ?_⟩
      refine w_goto rfl ?_
      refine w_iinc (y := x8 + 1) (ls' := [some (.ref 58), none, none, some (.int x3), none, none, some (.int x6), some (.int x7), some (.int (x8 + 1)), none, none]) (n := 198) rfl rfl rfl rfl rfl ?_
      refine w_goto rfl ?_
      exact w_drp mm_Qf_v H (lb_s (lb_n (lb_n (lb_s (lb_n (lb_n (lb_s (lb_s (lb_s (lb_n (lb_n lb_e)))))))))))
theorem c_M_putsRun_161 {P : mm_I → Prop} {I : mm_I} (x3 : Int32) (x6 : Int32) (x7 : Int32) (x8 : Int32) (x9 : Int32) (x10 : Int32)
  (H : ((x9 >>> (x3 &&& 31)) ≤ x10 →
      mm_Mv 188 [.ref 58, .int 1, .int 1] I (fun I185 =>  -- M.putsBits
      mm_Mv 188 [.ref 58, .int x9, .int x3] I185 (fun I192 =>  -- M.putsBits
      mm_W 191 117 [some (.ref 58), none, none, some (.int x3), none, none, some (.int x6), some (.int x7), some (.int (x8 + 1)), none, none] [] I192 (mm_qv 191 P)))) ∧
    (x10 < (x9 >>> (x3 &&& 31)) →
      mm_Mv 188 [.ref 58, .int 0, .int 1] I (fun I173 =>  -- M.putsBits
      mm_W 191 161 [some (.ref 58), none, none, some (.int x3), none, none, some (.int x6), some (.int x7), some (.int x8), some (.int x9), some (.int (x10 + 1))] [] I173 (mm_qv 191 P)))) : mm_W 191 161 [some (.ref 58), none, none, some (.int x3), none, none, some (.int x6), some (.int x7), some (.int x8), some (.int x9), some (.int x10)] [] I (mm_qv 191 P) := by
  refine w_iload (n := 163) rfl rfl rfl ?_
  refine w_iload (n := 165) rfl rfl rfl ?_
  refine w_iload_n (n := 166) rfl rfl rfl ?_
  refine w_ishr (n := 167) rfl rfl ?_
  refine w_icmp_ge (n := 170) rfl rfl ⟨fun hc => ?_, fun hc => ?_⟩
  · replace H := H.1 hc
    refine w_aload_nR (x := 58) (n := 183) rfl rfl rfl ?_
    refine w_iconst (v := 1) (n := 184) rfl rfl rfl ?_
    refine w_iconst (v := 1) (n := 185) rfl rfl rfl ?_
    refine w_callv (as := [.ref 58, .int 1, .int 1]) (rest := []) (n := 188) rfl rfl rfl rfl ?_
    obtain ⟨I185, hI185, H⟩ := H
    refine ⟨I185, hI185, ?_⟩
    refine w_aload_nR (x := 58) (n := 189) rfl rfl rfl ?_
    refine w_iload (n := 191) rfl rfl rfl ?_
    refine w_iload_n (n := 192) rfl rfl rfl ?_
    refine w_callv (as := [.ref 58, .int x9, .int x3]) (rest := []) (n := 195) rfl rfl rfl rfl ?_
    obtain ⟨I192, hI192, H⟩ := H
    refine ⟨I192, hI192, ?_⟩
    refine w_iinc (y := x8 + 1) (ls' := [some (.ref 58), none, none, some (.int x3), none, none, some (.int x6), some (.int x7), some (.int (x8 + 1)), some (.int x9), some (.int x10)]) (n := 198) rfl rfl rfl rfl rfl ?_
    refine w_goto rfl ?_
    exact w_drp mm_Qf_v H (lb_s (lb_n (lb_n (lb_s (lb_n (lb_n (lb_s (lb_s (lb_s (lb_n (lb_n lb_e)))))))))))
  · replace H := H.2 hc
    refine w_aload_nR (x := 58) (n := 171) rfl rfl rfl ?_
    refine w_iconst (v := 0) (n := 172) rfl rfl rfl ?_
    refine w_iconst (v := 1) (n := 173) rfl rfl rfl ?_
    refine w_callv (as := [.ref 58, .int 0, .int 1]) (rest := []) (n := 176) rfl rfl rfl rfl ?_
    obtain ⟨I173, hI173, H⟩ := H
    refine ⟨I173, hI173, ?_⟩
    refine w_iinc (y := x10 + 1) (ls' := [some (.ref 58), none, none, some (.int x3), none, none, some (.int x6), some (.int x7), some (.int x8), some (.int x9), some (.int (x10 + 1))]) (n := 179) rfl rfl rfl rfl rfl ?_
    refine w_goto rfl ?_
    exact w_drp mm_Qf_v H (lb_s (lb_n (lb_n (lb_s (lb_n (lb_n (lb_s (lb_s (lb_s (lb_s (lb_s lb_e)))))))))))
theorem e_M_putsRow {P : mm_I → Prop} {I : mm_I} (x1 : Int32) (x2 : Int32)
  (H : mm_Mv 149 [.ref 58, .int x1, .int x2] I (fun I3 =>  -- M.laysRow
    mm_Mi 168 [.ref 58, .int (I3 58 8)] I3 (fun r11 I11 =>  -- M.rowCosts
    mm_Mv 188 [.ref 58, .int (I11 58 32), .int 4] I11 (fun I21 =>  -- M.putsBits
    (¬ (I21 58 32) = 8 →
      (¬ (I21 58 32) = 9 →
        mm_Mi 144 [.int (I21 58 32), .ref 62] I21 (fun r61 I61 =>  -- M.orderOf
        mm_W 192 68 [some (.ref 58), none, none, some (.int r61), some (.int 0)] [] I61 (mm_qv 192 P))) ∧
      ((I21 58 32) = 9 →
        mm_W 192 68 [some (.ref 58), none, none, some (.int (I21 58 18)), some (.int 0)] [] I21 (mm_qv 192 P))) ∧
    ((I21 58 32) = 8 →
      mm_W 192 68 [some (.ref 58), none, none, some (.int 1), some (.int 0)] [] I21 (mm_qv 192 P)))))) : mm_Mv 192 [.ref 58, .int x1, .int x2] I P := by
  refine mm_Mv_of ?_
  show mm_W 192 0 [some (.ref 58), some (.int x1), some (.int x2), none, none] [] I (mm_qv 192 P)
  refine w_aload_nR (x := 58) (n := 1) rfl rfl rfl ?_
  refine w_iload_n (n := 2) rfl rfl rfl ?_
  refine w_iload_n (n := 3) rfl rfl rfl ?_
  refine w_callv (as := [.ref 58, .int x1, .int x2]) (rest := []) (n := 6) rfl rfl rfl rfl ?_
  obtain ⟨I3, hI3, H⟩ := H
  refine ⟨I3, hI3, ?_⟩
  refine w_aload_nR (x := 58) (n := 7) rfl rfl rfl ?_
  refine w_aload_nR (x := 58) (n := 8) rfl rfl rfl ?_
  refine w_getI (n := 11) rfl rfl rfl rfl ?_
  refine w_calli (as := [.ref 58, .int (I3 58 8)]) (rest := []) (n := 14) rfl rfl rfl rfl ?_
  obtain ⟨r11, I11, hI11, H⟩ := H
  refine ⟨r11, I11, hI11, ?_⟩
  refine w_pop (n := 15) rfl rfl rfl ?_
  refine w_aload_nR (x := 58) (n := 16) rfl rfl rfl ?_
  refine w_aload_nR (x := 58) (n := 17) rfl rfl rfl ?_
  refine w_getI (n := 20) rfl rfl rfl rfl ?_
  refine w_iconst (v := 4) (n := 21) rfl rfl rfl ?_
  refine w_callv (as := [.ref 58, .int (I11 58 32), .int 4]) (rest := []) (n := 24) rfl rfl rfl rfl ?_
  obtain ⟨I21, hI21, H⟩ := H
  refine ⟨I21, hI21, ?_⟩
  refine w_aload_nR (x := 58) (n := 25) rfl rfl rfl ?_
  refine w_getI (n := 28) rfl rfl rfl rfl ?_
  refine w_bipush (v := 8) (n := 30) rfl rfl rfl ?_
  refine w_icmp_ne (n := 33) rfl rfl ⟨fun hc => ?_, fun hc => ?_⟩
  · replace H := H.1 hc
    refine w_aload_nR (x := 58) (n := 38) rfl rfl rfl ?_
    refine w_getI (n := 41) rfl rfl rfl rfl ?_
    refine w_bipush (v := 9) (n := 43) rfl rfl rfl ?_
    refine w_icmp_ne (n := 46) rfl rfl ⟨fun hc => ?_, fun hc => ?_⟩
    · replace H := H.1 hc
      refine w_aload_nR (x := 58) (n := 54) rfl rfl rfl ?_
      refine w_getI (n := 57) rfl rfl rfl rfl ?_
      refine w_aload_nR (x := 58) (n := 58) rfl rfl rfl ?_
      refine w_getR (b := 62) (n := 61) rfl rfl rfl rfl rfl ?_
      refine w_calli (as := [.int (I21 58 32), .ref 62]) (rest := []) (n := 64) rfl rfl rfl rfl ?_
      obtain ⟨r61, I61, hI61, H⟩ := H
      refine ⟨r61, I61, hI61, ?_⟩
      refine w_istore_n (ls' := [some (.ref 58), some (.int x1), some (.int x2), some (.int r61), none]) (n := 65) rfl rfl rfl rfl ?_
      refine w_iconst (v := 0) (n := 66) rfl rfl rfl ?_
      refine w_istore (ls' := [some (.ref 58), some (.int x1), some (.int x2), some (.int r61), some (.int 0)]) (n := 68) rfl rfl rfl rfl ?_
      exact w_drp mm_Qf_v H (lb_s (lb_n (lb_n (lb_s (lb_s lb_e)))))
    · replace H := H.2 hc
      refine w_aload_nR (x := 58) (n := 47) rfl rfl rfl ?_
      refine w_getI (n := 50) rfl rfl rfl rfl ?_
      refine w_goto rfl ?_
      refine w_istore_n (ls' := [some (.ref 58), some (.int x1), some (.int x2), some (.int (I21 58 18)), none]) (n := 65) rfl rfl rfl rfl ?_
      refine w_iconst (v := 0) (n := 66) rfl rfl rfl ?_
      refine w_istore (ls' := [some (.ref 58), some (.int x1), some (.int x2), some (.int (I21 58 18)), some (.int 0)]) (n := 68) rfl rfl rfl rfl ?_
      exact w_drp mm_Qf_v H (lb_s (lb_n (lb_n (lb_s (lb_s lb_e)))))
  · replace H := H.2 hc
    refine w_iconst (v := 1) (n := 34) rfl rfl rfl ?_
    refine w_goto rfl ?_
    refine w_istore_n (ls' := [some (.ref 58), some (.int x1), some (.int x2), some (.int 1), none]) (n := 65) rfl rfl rfl rfl ?_
    refine w_iconst (v := 0) (n := 66) rfl rfl rfl ?_
    refine w_istore (ls' := [some (.ref 58), some (.int x1), some (.int x2), some (.int 1), some (.int 0)]) (n := 68) rfl rfl rfl rfl ?_
    exact w_drp mm_Qf_v H (lb_s (lb_n (lb_n (lb_s (lb_s lb_e)))))
theorem c_M_putsRow_68 {P : mm_I → Prop} {I : mm_I} (x3 : Int32) (x4 : Int32)
  (H : (x3 ≤ x4 →
      ((I 58 32) < 8 →
        mm_Mi 165 [.ref 58, .int (I 58 32)] I (fun r110 I110 =>  -- M.costs
        mm_W 192 117 [some (.ref 58), none, none, some (.int x3), some (.int 0)] [] I110 (mm_qv 192 P))) ∧
      (8 ≤ (I 58 32) →
        P I)) ∧
    (x4 < x3 →
      vp_in x4 64 ∧
      mm_Mv 188 [.ref 58, .int (I 67 x4.toNatClampNeg), .int (I 58 19)] I (fun I86 =>  -- M.putsBits
      mm_W 192 68 [some (.ref 58), none, none, some (.int x3), some (.int (x4 + 1))] [] I86 (mm_qv 192 P)))) : mm_W 192 68 [some (.ref 58), none, none, some (.int x3), some (.int x4)] [] I (mm_qv 192 P) := by
  refine w_iload (n := 70) rfl rfl rfl ?_
  refine w_iload_n (n := 71) rfl rfl rfl ?_
  refine w_icmp_ge (n := 74) rfl rfl ⟨fun hc => ?_, fun hc => ?_⟩
  · replace H := H.1 hc
    refine w_aload_nR (x := 58) (n := 96) rfl rfl rfl ?_
    refine w_getI (n := 99) rfl rfl rfl rfl ?_
    refine w_bipush (v := 8) (n := 101) rfl rfl rfl ?_
    refine w_icmp_lt (n := 104) rfl rfl ⟨fun hc => ?_, fun hc => ?_⟩
    · replace H := H.1 hc
      refine w_aload_nR (x := 58) (n := 106) rfl rfl rfl ?_
      refine w_aload_nR (x := 58) (n := 107) rfl rfl rfl ?_
      refine w_getI (n := 110) rfl rfl rfl rfl ?_
      refine w_calli (as := [.ref 58, .int (I 58 32)]) (rest := []) (n := 113) rfl rfl rfl rfl ?_
      obtain ⟨r110, I110, hI110, H⟩ := H
      refine ⟨r110, I110, hI110, ?_⟩
      refine w_pop (n := 114) rfl rfl rfl ?_
      refine w_iconst (v := 0) (n := 115) rfl rfl rfl ?_
      refine w_istore (ls' := [some (.ref 58), none, none, some (.int x3), some (.int 0)]) (n := 117) rfl rfl rfl rfl ?_
      exact w_drp mm_Qf_v H (lb_s (lb_n (lb_n (lb_s (lb_s lb_e)))))
    · replace H := H.2 hc
      exact w_vreturn rfl rfl H
  · replace H := H.2 hc
    refine w_aload_nR (x := 58) (n := 75) rfl rfl rfl ?_
    refine w_aload_nR (x := 58) (n := 76) rfl rfl rfl ?_
    refine w_getR (b := 67) (n := 79) rfl rfl rfl rfl rfl ?_
    refine w_iload (n := 81) rfl rfl rfl ?_
    refine w_iaload (N := 64) (j := x4.toNatClampNeg) (n := 82) rfl rfl rfl rfl rfl rfl ⟨H.1, ?_⟩
    replace H := H.2
    refine w_aload_nR (x := 58) (n := 83) rfl rfl rfl ?_
    refine w_getI (n := 86) rfl rfl rfl rfl ?_
    refine w_callv (as := [.ref 58, .int (I 67 x4.toNatClampNeg), .int (I 58 19)]) (rest := []) (n := 89) rfl rfl rfl rfl ?_
    obtain ⟨I86, hI86, H⟩ := H
    refine ⟨I86, hI86, ?_⟩
    refine w_iinc (y := x4 + 1) (ls' := [some (.ref 58), none, none, some (.int x3), some (.int (x4 + 1))]) (n := 92) rfl rfl rfl rfl rfl ?_
    refine w_goto rfl ?_
    exact w_drp mm_Qf_v H (lb_s (lb_n (lb_n (lb_s (lb_s lb_e)))))
theorem c_M_putsRow_117 {P : mm_I → Prop} {I : mm_I} (x3 : Int32) (x4 : Int32)
  (H : ((I 58 29) ≤ x4 →
      P I) ∧
    (x4 < (I 58 29) →
      (¬ x4 = 0 →
        vp_in (x4 - 1) 8 ∧
        True) ∧
      vp_in x4 8 ∧
      vp_in x4 8 ∧
      mm_Mv 191 [.ref 58, .int (if x4 = 0 then (0 : Int32) else (I 72 ((x4 - 1).toNatClampNeg))), .int (I 72 x4.toNatClampNeg), .int (I 73 x4.toNatClampNeg), .int x3] I (fun I160 =>  -- M.putsRun
      mm_W 192 117 [some (.ref 58), none, none, some (.int x3), some (.int (x4 + 1))] [] I160 (mm_qv 192 P)))) : mm_W 192 117 [some (.ref 58), none, none, some (.int x3), some (.int x4)] [] I (mm_qv 192 P) := by
  refine w_iload (n := 119) rfl rfl rfl ?_
  refine w_aload_nR (x := 58) (n := 120) rfl rfl rfl ?_
  refine w_getI (n := 123) rfl rfl rfl rfl ?_
  refine w_icmp_ge (n := 126) rfl rfl ⟨fun hc => ?_, fun hc => ?_⟩
  · replace H := H.1 hc
    exact w_vreturn rfl rfl H
  · replace H := H.2 hc
    refine w_aload_nR (x := 58) (n := 127) rfl rfl rfl ?_
    refine w_iload (n := 129) rfl rfl rfl ?_
    obtain ⟨K1, H⟩ := H
    have J129 : ∀ (w129_1 : Int32), w129_1 = (if x4 = 0 then (0 : Int32) else (I 72 ((x4 - 1).toNatClampNeg))) → mm_W 192 145 [some (.ref 58), none, none, some (.int x3), some (.int x4)] [.int w129_1, .ref 58] I (mm_qv 192 P) := by
      intro w129_1 e129_0
      subst e129_0
      refine w_aload_nR (x := 58) (n := 146) rfl rfl rfl ?_
      refine w_getR (b := 72) (n := 149) rfl rfl rfl rfl rfl ?_
      refine w_iload (n := 151) rfl rfl rfl ?_
      refine w_iaload (N := 8) (j := x4.toNatClampNeg) (n := 152) rfl rfl rfl rfl rfl rfl ⟨H.1, ?_⟩
      replace H := H.2
      refine w_aload_nR (x := 58) (n := 153) rfl rfl rfl ?_
      refine w_getR (b := 73) (n := 156) rfl rfl rfl rfl rfl ?_
      refine w_iload (n := 158) rfl rfl rfl ?_
      refine w_iaload (N := 8) (j := x4.toNatClampNeg) (n := 159) rfl rfl rfl rfl rfl rfl ⟨H.1, ?_⟩
      replace H := H.2
      refine w_iload_n (n := 160) rfl rfl rfl ?_
      refine w_callv (as := [.ref 58, .int (if x4 = 0 then (0 : Int32) else (I 72 ((x4 - 1).toNatClampNeg))), .int (I 72 x4.toNatClampNeg), .int (I 73 x4.toNatClampNeg), .int x3]) (rest := []) (n := 163) rfl rfl rfl rfl ?_
      obtain ⟨I160, hI160, H⟩ := H
      refine ⟨I160, hI160, ?_⟩
      refine w_iinc (y := x4 + 1) (ls' := [some (.ref 58), none, none, some (.int x3), some (.int (x4 + 1))]) (n := 166) rfl rfl rfl rfl rfl ?_
      refine w_goto rfl ?_
      exact w_drp mm_Qf_v H (lb_s (lb_n (lb_n (lb_s (lb_s lb_e)))))
    refine w_if_ne (n := 132) rfl rfl ⟨fun hc => ?_, fun hc => ?_⟩
    · have H := K1 hc
      refine w_aload_nR (x := 58) (n := 137) rfl rfl rfl ?_
      refine w_getR (b := 72) (n := 140) rfl rfl rfl rfl rfl ?_
      refine w_iload (n := 142) rfl rfl rfl ?_
      refine w_iconst (v := 1) (n := 143) rfl rfl rfl ?_
      refine w_isub (n := 144) rfl rfl ?_
      refine w_iaload (N := 8) (j := (x4 - 1).toNatClampNeg) (n := 145) rfl rfl rfl rfl rfl rfl ⟨H.1, ?_⟩
      replace H := H.2
      refine w_drp mm_Qf_v (J129 _ ?_) (lb_s (lb_n (lb_n (lb_s (lb_s lb_e)))))
      · exact (if_neg hc).symm
    · refine w_iconst (v := 0) (n := 133) rfl rfl rfl ?_
      refine w_goto rfl ?_
      refine w_drp mm_Qf_v (J129 _ ?_) (lb_s (lb_n (lb_n (lb_s (lb_s lb_e)))))
      · exact (if_pos hc).symm
theorem e_M_pack {P : Int32 → mm_I → Prop} {I : mm_I}
  (H : mm_Mi 146 [.ref 58] (mm_up I 58 16 0) (fun r6 I6 =>  -- M.isReady
    (¬ r6 = 0 →
      mm_Mv 187 [.ref 58, .int 83] (mm_up I6 58 15 0) (fun I22 =>  -- M.putsByte
      mm_Mv 187 [.ref 58, .int 80] I22 (fun I28 =>  -- M.putsByte
      mm_Mv 187 [.ref 58, .int (I28 58 4)] I28 (fun I36 =>  -- M.putsByte
      mm_Mv 187 [.ref 58, .int (I36 58 5)] I36 (fun I44 =>  -- M.putsByte
      mm_Mv 187 [.ref 58, .int (I44 58 6)] I44 (fun I52 =>  -- M.putsByte
      mm_Mv 187 [.ref 58, .int ((I52 61 0) / 256)] I52 (fun I66 =>  -- M.putsByte
      mm_Mv 187 [.ref 58, .int ((I66 61 0) - (I66 61 0) / 256 * 256)] I66 (fun I80 =>  -- M.putsByte
      mm_W 193 85 [some (.ref 58), some (.int 0), none, none, none] [] I80 (mm_qi 193 P))))))))) ∧
    (r6 = 0 →
      P (-1) I6))) : mm_Mi 193 [.ref 58] I P := by
  refine mm_Mi_of ?_
  show mm_W 193 0 [some (.ref 58), none, none, none, none] [] I (mm_qi 193 P)
  refine w_aload_nR (x := 58) (n := 1) rfl rfl rfl ?_
  refine w_iconst (v := 0) (n := 2) rfl rfl rfl ?_
  refine w_putI (n := 5) rfl rfl rfl rfl rfl ?_
  refine w_aload_nR (x := 58) (n := 6) rfl rfl rfl ?_
  refine w_calli (as := [.ref 58]) (rest := []) (n := 9) rfl rfl rfl rfl ?_
  obtain ⟨r6, I6, hI6, H⟩ := H
  refine ⟨r6, I6, hI6, ?_⟩
  refine w_if_ne (n := 12) rfl rfl ⟨fun hc => ?_, fun hc => ?_⟩
  · replace H := H.1 hc
    refine w_aload_nR (x := 58) (n := 15) rfl rfl rfl ?_
    refine w_iconst (v := 0) (n := 16) rfl rfl rfl ?_
    refine w_putI (n := 19) rfl rfl rfl rfl rfl ?_
    refine w_aload_nR (x := 58) (n := 20) rfl rfl rfl ?_
    refine w_bipush (v := 83) (n := 22) rfl rfl rfl ?_
    refine w_callv (as := [.ref 58, .int 83]) (rest := []) (n := 25) rfl rfl rfl rfl ?_
    obtain ⟨I22, hI22, H⟩ := H
    refine ⟨I22, hI22, ?_⟩
    refine w_aload_nR (x := 58) (n := 26) rfl rfl rfl ?_
    refine w_bipush (v := 80) (n := 28) rfl rfl rfl ?_
    refine w_callv (as := [.ref 58, .int 80]) (rest := []) (n := 31) rfl rfl rfl rfl ?_
    obtain ⟨I28, hI28, H⟩ := H
    refine ⟨I28, hI28, ?_⟩
    refine w_aload_nR (x := 58) (n := 32) rfl rfl rfl ?_
    refine w_aload_nR (x := 58) (n := 33) rfl rfl rfl ?_
    refine w_getI (n := 36) rfl rfl rfl rfl ?_
    refine w_callv (as := [.ref 58, .int (I28 58 4)]) (rest := []) (n := 39) rfl rfl rfl rfl ?_
    obtain ⟨I36, hI36, H⟩ := H
    refine ⟨I36, hI36, ?_⟩
    refine w_aload_nR (x := 58) (n := 40) rfl rfl rfl ?_
    refine w_aload_nR (x := 58) (n := 41) rfl rfl rfl ?_
    refine w_getI (n := 44) rfl rfl rfl rfl ?_
    refine w_callv (as := [.ref 58, .int (I36 58 5)]) (rest := []) (n := 47) rfl rfl rfl rfl ?_
    obtain ⟨I44, hI44, H⟩ := H
    refine ⟨I44, hI44, ?_⟩
    refine w_aload_nR (x := 58) (n := 48) rfl rfl rfl ?_
    refine w_aload_nR (x := 58) (n := 49) rfl rfl rfl ?_
    refine w_getI (n := 52) rfl rfl rfl rfl ?_
    refine w_callv (as := [.ref 58, .int (I44 58 6)]) (rest := []) (n := 55) rfl rfl rfl rfl ?_
    obtain ⟨I52, hI52, H⟩ := H
    refine ⟨I52, hI52, ?_⟩
    refine w_aload_nR (x := 58) (n := 56) rfl rfl rfl ?_
    refine w_aload_nR (x := 58) (n := 57) rfl rfl rfl ?_
    refine w_getR (b := 61) (n := 60) rfl rfl rfl rfl rfl ?_
    refine w_iconst (v := 0) (n := 61) rfl rfl rfl ?_
    refine w_iaload (N := 2) (j := 0) (n := 62) rfl rfl rfl rfl (by decide) rfl ⟨mm_vpc (by decide), ?_⟩
    refine w_sipush (v := 256) (n := 65) rfl rfl rfl ?_
    refine w_idiv (n := 66) rfl rfl ⟨by decide, ?_⟩
    refine w_callv (as := [.ref 58, .int ((I52 61 0) / 256)]) (rest := []) (n := 69) rfl rfl rfl rfl ?_
    obtain ⟨I66, hI66, H⟩ := H
    refine ⟨I66, hI66, ?_⟩
    refine w_aload_nR (x := 58) (n := 70) rfl rfl rfl ?_
    refine w_aload_nR (x := 58) (n := 71) rfl rfl rfl ?_
    refine w_getR (b := 61) (n := 74) rfl rfl rfl rfl rfl ?_
    refine w_iconst (v := 0) (n := 75) rfl rfl rfl ?_
    refine w_iaload (N := 2) (j := 0) (n := 76) rfl rfl rfl rfl (by decide) rfl ⟨mm_vpc (by decide), ?_⟩
    refine w_sipush (v := 256) (n := 79) rfl rfl rfl ?_
    refine w_irem (n := 80) rfl rfl ⟨by decide, ?_⟩
    refine w_callv (as := [.ref 58, .int ((I66 61 0) - (I66 61 0) / 256 * 256)]) (rest := []) (n := 83) rfl rfl rfl rfl ?_
    obtain ⟨I80, hI80, H⟩ := H
    refine ⟨I80, hI80, ?_⟩
    refine w_iconst (v := 0) (n := 84) rfl rfl rfl ?_
    refine w_istore_n (ls' := [some (.ref 58), some (.int 0), none, none, none]) (n := 85) rfl rfl rfl rfl ?_
    exact w_drp mm_Qf_i H (lb_s (lb_s (lb_n (lb_n (lb_n lb_e)))))
  · replace H := H.2 hc
    refine w_iconst (v := (-1)) (n := 13) rfl rfl rfl ?_
    exact w_ireturn rfl rfl H
theorem c_M_pack_85 {P : Int32 → mm_I → Prop} {I : mm_I} (x1 : Int32)
  (H : (3 ≤ x1 →
      mm_Mv 190 [.ref 58, .int 0] I (fun I135 =>  -- M.putsCheck
      mm_W 193 140 [some (.ref 58), some (.int 0), none, none, none] [] I135 (mm_qi 193 P))) ∧
    (x1 < 3 →
      mm_W 193 92 [some (.ref 58), some (.int x1), some (.int 0), none, none] [] I (mm_qi 193 P))) : mm_W 193 85 [some (.ref 58), some (.int x1), none, none, none] [] I (mm_qi 193 P) := by
  refine w_iload_n (n := 86) rfl rfl rfl ?_
  refine w_iconst (v := 3) (n := 87) rfl rfl rfl ?_
  refine w_icmp_ge (n := 90) rfl rfl ⟨fun hc => ?_, fun hc => ?_⟩
  · replace H := H.1 hc
    refine w_aload_nR (x := 58) (n := 134) rfl rfl rfl ?_
    refine w_iconst (v := 0) (n := 135) rfl rfl rfl ?_
    refine w_callv (as := [.ref 58, .int 0]) (rest := []) (n := 138) rfl rfl rfl rfl ?_
    obtain ⟨I135, hI135, H⟩ := H
    refine ⟨I135, hI135, ?_⟩
    refine w_iconst (v := 0) (n := 139) rfl rfl rfl ?_
    refine w_istore_n (ls' := [some (.ref 58), some (.int 0), none, none, none]) (n := 140) rfl rfl rfl rfl ?_
    exact w_drp mm_Qf_i H (lb_s (lb_s (lb_n (lb_n (lb_n lb_e)))))
  · replace H := H.2 hc
    refine w_iconst (v := 0) (n := 91) rfl rfl rfl ?_
    refine w_istore_n (ls' := [some (.ref 58), some (.int x1), some (.int 0), none, none]) (n := 92) rfl rfl rfl rfl ?_
    exact w_drp mm_Qf_i H (lb_s (lb_s (lb_s (lb_n (lb_n lb_e)))))
theorem c_M_pack_140 {P : Int32 → mm_I → Prop} {I : mm_I} (x1 : Int32)
  (H : mm_Mi 147 [.ref 58] I (fun r142 I142 =>  -- M.frames
    (r142 ≤ x1 →
      P (I142 58 15) I142) ∧
    (x1 < r142 →
      mm_Mv 187 [.ref 58, .int 165] I142 (fun I157 =>  -- M.putsByte
      mm_Mv 187 [.ref 58, .int x1] I157 (fun I162 =>  -- M.putsByte
      mm_Mi 172 [.ref 58, .int x1, .int (I162 58 8)] I162 (fun r171 I171 =>  -- M.joinOf
      (¬ (I171 58 4) = 2 →
        mm_W 193 192 [some (.ref 58), some (.int x1), some (.int (I142 58 15)), some (.int r171), some (.int 0)] [] I171 (mm_qi 193 P)) ∧
      ((I171 58 4) = 2 →
        mm_Mv 188 [.ref 58, .int r171, .int 2] I171 (fun I186 =>  -- M.putsBits
        mm_W 193 192 [some (.ref 58), some (.int x1), some (.int (I142 58 15)), some (.int r171), some (.int 0)] [] I186 (mm_qi 193 P))))))))) : mm_W 193 140 [some (.ref 58), some (.int x1), none, none, none] [] I (mm_qi 193 P) := by
  refine w_iload_n (n := 141) rfl rfl rfl ?_
  refine w_aload_nR (x := 58) (n := 142) rfl rfl rfl ?_
  refine w_calli (as := [.ref 58]) (rest := [.int x1]) (n := 145) rfl rfl rfl rfl ?_
  obtain ⟨r142, I142, hI142, H⟩ := H
  refine ⟨r142, I142, hI142, ?_⟩
  refine w_icmp_ge (n := 148) rfl rfl ⟨fun hc => ?_, fun hc => ?_⟩
  · replace H := H.1 hc
    refine w_aload_nR (x := 58) (n := 230) rfl rfl rfl ?_
    refine w_getI (n := 233) rfl rfl rfl rfl ?_
    exact w_ireturn rfl rfl H
  · replace H := H.2 hc
    refine w_aload_nR (x := 58) (n := 149) rfl rfl rfl ?_
    refine w_getI (n := 152) rfl rfl rfl rfl ?_
    refine w_istore_n (ls' := [some (.ref 58), some (.int x1), some (.int (I142 58 15)), none, none]) (n := 153) rfl rfl rfl rfl ?_
    refine w_aload_nR (x := 58) (n := 154) rfl rfl rfl ?_
    refine w_sipush (v := 165) (n := 157) rfl rfl rfl ?_
    refine w_callv (as := [.ref 58, .int 165]) (rest := []) (n := 160) rfl rfl rfl rfl ?_
    obtain ⟨I157, hI157, H⟩ := H
    refine ⟨I157, hI157, ?_⟩
    refine w_aload_nR (x := 58) (n := 161) rfl rfl rfl ?_
    refine w_iload_n (n := 162) rfl rfl rfl ?_
    refine w_callv (as := [.ref 58, .int x1]) (rest := []) (n := 165) rfl rfl rfl rfl ?_
    obtain ⟨I162, hI162, H⟩ := H
    refine ⟨I162, hI162, ?_⟩
    refine w_aload_nR (x := 58) (n := 166) rfl rfl rfl ?_
    refine w_iload_n (n := 167) rfl rfl rfl ?_
    refine w_aload_nR (x := 58) (n := 168) rfl rfl rfl ?_
    refine w_getI (n := 171) rfl rfl rfl rfl ?_
    refine w_calli (as := [.ref 58, .int x1, .int (I162 58 8)]) (rest := []) (n := 174) rfl rfl rfl rfl ?_
    obtain ⟨r171, I171, hI171, H⟩ := H
    refine ⟨r171, I171, hI171, ?_⟩
    refine w_istore_n (ls' := [some (.ref 58), some (.int x1), some (.int (I142 58 15)), some (.int r171), none]) (n := 175) rfl rfl rfl rfl ?_
    refine w_aload_nR (x := 58) (n := 176) rfl rfl rfl ?_
    refine w_getI (n := 179) rfl rfl rfl rfl ?_
    refine w_iconst (v := 2) (n := 180) rfl rfl rfl ?_
    refine w_icmp_ne (n := 183) rfl rfl ⟨fun hc => ?_, fun hc => ?_⟩
    · replace H := H.1 hc
      refine w_iconst (v := 0) (n := 190) rfl rfl rfl ?_
      refine w_istore (ls' := [some (.ref 58), some (.int x1), some (.int (I142 58 15)), some (.int r171), some (.int 0)]) (n := 192) rfl rfl rfl rfl ?_
      exact w_drp mm_Qf_i H (lb_s (lb_s (lb_s (lb_s (lb_s lb_e)))))
    · replace H := H.2 hc
      refine w_aload_nR (x := 58) (n := 184) rfl rfl rfl ?_
      refine w_iload_n (n := 185) rfl rfl rfl ?_
      refine w_iconst (v := 2) (n := 186) rfl rfl rfl ?_
      refine w_callv (as := [.ref 58, .int r171, .int 2]) (rest := []) (n := 189) rfl rfl rfl rfl ?_
      obtain ⟨I186, hI186, H⟩ := H
      refine ⟨I186, hI186, ?_⟩
      refine w_iconst (v := 0) (n := 190) rfl rfl rfl ?_
      refine w_istore (ls' := [some (.ref 58), some (.int x1), some (.int (I142 58 15)), some (.int r171), some (.int 0)]) (n := 192) rfl rfl rfl rfl ?_
      exact w_drp mm_Qf_i H (lb_s (lb_s (lb_s (lb_s (lb_s lb_e)))))
theorem c_M_pack_92 {P : Int32 → mm_I → Prop} {I : mm_I} (x1 : Int32) (x2 : Int32)
  (H : (3 ≤ x2 →
      vp_in x1 3 ∧
      mm_Mv 187 [.ref 58, .int (I 63 x1.toNatClampNeg)] I (fun I124 =>  -- M.putsByte
      mm_W 193 85 [some (.ref 58), some (.int (x1 + 1)), none, none, none] [] I124 (mm_qi 193 P))) ∧
    (x2 < 3 →
      vp_in ((3 * x1) + x2) 9 ∧
      mm_Mv 187 [.ref 58, .int (I 62 (((3 * x1) + x2).toNatClampNeg))] I (fun I108 =>  -- M.putsByte
      mm_W 193 92 [some (.ref 58), some (.int x1), some (.int (x2 + 1)), none, none] [] I108 (mm_qi 193 P)))) : mm_W 193 92 [some (.ref 58), some (.int x1), some (.int x2), none, none] [] I (mm_qi 193 P) := by
  refine w_iload_n (n := 93) rfl rfl rfl ?_
  refine w_iconst (v := 3) (n := 94) rfl rfl rfl ?_
  refine w_icmp_ge (n := 97) rfl rfl ⟨fun hc => ?_, fun hc => ?_⟩
  · replace H := H.1 hc
    refine w_aload_nR (x := 58) (n := 118) rfl rfl rfl ?_
    refine w_aload_nR (x := 58) (n := 119) rfl rfl rfl ?_
    refine w_getR (b := 63) (n := 122) rfl rfl rfl rfl rfl ?_
    refine w_iload_n (n := 123) rfl rfl rfl ?_
    refine w_iaload (N := 3) (j := x1.toNatClampNeg) (n := 124) rfl rfl rfl rfl rfl rfl ⟨H.1, ?_⟩
    replace H := H.2
    refine w_callv (as := [.ref 58, .int (I 63 x1.toNatClampNeg)]) (rest := []) (n := 127) rfl rfl rfl rfl ?_
    obtain ⟨I124, hI124, H⟩ := H
    refine ⟨I124, hI124, ?_⟩
    refine w_iinc (y := x1 + 1) (ls' := [some (.ref 58), some (.int (x1 + 1)), some (.int x2), none, none]) (n := 130) rfl rfl rfl rfl rfl ?_
    refine w_goto rfl ?_
    exact w_drp mm_Qf_i H (lb_s (lb_s (lb_n (lb_n (lb_n lb_e)))))
  · replace H := H.2 hc
    refine w_aload_nR (x := 58) (n := 98) rfl rfl rfl ?_
    refine w_aload_nR (x := 58) (n := 99) rfl rfl rfl ?_
    refine w_getR (b := 62) (n := 102) rfl rfl rfl rfl rfl ?_
    refine w_iconst (v := 3) (n := 103) rfl rfl rfl ?_
    refine w_iload_n (n := 104) rfl rfl rfl ?_
    refine w_imul (n := 105) rfl rfl ?_
    refine w_iload_n (n := 106) rfl rfl rfl ?_
    refine w_iadd (n := 107) rfl rfl ?_
    refine w_iaload (N := 9) (j := ((3 * x1) + x2).toNatClampNeg) (n := 108) rfl rfl rfl rfl rfl rfl ⟨H.1, ?_⟩
    replace H := H.2
    refine w_callv (as := [.ref 58, .int (I 62 (((3 * x1) + x2).toNatClampNeg))]) (rest := []) (n := 111) rfl rfl rfl rfl ?_
    obtain ⟨I108, hI108, H⟩ := H
    refine ⟨I108, hI108, ?_⟩
    refine w_iinc (y := x2 + 1) (ls' := [some (.ref 58), some (.int x1), some (.int (x2 + 1)), none, none]) (n := 114) rfl rfl rfl rfl rfl ?_
    refine w_goto rfl ?_
    exact w_drp mm_Qf_i H (lb_s (lb_s (lb_s (lb_n (lb_n lb_e)))))
theorem c_M_pack_192 {P : Int32 → mm_I → Prop} {I : mm_I} (x1 : Int32) (x2 : Int32) (x3 : Int32) (x4 : Int32)
  (H : ((I 58 4) ≤ x4 →
      mm_Mv 190 [.ref 58, .int x2] I (fun I220 =>  -- M.putsCheck
      mm_W 193 140 [some (.ref 58), some (.int (x1 + 1)), none, none, none] [] I220 (mm_qi 193 P))) ∧
    (x4 < (I 58 4) →
      mm_Mi 150 [.int x3, .int x4] I (fun r206 I206 =>  -- M.sortOf
      mm_Mv 192 [.ref 58, .int x1, .int r206] I206 (fun I209 =>  -- M.putsRow
      mm_W 193 192 [some (.ref 58), some (.int x1), some (.int x2), some (.int x3), some (.int (x4 + 1))] [] I209 (mm_qi 193 P))))) : mm_W 193 192 [some (.ref 58), some (.int x1), some (.int x2), some (.int x3), some (.int x4)] [] I (mm_qi 193 P) := by
  refine w_iload (n := 194) rfl rfl rfl ?_
  refine w_aload_nR (x := 58) (n := 195) rfl rfl rfl ?_
  refine w_getI (n := 198) rfl rfl rfl rfl ?_
  refine w_icmp_ge (n := 201) rfl rfl ⟨fun hc => ?_, fun hc => ?_⟩
  · replace H := H.1 hc
    refine w_aload_nR (x := 58) (n := 219) rfl rfl rfl ?_
    refine w_iload_n (n := 220) rfl rfl rfl ?_
    refine w_callv (as := [.ref 58, .int x2]) (rest := []) (n := 223) rfl rfl rfl rfl ?_
    obtain ⟨I220, hI220, H⟩ := H
    refine ⟨I220, hI220, ?_⟩
    refine w_iinc (y := x1 + 1) (ls' := [some (.ref 58), some (.int (x1 + 1)), some (.int x2), some (.int x3), some (.int x4)]) (n := 226) rfl rfl rfl rfl rfl ?_
    refine w_goto rfl ?_
    exact w_drp mm_Qf_i H (lb_s (lb_s (lb_n (lb_n (lb_n lb_e)))))
  · replace H := H.2 hc
    refine w_aload_nR (x := 58) (n := 202) rfl rfl rfl ?_
    refine w_iload_n (n := 203) rfl rfl rfl ?_
    refine w_iload_n (n := 204) rfl rfl rfl ?_
    refine w_iload (n := 206) rfl rfl rfl ?_
    refine w_calli (as := [.int x3, .int x4]) (rest := [.int x1, .ref 58]) (n := 209) rfl rfl rfl rfl ?_
    obtain ⟨r206, I206, hI206, H⟩ := H
    refine ⟨r206, I206, hI206, ?_⟩
    refine w_callv (as := [.ref 58, .int x1, .int r206]) (rest := []) (n := 212) rfl rfl rfl rfl ?_
    obtain ⟨I209, hI209, H⟩ := H
    refine ⟨I209, hI209, ?_⟩
    refine w_iinc (y := x4 + 1) (ls' := [some (.ref 58), some (.int x1), some (.int x2), some (.int x3), some (.int (x4 + 1))]) (n := 215) rfl rfl rfl rfl rfl ?_
    refine w_goto rfl ?_
    exact w_drp mm_Qf_i H (lb_s (lb_s (lb_s (lb_s (lb_s lb_e)))))
theorem e_M_store {P : Int32 → mm_I → Prop} {I : mm_I} (x1 : Int32)
  (H : mm_Mi 125 [.int x1, .int 0, .int ((I 58 15) - 1)] (mm_up I 58 16 0) (fun r13 I13 =>  -- M.within
    (¬ r13 = 0 →
      vp_in x1 4000 ∧
      True) ∧
    P (if r13 = 0 then ((-1) : Int32) else (I13 66 x1.toNatClampNeg)) I13)) : mm_Mi 194 [.ref 58, .int x1] I P := by
  refine mm_Mi_of ?_
  show mm_W 194 0 [some (.ref 58), some (.int x1)] [] I (mm_qi 194 P)
  refine w_aload_nR (x := 58) (n := 1) rfl rfl rfl ?_
  refine w_iconst (v := 0) (n := 2) rfl rfl rfl ?_
  refine w_putI (n := 5) rfl rfl rfl rfl rfl ?_
  refine w_iload_n (n := 6) rfl rfl rfl ?_
  refine w_iconst (v := 0) (n := 7) rfl rfl rfl ?_
  refine w_aload_nR (x := 58) (n := 8) rfl rfl rfl ?_
  refine w_getI (n := 11) rfl rfl rfl rfl ?_
  refine w_iconst (v := 1) (n := 12) rfl rfl rfl ?_
  refine w_isub (n := 13) rfl rfl ?_
  refine w_calli (as := [.int x1, .int 0, .int ((I 58 15) - 1)]) (rest := []) (n := 16) rfl rfl rfl rfl ?_
  obtain ⟨r13, I13, hI13, H⟩ := H
  refine ⟨r13, I13, hI13, ?_⟩
  obtain ⟨K2, H⟩ := H
  have J16 : ∀ (w16_0 : Int32), w16_0 = (if r13 = 0 then ((-1) : Int32) else (I13 66 x1.toNatClampNeg)) → mm_W 194 29 [some (.ref 58), some (.int x1)] [.int w16_0] I13 (mm_qi 194 P) := by
    intro w16_0 e16_0
    subst e16_0
    exact w_ireturn rfl rfl H
  refine w_if_eq (n := 19) rfl rfl ⟨fun hc => ?_, fun hc => ?_⟩
  · refine w_iconst (v := (-1)) (n := 29) rfl rfl rfl ?_
    refine w_drp mm_Qf_i (J16 _ ?_) (lb_s (lb_s lb_e))
    · exact (if_pos hc).symm
  · have H := K2 hc
    refine w_aload_nR (x := 58) (n := 20) rfl rfl rfl ?_
    refine w_getR (b := 66) (n := 23) rfl rfl rfl rfl rfl ?_
    refine w_iload_n (n := 24) rfl rfl rfl ?_
    refine w_iaload (N := 4000) (j := x1.toNatClampNeg) (n := 25) rfl rfl rfl rfl rfl rfl ⟨H.1, ?_⟩
    replace H := H.2
    refine w_goto rfl ?_
    refine w_drp mm_Qf_i (J16 _ ?_) (lb_s (lb_s lb_e))
    · exact (if_neg hc).symm
theorem e_M_spoil {P : Int32 → mm_I → Prop} {I : mm_I} (x1 : Int32) (x2 : Int32)
  (H : mm_Mi 125 [.int x1, .int 0, .int ((I 58 15) - 1)] (mm_up I 58 16 0) (fun r13 I13 =>  -- M.within
    (r13 = 0 →
      P (-1) I13) ∧
    (¬ r13 = 0 →
      mm_Mi 125 [.int x2, .int 1, .int 255] I13 (fun r24 I24 =>  -- M.within
      (¬ r24 = 0 →
        vp_in x1 4000 ∧
        vp_in x1 4000 ∧
        vp_in x1 4000 ∧
        P ((mm_up I24 66 x1.toNatClampNeg ((I24 66 x1.toNatClampNeg) ^^^ x2)) 66 x1.toNatClampNeg) (mm_up I24 66 x1.toNatClampNeg ((I24 66 x1.toNatClampNeg) ^^^ x2))) ∧
      (r24 = 0 →
        P (-1) I24))))) : mm_Mi 195 [.ref 58, .int x1, .int x2] I P := by
  refine mm_Mi_of ?_
  show mm_W 195 0 [some (.ref 58), some (.int x1), some (.int x2)] [] I (mm_qi 195 P)
  refine w_aload_nR (x := 58) (n := 1) rfl rfl rfl ?_
  refine w_iconst (v := 0) (n := 2) rfl rfl rfl ?_
  refine w_putI (n := 5) rfl rfl rfl rfl rfl ?_
  refine w_iload_n (n := 6) rfl rfl rfl ?_
  refine w_iconst (v := 0) (n := 7) rfl rfl rfl ?_
  refine w_aload_nR (x := 58) (n := 8) rfl rfl rfl ?_
  refine w_getI (n := 11) rfl rfl rfl rfl ?_
  refine w_iconst (v := 1) (n := 12) rfl rfl rfl ?_
  refine w_isub (n := 13) rfl rfl ?_
  refine w_calli (as := [.int x1, .int 0, .int ((I 58 15) - 1)]) (rest := []) (n := 16) rfl rfl rfl rfl ?_
  obtain ⟨r13, I13, hI13, H⟩ := H
  refine ⟨r13, I13, hI13, ?_⟩
  refine w_if_eq (n := 19) rfl rfl ⟨fun hc => ?_, fun hc => ?_⟩
  · replace H := H.1 hc
    refine w_iconst (v := (-1)) (n := 31) rfl rfl rfl ?_
    exact w_ireturn rfl rfl H
  · replace H := H.2 hc
    refine w_iload_n (n := 20) rfl rfl rfl ?_
    refine w_iconst (v := 1) (n := 21) rfl rfl rfl ?_
    refine w_sipush (v := 255) (n := 24) rfl rfl rfl ?_
    refine w_calli (as := [.int x2, .int 1, .int 255]) (rest := []) (n := 27) rfl rfl rfl rfl ?_
    obtain ⟨r24, I24, hI24, H⟩ := H
    refine ⟨r24, I24, hI24, ?_⟩
    refine w_if_ne (n := 30) rfl rfl ⟨fun hc => ?_, fun hc => ?_⟩
    · replace H := H.1 hc
      refine w_aload_nR (x := 58) (n := 33) rfl rfl rfl ?_
      refine w_getR (b := 66) (n := 36) rfl rfl rfl rfl rfl ?_
      refine w_iload_n (n := 37) rfl rfl rfl ?_
      refine w_dup2 (n := 38) rfl rfl rfl ?_
      refine w_iaload (N := 4000) (j := x1.toNatClampNeg) (n := 39) rfl rfl rfl rfl rfl rfl ⟨H.1, ?_⟩
      replace H := H.2
      refine w_iload_n (n := 40) rfl rfl rfl ?_
      refine w_ixor (n := 41) rfl rfl ?_
      refine w_iastore (N := 4000) (j := x1.toNatClampNeg) (n := 42) rfl rfl rfl rfl rfl ⟨H.1, ?_⟩
      replace H := H.2
      refine w_aload_nR (x := 58) (n := 43) rfl rfl rfl ?_
      refine w_getR (b := 66) (n := 46) rfl rfl rfl rfl rfl ?_
      refine w_iload_n (n := 47) rfl rfl rfl ?_
      refine w_iaload (N := 4000) (j := x1.toNatClampNeg) (n := 48) rfl rfl rfl rfl rfl rfl ⟨H.1, ?_⟩
      replace H := H.2
      exact w_ireturn rfl rfl H
    · replace H := H.2 hc
      refine w_iconst (v := (-1)) (n := 31) rfl rfl rfl ?_
      exact w_ireturn rfl rfl H
theorem e_M_drop {P : Int32 → mm_I → Prop} {I : mm_I} (x1 : Int32)
  (H : mm_Mi 125 [.int x1, .int 0, .int (I 58 15)] (mm_up I 58 16 0) (fun r11 I11 =>  -- M.within
    (¬ r11 = 0 →
      P ((I11 58 15) - x1) (mm_up I11 58 15 ((I11 58 15) - x1))) ∧
    (r11 = 0 →
      P (-1) I11))) : mm_Mi 196 [.ref 58, .int x1] I P := by
  refine mm_Mi_of ?_
  show mm_W 196 0 [some (.ref 58), some (.int x1)] [] I (mm_qi 196 P)
  refine w_aload_nR (x := 58) (n := 1) rfl rfl rfl ?_
  refine w_iconst (v := 0) (n := 2) rfl rfl rfl ?_
  refine w_putI (n := 5) rfl rfl rfl rfl rfl ?_
  refine w_iload_n (n := 6) rfl rfl rfl ?_
  refine w_iconst (v := 0) (n := 7) rfl rfl rfl ?_
  refine w_aload_nR (x := 58) (n := 8) rfl rfl rfl ?_
  refine w_getI (n := 11) rfl rfl rfl rfl ?_
  refine w_calli (as := [.int x1, .int 0, .int (I 58 15)]) (rest := []) (n := 14) rfl rfl rfl rfl ?_
  obtain ⟨r11, I11, hI11, H⟩ := H
  refine ⟨r11, I11, hI11, ?_⟩
  refine w_if_ne (n := 17) rfl rfl ⟨fun hc => ?_, fun hc => ?_⟩
  · replace H := H.1 hc
    refine w_aload_nR (x := 58) (n := 20) rfl rfl rfl ?_
    refine w_dup (n := 21) rfl rfl rfl ?_
    refine w_getI (n := 24) rfl rfl rfl rfl ?_
    refine w_iload_n (n := 25) rfl rfl rfl ?_
    refine w_isub (n := 26) rfl rfl ?_
    refine w_putI (n := 29) rfl rfl rfl rfl rfl ?_
    refine w_aload_nR (x := 58) (n := 30) rfl rfl rfl ?_
    refine w_getI (n := 33) rfl rfl rfl rfl ?_
    exact w_ireturn rfl rfl H
  · replace H := H.2 hc
    refine w_iconst (v := (-1)) (n := 18) rfl rfl rfl ?_
    exact w_ireturn rfl rfl H
theorem e_M_take {P : Int32 → mm_I → Prop} {I : mm_I} (x1 : Int32)
  (H : mm_Mi 125 [.int x1, .int 0, .int ((I 58 15) - 1)] (mm_up I 58 16 0) (fun r13 I13 =>  -- M.within
    (¬ r13 = 0 →
      vp_in x1 4000 ∧
      mm_W 197 32 [some (.ref 58), none, some (.int (I13 66 x1.toNatClampNeg)), some (.int (x1 + 1))] [] I13 (mm_qi 197 P)) ∧
    (r13 = 0 →
      P (-1) I13))) : mm_Mi 197 [.ref 58, .int x1] I P := by
  refine mm_Mi_of ?_
  show mm_W 197 0 [some (.ref 58), some (.int x1), none, none] [] I (mm_qi 197 P)
  refine w_aload_nR (x := 58) (n := 1) rfl rfl rfl ?_
  refine w_iconst (v := 0) (n := 2) rfl rfl rfl ?_
  refine w_putI (n := 5) rfl rfl rfl rfl rfl ?_
  refine w_iload_n (n := 6) rfl rfl rfl ?_
  refine w_iconst (v := 0) (n := 7) rfl rfl rfl ?_
  refine w_aload_nR (x := 58) (n := 8) rfl rfl rfl ?_
  refine w_getI (n := 11) rfl rfl rfl rfl ?_
  refine w_iconst (v := 1) (n := 12) rfl rfl rfl ?_
  refine w_isub (n := 13) rfl rfl ?_
  refine w_calli (as := [.int x1, .int 0, .int ((I 58 15) - 1)]) (rest := []) (n := 16) rfl rfl rfl rfl ?_
  obtain ⟨r13, I13, hI13, H⟩ := H
  refine ⟨r13, I13, hI13, ?_⟩
  refine w_if_ne (n := 19) rfl rfl ⟨fun hc => ?_, fun hc => ?_⟩
  · replace H := H.1 hc
    refine w_aload_nR (x := 58) (n := 22) rfl rfl rfl ?_
    refine w_getR (b := 66) (n := 25) rfl rfl rfl rfl rfl ?_
    refine w_iload_n (n := 26) rfl rfl rfl ?_
    refine w_iaload (N := 4000) (j := x1.toNatClampNeg) (n := 27) rfl rfl rfl rfl rfl rfl ⟨H.1, ?_⟩
    replace H := H.2
    refine w_istore_n (ls' := [some (.ref 58), some (.int x1), some (.int (I13 66 x1.toNatClampNeg)), none]) (n := 28) rfl rfl rfl rfl ?_
    refine w_iload_n (n := 29) rfl rfl rfl ?_
    refine w_iconst (v := 1) (n := 30) rfl rfl rfl ?_
    refine w_iadd (n := 31) rfl rfl ?_
    refine w_istore_n (ls' := [some (.ref 58), some (.int x1), some (.int (I13 66 x1.toNatClampNeg)), some (.int (x1 + 1))]) (n := 32) rfl rfl rfl rfl ?_
    exact w_drp mm_Qf_i H (lb_s (lb_n (lb_s (lb_s lb_e))))
  · replace H := H.2 hc
    refine w_iconst (v := (-1)) (n := 20) rfl rfl rfl ?_
    exact w_ireturn rfl rfl H
theorem c_M_take_32 {P : Int32 → mm_I → Prop} {I : mm_I} (x2 : Int32) (x3 : Int32)
  (H : ((I 58 15) ≤ x3 →
      P x2 (mm_up I 58 15 ((I 58 15) - 1))) ∧
    (x3 < (I 58 15) →
      vp_in x3 4000 ∧
      vp_in (x3 - 1) 4000 ∧
      mm_W 197 32 [some (.ref 58), none, some (.int x2), some (.int (x3 + 1))] [] (mm_up I 66 ((x3 - 1).toNatClampNeg) (I 66 x3.toNatClampNeg)) (mm_qi 197 P))) : mm_W 197 32 [some (.ref 58), none, some (.int x2), some (.int x3)] [] I (mm_qi 197 P) := by
  refine w_iload_n (n := 33) rfl rfl rfl ?_
  refine w_aload_nR (x := 58) (n := 34) rfl rfl rfl ?_
  refine w_getI (n := 37) rfl rfl rfl rfl ?_
  refine w_icmp_ge (n := 40) rfl rfl ⟨fun hc => ?_, fun hc => ?_⟩
  · replace H := H.1 hc
    refine w_aload_nR (x := 58) (n := 61) rfl rfl rfl ?_
    refine w_dup (n := 62) rfl rfl rfl ?_
    refine w_getI (n := 65) rfl rfl rfl rfl ?_
    refine w_iconst (v := 1) (n := 66) rfl rfl rfl ?_
    refine w_isub (n := 67) rfl rfl ?_
    refine w_putI (n := 70) rfl rfl rfl rfl rfl ?_
    refine w_iload_n (n := 71) rfl rfl rfl ?_
    exact w_ireturn rfl rfl H
  · replace H := H.2 hc
    refine w_aload_nR (x := 58) (n := 41) rfl rfl rfl ?_
    refine w_getR (b := 66) (n := 44) rfl rfl rfl rfl rfl ?_
    refine w_iload_n (n := 45) rfl rfl rfl ?_
    refine w_iconst (v := 1) (n := 46) rfl rfl rfl ?_
    refine w_isub (n := 47) rfl rfl ?_
    refine w_aload_nR (x := 58) (n := 48) rfl rfl rfl ?_
    refine w_getR (b := 66) (n := 51) rfl rfl rfl rfl rfl ?_
    refine w_iload_n (n := 52) rfl rfl rfl ?_
    refine w_iaload (N := 4000) (j := x3.toNatClampNeg) (n := 53) rfl rfl rfl rfl rfl rfl ⟨H.1, ?_⟩
    replace H := H.2
    refine w_iastore (N := 4000) (j := (x3 - 1).toNatClampNeg) (n := 54) rfl rfl rfl rfl rfl ⟨H.1, ?_⟩
    replace H := H.2
    refine w_iinc (y := x3 + 1) (ls' := [some (.ref 58), none, some (.int x2), some (.int (x3 + 1))]) (n := 57) rfl rfl rfl rfl rfl ?_
    refine w_goto rfl ?_
    exact w_drp mm_Qf_i H (lb_s (lb_n (lb_s (lb_s lb_e))))
theorem e_M_headNow {P : Int32 → mm_I → Prop} {I : mm_I}
  (H : (21 ≤ (I 58 15) →
      (¬ (I 66 0) = 83 →
        P 2 I) ∧
      ((I 66 0) = 83 →
        ((I 66 1) = 80 →
          mm_Mi 125 [.int (I 66 2), .int 1, .int 2] (mm_up (mm_up (mm_up (mm_up I 58 35 (I 66 2)) 58 36 (I 66 3)) 58 37 (I 66 4)) 58 38 ((256 * (I 66 5)) + (I 66 6))) (fun r93 I93 =>  -- M.within
          (r93 = 0 →
            mm_W 198 145 [some (.ref 58), some (.int 0), some (.int 0), none] [] I93 (mm_qi 198 P)) ∧
          (¬ r93 = 0 →
            ((I93 58 36) = 8 →
              mm_Mi 127 [.int (I93 58 37)] I93 (fun r121 I121 =>  -- M.isFrame
              mm_W 198 145 [some (.ref 58), some (.int (if r121 = 0 then (0 : Int32) else (if 256 < (I121 58 38) then (0 : Int32) else 1))), some (.int 0), none] [] I121 (mm_qi 198 P))) ∧
            (¬ (I93 58 36) = 8 →
              (¬ (I93 58 36) = 16 →
                mm_W 198 145 [some (.ref 58), some (.int 0), some (.int 0), none] [] I93 (mm_qi 198 P)) ∧
              ((I93 58 36) = 16 →
                mm_Mi 127 [.int (I93 58 37)] I93 (fun r121 I121 =>  -- M.isFrame
                mm_W 198 145 [some (.ref 58), some (.int (if r121 = 0 then (0 : Int32) else (if 256 < (I121 58 38) then (0 : Int32) else 1))), some (.int 0), none] [] I121 (mm_qi 198 P))))))) ∧
        (¬ (I 66 1) = 80 →
          P 2 I))) ∧
    ((I 58 15) < 21 →
      P 1 I)) : mm_Mi 198 [.ref 58] I P := by
  refine mm_Mi_of ?_
  show mm_W 198 0 [some (.ref 58), none, none, none] [] I (mm_qi 198 P)
  refine w_aload_nR (x := 58) (n := 1) rfl rfl rfl ?_
  refine w_getI (n := 4) rfl rfl rfl rfl ?_
  refine w_bipush (v := 21) (n := 6) rfl rfl rfl ?_
  refine w_icmp_ge (n := 9) rfl rfl ⟨fun hc => ?_, fun hc => ?_⟩
  · replace H := H.1 hc
    refine w_aload_nR (x := 58) (n := 12) rfl rfl rfl ?_
    refine w_getR (b := 66) (n := 15) rfl rfl rfl rfl rfl ?_
    refine w_iconst (v := 0) (n := 16) rfl rfl rfl ?_
    refine w_iaload (N := 4000) (j := 0) (n := 17) rfl rfl rfl rfl (by decide) rfl ⟨mm_vpc (by decide), ?_⟩
    refine w_bipush (v := 83) (n := 19) rfl rfl rfl ?_
    refine w_icmp_ne (n := 22) rfl rfl ⟨fun hc => ?_, fun hc => ?_⟩
    · replace H := H.1 hc
      refine w_iconst (v := 2) (n := 34) rfl rfl rfl ?_
      exact w_ireturn rfl rfl H
    · replace H := H.2 hc
      refine w_aload_nR (x := 58) (n := 23) rfl rfl rfl ?_
      refine w_getR (b := 66) (n := 26) rfl rfl rfl rfl rfl ?_
      refine w_iconst (v := 1) (n := 27) rfl rfl rfl ?_
      refine w_iaload (N := 4000) (j := 1) (n := 28) rfl rfl rfl rfl (by decide) rfl ⟨mm_vpc (by decide), ?_⟩
      refine w_bipush (v := 80) (n := 30) rfl rfl rfl ?_
      refine w_icmp_eq (n := 33) rfl rfl ⟨fun hc => ?_, fun hc => ?_⟩
      · replace H := H.1 hc
        refine w_aload_nR (x := 58) (n := 36) rfl rfl rfl ?_
        refine w_aload_nR (x := 58) (n := 37) rfl rfl rfl ?_
        refine w_getR (b := 66) (n := 40) rfl rfl rfl rfl rfl ?_
        refine w_iconst (v := 2) (n := 41) rfl rfl rfl ?_
        refine w_iaload (N := 4000) (j := 2) (n := 42) rfl rfl rfl rfl (by decide) rfl ⟨mm_vpc (by decide), ?_⟩
        refine w_putI (n := 45) rfl rfl rfl rfl rfl ?_
        refine w_aload_nR (x := 58) (n := 46) rfl rfl rfl ?_
        refine w_aload_nR (x := 58) (n := 47) rfl rfl rfl ?_
        refine w_getR (b := 66) (n := 50) rfl rfl rfl rfl rfl ?_
        refine w_iconst (v := 3) (n := 51) rfl rfl rfl ?_
        refine w_iaload (N := 4000) (j := 3) (n := 52) rfl rfl rfl rfl (by decide) rfl ⟨mm_vpc (by decide), ?_⟩
        refine w_putI (n := 55) rfl rfl rfl rfl rfl ?_
        refine w_aload_nR (x := 58) (n := 56) rfl rfl rfl ?_
        refine w_aload_nR (x := 58) (n := 57) rfl rfl rfl ?_
        refine w_getR (b := 66) (n := 60) rfl rfl rfl rfl rfl ?_
        refine w_iconst (v := 4) (n := 61) rfl rfl rfl ?_
        refine w_iaload (N := 4000) (j := 4) (n := 62) rfl rfl rfl rfl (by decide) rfl ⟨mm_vpc (by decide), ?_⟩
        refine w_putI (n := 65) rfl rfl rfl rfl rfl ?_
        refine w_aload_nR (x := 58) (n := 66) rfl rfl rfl ?_
        refine w_sipush (v := 256) (n := 69) rfl rfl rfl ?_
        refine w_aload_nR (x := 58) (n := 70) rfl rfl rfl ?_
        refine w_getR (b := 66) (n := 73) rfl rfl rfl rfl rfl ?_
        refine w_iconst (v := 5) (n := 74) rfl rfl rfl ?_
        refine w_iaload (N := 4000) (j := 5) (n := 75) rfl rfl rfl rfl (by decide) rfl ⟨mm_vpc (by decide), ?_⟩
        refine w_imul (n := 76) rfl rfl ?_
        refine w_aload_nR (x := 58) (n := 77) rfl rfl rfl ?_
        refine w_getR (b := 66) (n := 80) rfl rfl rfl rfl rfl ?_
        refine w_bipush (v := 6) (n := 82) rfl rfl rfl ?_
        refine w_iaload (N := 4000) (j := 6) (n := 83) rfl rfl rfl rfl (by decide) rfl ⟨mm_vpc (by decide), ?_⟩
        refine w_iadd (n := 84) rfl rfl ?_
        refine w_putI (n := 87) rfl rfl rfl rfl rfl ?_
        refine w_aload_nR (x := 58) (n := 88) rfl rfl rfl ?_
        refine w_getI (n := 91) rfl rfl rfl rfl ?_
        refine w_iconst (v := 1) (n := 92) rfl rfl rfl ?_
        refine w_iconst (v := 2) (n := 93) rfl rfl rfl ?_
        refine w_calli (as := [.int (I 66 2), .int 1, .int 2]) (rest := []) (n := 96) rfl rfl rfl rfl ?_
        obtain ⟨r93, I93, hI93, H⟩ := H
        refine ⟨r93, I93, hI93, ?_⟩
        refine w_if_eq (n := 99) rfl rfl ⟨fun hc => ?_, fun hc => ?_⟩
        · replace H := H.1 hc
          refine w_iconst (v := 0) (n := 142) rfl rfl rfl ?_
          refine w_istore_n (ls' := [some (.ref 58), some (.int 0), none, none]) (n := 143) rfl rfl rfl rfl ?_
          refine w_iconst (v := 0) (n := 144) rfl rfl rfl ?_
          refine w_istore_n (ls' := [some (.ref 58), some (.int 0), some (.int 0), none]) (n := 145) rfl rfl rfl rfl ?_
          exact w_drp mm_Qf_i H (lb_s (lb_s (lb_s (lb_n lb_e))))
        · replace H := H.2 hc
          refine w_aload_nR (x := 58) (n := 100) rfl rfl rfl ?_
          refine w_getI (n := 103) rfl rfl rfl rfl ?_
          refine w_bipush (v := 8) (n := 105) rfl rfl rfl ?_
          refine w_icmp_eq (n := 108) rfl rfl ⟨fun hc => ?_, fun hc => ?_⟩
          · replace H := H.1 hc
            refine w_aload_nR (x := 58) (n := 118) rfl rfl rfl ?_
            refine w_getI (n := 121) rfl rfl rfl rfl ?_
            refine w_calli (as := [.int (I93 58 37)]) (rest := []) (n := 124) rfl rfl rfl rfl ?_
            obtain ⟨r121, I121, hI121, H⟩ := H
            refine ⟨r121, I121, hI121, ?_⟩
            have J124 : ∀ (w124_0 : Int32), w124_0 = (if r121 = 0 then (0 : Int32) else (if 256 < (I121 58 38) then (0 : Int32) else 1)) → mm_W 198 142 [some (.ref 58), none, none, none] [.int w124_0] I121 (mm_qi 198 P) := by
              intro w124_0 e124_0
              subst e124_0
              refine w_istore_n (ls' := [some (.ref 58), some (.int (if r121 = 0 then (0 : Int32) else (if 256 < (I121 58 38) then (0 : Int32) else 1))), none, none]) (n := 143) rfl rfl rfl rfl ?_
              refine w_iconst (v := 0) (n := 144) rfl rfl rfl ?_
              refine w_istore_n (ls' := [some (.ref 58), some (.int (if r121 = 0 then (0 : Int32) else (if 256 < (I121 58 38) then (0 : Int32) else 1))), some (.int 0), none]) (n := 145) rfl rfl rfl rfl ?_
              exact w_drp mm_Qf_i H (lb_s (lb_s (lb_s (lb_n lb_e))))
            refine w_if_eq (n := 127) rfl rfl ⟨fun hc => ?_, fun hc => ?_⟩
            · refine w_iconst (v := 0) (n := 142) rfl rfl rfl ?_
              refine w_drp mm_Qf_i (J124 _ ?_) (lb_s (lb_n (lb_n (lb_n lb_e))))
              · exact (if_pos hc).symm
            · refine w_aload_nR (x := 58) (n := 128) rfl rfl rfl ?_
              refine w_getI (n := 131) rfl rfl rfl rfl ?_
              refine w_sipush (v := 256) (n := 134) rfl rfl rfl ?_
              have J134 : ∀ (w134_0 : Int32), w134_0 = (if 256 < (I121 58 38) then (0 : Int32) else 1) → mm_W 198 142 [some (.ref 58), none, none, none] [.int w134_0] I121 (mm_qi 198 P) := by
                intro w134_0 e134_0
                subst e134_0
                refine w_drp mm_Qf_i (J124 _ ?_) (lb_s (lb_n (lb_n (lb_n lb_e))))
                · exact (if_neg hc).symm
              refine w_icmp_gt (n := 137) rfl rfl ⟨fun hc => ?_, fun hc => ?_⟩
              · refine w_iconst (v := 0) (n := 142) rfl rfl rfl ?_
                refine w_drp mm_Qf_i (J134 _ ?_) (lb_s (lb_n (lb_n (lb_n lb_e))))
                · exact (if_pos hc).symm
              · refine w_iconst (v := 1) (n := 138) rfl rfl rfl ?_
                refine w_goto rfl ?_
                refine w_drp mm_Qf_i (J134 _ ?_) (lb_s (lb_n (lb_n (lb_n lb_e))))
                · exact (if_neg (fa_nlt hc)).symm
          · replace H := H.2 hc
            refine w_aload_nR (x := 58) (n := 109) rfl rfl rfl ?_
            refine w_getI (n := 112) rfl rfl rfl rfl ?_
            refine w_bipush (v := 16) (n := 114) rfl rfl rfl ?_
            refine w_icmp_ne (n := 117) rfl rfl ⟨fun hc => ?_, fun hc => ?_⟩
            · replace H := H.1 hc
              refine w_iconst (v := 0) (n := 142) rfl rfl rfl ?_
              refine w_istore_n (ls' := [some (.ref 58), some (.int 0), none, none]) (n := 143) rfl rfl rfl rfl ?_
              refine w_iconst (v := 0) (n := 144) rfl rfl rfl ?_
              refine w_istore_n (ls' := [some (.ref 58), some (.int 0), some (.int 0), none]) (n := 145) rfl rfl rfl rfl ?_
              exact w_drp mm_Qf_i H (lb_s (lb_s (lb_s (lb_n lb_e))))
            · replace H := H.2 hc
              refine w_aload_nR (x := 58) (n := 118) rfl rfl rfl ?_
              refine w_getI (n := 121) rfl rfl rfl rfl ?_
              refine w_calli (as := [.int (I93 58 37)]) (rest := []) (n := 124) rfl rfl rfl rfl ?_
              obtain ⟨r121, I121, hI121, H⟩ := H
              refine ⟨r121, I121, hI121, ?_⟩
              have J124 : ∀ (w124_0 : Int32), w124_0 = (if r121 = 0 then (0 : Int32) else (if 256 < (I121 58 38) then (0 : Int32) else 1)) → mm_W 198 142 [some (.ref 58), none, none, none] [.int w124_0] I121 (mm_qi 198 P) := by
                intro w124_0 e124_0
                subst e124_0
                refine w_istore_n (ls' := [some (.ref 58), some (.int (if r121 = 0 then (0 : Int32) else (if 256 < (I121 58 38) then (0 : Int32) else 1))), none, none]) (n := 143) rfl rfl rfl rfl ?_
                refine w_iconst (v := 0) (n := 144) rfl rfl rfl ?_
                refine w_istore_n (ls' := [some (.ref 58), some (.int (if r121 = 0 then (0 : Int32) else (if 256 < (I121 58 38) then (0 : Int32) else 1))), some (.int 0), none]) (n := 145) rfl rfl rfl rfl ?_
                exact w_drp mm_Qf_i H (lb_s (lb_s (lb_s (lb_n lb_e))))
              refine w_if_eq (n := 127) rfl rfl ⟨fun hc => ?_, fun hc => ?_⟩
              · refine w_iconst (v := 0) (n := 142) rfl rfl rfl ?_
                refine w_drp mm_Qf_i (J124 _ ?_) (lb_s (lb_n (lb_n (lb_n lb_e))))
                · exact (if_pos hc).symm
              · refine w_aload_nR (x := 58) (n := 128) rfl rfl rfl ?_
                refine w_getI (n := 131) rfl rfl rfl rfl ?_
                refine w_sipush (v := 256) (n := 134) rfl rfl rfl ?_
                have J134 : ∀ (w134_0 : Int32), w134_0 = (if 256 < (I121 58 38) then (0 : Int32) else 1) → mm_W 198 142 [some (.ref 58), none, none, none] [.int w134_0] I121 (mm_qi 198 P) := by
                  intro w134_0 e134_0
                  subst e134_0
                  refine w_drp mm_Qf_i (J124 _ ?_) (lb_s (lb_n (lb_n (lb_n lb_e))))
                  · exact (if_neg hc).symm
                refine w_icmp_gt (n := 137) rfl rfl ⟨fun hc => ?_, fun hc => ?_⟩
                · refine w_iconst (v := 0) (n := 142) rfl rfl rfl ?_
                  refine w_drp mm_Qf_i (J134 _ ?_) (lb_s (lb_n (lb_n (lb_n lb_e))))
                  · exact (if_pos hc).symm
                · refine w_iconst (v := 1) (n := 138) rfl rfl rfl ?_
                  refine w_goto rfl ?_
                  refine w_drp mm_Qf_i (J134 _ ?_) (lb_s (lb_n (lb_n (lb_n lb_e))))
                  · exact (if_neg (fa_nlt hc)).symm
      · replace H := H.2 hc
        refine w_iconst (v := 2) (n := 34) rfl rfl rfl ?_
        exact w_ireturn rfl rfl H
  · replace H := H.2 hc
    refine w_iconst (v := 1) (n := 10) rfl rfl rfl ?_
    exact w_ireturn rfl rfl H
theorem c_M_headNow_145 {P : Int32 → mm_I → Prop} {I : mm_I} (x1 : Int32) (x2 : Int32)
  (H : (3 ≤ x2 →
      (¬ x1 = 0 →
        mm_Mi 189 [.ref 58, .int 0, .int 19] I (fun r244 I244 =>  -- M.checked
        P (if r244 = ((256 * (I244 66 19)) + (I244 66 20)) then (0 : Int32) else 4) I244)) ∧
      (x1 = 0 →
        P 3 I)) ∧
    (x2 < 3 →
      mm_W 198 152 [some (.ref 58), some (.int x1), some (.int x2), some (.int 0)] [] I (mm_qi 198 P))) : mm_W 198 145 [some (.ref 58), some (.int x1), some (.int x2), none] [] I (mm_qi 198 P) := by
  refine w_iload_n (n := 146) rfl rfl rfl ?_
  refine w_iconst (v := 3) (n := 147) rfl rfl rfl ?_
  refine w_icmp_ge (n := 150) rfl rfl ⟨fun hc => ?_, fun hc => ?_⟩
  · replace H := H.1 hc
    refine w_iload_n (n := 235) rfl rfl rfl ?_
    refine w_if_ne (n := 238) rfl rfl ⟨fun hc => ?_, fun hc => ?_⟩
    · replace H := H.1 hc
      refine w_aload_nR (x := 58) (n := 241) rfl rfl rfl ?_
      refine w_iconst (v := 0) (n := 242) rfl rfl rfl ?_
      refine w_bipush (v := 19) (n := 244) rfl rfl rfl ?_
      refine w_calli (as := [.ref 58, .int 0, .int 19]) (rest := []) (n := 247) rfl rfl rfl rfl ?_
      obtain ⟨r244, I244, hI244, H⟩ := H
      refine ⟨r244, I244, hI244, ?_⟩
      refine w_sipush (v := 256) (n := 250) rfl rfl rfl ?_
      refine w_aload_nR (x := 58) (n := 251) rfl rfl rfl ?_
      refine w_getR (b := 66) (n := 254) rfl rfl rfl rfl rfl ?_
      refine w_bipush (v := 19) (n := 256) rfl rfl rfl ?_
      refine w_iaload (N := 4000) (j := 19) (n := 257) rfl rfl rfl rfl (by decide) rfl ⟨mm_vpc (by decide), ?_⟩
      refine w_imul (n := 258) rfl rfl ?_
      refine w_aload_nR (x := 58) (n := 259) rfl rfl rfl ?_
      refine w_getR (b := 66) (n := 262) rfl rfl rfl rfl rfl ?_
      refine w_bipush (v := 20) (n := 264) rfl rfl rfl ?_
      refine w_iaload (N := 4000) (j := 20) (n := 265) rfl rfl rfl rfl (by decide) rfl ⟨mm_vpc (by decide), ?_⟩
      refine w_iadd (n := 266) rfl rfl ?_
      have J266 : ∀ (w266_0 : Int32), w266_0 = (if r244 = ((256 * (I244 66 19)) + (I244 66 20)) then (0 : Int32) else 4) → mm_W 198 274 [some (.ref 58), some (.int x1), some (.int x2), none] [.int w266_0] I244 (mm_qi 198 P) := by
        intro w266_0 e266_0
        subst e266_0
        exact w_ireturn rfl rfl H
      refine w_icmp_ne (n := 269) rfl rfl ⟨fun hc => ?_, fun hc => ?_⟩
      · refine w_iconst (v := 4) (n := 274) rfl rfl rfl ?_
        refine w_drp mm_Qf_i (J266 _ ?_) (lb_s (lb_s (lb_s (lb_n lb_e))))
        · exact (if_neg hc).symm
      · refine w_iconst (v := 0) (n := 270) rfl rfl rfl ?_
        refine w_goto rfl ?_
        refine w_drp mm_Qf_i (J266 _ ?_) (lb_s (lb_s (lb_s (lb_n lb_e))))
        · exact (if_pos hc).symm
    · replace H := H.2 hc
      refine w_iconst (v := 3) (n := 239) rfl rfl rfl ?_
      exact w_ireturn rfl rfl H
  · replace H := H.2 hc
    refine w_iconst (v := 0) (n := 151) rfl rfl rfl ?_
    refine w_istore_n (ls' := [some (.ref 58), some (.int x1), some (.int x2), some (.int 0)]) (n := 152) rfl rfl rfl rfl ?_
    exact w_drp mm_Qf_i H (lb_s (lb_s (lb_s (lb_s lb_e))))
theorem c_M_headNow_152 {P : Int32 → mm_I → Prop} {I : mm_I} (x1 : Int32) (x2 : Int32) (x3 : Int32)
  (H : (3 ≤ x3 →
      vp_in (10 + (4 * x2)) 4000 ∧
      vp_in x2 3 ∧
      (¬ x1 = 0 →
        vp_in x2 3 ∧
        True) ∧
      mm_W 198 145 [some (.ref 58), some (.int (if x1 = 0 then (0 : Int32) else (if 4 < ((mm_up I 65 x2.toNatClampNeg (I 66 ((10 + (4 * x2)).toNatClampNeg))) 65 x2.toNatClampNeg) then (0 : Int32) else 1))), some (.int (x2 + 1)), none] [] (mm_up I 65 x2.toNatClampNeg (I 66 ((10 + (4 * x2)).toNatClampNeg))) (mm_qi 198 P)) ∧
    (x3 < 3 →
      vp_in ((7 + (4 * x2)) + x3) 4000 ∧
      mm_Mi 131 [.int (I 66 (((7 + (4 * x2)) + x3).toNatClampNeg)), .int 8] I (fun r181 I181 =>  -- M.signed
      vp_in ((3 * x2) + x3) 9 ∧
      mm_W 198 152 [some (.ref 58), some (.int x1), some (.int x2), some (.int (x3 + 1))] [] (mm_up I181 64 (((3 * x2) + x3).toNatClampNeg) r181) (mm_qi 198 P)))) : mm_W 198 152 [some (.ref 58), some (.int x1), some (.int x2), some (.int x3)] [] I (mm_qi 198 P) := by
  refine w_iload_n (n := 153) rfl rfl rfl ?_
  refine w_iconst (v := 3) (n := 154) rfl rfl rfl ?_
  refine w_icmp_ge (n := 157) rfl rfl ⟨fun hc => ?_, fun hc => ?_⟩
  · replace H := H.1 hc
    refine w_aload_nR (x := 58) (n := 192) rfl rfl rfl ?_
    refine w_getR (b := 65) (n := 195) rfl rfl rfl rfl rfl ?_
    refine w_iload_n (n := 196) rfl rfl rfl ?_
    refine w_aload_nR (x := 58) (n := 197) rfl rfl rfl ?_
    refine w_getR (b := 66) (n := 200) rfl rfl rfl rfl rfl ?_
    refine w_bipush (v := 10) (n := 202) rfl rfl rfl ?_
    refine w_iconst (v := 4) (n := 203) rfl rfl rfl ?_
    refine w_iload_n (n := 204) rfl rfl rfl ?_
    refine w_imul (n := 205) rfl rfl ?_
    refine w_iadd (n := 206) rfl rfl ?_
    refine w_iaload (N := 4000) (j := (10 + (4 * x2)).toNatClampNeg) (n := 207) rfl rfl rfl rfl rfl rfl ⟨H.1, ?_⟩
    replace H := H.2
    refine w_iastore (N := 3) (j := x2.toNatClampNeg) (n := 208) rfl rfl rfl rfl rfl ⟨H.1, ?_⟩
    replace H := H.2
    refine w_iload_n (n := 209) rfl rfl rfl ?_
    obtain ⟨K2, H⟩ := H
    have J209 : ∀ (w209_0 : Int32), w209_0 = (if x1 = 0 then (0 : Int32) else (if 4 < ((mm_up I 65 x2.toNatClampNeg (I 66 ((10 + (4 * x2)).toNatClampNeg))) 65 x2.toNatClampNeg) then (0 : Int32) else 1)) → mm_W 198 227 [some (.ref 58), some (.int x1), some (.int x2), some (.int x3)] [.int w209_0] (mm_up I 65 x2.toNatClampNeg (I 66 ((10 + (4 * x2)).toNatClampNeg))) (mm_qi 198 P) := by
      intro w209_0 e209_0
      subst e209_0
      refine w_istore_n (ls' := [some (.ref 58), some (.int (if x1 = 0 then (0 : Int32) else (if 4 < ((mm_up I 65 x2.toNatClampNeg (I 66 ((10 + (4 * x2)).toNatClampNeg))) 65 x2.toNatClampNeg) then (0 : Int32) else 1))), some (.int x2), some (.int x3)]) (n := 228) rfl rfl rfl rfl ?_
      refine w_iinc (y := x2 + 1) (ls' := [some (.ref 58), some (.int (if x1 = 0 then (0 : Int32) else (if 4 < ((mm_up I 65 x2.toNatClampNeg (I 66 ((10 + (4 * x2)).toNatClampNeg))) 65 x2.toNatClampNeg) then (0 : Int32) else 1))), some (.int (x2 + 1)), some (.int x3)]) (n := 231) rfl rfl rfl rfl rfl ?_
      refine w_goto rfl ?_
      exact w_drp mm_Qf_i H (lb_s (lb_s (lb_s (lb_n lb_e))))
    refine w_if_eq (n := 212) rfl rfl ⟨fun hc => ?_, fun hc => ?_⟩
    · refine w_iconst (v := 0) (n := 227) rfl rfl rfl ?_
      refine w_drp mm_Qf_i (J209 _ ?_) (lb_s (lb_s (lb_s (lb_s lb_e))))
      · exact (if_pos hc).symm
    · have H := K2 hc
      refine w_aload_nR (x := 58) (n := 213) rfl rfl rfl ?_
      refine w_getR (b := 65) (n := 216) rfl rfl rfl rfl rfl ?_
      refine w_iload_n (n := 217) rfl rfl rfl ?_
      refine w_iaload (N := 3) (j := x2.toNatClampNeg) (n := 218) rfl rfl rfl rfl rfl rfl ⟨H.1, ?_⟩
      replace H := H.2
      refine w_iconst (v := 4) (n := 219) rfl rfl rfl ?_
      have J219 : ∀ (w219_0 : Int32), w219_0 = (if 4 < ((mm_up I 65 x2.toNatClampNeg (I 66 ((10 + (4 * x2)).toNatClampNeg))) 65 x2.toNatClampNeg) then (0 : Int32) else 1) → mm_W 198 227 [some (.ref 58), some (.int x1), some (.int x2), some (.int x3)] [.int w219_0] (mm_up I 65 x2.toNatClampNeg (I 66 ((10 + (4 * x2)).toNatClampNeg))) (mm_qi 198 P) := by
        intro w219_0 e219_0
        subst e219_0
        refine w_drp mm_Qf_i (J209 _ ?_) (lb_s (lb_s (lb_s (lb_s lb_e))))
        · exact (if_neg hc).symm
      refine w_icmp_gt (n := 222) rfl rfl ⟨fun hc => ?_, fun hc => ?_⟩
      · refine w_iconst (v := 0) (n := 227) rfl rfl rfl ?_
        refine w_drp mm_Qf_i (J219 _ ?_) (lb_s (lb_s (lb_s (lb_s lb_e))))
        · exact (if_pos hc).symm
      · refine w_iconst (v := 1) (n := 223) rfl rfl rfl ?_
        refine w_goto rfl ?_
        refine w_drp mm_Qf_i (J219 _ ?_) (lb_s (lb_s (lb_s (lb_s lb_e))))
        · exact (if_neg (fa_nlt hc)).symm
  · replace H := H.2 hc
    refine w_aload_nR (x := 58) (n := 158) rfl rfl rfl ?_
    refine w_getR (b := 64) (n := 161) rfl rfl rfl rfl rfl ?_
    refine w_iconst (v := 3) (n := 162) rfl rfl rfl ?_
    refine w_iload_n (n := 163) rfl rfl rfl ?_
    refine w_imul (n := 164) rfl rfl ?_
    refine w_iload_n (n := 165) rfl rfl rfl ?_
    refine w_iadd (n := 166) rfl rfl ?_
    refine w_aload_nR (x := 58) (n := 167) rfl rfl rfl ?_
    refine w_getR (b := 66) (n := 170) rfl rfl rfl rfl rfl ?_
    refine w_bipush (v := 7) (n := 172) rfl rfl rfl ?_
    refine w_iconst (v := 4) (n := 173) rfl rfl rfl ?_
    refine w_iload_n (n := 174) rfl rfl rfl ?_
    refine w_imul (n := 175) rfl rfl ?_
    refine w_iadd (n := 176) rfl rfl ?_
    refine w_iload_n (n := 177) rfl rfl rfl ?_
    refine w_iadd (n := 178) rfl rfl ?_
    refine w_iaload (N := 4000) (j := ((7 + (4 * x2)) + x3).toNatClampNeg) (n := 179) rfl rfl rfl rfl rfl rfl ⟨H.1, ?_⟩
    replace H := H.2
    refine w_bipush (v := 8) (n := 181) rfl rfl rfl ?_
    refine w_calli (as := [.int (I 66 (((7 + (4 * x2)) + x3).toNatClampNeg)), .int 8]) (rest := [.int ((3 * x2) + x3), .ref 64]) (n := 184) rfl rfl rfl rfl ?_
    obtain ⟨r181, I181, hI181, H⟩ := H
    refine ⟨r181, I181, hI181, ?_⟩
    refine w_iastore (N := 9) (j := ((3 * x2) + x3).toNatClampNeg) (n := 185) rfl rfl rfl rfl rfl ⟨H.1, ?_⟩
    replace H := H.2
    refine w_iinc (y := x3 + 1) (ls' := [some (.ref 58), some (.int x1), some (.int x2), some (.int (x3 + 1))]) (n := 188) rfl rfl rfl rfl rfl ?_
    refine w_goto rfl ?_
    exact w_drp mm_Qf_i H (lb_s (lb_s (lb_s (lb_s lb_e))))
theorem e_M_head {P : Int32 → mm_I → Prop} {I : mm_I}
  (H : mm_Mi 198 [.ref 58] (mm_up I 58 16 0) (fun r6 I6 =>  -- M.headNow
    P r6 I6)) : mm_Mi 199 [.ref 58] I P := by
  refine mm_Mi_of ?_
  show mm_W 199 0 [some (.ref 58)] [] I (mm_qi 199 P)
  refine w_aload_nR (x := 58) (n := 1) rfl rfl rfl ?_
  refine w_iconst (v := 0) (n := 2) rfl rfl rfl ?_
  refine w_putI (n := 5) rfl rfl rfl rfl rfl ?_
  refine w_aload_nR (x := 58) (n := 6) rfl rfl rfl ?_
  refine w_calli (as := [.ref 58]) (rest := []) (n := 9) rfl rfl rfl rfl ?_
  obtain ⟨r6, I6, hI6, H⟩ := H
  refine ⟨r6, I6, hI6, ?_⟩
  exact w_ireturn rfl rfl H
theorem e_M_headFrames {P : Int32 → mm_I → Prop} {I : mm_I}
  (H : ¬ (I 58 37) = 0 ∧
    P ((((I 58 38) + (I 58 37)) - 1) / (I 58 37)) I) : mm_Mi 200 [.ref 58] I P := by
  refine mm_Mi_of ?_
  show mm_W 200 0 [some (.ref 58)] [] I (mm_qi 200 P)
  refine w_aload_nR (x := 58) (n := 1) rfl rfl rfl ?_
  refine w_getI (n := 4) rfl rfl rfl rfl ?_
  refine w_aload_nR (x := 58) (n := 5) rfl rfl rfl ?_
  refine w_getI (n := 8) rfl rfl rfl rfl ?_
  refine w_iadd (n := 9) rfl rfl ?_
  refine w_iconst (v := 1) (n := 10) rfl rfl rfl ?_
  refine w_isub (n := 11) rfl rfl ?_
  refine w_aload_nR (x := 58) (n := 12) rfl rfl rfl ?_
  refine w_getI (n := 15) rfl rfl rfl rfl ?_
  refine w_idiv (n := 16) rfl rfl ⟨H.1, ?_⟩
  replace H := H.2
  exact w_ireturn rfl rfl H
theorem e_M_bit {P : Int32 → mm_I → Prop} {I : mm_I}
  (H : (¬ (I 58 40) = 0 →
      P 0 (mm_up I 58 40 1)) ∧
    ((I 58 40) = 0 →
      ((I 58 39) < (8 * (I 58 15)) →
        vp_in ((I 58 39) / 8) 4000 ∧
        P (((I 66 (((I 58 39) / 8).toNatClampNeg)) >>> ((7 - ((I 58 39) - (I 58 39) / 8 * 8)) &&& 31)) &&& 1) (mm_up I 58 39 ((I 58 39) + 1))) ∧
      ((8 * (I 58 15)) ≤ (I 58 39) →
        P 0 (mm_up I 58 40 1)))) : mm_Mi 201 [.ref 58] I P := by
  refine mm_Mi_of ?_
  show mm_W 201 0 [some (.ref 58), none] [] I (mm_qi 201 P)
  refine w_aload_nR (x := 58) (n := 1) rfl rfl rfl ?_
  refine w_getI (n := 4) rfl rfl rfl rfl ?_
  refine w_if_ne (n := 7) rfl rfl ⟨fun hc => ?_, fun hc => ?_⟩
  · replace H := H.1 hc
    refine w_aload_nR (x := 58) (n := 22) rfl rfl rfl ?_
    refine w_iconst (v := 1) (n := 23) rfl rfl rfl ?_
    refine w_putZ (n := 26) rfl rfl rfl rfl rfl rfl ⟨by decide, ?_⟩
    refine w_iconst (v := 0) (n := 27) rfl rfl rfl ?_
    exact w_ireturn rfl rfl H
  · replace H := H.2 hc
    refine w_aload_nR (x := 58) (n := 8) rfl rfl rfl ?_
    refine w_getI (n := 11) rfl rfl rfl rfl ?_
    refine w_bipush (v := 8) (n := 13) rfl rfl rfl ?_
    refine w_aload_nR (x := 58) (n := 14) rfl rfl rfl ?_
    refine w_getI (n := 17) rfl rfl rfl rfl ?_
    refine w_imul (n := 18) rfl rfl ?_
    refine w_icmp_lt (n := 21) rfl rfl ⟨fun hc => ?_, fun hc => ?_⟩
    · replace H := H.1 hc
      refine w_aload_nR (x := 58) (n := 29) rfl rfl rfl ?_
      refine w_getR (b := 66) (n := 32) rfl rfl rfl rfl rfl ?_
      refine w_aload_nR (x := 58) (n := 33) rfl rfl rfl ?_
      refine w_getI (n := 36) rfl rfl rfl rfl ?_
      refine w_bipush (v := 8) (n := 38) rfl rfl rfl ?_
      refine w_idiv (n := 39) rfl rfl ⟨by decide, ?_⟩
      refine w_iaload (N := 4000) (j := ((I 58 39) / 8).toNatClampNeg) (n := 40) rfl rfl rfl rfl rfl rfl ⟨H.1, ?_⟩
      replace H := H.2
      refine w_bipush (v := 7) (n := 42) rfl rfl rfl ?_
      refine w_aload_nR (x := 58) (n := 43) rfl rfl rfl ?_
      refine w_getI (n := 46) rfl rfl rfl rfl ?_
      refine w_bipush (v := 8) (n := 48) rfl rfl rfl ?_
      refine w_irem (n := 49) rfl rfl ⟨by decide, ?_⟩
      refine w_isub (n := 50) rfl rfl ?_
      refine w_ishr (n := 51) rfl rfl ?_
      refine w_iconst (v := 1) (n := 52) rfl rfl rfl ?_
      refine w_iand (n := 53) rfl rfl ?_
      refine w_istore_n (ls' := [some (.ref 58), some (.int (((I 66 (((I 58 39) / 8).toNatClampNeg)) >>> ((7 - ((I 58 39) - (I 58 39) / 8 * 8)) &&& 31)) &&& 1))]) (n := 54) rfl rfl rfl rfl ?_
      refine w_aload_nR (x := 58) (n := 55) rfl rfl rfl ?_
      refine w_dup (n := 56) rfl rfl rfl ?_
      refine w_getI (n := 59) rfl rfl rfl rfl ?_
      refine w_iconst (v := 1) (n := 60) rfl rfl rfl ?_
      refine w_iadd (n := 61) rfl rfl ?_
      refine w_putI (n := 64) rfl rfl rfl rfl rfl ?_
      refine w_iload_n (n := 65) rfl rfl rfl ?_
      exact w_ireturn rfl rfl H
    · replace H := H.2 hc
      refine w_aload_nR (x := 58) (n := 22) rfl rfl rfl ?_
      refine w_iconst (v := 1) (n := 23) rfl rfl rfl ?_
      refine w_putZ (n := 26) rfl rfl rfl rfl rfl rfl ⟨by decide, ?_⟩
      refine w_iconst (v := 0) (n := 27) rfl rfl rfl ?_
      exact w_ireturn rfl rfl H
theorem e_M_bits {P : Int32 → mm_I → Prop} {I : mm_I} (x1 : Int32)
  (H : mm_W 202 4 [some (.ref 58), some (.int x1), some (.int 0), some (.int 0)] [] I (mm_qi 202 P)) : mm_Mi 202 [.ref 58, .int x1] I P := by
  refine mm_Mi_of ?_
  show mm_W 202 0 [some (.ref 58), some (.int x1), none, none] [] I (mm_qi 202 P)
  refine w_iconst (v := 0) (n := 1) rfl rfl rfl ?_
  refine w_istore_n (ls' := [some (.ref 58), some (.int x1), some (.int 0), none]) (n := 2) rfl rfl rfl rfl ?_
  refine w_iconst (v := 0) (n := 3) rfl rfl rfl ?_
  refine w_istore_n (ls' := [some (.ref 58), some (.int x1), some (.int 0), some (.int 0)]) (n := 4) rfl rfl rfl rfl ?_
  exact w_drp mm_Qf_i H (lb_s (lb_s (lb_s (lb_s lb_e))))
theorem c_M_bits_4 {P : Int32 → mm_I → Prop} {I : mm_I} (x1 : Int32) (x2 : Int32) (x3 : Int32)
  (H : (x1 ≤ x3 →
      P x2 I) ∧
    (x3 < x1 →
      mm_Mi 201 [.ref 58] I (fun r13 I13 =>  -- M.bit
      mm_W 202 4 [some (.ref 58), some (.int x1), some (.int ((2 * x2) + r13)), some (.int (x3 + 1))] [] I13 (mm_qi 202 P)))) : mm_W 202 4 [some (.ref 58), some (.int x1), some (.int x2), some (.int x3)] [] I (mm_qi 202 P) := by
  refine w_iload_n (n := 5) rfl rfl rfl ?_
  refine w_iload_n (n := 6) rfl rfl rfl ?_
  refine w_icmp_ge (n := 9) rfl rfl ⟨fun hc => ?_, fun hc => ?_⟩
  · replace H := H.1 hc
    refine w_iload_n (n := 25) rfl rfl rfl ?_
    exact w_ireturn rfl rfl H
  · replace H := H.2 hc
    refine w_iconst (v := 2) (n := 10) rfl rfl rfl ?_
    refine w_iload_n (n := 11) rfl rfl rfl ?_
    refine w_imul (n := 12) rfl rfl ?_
    refine w_aload_nR (x := 58) (n := 13) rfl rfl rfl ?_
    refine w_calli (as := [.ref 58]) (rest := [.int (2 * x2)]) (n := 16) rfl rfl rfl rfl ?_
    obtain ⟨r13, I13, hI13, H⟩ := H
    refine ⟨r13, I13, hI13, ?_⟩
    refine w_iadd (n := 17) rfl rfl ?_
    refine w_istore_n (ls' := [some (.ref 58), some (.int x1), some (.int ((2 * x2) + r13)), some (.int x3)]) (n := 18) rfl rfl rfl rfl ?_
    refine w_iinc (y := x3 + 1) (ls' := [some (.ref 58), some (.int x1), some (.int ((2 * x2) + r13)), some (.int (x3 + 1))]) (n := 21) rfl rfl rfl rfl rfl ?_
    refine w_goto rfl ?_
    exact w_drp mm_Qf_i H (lb_s (lb_s (lb_s (lb_s lb_e))))
theorem e_M_signedBits {P : Int32 → mm_I → Prop} {I : mm_I} (x1 : Int32)
  (H : (¬ x1 = 0 →
      mm_Mi 202 [.ref 58, .int x1] I (fun r10 I10 =>  -- M.bits
      P ((r10 <<< ((32 - x1) &&& 31)) >>> ((32 - x1) &&& 31)) I10)) ∧
    (x1 = 0 →
      P 0 I)) : mm_Mi 203 [.ref 58, .int x1] I P := by
  refine mm_Mi_of ?_
  show mm_W 203 0 [some (.ref 58), some (.int x1)] [] I (mm_qi 203 P)
  refine w_iload_n (n := 1) rfl rfl rfl ?_
  refine w_if_ne (n := 4) rfl rfl ⟨fun hc => ?_, fun hc => ?_⟩
  · replace H := H.1 hc
    refine w_aload_nR (x := 58) (n := 9) rfl rfl rfl ?_
    refine w_iload_n (n := 10) rfl rfl rfl ?_
    refine w_calli (as := [.ref 58, .int x1]) (rest := []) (n := 13) rfl rfl rfl rfl ?_
    obtain ⟨r10, I10, hI10, H⟩ := H
    refine ⟨r10, I10, hI10, ?_⟩
    refine w_bipush (v := 32) (n := 15) rfl rfl rfl ?_
    refine w_iload_n (n := 16) rfl rfl rfl ?_
    refine w_isub (n := 17) rfl rfl ?_
    refine w_ishl (n := 18) rfl rfl ?_
    refine w_bipush (v := 32) (n := 20) rfl rfl rfl ?_
    refine w_iload_n (n := 21) rfl rfl rfl ?_
    refine w_isub (n := 22) rfl rfl ?_
    refine w_ishr (n := 23) rfl rfl ?_
    exact w_ireturn rfl rfl H
  · replace H := H.2 hc
    refine w_iconst (v := 0) (n := 5) rfl rfl rfl ?_
    refine w_goto rfl ?_
    exact w_ireturn rfl rfl H
theorem e_M_readError {P : Int32 → mm_I → Prop} {I : mm_I} (x1 : Int32) (x2 : Int32)
  (H : (¬ x1 = 15 →
      (¬ x1 = 14 →
        mm_W 204 22 [some (.ref 58), some (.int x1), none, some (.int 0), none] [] I (mm_qi 204 P)) ∧
      (x1 = 14 →
        mm_Mi 203 [.ref 58, .int x2] I (fun r16 I16 =>  -- M.signedBits
        P r16 I16))) ∧
    (x1 = 15 →
      P 0 I)) : mm_Mi 204 [.ref 58, .int x1, .int x2] I P := by
  refine mm_Mi_of ?_
  show mm_W 204 0 [some (.ref 58), some (.int x1), some (.int x2), none, none] [] I (mm_qi 204 P)
  refine w_iload_n (n := 1) rfl rfl rfl ?_
  refine w_bipush (v := 15) (n := 3) rfl rfl rfl ?_
  refine w_icmp_ne (n := 6) rfl rfl ⟨fun hc => ?_, fun hc => ?_⟩
  · replace H := H.1 hc
    refine w_iload_n (n := 9) rfl rfl rfl ?_
    refine w_bipush (v := 14) (n := 11) rfl rfl rfl ?_
    refine w_icmp_ne (n := 14) rfl rfl ⟨fun hc => ?_, fun hc => ?_⟩
    · replace H := H.1 hc
      refine w_iconst (v := 0) (n := 21) rfl rfl rfl ?_
      refine w_istore_n (ls' := [some (.ref 58), some (.int x1), some (.int x2), some (.int 0), none]) (n := 22) rfl rfl rfl rfl ?_
      exact w_drp mm_Qf_i H (lb_s (lb_s (lb_n (lb_s (lb_n lb_e)))))
    · replace H := H.2 hc
      refine w_aload_nR (x := 58) (n := 15) rfl rfl rfl ?_
      refine w_iload_n (n := 16) rfl rfl rfl ?_
      refine w_calli (as := [.ref 58, .int x2]) (rest := []) (n := 19) rfl rfl rfl rfl ?_
      obtain ⟨r16, I16, hI16, H⟩ := H
      refine ⟨r16, I16, hI16, ?_⟩
      exact w_ireturn rfl rfl H
  · replace H := H.2 hc
    refine w_iconst (v := 0) (n := 7) rfl rfl rfl ?_
    exact w_ireturn rfl rfl H
theorem c_M_readError_22 {P : Int32 → mm_I → Prop} {I : mm_I} (x1 : Int32) (x3 : Int32)
  (H : (¬ (I 58 40) = 0 →
      mm_Mi 202 [.ref 58, .int x1] I (fun r47 I47 =>  -- M.bits
      (¬ (((x3 <<< (x1 &&& 31)) + r47) &&& 1) = 0 →
        P ((-(((x3 <<< (x1 &&& 31)) + r47) + 1)) / 2) I47) ∧
      ((((x3 <<< (x1 &&& 31)) + r47) &&& 1) = 0 →
        P (((x3 <<< (x1 &&& 31)) + r47) / 2) I47))) ∧
    ((I 58 40) = 0 →
      mm_Mi 201 [.ref 58] I (fun r30 I30 =>  -- M.bit
      (¬ r30 = 0 →
        mm_Mi 202 [.ref 58, .int x1] I30 (fun r47 I47 =>  -- M.bits
        (¬ (((x3 <<< (x1 &&& 31)) + r47) &&& 1) = 0 →
          P ((-(((x3 <<< (x1 &&& 31)) + r47) + 1)) / 2) I47) ∧
        ((((x3 <<< (x1 &&& 31)) + r47) &&& 1) = 0 →
          P (((x3 <<< (x1 &&& 31)) + r47) / 2) I47))) ∧
      (r30 = 0 →
        mm_W 204 22 [some (.ref 58), some (.int x1), none, some (.int (x3 + 1)), none] [] I30 (mm_qi 204 P))))) : mm_W 204 22 [some (.ref 58), some (.int x1), none, some (.int x3), none] [] I (mm_qi 204 P) := by
  refine w_aload_nR (x := 58) (n := 23) rfl rfl rfl ?_
  refine w_getI (n := 26) rfl rfl rfl rfl ?_
  refine w_if_ne (n := 29) rfl rfl ⟨fun hc => ?_, fun hc => ?_⟩
  · replace H := H.1 hc
    refine w_iload_n (n := 43) rfl rfl rfl ?_
    refine w_iload_n (n := 44) rfl rfl rfl ?_
    refine w_ishl (n := 45) rfl rfl ?_
    refine w_aload_nR (x := 58) (n := 46) rfl rfl rfl ?_
    refine w_iload_n (n := 47) rfl rfl rfl ?_
    refine w_calli (as := [.ref 58, .int x1]) (rest := [.int (x3 <<< (x1 &&& 31))]) (n := 50) rfl rfl rfl rfl ?_
    obtain ⟨r47, I47, hI47, H⟩ := H
    refine ⟨r47, I47, hI47, ?_⟩
    refine w_iadd (n := 51) rfl rfl ?_
    refine w_istore (ls' := [some (.ref 58), some (.int x1), none, some (.int x3), some (.int ((x3 <<< (x1 &&& 31)) + r47))]) (n := 53) rfl rfl rfl rfl ?_
    refine w_iload (n := 55) rfl rfl rfl ?_
    refine w_iconst (v := 1) (n := 56) rfl rfl rfl ?_
    refine w_iand (n := 57) rfl rfl ?_
    refine w_if_ne (n := 60) rfl rfl ⟨fun hc => ?_, fun hc => ?_⟩
    · replace H := H.1 hc
      refine w_iload (n := 69) rfl rfl rfl ?_
      refine w_iconst (v := 1) (n := 70) rfl rfl rfl ?_
      refine w_iadd (n := 71) rfl rfl ?_
      refine w_ineg (n := 72) rfl rfl ?_
      refine w_iconst (v := 2) (n := 73) rfl rfl rfl ?_
      refine w_idiv (n := 74) rfl rfl ⟨by decide, ?_⟩
      exact w_ireturn rfl rfl H
    · replace H := H.2 hc
      refine w_iload (n := 62) rfl rfl rfl ?_
      refine w_iconst (v := 2) (n := 63) rfl rfl rfl ?_
      refine w_idiv (n := 64) rfl rfl ⟨by decide, ?_⟩
      refine w_goto rfl ?_
      exact w_ireturn rfl rfl H
  · replace H := H.2 hc
    refine w_aload_nR (x := 58) (n := 30) rfl rfl rfl ?_
    refine w_calli (as := [.ref 58]) (rest := []) (n := 33) rfl rfl rfl rfl ?_
    obtain ⟨r30, I30, hI30, H⟩ := H
    refine ⟨r30, I30, hI30, ?_⟩
    refine w_if_ne (n := 36) rfl rfl ⟨fun hc => ?_, fun hc => ?_⟩
    · replace H := H.1 hc
      refine w_iload_n (n := 43) rfl rfl rfl ?_
      refine w_iload_n (n := 44) rfl rfl rfl ?_
      refine w_ishl (n := 45) rfl rfl ?_
      refine w_aload_nR (x := 58) (n := 46) rfl rfl rfl ?_
      refine w_iload_n (n := 47) rfl rfl rfl ?_
      refine w_calli (as := [.ref 58, .int x1]) (rest := [.int (x3 <<< (x1 &&& 31))]) (n := 50) rfl rfl rfl rfl ?_
      obtain ⟨r47, I47, hI47, H⟩ := H
      refine ⟨r47, I47, hI47, ?_⟩
      refine w_iadd (n := 51) rfl rfl ?_
      refine w_istore (ls' := [some (.ref 58), some (.int x1), none, some (.int x3), some (.int ((x3 <<< (x1 &&& 31)) + r47))]) (n := 53) rfl rfl rfl rfl ?_
      refine w_iload (n := 55) rfl rfl rfl ?_
      refine w_iconst (v := 1) (n := 56) rfl rfl rfl ?_
      refine w_iand (n := 57) rfl rfl ?_
      refine w_if_ne (n := 60) rfl rfl ⟨fun hc => ?_, fun hc => ?_⟩
      · replace H := H.1 hc
        refine w_iload (n := 69) rfl rfl rfl ?_
        refine w_iconst (v := 1) (n := 70) rfl rfl rfl ?_
        refine w_iadd (n := 71) rfl rfl ?_
        refine w_ineg (n := 72) rfl rfl ?_
        refine w_iconst (v := 2) (n := 73) rfl rfl rfl ?_
        refine w_idiv (n := 74) rfl rfl ⟨by decide, ?_⟩
        exact w_ireturn rfl rfl H
      · replace H := H.2 hc
        refine w_iload (n := 62) rfl rfl rfl ?_
        refine w_iconst (v := 2) (n := 63) rfl rfl rfl ?_
        refine w_idiv (n := 64) rfl rfl ⟨by decide, ?_⟩
        refine w_goto rfl ?_
        exact w_ireturn rfl rfl H
    · replace H := H.2 hc
      refine w_iinc (y := x3 + 1) (ls' := [some (.ref 58), some (.int x1), none, some (.int (x3 + 1)), none]) (n := 39) rfl rfl rfl rfl rfl ?_
      refine w_goto rfl ?_
      exact w_drp mm_Qf_i H (lb_s (lb_s (lb_n (lb_s (lb_n lb_e)))))
