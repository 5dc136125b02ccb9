theorem e_M_laysGroups {P : mm_I → Prop} {I : mm_I}
  (H : mm_W 155 2 [some (.ref 58), some (.int 0), none, none, none] [] I (mm_qv 155 P)) : mm_Mv 155 [.ref 58] I P := by
  refine mm_Mv_of ?_
  show mm_W 155 0 [some (.ref 58), none, none, none, none] [] I (mm_qv 155 P)
  refine w_iconst (v := 0) (n := 1) rfl rfl rfl ?_
  refine w_istore_n (ls' := [some (.ref 58), some (.int 0), none, none, none]) (n := 2) rfl rfl rfl rfl ?_
  exact w_drp mm_Qf_v H (lb_s (lb_s (lb_n (lb_n (lb_n lb_e)))))
theorem c_M_laysGroups_2 {P : mm_I → Prop} {I : mm_I} (x1 : Int32)
  (H : ((I 58 22) ≤ x1 →
      P I) ∧
    (x1 < (I 58 22) →
      vp_in x1 8 ∧
      vp_in x1 8 ∧
      mm_W 155 26 [some (.ref 58), some (.int x1), some (.int 0), none, none] [] (mm_up (mm_up I 70 x1.toNatClampNeg 1) 71 x1.toNatClampNeg 1) (mm_qv 155 P))) : mm_W 155 2 [some (.ref 58), some (.int x1), none, none, none] [] I (mm_qv 155 P) := by
  refine w_iload_n (n := 3) rfl rfl rfl ?_
  refine w_aload_nR (x := 58) (n := 4) rfl rfl rfl ?_
  refine w_getI (n := 7) rfl rfl rfl rfl ?_
  refine w_icmp_ge (n := 10) rfl rfl ⟨fun hc => ?_, fun hc => ?_⟩
  · replace H := H.1 hc
    exact w_vreturn rfl rfl H
  · replace H := H.2 hc
    refine w_aload_nR (x := 58) (n := 11) rfl rfl rfl ?_
    refine w_getR (b := 70) (n := 14) rfl rfl rfl rfl rfl ?_
    refine w_iload_n (n := 15) rfl rfl rfl ?_
    refine w_iconst (v := 1) (n := 16) rfl rfl rfl ?_
    refine w_iastore (N := 8) (j := x1.toNatClampNeg) (n := 17) rfl rfl rfl rfl rfl ⟨H.1, ?_⟩
    replace H := H.2
    refine w_aload_nR (x := 58) (n := 18) rfl rfl rfl ?_
    refine w_getR (b := 71) (n := 21) rfl rfl rfl rfl rfl ?_
    refine w_iload_n (n := 22) rfl rfl rfl ?_
    refine w_iconst (v := 1) (n := 23) rfl rfl rfl ?_
    refine w_bastore (N := 8) (j := x1.toNatClampNeg) (n := 24) rfl rfl rfl rfl rfl ⟨H.1, by decide, ?_⟩
    replace H := H.2
    refine w_iconst (v := 0) (n := 25) rfl rfl rfl ?_
    refine w_istore_n (ls' := [some (.ref 58), some (.int x1), some (.int 0), none, none]) (n := 26) rfl rfl rfl rfl ?_
    exact w_drp mm_Qf_v H (lb_s (lb_s (lb_s (lb_n (lb_n lb_e)))))
theorem c_M_laysGroups_26 {P : mm_I → Prop} {I : mm_I} (x1 : Int32) (x2 : Int32)
  (H : (14 ≤ x2 →
      mm_W 155 55 [some (.ref 58), some (.int x1), some (.int (8 * x1)), none, none] [] I (mm_qv 155 P)) ∧
    (x2 < 14 →
      vp_in ((14 * x1) + x2) 112 ∧
      mm_W 155 26 [some (.ref 58), some (.int x1), some (.int (x2 + 1)), none, none] [] (mm_up I 69 (((14 * x1) + x2).toNatClampNeg) 0) (mm_qv 155 P))) : mm_W 155 26 [some (.ref 58), some (.int x1), some (.int x2), none, none] [] I (mm_qv 155 P) := by
  refine w_iload_n (n := 27) rfl rfl rfl ?_
  refine w_bipush (v := 14) (n := 29) rfl rfl rfl ?_
  refine w_icmp_ge (n := 32) rfl rfl ⟨fun hc => ?_, fun hc => ?_⟩
  · replace H := H.1 hc
    refine w_bipush (v := 8) (n := 52) rfl rfl rfl ?_
    refine w_iload_n (n := 53) rfl rfl rfl ?_
    refine w_imul (n := 54) rfl rfl ?_
    refine w_istore_n (ls' := [some (.ref 58), some (.int x1), some (.int (8 * x1)), none, none]) (n := 55) rfl rfl rfl rfl ?_
    exact w_drp mm_Qf_v H (lb_s (lb_s (lb_s (lb_n (lb_n lb_e)))))
  · replace H := H.2 hc
    refine w_aload_nR (x := 58) (n := 33) rfl rfl rfl ?_
    refine w_getR (b := 69) (n := 36) rfl rfl rfl rfl rfl ?_
    refine w_bipush (v := 14) (n := 38) rfl rfl rfl ?_
    refine w_iload_n (n := 39) rfl rfl rfl ?_
    refine w_imul (n := 40) rfl rfl ?_
    refine w_iload_n (n := 41) rfl rfl rfl ?_
    refine w_iadd (n := 42) rfl rfl ?_
    refine w_iconst (v := 0) (n := 43) rfl rfl rfl ?_
    refine w_iastore (N := 112) (j := ((14 * x1) + x2).toNatClampNeg) (n := 44) rfl rfl rfl rfl rfl ⟨H.1, ?_⟩
    replace H := H.2
    refine w_iinc (y := x2 + 1) (ls' := [some (.ref 58), some (.int x1), some (.int (x2 + 1)), none, none]) (n := 47) rfl rfl rfl rfl rfl ?_
    refine w_goto rfl ?_
    exact w_drp mm_Qf_v H (lb_s (lb_s (lb_s (lb_n (lb_n lb_e)))))
theorem c_M_laysGroups_55 {P : mm_I → Prop} {I : mm_I} (x1 : Int32) (x2 : Int32)
  (H : mm_Mi 154 [.ref 58, .int x1] I (fun r62 I62 =>  -- M.inGroup
    (((8 * x1) + r62) ≤ x2 →
      mm_W 155 2 [some (.ref 58), some (.int (x1 + 1)), none, none, none] [] I62 (mm_qv 155 P)) ∧
    (x2 < ((8 * x1) + r62) →
      vp_in x2 64 ∧
      mm_Mi 152 [.int (I62 68 x2.toNatClampNeg)] I62 (fun r75 I75 =>  -- M.folded
      mm_W 155 82 [some (.ref 58), some (.int x1), some (.int x2), some (.int r75), some (.int 0)] [] I75 (mm_qv 155 P))))) : mm_W 155 55 [some (.ref 58), some (.int x1), some (.int x2), none, none] [] I (mm_qv 155 P) := by
  refine w_iload_n (n := 56) rfl rfl rfl ?_
  refine w_bipush (v := 8) (n := 58) rfl rfl rfl ?_
  refine w_iload_n (n := 59) rfl rfl rfl ?_
  refine w_imul (n := 60) rfl rfl ?_
  refine w_aload_nR (x := 58) (n := 61) rfl rfl rfl ?_
  refine w_iload_n (n := 62) rfl rfl rfl ?_
  refine w_calli (as := [.ref 58, .int x1]) (rest := [.int (8 * x1), .int x2]) (n := 65) rfl rfl rfl rfl ?_
  obtain ⟨r62, I62, hI62, H⟩ := H
  refine ⟨r62, I62, hI62, ?_⟩
  refine w_iadd (n := 66) rfl rfl ?_
  refine w_icmp_ge (n := 69) rfl rfl ⟨fun hc => ?_, fun hc => ?_⟩
  · replace H := H.1 hc
    refine w_iinc (y := x1 + 1) (ls' := [some (.ref 58), some (.int (x1 + 1)), some (.int x2), none, none]) (n := 169) rfl rfl rfl rfl rfl ?_
    refine w_goto rfl ?_
    exact w_drp mm_Qf_v H (lb_s (lb_s (lb_n (lb_n (lb_n lb_e)))))
  · replace H := H.2 hc
    refine w_aload_nR (x := 58) (n := 70) rfl rfl rfl ?_
    refine w_getR (b := 68) (n := 73) rfl rfl rfl rfl rfl ?_
    refine w_iload_n (n := 74) rfl rfl rfl ?_
    refine w_iaload (N := 64) (j := x2.toNatClampNeg) (n := 75) rfl rfl rfl rfl rfl rfl ⟨H.1, ?_⟩
    replace H := H.2
    refine w_calli (as := [.int (I62 68 x2.toNatClampNeg)]) (rest := []) (n := 78) rfl rfl rfl rfl ?_
    obtain ⟨r75, I75, hI75, H⟩ := H
    refine ⟨r75, I75, hI75, ?_⟩
    refine w_istore_n (ls' := [some (.ref 58), some (.int x1), some (.int x2), some (.int r75), none]) (n := 79) rfl rfl rfl rfl ?_
    refine w_iconst (v := 0) (n := 80) rfl rfl rfl ?_
    refine w_istore (ls' := [some (.ref 58), some (.int x1), some (.int x2), some (.int r75), some (.int 0)]) (n := 82) rfl rfl rfl rfl ?_
    exact w_drp mm_Qf_v H (lb_s (lb_s (lb_s (lb_s (lb_s lb_e)))))
theorem c_M_laysGroups_82 {P : mm_I → Prop} {I : mm_I} (x1 : Int32) (x2 : Int32) (x3 : Int32) (x4 : Int32)
  (H : (14 ≤ x4 →
      vp_in x2 64 ∧
      mm_Mi 153 [.int (I 68 x2.toNatClampNeg)] I (fun r125 I125 =>  -- M.widthOf
      vp_in x1 8 ∧
      (r125 ≤ (I125 70 x1.toNatClampNeg) →
        (x3 = 0 →
          mm_W 155 55 [some (.ref 58), some (.int x1), some (.int (x2 + 1)), none, none] [] I125 (mm_qv 155 P)) ∧
        (¬ x3 = 0 →
          vp_in x1 8 ∧
          mm_W 155 55 [some (.ref 58), some (.int x1), some (.int (x2 + 1)), none, none] [] (mm_up I125 71 x1.toNatClampNeg 0) (mm_qv 155 P))) ∧
      ((I125 70 x1.toNatClampNeg) < r125 →
        vp_in x1 8 ∧
        (x3 = 0 →
          mm_W 155 55 [some (.ref 58), some (.int x1), some (.int (x2 + 1)), none, none] [] (mm_up I125 70 x1.toNatClampNeg r125) (mm_qv 155 P)) ∧
        (¬ x3 = 0 →
          vp_in x1 8 ∧
          mm_W 155 55 [some (.ref 58), some (.int x1), some (.int (x2 + 1)), none, none] [] (mm_up (mm_up I125 70 x1.toNatClampNeg r125) 71 x1.toNatClampNeg 0) (mm_qv 155 P))))) ∧
    (x4 < 14 →
      vp_in ((14 * x1) + x4) 112 ∧
      vp_in ((14 * x1) + x4) 112 ∧
      mm_W 155 82 [some (.ref 58), some (.int x1), some (.int x2), some (.int x3), some (.int (x4 + 1))] [] (mm_up I 69 (((14 * x1) + x4).toNatClampNeg) ((I 69 (((14 * x1) + x4).toNatClampNeg)) + (((x3 >>> (x4 &&& 31)) + 1) + x4))) (mm_qv 155 P))) : mm_W 155 82 [some (.ref 58), some (.int x1), some (.int x2), some (.int x3), some (.int x4)] [] I (mm_qv 155 P) := by
  refine w_iload (n := 84) rfl rfl rfl ?_
  refine w_bipush (v := 14) (n := 86) rfl rfl rfl ?_
  refine w_icmp_ge (n := 89) rfl rfl ⟨fun hc => ?_, fun hc => ?_⟩
  · replace H := H.1 hc
    refine w_aload_nR (x := 58) (n := 120) rfl rfl rfl ?_
    refine w_getR (b := 68) (n := 123) rfl rfl rfl rfl rfl ?_
    refine w_iload_n (n := 124) rfl rfl rfl ?_
    refine w_iaload (N := 64) (j := x2.toNatClampNeg) (n := 125) rfl rfl rfl rfl rfl rfl ⟨H.1, ?_⟩
    replace H := H.2
    refine w_calli (as := [.int (I 68 x2.toNatClampNeg)]) (rest := []) (n := 128) rfl rfl rfl rfl ?_
    obtain ⟨r125, I125, hI125, H⟩ := H
    refine ⟨r125, I125, hI125, ?_⟩
    refine w_istore (ls' := [some (.ref 58), some (.int x1), some (.int x2), some (.int x3), some (.int r125)]) (n := 130) rfl rfl rfl rfl ?_
    refine w_iload (n := 132) rfl rfl rfl ?_
    refine w_aload_nR (x := 58) (n := 133) rfl rfl rfl ?_
    refine w_getR (b := 70) (n := 136) rfl rfl rfl rfl rfl ?_
    refine w_iload_n (n := 137) rfl rfl rfl ?_
    refine w_iaload (N := 8) (j := x1.toNatClampNeg) (n := 138) rfl rfl rfl rfl rfl rfl ⟨H.1, ?_⟩
    replace H := H.2
    refine w_icmp_le (n := 141) rfl rfl ⟨fun hc => ?_, fun hc => ?_⟩
    · replace H := H.1 hc
      refine w_iload_n (n := 150) rfl rfl rfl ?_
      refine w_if_eq (n := 153) rfl rfl ⟨fun hc => ?_, fun hc => ?_⟩
      · replace H := H.1 hc
        refine w_iinc (y := x2 + 1) (ls' := [some (.ref 58), some (.int x1), some (.int (x2 + 1)), some (.int x3), some (.int r125)]) (n := 163) rfl rfl rfl rfl rfl ?_
        refine w_goto rfl ?_
        exact w_drp mm_Qf_v H (lb_s (lb_s (lb_s (lb_n (lb_n lb_e)))))
      · replace H := H.2 hc
        refine w_aload_nR (x := 58) (n := 154) rfl rfl rfl ?_
        refine w_getR (b := 71) (n := 157) rfl rfl rfl rfl rfl ?_
        refine w_iload_n (n := 158) rfl rfl rfl ?_
        refine w_iconst (v := 0) (n := 159) rfl rfl rfl ?_
        refine w_bastore (N := 8) (j := x1.toNatClampNeg) (n := 160) rfl rfl rfl rfl rfl ⟨H.1, by decide, ?_⟩
        replace H := H.2
        refine w_iinc (y := x2 + 1) (ls' := [some (.ref 58), some (.int x1), some (.int (x2 + 1)), some (.int x3), some (.int r125)]) (n := 163) rfl rfl rfl rfl rfl ?_
        refine w_goto rfl ?_
        exact w_drp mm_Qf_v H (lb_s (lb_s (lb_s (lb_n (lb_n lb_e)))))
    · replace H := H.2 hc
      refine w_aload_nR (x := 58) (n := 142) rfl rfl rfl ?_
      refine w_getR (b := 70) (n := 145) rfl rfl rfl rfl rfl ?_
      refine w_iload_n (n := 146) rfl rfl rfl ?_
      refine w_iload (n := 148) rfl rfl rfl ?_
      refine w_iastore (N := 8) (j := x1.toNatClampNeg) (n := 149) rfl rfl rfl rfl rfl ⟨H.1, ?_⟩
      replace H := H.2
      refine w_iload_n (n := 150) rfl rfl rfl ?_
      refine w_if_eq (n := 153) rfl rfl ⟨fun hc => ?_, fun hc => ?_⟩
      · replace H := H.1 hc
        refine w_iinc (y := x2 + 1) (ls' := [some (.ref 58), some (.int x1), some (.int (x2 + 1)), some (.int x3), some (.int r125)]) (n := 163) rfl rfl rfl rfl rfl ?_
        refine w_goto rfl ?_
        exact w_drp mm_Qf_v H (lb_s (lb_s (lb_s (lb_n (lb_n lb_e)))))
      · replace H := H.2 hc
        refine w_aload_nR (x := 58) (n := 154) rfl rfl rfl ?_
        refine w_getR (b := 71) (n := 157) rfl rfl rfl rfl rfl ?_
        refine w_iload_n (n := 158) rfl rfl rfl ?_
        refine w_iconst (v := 0) (n := 159) rfl rfl rfl ?_
        refine w_bastore (N := 8) (j := x1.toNatClampNeg) (n := 160) rfl rfl rfl rfl rfl ⟨H.1, by decide, ?_⟩
        replace H := H.2
        refine w_iinc (y := x2 + 1) (ls' := [some (.ref 58), some (.int x1), some (.int (x2 + 1)), some (.int x3), some (.int r125)]) (n := 163) rfl rfl rfl rfl rfl ?_
        refine w_goto rfl ?_
        exact w_drp mm_Qf_v H (lb_s (lb_s (lb_s (lb_n (lb_n lb_e)))))
  · replace H := H.2 hc
    refine w_aload_nR (x := 58) (n := 90) rfl rfl rfl ?_
    refine w_getR (b := 69) (n := 93) rfl rfl rfl rfl rfl ?_
    refine w_bipush (v := 14) (n := 95) rfl rfl rfl ?_
    refine w_iload_n (n := 96) rfl rfl rfl ?_
    refine w_imul (n := 97) rfl rfl ?_
    refine w_iload (n := 99) rfl rfl rfl ?_
    refine w_iadd (n := 100) rfl rfl ?_
    refine w_dup2 (n := 101) rfl rfl rfl ?_
    refine w_iaload (N := 112) (j := ((14 * x1) + x4).toNatClampNeg) (n := 102) rfl rfl rfl rfl rfl rfl ⟨H.1, ?_⟩
    replace H := H.2
    refine w_iload_n (n := 103) rfl rfl rfl ?_
    refine w_iload (n := 105) rfl rfl rfl ?_
    refine w_ishr (n := 106) rfl rfl ?_
    refine w_iconst (v := 1) (n := 107) rfl rfl rfl ?_
    refine w_iadd (n := 108) rfl rfl ?_
    refine w_iload (n := 110) rfl rfl rfl ?_
    refine w_iadd (n := 111) rfl rfl ?_
    refine w_iadd (n := 112) rfl rfl ?_
    refine w_iastore (N := 112) (j := ((14 * x1) + x4).toNatClampNeg) (n := 113) rfl rfl rfl rfl rfl ⟨H.1, ?_⟩
    replace H := H.2
    refine w_iinc (y := x4 + 1) (ls' := [some (.ref 58), some (.int x1), some (.int x2), some (.int x3), some (.int (x4 + 1))]) (n := 116) rfl rfl rfl rfl rfl ?_
    refine w_goto rfl ?_
    exact w_drp mm_Qf_v H (lb_s (lb_s (lb_s (lb_s (lb_s lb_e)))))
theorem e_M_bitsBy {P : Int32 → mm_I → Prop} {I : mm_I} (x1 : Int32) (x2 : Int32) (x3 : Int32)
  (H : mm_W 156 16 [some (.ref 58), none, some (.int x2), some (.int x3), some (.int 7), some (.int 1), some (.int 0), some (.int 1), some (.int x1)] [] I (mm_qi 156 P)) : mm_Mi 156 [.ref 58, .int x1, .int x2, .int x3] I P := by
  refine mm_Mi_of ?_
  show mm_W 156 0 [some (.ref 58), some (.int x1), some (.int x2), some (.int x3), none, none, none, none, none] [] I (mm_qi 156 P)
  refine w_bipush (v := 7) (n := 2) rfl rfl rfl ?_
  refine w_istore (ls' := [some (.ref 58), some (.int x1), some (.int x2), some (.int x3), some (.int 7), none, none, none, none]) (n := 4) rfl rfl rfl rfl ?_
  refine w_iconst (v := 1) (n := 5) rfl rfl rfl ?_
  refine w_istore (ls' := [some (.ref 58), some (.int x1), some (.int x2), some (.int x3), some (.int 7), some (.int 1), none, none, none]) (n := 7) rfl rfl rfl rfl ?_
  refine w_iconst (v := 0) (n := 8) rfl rfl rfl ?_
  refine w_istore (ls' := [some (.ref 58), some (.int x1), some (.int x2), some (.int x3), some (.int 7), some (.int 1), some (.int 0), none, none]) (n := 10) rfl rfl rfl rfl ?_
  refine w_iconst (v := 1) (n := 11) rfl rfl rfl ?_
  refine w_istore (ls' := [some (.ref 58), some (.int x1), some (.int x2), some (.int x3), some (.int 7), some (.int 1), some (.int 0), some (.int 1), none]) (n := 13) rfl rfl rfl rfl ?_
  refine w_iload_n (n := 14) rfl rfl rfl ?_
  refine w_istore (ls' := [some (.ref 58), some (.int x1), some (.int x2), some (.int x3), some (.int 7), some (.int 1), some (.int 0), some (.int 1), some (.int x1)]) (n := 16) rfl rfl rfl rfl ?_
  exact w_drp mm_Qf_i H (lb_s (lb_n (lb_s (lb_s (lb_s (lb_s (lb_s (lb_s (lb_s lb_e)))))))))
theorem c_M_bitsBy_16 {P : Int32 → mm_I → Prop} {I : mm_I} (x2 : Int32) (x3 : Int32) (x4 : Int32) (x5 : Int32) (x6 : Int32) (x7 : Int32) (x8 : Int32)
  (H : (x2 ≤ x8 →
      (¬ x3 = 15 →
        P (if x3 = 14 then (12 + (x5 * x6) : Int32) else x4) I) ∧
      (x3 = 15 →
        P (if x7 = 0 then ((-1) : Int32) else 7) I)) ∧
    (x8 < x2 →
      (x3 < 14 →
        vp_in ((14 * x8) + x3) 112 ∧
        True) ∧
      vp_in x8 8 ∧
      (x5 < (I 70 x8.toNatClampNeg) →
        vp_in x8 8 ∧
        True) ∧
      (¬ x7 = 0 →
        vp_in x8 8 ∧
        True) ∧
      mm_Mi 154 [.ref 58, .int x8] I (fun r93 I93 =>  -- M.inGroup
      mm_W 156 16 [some (.ref 58), none, some (.int x2), some (.int x3), some (.int (if 14 ≤ x3 then (x4 : Int32) else x4 + (I 69 (((14 * x8) + x3).toNatClampNeg)))), some (.int (if (I 70 x8.toNatClampNeg) ≤ x5 then (x5 : Int32) else (I 70 x8.toNatClampNeg))), some (.int (x6 + r93)), some (.int (if x7 = 0 then (0 : Int32) else (if (I 71 x8.toNatClampNeg) = 0 then (0 : Int32) else 1))), some (.int (x8 + 1))] [] I93 (mm_qi 156 P)))) : mm_W 156 16 [some (.ref 58), none, some (.int x2), some (.int x3), some (.int x4), some (.int x5), some (.int x6), some (.int x7), some (.int x8)] [] I (mm_qi 156 P) := by
  refine w_iload (n := 18) rfl rfl rfl ?_
  refine w_iload_n (n := 19) rfl rfl rfl ?_
  refine w_icmp_ge (n := 22) rfl rfl ⟨fun hc => ?_, fun hc => ?_⟩
  · replace H := H.1 hc
    refine w_iload_n (n := 106) rfl rfl rfl ?_
    refine w_bipush (v := 15) (n := 108) rfl rfl rfl ?_
    refine w_icmp_ne (n := 111) rfl rfl ⟨fun hc => ?_, fun hc => ?_⟩
    · replace H := H.1 hc
      refine w_iload_n (n := 124) rfl rfl rfl ?_
      refine w_bipush (v := 14) (n := 126) rfl rfl rfl ?_
      have J126 : ∀ (w126_0 : Int32), w126_0 = (if x3 = 14 then (12 + (x5 * x6) : Int32) else x4) → mm_W 156 142 [some (.ref 58), none, some (.int x2), some (.int x3), some (.int x4), some (.int x5), some (.int x6), some (.int x7), some (.int x8)] [.int w126_0] I (mm_qi 156 P) := by
        intro w126_0 e126_0
        subst e126_0
        exact w_ireturn rfl rfl H
      refine w_icmp_ne (n := 129) rfl rfl ⟨fun hc => ?_, fun hc => ?_⟩
      · refine w_iload (n := 142) rfl rfl rfl ?_
        refine w_drp mm_Qf_i (J126 _ ?_) (lb_s (lb_n (lb_s (lb_s (lb_s (lb_s (lb_s (lb_s (lb_s lb_e)))))))))
        · exact (if_neg hc).symm
      · refine w_bipush (v := 12) (n := 131) rfl rfl rfl ?_
        refine w_iload (n := 133) rfl rfl rfl ?_
        refine w_iload (n := 135) rfl rfl rfl ?_
        refine w_imul (n := 136) rfl rfl ?_
        refine w_iadd (n := 137) rfl rfl ?_
        refine w_goto rfl ?_
        refine w_drp mm_Qf_i (J126 _ ?_) (lb_s (lb_n (lb_s (lb_s (lb_s (lb_s (lb_s (lb_s (lb_s lb_e)))))))))
        · exact (if_pos hc).symm
    · replace H := H.2 hc
      refine w_iload (n := 113) rfl rfl rfl ?_
      have J113 : ∀ (w113_0 : Int32), w113_0 = (if x7 = 0 then ((-1) : Int32) else 7) → mm_W 156 122 [some (.ref 58), none, some (.int x2), some (.int x3), some (.int x4), some (.int x5), some (.int x6), some (.int x7), some (.int x8)] [.int w113_0] I (mm_qi 156 P) := by
        intro w113_0 e113_0
        subst e113_0
        exact w_ireturn rfl rfl H
      refine w_if_eq (n := 116) rfl rfl ⟨fun hc => ?_, fun hc => ?_⟩
      · refine w_iconst (v := (-1)) (n := 122) rfl rfl rfl ?_
        refine w_drp mm_Qf_i (J113 _ ?_) (lb_s (lb_n (lb_s (lb_s (lb_s (lb_s (lb_s (lb_s (lb_s lb_e)))))))))
        · exact (if_pos hc).symm
      · refine w_bipush (v := 7) (n := 118) rfl rfl rfl ?_
        refine w_goto rfl ?_
        refine w_drp mm_Qf_i (J113 _ ?_) (lb_s (lb_n (lb_s (lb_s (lb_s (lb_s (lb_s (lb_s (lb_s lb_e)))))))))
        · exact (if_neg hc).symm
  · replace H := H.2 hc
    refine w_iload_n (n := 23) rfl rfl rfl ?_
    refine w_bipush (v := 14) (n := 25) rfl rfl rfl ?_
    obtain ⟨K2, H⟩ := H
    have J25 : ∀ (y25_4 : Int32), y25_4 = (if 14 ≤ x3 then (x4 : Int32) else x4 + (I 69 (((14 * x8) + x3).toNatClampNeg))) → mm_W 156 45 [some (.ref 58), none, some (.int x2), some (.int x3), some (.int y25_4), some (.int x5), some (.int x6), some (.int x7), some (.int x8)] [] I (mm_qi 156 P) := by
      intro y25_4 e25_0
      subst e25_0
      refine w_aload_nR (x := 58) (n := 46) rfl rfl rfl ?_
      refine w_getR (b := 70) (n := 49) rfl rfl rfl rfl rfl ?_
      refine w_iload (n := 51) rfl rfl rfl ?_
      refine w_iaload (N := 8) (j := x8.toNatClampNeg) (n := 52) rfl rfl rfl rfl rfl rfl ⟨H.1, ?_⟩
      replace H := H.2
      refine w_iload (n := 54) rfl rfl rfl ?_
      obtain ⟨K2, H⟩ := H
      have J54 : ∀ (y54_5 : Int32), y54_5 = (if (I 70 x8.toNatClampNeg) ≤ x5 then (x5 : Int32) else (I 70 x8.toNatClampNeg)) → mm_W 156 66 [some (.ref 58), none, some (.int x2), some (.int x3), some (.int (if 14 ≤ x3 then (x4 : Int32) else x4 + (I 69 (((14 * x8) + x3).toNatClampNeg)))), some (.int y54_5), some (.int x6), some (.int x7), some (.int x8)] [] I (mm_qi 156 P) := by
        intro y54_5 e54_0
        subst e54_0
        refine w_iload (n := 68) rfl rfl rfl ?_
        obtain ⟨K2, H⟩ := H
        have J68 : ∀ (w68_0 : Int32), w68_0 = (if x7 = 0 then (0 : Int32) else (if (I 71 x8.toNatClampNeg) = 0 then (0 : Int32) else 1)) → mm_W 156 86 [some (.ref 58), none, some (.int x2), some (.int x3), some (.int (if 14 ≤ x3 then (x4 : Int32) else x4 + (I 69 (((14 * x8) + x3).toNatClampNeg)))), some (.int (if (I 70 x8.toNatClampNeg) ≤ x5 then (x5 : Int32) else (I 70 x8.toNatClampNeg))), some (.int x6), some (.int x7), some (.int x8)] [.int w68_0] I (mm_qi 156 P) := by
          intro w68_0 e68_0
          subst e68_0
          refine w_istore (ls' := [some (.ref 58), none, some (.int x2), some (.int x3), some (.int (if 14 ≤ x3 then (x4 : Int32) else x4 + (I 69 (((14 * x8) + x3).toNatClampNeg)))), some (.int (if (I 70 x8.toNatClampNeg) ≤ x5 then (x5 : Int32) else (I 70 x8.toNatClampNeg))), some (.int x6), some (.int (if x7 = 0 then (0 : Int32) else (if (I 71 x8.toNatClampNeg) = 0 then (0 : Int32) else 1))), some (.int x8)]) (n := 88) rfl rfl rfl rfl ?_
          refine w_iload (n := 90) rfl rfl rfl ?_
          refine w_aload_nR (x := 58) (n := 91) rfl rfl rfl ?_
          refine w_iload (n := 93) rfl rfl rfl ?_
          refine w_calli (as := [.ref 58, .int x8]) (rest := [.int x6]) (n := 96) rfl rfl rfl rfl ?_
          obtain ⟨r93, I93, hI93, H⟩ := H
          refine ⟨r93, I93, hI93, ?_⟩
          refine w_iadd (n := 97) rfl rfl ?_
          refine w_istore (ls' := [some (.ref 58), none, some (.int x2), some (.int x3), some (.int (if 14 ≤ x3 then (x4 : Int32) else x4 + (I 69 (((14 * x8) + x3).toNatClampNeg)))), some (.int (if (I 70 x8.toNatClampNeg) ≤ x5 then (x5 : Int32) else (I 70 x8.toNatClampNeg))), some (.int (x6 + r93)), some (.int (if x7 = 0 then (0 : Int32) else (if (I 71 x8.toNatClampNeg) = 0 then (0 : Int32) else 1))), some (.int x8)]) (n := 99) rfl rfl rfl rfl ?_
          refine w_iinc (y := x8 + 1) (ls' := [some (.ref 58), none, some (.int x2), some (.int x3), some (.int (if 14 ≤ x3 then (x4 : Int32) else x4 + (I 69 (((14 * x8) + x3).toNatClampNeg)))), some (.int (if (I 70 x8.toNatClampNeg) ≤ x5 then (x5 : Int32) else (I 70 x8.toNatClampNeg))), some (.int (x6 + r93)), some (.int (if x7 = 0 then (0 : Int32) else (if (I 71 x8.toNatClampNeg) = 0 then (0 : Int32) else 1))), some (.int (x8 + 1))]) (n := 102) rfl rfl rfl rfl rfl ?_
          refine w_goto rfl ?_
          exact w_drp mm_Qf_i H (lb_s (lb_n (lb_s (lb_s (lb_s (lb_s (lb_s (lb_s (lb_s lb_e)))))))))
        refine w_if_eq (n := 71) rfl rfl ⟨fun hc => ?_, fun hc => ?_⟩
        · refine w_iconst (v := 0) (n := 86) rfl rfl rfl ?_
          refine w_drp mm_Qf_i (J68 _ ?_) (lb_s (lb_n (lb_s (lb_s (lb_s (lb_s (lb_s (lb_s (lb_s lb_e)))))))))
          · exact (if_pos hc).symm
        · have H := K2 hc
          refine w_aload_nR (x := 58) (n := 72) rfl rfl rfl ?_
          refine w_getR (b := 71) (n := 75) rfl rfl rfl rfl rfl ?_
          refine w_iload (n := 77) rfl rfl rfl ?_
          refine w_baload (N := 8) (j := x8.toNatClampNeg) (n := 78) rfl rfl rfl rfl rfl ⟨H.1, ?_⟩
          replace H := H.2
          have J78 : ∀ (w78_0 : Int32), w78_0 = (if (I 71 x8.toNatClampNeg) = 0 then (0 : Int32) else 1) → mm_W 156 86 [some (.ref 58), none, some (.int x2), some (.int x3), some (.int (if 14 ≤ x3 then (x4 : Int32) else x4 + (I 69 (((14 * x8) + x3).toNatClampNeg)))), some (.int (if (I 70 x8.toNatClampNeg) ≤ x5 then (x5 : Int32) else (I 70 x8.toNatClampNeg))), some (.int x6), some (.int x7), some (.int x8)] [.int w78_0] I (mm_qi 156 P) := by
            intro w78_0 e78_0
            subst e78_0
            refine w_drp mm_Qf_i (J68 _ ?_) (lb_s (lb_n (lb_s (lb_s (lb_s (lb_s (lb_s (lb_s (lb_s lb_e)))))))))
            · exact (if_neg hc).symm
          refine w_if_eq (n := 81) rfl rfl ⟨fun hc => ?_, fun hc => ?_⟩
          · refine w_iconst (v := 0) (n := 86) rfl rfl rfl ?_
            refine w_drp mm_Qf_i (J78 _ ?_) (lb_s (lb_n (lb_s (lb_s (lb_s (lb_s (lb_s (lb_s (lb_s lb_e)))))))))
            · exact (if_pos hc).symm
          · refine w_iconst (v := 1) (n := 82) rfl rfl rfl ?_
            refine w_goto rfl ?_
            refine w_drp mm_Qf_i (J78 _ ?_) (lb_s (lb_n (lb_s (lb_s (lb_s (lb_s (lb_s (lb_s (lb_s lb_e)))))))))
            · exact (if_neg hc).symm
      refine w_icmp_le (n := 57) rfl rfl ⟨fun hc => ?_, fun hc => ?_⟩
      · refine w_drp mm_Qf_i (J54 _ ?_) (lb_s (lb_n (lb_s (lb_s (lb_s (lb_s (lb_s (lb_s (lb_s lb_e)))))))))
        · exact (if_pos hc).symm
      · have H := K2 hc
        refine w_aload_nR (x := 58) (n := 58) rfl rfl rfl ?_
        refine w_getR (b := 70) (n := 61) rfl rfl rfl rfl rfl ?_
        refine w_iload (n := 63) rfl rfl rfl ?_
        refine w_iaload (N := 8) (j := x8.toNatClampNeg) (n := 64) rfl rfl rfl rfl rfl rfl ⟨H.1, ?_⟩
        replace H := H.2
        refine w_istore (ls' := [some (.ref 58), none, some (.int x2), some (.int x3), some (.int (if 14 ≤ x3 then (x4 : Int32) else x4 + (I 69 (((14 * x8) + x3).toNatClampNeg)))), some (.int (I 70 x8.toNatClampNeg)), some (.int x6), some (.int x7), some (.int x8)]) (n := 66) rfl rfl rfl rfl ?_
        refine w_drp mm_Qf_i (J54 _ ?_) (lb_s (lb_n (lb_s (lb_s (lb_s (lb_s (lb_s (lb_s (lb_s lb_e)))))))))
        · exact (if_neg (fa_nle hc)).symm
    refine w_icmp_ge (n := 28) rfl rfl ⟨fun hc => ?_, fun hc => ?_⟩
    · refine w_drp mm_Qf_i (J25 _ ?_) (lb_s (lb_n (lb_s (lb_s (lb_s (lb_s (lb_s (lb_s (lb_s lb_e)))))))))
      · exact (if_pos hc).symm
    · have H := K2 hc
      refine w_iload (n := 30) rfl rfl rfl ?_
      refine w_aload_nR (x := 58) (n := 31) rfl rfl rfl ?_
      refine w_getR (b := 69) (n := 34) rfl rfl rfl rfl rfl ?_
      refine w_bipush (v := 14) (n := 36) rfl rfl rfl ?_
      refine w_iload (n := 38) rfl rfl rfl ?_
      refine w_imul (n := 39) rfl rfl ?_
      refine w_iload_n (n := 40) rfl rfl rfl ?_
      refine w_iadd (n := 41) rfl rfl ?_
      refine w_iaload (N := 112) (j := ((14 * x8) + x3).toNatClampNeg) (n := 42) rfl rfl rfl rfl rfl rfl ⟨H.1, ?_⟩
      replace H := H.2
      refine w_iadd (n := 43) rfl rfl ?_
      refine w_istore (ls' := [some (.ref 58), none, some (.int x2), some (.int x3), some (.int (x4 + (I 69 (((14 * x8) + x3).toNatClampNeg)))), some (.int x5), some (.int x6), some (.int x7), some (.int x8)]) (n := 45) rfl rfl rfl rfl ?_
      refine w_drp mm_Qf_i (J25 _ ?_) (lb_s (lb_n (lb_s (lb_s (lb_s (lb_s (lb_s (lb_s (lb_s lb_e)))))))))
      · exact (if_neg (fa_nle hc)).symm
theorem e_M_parameterOf {P : Int32 → mm_I → Prop} {I : mm_I} (x1 : Int32) (x2 : Int32)
  (H : mm_W 157 5 [some (.ref 58), some (.int x1), some (.int x2), some (.int 0), some (.int 1), none] [] I (mm_qi 157 P)) : mm_Mi 157 [.ref 58, .int x1, .int x2] I P := by
  refine mm_Mi_of ?_
  show mm_W 157 0 [some (.ref 58), some (.int x1), some (.int x2), none, none, none] [] I (mm_qi 157 P)
  refine w_iconst (v := 0) (n := 1) rfl rfl rfl ?_
  refine w_istore_n (ls' := [some (.ref 58), some (.int x1), some (.int x2), some (.int 0), none, none]) (n := 2) rfl rfl rfl rfl ?_
  refine w_iconst (v := 1) (n := 3) rfl rfl rfl ?_
  refine w_istore (ls' := [some (.ref 58), some (.int x1), some (.int x2), some (.int 0), some (.int 1), none]) (n := 5) rfl rfl rfl rfl ?_
  exact w_drp mm_Qf_i H (lb_s (lb_s (lb_s (lb_s (lb_s (lb_n lb_e))))))
theorem c_M_parameterOf_5 {P : Int32 → mm_I → Prop} {I : mm_I} (x1 : Int32) (x2 : Int32) (x3 : Int32) (x4 : Int32)
  (H : (16 ≤ x4 →
      P x3 I) ∧
    (x4 < 16 →
      mm_Mi 156 [.ref 58, .int x1, .int x2, .int x4] I (fun r17 I17 =>  -- M.bitsBy
      (r17 < 0 →
        mm_W 157 5 [some (.ref 58), some (.int x1), some (.int x2), some (.int x3), some (.int (x4 + 1)), none] [] I17 (mm_qi 157 P)) ∧
      (0 ≤ r17 →
        mm_Mi 156 [.ref 58, .int x1, .int x2, .int x3] I17 (fun r33 I33 =>  -- M.bitsBy
        mm_W 157 5 [some (.ref 58), some (.int x1), some (.int x2), some (.int (if r33 ≤ r17 then (x3 : Int32) else x4)), some (.int (x4 + 1)), none] [] I33 (mm_qi 157 P)))))) : mm_W 157 5 [some (.ref 58), some (.int x1), some (.int x2), some (.int x3), some (.int x4), none] [] I (mm_qi 157 P) := by
  refine w_iload (n := 7) rfl rfl rfl ?_
  refine w_bipush (v := 16) (n := 9) rfl rfl rfl ?_
  refine w_icmp_ge (n := 12) rfl rfl ⟨fun hc => ?_, fun hc => ?_⟩
  · replace H := H.1 hc
    refine w_iload_n (n := 49) rfl rfl rfl ?_
    exact w_ireturn rfl rfl H
  · replace H := H.2 hc
    refine w_aload_nR (x := 58) (n := 13) rfl rfl rfl ?_
    refine w_iload_n (n := 14) rfl rfl rfl ?_
    refine w_iload_n (n := 15) rfl rfl rfl ?_
    refine w_iload (n := 17) rfl rfl rfl ?_
    refine w_calli (as := [.ref 58, .int x1, .int x2, .int x4]) (rest := []) (n := 20) rfl rfl rfl rfl ?_
    obtain ⟨r17, I17, hI17, H⟩ := H
    refine ⟨r17, I17, hI17, ?_⟩
    refine w_istore (ls' := [some (.ref 58), some (.int x1), some (.int x2), some (.int x3), some (.int x4), some (.int r17)]) (n := 22) rfl rfl rfl rfl ?_
    refine w_iload (n := 24) rfl rfl rfl ?_
    refine w_if_lt (n := 27) rfl rfl ⟨fun hc => ?_, fun hc => ?_⟩
    · replace H := H.1 hc
      refine w_iinc (y := x4 + 1) (ls' := [some (.ref 58), some (.int x1), some (.int x2), some (.int x3), some (.int (x4 + 1)), some (.int r17)]) (n := 45) rfl rfl rfl rfl rfl ?_
      refine w_goto rfl ?_
      exact w_drp mm_Qf_i H (lb_s (lb_s (lb_s (lb_s (lb_s (lb_n lb_e))))))
    · replace H := H.2 hc
      refine w_iload (n := 29) rfl rfl rfl ?_
      refine w_aload_nR (x := 58) (n := 30) rfl rfl rfl ?_
      refine w_iload_n (n := 31) rfl rfl rfl ?_
      refine w_iload_n (n := 32) rfl rfl rfl ?_
      refine w_iload_n (n := 33) rfl rfl rfl ?_
      refine w_calli (as := [.ref 58, .int x1, .int x2, .int x3]) (rest := [.int r17]) (n := 36) rfl rfl rfl rfl ?_
      obtain ⟨r33, I33, hI33, H⟩ := H
      refine ⟨r33, I33, hI33, ?_⟩
      have J36 : ∀ (y36_3 : Int32), y36_3 = (if r33 ≤ r17 then (x3 : Int32) else x4) → mm_W 157 42 [some (.ref 58), some (.int x1), some (.int x2), some (.int y36_3), some (.int x4), some (.int r17)] [] I33 (mm_qi 157 P) := by
        intro y36_3 e36_0
        subst e36_0
        refine w_iinc (y := x4 + 1) (ls' := [some (.ref 58), some (.int x1), some (.int x2), some (.int (if r33 ≤ r17 then (x3 : Int32) else x4)), some (.int (x4 + 1)), some (.int r17)]) (n := 45) rfl rfl rfl rfl rfl ?_
        refine w_goto rfl ?_
        exact w_drp mm_Qf_i H (lb_s (lb_s (lb_s (lb_s (lb_s (lb_n lb_e))))))
      refine w_icmp_ge (n := 39) rfl rfl ⟨fun hc => ?_, fun hc => ?_⟩
      · refine w_drp mm_Qf_i (J36 _ ?_) (lb_s (lb_s (lb_s (lb_s (lb_s (lb_s lb_e))))))
        · exact (if_pos hc).symm
      · refine w_iload (n := 41) rfl rfl rfl ?_
        refine w_istore_n (ls' := [some (.ref 58), some (.int x1), some (.int x2), some (.int x4), some (.int x4), some (.int r17)]) (n := 42) rfl rfl rfl rfl ?_
        refine w_drp mm_Qf_i (J36 _ ?_) (lb_s (lb_s (lb_s (lb_s (lb_s (lb_s lb_e))))))
        · exact (if_neg (fa_nle hc)).symm
theorem e_M_laysSpans {P : mm_I → Prop} {I : mm_I}
  (H : mm_W 158 2 [some (.ref 58), some (.int 0), none, none] [] I (mm_qv 158 P)) : mm_Mv 158 [.ref 58] I P := by
  refine mm_Mv_of ?_
  show mm_W 158 0 [some (.ref 58), none, none, none] [] I (mm_qv 158 P)
  refine w_iconst (v := 0) (n := 1) rfl rfl rfl ?_
  refine w_istore_n (ls' := [some (.ref 58), some (.int 0), none, none]) (n := 2) rfl rfl rfl rfl ?_
  exact w_drp mm_Qf_v H (lb_s (lb_s (lb_n (lb_n lb_e))))
theorem c_M_laysSpans_2 {P : mm_I → Prop} {I : mm_I} (x1 : Int32)
  (H : ((I 58 22) ≤ x1 →
      P I) ∧
    (x1 < (I 58 22) →
      mm_W 158 14 [some (.ref 58), some (.int x1), some (.int (x1 + 1)), none] [] I (mm_qv 158 P))) : mm_W 158 2 [some (.ref 58), some (.int x1), none, none] [] I (mm_qv 158 P) := by
  refine w_iload_n (n := 3) rfl rfl rfl ?_
  refine w_aload_nR (x := 58) (n := 4) rfl rfl rfl ?_
  refine w_getI (n := 7) rfl rfl rfl rfl ?_
  refine w_icmp_ge (n := 10) rfl rfl ⟨fun hc => ?_, fun hc => ?_⟩
  · replace H := H.1 hc
    exact w_vreturn rfl rfl H
  · replace H := H.2 hc
    refine w_iload_n (n := 11) rfl rfl rfl ?_
    refine w_iconst (v := 1) (n := 12) rfl rfl rfl ?_
    refine w_iadd (n := 13) rfl rfl ?_
    refine w_istore_n (ls' := [some (.ref 58), some (.int x1), some (.int (x1 + 1)), none]) (n := 14) rfl rfl rfl rfl ?_
    exact w_drp mm_Qf_v H (lb_s (lb_s (lb_s (lb_n lb_e))))
theorem c_M_laysSpans_14 {P : mm_I → Prop} {I : mm_I} (x1 : Int32) (x2 : Int32)
  (H : ((I 58 22) < x2 →
      mm_W 158 2 [some (.ref 58), some (.int (x1 + 1)), none, none] [] I (mm_qv 158 P)) ∧
    (x2 ≤ (I 58 22) →
      mm_Mi 157 [.ref 58, .int x1, .int x2] I (fun r25 I25 =>  -- M.parameterOf
      vp_in ((9 * x1) + x2) 81 ∧
      mm_Mi 156 [.ref 58, .int x1, .int x2, .int r25] (mm_up I25 75 (((9 * x1) + x2).toNatClampNeg) r25) (fun r55 I55 =>  -- M.bitsBy
      vp_in ((9 * x1) + x2) 81 ∧
      mm_W 158 14 [some (.ref 58), some (.int x1), some (.int (x2 + 1)), none] [] (mm_up I55 76 (((9 * x1) + x2).toNatClampNeg) r55) (mm_qv 158 P))))) : mm_W 158 14 [some (.ref 58), some (.int x1), some (.int x2), none] [] I (mm_qv 158 P) := by
  refine w_iload_n (n := 15) rfl rfl rfl ?_
  refine w_aload_nR (x := 58) (n := 16) rfl rfl rfl ?_
  refine w_getI (n := 19) rfl rfl rfl rfl ?_
  refine w_icmp_gt (n := 22) rfl rfl ⟨fun hc => ?_, fun hc => ?_⟩
  · replace H := H.1 hc
    refine w_iinc (y := x1 + 1) (ls' := [some (.ref 58), some (.int (x1 + 1)), some (.int x2), none]) (n := 68) rfl rfl rfl rfl rfl ?_
    refine w_goto rfl ?_
    exact w_drp mm_Qf_v H (lb_s (lb_s (lb_n (lb_n lb_e))))
  · replace H := H.2 hc
    refine w_aload_nR (x := 58) (n := 23) rfl rfl rfl ?_
    refine w_iload_n (n := 24) rfl rfl rfl ?_
    refine w_iload_n (n := 25) rfl rfl rfl ?_
    refine w_calli (as := [.ref 58, .int x1, .int x2]) (rest := []) (n := 28) rfl rfl rfl rfl ?_
    obtain ⟨r25, I25, hI25, H⟩ := H
    refine ⟨r25, I25, hI25, ?_⟩
    refine w_istore_n (ls' := [some (.ref 58), some (.int x1), some (.int x2), some (.int r25)]) (n := 29) rfl rfl rfl rfl ?_
    refine w_aload_nR (x := 58) (n := 30) rfl rfl rfl ?_
    refine w_getR (b := 75) (n := 33) rfl rfl rfl rfl rfl ?_
    refine w_bipush (v := 9) (n := 35) rfl rfl rfl ?_
    refine w_iload_n (n := 36) rfl rfl rfl ?_
    refine w_imul (n := 37) rfl rfl ?_
    refine w_iload_n (n := 38) rfl rfl rfl ?_
    refine w_iadd (n := 39) rfl rfl ?_
    refine w_iload_n (n := 40) rfl rfl rfl ?_
    refine w_iastore (N := 81) (j := ((9 * x1) + x2).toNatClampNeg) (n := 41) rfl rfl rfl rfl rfl ⟨H.1, ?_⟩
    replace H := H.2
    refine w_aload_nR (x := 58) (n := 42) rfl rfl rfl ?_
    refine w_getR (b := 76) (n := 45) rfl rfl rfl rfl rfl ?_
    refine w_bipush (v := 9) (n := 47) rfl rfl rfl ?_
    refine w_iload_n (n := 48) rfl rfl rfl ?_
    refine w_imul (n := 49) rfl rfl ?_
    refine w_iload_n (n := 50) rfl rfl rfl ?_
    refine w_iadd (n := 51) rfl rfl ?_
    refine w_aload_nR (x := 58) (n := 52) rfl rfl rfl ?_
    refine w_iload_n (n := 53) rfl rfl rfl ?_
    refine w_iload_n (n := 54) rfl rfl rfl ?_
    refine w_iload_n (n := 55) rfl rfl rfl ?_
    refine w_calli (as := [.ref 58, .int x1, .int x2, .int r25]) (rest := [.int ((9 * x1) + x2), .ref 76]) (n := 58) rfl rfl rfl rfl ?_
    obtain ⟨r55, I55, hI55, H⟩ := H
    refine ⟨r55, I55, hI55, ?_⟩
    refine w_iastore (N := 81) (j := ((9 * x1) + x2).toNatClampNeg) (n := 59) rfl rfl rfl rfl rfl ⟨H.1, ?_⟩
    replace H := H.2
    refine w_iinc (y := x2 + 1) (ls' := [some (.ref 58), some (.int x1), some (.int (x2 + 1)), some (.int r25)]) (n := 62) rfl rfl rfl rfl rfl ?_
    refine w_goto rfl ?_
    exact w_drp mm_Qf_v H (lb_s (lb_s (lb_s (lb_n lb_e))))
theorem e_M_bitsOfWay {P : Int32 → mm_I → Prop} {I : mm_I} (x1 : Int32)
  (H : mm_W 159 7 [some (.ref 58), some (.int x1), some (.int 0), some (.int 0), some (.int 0)] [] I (mm_qi 159 P)) : mm_Mi 159 [.ref 58, .int x1] I P := by
  refine mm_Mi_of ?_
  show mm_W 159 0 [some (.ref 58), some (.int x1), none, none, none] [] I (mm_qi 159 P)
  refine w_iconst (v := 0) (n := 1) rfl rfl rfl ?_
  refine w_istore_n (ls' := [some (.ref 58), some (.int x1), some (.int 0), none, none]) (n := 2) rfl rfl rfl rfl ?_
  refine w_iconst (v := 0) (n := 3) rfl rfl rfl ?_
  refine w_istore_n (ls' := [some (.ref 58), some (.int x1), some (.int 0), some (.int 0), none]) (n := 4) rfl rfl rfl rfl ?_
  refine w_iconst (v := 0) (n := 5) rfl rfl rfl ?_
  refine w_istore (ls' := [some (.ref 58), some (.int x1), some (.int 0), some (.int 0), some (.int 0)]) (n := 7) rfl rfl rfl rfl ?_
  exact w_drp mm_Qf_i H (lb_s (lb_s (lb_s (lb_s (lb_s lb_e)))))
theorem c_M_bitsOfWay_7 {P : Int32 → mm_I → Prop} {I : mm_I} (x1 : Int32) (x2 : Int32) (x3 : Int32) (x4 : Int32)
  (H : ((I 58 22) ≤ x4 →
      P x2 I) ∧
    (x4 < (I 58 22) →
      (((I 58 22) - 1) ≤ x4 →
        vp_in (((9 * x3) + x4) + 1) 81 ∧
        True) ∧
      (x4 < ((I 58 22) - 1) →
        (¬ ((x1 >>> ((((I 58 22) - 2) - x4) &&& 31)) &&& 1) = 0 →
          vp_in (((9 * x3) + x4) + 1) 81 ∧
          True) ∧
        True) ∧
      mm_W 159 7 [some (.ref 58), some (.int x1), some (.int (if ((I 58 22) - 1) ≤ x4 then (x2 + (I 76 ((((9 * x3) + x4) + 1).toNatClampNeg)) : Int32) else (if ((x1 >>> ((((I 58 22) - 2) - x4) &&& 31)) &&& 1) = 0 then (x2 : Int32) else x2 + (I 76 ((((9 * x3) + x4) + 1).toNatClampNeg))))), some (.int (if ((I 58 22) - 1) ≤ x4 then (x4 + 1 : Int32) else (if ((x1 >>> ((((I 58 22) - 2) - x4) &&& 31)) &&& 1) = 0 then (x3 : Int32) else x4 + 1))), some (.int (x4 + 1))] [] I (mm_qi 159 P))) : mm_W 159 7 [some (.ref 58), some (.int x1), some (.int x2), some (.int x3), some (.int x4)] [] I (mm_qi 159 P) := by
  refine w_iload (n := 9) rfl rfl rfl ?_
  refine w_aload_nR (x := 58) (n := 10) rfl rfl rfl ?_
  refine w_getI (n := 13) rfl rfl rfl rfl ?_
  refine w_icmp_ge (n := 16) rfl rfl ⟨fun hc => ?_, fun hc => ?_⟩
  · replace H := H.1 hc
    refine w_iload_n (n := 75) rfl rfl rfl ?_
    exact w_ireturn rfl rfl H
  · replace H := H.2 hc
    refine w_iload (n := 18) rfl rfl rfl ?_
    refine w_aload_nR (x := 58) (n := 19) rfl rfl rfl ?_
    refine w_getI (n := 22) rfl rfl rfl rfl ?_
    refine w_iconst (v := 1) (n := 23) rfl rfl rfl ?_
    refine w_isub (n := 24) rfl rfl ?_
    obtain ⟨K1, K2, H⟩ := H
    have J24 : ∀ (y24_2 : Int32) (y24_3 : Int32), y24_2 = (if ((I 58 22) - 1) ≤ x4 then (x2 + (I 76 ((((9 * x3) + x4) + 1).toNatClampNeg)) : Int32) else (if ((x1 >>> ((((I 58 22) - 2) - x4) &&& 31)) &&& 1) = 0 then (x2 : Int32) else x2 + (I 76 ((((9 * x3) + x4) + 1).toNatClampNeg)))) → y24_3 = (if ((I 58 22) - 1) ≤ x4 then (x4 + 1 : Int32) else (if ((x1 >>> ((((I 58 22) - 2) - x4) &&& 31)) &&& 1) = 0 then (x3 : Int32) else x4 + 1)) → mm_W 159 68 [some (.ref 58), some (.int x1), some (.int y24_2), some (.int y24_3), some (.int x4)] [] I (mm_qi 159 P) := by
      intro y24_2 y24_3 e24_0 e24_1
      subst e24_0
      subst e24_1
      refine w_iinc (y := x4 + 1) (ls' := [some (.ref 58), some (.int x1), some (.int (if ((I 58 22) - 1) ≤ x4 then (x2 + (I 76 ((((9 * x3) + x4) + 1).toNatClampNeg)) : Int32) else (if ((x1 >>> ((((I 58 22) - 2) - x4) &&& 31)) &&& 1) = 0 then (x2 : Int32) else x2 + (I 76 ((((9 * x3) + x4) + 1).toNatClampNeg))))), some (.int (if ((I 58 22) - 1) ≤ x4 then (x4 + 1 : Int32) else (if ((x1 >>> ((((I 58 22) - 2) - x4) &&& 31)) &&& 1) = 0 then (x3 : Int32) else x4 + 1))), some (.int (x4 + 1))]) (n := 71) rfl rfl rfl rfl rfl ?_
      refine w_goto rfl ?_
      exact w_drp mm_Qf_i H (lb_s (lb_s (lb_s (lb_s (lb_s lb_e)))))
    refine w_icmp_ge (n := 27) rfl rfl ⟨fun hc => ?_, fun hc => ?_⟩
    · have H := K1 hc
      refine w_iload_n (n := 47) rfl rfl rfl ?_
      refine w_aload_nR (x := 58) (n := 48) rfl rfl rfl ?_
      refine w_getR (b := 76) (n := 51) rfl rfl rfl rfl rfl ?_
      refine w_bipush (v := 9) (n := 53) rfl rfl rfl ?_
      refine w_iload_n (n := 54) rfl rfl rfl ?_
      refine w_imul (n := 55) rfl rfl ?_
      refine w_iload (n := 57) rfl rfl rfl ?_
      refine w_iadd (n := 58) rfl rfl ?_
      refine w_iconst (v := 1) (n := 59) rfl rfl rfl ?_
      refine w_iadd (n := 60) rfl rfl ?_
      refine w_iaload (N := 81) (j := (((9 * x3) + x4) + 1).toNatClampNeg) (n := 61) rfl rfl rfl rfl rfl rfl ⟨H.1, ?_⟩
      replace H := H.2
      refine w_iadd (n := 62) rfl rfl ?_
      refine w_istore_n (ls' := [some (.ref 58), some (.int x1), some (.int (x2 + (I 76 ((((9 * x3) + x4) + 1).toNatClampNeg)))), some (.int x3), some (.int x4)]) (n := 63) rfl rfl rfl rfl ?_
      refine w_iload (n := 65) rfl rfl rfl ?_
      refine w_iconst (v := 1) (n := 66) rfl rfl rfl ?_
      refine w_iadd (n := 67) rfl rfl ?_
      refine w_istore_n (ls' := [some (.ref 58), some (.int x1), some (.int (x2 + (I 76 ((((9 * x3) + x4) + 1).toNatClampNeg)))), some (.int (x4 + 1)), some (.int x4)]) (n := 68) rfl rfl rfl rfl ?_
      refine w_drp mm_Qf_i (J24 _ _ ?_ ?_) (lb_s (lb_s (lb_s (lb_s (lb_s lb_e)))))
      · exact (if_pos hc).symm
      · exact (if_pos hc).symm
    · have H := K2 hc
      refine w_iload_n (n := 28) rfl rfl rfl ?_
      refine w_aload_nR (x := 58) (n := 29) rfl rfl rfl ?_
      refine w_getI (n := 32) rfl rfl rfl rfl ?_
      refine w_iconst (v := 2) (n := 33) rfl rfl rfl ?_
      refine w_isub (n := 34) rfl rfl ?_
      refine w_iload (n := 36) rfl rfl rfl ?_
      refine w_isub (n := 37) rfl rfl ?_
      refine w_ishr (n := 38) rfl rfl ?_
      refine w_iconst (v := 1) (n := 39) rfl rfl rfl ?_
      refine w_iand (n := 40) rfl rfl ?_
      obtain ⟨K1, H⟩ := H
      have J40 : ∀ (y40_2 : Int32) (y40_3 : Int32), y40_2 = (if ((x1 >>> ((((I 58 22) - 2) - x4) &&& 31)) &&& 1) = 0 then (x2 : Int32) else x2 + (I 76 ((((9 * x3) + x4) + 1).toNatClampNeg))) → y40_3 = (if ((x1 >>> ((((I 58 22) - 2) - x4) &&& 31)) &&& 1) = 0 then (x3 : Int32) else x4 + 1) → mm_W 159 68 [some (.ref 58), some (.int x1), some (.int y40_2), some (.int y40_3), some (.int x4)] [] I (mm_qi 159 P) := by
        intro y40_2 y40_3 e40_0 e40_1
        subst e40_0
        subst e40_1
        refine w_drp mm_Qf_i (J24 _ _ ?_ ?_) (lb_s (lb_s (lb_s (lb_s (lb_s lb_e)))))
        · exact (if_neg (fa_nle hc)).symm
        · exact (if_neg (fa_nle hc)).symm
      refine w_if_ne (n := 43) rfl rfl ⟨fun hc => ?_, fun hc => ?_⟩
      · have H := K1 hc
        refine w_iload_n (n := 47) rfl rfl rfl ?_
        refine w_aload_nR (x := 58) (n := 48) rfl rfl rfl ?_
        refine w_getR (b := 76) (n := 51) rfl rfl rfl rfl rfl ?_
        refine w_bipush (v := 9) (n := 53) rfl rfl rfl ?_
        refine w_iload_n (n := 54) rfl rfl rfl ?_
        refine w_imul (n := 55) rfl rfl ?_
        refine w_iload (n := 57) rfl rfl rfl ?_
        refine w_iadd (n := 58) rfl rfl ?_
        refine w_iconst (v := 1) (n := 59) rfl rfl rfl ?_
        refine w_iadd (n := 60) rfl rfl ?_
        refine w_iaload (N := 81) (j := (((9 * x3) + x4) + 1).toNatClampNeg) (n := 61) rfl rfl rfl rfl rfl rfl ⟨H.1, ?_⟩
        replace H := H.2
        refine w_iadd (n := 62) rfl rfl ?_
        refine w_istore_n (ls' := [some (.ref 58), some (.int x1), some (.int (x2 + (I 76 ((((9 * x3) + x4) + 1).toNatClampNeg)))), some (.int x3), some (.int x4)]) (n := 63) rfl rfl rfl rfl ?_
        refine w_iload (n := 65) rfl rfl rfl ?_
        refine w_iconst (v := 1) (n := 66) rfl rfl rfl ?_
        refine w_iadd (n := 67) rfl rfl ?_
        refine w_istore_n (ls' := [some (.ref 58), some (.int x1), some (.int (x2 + (I 76 ((((9 * x3) + x4) + 1).toNatClampNeg)))), some (.int (x4 + 1)), some (.int x4)]) (n := 68) rfl rfl rfl rfl ?_
        refine w_drp mm_Qf_i (J40 _ _ ?_ ?_) (lb_s (lb_s (lb_s (lb_s (lb_s lb_e)))))
        · exact (if_neg hc).symm
        · exact (if_neg hc).symm
      · refine w_goto rfl ?_
        refine w_drp mm_Qf_i (J40 _ _ ?_ ?_) (lb_s (lb_s (lb_s (lb_s (lb_s lb_e)))))
        · exact (if_pos hc).symm
        · exact (if_pos hc).symm
theorem e_M_cutsOf {P : Int32 → mm_I → Prop} {I : mm_I} (x0 : Int32)
  (H : mm_W 160 4 [none, some (.int 0), some (.int x0)] [] I (mm_qi 160 P)) : mm_Mi 160 [.int x0] I P := by
  refine mm_Mi_of ?_
  show mm_W 160 0 [some (.int x0), none, none] [] I (mm_qi 160 P)
  refine w_iconst (v := 0) (n := 1) rfl rfl rfl ?_
  refine w_istore_n (ls' := [some (.int x0), some (.int 0), none]) (n := 2) rfl rfl rfl rfl ?_
  refine w_iload_n (n := 3) rfl rfl rfl ?_
  refine w_istore_n (ls' := [some (.int x0), some (.int 0), some (.int x0)]) (n := 4) rfl rfl rfl rfl ?_
  exact w_drp mm_Qf_i H (lb_n (lb_s (lb_s lb_e)))
theorem c_M_cutsOf_4 {P : Int32 → mm_I → Prop} {I : mm_I} (x1 : Int32) (x2 : Int32)
  (H : (x2 ≤ 0 →
      P x1 I) ∧
    (0 < x2 →
      mm_W 160 4 [none, some (.int (x1 + (x2 &&& 1))), some (.int (x2 >>> (1 &&& 31)))] [] I (mm_qi 160 P))) : mm_W 160 4 [none, some (.int x1), some (.int x2)] [] I (mm_qi 160 P) := by
  refine w_iload_n (n := 5) rfl rfl rfl ?_
  refine w_if_le (n := 8) rfl rfl ⟨fun hc => ?_, fun hc => ?_⟩
  · replace H := H.1 hc
    refine w_iload_n (n := 22) rfl rfl rfl ?_
    exact w_ireturn rfl rfl H
  · replace H := H.2 hc
    refine w_iload_n (n := 9) rfl rfl rfl ?_
    refine w_iload_n (n := 10) rfl rfl rfl ?_
    refine w_iconst (v := 1) (n := 11) rfl rfl rfl ?_
    refine w_iand (n := 12) rfl rfl ?_
    refine w_iadd (n := 13) rfl rfl ?_
    refine w_istore_n (ls' := [none, some (.int (x1 + (x2 &&& 1))), some (.int x2)]) (n := 14) rfl rfl rfl rfl ?_
    refine w_iload_n (n := 15) rfl rfl rfl ?_
    refine w_iconst (v := 1) (n := 16) rfl rfl rfl ?_
    refine w_ishr (n := 17) rfl rfl ?_
    refine w_istore_n (ls' := [none, some (.int (x1 + (x2 &&& 1))), some (.int (x2 >>> (1 &&& 31)))]) (n := 18) rfl rfl rfl rfl ?_
    refine w_goto rfl ?_
    exact w_drp mm_Qf_i H (lb_n (lb_s (lb_s lb_e)))
theorem e_M_runsWhole {P : Int32 → mm_I → Prop} {I : mm_I}
  (H : mm_Mv 155 [.ref 58] I (fun I1 =>  -- M.laysGroups
    mm_Mv 158 [.ref 58] I1 (fun I5 =>  -- M.laysSpans
    mm_Mi 159 [.ref 58, .int 0] I5 (fun r12 I12 =>  -- M.bitsOfWay
    mm_W 161 18 [some (.ref 58), some (.int 0), some (.int r12), some (.int 1), none] [] I12 (mm_qi 161 P))))) : mm_Mi 161 [.ref 58] I P := by
  refine mm_Mi_of ?_
  show mm_W 161 0 [some (.ref 58), none, none, none, none] [] I (mm_qi 161 P)
  refine w_aload_nR (x := 58) (n := 1) rfl rfl rfl ?_
  refine w_callv (as := [.ref 58]) (rest := []) (n := 4) rfl rfl rfl rfl ?_
  obtain ⟨I1, hI1, H⟩ := H
  refine ⟨I1, hI1, ?_⟩
  refine w_aload_nR (x := 58) (n := 5) rfl rfl rfl ?_
  refine w_callv (as := [.ref 58]) (rest := []) (n := 8) rfl rfl rfl rfl ?_
  obtain ⟨I5, hI5, H⟩ := H
  refine ⟨I5, hI5, ?_⟩
  refine w_iconst (v := 0) (n := 9) rfl rfl rfl ?_
  refine w_istore_n (ls' := [some (.ref 58), some (.int 0), none, none, none]) (n := 10) rfl rfl rfl rfl ?_
  refine w_aload_nR (x := 58) (n := 11) rfl rfl rfl ?_
  refine w_iconst (v := 0) (n := 12) rfl rfl rfl ?_
  refine w_calli (as := [.ref 58, .int 0]) (rest := []) (n := 15) rfl rfl rfl rfl ?_
  obtain ⟨r12, I12, hI12, H⟩ := H
  refine ⟨r12, I12, hI12, ?_⟩
  refine w_istore_n (ls' := [some (.ref 58), some (.int 0), some (.int r12), none, none]) (n := 16) rfl rfl rfl rfl ?_
  refine w_iconst (v := 1) (n := 17) rfl rfl rfl ?_
  refine w_istore_n (ls' := [some (.ref 58), some (.int 0), some (.int r12), some (.int 1), none]) (n := 18) rfl rfl rfl rfl ?_
  exact w_drp mm_Qf_i H (lb_s (lb_s (lb_s (lb_s (lb_n lb_e)))))
theorem c_M_runsWhole_18 {P : Int32 → mm_I → Prop} {I : mm_I} (x1 : Int32) (x2 : Int32) (x3 : Int32)
  (H : ((1 <<< (((I 58 22) - 1) &&& 31)) ≤ x3 →
      mm_W 161 84 [some (.ref 58), some (.int x1), some (.int x2), some (.int 0), some (.int 0)] [] (mm_up I 58 29 0) (mm_qi 161 P)) ∧
    (x3 < (1 <<< (((I 58 22) - 1) &&& 31)) →
      mm_Mi 159 [.ref 58, .int x3] I (fun r32 I32 =>  -- M.bitsOfWay
      (x2 < r32 →
        mm_W 161 18 [some (.ref 58), some (.int x1), some (.int x2), some (.int (x3 + 1)), none] [] I32 (mm_qi 161 P)) ∧
      (r32 ≤ x2 →
        (¬ r32 = x2 →
          mm_W 161 18 [some (.ref 58), some (.int x3), some (.int r32), some (.int (x3 + 1)), none] [] I32 (mm_qi 161 P)) ∧
        (r32 = x2 →
          mm_Mi 160 [.int x3] I32 (fun r50 I50 =>  -- M.cutsOf
          mm_Mi 160 [.int x1] I50 (fun r54 I54 =>  -- M.cutsOf
          mm_W 161 18 [some (.ref 58), some (.int (if r50 < r54 then (x3 : Int32) else x1)), some (.int (if r50 < r54 then (r32 : Int32) else x2)), some (.int (x3 + 1)), none] [] I54 (mm_qi 161 P)))))))) : mm_W 161 18 [some (.ref 58), some (.int x1), some (.int x2), some (.int x3), none] [] I (mm_qi 161 P) := by
  refine w_iload_n (n := 19) rfl rfl rfl ?_
  refine w_iconst (v := 1) (n := 20) rfl rfl rfl ?_
  refine w_aload_nR (x := 58) (n := 21) rfl rfl rfl ?_
  refine w_getI (n := 24) rfl rfl rfl rfl ?_
  refine w_iconst (v := 1) (n := 25) rfl rfl rfl ?_
  refine w_isub (n := 26) rfl rfl ?_
  refine w_ishl (n := 27) rfl rfl ?_
  refine w_icmp_ge (n := 30) rfl rfl ⟨fun hc => ?_, fun hc => ?_⟩
  · replace H := H.1 hc
    refine w_aload_nR (x := 58) (n := 75) rfl rfl rfl ?_
    refine w_iconst (v := 0) (n := 76) rfl rfl rfl ?_
    refine w_putI (n := 79) rfl rfl rfl rfl rfl ?_
    refine w_iconst (v := 0) (n := 80) rfl rfl rfl ?_
    refine w_istore_n (ls' := [some (.ref 58), some (.int x1), some (.int x2), some (.int 0), none]) (n := 81) rfl rfl rfl rfl ?_
    refine w_iconst (v := 0) (n := 82) rfl rfl rfl ?_
    refine w_istore (ls' := [some (.ref 58), some (.int x1), some (.int x2), some (.int 0), some (.int 0)]) (n := 84) rfl rfl rfl rfl ?_
    exact w_drp mm_Qf_i H (lb_s (lb_s (lb_s (lb_s (lb_s lb_e)))))
  · replace H := H.2 hc
    refine w_aload_nR (x := 58) (n := 31) rfl rfl rfl ?_
    refine w_iload_n (n := 32) rfl rfl rfl ?_
    refine w_calli (as := [.ref 58, .int x3]) (rest := []) (n := 35) rfl rfl rfl rfl ?_
    obtain ⟨r32, I32, hI32, H⟩ := H
    refine ⟨r32, I32, hI32, ?_⟩
    refine w_istore (ls' := [some (.ref 58), some (.int x1), some (.int x2), some (.int x3), some (.int r32)]) (n := 37) rfl rfl rfl rfl ?_
    refine w_iload (n := 39) rfl rfl rfl ?_
    refine w_iload_n (n := 40) rfl rfl rfl ?_
    refine w_icmp_gt (n := 43) rfl rfl ⟨fun hc => ?_, fun hc => ?_⟩
    · replace H := H.1 hc
      refine w_iinc (y := x3 + 1) (ls' := [some (.ref 58), some (.int x1), some (.int x2), some (.int (x3 + 1)), some (.int r32)]) (n := 71) rfl rfl rfl rfl rfl ?_
      refine w_goto rfl ?_
      exact w_drp mm_Qf_i H (lb_s (lb_s (lb_s (lb_s (lb_n lb_e)))))
    · replace H := H.2 hc
      refine w_iload (n := 45) rfl rfl rfl ?_
      refine w_iload_n (n := 46) rfl rfl rfl ?_
      refine w_icmp_ne (n := 49) rfl rfl ⟨fun hc => ?_, fun hc => ?_⟩
      · replace H := H.1 hc
        refine w_iload_n (n := 64) rfl rfl rfl ?_
        refine w_istore_n (ls' := [some (.ref 58), some (.int x3), some (.int x2), some (.int x3), some (.int r32)]) (n := 65) rfl rfl rfl rfl ?_
        refine w_iload (n := 67) rfl rfl rfl ?_
        refine w_istore_n (ls' := [some (.ref 58), some (.int x3), some (.int r32), some (.int x3), some (.int r32)]) (n := 68) rfl rfl rfl rfl ?_
        refine w_iinc (y := x3 + 1) (ls' := [some (.ref 58), some (.int x3), some (.int r32), some (.int (x3 + 1)), some (.int r32)]) (n := 71) rfl rfl rfl rfl rfl ?_
        refine w_goto rfl ?_
        exact w_drp mm_Qf_i H (lb_s (lb_s (lb_s (lb_s (lb_n lb_e)))))
      · replace H := H.2 hc
        refine w_iload_n (n := 50) rfl rfl rfl ?_
        refine w_calli (as := [.int x3]) (rest := []) (n := 53) rfl rfl rfl rfl ?_
        obtain ⟨r50, I50, hI50, H⟩ := H
        refine ⟨r50, I50, hI50, ?_⟩
        refine w_iload_n (n := 54) rfl rfl rfl ?_
        refine w_calli (as := [.int x1]) (rest := [.int r50]) (n := 57) rfl rfl rfl rfl ?_
        obtain ⟨r54, I54, hI54, H⟩ := H
        refine ⟨r54, I54, hI54, ?_⟩
        have J57 : ∀ (y57_1 : Int32) (y57_2 : Int32), y57_1 = (if r50 < r54 then (x3 : Int32) else x1) → y57_2 = (if r50 < r54 then (r32 : Int32) else x2) → mm_W 161 68 [some (.ref 58), some (.int y57_1), some (.int y57_2), some (.int x3), some (.int r32)] [] I54 (mm_qi 161 P) := by
          intro y57_1 y57_2 e57_0 e57_1
          subst e57_0
          subst e57_1
          refine w_iinc (y := x3 + 1) (ls' := [some (.ref 58), some (.int (if r50 < r54 then (x3 : Int32) else x1)), some (.int (if r50 < r54 then (r32 : Int32) else x2)), some (.int (x3 + 1)), some (.int r32)]) (n := 71) rfl rfl rfl rfl rfl ?_
          refine w_goto rfl ?_
          exact w_drp mm_Qf_i H (lb_s (lb_s (lb_s (lb_s (lb_n lb_e)))))
        refine w_icmp_lt (n := 60) rfl rfl ⟨fun hc => ?_, fun hc => ?_⟩
        · refine w_iload_n (n := 64) rfl rfl rfl ?_
          refine w_istore_n (ls' := [some (.ref 58), some (.int x3), some (.int x2), some (.int x3), some (.int r32)]) (n := 65) rfl rfl rfl rfl ?_
          refine w_iload (n := 67) rfl rfl rfl ?_
          refine w_istore_n (ls' := [some (.ref 58), some (.int x3), some (.int r32), some (.int x3), some (.int r32)]) (n := 68) rfl rfl rfl rfl ?_
          refine w_drp mm_Qf_i (J57 _ _ ?_ ?_) (lb_s (lb_s (lb_s (lb_s (lb_s lb_e)))))
          · exact (if_pos hc).symm
          · exact (if_pos hc).symm
        · refine w_goto rfl ?_
          refine w_drp mm_Qf_i (J57 _ _ ?_ ?_) (lb_s (lb_s (lb_s (lb_s (lb_s lb_e)))))
          · exact (if_neg (fa_nlt hc)).symm
          · exact (if_neg (fa_nlt hc)).symm
theorem c_M_runsWhole_84 {P : Int32 → mm_I → Prop} {I : mm_I} (x1 : Int32) (x2 : Int32) (x3 : Int32) (x4 : Int32)
  (H : ((I 58 22) ≤ x4 →
      P x2 I) ∧
    (x4 < (I 58 22) →
      (((I 58 22) - 1) ≤ x4 →
        vp_in (I 58 29) 8 ∧
        vp_in (((9 * x3) + x4) + 1) 81 ∧
        vp_in (I 58 29) 8 ∧
        vp_in (((9 * x3) + x4) + 1) 81 ∧
        vp_in (I 58 29) 8 ∧
        mm_W 161 84 [some (.ref 58), some (.int x1), some (.int x2), some (.int (x4 + 1)), some (.int (x4 + 1))] [] (mm_up (mm_up (mm_up (mm_up I 72 ((I 58 29).toNatClampNeg) (x4 + 1)) 73 ((I 58 29).toNatClampNeg) (I 75 ((((9 * x3) + x4) + 1).toNatClampNeg))) 74 ((I 58 29).toNatClampNeg) (I 76 ((((9 * x3) + x4) + 1).toNatClampNeg))) 58 29 ((I 58 29) + 1)) (mm_qi 161 P)) ∧
      (x4 < ((I 58 22) - 1) →
        (¬ ((x1 >>> ((((I 58 22) - 2) - x4) &&& 31)) &&& 1) = 0 →
          vp_in (I 58 29) 8 ∧
          vp_in (((9 * x3) + x4) + 1) 81 ∧
          vp_in (I 58 29) 8 ∧
          vp_in (((9 * x3) + x4) + 1) 81 ∧
          vp_in (I 58 29) 8 ∧
          mm_W 161 84 [some (.ref 58), some (.int x1), some (.int x2), some (.int (x4 + 1)), some (.int (x4 + 1))] [] (mm_up (mm_up (mm_up (mm_up I 72 ((I 58 29).toNatClampNeg) (x4 + 1)) 73 ((I 58 29).toNatClampNeg) (I 75 ((((9 * x3) + x4) + 1).toNatClampNeg))) 74 ((I 58 29).toNatClampNeg) (I 76 ((((9 * x3) + x4) + 1).toNatClampNeg))) 58 29 ((I 58 29) + 1)) (mm_qi 161 P)) ∧
        (((x1 >>> ((((I 58 22) - 2) - x4) &&& 31)) &&& 1) = 0 →
          mm_W 161 84 [some (.ref 58), some (.int x1), some (.int x2), some (.int x3), some (.int (x4 + 1))] [] I (mm_qi 161 P))))) : mm_W 161 84 [some (.ref 58), some (.int x1), some (.int x2), some (.int x3), some (.int x4)] [] I (mm_qi 161 P) := by
  refine w_iload (n := 86) rfl rfl rfl ?_
  refine w_aload_nR (x := 58) (n := 87) rfl rfl rfl ?_
  refine w_getI (n := 90) rfl rfl rfl rfl ?_
  refine w_icmp_ge (n := 93) rfl rfl ⟨fun hc => ?_, fun hc => ?_⟩
  · replace H := H.1 hc
    refine w_iload_n (n := 204) rfl rfl rfl ?_
    exact w_ireturn rfl rfl H
  · replace H := H.2 hc
    refine w_iload (n := 95) rfl rfl rfl ?_
    refine w_aload_nR (x := 58) (n := 96) rfl rfl rfl ?_
    refine w_getI (n := 99) rfl rfl rfl rfl ?_
    refine w_iconst (v := 1) (n := 100) rfl rfl rfl ?_
    refine w_isub (n := 101) rfl rfl ?_
    refine w_icmp_ge (n := 104) rfl rfl ⟨fun hc => ?_, fun hc => ?_⟩
    · replace H := H.1 hc
      refine w_aload_nR (x := 58) (n := 124) rfl rfl rfl ?_
      refine w_getR (b := 72) (n := 127) rfl rfl rfl rfl rfl ?_
      refine w_aload_nR (x := 58) (n := 128) rfl rfl rfl ?_
      refine w_getI (n := 131) rfl rfl rfl rfl ?_
      refine w_iload (n := 133) rfl rfl rfl ?_
      refine w_iconst (v := 1) (n := 134) rfl rfl rfl ?_
      refine w_iadd (n := 135) rfl rfl ?_
      refine w_iastore (N := 8) (j := (I 58 29).toNatClampNeg) (n := 136) rfl rfl rfl rfl rfl ⟨H.1, ?_⟩
      replace H := H.2
      refine w_aload_nR (x := 58) (n := 137) rfl rfl rfl ?_
      refine w_getR (b := 73) (n := 140) rfl rfl rfl rfl rfl ?_
      refine w_aload_nR (x := 58) (n := 141) rfl rfl rfl ?_
      refine w_getI (n := 144) rfl rfl rfl rfl ?_
      refine w_aload_nR (x := 58) (n := 145) rfl rfl rfl ?_
      refine w_getR (b := 75) (n := 148) rfl rfl rfl rfl rfl ?_
      refine w_bipush (v := 9) (n := 150) rfl rfl rfl ?_
      refine w_iload_n (n := 151) rfl rfl rfl ?_
      refine w_imul (n := 152) rfl rfl ?_
      refine w_iload (n := 154) rfl rfl rfl ?_
      refine w_iadd (n := 155) rfl rfl ?_
      refine w_iconst (v := 1) (n := 156) rfl rfl rfl ?_
      refine w_iadd (n := 157) rfl rfl ?_
      refine w_iaload (N := 81) (j := (((9 * x3) + x4) + 1).toNatClampNeg) (n := 158) rfl rfl rfl rfl rfl rfl ⟨H.1, ?_⟩
      replace H := H.2
      refine w_iastore (N := 8) (j := (I 58 29).toNatClampNeg) (n := 159) rfl rfl rfl rfl rfl ⟨H.1, ?_⟩
      replace H := H.2
      refine w_aload_nR (x := 58) (n := 160) rfl rfl rfl ?_
      refine w_getR (b := 74) (n := 163) rfl rfl rfl rfl rfl ?_
      refine w_aload_nR (x := 58) (n := 164) rfl rfl rfl ?_
      refine w_getI (n := 167) rfl rfl rfl rfl ?_
      refine w_aload_nR (x := 58) (n := 168) rfl rfl rfl ?_
      refine w_getR (b := 76) (n := 171) rfl rfl rfl rfl rfl ?_
      refine w_bipush (v := 9) (n := 173) rfl rfl rfl ?_
      refine w_iload_n (n := 174) rfl rfl rfl ?_
      refine w_imul (n := 175) rfl rfl ?_
      refine w_iload (n := 177) rfl rfl rfl ?_
      refine w_iadd (n := 178) rfl rfl ?_
      refine w_iconst (v := 1) (n := 179) rfl rfl rfl ?_
      refine w_iadd (n := 180) rfl rfl ?_
      refine w_iaload (N := 81) (j := (((9 * x3) + x4) + 1).toNatClampNeg) (n := 181) rfl rfl rfl rfl rfl rfl ⟨H.1, ?_⟩
      replace H := H.2
      refine w_iastore (N := 8) (j := (I 58 29).toNatClampNeg) (n := 182) rfl rfl rfl rfl rfl ⟨H.1, ?_⟩
      replace H := H.2
      refine w_aload_nR (x := 58) (n := 183) rfl rfl rfl ?_
      refine w_dup (n := 184) rfl rfl rfl ?_
      refine w_getI (n := 187) rfl rfl rfl rfl ?_
      refine w_iconst (v := 1) (n := 188) rfl rfl rfl ?_
      refine w_iadd (n := 189) rfl rfl ?_
      refine w_putI (n := 192) rfl rfl rfl rfl rfl ?_
      refine w_iload (n := 194) rfl rfl rfl ?_
      refine w_iconst (v := 1) (n := 195) rfl rfl rfl ?_
      refine w_iadd (n := 196) rfl rfl ?_
      refine w_istore_n (ls' := [some (.ref 58), some (.int x1), some (.int x2), some (.int (x4 + 1)), some (.int x4)]) (n := 197) rfl rfl rfl rfl ?_
      refine w_iinc (y := x4 + 1) (ls' := [some (.ref 58), some (.int x1), some (.int x2), some (.int (x4 + 1)), some (.int (x4 + 1))]) (n := 200) rfl rfl rfl rfl rfl ?_
      refine w_goto rfl ?_
      exact w_drp mm_Qf_i H (lb_s (lb_s (lb_s (lb_s (lb_s lb_e)))))
    · replace H := H.2 hc
      refine w_iload_n (n := 105) rfl rfl rfl ?_
      refine w_aload_nR (x := 58) (n := 106) rfl rfl rfl ?_
      refine w_getI (n := 109) rfl rfl rfl rfl ?_
      refine w_iconst (v := 2) (n := 110) rfl rfl rfl ?_
      refine w_isub (n := 111) rfl rfl ?_
      refine w_iload (n := 113) rfl rfl rfl ?_
      refine w_isub (n := 114) rfl rfl ?_
      refine w_ishr (n := 115) rfl rfl ?_
      refine w_iconst (v := 1) (n := 116) rfl rfl rfl ?_
      refine w_iand (n := 117) rfl rfl ?_
      refine w_if_ne (n := 120) rfl rfl ⟨fun hc => ?_, fun hc => ?_⟩
      · replace H := H.1 hc
        refine w_aload_nR (x := 58) (n := 124) rfl rfl rfl ?_
        refine w_getR (b := 72) (n := 127) rfl rfl rfl rfl rfl ?_
        refine w_aload_nR (x := 58) (n := 128) rfl rfl rfl ?_
        refine w_getI (n := 131) rfl rfl rfl rfl ?_
        refine w_iload (n := 133) rfl rfl rfl ?_
        refine w_iconst (v := 1) (n := 134) rfl rfl rfl ?_
        refine w_iadd (n := 135) rfl rfl ?_
        refine w_iastore (N := 8) (j := (I 58 29).toNatClampNeg) (n := 136) rfl rfl rfl rfl rfl ⟨H.1, ?_⟩
        replace H := H.2
        refine w_aload_nR (x := 58) (n := 137) rfl rfl rfl ?_
        refine w_getR (b := 73) (n := 140) rfl rfl rfl rfl rfl ?_
        refine w_aload_nR (x := 58) (n := 141) rfl rfl rfl ?_
        refine w_getI (n := 144) rfl rfl rfl rfl ?_
        refine w_aload_nR (x := 58) (n := 145) rfl rfl rfl ?_
        refine w_getR (b := 75) (n := 148) rfl rfl rfl rfl rfl ?_
        refine w_bipush (v := 9) (n := 150) rfl rfl rfl ?_
        refine w_iload_n (n := 151) rfl rfl rfl ?_
        refine w_imul (n := 152) rfl rfl ?_
        refine w_iload (n := 154) rfl rfl rfl ?_
        refine w_iadd (n := 155) rfl rfl ?_
        refine w_iconst (v := 1) (n := 156) rfl rfl rfl ?_
        refine w_iadd (n := 157) rfl rfl ?_
        refine w_iaload (N := 81) (j := (((9 * x3) + x4) + 1).toNatClampNeg) (n := 158) rfl rfl rfl rfl rfl rfl ⟨H.1, ?_⟩
        replace H := H.2
        refine w_iastore (N := 8) (j := (I 58 29).toNatClampNeg) (n := 159) rfl rfl rfl rfl rfl ⟨H.1, ?_⟩
        replace H := H.2
        refine w_aload_nR (x := 58) (n := 160) rfl rfl rfl ?_
        refine w_getR (b := 74) (n := 163) rfl rfl rfl rfl rfl ?_
        refine w_aload_nR (x := 58) (n := 164) rfl rfl rfl ?_
        refine w_getI (n := 167) rfl rfl rfl rfl ?_
        refine w_aload_nR (x := 58) (n := 168) rfl rfl rfl ?_
        refine w_getR (b := 76) (n := 171) rfl rfl rfl rfl rfl ?_
        refine w_bipush (v := 9) (n := 173) rfl rfl rfl ?_
        refine w_iload_n (n := 174) rfl rfl rfl ?_
        refine w_imul (n := 175) rfl rfl ?_
        refine w_iload (n := 177) rfl rfl rfl ?_
        refine w_iadd (n := 178) rfl rfl ?_
        refine w_iconst (v := 1) (n := 179) rfl rfl rfl ?_
        refine w_iadd (n := 180) rfl rfl ?_
        refine w_iaload (N := 81) (j := (((9 * x3) + x4) + 1).toNatClampNeg) (n := 181) rfl rfl rfl rfl rfl rfl ⟨H.1, ?_⟩
        replace H := H.2
        refine w_iastore (N := 8) (j := (I 58 29).toNatClampNeg) (n := 182) rfl rfl rfl rfl rfl ⟨H.1, ?_⟩
        replace H := H.2
        refine w_aload_nR (x := 58) (n := 183) rfl rfl rfl ?_
        refine w_dup (n := 184) rfl rfl rfl ?_
        refine w_getI (n := 187) rfl rfl rfl rfl ?_
        refine w_iconst (v := 1) (n := 188) rfl rfl rfl ?_
        refine w_iadd (n := 189) rfl rfl ?_
        refine w_putI (n := 192) rfl rfl rfl rfl rfl ?_
        refine w_iload (n := 194) rfl rfl rfl ?_
        refine w_iconst (v := 1) (n := 195) rfl rfl rfl ?_
        refine w_iadd (n := 196) rfl rfl ?_
        refine w_istore_n (ls' := [some (.ref 58), some (.int x1), some (.int x2), some (.int (x4 + 1)), some (.int x4)]) (n := 197) rfl rfl rfl rfl ?_
        refine w_iinc (y := x4 + 1) (ls' := [some (.ref 58), some (.int x1), some (.int x2), some (.int (x4 + 1)), some (.int (x4 + 1))]) (n := 200) rfl rfl rfl rfl rfl ?_
        refine w_goto rfl ?_
        exact w_drp mm_Qf_i H (lb_s (lb_s (lb_s (lb_s (lb_s lb_e)))))
      · replace H := H.2 hc
        refine w_goto rfl ?_
        refine w_iinc (y := x4 + 1) (ls' := [some (.ref 58), some (.int x1), some (.int x2), some (.int x3), some (.int (x4 + 1))]) (n := 200) rfl rfl rfl rfl rfl ?_
        refine w_goto rfl ?_
        exact w_drp mm_Qf_i H (lb_s (lb_s (lb_s (lb_s (lb_s lb_e)))))
theorem e_M_sizes {P : Int32 → mm_I → Prop} {I : mm_I}
  (H : mm_W 162 4 [some (.ref 58), some (.int 0), some (.int 0)] [] I (mm_qi 162 P)) : mm_Mi 162 [.ref 58] I P := by
  refine mm_Mi_of ?_
  show mm_W 162 0 [some (.ref 58), none, none] [] I (mm_qi 162 P)
  refine w_iconst (v := 0) (n := 1) rfl rfl rfl ?_
  refine w_istore_n (ls' := [some (.ref 58), some (.int 0), none]) (n := 2) rfl rfl rfl rfl ?_
  refine w_iconst (v := 0) (n := 3) rfl rfl rfl ?_
  refine w_istore_n (ls' := [some (.ref 58), some (.int 0), some (.int 0)]) (n := 4) rfl rfl rfl rfl ?_
  exact w_drp mm_Qf_i H (lb_s (lb_s (lb_s lb_e)))
theorem c_M_sizes_4 {P : Int32 → mm_I → Prop} {I : mm_I} (x1 : Int32) (x2 : Int32)
  (H : ((I 58 21) ≤ x2 →
      P x1 I) ∧
    (x2 < (I 58 21) →
      vp_in x2 64 ∧
      (0 ≤ (I 68 x2.toNatClampNeg) →
        vp_in x2 64 ∧
        True) ∧
      ((I 68 x2.toNatClampNeg) < 0 →
        vp_in x2 64 ∧
        True) ∧
      mm_W 162 4 [some (.ref 58), some (.int (x1 + (if 0 ≤ (I 68 x2.toNatClampNeg) then ((I 68 x2.toNatClampNeg) : Int32) else -(I 68 x2.toNatClampNeg)))), some (.int (x2 + 1))] [] I (mm_qi 162 P))) : mm_W 162 4 [some (.ref 58), some (.int x1), some (.int x2)] [] I (mm_qi 162 P) := by
  refine w_iload_n (n := 5) rfl rfl rfl ?_
  refine w_aload_nR (x := 58) (n := 6) rfl rfl rfl ?_
  refine w_getI (n := 9) rfl rfl rfl rfl ?_
  refine w_icmp_ge (n := 12) rfl rfl ⟨fun hc => ?_, fun hc => ?_⟩
  · replace H := H.1 hc
    refine w_iload_n (n := 47) rfl rfl rfl ?_
    exact w_ireturn rfl rfl H
  · replace H := H.2 hc
    refine w_iload_n (n := 13) rfl rfl rfl ?_
    refine w_aload_nR (x := 58) (n := 14) rfl rfl rfl ?_
    refine w_getR (b := 68) (n := 17) rfl rfl rfl rfl rfl ?_
    refine w_iload_n (n := 18) rfl rfl rfl ?_
    refine w_iaload (N := 64) (j := x2.toNatClampNeg) (n := 19) rfl rfl rfl rfl rfl rfl ⟨H.1, ?_⟩
    replace H := H.2
    obtain ⟨K1, K2, H⟩ := H
    have J19 : ∀ (w19_1 : Int32), w19_1 = (if 0 ≤ (I 68 x2.toNatClampNeg) then ((I 68 x2.toNatClampNeg) : Int32) else -(I 68 x2.toNatClampNeg)) → mm_W 162 38 [some (.ref 58), some (.int x1), some (.int x2)] [.int w19_1, .int x1] I (mm_qi 162 P) := by
      intro w19_1 e19_0
      subst e19_0
      refine w_iadd (n := 39) rfl rfl ?_
      refine w_istore_n (ls' := [some (.ref 58), some (.int (x1 + (if 0 ≤ (I 68 x2.toNatClampNeg) then ((I 68 x2.toNatClampNeg) : Int32) else -(I 68 x2.toNatClampNeg)))), some (.int x2)]) (n := 40) rfl rfl rfl rfl ?_
      refine w_iinc (y := x2 + 1) (ls' := [some (.ref 58), some (.int (x1 + (if 0 ≤ (I 68 x2.toNatClampNeg) then ((I 68 x2.toNatClampNeg) : Int32) else -(I 68 x2.toNatClampNeg)))), some (.int (x2 + 1))]) (n := 43) rfl rfl rfl rfl rfl ?_
      refine w_goto rfl ?_
      exact w_drp mm_Qf_i H (lb_s (lb_s (lb_s lb_e)))
    refine w_if_ge (n := 22) rfl rfl ⟨fun hc => ?_, fun hc => ?_⟩
    · have H := K1 hc
      refine w_aload_nR (x := 58) (n := 33) rfl rfl rfl ?_
      refine w_getR (b := 68) (n := 36) rfl rfl rfl rfl rfl ?_
      refine w_iload_n (n := 37) rfl rfl rfl ?_
      refine w_iaload (N := 64) (j := x2.toNatClampNeg) (n := 38) rfl rfl rfl rfl rfl rfl ⟨H.1, ?_⟩
      replace H := H.2
      refine w_drp mm_Qf_i (J19 _ ?_) (lb_s (lb_s (lb_s lb_e)))
      · exact (if_pos hc).symm
    · have H := K2 hc
      refine w_aload_nR (x := 58) (n := 23) rfl rfl rfl ?_
      refine w_getR (b := 68) (n := 26) rfl rfl rfl rfl rfl ?_
      refine w_iload_n (n := 27) rfl rfl rfl ?_
      refine w_iaload (N := 64) (j := x2.toNatClampNeg) (n := 28) rfl rfl rfl rfl rfl rfl ⟨H.1, ?_⟩
      replace H := H.2
      refine w_ineg (n := 29) rfl rfl ?_
      refine w_goto rfl ?_
      refine w_drp mm_Qf_i (J19 _ ?_) (lb_s (lb_s (lb_s lb_e)))
      · exact (if_neg (fa_nle hc)).symm
theorem e_M_meanNow {P : UInt32 → mm_I → Prop} {I : mm_I}
  (H : mm_Mi 162 [.ref 58] I (fun r1 I1 =>  -- M.sizes
    vf_n32 (FP.fdiv (FP.i2f r1) (FP.i2f (I1 58 21))) ∧
    P (FP.fdiv (FP.i2f r1) (FP.i2f (I1 58 21))) I1)) : mm_Mf 163 [.ref 58] I P := by
  refine mm_Mf_of ?_
  show mm_W 163 0 [some (.ref 58)] [] I (mm_qf 163 P)
  refine w_aload_nR (x := 58) (n := 1) rfl rfl rfl ?_
  refine w_calli (as := [.ref 58]) (rest := []) (n := 4) rfl rfl rfl rfl ?_
  obtain ⟨r1, I1, hI1, H⟩ := H
  refine ⟨r1, I1, hI1, ?_⟩
  refine w_i2f (n := 5) rfl rfl ?_
  refine w_aload_nR (x := 58) (n := 6) rfl rfl rfl ?_
  refine w_getI (n := 9) rfl rfl rfl rfl ?_
  refine w_i2f (n := 10) rfl rfl ?_
  refine w_fdiv (n := 11) rfl rfl ⟨H.1, ?_⟩
  replace H := H.2
  exact w_freturn rfl rfl H
theorem e_M_runByMean {P : Int32 → mm_I → Prop} {I : mm_I}
  (H : mm_Mv 155 [.ref 58] I (fun I1 =>  -- M.laysGroups
    mm_Mi 162 [.ref 58] I1 (fun r8 I8 =>  -- M.sizes
    (r8 ≤ 0 →
      mm_Mi 156 [.ref 58, .int 0, .int (I8 58 22), .int 15] (mm_up (mm_up (mm_up I8 58 29 1) 72 0 (I8 58 22)) 73 0 15) (fun r79 I79 =>  -- M.bitsBy
      P r79 (mm_up I79 74 0 r79))) ∧
    (0 < r8 →
      mm_Mf 163 [.ref 58] I8 (fun r15 I15 =>  -- M.meanNow
      mm_W 164 23 [some (.ref 58), some (.int 0), some (.float r15), some (.float FP.fconst1)] [] I15 (mm_qi 164 P)))))) : mm_Mi 164 [.ref 58] I P := by
  refine mm_Mi_of ?_
  show mm_W 164 0 [some (.ref 58), none, none, none] [] I (mm_qi 164 P)
  refine w_aload_nR (x := 58) (n := 1) rfl rfl rfl ?_
  refine w_callv (as := [.ref 58]) (rest := []) (n := 4) rfl rfl rfl rfl ?_
  obtain ⟨I1, hI1, H⟩ := H
  refine ⟨I1, hI1, ?_⟩
  refine w_bipush (v := 15) (n := 6) rfl rfl rfl ?_
  refine w_istore_n (ls' := [some (.ref 58), some (.int 15), none, none]) (n := 7) rfl rfl rfl rfl ?_
  refine w_aload_nR (x := 58) (n := 8) rfl rfl rfl ?_
  refine w_calli (as := [.ref 58]) (rest := []) (n := 11) rfl rfl rfl rfl ?_
  obtain ⟨r8, I8, hI8, H⟩ := H
  refine ⟨r8, I8, hI8, ?_⟩
  refine w_if_le (n := 14) rfl rfl ⟨fun hc => ?_, fun hc => ?_⟩
  · replace H := H.1 hc
    refine w_aload_nR (x := 58) (n := 46) rfl rfl rfl ?_
    refine w_iconst (v := 1) (n := 47) rfl rfl rfl ?_
    refine w_putI (n := 50) rfl rfl rfl rfl rfl ?_
    refine w_aload_nR (x := 58) (n := 51) rfl rfl rfl ?_
    refine w_getR (b := 72) (n := 54) rfl rfl rfl rfl rfl ?_
    refine w_iconst (v := 0) (n := 55) rfl rfl rfl ?_
    refine w_aload_nR (x := 58) (n := 56) rfl rfl rfl ?_
    refine w_getI (n := 59) rfl rfl rfl rfl ?_
    refine w_iastore (N := 8) (j := 0) (n := 60) rfl rfl rfl (by decide) rfl ⟨mm_vpc (by decide), ?_⟩
    refine w_aload_nR (x := 58) (n := 61) rfl rfl rfl ?_
    refine w_getR (b := 73) (n := 64) rfl rfl rfl rfl rfl ?_
    refine w_iconst (v := 0) (n := 65) rfl rfl rfl ?_
    refine w_iload_n (n := 66) rfl rfl rfl ?_
    refine w_iastore (N := 8) (j := 0) (n := 67) rfl rfl rfl (by decide) rfl ⟨mm_vpc (by decide), ?_⟩
    refine w_aload_nR (x := 58) (n := 68) rfl rfl rfl ?_
    refine w_getR (b := 74) (n := 71) rfl rfl rfl rfl rfl ?_
    refine w_iconst (v := 0) (n := 72) rfl rfl rfl ?_
    refine w_aload_nR (x := 58) (n := 73) rfl rfl rfl ?_
    refine w_iconst (v := 0) (n := 74) rfl rfl rfl ?_
    refine w_aload_nR (x := 58) (n := 75) rfl rfl rfl ?_
    refine w_getI (n := 78) rfl rfl rfl rfl ?_
    refine w_iload_n (n := 79) rfl rfl rfl ?_
    refine w_calli (as := [.ref 58, .int 0, .int (I8 58 22), .int 15]) (rest := [.int 0, .ref 74]) (n := 82) rfl rfl rfl rfl ?_
    obtain ⟨r79, I79, hI79, H⟩ := H
    refine ⟨r79, I79, hI79, ?_⟩
    refine w_iastore (N := 8) (j := 0) (n := 83) rfl rfl rfl (by decide) rfl ⟨mm_vpc (by decide), ?_⟩
    refine w_aload_nR (x := 58) (n := 84) rfl rfl rfl ?_
    refine w_getR (b := 74) (n := 87) rfl rfl rfl rfl rfl ?_
    refine w_iconst (v := 0) (n := 88) rfl rfl rfl ?_
    refine w_iaload (N := 8) (j := 0) (n := 89) rfl rfl rfl rfl (by decide) rfl ⟨mm_vpc (by decide), ?_⟩
    exact w_ireturn rfl rfl H
  · replace H := H.2 hc
    refine w_aload_nR (x := 58) (n := 15) rfl rfl rfl ?_
    refine w_callf (as := [.ref 58]) (rest := []) (n := 18) rfl rfl rfl rfl ?_
    obtain ⟨r15, I15, hI15, H⟩ := H
    refine ⟨r15, I15, hI15, ?_⟩
    refine w_fstore_n (ls' := [some (.ref 58), some (.int 15), some (.float r15), none]) (n := 19) rfl rfl rfl rfl ?_
    refine w_iconst (v := 0) (n := 20) rfl rfl rfl ?_
    refine w_istore_n (ls' := [some (.ref 58), some (.int 0), some (.float r15), none]) (n := 21) rfl rfl rfl rfl ?_
    refine w_fconst1 (n := 22) rfl rfl ?_
    refine w_fstore_n (ls' := [some (.ref 58), some (.int 0), some (.float r15), some (.float FP.fconst1)]) (n := 23) rfl rfl rfl rfl ?_
    exact w_drp mm_Qf_i H (lb_s (lb_s (lb_s (lb_s lb_e))))
theorem c_M_runByMean_23 {P : Int32 → mm_I → Prop} {I : mm_I} (x1 : Int32) (x2 : UInt32) (x3 : UInt32)
  (H : (13 ≤ x1 →
      mm_Mi 156 [.ref 58, .int 0, .int (I 58 22), .int x1] (mm_up (mm_up (mm_up I 58 29 1) 72 0 (I 58 22)) 73 0 x1) (fun r79 I79 =>  -- M.bitsBy
      P r79 (mm_up I79 74 0 r79))) ∧
    (x1 < 13 →
      ((Op.cmpValue (FP.fcmp x2 x3) .l) < 0 →
        mm_Mi 156 [.ref 58, .int 0, .int (I 58 22), .int x1] (mm_up (mm_up (mm_up I 58 29 1) 72 0 (I 58 22)) 73 0 x1) (fun r79 I79 =>  -- M.bitsBy
        P r79 (mm_up I79 74 0 r79))) ∧
      (0 ≤ (Op.cmpValue (FP.fcmp x2 x3) .l) →
        vf_n32 (FP.fmul x3 FP.fconst2) ∧
        mm_W 164 23 [some (.ref 58), some (.int (x1 + 1)), some (.float x2), some (.float (FP.fmul x3 FP.fconst2))] [] I (mm_qi 164 P)))) : mm_W 164 23 [some (.ref 58), some (.int x1), some (.float x2), some (.float x3)] [] I (mm_qi 164 P) := by
  refine w_iload_n (n := 24) rfl rfl rfl ?_
  refine w_bipush (v := 13) (n := 26) rfl rfl rfl ?_
  refine w_icmp_ge (n := 29) rfl rfl ⟨fun hc => ?_, fun hc => ?_⟩
  · replace H := H.1 hc
    refine w_aload_nR (x := 58) (n := 46) rfl rfl rfl ?_
    refine w_iconst (v := 1) (n := 47) rfl rfl rfl ?_
    refine w_putI (n := 50) rfl rfl rfl rfl rfl ?_
    refine w_aload_nR (x := 58) (n := 51) rfl rfl rfl ?_
    refine w_getR (b := 72) (n := 54) rfl rfl rfl rfl rfl ?_
    refine w_iconst (v := 0) (n := 55) rfl rfl rfl ?_
    refine w_aload_nR (x := 58) (n := 56) rfl rfl rfl ?_
    refine w_getI (n := 59) rfl rfl rfl rfl ?_
    refine w_iastore (N := 8) (j := 0) (n := 60) rfl rfl rfl (by decide) rfl ⟨mm_vpc (by decide), ?_⟩
    refine w_aload_nR (x := 58) (n := 61) rfl rfl rfl ?_
    refine w_getR (b := 73) (n := 64) rfl rfl rfl rfl rfl ?_
    refine w_iconst (v := 0) (n := 65) rfl rfl rfl ?_
    refine w_iload_n (n := 66) rfl rfl rfl ?_
    refine w_iastore (N := 8) (j := 0) (n := 67) rfl rfl rfl (by decide) rfl ⟨mm_vpc (by decide), ?_⟩
    refine w_aload_nR (x := 58) (n := 68) rfl rfl rfl ?_
    refine w_getR (b := 74) (n := 71) rfl rfl rfl rfl rfl ?_
    refine w_iconst (v := 0) (n := 72) rfl rfl rfl ?_
    refine w_aload_nR (x := 58) (n := 73) rfl rfl rfl ?_
    refine w_iconst (v := 0) (n := 74) rfl rfl rfl ?_
    refine w_aload_nR (x := 58) (n := 75) rfl rfl rfl ?_
    refine w_getI (n := 78) rfl rfl rfl rfl ?_
    refine w_iload_n (n := 79) rfl rfl rfl ?_
    refine w_calli (as := [.ref 58, .int 0, .int (I 58 22), .int x1]) (rest := [.int 0, .ref 74]) (n := 82) rfl rfl rfl rfl ?_
    obtain ⟨r79, I79, hI79, H⟩ := H
    refine ⟨r79, I79, hI79, ?_⟩
    refine w_iastore (N := 8) (j := 0) (n := 83) rfl rfl rfl (by decide) rfl ⟨mm_vpc (by decide), ?_⟩
    refine w_aload_nR (x := 58) (n := 84) rfl rfl rfl ?_
    refine w_getR (b := 74) (n := 87) rfl rfl rfl rfl rfl ?_
    refine w_iconst (v := 0) (n := 88) rfl rfl rfl ?_
    refine w_iaload (N := 8) (j := 0) (n := 89) rfl rfl rfl rfl (by decide) rfl ⟨mm_vpc (by decide), ?_⟩
    exact w_ireturn rfl rfl H
  · replace H := H.2 hc
    refine w_fload_n (n := 30) rfl rfl rfl ?_
    refine w_fload_n (n := 31) rfl rfl rfl ?_
    refine w_fcmp (n := 32) rfl rfl ?_
    refine w_if_lt (n := 35) rfl rfl ⟨fun hc => ?_, fun hc => ?_⟩
    · replace H := H.1 hc
      refine w_aload_nR (x := 58) (n := 46) rfl rfl rfl ?_
      refine w_iconst (v := 1) (n := 47) rfl rfl rfl ?_
      refine w_putI (n := 50) rfl rfl rfl rfl rfl ?_
      refine w_aload_nR (x := 58) (n := 51) rfl rfl rfl ?_
      refine w_getR (b := 72) (n := 54) rfl rfl rfl rfl rfl ?_
      refine w_iconst (v := 0) (n := 55) rfl rfl rfl ?_
      refine w_aload_nR (x := 58) (n := 56) rfl rfl rfl ?_
      refine w_getI (n := 59) rfl rfl rfl rfl ?_
      refine w_iastore (N := 8) (j := 0) (n := 60) rfl rfl rfl (by decide) rfl ⟨mm_vpc (by decide), ?_⟩
      refine w_aload_nR (x := 58) (n := 61) rfl rfl rfl ?_
      refine w_getR (b := 73) (n := 64) rfl rfl rfl rfl rfl ?_
      refine w_iconst (v := 0) (n := 65) rfl rfl rfl ?_
      refine w_iload_n (n := 66) rfl rfl rfl ?_
      refine w_iastore (N := 8) (j := 0) (n := 67) rfl rfl rfl (by decide) rfl ⟨mm_vpc (by decide), ?_⟩
      refine w_aload_nR (x := 58) (n := 68) rfl rfl rfl ?_
      refine w_getR (b := 74) (n := 71) rfl rfl rfl rfl rfl ?_
      refine w_iconst (v := 0) (n := 72) rfl rfl rfl ?_
      refine w_aload_nR (x := 58) (n := 73) rfl rfl rfl ?_
      refine w_iconst (v := 0) (n := 74) rfl rfl rfl ?_
      refine w_aload_nR (x := 58) (n := 75) rfl rfl rfl ?_
      refine w_getI (n := 78) rfl rfl rfl rfl ?_
      refine w_iload_n (n := 79) rfl rfl rfl ?_
      refine w_calli (as := [.ref 58, .int 0, .int (I 58 22), .int x1]) (rest := [.int 0, .ref 74]) (n := 82) rfl rfl rfl rfl ?_
      obtain ⟨r79, I79, hI79, H⟩ := H
      refine ⟨r79, I79, hI79, ?_⟩
      refine w_iastore (N := 8) (j := 0) (n := 83) rfl rfl rfl (by decide) rfl ⟨mm_vpc (by decide), ?_⟩
      refine w_aload_nR (x := 58) (n := 84) rfl rfl rfl ?_
      refine w_getR (b := 74) (n := 87) rfl rfl rfl rfl rfl ?_
      refine w_iconst (v := 0) (n := 88) rfl rfl rfl ?_
      refine w_iaload (N := 8) (j := 0) (n := 89) rfl rfl rfl rfl (by decide) rfl ⟨mm_vpc (by decide), ?_⟩
      exact w_ireturn rfl rfl H
    · replace H := H.2 hc
      refine w_iinc (y := x1 + 1) (ls' := [some (.ref 58), some (.int (x1 + 1)), some (.float x2), some (.float x3)]) (n := 38) rfl rfl rfl rfl rfl ?_
      refine w_fload_n (n := 39) rfl rfl rfl ?_
      refine w_fconst2 (n := 40) rfl rfl ?_
      refine w_fmul (n := 41) rfl rfl ⟨H.1, ?_⟩
      replace H := H.2
      refine w_fstore_n (ls' := [some (.ref 58), some (.int (x1 + 1)), some (.float x2), some (.float (FP.fmul x3 FP.fconst2))]) (n := 42) rfl rfl rfl rfl ?_
      refine w_goto rfl ?_
      exact w_drp mm_Qf_i H (lb_s (lb_s (lb_s (lb_s lb_e))))
theorem e_M_costs {P : Int32 → mm_I → Prop} {I : mm_I} (x1 : Int32)
  (H : mm_Mv 151 [.ref 58, .int x1] I (fun I2 =>  -- M.laysErrors
    mm_Mi 144 [.int x1, .ref 62] I2 (fun r15 I15 =>  -- M.orderOf
    (¬ (I15 58 7) = 1 →
      mm_Mi 164 [.ref 58] I15 (fun r36 I36 =>  -- M.runByMean
      P ((4 + ((I2 58 19) * r15)) + r36) I36)) ∧
    ((I15 58 7) = 1 →
      mm_Mi 161 [.ref 58] I15 (fun r29 I29 =>  -- M.runsWhole
      P ((4 + ((I2 58 19) * r15)) + r29) I29))))) : mm_Mi 165 [.ref 58, .int x1] I P := by
  refine mm_Mi_of ?_
  show mm_W 165 0 [some (.ref 58), some (.int x1)] [] I (mm_qi 165 P)
  refine w_aload_nR (x := 58) (n := 1) rfl rfl rfl ?_
  refine w_iload_n (n := 2) rfl rfl rfl ?_
  refine w_callv (as := [.ref 58, .int x1]) (rest := []) (n := 5) rfl rfl rfl rfl ?_
  obtain ⟨I2, hI2, H⟩ := H
  refine ⟨I2, hI2, ?_⟩
  refine w_iconst (v := 4) (n := 6) rfl rfl rfl ?_
  refine w_aload_nR (x := 58) (n := 7) rfl rfl rfl ?_
  refine w_getI (n := 10) rfl rfl rfl rfl ?_
  refine w_iload_n (n := 11) rfl rfl rfl ?_
  refine w_aload_nR (x := 58) (n := 12) rfl rfl rfl ?_
  refine w_getR (b := 62) (n := 15) rfl rfl rfl rfl rfl ?_
  refine w_calli (as := [.int x1, .ref 62]) (rest := [.int (I2 58 19), .int 4]) (n := 18) rfl rfl rfl rfl ?_
  obtain ⟨r15, I15, hI15, H⟩ := H
  refine ⟨r15, I15, hI15, ?_⟩
  refine w_imul (n := 19) rfl rfl ?_
  refine w_iadd (n := 20) rfl rfl ?_
  refine w_aload_nR (x := 58) (n := 21) rfl rfl rfl ?_
  refine w_getI (n := 24) rfl rfl rfl rfl ?_
  refine w_iconst (v := 1) (n := 25) rfl rfl rfl ?_
  refine w_icmp_ne (n := 28) rfl rfl ⟨fun hc => ?_, fun hc => ?_⟩
  · replace H := H.1 hc
    refine w_aload_nR (x := 58) (n := 36) rfl rfl rfl ?_
    refine w_calli (as := [.ref 58]) (rest := [.int (4 + ((I2 58 19) * r15))]) (n := 39) rfl rfl rfl rfl ?_
    obtain ⟨r36, I36, hI36, H⟩ := H
    refine ⟨r36, I36, hI36, ?_⟩
    refine w_iadd (n := 40) rfl rfl ?_
    exact w_ireturn rfl rfl H
  · replace H := H.2 hc
    refine w_aload_nR (x := 58) (n := 29) rfl rfl rfl ?_
    refine w_calli (as := [.ref 58]) (rest := [.int (4 + ((I2 58 19) * r15))]) (n := 32) rfl rfl rfl rfl ?_
    obtain ⟨r29, I29, hI29, H⟩ := H
    refine ⟨r29, I29, hI29, ?_⟩
    refine w_goto rfl ?_
    refine w_iadd (n := 40) rfl rfl ?_
    exact w_ireturn rfl rfl H
theorem e_M_isStill {P : Int32 → mm_I → Prop} {I : mm_I}
  (H : mm_W 166 2 [some (.ref 58), some (.int 1)] [] I (mm_qi 166 P)) : mm_Mi 166 [.ref 58] I P := by
  refine mm_Mi_of ?_
  show mm_W 166 0 [some (.ref 58), none] [] I (mm_qi 166 P)
  refine w_iconst (v := 1) (n := 1) rfl rfl rfl ?_
  refine w_istore_n (ls' := [some (.ref 58), some (.int 1)]) (n := 2) rfl rfl rfl rfl ?_
  exact w_drp mm_Qf_i H (lb_s (lb_s lb_e))
theorem c_M_isStill_2 {P : Int32 → mm_I → Prop} {I : mm_I} (x1 : Int32)
  (H : ((I 58 18) ≤ x1 →
      P 1 I) ∧
    (x1 < (I 58 18) →
      vp_in x1 64 ∧
      ((I 67 x1.toNatClampNeg) = (I 67 0) →
        mm_W 166 2 [some (.ref 58), some (.int (x1 + 1))] [] I (mm_qi 166 P)) ∧
      (¬ (I 67 x1.toNatClampNeg) = (I 67 0) →
        P 0 I))) : mm_W 166 2 [some (.ref 58), some (.int x1)] [] I (mm_qi 166 P) := by
  refine w_iload_n (n := 3) rfl rfl rfl ?_
  refine w_aload_nR (x := 58) (n := 4) rfl rfl rfl ?_
  refine w_getI (n := 7) rfl rfl rfl rfl ?_
  refine w_icmp_ge (n := 10) rfl rfl ⟨fun hc => ?_, fun hc => ?_⟩
  · replace H := H.1 hc
    refine w_iconst (v := 1) (n := 34) rfl rfl rfl ?_
    exact w_zreturn rfl rfl ⟨by decide, H⟩
  · replace H := H.2 hc
    refine w_aload_nR (x := 58) (n := 11) rfl rfl rfl ?_
    refine w_getR (b := 67) (n := 14) rfl rfl rfl rfl rfl ?_
    refine w_iload_n (n := 15) rfl rfl rfl ?_
    refine w_iaload (N := 64) (j := x1.toNatClampNeg) (n := 16) rfl rfl rfl rfl rfl rfl ⟨H.1, ?_⟩
    replace H := H.2
    refine w_aload_nR (x := 58) (n := 17) rfl rfl rfl ?_
    refine w_getR (b := 67) (n := 20) rfl rfl rfl rfl rfl ?_
    refine w_iconst (v := 0) (n := 21) rfl rfl rfl ?_
    refine w_iaload (N := 64) (j := 0) (n := 22) rfl rfl rfl rfl (by decide) rfl ⟨mm_vpc (by decide), ?_⟩
    refine w_icmp_eq (n := 25) rfl rfl ⟨fun hc => ?_, fun hc => ?_⟩
    · replace H := H.1 hc
      refine w_iinc (y := x1 + 1) (ls' := [some (.ref 58), some (.int (x1 + 1))]) (n := 30) rfl rfl rfl rfl rfl ?_
      refine w_goto rfl ?_
      exact w_drp mm_Qf_i H (lb_s (lb_s lb_e))
    · replace H := H.2 hc
      refine w_iconst (v := 0) (n := 26) rfl rfl rfl ?_
      exact w_zreturn rfl rfl ⟨by decide, H⟩
theorem e_M_predictorFor {P : Int32 → mm_I → Prop} {I : mm_I} (x1 : Int32)
  (H : mm_W 167 7 [some (.ref 58), some (.int x1), some (.int (-1)), some (.int 0), some (.int 0), none] [] I (mm_qi 167 P)) : mm_Mi 167 [.ref 58, .int x1] I P := by
  refine mm_Mi_of ?_
  show mm_W 167 0 [some (.ref 58), some (.int x1), none, none, none, none] [] I (mm_qi 167 P)
  refine w_iconst (v := (-1)) (n := 1) rfl rfl rfl ?_
  refine w_istore_n (ls' := [some (.ref 58), some (.int x1), some (.int (-1)), none, none, none]) (n := 2) rfl rfl rfl rfl ?_
  refine w_iconst (v := 0) (n := 3) rfl rfl rfl ?_
  refine w_istore_n (ls' := [some (.ref 58), some (.int x1), some (.int (-1)), some (.int 0), none, none]) (n := 4) rfl rfl rfl rfl ?_
  refine w_iconst (v := 0) (n := 5) rfl rfl rfl ?_
  refine w_istore (ls' := [some (.ref 58), some (.int x1), some (.int (-1)), some (.int 0), some (.int 0), none]) (n := 7) rfl rfl rfl rfl ?_
  exact w_drp mm_Qf_i H (lb_s (lb_s (lb_s (lb_s (lb_s (lb_n lb_e))))))
theorem c_M_predictorFor_7 {P : Int32 → mm_I → Prop} {I : mm_I} (x1 : Int32) (x2 : Int32) (x3 : Int32) (x4 : Int32)
  (H : (8 ≤ x4 →
      P x2 I) ∧
    (x4 < 8 →
      (((x1 >>> (x4 &&& 31)) &&& 1) = 0 →
        mm_W 167 7 [some (.ref 58), some (.int x1), some (.int x2), some (.int x3), some (.int (x4 + 1)), none] [] I (mm_qi 167 P)) ∧
      (¬ ((x1 >>> (x4 &&& 31)) &&& 1) = 0 →
        mm_Mi 144 [.int x4, .ref 62] I (fun r29 I29 =>  -- M.orderOf
        (r29 < (I29 58 18) →
          (¬ (I29 58 7) = 1 →
            mm_Mv 151 [.ref 58, .int x4] I29 (fun I64 =>  -- M.laysErrors
            mm_Mi 162 [.ref 58] I64 (fun r68 I68 =>  -- M.sizes
            mm_W 167 7 [some (.ref 58), some (.int x1), some (.int (if x2 < 0 then (x4 : Int32) else (if r68 < x3 then (x4 : Int32) else x2))), some (.int (if x2 < 0 then (r68 : Int32) else (if r68 < x3 then (r68 : Int32) else x3))), some (.int (x4 + 1)), none] [] I68 (mm_qi 167 P)))) ∧
          ((I29 58 7) = 1 →
            mm_Mi 165 [.ref 58, .int x4] I29 (fun r53 I53 =>  -- M.costs
            mm_W 167 7 [some (.ref 58), some (.int x1), some (.int (if x2 < 0 then (x4 : Int32) else (if r53 < x3 then (x4 : Int32) else x2))), some (.int (if x2 < 0 then (r53 : Int32) else (if r53 < x3 then (r53 : Int32) else x3))), some (.int (x4 + 1)), none] [] I53 (mm_qi 167 P)))) ∧
        ((I29 58 18) ≤ r29 →
          mm_W 167 7 [some (.ref 58), some (.int x1), some (.int x2), some (.int x3), some (.int (x4 + 1)), none] [] I29 (mm_qi 167 P)))))) : mm_W 167 7 [some (.ref 58), some (.int x1), some (.int x2), some (.int x3), some (.int x4), none] [] I (mm_qi 167 P) := by
  refine w_iload (n := 9) rfl rfl rfl ?_
  refine w_bipush (v := 8) (n := 11) rfl rfl rfl ?_
  refine w_icmp_ge (n := 14) rfl rfl ⟨fun hc => ?_, fun hc => ?_⟩
  · replace H := H.1 hc
    refine w_iload_n (n := 99) rfl rfl rfl ?_
    exact w_ireturn rfl rfl H
  · replace H := H.2 hc
    refine w_iload_n (n := 15) rfl rfl rfl ?_
    refine w_iload (n := 17) rfl rfl rfl ?_
    refine w_ishr (n := 18) rfl rfl ?_
    refine w_iconst (v := 1) (n := 19) rfl rfl rfl ?_
    refine w_iand (n := 20) rfl rfl ?_
    refine w_if_eq (n := 23) rfl rfl ⟨fun hc => ?_, fun hc => ?_⟩
    · replace H := H.1 hc
      refine w_iinc (y := x4 + 1) (ls' := [some (.ref 58), some (.int x1), some (.int x2), some (.int x3), some (.int (x4 + 1)), none]) (n := 95) rfl rfl rfl rfl rfl ?_
      refine w_goto rfl ?_
      exact w_drp mm_Qf_i H (lb_s (lb_s (lb_s (lb_s (lb_s (lb_n lb_e))))))
    · replace H := H.2 hc
      refine w_iload (n := 25) rfl rfl rfl ?_
      refine w_aload_nR (x := 58) (n := 26) rfl rfl rfl ?_
      refine w_getR (b := 62) (n := 29) rfl rfl rfl rfl rfl ?_
      refine w_calli (as := [.int x4, .ref 62]) (rest := []) (n := 32) rfl rfl rfl rfl ?_
      obtain ⟨r29, I29, hI29, H⟩ := H
      refine ⟨r29, I29, hI29, ?_⟩
      refine w_aload_nR (x := 58) (n := 33) rfl rfl rfl ?_
      refine w_getI (n := 36) rfl rfl rfl rfl ?_
      refine w_icmp_lt (n := 39) rfl rfl ⟨fun hc => ?_, fun hc => ?_⟩
      · replace H := H.1 hc
        refine w_aload_nR (x := 58) (n := 43) rfl rfl rfl ?_
        refine w_getI (n := 46) rfl rfl rfl rfl ?_
        refine w_iconst (v := 1) (n := 47) rfl rfl rfl ?_
        refine w_icmp_ne (n := 50) rfl rfl ⟨fun hc => ?_, fun hc => ?_⟩
        · replace H := H.1 hc
          refine w_aload_nR (x := 58) (n := 62) rfl rfl rfl ?_
          refine w_iload (n := 64) rfl rfl rfl ?_
          refine w_callv (as := [.ref 58, .int x4]) (rest := []) (n := 67) rfl rfl rfl rfl ?_
          obtain ⟨I64, hI64, H⟩ := H
          refine ⟨I64, hI64, ?_⟩
          refine w_aload_nR (x := 58) (n := 68) rfl rfl rfl ?_
          refine w_calli (as := [.ref 58]) (rest := []) (n := 71) rfl rfl rfl rfl ?_
          obtain ⟨r68, I68, hI68, H⟩ := H
          refine ⟨r68, I68, hI68, ?_⟩
          refine w_istore (ls' := [some (.ref 58), some (.int x1), some (.int x2), some (.int x3), some (.int x4), some (.int r68)]) (n := 73) rfl rfl rfl rfl ?_
          refine w_iload_n (n := 74) rfl rfl rfl ?_
          have J74 : ∀ (y74_2 : Int32) (y74_3 : Int32), y74_2 = (if x2 < 0 then (x4 : Int32) else (if r68 < x3 then (x4 : Int32) else x2)) → y74_3 = (if x2 < 0 then (r68 : Int32) else (if r68 < x3 then (r68 : Int32) else x3)) → mm_W 167 92 [some (.ref 58), some (.int x1), some (.int y74_2), some (.int y74_3), some (.int x4), some (.int r68)] [] I68 (mm_qi 167 P) := by
            intro y74_2 y74_3 e74_0 e74_1
            subst e74_0
            subst e74_1
            refine w_iinc (y := x4 + 1) (ls' := [some (.ref 58), some (.int x1), some (.int (if x2 < 0 then (x4 : Int32) else (if r68 < x3 then (x4 : Int32) else x2))), some (.int (if x2 < 0 then (r68 : Int32) else (if r68 < x3 then (r68 : Int32) else x3))), some (.int (x4 + 1)), some (.int r68)]) (n := 95) rfl rfl rfl rfl rfl ?_
            refine w_goto rfl ?_
            exact w_drp mm_Qf_i H (lb_s (lb_s (lb_s (lb_s (lb_s (lb_n lb_e))))))
          refine w_if_lt (n := 77) rfl rfl ⟨fun hc => ?_, fun hc => ?_⟩
          · refine w_iload (n := 88) rfl rfl rfl ?_
            refine w_istore_n (ls' := [some (.ref 58), some (.int x1), some (.int x4), some (.int x3), some (.int x4), some (.int r68)]) (n := 89) rfl rfl rfl rfl ?_
            refine w_iload (n := 91) rfl rfl rfl ?_
            refine w_istore_n (ls' := [some (.ref 58), some (.int x1), some (.int x4), some (.int r68), some (.int x4), some (.int r68)]) (n := 92) rfl rfl rfl rfl ?_
            refine w_drp mm_Qf_i (J74 _ _ ?_ ?_) (lb_s (lb_s (lb_s (lb_s (lb_s (lb_s lb_e))))))
            · exact (if_pos hc).symm
            · exact (if_pos hc).symm
          · refine w_iload (n := 79) rfl rfl rfl ?_
            refine w_iload_n (n := 80) rfl rfl rfl ?_
            have J80 : ∀ (y80_2 : Int32) (y80_3 : Int32), y80_2 = (if r68 < x3 then (x4 : Int32) else x2) → y80_3 = (if r68 < x3 then (r68 : Int32) else x3) → mm_W 167 92 [some (.ref 58), some (.int x1), some (.int y80_2), some (.int y80_3), some (.int x4), some (.int r68)] [] I68 (mm_qi 167 P) := by
              intro y80_2 y80_3 e80_0 e80_1
              subst e80_0
              subst e80_1
              refine w_drp mm_Qf_i (J74 _ _ ?_ ?_) (lb_s (lb_s (lb_s (lb_s (lb_s (lb_s lb_e))))))
              · exact (if_neg (fa_nlt hc)).symm
              · exact (if_neg (fa_nlt hc)).symm
            refine w_icmp_lt (n := 83) rfl rfl ⟨fun hc => ?_, fun hc => ?_⟩
            · refine w_iload (n := 88) rfl rfl rfl ?_
              refine w_istore_n (ls' := [some (.ref 58), some (.int x1), some (.int x4), some (.int x3), some (.int x4), some (.int r68)]) (n := 89) rfl rfl rfl rfl ?_
              refine w_iload (n := 91) rfl rfl rfl ?_
              refine w_istore_n (ls' := [some (.ref 58), some (.int x1), some (.int x4), some (.int r68), some (.int x4), some (.int r68)]) (n := 92) rfl rfl rfl rfl ?_
              refine w_drp mm_Qf_i (J80 _ _ ?_ ?_) (lb_s (lb_s (lb_s (lb_s (lb_s (lb_s lb_e))))))
              · exact (if_pos hc).symm
              · exact (if_pos hc).symm
            · refine w_goto rfl ?_
              refine w_drp mm_Qf_i (J80 _ _ ?_ ?_) (lb_s (lb_s (lb_s (lb_s (lb_s (lb_s lb_e))))))
              · exact (if_neg (fa_nlt hc)).symm
              · exact (if_neg (fa_nlt hc)).symm
        · replace H := H.2 hc
          refine w_aload_nR (x := 58) (n := 51) rfl rfl rfl ?_
          refine w_iload (n := 53) rfl rfl rfl ?_
          refine w_calli (as := [.ref 58, .int x4]) (rest := []) (n := 56) rfl rfl rfl rfl ?_
          obtain ⟨r53, I53, hI53, H⟩ := H
          refine ⟨r53, I53, hI53, ?_⟩
          refine w_istore (ls' := [some (.ref 58), some (.int x1), some (.int x2), some (.int x3), some (.int x4), some (.int r53)]) (n := 58) rfl rfl rfl rfl ?_
          refine w_goto rfl ?_
          refine w_iload_n (n := 74) rfl rfl rfl ?_
          have J74 : ∀ (y74_2 : Int32) (y74_3 : Int32), y74_2 = (if x2 < 0 then (x4 : Int32) else (if r53 < x3 then (x4 : Int32) else x2)) → y74_3 = (if x2 < 0 then (r53 : Int32) else (if r53 < x3 then (r53 : Int32) else x3)) → mm_W 167 92 [some (.ref 58), some (.int x1), some (.int y74_2), some (.int y74_3), some (.int x4), some (.int r53)] [] I53 (mm_qi 167 P) := by
            intro y74_2 y74_3 e74_0 e74_1
            subst e74_0
            subst e74_1
            refine w_iinc (y := x4 + 1) (ls' := [some (.ref 58), some (.int x1), some (.int (if x2 < 0 then (x4 : Int32) else (if r53 < x3 then (x4 : Int32) else x2))), some (.int (if x2 < 0 then (r53 : Int32) else (if r53 < x3 then (r53 : Int32) else x3))), some (.int (x4 + 1)), some (.int r53)]) (n := 95) rfl rfl rfl rfl rfl ?_
            refine w_goto rfl ?_
            exact w_drp mm_Qf_i H (lb_s (lb_s (lb_s (lb_s (lb_s (lb_n lb_e))))))
          refine w_if_lt (n := 77) rfl rfl ⟨fun hc => ?_, fun hc => ?_⟩
          · refine w_iload (n := 88) rfl rfl rfl ?_
            refine w_istore_n (ls' := [some (.ref 58), some (.int x1), some (.int x4), some (.int x3), some (.int x4), some (.int r53)]) (n := 89) rfl rfl rfl rfl ?_
            refine w_iload (n := 91) rfl rfl rfl ?_
            refine w_istore_n (ls' := [some (.ref 58), some (.int x1), some (.int x4), some (.int r53), some (.int x4), some (.int r53)]) (n := 92) rfl rfl rfl rfl ?_
            refine w_drp mm_Qf_i (J74 _ _ ?_ ?_) (lb_s (lb_s (lb_s (lb_s (lb_s (lb_s lb_e))))))
            · exact (if_pos hc).symm
            · exact (if_pos hc).symm
          · refine w_iload (n := 79) rfl rfl rfl ?_
            refine w_iload_n (n := 80) rfl rfl rfl ?_
            have J80 : ∀ (y80_2 : Int32) (y80_3 : Int32), y80_2 = (if r53 < x3 then (x4 : Int32) else x2) → y80_3 = (if r53 < x3 then (r53 : Int32) else x3) → mm_W 167 92 [some (.ref 58), some (.int x1), some (.int y80_2), some (.int y80_3), some (.int x4), some (.int r53)] [] I53 (mm_qi 167 P) := by
              intro y80_2 y80_3 e80_0 e80_1
              subst e80_0
              subst e80_1
              refine w_drp mm_Qf_i (J74 _ _ ?_ ?_) (lb_s (lb_s (lb_s (lb_s (lb_s (lb_s lb_e))))))
              · exact (if_neg (fa_nlt hc)).symm
              · exact (if_neg (fa_nlt hc)).symm
            refine w_icmp_lt (n := 83) rfl rfl ⟨fun hc => ?_, fun hc => ?_⟩
            · refine w_iload (n := 88) rfl rfl rfl ?_
              refine w_istore_n (ls' := [some (.ref 58), some (.int x1), some (.int x4), some (.int x3), some (.int x4), some (.int r53)]) (n := 89) rfl rfl rfl rfl ?_
              refine w_iload (n := 91) rfl rfl rfl ?_
              refine w_istore_n (ls' := [some (.ref 58), some (.int x1), some (.int x4), some (.int r53), some (.int x4), some (.int r53)]) (n := 92) rfl rfl rfl rfl ?_
              refine w_drp mm_Qf_i (J80 _ _ ?_ ?_) (lb_s (lb_s (lb_s (lb_s (lb_s (lb_s lb_e))))))
              · exact (if_pos hc).symm
              · exact (if_pos hc).symm
            · refine w_goto rfl ?_
              refine w_drp mm_Qf_i (J80 _ _ ?_ ?_) (lb_s (lb_s (lb_s (lb_s (lb_s (lb_s lb_e))))))
              · exact (if_neg (fa_nlt hc)).symm
              · exact (if_neg (fa_nlt hc)).symm
      · replace H := H.2 hc
        refine w_goto rfl ?_
        refine w_iinc (y := x4 + 1) (ls' := [some (.ref 58), some (.int x1), some (.int x2), some (.int x3), some (.int (x4 + 1)), none]) (n := 95) rfl rfl rfl rfl rfl ?_
        refine w_goto rfl ?_
        exact w_drp mm_Qf_i H (lb_s (lb_s (lb_s (lb_s (lb_s (lb_n lb_e))))))
theorem e_M_rowCosts {P : Int32 → mm_I → Prop} {I : mm_I} (x1 : Int32)
  (H : mm_Mi 166 [.ref 58] (mm_up I 58 29 0) (fun r6 I6 =>  -- M.isStill
    (r6 = 0 →
      mm_Mi 167 [.ref 58, .int x1] I6 (fun r28 I28 =>  -- M.predictorFor
      mm_Mi 165 [.ref 58, .int r28] (mm_up I28 58 32 r28) (fun r39 I39 =>  -- M.costs
      ((4 + ((I39 58 18) * (I39 58 19))) < r39 →
        P (4 + ((I39 58 18) * (I39 58 19))) (mm_up (mm_up I39 58 32 9) 58 29 0)) ∧
      (r39 ≤ (4 + ((I39 58 18) * (I39 58 19))) →
        P r39 I39)))) ∧
    (¬ r6 = 0 →
      P (4 + (I6 58 19)) (mm_up I6 58 32 8)))) : mm_Mi 168 [.ref 58, .int x1] I P := by
  refine mm_Mi_of ?_
  show mm_W 168 0 [some (.ref 58), some (.int x1), none, none] [] I (mm_qi 168 P)
  refine w_aload_nR (x := 58) (n := 1) rfl rfl rfl ?_
  refine w_iconst (v := 0) (n := 2) rfl rfl rfl ?_
  refine w_putI (n := 5) rfl rfl rfl rfl rfl ?_
  refine w_aload_nR (x := 58) (n := 6) rfl rfl rfl ?_
  refine w_calli (as := [.ref 58]) (rest := []) (n := 9) rfl rfl rfl rfl ?_
  obtain ⟨r6, I6, hI6, H⟩ := H
  refine ⟨r6, I6, hI6, ?_⟩
  refine w_if_eq (n := 12) rfl rfl ⟨fun hc => ?_, fun hc => ?_⟩
  · replace H := H.1 hc
    refine w_aload_nR (x := 58) (n := 26) rfl rfl rfl ?_
    refine w_aload_nR (x := 58) (n := 27) rfl rfl rfl ?_
    refine w_iload_n (n := 28) rfl rfl rfl ?_
    refine w_calli (as := [.ref 58, .int x1]) (rest := [.ref 58]) (n := 31) rfl rfl rfl rfl ?_
    obtain ⟨r28, I28, hI28, H⟩ := H
    refine ⟨r28, I28, hI28, ?_⟩
    refine w_putI (n := 34) rfl rfl rfl rfl rfl ?_
    refine w_aload_nR (x := 58) (n := 35) rfl rfl rfl ?_
    refine w_aload_nR (x := 58) (n := 36) rfl rfl rfl ?_
    refine w_getI (n := 39) rfl rfl rfl rfl ?_
    refine w_calli (as := [.ref 58, .int r28]) (rest := []) (n := 42) rfl rfl rfl rfl ?_
    obtain ⟨r39, I39, hI39, H⟩ := H
    refine ⟨r39, I39, hI39, ?_⟩
    refine w_istore_n (ls' := [some (.ref 58), some (.int x1), some (.int r39), none]) (n := 43) rfl rfl rfl rfl ?_
    refine w_iconst (v := 4) (n := 44) rfl rfl rfl ?_
    refine w_aload_nR (x := 58) (n := 45) rfl rfl rfl ?_
    refine w_getI (n := 48) rfl rfl rfl rfl ?_
    refine w_aload_nR (x := 58) (n := 49) rfl rfl rfl ?_
    refine w_getI (n := 52) rfl rfl rfl rfl ?_
    refine w_imul (n := 53) rfl rfl ?_
    refine w_iadd (n := 54) rfl rfl ?_
    refine w_istore_n (ls' := [some (.ref 58), some (.int x1), some (.int r39), some (.int (4 + ((I39 58 18) * (I39 58 19))))]) (n := 55) rfl rfl rfl rfl ?_
    refine w_iload_n (n := 56) rfl rfl rfl ?_
    refine w_iload_n (n := 57) rfl rfl rfl ?_
    refine w_icmp_gt (n := 60) rfl rfl ⟨fun hc => ?_, fun hc => ?_⟩
    · replace H := H.1 hc
      refine w_aload_nR (x := 58) (n := 63) rfl rfl rfl ?_
      refine w_bipush (v := 9) (n := 65) rfl rfl rfl ?_
      refine w_putI (n := 68) rfl rfl rfl rfl rfl ?_
      refine w_aload_nR (x := 58) (n := 69) rfl rfl rfl ?_
      refine w_iconst (v := 0) (n := 70) rfl rfl rfl ?_
      refine w_putI (n := 73) rfl rfl rfl rfl rfl ?_
      refine w_iload_n (n := 74) rfl rfl rfl ?_
      exact w_ireturn rfl rfl H
    · replace H := H.2 hc
      refine w_iload_n (n := 61) rfl rfl rfl ?_
      exact w_ireturn rfl rfl H
  · replace H := H.2 hc
    refine w_aload_nR (x := 58) (n := 13) rfl rfl rfl ?_
    refine w_bipush (v := 8) (n := 15) rfl rfl rfl ?_
    refine w_putI (n := 18) rfl rfl rfl rfl rfl ?_
    refine w_iconst (v := 4) (n := 19) rfl rfl rfl ?_
    refine w_aload_nR (x := 58) (n := 20) rfl rfl rfl ?_
    refine w_getI (n := 23) rfl rfl rfl rfl ?_
    refine w_iadd (n := 24) rfl rfl ?_
    exact w_ireturn rfl rfl H
theorem e_M_laysSorts {P : mm_I → Prop} {I : mm_I} (x1 : Int32) (x2 : Int32)
  (H : mm_W 169 2 [some (.ref 58), some (.int x1), some (.int x2), some (.int 0)] [] I (mm_qv 169 P)) : mm_Mv 169 [.ref 58, .int x1, .int x2] I P := by
  refine mm_Mv_of ?_
  show mm_W 169 0 [some (.ref 58), some (.int x1), some (.int x2), none] [] I (mm_qv 169 P)
  refine w_iconst (v := 0) (n := 1) rfl rfl rfl ?_
  refine w_istore_n (ls' := [some (.ref 58), some (.int x1), some (.int x2), some (.int 0)]) (n := 2) rfl rfl rfl rfl ?_
  exact w_drp mm_Qf_v H (lb_s (lb_s (lb_s (lb_s lb_e))))
theorem c_M_laysSorts_2 {P : mm_I → Prop} {I : mm_I} (x1 : Int32) (x2 : Int32) (x3 : Int32)
  (H : ((if (I 58 4) = 2 then (4 : Int32) else 1) ≤ x3 →
      P I) ∧
    (x3 < (if (I 58 4) = 2 then (4 : Int32) else 1) →
      mm_Mv 149 [.ref 58, .int x1, .int x3] I (fun I22 =>  -- M.laysRow
      mm_Mi 168 [.ref 58, .int x2] I22 (fun r32 I32 =>  -- M.rowCosts
      vp_in x3 4 ∧
      mm_W 169 2 [some (.ref 58), some (.int x1), some (.int x2), some (.int (x3 + 1))] [] (mm_up I32 77 x3.toNatClampNeg r32) (mm_qv 169 P))))) : mm_W 169 2 [some (.ref 58), some (.int x1), some (.int x2), some (.int x3)] [] I (mm_qv 169 P) := by
  refine w_iload_n (n := 3) rfl rfl rfl ?_
  refine w_aload_nR (x := 58) (n := 4) rfl rfl rfl ?_
  refine w_getI (n := 7) rfl rfl rfl rfl ?_
  refine w_iconst (v := 2) (n := 8) rfl rfl rfl ?_
  have J8 : ∀ (w8_1 : Int32), w8_1 = (if (I 58 4) = 2 then (4 : Int32) else 1) → mm_W 169 16 [some (.ref 58), some (.int x1), some (.int x2), some (.int x3)] [.int w8_1, .int x3] I (mm_qv 169 P) := by
    intro w8_1 e8_0
    subst e8_0
    refine w_icmp_ge (n := 19) rfl rfl ⟨fun hc => ?_, fun hc => ?_⟩
    · replace H := H.1 hc
      exact w_vreturn rfl rfl H
    · replace H := H.2 hc
      refine w_aload_nR (x := 58) (n := 20) rfl rfl rfl ?_
      refine w_iload_n (n := 21) rfl rfl rfl ?_
      refine w_iload_n (n := 22) rfl rfl rfl ?_
      refine w_callv (as := [.ref 58, .int x1, .int x3]) (rest := []) (n := 25) rfl rfl rfl rfl ?_
      obtain ⟨I22, hI22, H⟩ := H
      refine ⟨I22, hI22, ?_⟩
      refine w_aload_nR (x := 58) (n := 26) rfl rfl rfl ?_
      refine w_getR (b := 77) (n := 29) rfl rfl rfl rfl rfl ?_
      refine w_iload_n (n := 30) rfl rfl rfl ?_
      refine w_aload_nR (x := 58) (n := 31) rfl rfl rfl ?_
      refine w_iload_n (n := 32) rfl rfl rfl ?_
      refine w_calli (as := [.ref 58, .int x2]) (rest := [.int x3, .ref 77]) (n := 35) rfl rfl rfl rfl ?_
      obtain ⟨r32, I32, hI32, H⟩ := H
      refine ⟨r32, I32, hI32, ?_⟩
      refine w_iastore (N := 4) (j := x3.toNatClampNeg) (n := 36) rfl rfl rfl rfl rfl ⟨H.1, ?_⟩
      replace H := H.2
      refine w_iinc (y := x3 + 1) (ls' := [some (.ref 58), some (.int x1), some (.int x2), some (.int (x3 + 1))]) (n := 39) rfl rfl rfl rfl rfl ?_
      refine w_goto rfl ?_
      exact w_drp mm_Qf_v H (lb_s (lb_s (lb_s (lb_s lb_e))))
  refine w_icmp_ne (n := 11) rfl rfl ⟨fun hc => ?_, fun hc => ?_⟩
  · refine w_iconst (v := 1) (n := 16) rfl rfl rfl ?_
    refine w_drp mm_Qf_v (J8 _ ?_) (lb_s (lb_s (lb_s (lb_s lb_e))))
    · exact (if_neg hc).symm
  · refine w_iconst (v := 4) (n := 12) rfl rfl rfl ?_
    refine w_goto rfl ?_
    refine w_drp mm_Qf_v (J8 _ ?_) (lb_s (lb_s (lb_s (lb_s lb_e))))
    · exact (if_pos hc).symm
theorem e_M_joinedBits {P : Int32 → mm_I → Prop} {I : mm_I} (x1 : Int32)
  (H : mm_Mi 150 [.int x1, .int 0] I (fun r6 I6 =>  -- M.sortOf
    vp_in r6 4 ∧
    (¬ (I6 58 4) = 2 →
      P ((I6 77 r6.toNatClampNeg) + 0) I6) ∧
    ((I6 58 4) = 2 →
      mm_Mi 150 [.int x1, .int 1] I6 (fun r24 I24 =>  -- M.sortOf
      vp_in r24 4 ∧
      P ((I6 77 r6.toNatClampNeg) + (I24 77 r24.toNatClampNeg)) I24)))) : mm_Mi 170 [.ref 58, .int x1] I P := by
  refine mm_Mi_of ?_
  show mm_W 170 0 [some (.ref 58), some (.int x1)] [] I (mm_qi 170 P)
  refine w_aload_nR (x := 58) (n := 1) rfl rfl rfl ?_
  refine w_getR (b := 77) (n := 4) rfl rfl rfl rfl rfl ?_
  refine w_iload_n (n := 5) rfl rfl rfl ?_
  refine w_iconst (v := 0) (n := 6) rfl rfl rfl ?_
  refine w_calli (as := [.int x1, .int 0]) (rest := [.ref 77]) (n := 9) rfl rfl rfl rfl ?_
  obtain ⟨r6, I6, hI6, H⟩ := H
  refine ⟨r6, I6, hI6, ?_⟩
  refine w_iaload (N := 4) (j := r6.toNatClampNeg) (n := 10) rfl rfl rfl rfl rfl rfl ⟨H.1, ?_⟩
  replace H := H.2
  refine w_aload_nR (x := 58) (n := 11) rfl rfl rfl ?_
  refine w_getI (n := 14) rfl rfl rfl rfl ?_
  refine w_iconst (v := 2) (n := 15) rfl rfl rfl ?_
  refine w_icmp_ne (n := 18) rfl rfl ⟨fun hc => ?_, fun hc => ?_⟩
  · replace H := H.1 hc
    refine w_iconst (v := 0) (n := 32) rfl rfl rfl ?_
    refine w_iadd (n := 33) rfl rfl ?_
    exact w_ireturn rfl rfl H
  · replace H := H.2 hc
    refine w_aload_nR (x := 58) (n := 19) rfl rfl rfl ?_
    refine w_getR (b := 77) (n := 22) rfl rfl rfl rfl rfl ?_
    refine w_iload_n (n := 23) rfl rfl rfl ?_
    refine w_iconst (v := 1) (n := 24) rfl rfl rfl ?_
    refine w_calli (as := [.int x1, .int 1]) (rest := [.ref 77, .int (I6 77 r6.toNatClampNeg)]) (n := 27) rfl rfl rfl rfl ?_
    obtain ⟨r24, I24, hI24, H⟩ := H
    refine ⟨r24, I24, hI24, ?_⟩
    refine w_iaload (N := 4) (j := r24.toNatClampNeg) (n := 28) rfl rfl rfl rfl rfl rfl ⟨H.1, ?_⟩
    replace H := H.2
    refine w_goto rfl ?_
    refine w_iadd (n := 33) rfl rfl ?_
    exact w_ireturn rfl rfl H
theorem e_M_joinNow {P : Int32 → mm_I → Prop} {I : mm_I}
  (H : mm_W 171 4 [some (.ref 58), some (.int 0), some (.int 1)] [] I (mm_qi 171 P)) : mm_Mi 171 [.ref 58] I P := by
  refine mm_Mi_of ?_
  show mm_W 171 0 [some (.ref 58), none, none] [] I (mm_qi 171 P)
  refine w_iconst (v := 0) (n := 1) rfl rfl rfl ?_
  refine w_istore_n (ls' := [some (.ref 58), some (.int 0), none]) (n := 2) rfl rfl rfl rfl ?_
  refine w_iconst (v := 1) (n := 3) rfl rfl rfl ?_
  refine w_istore_n (ls' := [some (.ref 58), some (.int 0), some (.int 1)]) (n := 4) rfl rfl rfl rfl ?_
  exact w_drp mm_Qf_i H (lb_s (lb_s (lb_s lb_e)))
theorem c_M_joinNow_4 {P : Int32 → mm_I → Prop} {I : mm_I} (x1 : Int32) (x2 : Int32)
  (H : (4 ≤ x2 →
      P x1 I) ∧
    (x2 < 4 →
      (¬ (I 58 4) = 2 →
        P x1 I) ∧
      ((I 58 4) = 2 →
        mm_Mi 170 [.ref 58, .int x2] I (fun r19 I19 =>  -- M.joinedBits
        mm_Mi 170 [.ref 58, .int x1] I19 (fun r24 I24 =>  -- M.joinedBits
        mm_W 171 4 [some (.ref 58), some (.int (if r24 ≤ r19 then (x1 : Int32) else x2)), some (.int (x2 + 1))] [] I24 (mm_qi 171 P)))))) : mm_W 171 4 [some (.ref 58), some (.int x1), some (.int x2)] [] I (mm_qi 171 P) := by
  refine w_iload_n (n := 5) rfl rfl rfl ?_
  refine w_iconst (v := 4) (n := 6) rfl rfl rfl ?_
  refine w_icmp_ge (n := 9) rfl rfl ⟨fun hc => ?_, fun hc => ?_⟩
  · replace H := H.1 hc
    refine w_iload_n (n := 39) rfl rfl rfl ?_
    exact w_ireturn rfl rfl H
  · replace H := H.2 hc
    refine w_aload_nR (x := 58) (n := 10) rfl rfl rfl ?_
    refine w_getI (n := 13) rfl rfl rfl rfl ?_
    refine w_iconst (v := 2) (n := 14) rfl rfl rfl ?_
    refine w_icmp_ne (n := 17) rfl rfl ⟨fun hc => ?_, fun hc => ?_⟩
    · replace H := H.1 hc
      refine w_iload_n (n := 39) rfl rfl rfl ?_
      exact w_ireturn rfl rfl H
    · replace H := H.2 hc
      refine w_aload_nR (x := 58) (n := 18) rfl rfl rfl ?_
      refine w_iload_n (n := 19) rfl rfl rfl ?_
      refine w_calli (as := [.ref 58, .int x2]) (rest := []) (n := 22) rfl rfl rfl rfl ?_
      obtain ⟨r19, I19, hI19, H⟩ := H
      refine ⟨r19, I19, hI19, ?_⟩
      refine w_aload_nR (x := 58) (n := 23) rfl rfl rfl ?_
      refine w_iload_n (n := 24) rfl rfl rfl ?_
      refine w_calli (as := [.ref 58, .int x1]) (rest := [.int r19]) (n := 27) rfl rfl rfl rfl ?_
      obtain ⟨r24, I24, hI24, H⟩ := H
      refine ⟨r24, I24, hI24, ?_⟩
      have J27 : ∀ (y27_1 : Int32), y27_1 = (if r24 ≤ r19 then (x1 : Int32) else x2) → mm_W 171 32 [some (.ref 58), some (.int y27_1), some (.int x2)] [] I24 (mm_qi 171 P) := by
        intro y27_1 e27_0
        subst e27_0
        refine w_iinc (y := x2 + 1) (ls' := [some (.ref 58), some (.int (if r24 ≤ r19 then (x1 : Int32) else x2)), some (.int (x2 + 1))]) (n := 35) rfl rfl rfl rfl rfl ?_
        refine w_goto rfl ?_
        exact w_drp mm_Qf_i H (lb_s (lb_s (lb_s lb_e)))
      refine w_icmp_ge (n := 30) rfl rfl ⟨fun hc => ?_, fun hc => ?_⟩
      · refine w_drp mm_Qf_i (J27 _ ?_) (lb_s (lb_s (lb_s lb_e)))
        · exact (if_pos hc).symm
      · refine w_iload_n (n := 31) rfl rfl rfl ?_
        refine w_istore_n (ls' := [some (.ref 58), some (.int x2), some (.int x2)]) (n := 32) rfl rfl rfl rfl ?_
        refine w_drp mm_Qf_i (J27 _ ?_) (lb_s (lb_s (lb_s lb_e)))
        · exact (if_neg (fa_nle hc)).symm
theorem e_M_joinOf {P : Int32 → mm_I → Prop} {I : mm_I} (x1 : Int32) (x2 : Int32)
  (H : mm_Mv 169 [.ref 58, .int x1, .int x2] I (fun I3 =>  -- M.laysSorts
    mm_Mi 171 [.ref 58] I3 (fun r7 I7 =>  -- M.joinNow
    P r7 I7))) : mm_Mi 172 [.ref 58, .int x1, .int x2] I P := by
  refine mm_Mi_of ?_
  show mm_W 172 0 [some (.ref 58), some (.int x1), some (.int x2)] [] I (mm_qi 172 P)
  refine w_aload_nR (x := 58) (n := 1) rfl rfl rfl ?_
  refine w_iload_n (n := 2) rfl rfl rfl ?_
  refine w_iload_n (n := 3) rfl rfl rfl ?_
  refine w_callv (as := [.ref 58, .int x1, .int x2]) (rest := []) (n := 6) rfl rfl rfl rfl ?_
  obtain ⟨I3, hI3, H⟩ := H
  refine ⟨I3, hI3, ?_⟩
  refine w_aload_nR (x := 58) (n := 7) rfl rfl rfl ?_
  refine w_calli (as := [.ref 58]) (rest := []) (n := 10) rfl rfl rfl rfl ?_
  obtain ⟨r7, I7, hI7, H⟩ := H
  refine ⟨r7, I7, hI7, ?_⟩
  exact w_ireturn rfl rfl H
theorem e_M_join {P : Int32 → mm_I → Prop} {I : mm_I} (x1 : Int32)
  (H : mm_Mi 148 [.ref 58, .int x1] (mm_up I 58 16 0) (fun r7 I7 =>  -- M.isFrameThere
    (r7 = 0 →
      P (-1) I7) ∧
    (¬ r7 = 0 →
      mm_Mi 172 [.ref 58, .int x1, .int (I7 58 8)] I7 (fun r19 I19 =>  -- M.joinOf
      P r19 I19)))) : mm_Mi 173 [.ref 58, .int x1] I P := by
  refine mm_Mi_of ?_
  show mm_W 173 0 [some (.ref 58), some (.int x1)] [] I (mm_qi 173 P)
  refine w_aload_nR (x := 58) (n := 1) rfl rfl rfl ?_
  refine w_iconst (v := 0) (n := 2) rfl rfl rfl ?_
  refine w_putI (n := 5) rfl rfl rfl rfl rfl ?_
  refine w_aload_nR (x := 58) (n := 6) rfl rfl rfl ?_
  refine w_iload_n (n := 7) rfl rfl rfl ?_
  refine w_calli (as := [.ref 58, .int x1]) (rest := []) (n := 10) rfl rfl rfl rfl ?_
  obtain ⟨r7, I7, hI7, H⟩ := H
  refine ⟨r7, I7, hI7, ?_⟩
  refine w_if_eq (n := 13) rfl rfl ⟨fun hc => ?_, fun hc => ?_⟩
  · replace H := H.1 hc
    refine w_iconst (v := (-1)) (n := 26) rfl rfl rfl ?_
    exact w_ireturn rfl rfl H
  · replace H := H.2 hc
    refine w_aload_nR (x := 58) (n := 14) rfl rfl rfl ?_
    refine w_iload_n (n := 15) rfl rfl rfl ?_
    refine w_aload_nR (x := 58) (n := 16) rfl rfl rfl ?_
    refine w_getI (n := 19) rfl rfl rfl rfl ?_
    refine w_calli (as := [.ref 58, .int x1, .int (I7 58 8)]) (rest := []) (n := 22) rfl rfl rfl rfl ?_
    obtain ⟨r19, I19, hI19, H⟩ := H
    refine ⟨r19, I19, hI19, ?_⟩
    refine w_goto rfl ?_
    exact w_ireturn rfl rfl H
