theorem e_M_take {P : Int32 → mm_I → Prop} {I : mm_I} (x1 : Int32)
  (H : mm_Mi 125 [.int x1, .int 0, .int ((I 58 15) - 1)] (mm_up I 58 16 0) (fun r13 I13 =>  -- M.within
    (¬ r13 = 0 →
      vp_in x1 4000 ∧
      mm_W 197 32 [some (.ref 58), none, some (.int (I13 66 x1.toNatClampNeg)), some (.int (x1 + 1))] [] I13 (mm_qi 197 P)) ∧
    (r13 = 0 →
      P (-1) I13))) : mm_Mi 197 [.ref 58, .int x1] I P := by
  refine mm_Mi_of ?_
  show mm_W 197 0 [some (.ref 58), some (.int x1), none, none] [] I (mm_qi 197 P)
  refine w_aload_nR (x := 58) (n := 1) rfl rfl rfl ?_
  refine w_iconst (v := 0) (n := 2) rfl rfl rfl ?_
  refine w_putI (n := 5) rfl rfl rfl rfl rfl ?_
  refine w_iload_n (n := 6) rfl rfl rfl ?_
  refine w_iconst (v := 0) (n := 7) rfl rfl rfl ?_
  refine w_aload_nR (x := 58) (n := 8) rfl rfl rfl ?_
  refine w_getI (n := 11) rfl rfl rfl rfl ?_
  refine w_iconst (v := 1) (n := 12) rfl rfl rfl ?_
  refine w_isub (n := 13) rfl rfl ?_
  refine w_calli (as := [.int x1, .int 0, .int ((I 58 15) - 1)]) (rest := []) (n := 16) rfl rfl rfl rfl ?_
  obtain ⟨r13, I13, hI13, H⟩ := H
  refine ⟨r13, I13, hI13, ?_⟩
  refine w_if_ne (n := 19) rfl rfl ⟨fun hc => ?_, fun hc => ?_⟩
  · replace H := H.1 hc
    refine w_aload_nR (x := 58) (n := 22) rfl rfl rfl ?_
    refine w_getR (b := 66) (n := 25) rfl rfl rfl rfl rfl ?_
    refine w_iload_n (n := 26) rfl rfl rfl ?_
    refine w_iaload (N := 4000) (j := x1.toNatClampNeg) (n := 27) rfl rfl rfl rfl rfl rfl ⟨H.1, ?_⟩
    replace H := H.2
    refine w_istore_n (ls' := [some (.ref 58), some (.int x1), some (.int (I13 66 x1.toNatClampNeg)), none]) (n := 28) rfl rfl rfl rfl ?_
    refine w_iload_n (n := 29) rfl rfl rfl ?_
    refine w_iconst (v := 1) (n := 30) rfl rfl rfl ?_
    refine w_iadd (n := 31) rfl rfl ?_
    refine w_istore_n (ls' := [some (.ref 58), some (.int x1), some (.int (I13 66 x1.toNatClampNeg)), some (.int (x1 + 1))]) (n := 32) rfl rfl rfl rfl ?_
    exact w_drp mm_Qf_i H (lb_s (lb_n (lb_s (lb_s lb_e))))
  · replace H := H.2 hc
    refine w_iconst (v := (-1)) (n := 20) rfl rfl rfl ?_
    exact w_ireturn rfl rfl H
theorem c_M_take_32 {P : Int32 → mm_I → Prop} {I : mm_I} (x2 : Int32) (x3 : Int32)
  (H : ((I 58 15) ≤ x3 →
      P x2 (mm_up I 58 15 ((I 58 15) - 1))) ∧
    (x3 < (I 58 15) →
      vp_in x3 4000 ∧
      vp_in (x3 - 1) 4000 ∧
      mm_W 197 32 [some (.ref 58), none, some (.int x2), some (.int (x3 + 1))] [] (mm_up I 66 ((x3 - 1).toNatClampNeg) (I 66 x3.toNatClampNeg)) (mm_qi 197 P))) : mm_W 197 32 [some (.ref 58), none, some (.int x2), some (.int x3)] [] I (mm_qi 197 P) := by
  refine w_iload_n (n := 33) rfl rfl rfl ?_
  refine w_aload_nR (x := 58) (n := 34) rfl rfl rfl ?_
  refine w_getI (n := 37) rfl rfl rfl rfl ?_
  refine w_icmp_ge (n := 40) rfl rfl ⟨fun hc => ?_, fun hc => ?_⟩
  · replace H := H.1 hc
    refine w_aload_nR (x := 58) (n := 61) rfl rfl rfl ?_
    refine w_dup (n := 62) rfl rfl rfl ?_
    refine w_getI (n := 65) rfl rfl rfl rfl ?_
    refine w_iconst (v := 1) (n := 66) rfl rfl rfl ?_
    refine w_isub (n := 67) rfl rfl ?_
    refine w_putI (n := 70) rfl rfl rfl rfl rfl ?_
    refine w_iload_n (n := 71) rfl rfl rfl ?_
    exact w_ireturn rfl rfl H
  · replace H := H.2 hc
    refine w_aload_nR (x := 58) (n := 41) rfl rfl rfl ?_
    refine w_getR (b := 66) (n := 44) rfl rfl rfl rfl rfl ?_
    refine w_iload_n (n := 45) rfl rfl rfl ?_
    refine w_iconst (v := 1) (n := 46) rfl rfl rfl ?_
    refine w_isub (n := 47) rfl rfl ?_
    refine w_aload_nR (x := 58) (n := 48) rfl rfl rfl ?_
    refine w_getR (b := 66) (n := 51) rfl rfl rfl rfl rfl ?_
    refine w_iload_n (n := 52) rfl rfl rfl ?_
    refine w_iaload (N := 4000) (j := x3.toNatClampNeg) (n := 53) rfl rfl rfl rfl rfl rfl ⟨H.1, ?_⟩
    replace H := H.2
    refine w_iastore (N := 4000) (j := (x3 - 1).toNatClampNeg) (n := 54) rfl rfl rfl rfl rfl ⟨H.1, ?_⟩
    replace H := H.2
    refine w_iinc (y := x3 + 1) (ls' := [some (.ref 58), none, some (.int x2), some (.int (x3 + 1))]) (n := 57) rfl rfl rfl rfl rfl ?_
    refine w_goto rfl ?_
    exact w_drp mm_Qf_i H (lb_s (lb_n (lb_s (lb_s lb_e))))
theorem e_M_headNow {P : Int32 → mm_I → Prop} {I : mm_I}
  (H : (21 ≤ (I 58 15) →
      (¬ (I 66 0) = 83 →
        P 2 I) ∧
      ((I 66 0) = 83 →
        ((I 66 1) = 80 →
          mm_Mi 125 [.int (I 66 2), .int 1, .int 2] (mm_up (mm_up (mm_up (mm_up I 58 35 (I 66 2)) 58 36 (I 66 3)) 58 37 (I 66 4)) 58 38 ((256 * (I 66 5)) + (I 66 6))) (fun r93 I93 =>  -- M.within
          (r93 = 0 →
            mm_W 198 145 [some (.ref 58), some (.int 0), some (.int 0), none] [] I93 (mm_qi 198 P)) ∧
          (¬ r93 = 0 →
            ((I93 58 36) = 8 →
              mm_Mi 127 [.int (I93 58 37)] I93 (fun r121 I121 =>  -- M.isFrame
              mm_W 198 145 [some (.ref 58), some (.int (if r121 = 0 then (0 : Int32) else (if 256 < (I121 58 38) then (0 : Int32) else 1))), some (.int 0), none] [] I121 (mm_qi 198 P))) ∧
            (¬ (I93 58 36) = 8 →
              (¬ (I93 58 36) = 16 →
                mm_W 198 145 [some (.ref 58), some (.int 0), some (.int 0), none] [] I93 (mm_qi 198 P)) ∧
              ((I93 58 36) = 16 →
                mm_Mi 127 [.int (I93 58 37)] I93 (fun r121 I121 =>  -- M.isFrame
                mm_W 198 145 [some (.ref 58), some (.int (if r121 = 0 then (0 : Int32) else (if 256 < (I121 58 38) then (0 : Int32) else 1))), some (.int 0), none] [] I121 (mm_qi 198 P))))))) ∧
        (¬ (I 66 1) = 80 →
          P 2 I))) ∧
    ((I 58 15) < 21 →
      P 1 I)) : mm_Mi 198 [.ref 58] I P := by
  refine mm_Mi_of ?_
  show mm_W 198 0 [some (.ref 58), none, none, none] [] I (mm_qi 198 P)
  refine w_aload_nR (x := 58) (n := 1) rfl rfl rfl ?_
  refine w_getI (n := 4) rfl rfl rfl rfl ?_
  refine w_bipush (v := 21) (n := 6) rfl rfl rfl ?_
  refine w_icmp_ge (n := 9) rfl rfl ⟨fun hc => ?_, fun hc => ?_⟩
  · replace H := H.1 hc
    refine w_aload_nR (x := 58) (n := 12) rfl rfl rfl ?_
    refine w_getR (b := 66) (n := 15) rfl rfl rfl rfl rfl ?_
    refine w_iconst (v := 0) (n := 16) rfl rfl rfl ?_
    refine w_iaload (N := 4000) (j := 0) (n := 17) rfl rfl rfl rfl (by decide) rfl ⟨mm_vpc (by decide), ?_⟩
    refine w_bipush (v := 83) (n := 19) rfl rfl rfl ?_
    refine w_icmp_ne (n := 22) rfl rfl ⟨fun hc => ?_, fun hc => ?_⟩
    · replace H := H.1 hc
      refine w_iconst (v := 2) (n := 34) rfl rfl rfl ?_
      exact w_ireturn rfl rfl H
    · replace H := H.2 hc
      refine w_aload_nR (x := 58) (n := 23) rfl rfl rfl ?_
      refine w_getR (b := 66) (n := 26) rfl rfl rfl rfl rfl ?_
      refine w_iconst (v := 1) (n := 27) rfl rfl rfl ?_
      refine w_iaload (N := 4000) (j := 1) (n := 28) rfl rfl rfl rfl (by decide) rfl ⟨mm_vpc (by decide), ?_⟩
      refine w_bipush (v := 80) (n := 30) rfl rfl rfl ?_
      refine w_icmp_eq (n := 33) rfl rfl ⟨fun hc => ?_, fun hc => ?_⟩
      · replace H := H.1 hc
        refine w_aload_nR (x := 58) (n := 36) rfl rfl rfl ?_
        refine w_aload_nR (x := 58) (n := 37) rfl rfl rfl ?_
        refine w_getR (b := 66) (n := 40) rfl rfl rfl rfl rfl ?_
        refine w_iconst (v := 2) (n := 41) rfl rfl rfl ?_
        refine w_iaload (N := 4000) (j := 2) (n := 42) rfl rfl rfl rfl (by decide) rfl ⟨mm_vpc (by decide), ?_⟩
        refine w_putI (n := 45) rfl rfl rfl rfl rfl ?_
        refine w_aload_nR (x := 58) (n := 46) rfl rfl rfl ?_
        refine w_aload_nR (x := 58) (n := 47) rfl rfl rfl ?_
        refine w_getR (b := 66) (n := 50) rfl rfl rfl rfl rfl ?_
        refine w_iconst (v := 3) (n := 51) rfl rfl rfl ?_
        refine w_iaload (N := 4000) (j := 3) (n := 52) rfl rfl rfl rfl (by decide) rfl ⟨mm_vpc (by decide), ?_⟩
        refine w_putI (n := 55) rfl rfl rfl rfl rfl ?_
        refine w_aload_nR (x := 58) (n := 56) rfl rfl rfl ?_
        refine w_aload_nR (x := 58) (n := 57) rfl rfl rfl ?_
        refine w_getR (b := 66) (n := 60) rfl rfl rfl rfl rfl ?_
        refine w_iconst (v := 4) (n := 61) rfl rfl rfl ?_
        refine w_iaload (N := 4000) (j := 4) (n := 62) rfl rfl rfl rfl (by decide) rfl ⟨mm_vpc (by decide), ?_⟩
        refine w_putI (n := 65) rfl rfl rfl rfl rfl ?_
        refine w_aload_nR (x := 58) (n := 66) rfl rfl rfl ?_
        refine w_sipush (v := 256) (n := 69) rfl rfl rfl ?_
        refine w_aload_nR (x := 58) (n := 70) rfl rfl rfl ?_
        refine w_getR (b := 66) (n := 73) rfl rfl rfl rfl rfl ?_
        refine w_iconst (v := 5) (n := 74) rfl rfl rfl ?_
        refine w_iaload (N := 4000) (j := 5) (n := 75) rfl rfl rfl rfl (by decide) rfl ⟨mm_vpc (by decide), ?_⟩
        refine w_imul (n := 76) rfl rfl ?_
        refine w_aload_nR (x := 58) (n := 77) rfl rfl rfl ?_
        refine w_getR (b := 66) (n := 80) rfl rfl rfl rfl rfl ?_
        refine w_bipush (v := 6) (n := 82) rfl rfl rfl ?_
        refine w_iaload (N := 4000) (j := 6) (n := 83) rfl rfl rfl rfl (by decide) rfl ⟨mm_vpc (by decide), ?_⟩
        refine w_iadd (n := 84) rfl rfl ?_
        refine w_putI (n := 87) rfl rfl rfl rfl rfl ?_
        refine w_aload_nR (x := 58) (n := 88) rfl rfl rfl ?_
        refine w_getI (n := 91) rfl rfl rfl rfl ?_
        refine w_iconst (v := 1) (n := 92) rfl rfl rfl ?_
        refine w_iconst (v := 2) (n := 93) rfl rfl rfl ?_
        refine w_calli (as := [.int (I 66 2), .int 1, .int 2]) (rest := []) (n := 96) rfl rfl rfl rfl ?_
        obtain ⟨r93, I93, hI93, H⟩ := H
        refine ⟨r93, I93, hI93, ?_⟩
        refine w_if_eq (n := 99) rfl rfl ⟨fun hc => ?_, fun hc => ?_⟩
        · replace H := H.1 hc
          refine w_iconst (v := 0) (n := 142) rfl rfl rfl ?_
          refine w_istore_n (ls' := [some (.ref 58), some (.int 0), none, none]) (n := 143) rfl rfl rfl rfl ?_
          refine w_iconst (v := 0) (n := 144) rfl rfl rfl ?_
          refine w_istore_n (ls' := [some (.ref 58), some (.int 0), some (.int 0), none]) (n := 145) rfl rfl rfl rfl ?_
          exact w_drp mm_Qf_i H (lb_s (lb_s (lb_s (lb_n lb_e))))
        · replace H := H.2 hc
          refine w_aload_nR (x := 58) (n := 100) rfl rfl rfl ?_
          refine w_getI (n := 103) rfl rfl rfl rfl ?_
          refine w_bipush (v := 8) (n := 105) rfl rfl rfl ?_
          refine w_icmp_eq (n := 108) rfl rfl ⟨fun hc => ?_, fun hc => ?_⟩
          · replace H := H.1 hc
            refine w_aload_nR (x := 58) (n := 118) rfl rfl rfl ?_
            refine w_getI (n := 121) rfl rfl rfl rfl ?_
            refine w_calli (as := [.int (I93 58 37)]) (rest := []) (n := 124) rfl rfl rfl rfl ?_
            obtain ⟨r121, I121, hI121, H⟩ := H
            refine ⟨r121, I121, hI121, ?_⟩
            have J124 : ∀ (w124_0 : Int32), w124_0 = (if r121 = 0 then (0 : Int32) else (if 256 < (I121 58 38) then (0 : Int32) else 1)) → mm_W 198 142 [some (.ref 58), none, none, none] [.int w124_0] I121 (mm_qi 198 P) := by
              intro w124_0 e124_0
              subst e124_0
              refine w_istore_n (ls' := [some (.ref 58), some (.int (if r121 = 0 then (0 : Int32) else (if 256 < (I121 58 38) then (0 : Int32) else 1))), none, none]) (n := 143) rfl rfl rfl rfl ?_
              refine w_iconst (v := 0) (n := 144) rfl rfl rfl ?_
              refine w_istore_n (ls' := [some (.ref 58), some (.int (if r121 = 0 then (0 : Int32) else (if 256 < (I121 58 38) then (0 : Int32) else 1))), some (.int 0), none]) (n := 145) rfl rfl rfl rfl ?_
              exact w_drp mm_Qf_i H (lb_s (lb_s (lb_s (lb_n lb_e))))
            refine w_if_eq (n := 127) rfl rfl ⟨fun hc => ?_, fun hc => ?_⟩
            · refine w_iconst (v := 0) (n := 142) rfl rfl rfl ?_
              refine w_drp mm_Qf_i (J124 _ ?_) (lb_s (lb_n (lb_n (lb_n lb_e))))
              · exact (if_pos hc).symm
            · refine w_aload_nR (x := 58) (n := 128) rfl rfl rfl ?_
              refine w_getI (n := 131) rfl rfl rfl rfl ?_
              refine w_sipush (v := 256) (n := 134) rfl rfl rfl ?_
              have J134 : ∀ (w134_0 : Int32), w134_0 = (if 256 < (I121 58 38) then (0 : Int32) else 1) → mm_W 198 142 [some (.ref 58), none, none, none] [.int w134_0] I121 (mm_qi 198 P) := by
                intro w134_0 e134_0
                subst e134_0
                refine w_drp mm_Qf_i (J124 _ ?_) (lb_s (lb_n (lb_n (lb_n lb_e))))
                · exact (if_neg hc).symm
              refine w_icmp_gt (n := 137) rfl rfl ⟨fun hc => ?_, fun hc => ?_⟩
              · refine w_iconst (v := 0) (n := 142) rfl rfl rfl ?_
                refine w_drp mm_Qf_i (J134 _ ?_) (lb_s (lb_n (lb_n (lb_n lb_e))))
                · exact (if_pos hc).symm
              · refine w_iconst (v := 1) (n := 138) rfl rfl rfl ?_
                refine w_goto rfl ?_
                refine w_drp mm_Qf_i (J134 _ ?_) (lb_s (lb_n (lb_n (lb_n lb_e))))
                · exact (if_neg (fa_nlt hc)).symm
          · replace H := H.2 hc
            refine w_aload_nR (x := 58) (n := 109) rfl rfl rfl ?_
            refine w_getI (n := 112) rfl rfl rfl rfl ?_
            refine w_bipush (v := 16) (n := 114) rfl rfl rfl ?_
            refine w_icmp_ne (n := 117) rfl rfl ⟨fun hc => ?_, fun hc => ?_⟩
            · replace H := H.1 hc
              refine w_iconst (v := 0) (n := 142) rfl rfl rfl ?_
              refine w_istore_n (ls' := [some (.ref 58), some (.int 0), none, none]) (n := 143) rfl rfl rfl rfl ?_
              refine w_iconst (v := 0) (n := 144) rfl rfl rfl ?_
              refine w_istore_n (ls' := [some (.ref 58), some (.int 0), some (.int 0), none]) (n := 145) rfl rfl rfl rfl ?_
              exact w_drp mm_Qf_i H (lb_s (lb_s (lb_s (lb_n lb_e))))
            · replace H := H.2 hc
              refine w_aload_nR (x := 58) (n := 118) rfl rfl rfl ?_
              refine w_getI (n := 121) rfl rfl rfl rfl ?_
              refine w_calli (as := [.int (I93 58 37)]) (rest := []) (n := 124) rfl rfl rfl rfl ?_
              obtain ⟨r121, I121, hI121, H⟩ := H
              refine ⟨r121, I121, hI121, ?_⟩
              have J124 : ∀ (w124_0 : Int32), w124_0 = (if r121 = 0 then (0 : Int32) else (if 256 < (I121 58 38) then (0 : Int32) else 1)) → mm_W 198 142 [some (.ref 58), none, none, none] [.int w124_0] I121 (mm_qi 198 P) := by
                intro w124_0 e124_0
                subst e124_0
                refine w_istore_n (ls' := [some (.ref 58), some (.int (if r121 = 0 then (0 : Int32) else (if 256 < (I121 58 38) then (0 : Int32) else 1))), none, none]) (n := 143) rfl rfl rfl rfl ?_
                refine w_iconst (v := 0) (n := 144) rfl rfl rfl ?_
                refine w_istore_n (ls' := [some (.ref 58), some (.int (if r121 = 0 then (0 : Int32) else (if 256 < (I121 58 38) then (0 : Int32) else 1))), some (.int 0), none]) (n := 145) rfl rfl rfl rfl ?_
                exact w_drp mm_Qf_i H (lb_s (lb_s (lb_s (lb_n lb_e))))
              refine w_if_eq (n := 127) rfl rfl ⟨fun hc => ?_, fun hc => ?_⟩
              · refine w_iconst (v := 0) (n := 142) rfl rfl rfl ?_
                refine w_drp mm_Qf_i (J124 _ ?_) (lb_s (lb_n (lb_n (lb_n lb_e))))
                · exact (if_pos hc).symm
              · refine w_aload_nR (x := 58) (n := 128) rfl rfl rfl ?_
                refine w_getI (n := 131) rfl rfl rfl rfl ?_
                refine w_sipush (v := 256) (n := 134) rfl rfl rfl ?_
                have J134 : ∀ (w134_0 : Int32), w134_0 = (if 256 < (I121 58 38) then (0 : Int32) else 1) → mm_W 198 142 [some (.ref 58), none, none, none] [.int w134_0] I121 (mm_qi 198 P) := by
                  intro w134_0 e134_0
                  subst e134_0
                  refine w_drp mm_Qf_i (J124 _ ?_) (lb_s (lb_n (lb_n (lb_n lb_e))))
                  · exact (if_neg hc).symm
                refine w_icmp_gt (n := 137) rfl rfl ⟨fun hc => ?_, fun hc => ?_⟩
                · refine w_iconst (v := 0) (n := 142) rfl rfl rfl ?_
                  refine w_drp mm_Qf_i (J134 _ ?_) (lb_s (lb_n (lb_n (lb_n lb_e))))
                  · exact (if_pos hc).symm
                · refine w_iconst (v := 1) (n := 138) rfl rfl rfl ?_
                  refine w_goto rfl ?_
                  refine w_drp mm_Qf_i (J134 _ ?_) (lb_s (lb_n (lb_n (lb_n lb_e))))
                  · exact (if_neg (fa_nlt hc)).symm
      · replace H := H.2 hc
        refine w_iconst (v := 2) (n := 34) rfl rfl rfl ?_
        exact w_ireturn rfl rfl H
  · replace H := H.2 hc
    refine w_iconst (v := 1) (n := 10) rfl rfl rfl ?_
    exact w_ireturn rfl rfl H
theorem c_M_headNow_145 {P : Int32 → mm_I → Prop} {I : mm_I} (x1 : Int32) (x2 : Int32)
  (H : (3 ≤ x2 →
      (¬ x1 = 0 →
        mm_Mi 189 [.ref 58, .int 0, .int 19] I (fun r244 I244 =>  -- M.checked
        P (if r244 = ((256 * (I244 66 19)) + (I244 66 20)) then (0 : Int32) else 4) I244)) ∧
      (x1 = 0 →
        P 3 I)) ∧
    (x2 < 3 →
      mm_W 198 152 [some (.ref 58), some (.int x1), some (.int x2), some (.int 0)] [] I (mm_qi 198 P))) : mm_W 198 145 [some (.ref 58), some (.int x1), some (.int x2), none] [] I (mm_qi 198 P) := by
  refine w_iload_n (n := 146) rfl rfl rfl ?_
  refine w_iconst (v := 3) (n := 147) rfl rfl rfl ?_
  refine w_icmp_ge (n := 150) rfl rfl ⟨fun hc => ?_, fun hc => ?_⟩
  · replace H := H.1 hc
    refine w_iload_n (n := 235) rfl rfl rfl ?_
    refine w_if_ne (n := 238) rfl rfl ⟨fun hc => ?_, fun hc => ?_⟩
    · replace H := H.1 hc
      refine w_aload_nR (x := 58) (n := 241) rfl rfl rfl ?_
      refine w_iconst (v := 0) (n := 242) rfl rfl rfl ?_
      refine w_bipush (v := 19) (n := 244) rfl rfl rfl ?_
      refine w_calli (as := [.ref 58, .int 0, .int 19]) (rest := []) (n := 247) rfl rfl rfl rfl ?_
      obtain ⟨r244, I244, hI244, H⟩ := H
      refine ⟨r244, I244, hI244, ?_⟩
      refine w_sipush (v := 256) (n := 250) rfl rfl rfl ?_
      refine w_aload_nR (x := 58) (n := 251) rfl rfl rfl ?_
      refine w_getR (b := 66) (n := 254) rfl rfl rfl rfl rfl ?_
      refine w_bipush (v := 19) (n := 256) rfl rfl rfl ?_
      refine w_iaload (N := 4000) (j := 19) (n := 257) rfl rfl rfl rfl (by decide) rfl ⟨mm_vpc (by decide), ?_⟩
      refine w_imul (n := 258) rfl rfl ?_
      refine w_aload_nR (x := 58) (n := 259) rfl rfl rfl ?_
      refine w_getR (b := 66) (n := 262) rfl rfl rfl rfl rfl ?_
      refine w_bipush (v := 20) (n := 264) rfl rfl rfl ?_
      refine w_iaload (N := 4000) (j := 20) (n := 265) rfl rfl rfl rfl (by decide) rfl ⟨mm_vpc (by decide), ?_⟩
      refine w_iadd (n := 266) rfl rfl ?_
      have J266 : ∀ (w266_0 : Int32), w266_0 = (if r244 = ((256 * (I244 66 19)) + (I244 66 20)) then (0 : Int32) else 4) → mm_W 198 274 [some (.ref 58), some (.int x1), some (.int x2), none] [.int w266_0] I244 (mm_qi 198 P) := by
        intro w266_0 e266_0
        subst e266_0
        exact w_ireturn rfl rfl H
      refine w_icmp_ne (n := 269) rfl rfl ⟨fun hc => ?_, fun hc => ?_⟩
      · refine w_iconst (v := 4) (n := 274) rfl rfl rfl ?_
        refine w_drp mm_Qf_i (J266 _ ?_) (lb_s (lb_s (lb_s (lb_n lb_e))))
        · exact (if_neg hc).symm
      · refine w_iconst (v := 0) (n := 270) rfl rfl rfl ?_
        refine w_goto rfl ?_
        refine w_drp mm_Qf_i (J266 _ ?_) (lb_s (lb_s (lb_s (lb_n lb_e))))
        · exact (if_pos hc).symm
    · replace H := H.2 hc
      refine w_iconst (v := 3) (n := 239) rfl rfl rfl ?_
      exact w_ireturn rfl rfl H
  · replace H := H.2 hc
    refine w_iconst (v := 0) (n := 151) rfl rfl rfl ?_
    refine w_istore_n (ls' := [some (.ref 58), some (.int x1), some (.int x2), some (.int 0)]) (n := 152) rfl rfl rfl rfl ?_
    exact w_drp mm_Qf_i H (lb_s (lb_s (lb_s (lb_s lb_e))))
theorem c_M_headNow_152 {P : Int32 → mm_I → Prop} {I : mm_I} (x1 : Int32) (x2 : Int32) (x3 : Int32)
  (H : (3 ≤ x3 →
      vp_in (10 + (4 * x2)) 4000 ∧
      vp_in x2 3 ∧
      (¬ x1 = 0 →
        vp_in x2 3 ∧
        True) ∧
      mm_W 198 145 [some (.ref 58), some (.int (if x1 = 0 then (0 : Int32) else (if 4 < ((mm_up I 65 x2.toNatClampNeg (I 66 ((10 + (4 * x2)).toNatClampNeg))) 65 x2.toNatClampNeg) then (0 : Int32) else 1))), some (.int (x2 + 1)), none] [] (mm_up I 65 x2.toNatClampNeg (I 66 ((10 + (4 * x2)).toNatClampNeg))) (mm_qi 198 P)) ∧
    (x3 < 3 →
      vp_in ((7 + (4 * x2)) + x3) 4000 ∧
      mm_Mi 131 [.int (I 66 (((7 + (4 * x2)) + x3).toNatClampNeg)), .int 8] I (fun r181 I181 =>  -- M.signed
      vp_in ((3 * x2) + x3) 9 ∧
      mm_W 198 152 [some (.ref 58), some (.int x1), some (.int x2), some (.int (x3 + 1))] [] (mm_up I181 64 (((3 * x2) + x3).toNatClampNeg) r181) (mm_qi 198 P)))) : mm_W 198 152 [some (.ref 58), some (.int x1), some (.int x2), some (.int x3)] [] I (mm_qi 198 P) := by
  refine w_iload_n (n := 153) rfl rfl rfl ?_
  refine w_iconst (v := 3) (n := 154) rfl rfl rfl ?_
  refine w_icmp_ge (n := 157) rfl rfl ⟨fun hc => ?_, fun hc => ?_⟩
  · replace H := H.1 hc
    refine w_aload_nR (x := 58) (n := 192) rfl rfl rfl ?_
    refine w_getR (b := 65) (n := 195) rfl rfl rfl rfl rfl ?_
    refine w_iload_n (n := 196) rfl rfl rfl ?_
    refine w_aload_nR (x := 58) (n := 197) rfl rfl rfl ?_
    refine w_getR (b := 66) (n := 200) rfl rfl rfl rfl rfl ?_
    refine w_bipush (v := 10) (n := 202) rfl rfl rfl ?_
    refine w_iconst (v := 4) (n := 203) rfl rfl rfl ?_
    refine w_iload_n (n := 204) rfl rfl rfl ?_
    refine w_imul (n := 205) rfl rfl ?_
    refine w_iadd (n := 206) rfl rfl ?_
    refine w_iaload (N := 4000) (j := (10 + (4 * x2)).toNatClampNeg) (n := 207) rfl rfl rfl rfl rfl rfl ⟨H.1, ?_⟩
    replace H := H.2
    refine w_iastore (N := 3) (j := x2.toNatClampNeg) (n := 208) rfl rfl rfl rfl rfl ⟨H.1, ?_⟩
    replace H := H.2
    refine w_iload_n (n := 209) rfl rfl rfl ?_
    obtain ⟨K2, H⟩ := H
    have J209 : ∀ (w209_0 : Int32), w209_0 = (if x1 = 0 then (0 : Int32) else (if 4 < ((mm_up I 65 x2.toNatClampNeg (I 66 ((10 + (4 * x2)).toNatClampNeg))) 65 x2.toNatClampNeg) then (0 : Int32) else 1)) → mm_W 198 227 [some (.ref 58), some (.int x1), some (.int x2), some (.int x3)] [.int w209_0] (mm_up I 65 x2.toNatClampNeg (I 66 ((10 + (4 * x2)).toNatClampNeg))) (mm_qi 198 P) := by
      intro w209_0 e209_0
      subst e209_0
      refine w_istore_n (ls' := [some (.ref 58), some (.int (if x1 = 0 then (0 : Int32) else (if 4 < ((mm_up I 65 x2.toNatClampNeg (I 66 ((10 + (4 * x2)).toNatClampNeg))) 65 x2.toNatClampNeg) then (0 : Int32) else 1))), some (.int x2), some (.int x3)]) (n := 228) rfl rfl rfl rfl ?_
      refine w_iinc (y := x2 + 1) (ls' := [some (.ref 58), some (.int (if x1 = 0 then (0 : Int32) else (if 4 < ((mm_up I 65 x2.toNatClampNeg (I 66 ((10 + (4 * x2)).toNatClampNeg))) 65 x2.toNatClampNeg) then (0 : Int32) else 1))), some (.int (x2 + 1)), some (.int x3)]) (n := 231) rfl rfl rfl rfl rfl ?_
      refine w_goto rfl ?_
      exact w_drp mm_Qf_i H (lb_s (lb_s (lb_s (lb_n lb_e))))
    refine w_if_eq (n := 212) rfl rfl ⟨fun hc => ?_, fun hc => ?_⟩
    · refine w_iconst (v := 0) (n := 227) rfl rfl rfl ?_
      refine w_drp mm_Qf_i (J209 _ ?_) (lb_s (lb_s (lb_s (lb_s lb_e))))
      · exact (if_pos hc).symm
    · have H := K2 hc
      refine w_aload_nR (x := 58) (n := 213) rfl rfl rfl ?_
      refine w_getR (b := 65) (n := 216) rfl rfl rfl rfl rfl ?_
      refine w_iload_n (n := 217) rfl rfl rfl ?_
      refine w_iaload (N := 3) (j := x2.toNatClampNeg) (n := 218) rfl rfl rfl rfl rfl rfl ⟨H.1, ?_⟩
      replace H := H.2
      refine w_iconst (v := 4) (n := 219) rfl rfl rfl ?_
      have J219 : ∀ (w219_0 : Int32), w219_0 = (if 4 < ((mm_up I 65 x2.toNatClampNeg (I 66 ((10 + (4 * x2)).toNatClampNeg))) 65 x2.toNatClampNeg) then (0 : Int32) else 1) → mm_W 198 227 [some (.ref 58), some (.int x1), some (.int x2), some (.int x3)] [.int w219_0] (mm_up I 65 x2.toNatClampNeg (I 66 ((10 + (4 * x2)).toNatClampNeg))) (mm_qi 198 P) := by
        intro w219_0 e219_0
        subst e219_0
        refine w_drp mm_Qf_i (J209 _ ?_) (lb_s (lb_s (lb_s (lb_s lb_e))))
        · exact (if_neg hc).symm
      refine w_icmp_gt (n := 222) rfl rfl ⟨fun hc => ?_, fun hc => ?_⟩
      · refine w_iconst (v := 0) (n := 227) rfl rfl rfl ?_
        refine w_drp mm_Qf_i (J219 _ ?_) (lb_s (lb_s (lb_s (lb_s lb_e))))
        · exact (if_pos hc).symm
      · refine w_iconst (v := 1) (n := 223) rfl rfl rfl ?_
        refine w_goto rfl ?_
        refine w_drp mm_Qf_i (J219 _ ?_) (lb_s (lb_s (lb_s (lb_s lb_e))))
        · exact (if_neg (fa_nlt hc)).symm
  · replace H := H.2 hc
    refine w_aload_nR (x := 58) (n := 158) rfl rfl rfl ?_
    refine w_getR (b := 64) (n := 161) rfl rfl rfl rfl rfl ?_
    refine w_iconst (v := 3) (n := 162) rfl rfl rfl ?_
    refine w_iload_n (n := 163) rfl rfl rfl ?_
    refine w_imul (n := 164) rfl rfl ?_
    refine w_iload_n (n := 165) rfl rfl rfl ?_
    refine w_iadd (n := 166) rfl rfl ?_
    refine w_aload_nR (x := 58) (n := 167) rfl rfl rfl ?_
    refine w_getR (b := 66) (n := 170) rfl rfl rfl rfl rfl ?_
    refine w_bipush (v := 7) (n := 172) rfl rfl rfl ?_
    refine w_iconst (v := 4) (n := 173) rfl rfl rfl ?_
    refine w_iload_n (n := 174) rfl rfl rfl ?_
    refine w_imul (n := 175) rfl rfl ?_
    refine w_iadd (n := 176) rfl rfl ?_
    refine w_iload_n (n := 177) rfl rfl rfl ?_
    refine w_iadd (n := 178) rfl rfl ?_
    refine w_iaload (N := 4000) (j := ((7 + (4 * x2)) + x3).toNatClampNeg) (n := 179) rfl rfl rfl rfl rfl rfl ⟨H.1, ?_⟩
    replace H := H.2
    refine w_bipush (v := 8) (n := 181) rfl rfl rfl ?_
    refine w_calli (as := [.int (I 66 (((7 + (4 * x2)) + x3).toNatClampNeg)), .int 8]) (rest := [.int ((3 * x2) + x3), .ref 64]) (n := 184) rfl rfl rfl rfl ?_
    obtain ⟨r181, I181, hI181, H⟩ := H
    refine ⟨r181, I181, hI181, ?_⟩
    refine w_iastore (N := 9) (j := ((3 * x2) + x3).toNatClampNeg) (n := 185) rfl rfl rfl rfl rfl ⟨H.1, ?_⟩
    replace H := H.2
    refine w_iinc (y := x3 + 1) (ls' := [some (.ref 58), some (.int x1), some (.int x2), some (.int (x3 + 1))]) (n := 188) rfl rfl rfl rfl rfl ?_
    refine w_goto rfl ?_
    exact w_drp mm_Qf_i H (lb_s (lb_s (lb_s (lb_s lb_e))))
theorem e_M_head {P : Int32 → mm_I → Prop} {I : mm_I}
  (H : mm_Mi 198 [.ref 58] (mm_up I 58 16 0) (fun r6 I6 =>  -- M.headNow
    P r6 I6)) : mm_Mi 199 [.ref 58] I P := by
  refine mm_Mi_of ?_
  show mm_W 199 0 [some (.ref 58)] [] I (mm_qi 199 P)
  refine w_aload_nR (x := 58) (n := 1) rfl rfl rfl ?_
  refine w_iconst (v := 0) (n := 2) rfl rfl rfl ?_
  refine w_putI (n := 5) rfl rfl rfl rfl rfl ?_
  refine w_aload_nR (x := 58) (n := 6) rfl rfl rfl ?_
  refine w_calli (as := [.ref 58]) (rest := []) (n := 9) rfl rfl rfl rfl ?_
  obtain ⟨r6, I6, hI6, H⟩ := H
  refine ⟨r6, I6, hI6, ?_⟩
  exact w_ireturn rfl rfl H
theorem e_M_headFrames {P : Int32 → mm_I → Prop} {I : mm_I}
  (H : ¬ (I 58 37) = 0 ∧
    P ((((I 58 38) + (I 58 37)) - 1) / (I 58 37)) I) : mm_Mi 200 [.ref 58] I P := by
  refine mm_Mi_of ?_
  show mm_W 200 0 [some (.ref 58)] [] I (mm_qi 200 P)
  refine w_aload_nR (x := 58) (n := 1) rfl rfl rfl ?_
  refine w_getI (n := 4) rfl rfl rfl rfl ?_
  refine w_aload_nR (x := 58) (n := 5) rfl rfl rfl ?_
  refine w_getI (n := 8) rfl rfl rfl rfl ?_
  refine w_iadd (n := 9) rfl rfl ?_
  refine w_iconst (v := 1) (n := 10) rfl rfl rfl ?_
  refine w_isub (n := 11) rfl rfl ?_
  refine w_aload_nR (x := 58) (n := 12) rfl rfl rfl ?_
  refine w_getI (n := 15) rfl rfl rfl rfl ?_
  refine w_idiv (n := 16) rfl rfl ⟨H.1, ?_⟩
  replace H := H.2
  exact w_ireturn rfl rfl H
theorem e_M_bit {P : Int32 → mm_I → Prop} {I : mm_I}
  (H : (¬ (I 58 40) = 0 →
      P 0 (mm_up I 58 40 1)) ∧
    ((I 58 40) = 0 →
      ((I 58 39) < (8 * (I 58 15)) →
        vp_in ((I 58 39) / 8) 4000 ∧
        P (((I 66 (((I 58 39) / 8).toNatClampNeg)) >>> ((7 - ((I 58 39) - (I 58 39) / 8 * 8)) &&& 31)) &&& 1) (mm_up I 58 39 ((I 58 39) + 1))) ∧
      ((8 * (I 58 15)) ≤ (I 58 39) →
        P 0 (mm_up I 58 40 1)))) : mm_Mi 201 [.ref 58] I P := by
  refine mm_Mi_of ?_
  show mm_W 201 0 [some (.ref 58), none] [] I (mm_qi 201 P)
  refine w_aload_nR (x := 58) (n := 1) rfl rfl rfl ?_
  refine w_getI (n := 4) rfl rfl rfl rfl ?_
  refine w_if_ne (n := 7) rfl rfl ⟨fun hc => ?_, fun hc => ?_⟩
  · replace H := H.1 hc
    refine w_aload_nR (x := 58) (n := 22) rfl rfl rfl ?_
    refine w_iconst (v := 1) (n := 23) rfl rfl rfl ?_
    refine w_putZ (n := 26) rfl rfl rfl rfl rfl rfl ⟨by decide, ?_⟩
    refine w_iconst (v := 0) (n := 27) rfl rfl rfl ?_
    exact w_ireturn rfl rfl H
  · replace H := H.2 hc
    refine w_aload_nR (x := 58) (n := 8) rfl rfl rfl ?_
    refine w_getI (n := 11) rfl rfl rfl rfl ?_
    refine w_bipush (v := 8) (n := 13) rfl rfl rfl ?_
    refine w_aload_nR (x := 58) (n := 14) rfl rfl rfl ?_
    refine w_getI (n := 17) rfl rfl rfl rfl ?_
    refine w_imul (n := 18) rfl rfl ?_
    refine w_icmp_lt (n := 21) rfl rfl ⟨fun hc => ?_, fun hc => ?_⟩
    · replace H := H.1 hc
      refine w_aload_nR (x := 58) (n := 29) rfl rfl rfl ?_
      refine w_getR (b := 66) (n := 32) rfl rfl rfl rfl rfl ?_
      refine w_aload_nR (x := 58) (n := 33) rfl rfl rfl ?_
      refine w_getI (n := 36) rfl rfl rfl rfl ?_
      refine w_bipush (v := 8) (n := 38) rfl rfl rfl ?_
      refine w_idiv (n := 39) rfl rfl ⟨by decide, ?_⟩
      refine w_iaload (N := 4000) (j := ((I 58 39) / 8).toNatClampNeg) (n := 40) rfl rfl rfl rfl rfl rfl ⟨H.1, ?_⟩
      replace H := H.2
      refine w_bipush (v := 7) (n := 42) rfl rfl rfl ?_
      refine w_aload_nR (x := 58) (n := 43) rfl rfl rfl ?_
      refine w_getI (n := 46) rfl rfl rfl rfl ?_
      refine w_bipush (v := 8) (n := 48) rfl rfl rfl ?_
      refine w_irem (n := 49) rfl rfl ⟨by decide, ?_⟩
      refine w_isub (n := 50) rfl rfl ?_
      refine w_ishr (n := 51) rfl rfl ?_
      refine w_iconst (v := 1) (n := 52) rfl rfl rfl ?_
      refine w_iand (n := 53) rfl rfl ?_
      refine w_istore_n (ls' := [some (.ref 58), some (.int (((I 66 (((I 58 39) / 8).toNatClampNeg)) >>> ((7 - ((I 58 39) - (I 58 39) / 8 * 8)) &&& 31)) &&& 1))]) (n := 54) rfl rfl rfl rfl ?_
      refine w_aload_nR (x := 58) (n := 55) rfl rfl rfl ?_
      refine w_dup (n := 56) rfl rfl rfl ?_
      refine w_getI (n := 59) rfl rfl rfl rfl ?_
      refine w_iconst (v := 1) (n := 60) rfl rfl rfl ?_
      refine w_iadd (n := 61) rfl rfl ?_
      refine w_putI (n := 64) rfl rfl rfl rfl rfl ?_
      refine w_iload_n (n := 65) rfl rfl rfl ?_
      exact w_ireturn rfl rfl H
    · replace H := H.2 hc
      refine w_aload_nR (x := 58) (n := 22) rfl rfl rfl ?_
      refine w_iconst (v := 1) (n := 23) rfl rfl rfl ?_
      refine w_putZ (n := 26) rfl rfl rfl rfl rfl rfl ⟨by decide, ?_⟩
      refine w_iconst (v := 0) (n := 27) rfl rfl rfl ?_
      exact w_ireturn rfl rfl H
theorem e_M_bits {P : Int32 → mm_I → Prop} {I : mm_I} (x1 : Int32)
  (H : mm_W 202 4 [some (.ref 58), some (.int x1), some (.int 0), some (.int 0)] [] I (mm_qi 202 P)) : mm_Mi 202 [.ref 58, .int x1] I P := by
  refine mm_Mi_of ?_
  show mm_W 202 0 [some (.ref 58), some (.int x1), none, none] [] I (mm_qi 202 P)
  refine w_iconst (v := 0) (n := 1) rfl rfl rfl ?_
  refine w_istore_n (ls' := [some (.ref 58), some (.int x1), some (.int 0), none]) (n := 2) rfl rfl rfl rfl ?_
  refine w_iconst (v := 0) (n := 3) rfl rfl rfl ?_
  refine w_istore_n (ls' := [some (.ref 58), some (.int x1), some (.int 0), some (.int 0)]) (n := 4) rfl rfl rfl rfl ?_
  exact w_drp mm_Qf_i H (lb_s (lb_s (lb_s (lb_s lb_e))))
theorem c_M_bits_4 {P : Int32 → mm_I → Prop} {I : mm_I} (x1 : Int32) (x2 : Int32) (x3 : Int32)
  (H : (x1 ≤ x3 →
      P x2 I) ∧
    (x3 < x1 →
      mm_Mi 201 [.ref 58] I (fun r13 I13 =>  -- M.bit
      mm_W 202 4 [some (.ref 58), some (.int x1), some (.int ((2 * x2) + r13)), some (.int (x3 + 1))] [] I13 (mm_qi 202 P)))) : mm_W 202 4 [some (.ref 58), some (.int x1), some (.int x2), some (.int x3)] [] I (mm_qi 202 P) := by
  refine w_iload_n (n := 5) rfl rfl rfl ?_
  refine w_iload_n (n := 6) rfl rfl rfl ?_
  refine w_icmp_ge (n := 9) rfl rfl ⟨fun hc => ?_, fun hc => ?_⟩
  · replace H := H.1 hc
    refine w_iload_n (n := 25) rfl rfl rfl ?_
    exact w_ireturn rfl rfl H
  · replace H := H.2 hc
    refine w_iconst (v := 2) (n := 10) rfl rfl rfl ?_
    refine w_iload_n (n := 11) rfl rfl rfl ?_
    refine w_imul (n := 12) rfl rfl ?_
    refine w_aload_nR (x := 58) (n := 13) rfl rfl rfl ?_
    refine w_calli (as := [.ref 58]) (rest := [.int (2 * x2)]) (n := 16) rfl rfl rfl rfl ?_
    obtain ⟨r13, I13, hI13, H⟩ := H
    refine ⟨r13, I13, hI13, ?_⟩
    refine w_iadd (n := 17) rfl rfl ?_
    refine w_istore_n (ls' := [some (.ref 58), some (.int x1), some (.int ((2 * x2) + r13)), some (.int x3)]) (n := 18) rfl rfl rfl rfl ?_
    refine w_iinc (y := x3 + 1) (ls' := [some (.ref 58), some (.int x1), some (.int ((2 * x2) + r13)), some (.int (x3 + 1))]) (n := 21) rfl rfl rfl rfl rfl ?_
    refine w_goto rfl ?_
    exact w_drp mm_Qf_i H (lb_s (lb_s (lb_s (lb_s lb_e))))
theorem e_M_signedBits {P : Int32 → mm_I → Prop} {I : mm_I} (x1 : Int32)
  (H : (¬ x1 = 0 →
      mm_Mi 202 [.ref 58, .int x1] I (fun r10 I10 =>  -- M.bits
      P ((r10 <<< ((32 - x1) &&& 31)) >>> ((32 - x1) &&& 31)) I10)) ∧
    (x1 = 0 →
      P 0 I)) : mm_Mi 203 [.ref 58, .int x1] I P := by
  refine mm_Mi_of ?_
  show mm_W 203 0 [some (.ref 58), some (.int x1)] [] I (mm_qi 203 P)
  refine w_iload_n (n := 1) rfl rfl rfl ?_
  refine w_if_ne (n := 4) rfl rfl ⟨fun hc => ?_, fun hc => ?_⟩
  · replace H := H.1 hc
    refine w_aload_nR (x := 58) (n := 9) rfl rfl rfl ?_
    refine w_iload_n (n := 10) rfl rfl rfl ?_
    refine w_calli (as := [.ref 58, .int x1]) (rest := []) (n := 13) rfl rfl rfl rfl ?_
    obtain ⟨r10, I10, hI10, H⟩ := H
    refine ⟨r10, I10, hI10, ?_⟩
    refine w_bipush (v := 32) (n := 15) rfl rfl rfl ?_
    refine w_iload_n (n := 16) rfl rfl rfl ?_
    refine w_isub (n := 17) rfl rfl ?_
    refine w_ishl (n := 18) rfl rfl ?_
    refine w_bipush (v := 32) (n := 20) rfl rfl rfl ?_
    refine w_iload_n (n := 21) rfl rfl rfl ?_
    refine w_isub (n := 22) rfl rfl ?_
    refine w_ishr (n := 23) rfl rfl ?_
    exact w_ireturn rfl rfl H
  · replace H := H.2 hc
    refine w_iconst (v := 0) (n := 5) rfl rfl rfl ?_
    refine w_goto rfl ?_
    exact w_ireturn rfl rfl H
theorem e_M_readError {P : Int32 → mm_I → Prop} {I : mm_I} (x1 : Int32) (x2 : Int32)
  (H : (¬ x1 = 15 →
      (¬ x1 = 14 →
        mm_W 204 22 [some (.ref 58), some (.int x1), none, some (.int 0), none] [] I (mm_qi 204 P)) ∧
      (x1 = 14 →
        mm_Mi 203 [.ref 58, .int x2] I (fun r16 I16 =>  -- M.signedBits
        P r16 I16))) ∧
    (x1 = 15 →
      P 0 I)) : mm_Mi 204 [.ref 58, .int x1, .int x2] I P := by
  refine mm_Mi_of ?_
  show mm_W 204 0 [some (.ref 58), some (.int x1), some (.int x2), none, none] [] I (mm_qi 204 P)
  refine w_iload_n (n := 1) rfl rfl rfl ?_
  refine w_bipush (v := 15) (n := 3) rfl rfl rfl ?_
  refine w_icmp_ne (n := 6) rfl rfl ⟨fun hc => ?_, fun hc => ?_⟩
  · replace H := H.1 hc
    refine w_iload_n (n := 9) rfl rfl rfl ?_
    refine w_bipush (v := 14) (n := 11) rfl rfl rfl ?_
    refine w_icmp_ne (n := 14) rfl rfl ⟨fun hc => ?_, fun hc => ?_⟩
    · replace H := H.1 hc
      refine w_iconst (v := 0) (n := 21) rfl rfl rfl ?_
      refine w_istore_n (ls' := [some (.ref 58), some (.int x1), some (.int x2), some (.int 0), none]) (n := 22) rfl rfl rfl rfl ?_
      exact w_drp mm_Qf_i H (lb_s (lb_s (lb_n (lb_s (lb_n lb_e)))))
    · replace H := H.2 hc
      refine w_aload_nR (x := 58) (n := 15) rfl rfl rfl ?_
      refine w_iload_n (n := 16) rfl rfl rfl ?_
      refine w_calli (as := [.ref 58, .int x2]) (rest := []) (n := 19) rfl rfl rfl rfl ?_
      obtain ⟨r16, I16, hI16, H⟩ := H
      refine ⟨r16, I16, hI16, ?_⟩
      exact w_ireturn rfl rfl H
  · replace H := H.2 hc
    refine w_iconst (v := 0) (n := 7) rfl rfl rfl ?_
    exact w_ireturn rfl rfl H
theorem c_M_readError_22 {P : Int32 → mm_I → Prop} {I : mm_I} (x1 : Int32) (x3 : Int32)
  (H : (¬ (I 58 40) = 0 →
      mm_Mi 202 [.ref 58, .int x1] I (fun r47 I47 =>  -- M.bits
      (¬ (((x3 <<< (x1 &&& 31)) + r47) &&& 1) = 0 →
        P ((-(((x3 <<< (x1 &&& 31)) + r47) + 1)) / 2) I47) ∧
      ((((x3 <<< (x1 &&& 31)) + r47) &&& 1) = 0 →
        P (((x3 <<< (x1 &&& 31)) + r47) / 2) I47))) ∧
    ((I 58 40) = 0 →
      mm_Mi 201 [.ref 58] I (fun r30 I30 =>  -- M.bit
      (¬ r30 = 0 →
        mm_Mi 202 [.ref 58, .int x1] I30 (fun r47 I47 =>  -- M.bits
        (¬ (((x3 <<< (x1 &&& 31)) + r47) &&& 1) = 0 →
          P ((-(((x3 <<< (x1 &&& 31)) + r47) + 1)) / 2) I47) ∧
        ((((x3 <<< (x1 &&& 31)) + r47) &&& 1) = 0 →
          P (((x3 <<< (x1 &&& 31)) + r47) / 2) I47))) ∧
      (r30 = 0 →
        mm_W 204 22 [some (.ref 58), some (.int x1), none, some (.int (x3 + 1)), none] [] I30 (mm_qi 204 P))))) : mm_W 204 22 [some (.ref 58), some (.int x1), none, some (.int x3), none] [] I (mm_qi 204 P) := by
  refine w_aload_nR (x := 58) (n := 23) rfl rfl rfl ?_
  refine w_getI (n := 26) rfl rfl rfl rfl ?_
  refine w_if_ne (n := 29) rfl rfl ⟨fun hc => ?_, fun hc => ?_⟩
  · replace H := H.1 hc
    refine w_iload_n (n := 43) rfl rfl rfl ?_
    refine w_iload_n (n := 44) rfl rfl rfl ?_
    refine w_ishl (n := 45) rfl rfl ?_
    refine w_aload_nR (x := 58) (n := 46) rfl rfl rfl ?_
    refine w_iload_n (n := 47) rfl rfl rfl ?_
    refine w_calli (as := [.ref 58, .int x1]) (rest := [.int (x3 <<< (x1 &&& 31))]) (n := 50) rfl rfl rfl rfl ?_
    obtain ⟨r47, I47, hI47, H⟩ := H
    refine ⟨r47, I47, hI47, ?_⟩
    refine w_iadd (n := 51) rfl rfl ?_
    refine w_istore (ls' := [some (.ref 58), some (.int x1), none, some (.int x3), some (.int ((x3 <<< (x1 &&& 31)) + r47))]) (n := 53) rfl rfl rfl rfl ?_
    refine w_iload (n := 55) rfl rfl rfl ?_
    refine w_iconst (v := 1) (n := 56) rfl rfl rfl ?_
    refine w_iand (n := 57) rfl rfl ?_
    refine w_if_ne (n := 60) rfl rfl ⟨fun hc => ?_, fun hc => ?_⟩
    · replace H := H.1 hc
      refine w_iload (n := 69) rfl rfl rfl ?_
      refine w_iconst (v := 1) (n := 70) rfl rfl rfl ?_
      refine w_iadd (n := 71) rfl rfl ?_
      refine w_ineg (n := 72) rfl rfl ?_
      refine w_iconst (v := 2) (n := 73) rfl rfl rfl ?_
      refine w_idiv (n := 74) rfl rfl ⟨by decide, ?_⟩
      exact w_ireturn rfl rfl H
    · replace H := H.2 hc
      refine w_iload (n := 62) rfl rfl rfl ?_
      refine w_iconst (v := 2) (n := 63) rfl rfl rfl ?_
      refine w_idiv (n := 64) rfl rfl ⟨by decide, ?_⟩
      refine w_goto rfl ?_
      exact w_ireturn rfl rfl H
  · replace H := H.2 hc
    refine w_aload_nR (x := 58) (n := 30) rfl rfl rfl ?_
    refine w_calli (as := [.ref 58]) (rest := []) (n := 33) rfl rfl rfl rfl ?_
    obtain ⟨r30, I30, hI30, H⟩ := H
    refine ⟨r30, I30, hI30, ?_⟩
    refine w_if_ne (n := 36) rfl rfl ⟨fun hc => ?_, fun hc => ?_⟩
    · replace H := H.1 hc
      refine w_iload_n (n := 43) rfl rfl rfl ?_
      refine w_iload_n (n := 44) rfl rfl rfl ?_
      refine w_ishl (n := 45) rfl rfl ?_
      refine w_aload_nR (x := 58) (n := 46) rfl rfl rfl ?_
      refine w_iload_n (n := 47) rfl rfl rfl ?_
      refine w_calli (as := [.ref 58, .int x1]) (rest := [.int (x3 <<< (x1 &&& 31))]) (n := 50) rfl rfl rfl rfl ?_
      obtain ⟨r47, I47, hI47, H⟩ := H
      refine ⟨r47, I47, hI47, ?_⟩
      refine w_iadd (n := 51) rfl rfl ?_
      refine w_istore (ls' := [some (.ref 58), some (.int x1), none, some (.int x3), some (.int ((x3 <<< (x1 &&& 31)) + r47))]) (n := 53) rfl rfl rfl rfl ?_
      refine w_iload (n := 55) rfl rfl rfl ?_
      refine w_iconst (v := 1) (n := 56) rfl rfl rfl ?_
      refine w_iand (n := 57) rfl rfl ?_
      refine w_if_ne (n := 60) rfl rfl ⟨fun hc => ?_, fun hc => ?_⟩
      · replace H := H.1 hc
        refine w_iload (n := 69) rfl rfl rfl ?_
        refine w_iconst (v := 1) (n := 70) rfl rfl rfl ?_
        refine w_iadd (n := 71) rfl rfl ?_
        refine w_ineg (n := 72) rfl rfl ?_
        refine w_iconst (v := 2) (n := 73) rfl rfl rfl ?_
        refine w_idiv (n := 74) rfl rfl ⟨by decide, ?_⟩
        exact w_ireturn rfl rfl H
      · replace H := H.2 hc
        refine w_iload (n := 62) rfl rfl rfl ?_
        refine w_iconst (v := 2) (n := 63) rfl rfl rfl ?_
        refine w_idiv (n := 64) rfl rfl ⟨by decide, ?_⟩
        refine w_goto rfl ?_
        exact w_ireturn rfl rfl H
    · replace H := H.2 hc
      refine w_iinc (y := x3 + 1) (ls' := [some (.ref 58), some (.int x1), none, some (.int (x3 + 1)), none]) (n := 39) rfl rfl rfl rfl rfl ?_
      refine w_goto rfl ?_
      exact w_drp mm_Qf_i H (lb_s (lb_s (lb_n (lb_s (lb_n lb_e)))))
theorem e_M_readsRuns {P : mm_I → Prop} {I : mm_I} (x1 : Int32) (x2 : Int32)
  (H : mm_W 205 13 [some (.ref 58), some (.int x1), some (.int x2), some (.int (((x2 - x1) + 7) / 8)), some (.int 0), none, none, none, none, none, none] [] I (mm_qv 205 P)) : mm_Mv 205 [.ref 58, .int x1, .int x2] I P := by
  refine mm_Mv_of ?_
  show mm_W 205 0 [some (.ref 58), some (.int x1), some (.int x2), none, none, none, none, none, none, none, none] [] I (mm_qv 205 P)
  refine w_iload_n (n := 1) rfl rfl rfl ?_
  refine w_iload_n (n := 2) rfl rfl rfl ?_
  refine w_isub (n := 3) rfl rfl ?_
  refine w_bipush (v := 7) (n := 5) rfl rfl rfl ?_
  refine w_iadd (n := 6) rfl rfl ?_
  refine w_bipush (v := 8) (n := 8) rfl rfl rfl ?_
  refine w_idiv (n := 9) rfl rfl ⟨by decide, ?_⟩
  refine w_istore_n (ls' := [some (.ref 58), some (.int x1), some (.int x2), some (.int (((x2 - x1) + 7) / 8)), none, none, none, none, none, none, none]) (n := 10) rfl rfl rfl rfl ?_
  refine w_iconst (v := 0) (n := 11) rfl rfl rfl ?_
  refine w_istore (ls' := [some (.ref 58), some (.int x1), some (.int x2), some (.int (((x2 - x1) + 7) / 8)), some (.int 0), none, none, none, none, none, none]) (n := 13) rfl rfl rfl rfl ?_
  exact w_drp mm_Qf_v H (lb_s (lb_s (lb_s (lb_s (lb_s (lb_n (lb_n (lb_n (lb_n (lb_n (lb_n lb_e)))))))))))
theorem c_M_readsRuns_13 {P : mm_I → Prop} {I : mm_I} (x1 : Int32) (x2 : Int32) (x3 : Int32) (x4 : Int32)
  (H : (x3 ≤ x4 →
      P I) ∧
    (x4 < x3 →
      (¬ (I 58 40) = 0 →
        P I) ∧
      ((I 58 40) = 0 →
        mm_Mi 202 [.ref 58, .int 3] I (fun r28 I28 =>  -- M.bits
        mm_Mi 202 [.ref 58, .int 4] I28 (fun r37 I37 =>  -- M.bits
        ((x4 + (r28 + 1)) ≤ x3 →
          (¬ r37 = 14 →
            mm_W 205 117 [some (.ref 58), some (.int x1), some (.int x2), some (.int x3), some (.int x4), some (.int (r28 + 1)), some (.int r37), some (.int 0), none, some (.int (if x2 ≤ (x1 + (8 * (x4 + (r28 + 1)))) then (x2 : Int32) else x1 + (8 * (x4 + (r28 + 1))))), some (.int (x1 + (8 * x4)))] [] I37 (mm_qv 205 P)) ∧
          (r37 = 14 →
            mm_Mi 202 [.ref 58, .int 5] I37 (fun r65 I65 =>  -- M.bits
            mm_W 205 117 [some (.ref 58), some (.int x1), some (.int x2), some (.int x3), some (.int x4), some (.int (r28 + 1)), some (.int r37), some (.int r65), none, some (.int (if x2 ≤ (x1 + (8 * (x4 + (r28 + 1)))) then (x2 : Int32) else x1 + (8 * (x4 + (r28 + 1))))), some (.int (x1 + (8 * x4)))] [] I65 (mm_qv 205 P)))) ∧
        (x3 < (x4 + (r28 + 1)) →
          (¬ r37 = 14 →
            mm_W 205 117 [some (.ref 58), some (.int x1), some (.int x2), some (.int x3), some (.int x4), some (.int (r28 + 1)), some (.int r37), some (.int 0), none, some (.int (if x2 ≤ (x1 + (8 * (x4 + (r28 + 1)))) then (x2 : Int32) else x1 + (8 * (x4 + (r28 + 1))))), some (.int (x1 + (8 * x4)))] [] (mm_up I37 58 40 1) (mm_qv 205 P)) ∧
          (r37 = 14 →
            mm_Mi 202 [.ref 58, .int 5] (mm_up I37 58 40 1) (fun r65 I65 =>  -- M.bits
            mm_W 205 117 [some (.ref 58), some (.int x1), some (.int x2), some (.int x3), some (.int x4), some (.int (r28 + 1)), some (.int r37), some (.int r65), none, some (.int (if x2 ≤ (x1 + (8 * (x4 + (r28 + 1)))) then (x2 : Int32) else x1 + (8 * (x4 + (r28 + 1))))), some (.int (x1 + (8 * x4)))] [] I65 (mm_qv 205 P))))))))) : mm_W 205 13 [some (.ref 58), some (.int x1), some (.int x2), some (.int x3), some (.int x4), none, none, none, none, none, none] [] I (mm_qv 205 P) := by
  refine w_iload (n := 15) rfl rfl rfl ?_
  refine w_iload_n (n := 16) rfl rfl rfl ?_
  refine w_icmp_ge (n := 19) rfl rfl ⟨fun hc => ?_, fun hc => ?_⟩
  · replace H := H.1 hc
    exact w_vreturn rfl rfl H
  · replace H := H.2 hc
    refine w_aload_nR (x := 58) (n := 20) rfl rfl rfl ?_
    refine w_getI (n := 23) rfl rfl rfl rfl ?_
    refine w_if_ne (n := 26) rfl rfl ⟨fun hc => ?_, fun hc => ?_⟩
    · replace H := H.1 hc
      exact w_vreturn rfl rfl H
    · replace H := H.2 hc
      refine w_aload_nR (x := 58) (n := 27) rfl rfl rfl ?_
      refine w_iconst (v := 3) (n := 28) rfl rfl rfl ?_
      refine w_calli (as := [.ref 58, .int 3]) (rest := []) (n := 31) rfl rfl rfl rfl ?_
      obtain ⟨r28, I28, hI28, H⟩ := H
      refine ⟨r28, I28, hI28, ?_⟩
      refine w_iconst (v := 1) (n := 32) rfl rfl rfl ?_
      refine w_iadd (n := 33) rfl rfl ?_
      refine w_istore (ls' := [some (.ref 58), some (.int x1), some (.int x2), some (.int x3), some (.int x4), some (.int (r28 + 1)), none, none, none, none, none]) (n := 35) rfl rfl rfl rfl ?_
      refine w_aload_nR (x := 58) (n := 36) rfl rfl rfl ?_
      refine w_iconst (v := 4) (n := 37) rfl rfl rfl ?_
      refine w_calli (as := [.ref 58, .int 4]) (rest := []) (n := 40) rfl rfl rfl rfl ?_
      obtain ⟨r37, I37, hI37, H⟩ := H
      refine ⟨r37, I37, hI37, ?_⟩
      refine w_istore (ls' := [some (.ref 58), some (.int x1), some (.int x2), some (.int x3), some (.int x4), some (.int (r28 + 1)), some (.int r37), none, none, none, none]) (n := 42) rfl rfl rfl rfl ?_
      refine w_iload (n := 44) rfl rfl rfl ?_
      refine w_iload (n := 46) rfl rfl rfl ?_
      refine w_iadd (n := 47) rfl rfl ?_
      refine w_iload_n (n := 48) rfl rfl rfl ?_
      refine w_icmp_le (n := 51) rfl rfl ⟨fun hc => ?_, fun hc => ?_⟩
      · replace H := H.1 hc
        refine w_iload (n := 58) rfl rfl rfl ?_
        refine w_bipush (v := 14) (n := 60) rfl rfl rfl ?_
        refine w_icmp_ne (n := 63) rfl rfl ⟨fun hc => ?_, fun hc => ?_⟩
        · replace H := H.1 hc
          refine w_iconst (v := 0) (n := 72) rfl rfl rfl ?_
          refine w_istore (ls' := [some (.ref 58), some (.int x1), some (.int x2), some (.int x3), some (.int x4), some (.int (r28 + 1)), some (.int r37), some (.int 0), none, none, none]) (n := 74) rfl rfl rfl rfl ?_
          refine w_iload_n (n := 75) rfl rfl rfl ?_
          refine w_bipush (v := 8) (n := 77) rfl rfl rfl ?_
          refine w_iload (n := 79) rfl rfl rfl ?_
          refine w_imul (n := 80) rfl rfl ?_
          refine w_iadd (n := 81) rfl rfl ?_
          refine w_istore (ls' := [some (.ref 58), some (.int x1), some (.int x2), some (.int x3), some (.int x4), some (.int (r28 + 1)), some (.int r37), some (.int 0), some (.int (x1 + (8 * x4))), none, none]) (n := 83) rfl rfl rfl rfl ?_
          refine w_iload_n (n := 84) rfl rfl rfl ?_
          refine w_bipush (v := 8) (n := 86) rfl rfl rfl ?_
          refine w_iload (n := 88) rfl rfl rfl ?_
          refine w_iload (n := 90) rfl rfl rfl ?_
          refine w_iadd (n := 91) rfl rfl ?_
          refine w_imul (n := 92) rfl rfl ?_
          refine w_iadd (n := 93) rfl rfl ?_
          refine w_iload_n (n := 94) rfl rfl rfl ?_
          have J94 : ∀ (w94_0 : Int32), w94_0 = (if x2 ≤ (x1 + (8 * (x4 + (r28 + 1)))) then (x2 : Int32) else x1 + (8 * (x4 + (r28 + 1)))) → mm_W 205 111 [some (.ref 58), some (.int x1), some (.int x2), some (.int x3), some (.int x4), some (.int (r28 + 1)), some (.int r37), some (.int 0), some (.int (x1 + (8 * x4))), none, none] [.int w94_0] I37 (mm_qv 205 P) := by
            intro w94_0 e94_0
            subst e94_0
            refine w_istore (ls' := [some (.ref 58), some (.int x1), some (.int x2), some (.int x3), some (.int x4), some (.int (r28 + 1)), some (.int r37), some (.int 0), some (.int (x1 + (8 * x4))), some (.int (if x2 ≤ (x1 + (8 * (x4 + (r28 + 1)))) then (x2 : Int32) else x1 + (8 * (x4 + (r28 + 1))))), none]) (n := 113) rfl rfl rfl rfl ?_
            refine w_iload (n := 115) rfl rfl rfl ?_
            refine w_istore (ls' := [some (.ref 58), some (.int x1), some (.int x2), some (.int x3), some (.int x4), some (.int (r28 + 1)), some (.int r37), some (.int 0), some (.int (x1 + (8 * x4))), some (.int (if x2 ≤ (x1 + (8 * (x4 + (r28 + 1)))) then (x2 : Int32) else x1 + (8 * (x4 + (r28 + 1))))), some (.int (x1 + (8 * x4)))]) (n := 117) rfl rfl rfl rfl ?_
            exact w_drp mm_Qf_v H (lb_s (lb_s (lb_s (lb_s (lb_s (lb_s (lb_s (lb_s (lb_n (lb_s (lb_s lb_e)))))))))))
          refine w_icmp_ge (n := 97) rfl rfl ⟨fun hc => ?_, fun hc => ?_⟩
          · refine w_iload_n (n := 111) rfl rfl rfl ?_
            refine w_drp mm_Qf_v (J94 _ ?_) (lb_s (lb_s (lb_s (lb_s (lb_s (lb_s (lb_s (lb_s (lb_s (lb_n (lb_n lb_e)))))))))))
            · exact (if_pos hc).symm
          · refine w_iload_n (n := 98) rfl rfl rfl ?_
            refine w_bipush (v := 8) (n := 100) rfl rfl rfl ?_
            refine w_iload (n := 102) rfl rfl rfl ?_
            refine w_iload (n := 104) rfl rfl rfl ?_
            refine w_iadd (n := 105) rfl rfl ?_
            refine w_imul (n := 106) rfl rfl ?_
            refine w_iadd (n := 107) rfl rfl ?_
            refine w_goto rfl ?_
            refine w_drp mm_Qf_v (J94 _ ?_) (lb_s (lb_s (lb_s (lb_s (lb_s (lb_s (lb_s (lb_s (lb_s (lb_n (lb_n lb_e)))))))))))
            · exact (if_neg (fa_nle hc)).symm
        · replace H := H.2 hc
          refine w_aload_nR (x := 58) (n := 64) rfl rfl rfl ?_
          refine w_iconst (v := 5) (n := 65) rfl rfl rfl ?_
          refine w_calli (as := [.ref 58, .int 5]) (rest := []) (n := 68) rfl rfl rfl rfl ?_
          obtain ⟨r65, I65, hI65, H⟩ := H
          refine ⟨r65, I65, hI65, ?_⟩
          refine w_goto rfl ?_
          refine w_istore (ls' := [some (.ref 58), some (.int x1), some (.int x2), some (.int x3), some (.int x4), some (.int (r28 + 1)), some (.int r37), some (.int r65), none, none, none]) (n := 74) rfl rfl rfl rfl ?_
          refine w_iload_n (n := 75) rfl rfl rfl ?_
          refine w_bipush (v := 8) (n := 77) rfl rfl rfl ?_
          refine w_iload (n := 79) rfl rfl rfl ?_
          refine w_imul (n := 80) rfl rfl ?_
          refine w_iadd (n := 81) rfl rfl ?_
          refine w_istore (ls' := [some (.ref 58), some (.int x1), some (.int x2), some (.int x3), some (.int x4), some (.int (r28 + 1)), some (.int r37), some (.int r65), some (.int (x1 + (8 * x4))), none, none]) (n := 83) rfl rfl rfl rfl ?_
          refine w_iload_n (n := 84) rfl rfl rfl ?_
          refine w_bipush (v := 8) (n := 86) rfl rfl rfl ?_
          refine w_iload (n := 88) rfl rfl rfl ?_
          refine w_iload (n := 90) rfl rfl rfl ?_
          refine w_iadd (n := 91) rfl rfl ?_
          refine w_imul (n := 92) rfl rfl ?_
          refine w_iadd (n := 93) rfl rfl ?_
          refine w_iload_n (n := 94) rfl rfl rfl ?_
          have J94 : ∀ (w94_0 : Int32), w94_0 = (if x2 ≤ (x1 + (8 * (x4 + (r28 + 1)))) then (x2 : Int32) else x1 + (8 * (x4 + (r28 + 1)))) → mm_W 205 111 [some (.ref 58), some (.int x1), some (.int x2), some (.int x3), some (.int x4), some (.int (r28 + 1)), some (.int r37), some (.int r65), some (.int (x1 + (8 * x4))), none, none] [.int w94_0] I65 (mm_qv 205 P) := by
            intro w94_0 e94_0
            subst e94_0
            refine w_istore (ls' := [some (.ref 58), some (.int x1), some (.int x2), some (.int x3), some (.int x4), some (.int (r28 + 1)), some (.int r37), some (.int r65), some (.int (x1 + (8 * x4))), some (.int (if x2 ≤ (x1 + (8 * (x4 + (r28 + 1)))) then (x2 : Int32) else x1 + (8 * (x4 + (r28 + 1))))), none]) (n := 113) rfl rfl rfl rfl ?_
            refine w_iload (n := 115) rfl rfl rfl ?_
            refine w_istore (ls' := [some (.ref 58), some (.int x1), some (.int x2), some (.int x3), some (.int x4), some (.int (r28 + 1)), some (.int r37), some (.int r65), some (.int (x1 + (8 * x4))), some (.int (if x2 ≤ (x1 + (8 * (x4 + (r28 + 1)))) then (x2 : Int32) else x1 + (8 * (x4 + (r28 + 1))))), some (.int (x1 + (8 * x4)))]) (n := 117) rfl rfl rfl rfl ?_
            exact w_drp mm_Qf_v H (lb_s (lb_s (lb_s (lb_s (lb_s (lb_s (lb_s (lb_s (lb_n (lb_s (lb_s lb_e)))))))))))
          refine w_icmp_ge (n := 97) rfl rfl ⟨fun hc => ?_, fun hc => ?_⟩
          · refine w_iload_n (n := 111) rfl rfl rfl ?_
            refine w_drp mm_Qf_v (J94 _ ?_) (lb_s (lb_s (lb_s (lb_s (lb_s (lb_s (lb_s (lb_s (lb_s (lb_n (lb_n lb_e)))))))))))
            · exact (if_pos hc).symm
          · refine w_iload_n (n := 98) rfl rfl rfl ?_
            refine w_bipush (v := 8) (n := 100) rfl rfl rfl ?_
            refine w_iload (n := 102) rfl rfl rfl ?_
            refine w_iload (n := 104) rfl rfl rfl ?_
            refine w_iadd (n := 105) rfl rfl ?_
            refine w_imul (n := 106) rfl rfl ?_
            refine w_iadd (n := 107) rfl rfl ?_
            refine w_goto rfl ?_
            refine w_drp mm_Qf_v (J94 _ ?_) (lb_s (lb_s (lb_s (lb_s (lb_s (lb_s (lb_s (lb_s (lb_s (lb_n (lb_n lb_e)))))))))))
            · exact (if_neg (fa_nle hc)).symm
      · replace H := H.2 hc
        refine w_aload_nR (x := 58) (n := 52) rfl rfl rfl ?_
        refine w_iconst (v := 1) (n := 53) rfl rfl rfl ?_
        refine w_putZ (n := 56) rfl rfl rfl rfl rfl rfl ⟨by decide, ?_⟩
        refine w_iload (n := 58) rfl rfl rfl ?_
        refine w_bipush (v := 14) (n := 60) rfl rfl rfl ?_
        refine w_icmp_ne (n := 63) rfl rfl ⟨fun hc => ?_, fun hc => ?_⟩
        · replace H := H.1 hc
          refine w_iconst (v := 0) (n := 72) rfl rfl rfl ?_
          refine w_istore (ls' := [some (.ref 58), some (.int x1), some (.int x2), some (.int x3), some (.int x4), some (.int (r28 + 1)), some (.int r37), some (.int 0), none, none, none]) (n := 74) rfl rfl rfl rfl ?_
          refine w_iload_n (n := 75) rfl rfl rfl ?_
          refine w_bipush (v := 8) (n := 77) rfl rfl rfl ?_
          refine w_iload (n := 79) rfl rfl rfl ?_
          refine w_imul (n := 80) rfl rfl ?_
          refine w_iadd (n := 81) rfl rfl ?_
          refine w_istore (ls' := [some (.ref 58), some (.int x1), some (.int x2), some (.int x3), some (.int x4), some (.int (r28 + 1)), some (.int r37), some (.int 0), some (.int (x1 + (8 * x4))), none, none]) (n := 83) rfl rfl rfl rfl ?_
          refine w_iload_n (n := 84) rfl rfl rfl ?_
          refine w_bipush (v := 8) (n := 86) rfl rfl rfl ?_
          refine w_iload (n := 88) rfl rfl rfl ?_
          refine w_iload (n := 90) rfl rfl rfl ?_
          refine w_iadd (n := 91) rfl rfl ?_
          refine w_imul (n := 92) rfl rfl ?_
          refine w_iadd (n := 93) rfl rfl ?_
          refine w_iload_n (n := 94) rfl rfl rfl ?_
          have J94 : ∀ (w94_0 : Int32), w94_0 = (if x2 ≤ (x1 + (8 * (x4 + (r28 + 1)))) then (x2 : Int32) else x1 + (8 * (x4 + (r28 + 1)))) → mm_W 205 111 [some (.ref 58), some (.int x1), some (.int x2), some (.int x3), some (.int x4), some (.int (r28 + 1)), some (.int r37), some (.int 0), some (.int (x1 + (8 * x4))), none, none] [.int w94_0] (mm_up I37 58 40 1) (mm_qv 205 P) := by
            intro w94_0 e94_0
            subst e94_0
            refine w_istore (ls' := [some (.ref 58), some (.int x1), some (.int x2), some (.int x3), some (.int x4), some (.int (r28 + 1)), some (.int r37), some (.int 0), some (.int (x1 + (8 * x4))), some (.int (if x2 ≤ (x1 + (8 * (x4 + (r28 + 1)))) then (x2 : Int32) else x1 + (8 * (x4 + (r28 + 1))))), none]) (n := 113) rfl rfl rfl rfl ?_
            refine w_iload (n := 115) rfl rfl rfl ?_
            refine w_istore (ls' := [some (.ref 58), some (.int x1), some (.int x2), some (.int x3), some (.int x4), some (.int (r28 + 1)), some (.int r37), some (.int 0), some (.int (x1 + (8 * x4))), some (.int (if x2 ≤ (x1 + (8 * (x4 + (r28 + 1)))) then (x2 : Int32) else x1 + (8 * (x4 + (r28 + 1))))), some (.int (x1 + (8 * x4)))]) (n := 117) rfl rfl rfl rfl ?_
            exact w_drp mm_Qf_v H (lb_s (lb_s (lb_s (lb_s (lb_s (lb_s (lb_s (lb_s (lb_n (lb_s (lb_s lb_e)))))))))))
          refine w_icmp_ge (n := 97) rfl rfl ⟨fun hc => ?_, fun hc => ?_⟩
          · refine w_iload_n (n := 111) rfl rfl rfl ?_
            refine w_drp mm_Qf_v (J94 _ ?_) (lb_s (lb_s (lb_s (lb_s (lb_s (lb_s (lb_s (lb_s (lb_s (lb_n (lb_n lb_e)))))))))))
            · exact (if_pos hc).symm
          · refine w_iload_n (n := 98) rfl rfl rfl ?_
            refine w_bipush (v := 8) (n := 100) rfl rfl rfl ?_
            refine w_iload (n := 102) rfl rfl rfl ?_
            refine w_iload (n := 104) rfl rfl rfl ?_
            refine w_iadd (n := 105) rfl rfl ?_
            refine w_imul (n := 106) rfl rfl ?_
            refine w_iadd (n := 107) rfl rfl ?_
            refine w_goto rfl ?_
            refine w_drp mm_Qf_v (J94 _ ?_) (lb_s (lb_s (lb_s (lb_s (lb_s (lb_s (lb_s (lb_s (lb_s (lb_n (lb_n lb_e)))))))))))
            · exact (if_neg (fa_nle hc)).symm
        · replace H := H.2 hc
          refine w_aload_nR (x := 58) (n := 64) rfl rfl rfl ?_
          refine w_iconst (v := 5) (n := 65) rfl rfl rfl ?_
          refine w_calli (as := [.ref 58, .int 5]) (rest := []) (n := 68) rfl rfl rfl rfl ?_
          obtain ⟨r65, I65, hI65, H⟩ := H
          refine ⟨r65, I65, hI65, ?_⟩
          refine w_goto rfl ?_
          refine w_istore (ls' := [some (.ref 58), some (.int x1), some (.int x2), some (.int x3), some (.int x4), some (.int (r28 + 1)), some (.int r37), some (.int r65), none, none, none]) (n := 74) rfl rfl rfl rfl ?_
          refine w_iload_n (n := 75) rfl rfl rfl ?_
          refine w_bipush (v := 8) (n := 77) rfl rfl rfl ?_
          refine w_iload (n := 79) rfl rfl rfl ?_
          refine w_imul (n := 80) rfl rfl ?_
          refine w_iadd (n := 81) rfl rfl ?_
          refine w_istore (ls' := [some (.ref 58), some (.int x1), some (.int x2), some (.int x3), some (.int x4), some (.int (r28 + 1)), some (.int r37), some (.int r65), some (.int (x1 + (8 * x4))), none, none]) (n := 83) rfl rfl rfl rfl ?_
          refine w_iload_n (n := 84) rfl rfl rfl ?_
          refine w_bipush (v := 8) (n := 86) rfl rfl rfl ?_
          refine w_iload (n := 88) rfl rfl rfl ?_
          refine w_iload (n := 90) rfl rfl rfl ?_
          refine w_iadd (n := 91) rfl rfl ?_
          refine w_imul (n := 92) rfl rfl ?_
          refine w_iadd (n := 93) rfl rfl ?_
          refine w_iload_n (n := 94) rfl rfl rfl ?_
          have J94 : ∀ (w94_0 : Int32), w94_0 = (if x2 ≤ (x1 + (8 * (x4 + (r28 + 1)))) then (x2 : Int32) else x1 + (8 * (x4 + (r28 + 1)))) → mm_W 205 111 [some (.ref 58), some (.int x1), some (.int x2), some (.int x3), some (.int x4), some (.int (r28 + 1)), some (.int r37), some (.int r65), some (.int (x1 + (8 * x4))), none, none] [.int w94_0] I65 (mm_qv 205 P) := by
            intro w94_0 e94_0
            subst e94_0
            refine w_istore (ls' := [some (.ref 58), some (.int x1), some (.int x2), some (.int x3), some (.int x4), some (.int (r28 + 1)), some (.int r37), some (.int r65), some (.int (x1 + (8 * x4))), some (.int (if x2 ≤ (x1 + (8 * (x4 + (r28 + 1)))) then (x2 : Int32) else x1 + (8 * (x4 + (r28 + 1))))), none]) (n := 113) rfl rfl rfl rfl ?_
            refine w_iload (n := 115) rfl rfl rfl ?_
            refine w_istore (ls' := [some (.ref 58), some (.int x1), some (.int x2), some (.int x3), some (.int x4), some (.int (r28 + 1)), some (.int r37), some (.int r65), some (.int (x1 + (8 * x4))), some (.int (if x2 ≤ (x1 + (8 * (x4 + (r28 + 1)))) then (x2 : Int32) else x1 + (8 * (x4 + (r28 + 1))))), some (.int (x1 + (8 * x4)))]) (n := 117) rfl rfl rfl rfl ?_
            exact w_drp mm_Qf_v H (lb_s (lb_s (lb_s (lb_s (lb_s (lb_s (lb_s (lb_s (lb_n (lb_s (lb_s lb_e)))))))))))
          refine w_icmp_ge (n := 97) rfl rfl ⟨fun hc => ?_, fun hc => ?_⟩
          · refine w_iload_n (n := 111) rfl rfl rfl ?_
            refine w_drp mm_Qf_v (J94 _ ?_) (lb_s (lb_s (lb_s (lb_s (lb_s (lb_s (lb_s (lb_s (lb_s (lb_n (lb_n lb_e)))))))))))
            · exact (if_pos hc).symm
          · refine w_iload_n (n := 98) rfl rfl rfl ?_
            refine w_bipush (v := 8) (n := 100) rfl rfl rfl ?_
            refine w_iload (n := 102) rfl rfl rfl ?_
            refine w_iload (n := 104) rfl rfl rfl ?_
            refine w_iadd (n := 105) rfl rfl ?_
            refine w_imul (n := 106) rfl rfl ?_
            refine w_iadd (n := 107) rfl rfl ?_
            refine w_goto rfl ?_
            refine w_drp mm_Qf_v (J94 _ ?_) (lb_s (lb_s (lb_s (lb_s (lb_s (lb_s (lb_s (lb_s (lb_s (lb_n (lb_n lb_e)))))))))))
            · exact (if_neg (fa_nle hc)).symm
theorem c_M_readsRuns_117 {P : mm_I → Prop} {I : mm_I} (x1 : Int32) (x2 : Int32) (x3 : Int32) (x4 : Int32) (x5 : Int32) (x6 : Int32) (x7 : Int32) (x9 : Int32) (x10 : Int32)
  (H : (x9 ≤ x10 →
      mm_W 205 13 [some (.ref 58), some (.int x1), some (.int x2), some (.int x3), some (.int (x4 + x5)), none, none, none, none, none, none] [] I (mm_qv 205 P)) ∧
    (x10 < x9 →
      (¬ (I 58 40) = 0 →
        mm_W 205 13 [some (.ref 58), some (.int x1), some (.int x2), some (.int x3), some (.int (x4 + x5)), none, none, none, none, none, none] [] I (mm_qv 205 P)) ∧
      ((I 58 40) = 0 →
        mm_Mi 204 [.ref 58, .int x6, .int x7] I (fun r142 I142 =>  -- M.readError
        vp_in x10 64 ∧
        mm_W 205 117 [some (.ref 58), some (.int x1), some (.int x2), some (.int x3), some (.int x4), some (.int x5), some (.int x6), some (.int x7), none, some (.int x9), some (.int (x10 + 1))] [] (mm_up I142 79 x10.toNatClampNeg r142) (mm_qv 205 P))))) : mm_W 205 117 [some (.ref 58), some (.int x1), some (.int x2), some (.int x3), some (.int x4), some (.int x5), some (.int x6), some (.int x7), none, some (.int x9), some (.int x10)] [] I (mm_qv 205 P) := by
  refine w_iload (n := 119) rfl rfl rfl ?_
  refine w_iload (n := 121) rfl rfl rfl ?_
  refine w_icmp_ge (n := 124) rfl rfl ⟨fun hc => ?_, fun hc => ?_⟩
  · replace H := H.1 hc
    refine w_iload (n := 154) rfl rfl rfl ?_
    refine w_iload (n := 156) rfl rfl rfl ?_
    refine w_iadd (n := 157) rfl rfl ?_
    refine w_istore (ls' := [some (.ref 58), some (.int x1), some (.int x2), some (.int x3), some (.int (x4 + x5)), some (.int x5), some (.int x6), some (.int x7), none, some (.int x9), some (.int x10)]) (n := 159) rfl rfl rfl rfl ?_
    refine w_goto rfl ?_
    exact w_drp mm_Qf_v H (lb_s (lb_s (lb_s (lb_s (lb_s (lb_n (lb_n (lb_n (lb_n (lb_n (lb_n lb_e)))))))))))
  · replace H := H.2 hc
    refine w_aload_nR (x := 58) (n := 125) rfl rfl rfl ?_
    refine w_getI (n := 128) rfl rfl rfl rfl ?_
    refine w_if_ne (n := 131) rfl rfl ⟨fun hc => ?_, fun hc => ?_⟩
    · replace H := H.1 hc
      refine w_iload (n := 154) rfl rfl rfl ?_
      refine w_iload (n := 156) rfl rfl rfl ?_
      refine w_iadd (n := 157) rfl rfl ?_
      refine w_istore (ls' := [some (.ref 58), some (.int x1), some (.int x2), some (.int x3), some (.int (x4 + x5)), some (.int x5), some (.int x6), some (.int x7), none, some (.int x9), some (.int x10)]) (n := 159) rfl rfl rfl rfl ?_
      refine w_goto rfl ?_
      exact w_drp mm_Qf_v H (lb_s (lb_s (lb_s (lb_s (lb_s (lb_n (lb_n (lb_n (lb_n (lb_n (lb_n lb_e)))))))))))
    · replace H := H.2 hc
      refine w_aload_nR (x := 58) (n := 132) rfl rfl rfl ?_
      refine w_getR (b := 79) (n := 135) rfl rfl rfl rfl rfl ?_
      refine w_iload (n := 137) rfl rfl rfl ?_
      refine w_aload_nR (x := 58) (n := 138) rfl rfl rfl ?_
      refine w_iload (n := 140) rfl rfl rfl ?_
      refine w_iload (n := 142) rfl rfl rfl ?_
      refine w_calli (as := [.ref 58, .int x6, .int x7]) (rest := [.int x10, .ref 79]) (n := 145) rfl rfl rfl rfl ?_
      obtain ⟨r142, I142, hI142, H⟩ := H
      refine ⟨r142, I142, hI142, ?_⟩
      refine w_iastore (N := 64) (j := x10.toNatClampNeg) (n := 146) rfl rfl rfl rfl rfl ⟨H.1, ?_⟩
      replace H := H.2
      refine w_iinc (y := x10 + 1) (ls' := [some (.ref 58), some (.int x1), some (.int x2), some (.int x3), some (.int x4), some (.int x5), some (.int x6), some (.int x7), none, some (.int x9), some (.int (x10 + 1))]) (n := 149) rfl rfl rfl rfl rfl ?_
      refine w_goto rfl ?_
      exact w_drp mm_Qf_v H (lb_s (lb_s (lb_s (lb_s (lb_s (lb_s (lb_s (lb_s (lb_n (lb_s (lb_s lb_e)))))))))))
theorem e_M_readsRow {P : mm_I → Prop} {I : mm_I} (x1 : Int32) (x2 : Int32) (x3 : Int32)
  (H : mm_Mi 202 [.ref 58, .int 4] I (fun r2 I2 =>  -- M.bits
    (9 < r2 →
      P (mm_up I2 58 40 1)) ∧
    (r2 ≤ 9 →
      (8 ≤ r2 →
        ((I2 58 40) = 0 →
          (8 ≤ r2 →
            mm_W 206 83 [some (.ref 58), some (.int x1), some (.int x2), some (.int x3), some (.int r2), some (.int (if r2 = 8 then (1 : Int32) else x2)), some (.int 0)] [] I2 (mm_qv 206 P)) ∧
          (r2 < 8 →
            mm_Mi 144 [.int r2, .ref 64] I2 (fun r60 I60 =>  -- M.orderOf
            mm_W 206 83 [some (.ref 58), some (.int x1), some (.int x2), some (.int x3), some (.int r2), some (.int r60), some (.int 0)] [] I60 (mm_qv 206 P)))) ∧
        (¬ (I2 58 40) = 0 →
          P I2)) ∧
      (r2 < 8 →
        mm_Mi 144 [.int r2, .ref 64] I2 (fun r27 I27 =>  -- M.orderOf
        (r27 < x2 →
          ((I27 58 40) = 0 →
            (8 ≤ r2 →
              mm_W 206 83 [some (.ref 58), some (.int x1), some (.int x2), some (.int x3), some (.int r2), some (.int (if r2 = 8 then (1 : Int32) else x2)), some (.int 0)] [] I27 (mm_qv 206 P)) ∧
            (r2 < 8 →
              mm_Mi 144 [.int r2, .ref 64] I27 (fun r60 I60 =>  -- M.orderOf
              mm_W 206 83 [some (.ref 58), some (.int x1), some (.int x2), some (.int x3), some (.int r2), some (.int r60), some (.int 0)] [] I60 (mm_qv 206 P)))) ∧
          (¬ (I27 58 40) = 0 →
            P I27)) ∧
        (x2 ≤ r27 →
          P (mm_up I27 58 40 1))))))) : mm_Mv 206 [.ref 58, .int x1, .int x2, .int x3] I P := by
  refine mm_Mv_of ?_
  show mm_W 206 0 [some (.ref 58), some (.int x1), some (.int x2), some (.int x3), none, none, none] [] I (mm_qv 206 P)
  refine w_aload_nR (x := 58) (n := 1) rfl rfl rfl ?_
  refine w_iconst (v := 4) (n := 2) rfl rfl rfl ?_
  refine w_calli (as := [.ref 58, .int 4]) (rest := []) (n := 5) rfl rfl rfl rfl ?_
  obtain ⟨r2, I2, hI2, H⟩ := H
  refine ⟨r2, I2, hI2, ?_⟩
  refine w_istore (ls' := [some (.ref 58), some (.int x1), some (.int x2), some (.int x3), some (.int r2), none, none]) (n := 7) rfl rfl rfl rfl ?_
  refine w_iload (n := 9) rfl rfl rfl ?_
  refine w_bipush (v := 9) (n := 11) rfl rfl rfl ?_
  refine w_icmp_gt (n := 14) rfl rfl ⟨fun hc => ?_, fun hc => ?_⟩
  · replace H := H.1 hc
    refine w_aload_nR (x := 58) (n := 35) rfl rfl rfl ?_
    refine w_iconst (v := 1) (n := 36) rfl rfl rfl ?_
    refine w_putZ (n := 39) rfl rfl rfl rfl rfl rfl ⟨by decide, ?_⟩
    refine w_aload_nR (x := 58) (n := 40) rfl rfl rfl ?_
    refine w_getI (n := 43) rfl rfl rfl rfl ?_
    refine w_if_eq (n := 46) rfl rfl ⟨fun hc => absurd hc (show ¬ ((1 : Int32) = (0 : Int32)) by decide), fun _ => ?_⟩
    exact w_vreturn rfl rfl H
  · replace H := H.2 hc
    refine w_iload (n := 16) rfl rfl rfl ?_
    refine w_bipush (v := 8) (n := 18) rfl rfl rfl ?_
    refine w_icmp_ge (n := 21) rfl rfl ⟨fun hc => ?_, fun hc => ?_⟩
    · replace H := H.1 hc
      refine w_aload_nR (x := 58) (n := 40) rfl rfl rfl ?_
      refine w_getI (n := 43) rfl rfl rfl rfl ?_
      refine w_if_eq (n := 46) rfl rfl ⟨fun hc => ?_, fun hc => ?_⟩
      · replace H := H.1 hc
        refine w_iload (n := 49) rfl rfl rfl ?_
        refine w_bipush (v := 8) (n := 51) rfl rfl rfl ?_
        refine w_icmp_ge (n := 54) rfl rfl ⟨fun hc => ?_, fun hc => ?_⟩
        · replace H := H.1 hc
          refine w_iload (n := 68) rfl rfl rfl ?_
          refine w_bipush (v := 8) (n := 70) rfl rfl rfl ?_
          have J70 : ∀ (w70_0 : Int32), w70_0 = (if r2 = 8 then (1 : Int32) else x2) → mm_W 206 78 [some (.ref 58), some (.int x1), some (.int x2), some (.int x3), some (.int r2), none, none] [.int w70_0] I2 (mm_qv 206 P) := by
            intro w70_0 e70_0
            subst e70_0
            refine w_istore (ls' := [some (.ref 58), some (.int x1), some (.int x2), some (.int x3), some (.int r2), some (.int (if r2 = 8 then (1 : Int32) else x2)), none]) (n := 80) rfl rfl rfl rfl ?_
            refine w_iconst (v := 0) (n := 81) rfl rfl rfl ?_
            refine w_istore (ls' := [some (.ref 58), some (.int x1), some (.int x2), some (.int x3), some (.int r2), some (.int (if r2 = 8 then (1 : Int32) else x2)), some (.int 0)]) (n := 83) rfl rfl rfl rfl ?_
            exact w_drp mm_Qf_v H (lb_s (lb_s (lb_s (lb_s (lb_s (lb_s (lb_s lb_e)))))))
          refine w_icmp_ne (n := 73) rfl rfl ⟨fun hc => ?_, fun hc => ?_⟩
          · refine w_iload_n (n := 78) rfl rfl rfl ?_
            refine w_drp mm_Qf_v (J70 _ ?_) (lb_s (lb_s (lb_s (lb_s (lb_s (lb_n (lb_n lb_e)))))))
            · exact (if_neg hc).symm
          · refine w_iconst (v := 1) (n := 74) rfl rfl rfl ?_
            refine w_goto rfl ?_
            refine w_drp mm_Qf_v (J70 _ ?_) (lb_s (lb_s (lb_s (lb_s (lb_s (lb_n (lb_n lb_e)))))))
            · exact (if_pos hc).symm
        · replace H := H.2 hc
          refine w_iload (n := 56) rfl rfl rfl ?_
          refine w_aload_nR (x := 58) (n := 57) rfl rfl rfl ?_
          refine w_getR (b := 64) (n := 60) rfl rfl rfl rfl rfl ?_
          refine w_calli (as := [.int r2, .ref 64]) (rest := []) (n := 63) rfl rfl rfl rfl ?_
          obtain ⟨r60, I60, hI60, H⟩ := H
          refine ⟨r60, I60, hI60, ?_⟩
          refine w_goto rfl ?_
          refine w_istore (ls' := [some (.ref 58), some (.int x1), some (.int x2), some (.int x3), some (.int r2), some (.int r60), none]) (n := 80) rfl rfl rfl rfl ?_
          refine w_iconst (v := 0) (n := 81) rfl rfl rfl ?_
          refine w_istore (ls' := [some (.ref 58), some (.int x1), some (.int x2), some (.int x3), some (.int r2), some (.int r60), some (.int 0)]) (n := 83) rfl rfl rfl rfl ?_
          exact w_drp mm_Qf_v H (lb_s (lb_s (lb_s (lb_s (lb_s (lb_s (lb_s lb_e)))))))
      · replace H := H.2 hc
        exact w_vreturn rfl rfl H
    · replace H := H.2 hc
      refine w_iload (n := 23) rfl rfl rfl ?_
      refine w_aload_nR (x := 58) (n := 24) rfl rfl rfl ?_
      refine w_getR (b := 64) (n := 27) rfl rfl rfl rfl rfl ?_
      refine w_calli (as := [.int r2, .ref 64]) (rest := []) (n := 30) rfl rfl rfl rfl ?_
      obtain ⟨r27, I27, hI27, H⟩ := H
      refine ⟨r27, I27, hI27, ?_⟩
      refine w_iload_n (n := 31) rfl rfl rfl ?_
      refine w_icmp_lt (n := 34) rfl rfl ⟨fun hc => ?_, fun hc => ?_⟩
      · replace H := H.1 hc
        refine w_aload_nR (x := 58) (n := 40) rfl rfl rfl ?_
        refine w_getI (n := 43) rfl rfl rfl rfl ?_
        refine w_if_eq (n := 46) rfl rfl ⟨fun hc => ?_, fun hc => ?_⟩
        · replace H := H.1 hc
          refine w_iload (n := 49) rfl rfl rfl ?_
          refine w_bipush (v := 8) (n := 51) rfl rfl rfl ?_
          refine w_icmp_ge (n := 54) rfl rfl ⟨fun hc => ?_, fun hc => ?_⟩
          · replace H := H.1 hc
            refine w_iload (n := 68) rfl rfl rfl ?_
            refine w_bipush (v := 8) (n := 70) rfl rfl rfl ?_
            have J70 : ∀ (w70_0 : Int32), w70_0 = (if r2 = 8 then (1 : Int32) else x2) → mm_W 206 78 [some (.ref 58), some (.int x1), some (.int x2), some (.int x3), some (.int r2), none, none] [.int w70_0] I27 (mm_qv 206 P) := by
              intro w70_0 e70_0
              subst e70_0
              refine w_istore (ls' := [some (.ref 58), some (.int x1), some (.int x2), some (.int x3), some (.int r2), some (.int (if r2 = 8 then (1 : Int32) else x2)), none]) (n := 80) rfl rfl rfl rfl ?_
              refine w_iconst (v := 0) (n := 81) rfl rfl rfl ?_
              refine w_istore (ls' := [some (.ref 58), some (.int x1), some (.int x2), some (.int x3), some (.int r2), some (.int (if r2 = 8 then (1 : Int32) else x2)), some (.int 0)]) (n := 83) rfl rfl rfl rfl ?_
              exact w_drp mm_Qf_v H (lb_s (lb_s (lb_s (lb_s (lb_s (lb_s (lb_s lb_e)))))))
            refine w_icmp_ne (n := 73) rfl rfl ⟨fun hc => ?_, fun hc => ?_⟩
            · refine w_iload_n (n := 78) rfl rfl rfl ?_
              refine w_drp mm_Qf_v (J70 _ ?_) (lb_s (lb_s (lb_s (lb_s (lb_s (lb_n (lb_n lb_e)))))))
              · exact (if_neg hc).symm
            · refine w_iconst (v := 1) (n := 74) rfl rfl rfl ?_
              refine w_goto rfl ?_
              refine w_drp mm_Qf_v (J70 _ ?_) (lb_s (lb_s (lb_s (lb_s (lb_s (lb_n (lb_n lb_e)))))))
              · exact (if_pos hc).symm
          · replace H := H.2 hc
            refine w_iload (n := 56) rfl rfl rfl ?_
            refine w_aload_nR (x := 58) (n := 57) rfl rfl rfl ?_
            refine w_getR (b := 64) (n := 60) rfl rfl rfl rfl rfl ?_
            refine w_calli (as := [.int r2, .ref 64]) (rest := []) (n := 63) rfl rfl rfl rfl ?_
            obtain ⟨r60, I60, hI60, H⟩ := H
            refine ⟨r60, I60, hI60, ?_⟩
            refine w_goto rfl ?_
            refine w_istore (ls' := [some (.ref 58), some (.int x1), some (.int x2), some (.int x3), some (.int r2), some (.int r60), none]) (n := 80) rfl rfl rfl rfl ?_
            refine w_iconst (v := 0) (n := 81) rfl rfl rfl ?_
            refine w_istore (ls' := [some (.ref 58), some (.int x1), some (.int x2), some (.int x3), some (.int r2), some (.int r60), some (.int 0)]) (n := 83) rfl rfl rfl rfl ?_
            exact w_drp mm_Qf_v H (lb_s (lb_s (lb_s (lb_s (lb_s (lb_s (lb_s lb_e)))))))
        · replace H := H.2 hc
          exact w_vreturn rfl rfl H
      · replace H := H.2 hc
        refine w_aload_nR (x := 58) (n := 35) rfl rfl rfl ?_
        refine w_iconst (v := 1) (n := 36) rfl rfl rfl ?_
        refine w_putZ (n := 39) rfl rfl rfl rfl rfl rfl ⟨by decide, ?_⟩
        refine w_aload_nR (x := 58) (n := 40) rfl rfl rfl ?_
        refine w_getI (n := 43) rfl rfl rfl rfl ?_
        refine w_if_eq (n := 46) rfl rfl ⟨fun hc => absurd hc (show ¬ ((1 : Int32) = (0 : Int32)) by decide), fun _ => ?_⟩
        exact w_vreturn rfl rfl H
theorem c_M_readsRow_83 {P : mm_I → Prop} {I : mm_I} (x1 : Int32) (x2 : Int32) (x3 : Int32) (x4 : Int32) (x5 : Int32) (x6 : Int32)
  (H : (x5 ≤ x6 →
      (¬ x4 = 8 →
        (8 ≤ x4 →
          mm_W 206 215 [some (.ref 58), some (.int x1), some (.int x2), none, none, none, some (.int 0)] [] I (mm_qv 206 P)) ∧
        (x4 < 8 →
          mm_Mv 205 [.ref 58, .int x5, .int x2] I (fun I157 =>  -- M.readsRuns
          mm_W 206 164 [some (.ref 58), some (.int x1), some (.int x2), none, some (.int x4), none, some (.int x5)] [] I157 (mm_qv 206 P)))) ∧
      (x4 = 8 →
        mm_W 206 118 [some (.ref 58), some (.int x1), some (.int x2), none, none, none, some (.int 1)] [] I (mm_qv 206 P))) ∧
    (x6 < x5 →
      mm_Mi 203 [.ref 58, .int x3] I (fun r98 I98 =>  -- M.signedBits
      vp_in x6 64 ∧
      mm_W 206 83 [some (.ref 58), some (.int x1), some (.int x2), some (.int x3), some (.int x4), some (.int x5), some (.int (x6 + 1))] [] (mm_up I98 79 x6.toNatClampNeg r98) (mm_qv 206 P)))) : mm_W 206 83 [some (.ref 58), some (.int x1), some (.int x2), some (.int x3), some (.int x4), some (.int x5), some (.int x6)] [] I (mm_qv 206 P) := by
  refine w_iload (n := 85) rfl rfl rfl ?_
  refine w_iload (n := 87) rfl rfl rfl ?_
  refine w_icmp_ge (n := 90) rfl rfl ⟨fun hc => ?_, fun hc => ?_⟩
  · replace H := H.1 hc
    refine w_iload (n := 110) rfl rfl rfl ?_
    refine w_bipush (v := 8) (n := 112) rfl rfl rfl ?_
    refine w_icmp_ne (n := 115) rfl rfl ⟨fun hc => ?_, fun hc => ?_⟩
    · replace H := H.1 hc
      refine w_iload (n := 148) rfl rfl rfl ?_
      refine w_bipush (v := 8) (n := 150) rfl rfl rfl ?_
      refine w_icmp_ge (n := 153) rfl rfl ⟨fun hc => ?_, fun hc => ?_⟩
      · replace H := H.1 hc
        refine w_iconst (v := 0) (n := 213) rfl rfl rfl ?_
        refine w_istore (ls' := [some (.ref 58), some (.int x1), some (.int x2), some (.int x3), some (.int x4), some (.int x5), some (.int 0)]) (n := 215) rfl rfl rfl rfl ?_
        exact w_drp mm_Qf_v H (lb_s (lb_s (lb_s (lb_n (lb_n (lb_n (lb_s lb_e)))))))
      · replace H := H.2 hc
        refine w_aload_nR (x := 58) (n := 154) rfl rfl rfl ?_
        refine w_iload (n := 156) rfl rfl rfl ?_
        refine w_iload_n (n := 157) rfl rfl rfl ?_
        refine w_callv (as := [.ref 58, .int x5, .int x2]) (rest := []) (n := 160) rfl rfl rfl rfl ?_
        obtain ⟨I157, hI157, H⟩ := H
        refine ⟨I157, hI157, ?_⟩
        refine w_iload (n := 162) rfl rfl rfl ?_
        refine w_istore (ls' := [some (.ref 58), some (.int x1), some (.int x2), some (.int x3), some (.int x4), some (.int x5), some (.int x5)]) (n := 164) rfl rfl rfl rfl ?_
        exact w_drp mm_Qf_v H (lb_s (lb_s (lb_s (lb_n (lb_s (lb_n (lb_s lb_e)))))))
    · replace H := H.2 hc
      refine w_iconst (v := 1) (n := 116) rfl rfl rfl ?_
      refine w_istore (ls' := [some (.ref 58), some (.int x1), some (.int x2), some (.int x3), some (.int x4), some (.int x5), some (.int 1)]) (n := 118) rfl rfl rfl rfl ?_
      exact w_drp mm_Qf_v H (lb_s (lb_s (lb_s (lb_n (lb_n (lb_n (lb_s lb_e)))))))
  · replace H := H.2 hc
    refine w_aload_nR (x := 58) (n := 91) rfl rfl rfl ?_
    refine w_getR (b := 79) (n := 94) rfl rfl rfl rfl rfl ?_
    refine w_iload (n := 96) rfl rfl rfl ?_
    refine w_aload_nR (x := 58) (n := 97) rfl rfl rfl ?_
    refine w_iload_n (n := 98) rfl rfl rfl ?_
    refine w_calli (as := [.ref 58, .int x3]) (rest := [.int x6, .ref 79]) (n := 101) rfl rfl rfl rfl ?_
    obtain ⟨r98, I98, hI98, H⟩ := H
    refine ⟨r98, I98, hI98, ?_⟩
    refine w_iastore (N := 64) (j := x6.toNatClampNeg) (n := 102) rfl rfl rfl rfl rfl ⟨H.1, ?_⟩
    replace H := H.2
    refine w_iinc (y := x6 + 1) (ls' := [some (.ref 58), some (.int x1), some (.int x2), some (.int x3), some (.int x4), some (.int x5), some (.int (x6 + 1))]) (n := 105) rfl rfl rfl rfl rfl ?_
    refine w_goto rfl ?_
    exact w_drp mm_Qf_v H (lb_s (lb_s (lb_s (lb_s (lb_s (lb_s (lb_s lb_e)))))))
theorem c_M_readsRow_215 {P : mm_I → Prop} {I : mm_I} (x1 : Int32) (x2 : Int32) (x6 : Int32)
  (H : (x2 ≤ x6 →
      P I) ∧
    (x6 < x2 →
      (¬ (I 58 40) = 0 →
        P I) ∧
      ((I 58 40) = 0 →
        vp_in x6 64 ∧
        vp_in ((64 * x1) + x6) 128 ∧
        mm_W 206 215 [some (.ref 58), some (.int x1), some (.int x2), none, none, none, some (.int (x6 + 1))] [] (mm_up I 78 (((64 * x1) + x6).toNatClampNeg) (I 79 x6.toNatClampNeg)) (mm_qv 206 P)))) : mm_W 206 215 [some (.ref 58), some (.int x1), some (.int x2), none, none, none, some (.int x6)] [] I (mm_qv 206 P) := by
  refine w_iload (n := 217) rfl rfl rfl ?_
  refine w_iload_n (n := 218) rfl rfl rfl ?_
  refine w_icmp_ge (n := 221) rfl rfl ⟨fun hc => ?_, fun hc => ?_⟩
  · replace H := H.1 hc
    exact w_vreturn rfl rfl H
  · replace H := H.2 hc
    refine w_aload_nR (x := 58) (n := 222) rfl rfl rfl ?_
    refine w_getI (n := 225) rfl rfl rfl rfl ?_
    refine w_if_ne (n := 228) rfl rfl ⟨fun hc => ?_, fun hc => ?_⟩
    · replace H := H.1 hc
      exact w_vreturn rfl rfl H
    · replace H := H.2 hc
      refine w_aload_nR (x := 58) (n := 229) rfl rfl rfl ?_
      refine w_getR (b := 78) (n := 232) rfl rfl rfl rfl rfl ?_
      refine w_bipush (v := 64) (n := 234) rfl rfl rfl ?_
      refine w_iload_n (n := 235) rfl rfl rfl ?_
      refine w_imul (n := 236) rfl rfl ?_
      refine w_iload (n := 238) rfl rfl rfl ?_
      refine w_iadd (n := 239) rfl rfl ?_
      refine w_aload_nR (x := 58) (n := 240) rfl rfl rfl ?_
      refine w_getR (b := 79) (n := 243) rfl rfl rfl rfl rfl ?_
      refine w_iload (n := 245) rfl rfl rfl ?_
      refine w_iaload (N := 64) (j := x6.toNatClampNeg) (n := 246) rfl rfl rfl rfl rfl rfl ⟨H.1, ?_⟩
      replace H := H.2
      refine w_iastore (N := 128) (j := ((64 * x1) + x6).toNatClampNeg) (n := 247) rfl rfl rfl rfl rfl ⟨H.1, ?_⟩
      replace H := H.2
      refine w_iinc (y := x6 + 1) (ls' := [some (.ref 58), some (.int x1), some (.int x2), none, none, none, some (.int (x6 + 1))]) (n := 250) rfl rfl rfl rfl rfl ?_
      refine w_goto rfl ?_
      exact w_drp mm_Qf_v H (lb_s (lb_s (lb_s (lb_n (lb_n (lb_n (lb_s lb_e)))))))
theorem c_M_readsRow_164 {P : mm_I → Prop} {I : mm_I} (x1 : Int32) (x2 : Int32) (x4 : Int32) (x6 : Int32)
  (H : (x2 ≤ x6 →
      mm_W 206 215 [some (.ref 58), some (.int x1), some (.int x2), none, none, none, some (.int 0)] [] I (mm_qv 206 P)) ∧
    (x6 < x2 →
      (¬ (I 58 40) = 0 →
        mm_W 206 215 [some (.ref 58), some (.int x1), some (.int x2), none, none, none, some (.int 0)] [] I (mm_qv 206 P)) ∧
      ((I 58 40) = 0 →
        vp_in x6 64 ∧
        mm_Mi 145 [.ref 79, .int x6, .int x4, .ref 64, .ref 65] I (fun r201 I201 =>  -- M.guessed
        vp_in x6 64 ∧
        mm_W 206 164 [some (.ref 58), some (.int x1), some (.int x2), none, some (.int x4), none, some (.int (x6 + 1))] [] (mm_up I201 79 x6.toNatClampNeg ((I 79 x6.toNatClampNeg) + r201)) (mm_qv 206 P))))) : mm_W 206 164 [some (.ref 58), some (.int x1), some (.int x2), none, some (.int x4), none, some (.int x6)] [] I (mm_qv 206 P) := by
  refine w_iload (n := 166) rfl rfl rfl ?_
  refine w_iload_n (n := 167) rfl rfl rfl ?_
  refine w_icmp_ge (n := 170) rfl rfl ⟨fun hc => ?_, fun hc => ?_⟩
  · replace H := H.1 hc
    refine w_iconst (v := 0) (n := 213) rfl rfl rfl ?_
    refine w_istore (ls' := [some (.ref 58), some (.int x1), some (.int x2), none, some (.int x4), none, some (.int 0)]) (n := 215) rfl rfl rfl rfl ?_
    exact w_drp mm_Qf_v H (lb_s (lb_s (lb_s (lb_n (lb_n (lb_n (lb_s lb_e)))))))
  · replace H := H.2 hc
    refine w_aload_nR (x := 58) (n := 171) rfl rfl rfl ?_
    refine w_getI (n := 174) rfl rfl rfl rfl ?_
    refine w_if_ne (n := 177) rfl rfl ⟨fun hc => ?_, fun hc => ?_⟩
    · replace H := H.1 hc
      refine w_iconst (v := 0) (n := 213) rfl rfl rfl ?_
      refine w_istore (ls' := [some (.ref 58), some (.int x1), some (.int x2), none, some (.int x4), none, some (.int 0)]) (n := 215) rfl rfl rfl rfl ?_
      exact w_drp mm_Qf_v H (lb_s (lb_s (lb_s (lb_n (lb_n (lb_n (lb_s lb_e)))))))
    · replace H := H.2 hc
      refine w_aload_nR (x := 58) (n := 178) rfl rfl rfl ?_
      refine w_getR (b := 79) (n := 181) rfl rfl rfl rfl rfl ?_
      refine w_iload (n := 183) rfl rfl rfl ?_
      refine w_dup2 (n := 184) rfl rfl rfl ?_
      refine w_iaload (N := 64) (j := x6.toNatClampNeg) (n := 185) rfl rfl rfl rfl rfl rfl ⟨H.1, ?_⟩
      replace H := H.2
      refine w_aload_nR (x := 58) (n := 186) rfl rfl rfl ?_
      refine w_getR (b := 79) (n := 189) rfl rfl rfl rfl rfl ?_
      refine w_iload (n := 191) rfl rfl rfl ?_
      refine w_iload (n := 193) rfl rfl rfl ?_
      refine w_aload_nR (x := 58) (n := 194) rfl rfl rfl ?_
      refine w_getR (b := 64) (n := 197) rfl rfl rfl rfl rfl ?_
      refine w_aload_nR (x := 58) (n := 198) rfl rfl rfl ?_
      refine w_getR (b := 65) (n := 201) rfl rfl rfl rfl rfl ?_
      refine w_calli (as := [.ref 79, .int x6, .int x4, .ref 64, .ref 65]) (rest := [.int (I 79 x6.toNatClampNeg), .int x6, .ref 79]) (n := 204) rfl rfl rfl rfl ?_
      obtain ⟨r201, I201, hI201, H⟩ := H
      refine ⟨r201, I201, hI201, ?_⟩
      refine w_iadd (n := 205) rfl rfl ?_
      refine w_iastore (N := 64) (j := x6.toNatClampNeg) (n := 206) rfl rfl rfl rfl rfl ⟨H.1, ?_⟩
      replace H := H.2
      refine w_iinc (y := x6 + 1) (ls' := [some (.ref 58), some (.int x1), some (.int x2), none, some (.int x4), none, some (.int (x6 + 1))]) (n := 209) rfl rfl rfl rfl rfl ?_
      refine w_goto rfl ?_
      exact w_drp mm_Qf_v H (lb_s (lb_s (lb_s (lb_n (lb_s (lb_n (lb_s lb_e)))))))
theorem c_M_readsRow_118 {P : mm_I → Prop} {I : mm_I} (x1 : Int32) (x2 : Int32) (x6 : Int32)
  (H : (x2 ≤ x6 →
      mm_W 206 215 [some (.ref 58), some (.int x1), some (.int x2), none, none, none, some (.int 0)] [] I (mm_qv 206 P)) ∧
    (x6 < x2 →
      vp_in x6 64 ∧
      mm_W 206 118 [some (.ref 58), some (.int x1), some (.int x2), none, none, none, some (.int (x6 + 1))] [] (mm_up I 79 x6.toNatClampNeg (I 79 0)) (mm_qv 206 P))) : mm_W 206 118 [some (.ref 58), some (.int x1), some (.int x2), none, none, none, some (.int x6)] [] I (mm_qv 206 P) := by
  refine w_iload (n := 120) rfl rfl rfl ?_
  refine w_iload_n (n := 121) rfl rfl rfl ?_
  refine w_icmp_ge (n := 124) rfl rfl ⟨fun hc => ?_, fun hc => ?_⟩
  · replace H := H.1 hc
    refine w_goto rfl ?_
    refine w_iconst (v := 0) (n := 213) rfl rfl rfl ?_
    refine w_istore (ls' := [some (.ref 58), some (.int x1), some (.int x2), none, none, none, some (.int 0)]) (n := 215) rfl rfl rfl rfl ?_
    exact w_drp mm_Qf_v H (lb_s (lb_s (lb_s (lb_n (lb_n (lb_n (lb_s lb_e)))))))
  · replace H := H.2 hc
    refine w_aload_nR (x := 58) (n := 125) rfl rfl rfl ?_
    refine w_getR (b := 79) (n := 128) rfl rfl rfl rfl rfl ?_
    refine w_iload (n := 130) rfl rfl rfl ?_
    refine w_aload_nR (x := 58) (n := 131) rfl rfl rfl ?_
    refine w_getR (b := 79) (n := 134) rfl rfl rfl rfl rfl ?_
    refine w_iconst (v := 0) (n := 135) rfl rfl rfl ?_
    refine w_iaload (N := 64) (j := 0) (n := 136) rfl rfl rfl rfl (by decide) rfl ⟨mm_vpc (by decide), ?_⟩
    refine w_iastore (N := 64) (j := x6.toNatClampNeg) (n := 137) rfl rfl rfl rfl rfl ⟨H.1, ?_⟩
    replace H := H.2
    refine w_iinc (y := x6 + 1) (ls' := [some (.ref 58), some (.int x1), some (.int x2), none, none, none, some (.int (x6 + 1))]) (n := 140) rfl rfl rfl rfl rfl ?_
    refine w_goto rfl ?_
    exact w_drp mm_Qf_v H (lb_s (lb_s (lb_s (lb_n (lb_n (lb_n (lb_s lb_e)))))))
theorem e_M_parts {P : Int32 → mm_I → Prop} {I : mm_I} (x1 : Int32) (x2 : Int32)
  (H : mm_W 207 2 [some (.ref 58), some (.int x1), some (.int x2), some (.int 0), none, none, none, none, none] [] I (mm_qi 207 P)) : mm_Mi 207 [.ref 58, .int x1, .int x2] I P := by
  refine mm_Mi_of ?_
  show mm_W 207 0 [some (.ref 58), some (.int x1), some (.int x2), none, none, none, none, none, none] [] I (mm_qi 207 P)
  refine w_iconst (v := 0) (n := 1) rfl rfl rfl ?_
  refine w_istore_n (ls' := [some (.ref 58), some (.int x1), some (.int x2), some (.int 0), none, none, none, none, none]) (n := 2) rfl rfl rfl rfl ?_
  exact w_drp mm_Qf_i H (lb_s (lb_s (lb_s (lb_s (lb_n (lb_n (lb_n (lb_n (lb_n lb_e)))))))))
theorem c_M_parts_2 {P : Int32 → mm_I → Prop} {I : mm_I} (x1 : Int32) (x2 : Int32) (x3 : Int32)
  (H : (x2 ≤ x3 →
      P 1 I) ∧
    (x3 < x2 →
      vp_in x3 128 ∧
      vp_in (64 + x3) 128 ∧
      mm_Mi 125 [.int (if x1 = 3 then ((((2 * (I 78 x3.toNatClampNeg)) + ((I 78 ((64 + x3).toNatClampNeg)) &&& 1)) + (I 78 ((64 + x3).toNatClampNeg))) >>> (1 &&& 31) : Int32) else (if x1 = 2 then ((I 78 x3.toNatClampNeg) + (I 78 ((64 + x3).toNatClampNeg)) : Int32) else (I 78 x3.toNatClampNeg))), .int (-(1 <<< (((I 58 36) - 1) &&& 31))), .int ((1 <<< (((I 58 36) - 1) &&& 31)) - 1)] I (fun r105 I105 =>  -- M.within
      (r105 = 0 →
        P 0 I105) ∧
      (¬ r105 = 0 →
        (¬ (I105 58 35) = 2 →
          vp_in x3 128 ∧
          vp_in (64 + x3) 128 ∧
          mm_W 207 2 [some (.ref 58), some (.int x1), some (.int x2), some (.int (x3 + 1)), none, none, none, none, none] [] (mm_up (mm_up I105 78 x3.toNatClampNeg (if x1 = 3 then ((((2 * (I 78 x3.toNatClampNeg)) + ((I 78 ((64 + x3).toNatClampNeg)) &&& 1)) + (I 78 ((64 + x3).toNatClampNeg))) >>> (1 &&& 31) : Int32) else (if x1 = 2 then ((I 78 x3.toNatClampNeg) + (I 78 ((64 + x3).toNatClampNeg)) : Int32) else (I 78 x3.toNatClampNeg)))) 78 ((64 + x3).toNatClampNeg) (if x1 = 3 then (((((2 * (I 78 x3.toNatClampNeg)) + ((I 78 ((64 + x3).toNatClampNeg)) &&& 1)) + (I 78 ((64 + x3).toNatClampNeg))) >>> (1 &&& 31)) - (I 78 ((64 + x3).toNatClampNeg)) : Int32) else (if x1 = 1 then ((I 78 x3.toNatClampNeg) - (I 78 ((64 + x3).toNatClampNeg)) : Int32) else (I 78 ((64 + x3).toNatClampNeg))))) (mm_qi 207 P)) ∧
        ((I105 58 35) = 2 →
          mm_Mi 125 [.int (if x1 = 3 then (((((2 * (I 78 x3.toNatClampNeg)) + ((I 78 ((64 + x3).toNatClampNeg)) &&& 1)) + (I 78 ((64 + x3).toNatClampNeg))) >>> (1 &&& 31)) - (I 78 ((64 + x3).toNatClampNeg)) : Int32) else (if x1 = 1 then ((I 78 x3.toNatClampNeg) - (I 78 ((64 + x3).toNatClampNeg)) : Int32) else (I 78 ((64 + x3).toNatClampNeg)))), .int (-(1 <<< (((I 58 36) - 1) &&& 31))), .int ((1 <<< (((I 58 36) - 1) &&& 31)) - 1)] I105 (fun r128 I128 =>  -- M.within
          (¬ r128 = 0 →
            vp_in x3 128 ∧
            vp_in (64 + x3) 128 ∧
            mm_W 207 2 [some (.ref 58), some (.int x1), some (.int x2), some (.int (x3 + 1)), none, none, none, none, none] [] (mm_up (mm_up I128 78 x3.toNatClampNeg (if x1 = 3 then ((((2 * (I 78 x3.toNatClampNeg)) + ((I 78 ((64 + x3).toNatClampNeg)) &&& 1)) + (I 78 ((64 + x3).toNatClampNeg))) >>> (1 &&& 31) : Int32) else (if x1 = 2 then ((I 78 x3.toNatClampNeg) + (I 78 ((64 + x3).toNatClampNeg)) : Int32) else (I 78 x3.toNatClampNeg)))) 78 ((64 + x3).toNatClampNeg) (if x1 = 3 then (((((2 * (I 78 x3.toNatClampNeg)) + ((I 78 ((64 + x3).toNatClampNeg)) &&& 1)) + (I 78 ((64 + x3).toNatClampNeg))) >>> (1 &&& 31)) - (I 78 ((64 + x3).toNatClampNeg)) : Int32) else (if x1 = 1 then ((I 78 x3.toNatClampNeg) - (I 78 ((64 + x3).toNatClampNeg)) : Int32) else (I 78 ((64 + x3).toNatClampNeg))))) (mm_qi 207 P)) ∧
          (r128 = 0 →
            P 0 I128))))))) : mm_W 207 2 [some (.ref 58), some (.int x1), some (.int x2), some (.int x3), none, none, none, none, none] [] I (mm_qi 207 P) := by
  refine w_iload_n (n := 3) rfl rfl rfl ?_
  refine w_iload_n (n := 4) rfl rfl rfl ?_
  refine w_icmp_ge (n := 7) rfl rfl ⟨fun hc => ?_, fun hc => ?_⟩
  · replace H := H.1 hc
    refine w_iconst (v := 1) (n := 162) rfl rfl rfl ?_
    exact w_zreturn rfl rfl ⟨by decide, H⟩
  · replace H := H.2 hc
    refine w_aload_nR (x := 58) (n := 8) rfl rfl rfl ?_
    refine w_getR (b := 78) (n := 11) rfl rfl rfl rfl rfl ?_
    refine w_iload_n (n := 12) rfl rfl rfl ?_
    refine w_iaload (N := 128) (j := x3.toNatClampNeg) (n := 13) rfl rfl rfl rfl rfl rfl ⟨H.1, ?_⟩
    replace H := H.2
    refine w_istore (ls' := [some (.ref 58), some (.int x1), some (.int x2), some (.int x3), some (.int (I 78 x3.toNatClampNeg)), none, none, none, none]) (n := 15) rfl rfl rfl rfl ?_
    refine w_aload_nR (x := 58) (n := 16) rfl rfl rfl ?_
    refine w_getR (b := 78) (n := 19) rfl rfl rfl rfl rfl ?_
    refine w_bipush (v := 64) (n := 21) rfl rfl rfl ?_
    refine w_iload_n (n := 22) rfl rfl rfl ?_
    refine w_iadd (n := 23) rfl rfl ?_
    refine w_iaload (N := 128) (j := (64 + x3).toNatClampNeg) (n := 24) rfl rfl rfl rfl rfl rfl ⟨H.1, ?_⟩
    replace H := H.2
    refine w_istore (ls' := [some (.ref 58), some (.int x1), some (.int x2), some (.int x3), some (.int (I 78 x3.toNatClampNeg)), some (.int (I 78 ((64 + x3).toNatClampNeg))), none, none, none]) (n := 26) rfl rfl rfl rfl ?_
    refine w_iload (n := 28) rfl rfl rfl ?_
    refine w_istore (ls' := [some (.ref 58), some (.int x1), some (.int x2), some (.int x3), some (.int (I 78 x3.toNatClampNeg)), some (.int (I 78 ((64 + x3).toNatClampNeg))), some (.int (I 78 x3.toNatClampNeg)), none, none]) (n := 30) rfl rfl rfl rfl ?_
    refine w_iload (n := 32) rfl rfl rfl ?_
    refine w_istore (ls' := [some (.ref 58), some (.int x1), some (.int x2), some (.int x3), some (.int (I 78 x3.toNatClampNeg)), some (.int (I 78 ((64 + x3).toNatClampNeg))), some (.int (I 78 x3.toNatClampNeg)), some (.int (I 78 ((64 + x3).toNatClampNeg))), none]) (n := 34) rfl rfl rfl rfl ?_
    refine w_iload_n (n := 35) rfl rfl rfl ?_
    refine w_iconst (v := 1) (n := 36) rfl rfl rfl ?_
    have J36 : ∀ (y36_7 : Int32), y36_7 = (if x1 = 1 then ((I 78 x3.toNatClampNeg) - (I 78 ((64 + x3).toNatClampNeg)) : Int32) else (I 78 ((64 + x3).toNatClampNeg))) → mm_W 207 46 [some (.ref 58), some (.int x1), some (.int x2), some (.int x3), some (.int (I 78 x3.toNatClampNeg)), some (.int (I 78 ((64 + x3).toNatClampNeg))), some (.int (I 78 x3.toNatClampNeg)), some (.int y36_7), none] [] I (mm_qi 207 P) := by
      intro y36_7 e36_0
      subst e36_0
      refine w_iload_n (n := 47) rfl rfl rfl ?_
      refine w_iconst (v := 2) (n := 48) rfl rfl rfl ?_
      have J48 : ∀ (y48_6 : Int32), y48_6 = (if x1 = 2 then ((I 78 x3.toNatClampNeg) + (I 78 ((64 + x3).toNatClampNeg)) : Int32) else (I 78 x3.toNatClampNeg)) → mm_W 207 58 [some (.ref 58), some (.int x1), some (.int x2), some (.int x3), some (.int (I 78 x3.toNatClampNeg)), some (.int (I 78 ((64 + x3).toNatClampNeg))), some (.int y48_6), some (.int (if x1 = 1 then ((I 78 x3.toNatClampNeg) - (I 78 ((64 + x3).toNatClampNeg)) : Int32) else (I 78 ((64 + x3).toNatClampNeg)))), none] [] I (mm_qi 207 P) := by
        intro y48_6 e48_0
        subst e48_0
        refine w_iload_n (n := 59) rfl rfl rfl ?_
        refine w_iconst (v := 3) (n := 60) rfl rfl rfl ?_
        have J60 : ∀ (y60_6 : Int32) (y60_7 : Int32), y60_6 = (if x1 = 3 then ((((2 * (I 78 x3.toNatClampNeg)) + ((I 78 ((64 + x3).toNatClampNeg)) &&& 1)) + (I 78 ((64 + x3).toNatClampNeg))) >>> (1 &&& 31) : Int32) else (if x1 = 2 then ((I 78 x3.toNatClampNeg) + (I 78 ((64 + x3).toNatClampNeg)) : Int32) else (I 78 x3.toNatClampNeg))) → y60_7 = (if x1 = 3 then (((((2 * (I 78 x3.toNatClampNeg)) + ((I 78 ((64 + x3).toNatClampNeg)) &&& 1)) + (I 78 ((64 + x3).toNatClampNeg))) >>> (1 &&& 31)) - (I 78 ((64 + x3).toNatClampNeg)) : Int32) else (if x1 = 1 then ((I 78 x3.toNatClampNeg) - (I 78 ((64 + x3).toNatClampNeg)) : Int32) else (I 78 ((64 + x3).toNatClampNeg)))) → mm_W 207 86 [some (.ref 58), some (.int x1), some (.int x2), some (.int x3), some (.int (I 78 x3.toNatClampNeg)), some (.int (I 78 ((64 + x3).toNatClampNeg))), some (.int y60_6), some (.int y60_7), none] [] I (mm_qi 207 P) := by
          intro y60_6 y60_7 e60_0 e60_1
          subst e60_0
          subst e60_1
          refine w_iconst (v := 1) (n := 87) rfl rfl rfl ?_
          refine w_aload_nR (x := 58) (n := 88) rfl rfl rfl ?_
          refine w_getI (n := 91) rfl rfl rfl rfl ?_
          refine w_iconst (v := 1) (n := 92) rfl rfl rfl ?_
          refine w_isub (n := 93) rfl rfl ?_
          refine w_ishl (n := 94) rfl rfl ?_
          refine w_istore (ls' := [some (.ref 58), some (.int x1), some (.int x2), some (.int x3), some (.int (I 78 x3.toNatClampNeg)), some (.int (I 78 ((64 + x3).toNatClampNeg))), some (.int (if x1 = 3 then ((((2 * (I 78 x3.toNatClampNeg)) + ((I 78 ((64 + x3).toNatClampNeg)) &&& 1)) + (I 78 ((64 + x3).toNatClampNeg))) >>> (1 &&& 31) : Int32) else (if x1 = 2 then ((I 78 x3.toNatClampNeg) + (I 78 ((64 + x3).toNatClampNeg)) : Int32) else (I 78 x3.toNatClampNeg)))), some (.int (if x1 = 3 then (((((2 * (I 78 x3.toNatClampNeg)) + ((I 78 ((64 + x3).toNatClampNeg)) &&& 1)) + (I 78 ((64 + x3).toNatClampNeg))) >>> (1 &&& 31)) - (I 78 ((64 + x3).toNatClampNeg)) : Int32) else (if x1 = 1 then ((I 78 x3.toNatClampNeg) - (I 78 ((64 + x3).toNatClampNeg)) : Int32) else (I 78 ((64 + x3).toNatClampNeg))))), some (.int (1 <<< (((I 58 36) - 1) &&& 31)))]) (n := 96) rfl rfl rfl rfl ?_
          refine w_iload (n := 98) rfl rfl rfl ?_
          refine w_iload (n := 100) rfl rfl rfl ?_
          refine w_ineg (n := 101) rfl rfl ?_
          refine w_iload (n := 103) rfl rfl rfl ?_
          refine w_iconst (v := 1) (n := 104) rfl rfl rfl ?_
          refine w_isub (n := 105) rfl rfl ?_
          refine w_calli (as := [.int (if x1 = 3 then ((((2 * (I 78 x3.toNatClampNeg)) + ((I 78 ((64 + x3).toNatClampNeg)) &&& 1)) + (I 78 ((64 + x3).toNatClampNeg))) >>> (1 &&& 31) : Int32) else (if x1 = 2 then ((I 78 x3.toNatClampNeg) + (I 78 ((64 + x3).toNatClampNeg)) : Int32) else (I 78 x3.toNatClampNeg))), .int (-(1 <<< (((I 58 36) - 1) &&& 31))), .int ((1 <<< (((I 58 36) - 1) &&& 31)) - 1)]) (rest := []) (n := 108) rfl rfl rfl rfl ?_
          obtain ⟨r105, I105, hI105, H⟩ := H
          refine ⟨r105, I105, hI105, ?_⟩
          refine w_if_eq (n := 111) rfl rfl ⟨fun hc => ?_, fun hc => ?_⟩
          · replace H := H.1 hc
            refine w_iconst (v := 0) (n := 135) rfl rfl rfl ?_
            exact w_zreturn rfl rfl ⟨by decide, H⟩
          · replace H := H.2 hc
            refine w_aload_nR (x := 58) (n := 112) rfl rfl rfl ?_
            refine w_getI (n := 115) rfl rfl rfl rfl ?_
            refine w_iconst (v := 2) (n := 116) rfl rfl rfl ?_
            refine w_icmp_ne (n := 119) rfl rfl ⟨fun hc => ?_, fun hc => ?_⟩
            · replace H := H.1 hc
              refine w_aload_nR (x := 58) (n := 137) rfl rfl rfl ?_
              refine w_getR (b := 78) (n := 140) rfl rfl rfl rfl rfl ?_
              refine w_iload_n (n := 141) rfl rfl rfl ?_
              refine w_iload (n := 143) rfl rfl rfl ?_
              refine w_iastore (N := 128) (j := x3.toNatClampNeg) (n := 144) rfl rfl rfl rfl rfl ⟨H.1, ?_⟩
              replace H := H.2
              refine w_aload_nR (x := 58) (n := 145) rfl rfl rfl ?_
              refine w_getR (b := 78) (n := 148) rfl rfl rfl rfl rfl ?_
              refine w_bipush (v := 64) (n := 150) rfl rfl rfl ?_
              refine w_iload_n (n := 151) rfl rfl rfl ?_
              refine w_iadd (n := 152) rfl rfl ?_
              refine w_iload (n := 154) rfl rfl rfl ?_
              refine w_iastore (N := 128) (j := (64 + x3).toNatClampNeg) (n := 155) rfl rfl rfl rfl rfl ⟨H.1, ?_⟩
              replace H := H.2
              refine w_iinc (y := x3 + 1) (ls' := [some (.ref 58), some (.int x1), some (.int x2), some (.int (x3 + 1)), some (.int (I 78 x3.toNatClampNeg)), some (.int (I 78 ((64 + x3).toNatClampNeg))), some (.int (if x1 = 3 then ((((2 * (I 78 x3.toNatClampNeg)) + ((I 78 ((64 + x3).toNatClampNeg)) &&& 1)) + (I 78 ((64 + x3).toNatClampNeg))) >>> (1 &&& 31) : Int32) else (if x1 = 2 then ((I 78 x3.toNatClampNeg) + (I 78 ((64 + x3).toNatClampNeg)) : Int32) else (I 78 x3.toNatClampNeg)))), some (.int (if x1 = 3 then (((((2 * (I 78 x3.toNatClampNeg)) + ((I 78 ((64 + x3).toNatClampNeg)) &&& 1)) + (I 78 ((64 + x3).toNatClampNeg))) >>> (1 &&& 31)) - (I 78 ((64 + x3).toNatClampNeg)) : Int32) else (if x1 = 1 then ((I 78 x3.toNatClampNeg) - (I 78 ((64 + x3).toNatClampNeg)) : Int32) else (I 78 ((64 + x3).toNatClampNeg))))), some (.int (1 <<< (((I 58 36) - 1) &&& 31)))]) (n := 158) rfl rfl rfl rfl rfl ?_
              refine w_goto rfl ?_
              exact w_drp mm_Qf_i H (lb_s (lb_s (lb_s (lb_s (lb_n (lb_n (lb_n (lb_n (lb_n lb_e)))))))))
            · replace H := H.2 hc
              refine w_iload (n := 121) rfl rfl rfl ?_
              refine w_iload (n := 123) rfl rfl rfl ?_
              refine w_ineg (n := 124) rfl rfl ?_
              refine w_iload (n := 126) rfl rfl rfl ?_
              refine w_iconst (v := 1) (n := 127) rfl rfl rfl ?_
              refine w_isub (n := 128) rfl rfl ?_
              refine w_calli (as := [.int (if x1 = 3 then (((((2 * (I 78 x3.toNatClampNeg)) + ((I 78 ((64 + x3).toNatClampNeg)) &&& 1)) + (I 78 ((64 + x3).toNatClampNeg))) >>> (1 &&& 31)) - (I 78 ((64 + x3).toNatClampNeg)) : Int32) else (if x1 = 1 then ((I 78 x3.toNatClampNeg) - (I 78 ((64 + x3).toNatClampNeg)) : Int32) else (I 78 ((64 + x3).toNatClampNeg)))), .int (-(1 <<< (((I 58 36) - 1) &&& 31))), .int ((1 <<< (((I 58 36) - 1) &&& 31)) - 1)]) (rest := []) (n := 131) rfl rfl rfl rfl ?_
              obtain ⟨r128, I128, hI128, H⟩ := H
              refine ⟨r128, I128, hI128, ?_⟩
              refine w_if_ne (n := 134) rfl rfl ⟨fun hc => ?_, fun hc => ?_⟩
              · replace H := H.1 hc
                refine w_aload_nR (x := 58) (n := 137) rfl rfl rfl ?_
                refine w_getR (b := 78) (n := 140) rfl rfl rfl rfl rfl ?_
                refine w_iload_n (n := 141) rfl rfl rfl ?_
                refine w_iload (n := 143) rfl rfl rfl ?_
                refine w_iastore (N := 128) (j := x3.toNatClampNeg) (n := 144) rfl rfl rfl rfl rfl ⟨H.1, ?_⟩
                replace H := H.2
                refine w_aload_nR (x := 58) (n := 145) rfl rfl rfl ?_
                refine w_getR (b := 78) (n := 148) rfl rfl rfl rfl rfl ?_
                refine w_bipush (v := 64) (n := 150) rfl rfl rfl ?_
                refine w_iload_n (n := 151) rfl rfl rfl ?_
                refine w_iadd (n := 152) rfl rfl ?_
                refine w_iload (n := 154) rfl rfl rfl ?_
                refine w_iastore (N := 128) (j := (64 + x3).toNatClampNeg) (n := 155) rfl rfl rfl rfl rfl ⟨H.1, ?_⟩
                replace H := H.2
                refine w_iinc (y := x3 + 1) (ls' := [some (.ref 58), some (.int x1), some (.int x2), some (.int (x3 + 1)), some (.int (I 78 x3.toNatClampNeg)), some (.int (I 78 ((64 + x3).toNatClampNeg))), some (.int (if x1 = 3 then ((((2 * (I 78 x3.toNatClampNeg)) + ((I 78 ((64 + x3).toNatClampNeg)) &&& 1)) + (I 78 ((64 + x3).toNatClampNeg))) >>> (1 &&& 31) : Int32) else (if x1 = 2 then ((I 78 x3.toNatClampNeg) + (I 78 ((64 + x3).toNatClampNeg)) : Int32) else (I 78 x3.toNatClampNeg)))), some (.int (if x1 = 3 then (((((2 * (I 78 x3.toNatClampNeg)) + ((I 78 ((64 + x3).toNatClampNeg)) &&& 1)) + (I 78 ((64 + x3).toNatClampNeg))) >>> (1 &&& 31)) - (I 78 ((64 + x3).toNatClampNeg)) : Int32) else (if x1 = 1 then ((I 78 x3.toNatClampNeg) - (I 78 ((64 + x3).toNatClampNeg)) : Int32) else (I 78 ((64 + x3).toNatClampNeg))))), some (.int (1 <<< (((I 58 36) - 1) &&& 31)))]) (n := 158) rfl rfl rfl rfl rfl ?_
                refine w_goto rfl ?_
                exact w_drp mm_Qf_i H (lb_s (lb_s (lb_s (lb_s (lb_n (lb_n (lb_n (lb_n (lb_n lb_e)))))))))
              · replace H := H.2 hc
                refine w_iconst (v := 0) (n := 135) rfl rfl rfl ?_
                exact w_zreturn rfl rfl ⟨by decide, H⟩
        refine w_icmp_ne (n := 63) rfl rfl ⟨fun hc => ?_, fun hc => ?_⟩
        · refine w_drp mm_Qf_i (J60 _ _ ?_ ?_) (lb_s (lb_s (lb_s (lb_s (lb_s (lb_s (lb_s (lb_s (lb_n lb_e)))))))))
          · exact (if_neg hc).symm
          · exact (if_neg hc).symm
        · refine w_iconst (v := 2) (n := 64) rfl rfl rfl ?_
          refine w_iload (n := 66) rfl rfl rfl ?_
          refine w_imul (n := 67) rfl rfl ?_
          refine w_iload (n := 69) rfl rfl rfl ?_
          refine w_iconst (v := 1) (n := 70) rfl rfl rfl ?_
          refine w_iand (n := 71) rfl rfl ?_
          refine w_iadd (n := 72) rfl rfl ?_
          refine w_iload (n := 74) rfl rfl rfl ?_
          refine w_iadd (n := 75) rfl rfl ?_
          refine w_iconst (v := 1) (n := 76) rfl rfl rfl ?_
          refine w_ishr (n := 77) rfl rfl ?_
          refine w_istore (ls' := [some (.ref 58), some (.int x1), some (.int x2), some (.int x3), some (.int (I 78 x3.toNatClampNeg)), some (.int (I 78 ((64 + x3).toNatClampNeg))), some (.int ((((2 * (I 78 x3.toNatClampNeg)) + ((I 78 ((64 + x3).toNatClampNeg)) &&& 1)) + (I 78 ((64 + x3).toNatClampNeg))) >>> (1 &&& 31))), some (.int (if x1 = 1 then ((I 78 x3.toNatClampNeg) - (I 78 ((64 + x3).toNatClampNeg)) : Int32) else (I 78 ((64 + x3).toNatClampNeg)))), none]) (n := 79) rfl rfl rfl rfl ?_
          refine w_iload (n := 81) rfl rfl rfl ?_
          refine w_iload (n := 83) rfl rfl rfl ?_
          refine w_isub (n := 84) rfl rfl ?_
          refine w_istore (ls' := [some (.ref 58), some (.int x1), some (.int x2), some (.int x3), some (.int (I 78 x3.toNatClampNeg)), some (.int (I 78 ((64 + x3).toNatClampNeg))), some (.int ((((2 * (I 78 x3.toNatClampNeg)) + ((I 78 ((64 + x3).toNatClampNeg)) &&& 1)) + (I 78 ((64 + x3).toNatClampNeg))) >>> (1 &&& 31))), some (.int (((((2 * (I 78 x3.toNatClampNeg)) + ((I 78 ((64 + x3).toNatClampNeg)) &&& 1)) + (I 78 ((64 + x3).toNatClampNeg))) >>> (1 &&& 31)) - (I 78 ((64 + x3).toNatClampNeg)))), none]) (n := 86) rfl rfl rfl rfl ?_
          refine w_drp mm_Qf_i (J60 _ _ ?_ ?_) (lb_s (lb_s (lb_s (lb_s (lb_s (lb_s (lb_s (lb_s (lb_n lb_e)))))))))
          · exact (if_pos hc).symm
          · exact (if_pos hc).symm
      refine w_icmp_ne (n := 51) rfl rfl ⟨fun hc => ?_, fun hc => ?_⟩
      · refine w_drp mm_Qf_i (J48 _ ?_) (lb_s (lb_s (lb_s (lb_s (lb_s (lb_s (lb_s (lb_s (lb_n lb_e)))))))))
        · exact (if_neg hc).symm
      · refine w_iload (n := 53) rfl rfl rfl ?_
        refine w_iload (n := 55) rfl rfl rfl ?_
        refine w_iadd (n := 56) rfl rfl ?_
        refine w_istore (ls' := [some (.ref 58), some (.int x1), some (.int x2), some (.int x3), some (.int (I 78 x3.toNatClampNeg)), some (.int (I 78 ((64 + x3).toNatClampNeg))), some (.int ((I 78 x3.toNatClampNeg) + (I 78 ((64 + x3).toNatClampNeg)))), some (.int (if x1 = 1 then ((I 78 x3.toNatClampNeg) - (I 78 ((64 + x3).toNatClampNeg)) : Int32) else (I 78 ((64 + x3).toNatClampNeg)))), none]) (n := 58) rfl rfl rfl rfl ?_
        refine w_drp mm_Qf_i (J48 _ ?_) (lb_s (lb_s (lb_s (lb_s (lb_s (lb_s (lb_s (lb_s (lb_n lb_e)))))))))
        · exact (if_pos hc).symm
    refine w_icmp_ne (n := 39) rfl rfl ⟨fun hc => ?_, fun hc => ?_⟩
    · refine w_drp mm_Qf_i (J36 _ ?_) (lb_s (lb_s (lb_s (lb_s (lb_s (lb_s (lb_s (lb_s (lb_n lb_e)))))))))
      · exact (if_neg hc).symm
    · refine w_iload (n := 41) rfl rfl rfl ?_
      refine w_iload (n := 43) rfl rfl rfl ?_
      refine w_isub (n := 44) rfl rfl ?_
      refine w_istore (ls' := [some (.ref 58), some (.int x1), some (.int x2), some (.int x3), some (.int (I 78 x3.toNatClampNeg)), some (.int (I 78 ((64 + x3).toNatClampNeg))), some (.int (I 78 x3.toNatClampNeg)), some (.int ((I 78 x3.toNatClampNeg) - (I 78 ((64 + x3).toNatClampNeg)))), none]) (n := 46) rfl rfl rfl rfl ?_
      refine w_drp mm_Qf_i (J36 _ ?_) (lb_s (lb_s (lb_s (lb_s (lb_s (lb_s (lb_s (lb_s (lb_n lb_e)))))))))
      · exact (if_pos hc).symm
theorem e_M_sizeAt {P : Int32 → mm_I → Prop} {I : mm_I} (x1 : Int32)
  (H : P (if (I 58 37) ≤ ((I 58 38) - ((I 58 37) * x1)) then ((I 58 37) : Int32) else (I 58 38) - ((I 58 37) * x1)) I) : mm_Mi 208 [.ref 58, .int x1] I P := by
  refine mm_Mi_of ?_
  show mm_W 208 0 [some (.ref 58), some (.int x1)] [] I (mm_qi 208 P)
  refine w_aload_nR (x := 58) (n := 1) rfl rfl rfl ?_
  refine w_getI (n := 4) rfl rfl rfl rfl ?_
  refine w_aload_nR (x := 58) (n := 5) rfl rfl rfl ?_
  refine w_getI (n := 8) rfl rfl rfl rfl ?_
  refine w_iload_n (n := 9) rfl rfl rfl ?_
  refine w_imul (n := 10) rfl rfl ?_
  refine w_isub (n := 11) rfl rfl ?_
  refine w_aload_nR (x := 58) (n := 12) rfl rfl rfl ?_
  refine w_getI (n := 15) rfl rfl rfl rfl ?_
  have J15 : ∀ (w15_0 : Int32), w15_0 = (if (I 58 37) ≤ ((I 58 38) - ((I 58 37) * x1)) then ((I 58 37) : Int32) else (I 58 38) - ((I 58 37) * x1)) → mm_W 208 36 [some (.ref 58), some (.int x1)] [.int w15_0] I (mm_qi 208 P) := by
    intro w15_0 e15_0
    subst e15_0
    exact w_ireturn rfl rfl H
  refine w_icmp_ge (n := 18) rfl rfl ⟨fun hc => ?_, fun hc => ?_⟩
  · refine w_aload_nR (x := 58) (n := 33) rfl rfl rfl ?_
    refine w_getI (n := 36) rfl rfl rfl rfl ?_
    refine w_drp mm_Qf_i (J15 _ ?_) (lb_s (lb_s lb_e))
    · exact (if_pos hc).symm
  · refine w_aload_nR (x := 58) (n := 19) rfl rfl rfl ?_
    refine w_getI (n := 22) rfl rfl rfl rfl ?_
    refine w_aload_nR (x := 58) (n := 23) rfl rfl rfl ?_
    refine w_getI (n := 26) rfl rfl rfl rfl ?_
    refine w_iload_n (n := 27) rfl rfl rfl ?_
    refine w_imul (n := 28) rfl rfl ?_
    refine w_isub (n := 29) rfl rfl ?_
    refine w_goto rfl ?_
    refine w_drp mm_Qf_i (J15 _ ?_) (lb_s (lb_s lb_e))
    · exact (if_neg (fa_nle hc)).symm
