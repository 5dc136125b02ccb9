theorem e_M_lengthAt {P : Int32 → mm_I → Prop} {I : mm_I} (x1 : Int32) (x2 : Int32)
  (H : ((I 58 15) < (x1 + 4) →
      P (-1) I) ∧
    ((x1 + 4) ≤ (I 58 15) →
      vp_in x1 4000 ∧
      (¬ (I 66 x1.toNatClampNeg) = 165 →
        P (-1) I) ∧
      ((I 66 x1.toNatClampNeg) = 165 →
        vp_in (x1 + 1) 4000 ∧
        ((I 66 ((x1 + 1).toNatClampNeg)) < x2 →
          P (-1) I) ∧
        (x2 ≤ (I 66 ((x1 + 1).toNatClampNeg)) →
          vp_in (x1 + 1) 4000 ∧
          mm_Mi 200 [.ref 58] I (fun r43 I43 =>  -- M.headFrames
          ((I 66 ((x1 + 1).toNatClampNeg)) < r43 →
            vp_in (x1 + 1) 4000 ∧
            mm_Mi 208 [.ref 58, .int (I43 66 ((x1 + 1).toNatClampNeg))] I43 (fun r60 I60 =>  -- M.sizeAt
            (¬ (I60 58 35) = 2 →
              mm_W 209 102 [some (.ref 58), some (.int x1), none, some (.int r60), some (.int 0), some (.int 0)] [] (mm_up (mm_up I60 58 39 ((8 * x1) + 16)) 58 40 0) (mm_qi 209 P)) ∧
            ((I60 58 35) = 2 →
              mm_Mi 202 [.ref 58, .int 2] (mm_up (mm_up I60 58 39 ((8 * x1) + 16)) 58 40 0) (fun r90 I90 =>  -- M.bits
              mm_W 209 102 [some (.ref 58), some (.int x1), none, some (.int r60), some (.int r90), some (.int 0)] [] I90 (mm_qi 209 P))))) ∧
          (r43 ≤ (I 66 ((x1 + 1).toNatClampNeg)) →
            P (-1) I43)))))) : mm_Mi 209 [.ref 58, .int x1, .int x2] I P := by
  refine mm_Mi_of ?_
  show mm_W 209 0 [some (.ref 58), some (.int x1), some (.int x2), none, none, none] [] I (mm_qi 209 P)
  refine w_iload_n (n := 1) rfl rfl rfl ?_
  refine w_iconst (v := 4) (n := 2) rfl rfl rfl ?_
  refine w_iadd (n := 3) rfl rfl ?_
  refine w_aload_nR (x := 58) (n := 4) rfl rfl rfl ?_
  refine w_getI (n := 7) rfl rfl rfl rfl ?_
  refine w_icmp_gt (n := 10) rfl rfl ⟨fun hc => ?_, fun hc => ?_⟩
  · replace H := H.1 hc
    refine w_iconst (v := (-1)) (n := 50) rfl rfl rfl ?_
    exact w_ireturn rfl rfl H
  · replace H := H.2 hc
    refine w_aload_nR (x := 58) (n := 11) rfl rfl rfl ?_
    refine w_getR (b := 66) (n := 14) rfl rfl rfl rfl rfl ?_
    refine w_iload_n (n := 15) rfl rfl rfl ?_
    refine w_iaload (N := 4000) (j := x1.toNatClampNeg) (n := 16) rfl rfl rfl rfl rfl rfl ⟨H.1, ?_⟩
    replace H := H.2
    refine w_sipush (v := 165) (n := 19) rfl rfl rfl ?_
    refine w_icmp_ne (n := 22) rfl rfl ⟨fun hc => ?_, fun hc => ?_⟩
    · replace H := H.1 hc
      refine w_iconst (v := (-1)) (n := 50) rfl rfl rfl ?_
      exact w_ireturn rfl rfl H
    · replace H := H.2 hc
      refine w_aload_nR (x := 58) (n := 23) rfl rfl rfl ?_
      refine w_getR (b := 66) (n := 26) rfl rfl rfl rfl rfl ?_
      refine w_iload_n (n := 27) rfl rfl rfl ?_
      refine w_iconst (v := 1) (n := 28) rfl rfl rfl ?_
      refine w_iadd (n := 29) rfl rfl ?_
      refine w_iaload (N := 4000) (j := (x1 + 1).toNatClampNeg) (n := 30) rfl rfl rfl rfl rfl rfl ⟨H.1, ?_⟩
      replace H := H.2
      refine w_iload_n (n := 31) rfl rfl rfl ?_
      refine w_icmp_lt (n := 34) rfl rfl ⟨fun hc => ?_, fun hc => ?_⟩
      · replace H := H.1 hc
        refine w_iconst (v := (-1)) (n := 50) rfl rfl rfl ?_
        exact w_ireturn rfl rfl H
      · replace H := H.2 hc
        refine w_aload_nR (x := 58) (n := 35) rfl rfl rfl ?_
        refine w_getR (b := 66) (n := 38) rfl rfl rfl rfl rfl ?_
        refine w_iload_n (n := 39) rfl rfl rfl ?_
        refine w_iconst (v := 1) (n := 40) rfl rfl rfl ?_
        refine w_iadd (n := 41) rfl rfl ?_
        refine w_iaload (N := 4000) (j := (x1 + 1).toNatClampNeg) (n := 42) rfl rfl rfl rfl rfl rfl ⟨H.1, ?_⟩
        replace H := H.2
        refine w_aload_nR (x := 58) (n := 43) rfl rfl rfl ?_
        refine w_calli (as := [.ref 58]) (rest := [.int (I 66 ((x1 + 1).toNatClampNeg))]) (n := 46) rfl rfl rfl rfl ?_
        obtain ⟨r43, I43, hI43, H⟩ := H
        refine ⟨r43, I43, hI43, ?_⟩
        refine w_icmp_lt (n := 49) rfl rfl ⟨fun hc => ?_, fun hc => ?_⟩
        · replace H := H.1 hc
          refine w_aload_nR (x := 58) (n := 52) rfl rfl rfl ?_
          refine w_aload_nR (x := 58) (n := 53) rfl rfl rfl ?_
          refine w_getR (b := 66) (n := 56) rfl rfl rfl rfl rfl ?_
          refine w_iload_n (n := 57) rfl rfl rfl ?_
          refine w_iconst (v := 1) (n := 58) rfl rfl rfl ?_
          refine w_iadd (n := 59) rfl rfl ?_
          refine w_iaload (N := 4000) (j := (x1 + 1).toNatClampNeg) (n := 60) rfl rfl rfl rfl rfl rfl ⟨H.1, ?_⟩
          replace H := H.2
          refine w_calli (as := [.ref 58, .int (I43 66 ((x1 + 1).toNatClampNeg))]) (rest := []) (n := 63) rfl rfl rfl rfl ?_
          obtain ⟨r60, I60, hI60, H⟩ := H
          refine ⟨r60, I60, hI60, ?_⟩
          refine w_istore_n (ls' := [some (.ref 58), some (.int x1), some (.int x2), some (.int r60), none, none]) (n := 64) rfl rfl rfl rfl ?_
          refine w_aload_nR (x := 58) (n := 65) rfl rfl rfl ?_
          refine w_bipush (v := 8) (n := 67) rfl rfl rfl ?_
          refine w_iload_n (n := 68) rfl rfl rfl ?_
          refine w_imul (n := 69) rfl rfl ?_
          refine w_bipush (v := 16) (n := 71) rfl rfl rfl ?_
          refine w_iadd (n := 72) rfl rfl ?_
          refine w_putI (n := 75) rfl rfl rfl rfl rfl ?_
          refine w_aload_nR (x := 58) (n := 76) rfl rfl rfl ?_
          refine w_iconst (v := 0) (n := 77) rfl rfl rfl ?_
          refine w_putZ (n := 80) rfl rfl rfl rfl rfl rfl ⟨by decide, ?_⟩
          refine w_aload_nR (x := 58) (n := 81) rfl rfl rfl ?_
          refine w_getI (n := 84) rfl rfl rfl rfl ?_
          refine w_iconst (v := 2) (n := 85) rfl rfl rfl ?_
          refine w_icmp_ne (n := 88) rfl rfl ⟨fun hc => ?_, fun hc => ?_⟩
          · replace H := H.1 hc
            refine w_iconst (v := 0) (n := 97) rfl rfl rfl ?_
            refine w_istore (ls' := [some (.ref 58), some (.int x1), some (.int x2), some (.int r60), some (.int 0), none]) (n := 99) rfl rfl rfl rfl ?_
            refine w_iconst (v := 0) (n := 100) rfl rfl rfl ?_
            refine w_istore (ls' := [some (.ref 58), some (.int x1), some (.int x2), some (.int r60), some (.int 0), some (.int 0)]) (n := 102) rfl rfl rfl rfl ?_
            exact w_drp mm_Qf_i H (lb_s (lb_s (lb_n (lb_s (lb_s (lb_s lb_e))))))
          · replace H := H.2 hc
            refine w_aload_nR (x := 58) (n := 89) rfl rfl rfl ?_
            refine w_iconst (v := 2) (n := 90) rfl rfl rfl ?_
            refine w_calli (as := [.ref 58, .int 2]) (rest := []) (n := 93) rfl rfl rfl rfl ?_
            obtain ⟨r90, I90, hI90, H⟩ := H
            refine ⟨r90, I90, hI90, ?_⟩
            refine w_goto rfl ?_
            refine w_istore (ls' := [some (.ref 58), some (.int x1), some (.int x2), some (.int r60), some (.int r90), none]) (n := 99) rfl rfl rfl rfl ?_
            refine w_iconst (v := 0) (n := 100) rfl rfl rfl ?_
            refine w_istore (ls' := [some (.ref 58), some (.int x1), some (.int x2), some (.int r60), some (.int r90), some (.int 0)]) (n := 102) rfl rfl rfl rfl ?_
            exact w_drp mm_Qf_i H (lb_s (lb_s (lb_n (lb_s (lb_s (lb_s lb_e))))))
        · replace H := H.2 hc
          refine w_iconst (v := (-1)) (n := 50) rfl rfl rfl ?_
          exact w_ireturn rfl rfl H
theorem c_M_lengthAt_102 {P : Int32 → mm_I → Prop} {I : mm_I} (x1 : Int32) (x3 : Int32) (x4 : Int32) (x5 : Int32)
  (H : ((I 58 35) ≤ x5 →
      (¬ (I 58 40) = 0 →
        P (-1) I) ∧
      ((I 58 40) = 0 →
        ((I 58 15) < ((((I 58 39) + 7) / 8) + 2) →
          P (-1) I) ∧
        (((((I 58 39) + 7) / 8) + 2) ≤ (I 58 15) →
          mm_Mi 189 [.ref 58, .int x1, .int (((I 58 39) + 7) / 8)] I (fun r194 I194 =>  -- M.checked
          vp_in (((I 58 39) + 7) / 8) 4000 ∧
          vp_in ((((I 58 39) + 7) / 8) + 1) 4000 ∧
          (¬ r194 = ((256 * (I194 66 ((((I 58 39) + 7) / 8).toNatClampNeg))) + (I194 66 (((((I 58 39) + 7) / 8) + 1).toNatClampNeg))) →
            P (-1) I194) ∧
          (r194 = ((256 * (I194 66 ((((I 58 39) + 7) / 8).toNatClampNeg))) + (I194 66 (((((I 58 39) + 7) / 8) + 1).toNatClampNeg))) →
            mm_Mi 207 [.ref 58, .int x4, .int x3] I194 (fun r225 I225 =>  -- M.parts
            (¬ r225 = 0 →
              P (((((I 58 39) + 7) / 8) + 2) - x1) I225) ∧
            (r225 = 0 →
              P (-1) I225))))))) ∧
    (x5 < (I 58 35) →
      (¬ (I 58 40) = 0 →
        (¬ (I 58 40) = 0 →
          P (-1) I) ∧
        ((I 58 40) = 0 →
          ((I 58 15) < ((((I 58 39) + 7) / 8) + 2) →
            P (-1) I) ∧
          (((((I 58 39) + 7) / 8) + 2) ≤ (I 58 15) →
            mm_Mi 189 [.ref 58, .int x1, .int (((I 58 39) + 7) / 8)] I (fun r194 I194 =>  -- M.checked
            vp_in (((I 58 39) + 7) / 8) 4000 ∧
            vp_in ((((I 58 39) + 7) / 8) + 1) 4000 ∧
            (¬ r194 = ((256 * (I194 66 ((((I 58 39) + 7) / 8).toNatClampNeg))) + (I194 66 (((((I 58 39) + 7) / 8) + 1).toNatClampNeg))) →
              P (-1) I194) ∧
            (r194 = ((256 * (I194 66 ((((I 58 39) + 7) / 8).toNatClampNeg))) + (I194 66 (((((I 58 39) + 7) / 8) + 1).toNatClampNeg))) →
              mm_Mi 207 [.ref 58, .int x4, .int x3] I194 (fun r225 I225 =>  -- M.parts
              (¬ r225 = 0 →
                P (((((I 58 39) + 7) / 8) + 2) - x1) I225) ∧
              (r225 = 0 →
                P (-1) I225))))))) ∧
      ((I 58 40) = 0 →
        (¬ (I 58 35) = 2 →
          mm_Mv 206 [.ref 58, .int x5, .int x3, .int ((I 58 36) + 0)] I (fun I151 =>  -- M.readsRow
          mm_W 209 102 [some (.ref 58), some (.int x1), none, some (.int x3), some (.int x4), some (.int (x5 + 1))] [] I151 (mm_qi 209 P))) ∧
        ((I 58 35) = 2 →
          mm_Mi 150 [.int x4, .int x5] I (fun r138 I138 =>  -- M.sortOf
          mm_Mv 206 [.ref 58, .int x5, .int x3, .int ((I 58 36) + (if r138 = 2 then (1 : Int32) else 0))] I138 (fun I151 =>  -- M.readsRow
          mm_W 209 102 [some (.ref 58), some (.int x1), none, some (.int x3), some (.int x4), some (.int (x5 + 1))] [] I151 (mm_qi 209 P))))))) : mm_W 209 102 [some (.ref 58), some (.int x1), none, some (.int x3), some (.int x4), some (.int x5)] [] I (mm_qi 209 P) := by
  refine w_iload (n := 104) rfl rfl rfl ?_
  refine w_aload_nR (x := 58) (n := 105) rfl rfl rfl ?_
  refine w_getI (n := 108) rfl rfl rfl rfl ?_
  refine w_icmp_ge (n := 111) rfl rfl ⟨fun hc => ?_, fun hc => ?_⟩
  · replace H := H.1 hc
    refine w_aload_nR (x := 58) (n := 161) rfl rfl rfl ?_
    refine w_getI (n := 164) rfl rfl rfl rfl ?_
    refine w_bipush (v := 7) (n := 166) rfl rfl rfl ?_
    refine w_iadd (n := 167) rfl rfl ?_
    refine w_bipush (v := 8) (n := 169) rfl rfl rfl ?_
    refine w_idiv (n := 170) rfl rfl ⟨by decide, ?_⟩
    refine w_istore (ls' := [some (.ref 58), some (.int x1), none, some (.int x3), some (.int x4), some (.int (((I 58 39) + 7) / 8))]) (n := 172) rfl rfl rfl rfl ?_
    refine w_aload_nR (x := 58) (n := 173) rfl rfl rfl ?_
    refine w_getI (n := 176) rfl rfl rfl rfl ?_
    refine w_if_ne (n := 179) rfl rfl ⟨fun hc => ?_, fun hc => ?_⟩
    · replace H := H.1 hc
      refine w_iconst (v := (-1)) (n := 232) rfl rfl rfl ?_
      exact w_ireturn rfl rfl H
    · replace H := H.2 hc
      refine w_iload (n := 181) rfl rfl rfl ?_
      refine w_iconst (v := 2) (n := 182) rfl rfl rfl ?_
      refine w_iadd (n := 183) rfl rfl ?_
      refine w_aload_nR (x := 58) (n := 184) rfl rfl rfl ?_
      refine w_getI (n := 187) rfl rfl rfl rfl ?_
      refine w_icmp_gt (n := 190) rfl rfl ⟨fun hc => ?_, fun hc => ?_⟩
      · replace H := H.1 hc
        refine w_iconst (v := (-1)) (n := 232) rfl rfl rfl ?_
        exact w_ireturn rfl rfl H
      · replace H := H.2 hc
        refine w_aload_nR (x := 58) (n := 191) rfl rfl rfl ?_
        refine w_iload_n (n := 192) rfl rfl rfl ?_
        refine w_iload (n := 194) rfl rfl rfl ?_
        refine w_calli (as := [.ref 58, .int x1, .int (((I 58 39) + 7) / 8)]) (rest := []) (n := 197) rfl rfl rfl rfl ?_
        obtain ⟨r194, I194, hI194, H⟩ := H
        refine ⟨r194, I194, hI194, ?_⟩
        refine w_sipush (v := 256) (n := 200) rfl rfl rfl ?_
        refine w_aload_nR (x := 58) (n := 201) rfl rfl rfl ?_
        refine w_getR (b := 66) (n := 204) rfl rfl rfl rfl rfl ?_
        refine w_iload (n := 206) rfl rfl rfl ?_
        refine w_iaload (N := 4000) (j := (((I 58 39) + 7) / 8).toNatClampNeg) (n := 207) rfl rfl rfl rfl rfl rfl ⟨H.1, ?_⟩
        replace H := H.2
        refine w_imul (n := 208) rfl rfl ?_
        refine w_aload_nR (x := 58) (n := 209) rfl rfl rfl ?_
        refine w_getR (b := 66) (n := 212) rfl rfl rfl rfl rfl ?_
        refine w_iload (n := 214) rfl rfl rfl ?_
        refine w_iconst (v := 1) (n := 215) rfl rfl rfl ?_
        refine w_iadd (n := 216) rfl rfl ?_
        refine w_iaload (N := 4000) (j := ((((I 58 39) + 7) / 8) + 1).toNatClampNeg) (n := 217) rfl rfl rfl rfl rfl rfl ⟨H.1, ?_⟩
        replace H := H.2
        refine w_iadd (n := 218) rfl rfl ?_
        refine w_icmp_ne (n := 221) rfl rfl ⟨fun hc => ?_, fun hc => ?_⟩
        · replace H := H.1 hc
          refine w_iconst (v := (-1)) (n := 232) rfl rfl rfl ?_
          exact w_ireturn rfl rfl H
        · replace H := H.2 hc
          refine w_aload_nR (x := 58) (n := 222) rfl rfl rfl ?_
          refine w_iload (n := 224) rfl rfl rfl ?_
          refine w_iload_n (n := 225) rfl rfl rfl ?_
          refine w_calli (as := [.ref 58, .int x4, .int x3]) (rest := []) (n := 228) rfl rfl rfl rfl ?_
          obtain ⟨r225, I225, hI225, H⟩ := H
          refine ⟨r225, I225, hI225, ?_⟩
          refine w_if_ne (n := 231) rfl rfl ⟨fun hc => ?_, fun hc => ?_⟩
          · replace H := H.1 hc
            refine w_iload (n := 235) rfl rfl rfl ?_
            refine w_iconst (v := 2) (n := 236) rfl rfl rfl ?_
            refine w_iadd (n := 237) rfl rfl ?_
            refine w_iload_n (n := 238) rfl rfl rfl ?_
            refine w_isub (n := 239) rfl rfl ?_
            exact w_ireturn rfl rfl H
          · replace H := H.2 hc
            refine w_iconst (v := (-1)) (n := 232) rfl rfl rfl ?_
            exact w_ireturn rfl rfl H
  · replace H := H.2 hc
    refine w_aload_nR (x := 58) (n := 112) rfl rfl rfl ?_
    refine w_getI (n := 115) rfl rfl rfl rfl ?_
    refine w_if_ne (n := 118) rfl rfl ⟨fun hc => ?_, fun hc => ?_⟩
    · replace H := H.1 hc
      refine w_aload_nR (x := 58) (n := 161) rfl rfl rfl ?_
      refine w_getI (n := 164) rfl rfl rfl rfl ?_
      refine w_bipush (v := 7) (n := 166) rfl rfl rfl ?_
      refine w_iadd (n := 167) rfl rfl ?_
      refine w_bipush (v := 8) (n := 169) rfl rfl rfl ?_
      refine w_idiv (n := 170) rfl rfl ⟨by decide, ?_⟩
      refine w_istore (ls' := [some (.ref 58), some (.int x1), none, some (.int x3), some (.int x4), some (.int (((I 58 39) + 7) / 8))]) (n := 172) rfl rfl rfl rfl ?_
      refine w_aload_nR (x := 58) (n := 173) rfl rfl rfl ?_
      refine w_getI (n := 176) rfl rfl rfl rfl ?_
      refine w_if_ne (n := 179) rfl rfl ⟨fun hc => ?_, fun hc => ?_⟩
      · replace H := H.1 hc
        refine w_iconst (v := (-1)) (n := 232) rfl rfl rfl ?_
        exact w_ireturn rfl rfl H
      · replace H := H.2 hc
        refine w_iload (n := 181) rfl rfl rfl ?_
        refine w_iconst (v := 2) (n := 182) rfl rfl rfl ?_
        refine w_iadd (n := 183) rfl rfl ?_
        refine w_aload_nR (x := 58) (n := 184) rfl rfl rfl ?_
        refine w_getI (n := 187) rfl rfl rfl rfl ?_
        refine w_icmp_gt (n := 190) rfl rfl ⟨fun hc => ?_, fun hc => ?_⟩
        · replace H := H.1 hc
          refine w_iconst (v := (-1)) (n := 232) rfl rfl rfl ?_
          exact w_ireturn rfl rfl H
        · replace H := H.2 hc
          refine w_aload_nR (x := 58) (n := 191) rfl rfl rfl ?_
          refine w_iload_n (n := 192) rfl rfl rfl ?_
          refine w_iload (n := 194) rfl rfl rfl ?_
          refine w_calli (as := [.ref 58, .int x1, .int (((I 58 39) + 7) / 8)]) (rest := []) (n := 197) rfl rfl rfl rfl ?_
          obtain ⟨r194, I194, hI194, H⟩ := H
          refine ⟨r194, I194, hI194, ?_⟩
          refine w_sipush (v := 256) (n := 200) rfl rfl rfl ?_
          refine w_aload_nR (x := 58) (n := 201) rfl rfl rfl ?_
          refine w_getR (b := 66) (n := 204) rfl rfl rfl rfl rfl ?_
          refine w_iload (n := 206) rfl rfl rfl ?_
          refine w_iaload (N := 4000) (j := (((I 58 39) + 7) / 8).toNatClampNeg) (n := 207) rfl rfl rfl rfl rfl rfl ⟨H.1, ?_⟩
          replace H := H.2
          refine w_imul (n := 208) rfl rfl ?_
          refine w_aload_nR (x := 58) (n := 209) rfl rfl rfl ?_
          refine w_getR (b := 66) (n := 212) rfl rfl rfl rfl rfl ?_
          refine w_iload (n := 214) rfl rfl rfl ?_
          refine w_iconst (v := 1) (n := 215) rfl rfl rfl ?_
          refine w_iadd (n := 216) rfl rfl ?_
          refine w_iaload (N := 4000) (j := ((((I 58 39) + 7) / 8) + 1).toNatClampNeg) (n := 217) rfl rfl rfl rfl rfl rfl ⟨H.1, ?_⟩
          replace H := H.2
          refine w_iadd (n := 218) rfl rfl ?_
          refine w_icmp_ne (n := 221) rfl rfl ⟨fun hc => ?_, fun hc => ?_⟩
          · replace H := H.1 hc
            refine w_iconst (v := (-1)) (n := 232) rfl rfl rfl ?_
            exact w_ireturn rfl rfl H
          · replace H := H.2 hc
            refine w_aload_nR (x := 58) (n := 222) rfl rfl rfl ?_
            refine w_iload (n := 224) rfl rfl rfl ?_
            refine w_iload_n (n := 225) rfl rfl rfl ?_
            refine w_calli (as := [.ref 58, .int x4, .int x3]) (rest := []) (n := 228) rfl rfl rfl rfl ?_
            obtain ⟨r225, I225, hI225, H⟩ := H
            refine ⟨r225, I225, hI225, ?_⟩
            refine w_if_ne (n := 231) rfl rfl ⟨fun hc => ?_, fun hc => ?_⟩
            · replace H := H.1 hc
              refine w_iload (n := 235) rfl rfl rfl ?_
              refine w_iconst (v := 2) (n := 236) rfl rfl rfl ?_
              refine w_iadd (n := 237) rfl rfl ?_
              refine w_iload_n (n := 238) rfl rfl rfl ?_
              refine w_isub (n := 239) rfl rfl ?_
              exact w_ireturn rfl rfl H
            · replace H := H.2 hc
              refine w_iconst (v := (-1)) (n := 232) rfl rfl rfl ?_
              exact w_ireturn rfl rfl H
    · replace H := H.2 hc
      refine w_aload_nR (x := 58) (n := 119) rfl rfl rfl ?_
      refine w_iload (n := 121) rfl rfl rfl ?_
      refine w_iload_n (n := 122) rfl rfl rfl ?_
      refine w_aload_nR (x := 58) (n := 123) rfl rfl rfl ?_
      refine w_getI (n := 126) rfl rfl rfl rfl ?_
      refine w_aload_nR (x := 58) (n := 127) rfl rfl rfl ?_
      refine w_getI (n := 130) rfl rfl rfl rfl ?_
      refine w_iconst (v := 2) (n := 131) rfl rfl rfl ?_
      refine w_icmp_ne (n := 134) rfl rfl ⟨fun hc => ?_, fun hc => ?_⟩
      · replace H := H.1 hc
        refine w_iconst (v := 0) (n := 150) rfl rfl rfl ?_
        refine w_iadd (n := 151) rfl rfl ?_
        refine w_callv (as := [.ref 58, .int x5, .int x3, .int ((I 58 36) + 0)]) (rest := []) (n := 154) rfl rfl rfl rfl ?_
        obtain ⟨I151, hI151, H⟩ := H
        refine ⟨I151, hI151, ?_⟩
        refine w_iinc (y := x5 + 1) (ls' := [some (.ref 58), some (.int x1), none, some (.int x3), some (.int x4), some (.int (x5 + 1))]) (n := 157) rfl rfl rfl rfl rfl ?_
        refine w_goto rfl ?_
        exact w_drp mm_Qf_i H (lb_s (lb_s (lb_n (lb_s (lb_s (lb_s lb_e))))))
      · replace H := H.2 hc
        refine w_iload (n := 136) rfl rfl rfl ?_
        refine w_iload (n := 138) rfl rfl rfl ?_
        refine w_calli (as := [.int x4, .int x5]) (rest := [.int (I 58 36), .int x3, .int x5, .ref 58]) (n := 141) rfl rfl rfl rfl ?_
        obtain ⟨r138, I138, hI138, H⟩ := H
        refine ⟨r138, I138, hI138, ?_⟩
        refine w_iconst (v := 2) (n := 142) rfl rfl rfl ?_
        have J142 : ∀ (w142_4 : Int32), w142_4 = (if r138 = 2 then (1 : Int32) else 0) → mm_W 209 150 [some (.ref 58), some (.int x1), none, some (.int x3), some (.int x4), some (.int x5)] [.int w142_4, .int (I 58 36), .int x3, .int x5, .ref 58] I138 (mm_qi 209 P) := by
          intro w142_4 e142_0
          subst e142_0
          refine w_iadd (n := 151) rfl rfl ?_
          refine w_callv (as := [.ref 58, .int x5, .int x3, .int ((I 58 36) + (if r138 = 2 then (1 : Int32) else 0))]) (rest := []) (n := 154) rfl rfl rfl rfl ?_
          obtain ⟨I151, hI151, H⟩ := H
          refine ⟨I151, hI151, ?_⟩
          refine w_iinc (y := x5 + 1) (ls' := [some (.ref 58), some (.int x1), none, some (.int x3), some (.int x4), some (.int (x5 + 1))]) (n := 157) rfl rfl rfl rfl rfl ?_
          refine w_goto rfl ?_
          exact w_drp mm_Qf_i H (lb_s (lb_s (lb_n (lb_s (lb_s (lb_s lb_e))))))
        refine w_icmp_ne (n := 145) rfl rfl ⟨fun hc => ?_, fun hc => ?_⟩
        · refine w_iconst (v := 0) (n := 150) rfl rfl rfl ?_
          refine w_drp mm_Qf_i (J142 _ ?_) (lb_s (lb_s (lb_n (lb_s (lb_s (lb_s lb_e))))))
          · exact (if_neg hc).symm
        · refine w_iconst (v := 1) (n := 146) rfl rfl rfl ?_
          refine w_goto rfl ?_
          refine w_drp mm_Qf_i (J142 _ ?_) (lb_s (lb_s (lb_n (lb_s (lb_s (lb_s lb_e))))))
          · exact (if_pos hc).symm
theorem e_M_finds {P : Int32 → mm_I → Prop} {I : mm_I}
  (H : mm_Mi 198 [.ref 58] I (fun r1 I1 =>  -- M.headNow
    (r1 = 0 →
      mm_W 210 11 [some (.ref 58), some (.int 0), none, none, none, none, none] [] I1 (mm_qi 210 P)) ∧
    (¬ r1 = 0 →
      P 0 I1))) : mm_Mi 210 [.ref 58] I P := by
  refine mm_Mi_of ?_
  show mm_W 210 0 [some (.ref 58), none, none, none, none, none, none] [] I (mm_qi 210 P)
  refine w_aload_nR (x := 58) (n := 1) rfl rfl rfl ?_
  refine w_calli (as := [.ref 58]) (rest := []) (n := 4) rfl rfl rfl rfl ?_
  obtain ⟨r1, I1, hI1, H⟩ := H
  refine ⟨r1, I1, hI1, ?_⟩
  refine w_if_eq (n := 7) rfl rfl ⟨fun hc => ?_, fun hc => ?_⟩
  · replace H := H.1 hc
    refine w_iconst (v := 0) (n := 10) rfl rfl rfl ?_
    refine w_istore_n (ls' := [some (.ref 58), some (.int 0), none, none, none, none, none]) (n := 11) rfl rfl rfl rfl ?_
    exact w_drp mm_Qf_i H (lb_s (lb_s (lb_n (lb_n (lb_n (lb_n (lb_n lb_e)))))))
  · replace H := H.2 hc
    refine w_iconst (v := 0) (n := 8) rfl rfl rfl ?_
    exact w_zreturn rfl rfl ⟨by decide, H⟩
theorem c_M_finds_11 {P : Int32 → mm_I → Prop} {I : mm_I} (x1 : Int32)
  (H : (16 ≤ x1 →
      mm_W 210 32 [some (.ref 58), some (.int 0), none, none, none, none, none] [] I (mm_qi 210 P)) ∧
    (x1 < 16 →
      vp_in x1 16 ∧
      mm_W 210 11 [some (.ref 58), some (.int (x1 + 1)), none, none, none, none, none] [] (mm_up I 80 x1.toNatClampNeg (-1)) (mm_qi 210 P))) : mm_W 210 11 [some (.ref 58), some (.int x1), none, none, none, none, none] [] I (mm_qi 210 P) := by
  refine w_iload_n (n := 12) rfl rfl rfl ?_
  refine w_bipush (v := 16) (n := 14) rfl rfl rfl ?_
  refine w_icmp_ge (n := 17) rfl rfl ⟨fun hc => ?_, fun hc => ?_⟩
  · replace H := H.1 hc
    refine w_iconst (v := 0) (n := 31) rfl rfl rfl ?_
    refine w_istore_n (ls' := [some (.ref 58), some (.int 0), none, none, none, none, none]) (n := 32) rfl rfl rfl rfl ?_
    exact w_drp mm_Qf_i H (lb_s (lb_s (lb_n (lb_n (lb_n (lb_n (lb_n lb_e)))))))
  · replace H := H.2 hc
    refine w_aload_nR (x := 58) (n := 18) rfl rfl rfl ?_
    refine w_getR (b := 80) (n := 21) rfl rfl rfl rfl rfl ?_
    refine w_iload_n (n := 22) rfl rfl rfl ?_
    refine w_iconst (v := (-1)) (n := 23) rfl rfl rfl ?_
    refine w_iastore (N := 16) (j := x1.toNatClampNeg) (n := 24) rfl rfl rfl rfl rfl ⟨H.1, ?_⟩
    replace H := H.2
    refine w_iinc (y := x1 + 1) (ls' := [some (.ref 58), some (.int (x1 + 1)), none, none, none, none, none]) (n := 27) rfl rfl rfl rfl rfl ?_
    refine w_goto rfl ?_
    exact w_drp mm_Qf_i H (lb_s (lb_s (lb_n (lb_n (lb_n (lb_n (lb_n lb_e)))))))
theorem c_M_finds_32 {P : Int32 → mm_I → Prop} {I : mm_I} (x1 : Int32)
  (H : (512 ≤ x1 →
      mm_W 210 57 [some (.ref 58), some (.int 0), some (.int 21), none, none, none, none] [] I (mm_qi 210 P)) ∧
    (x1 < 512 →
      vp_in x1 512 ∧
      mm_W 210 32 [some (.ref 58), some (.int (x1 + 1)), none, none, none, none, none] [] (mm_up I 82 x1.toNatClampNeg 0) (mm_qi 210 P))) : mm_W 210 32 [some (.ref 58), some (.int x1), none, none, none, none, none] [] I (mm_qi 210 P) := by
  refine w_iload_n (n := 33) rfl rfl rfl ?_
  refine w_sipush (v := 512) (n := 36) rfl rfl rfl ?_
  refine w_icmp_ge (n := 39) rfl rfl ⟨fun hc => ?_, fun hc => ?_⟩
  · replace H := H.1 hc
    refine w_iconst (v := 0) (n := 53) rfl rfl rfl ?_
    refine w_istore_n (ls' := [some (.ref 58), some (.int 0), none, none, none, none, none]) (n := 54) rfl rfl rfl rfl ?_
    refine w_bipush (v := 21) (n := 56) rfl rfl rfl ?_
    refine w_istore_n (ls' := [some (.ref 58), some (.int 0), some (.int 21), none, none, none, none]) (n := 57) rfl rfl rfl rfl ?_
    exact w_drp mm_Qf_i H (lb_s (lb_s (lb_s (lb_n (lb_n (lb_n (lb_n lb_e)))))))
  · replace H := H.2 hc
    refine w_aload_nR (x := 58) (n := 40) rfl rfl rfl ?_
    refine w_getR (b := 82) (n := 43) rfl rfl rfl rfl rfl ?_
    refine w_iload_n (n := 44) rfl rfl rfl ?_
    refine w_iconst (v := 0) (n := 45) rfl rfl rfl ?_
    refine w_iastore (N := 512) (j := x1.toNatClampNeg) (n := 46) rfl rfl rfl rfl rfl ⟨H.1, ?_⟩
    replace H := H.2
    refine w_iinc (y := x1 + 1) (ls' := [some (.ref 58), some (.int (x1 + 1)), none, none, none, none, none]) (n := 49) rfl rfl rfl rfl rfl ?_
    refine w_goto rfl ?_
    exact w_drp mm_Qf_i H (lb_s (lb_s (lb_n (lb_n (lb_n (lb_n (lb_n lb_e)))))))
theorem c_M_finds_57 {P : Int32 → mm_I → Prop} {I : mm_I} (x1 : Int32) (x2 : Int32)
  (H : mm_Mi 200 [.ref 58] I (fun r59 I59 =>  -- M.headFrames
    (r59 ≤ x1 →
      P 1 I59) ∧
    (x1 < r59 →
      ((I59 58 15) ≤ x2 →
        P 1 I59) ∧
      (x2 < (I59 58 15) →
        mm_Mi 209 [.ref 58, .int x2, .int x1] I59 (fun r76 I76 =>  -- M.lengthAt
        mm_W 210 83 [some (.ref 58), some (.int x1), none, some (.int r76), some (.int x2), none, none] [] I76 (mm_qi 210 P)))))) : mm_W 210 57 [some (.ref 58), some (.int x1), some (.int x2), none, none, none, none] [] I (mm_qi 210 P) := by
  refine w_iload_n (n := 58) rfl rfl rfl ?_
  refine w_aload_nR (x := 58) (n := 59) rfl rfl rfl ?_
  refine w_calli (as := [.ref 58]) (rest := [.int x1]) (n := 62) rfl rfl rfl rfl ?_
  obtain ⟨r59, I59, hI59, H⟩ := H
  refine ⟨r59, I59, hI59, ?_⟩
  refine w_icmp_ge (n := 65) rfl rfl ⟨fun hc => ?_, fun hc => ?_⟩
  · replace H := H.1 hc
    refine w_iconst (v := 1) (n := 226) rfl rfl rfl ?_
    exact w_zreturn rfl rfl ⟨by decide, H⟩
  · replace H := H.2 hc
    refine w_iload_n (n := 66) rfl rfl rfl ?_
    refine w_aload_nR (x := 58) (n := 67) rfl rfl rfl ?_
    refine w_getI (n := 70) rfl rfl rfl rfl ?_
    refine w_icmp_ge (n := 73) rfl rfl ⟨fun hc => ?_, fun hc => ?_⟩
    · replace H := H.1 hc
      refine w_iconst (v := 1) (n := 226) rfl rfl rfl ?_
      exact w_zreturn rfl rfl ⟨by decide, H⟩
    · replace H := H.2 hc
      refine w_aload_nR (x := 58) (n := 74) rfl rfl rfl ?_
      refine w_iload_n (n := 75) rfl rfl rfl ?_
      refine w_iload_n (n := 76) rfl rfl rfl ?_
      refine w_calli (as := [.ref 58, .int x2, .int x1]) (rest := []) (n := 79) rfl rfl rfl rfl ?_
      obtain ⟨r76, I76, hI76, H⟩ := H
      refine ⟨r76, I76, hI76, ?_⟩
      refine w_istore_n (ls' := [some (.ref 58), some (.int x1), some (.int x2), some (.int r76), none, none, none]) (n := 80) rfl rfl rfl rfl ?_
      refine w_iload_n (n := 81) rfl rfl rfl ?_
      refine w_istore (ls' := [some (.ref 58), some (.int x1), some (.int x2), some (.int r76), some (.int x2), none, none]) (n := 83) rfl rfl rfl rfl ?_
      exact w_drp mm_Qf_i H (lb_s (lb_s (lb_n (lb_s (lb_s (lb_n (lb_n lb_e)))))))
theorem c_M_finds_83 {P : Int32 → mm_I → Prop} {I : mm_I} (x1 : Int32) (x3 : Int32) (x4 : Int32)
  (H : (0 ≤ x3 →
      (0 ≤ x3 →
        vp_in (x4 + 1) 4000 ∧
        vp_in (I 66 ((x4 + 1).toNatClampNeg)) 16 ∧
        vp_in (I 66 ((x4 + 1).toNatClampNeg)) 16 ∧
        mm_W 210 146 [some (.ref 58), some (.int (I 66 ((x4 + 1).toNatClampNeg))), none, some (.int x3), some (.int x4), some (.int 0), none] [] (mm_up (mm_up I 80 ((I 66 ((x4 + 1).toNatClampNeg)).toNatClampNeg) x4) 81 ((I 66 ((x4 + 1).toNatClampNeg)).toNatClampNeg) x3) (mm_qi 210 P)) ∧
      (x3 < 0 →
        P 1 I)) ∧
    (x3 < 0 →
      ((I 58 15) ≤ (x4 + 1) →
        (0 ≤ x3 →
          vp_in (x4 + 1) 4000 ∧
          vp_in (I 66 ((x4 + 1).toNatClampNeg)) 16 ∧
          vp_in (I 66 ((x4 + 1).toNatClampNeg)) 16 ∧
          mm_W 210 146 [some (.ref 58), some (.int (I 66 ((x4 + 1).toNatClampNeg))), none, some (.int x3), some (.int x4), some (.int 0), none] [] (mm_up (mm_up I 80 ((I 66 ((x4 + 1).toNatClampNeg)).toNatClampNeg) x4) 81 ((I 66 ((x4 + 1).toNatClampNeg)).toNatClampNeg) x3) (mm_qi 210 P)) ∧
        (x3 < 0 →
          P 1 I)) ∧
      ((x4 + 1) < (I 58 15) →
        mm_Mi 209 [.ref 58, .int (x4 + 1), .int x1] I (fun r105 I105 =>  -- M.lengthAt
        mm_W 210 83 [some (.ref 58), some (.int x1), none, some (.int r105), some (.int (x4 + 1)), none, none] [] I105 (mm_qi 210 P))))) : mm_W 210 83 [some (.ref 58), some (.int x1), none, some (.int x3), some (.int x4), none, none] [] I (mm_qi 210 P) := by
  refine w_iload_n (n := 84) rfl rfl rfl ?_
  refine w_if_ge (n := 87) rfl rfl ⟨fun hc => ?_, fun hc => ?_⟩
  · replace H := H.1 hc
    refine w_iload_n (n := 113) rfl rfl rfl ?_
    refine w_if_ge (n := 116) rfl rfl ⟨fun hc => ?_, fun hc => ?_⟩
    · replace H := H.1 hc
      refine w_aload_nR (x := 58) (n := 119) rfl rfl rfl ?_
      refine w_getR (b := 66) (n := 122) rfl rfl rfl rfl rfl ?_
      refine w_iload (n := 124) rfl rfl rfl ?_
      refine w_iconst (v := 1) (n := 125) rfl rfl rfl ?_
      refine w_iadd (n := 126) rfl rfl ?_
      refine w_iaload (N := 4000) (j := (x4 + 1).toNatClampNeg) (n := 127) rfl rfl rfl rfl rfl rfl ⟨H.1, ?_⟩
      replace H := H.2
      refine w_istore_n (ls' := [some (.ref 58), some (.int (I 66 ((x4 + 1).toNatClampNeg))), none, some (.int x3), some (.int x4), none, none]) (n := 128) rfl rfl rfl rfl ?_
      refine w_aload_nR (x := 58) (n := 129) rfl rfl rfl ?_
      refine w_getR (b := 80) (n := 132) rfl rfl rfl rfl rfl ?_
      refine w_iload_n (n := 133) rfl rfl rfl ?_
      refine w_iload (n := 135) rfl rfl rfl ?_
      refine w_iastore (N := 16) (j := (I 66 ((x4 + 1).toNatClampNeg)).toNatClampNeg) (n := 136) rfl rfl rfl rfl rfl ⟨H.1, ?_⟩
      replace H := H.2
      refine w_aload_nR (x := 58) (n := 137) rfl rfl rfl ?_
      refine w_getR (b := 81) (n := 140) rfl rfl rfl rfl rfl ?_
      refine w_iload_n (n := 141) rfl rfl rfl ?_
      refine w_iload_n (n := 142) rfl rfl rfl ?_
      refine w_iastore (N := 16) (j := (I 66 ((x4 + 1).toNatClampNeg)).toNatClampNeg) (n := 143) rfl rfl rfl rfl rfl ⟨H.1, ?_⟩
      replace H := H.2
      refine w_iconst (v := 0) (n := 144) rfl rfl rfl ?_
      refine w_istore (ls' := [some (.ref 58), some (.int (I 66 ((x4 + 1).toNatClampNeg))), none, some (.int x3), some (.int x4), some (.int 0), none]) (n := 146) rfl rfl rfl rfl ?_
      exact w_drp mm_Qf_i H (lb_s (lb_s (lb_n (lb_s (lb_s (lb_s (lb_n lb_e)))))))
    · replace H := H.2 hc
      refine w_iconst (v := 1) (n := 117) rfl rfl rfl ?_
      exact w_zreturn rfl rfl ⟨by decide, H⟩
  · replace H := H.2 hc
    refine w_iload (n := 89) rfl rfl rfl ?_
    refine w_iconst (v := 1) (n := 90) rfl rfl rfl ?_
    refine w_iadd (n := 91) rfl rfl ?_
    refine w_aload_nR (x := 58) (n := 92) rfl rfl rfl ?_
    refine w_getI (n := 95) rfl rfl rfl rfl ?_
    refine w_icmp_ge (n := 98) rfl rfl ⟨fun hc => ?_, fun hc => ?_⟩
    · replace H := H.1 hc
      refine w_iload_n (n := 113) rfl rfl rfl ?_
      refine w_if_ge (n := 116) rfl rfl ⟨fun hc => ?_, fun hc => ?_⟩
      · replace H := H.1 hc
        refine w_aload_nR (x := 58) (n := 119) rfl rfl rfl ?_
        refine w_getR (b := 66) (n := 122) rfl rfl rfl rfl rfl ?_
        refine w_iload (n := 124) rfl rfl rfl ?_
        refine w_iconst (v := 1) (n := 125) rfl rfl rfl ?_
        refine w_iadd (n := 126) rfl rfl ?_
        refine w_iaload (N := 4000) (j := (x4 + 1).toNatClampNeg) (n := 127) rfl rfl rfl rfl rfl rfl ⟨H.1, ?_⟩
        replace H := H.2
        refine w_istore_n (ls' := [some (.ref 58), some (.int (I 66 ((x4 + 1).toNatClampNeg))), none, some (.int x3), some (.int x4), none, none]) (n := 128) rfl rfl rfl rfl ?_
        refine w_aload_nR (x := 58) (n := 129) rfl rfl rfl ?_
        refine w_getR (b := 80) (n := 132) rfl rfl rfl rfl rfl ?_
        refine w_iload_n (n := 133) rfl rfl rfl ?_
        refine w_iload (n := 135) rfl rfl rfl ?_
        refine w_iastore (N := 16) (j := (I 66 ((x4 + 1).toNatClampNeg)).toNatClampNeg) (n := 136) rfl rfl rfl rfl rfl ⟨H.1, ?_⟩
        replace H := H.2
        refine w_aload_nR (x := 58) (n := 137) rfl rfl rfl ?_
        refine w_getR (b := 81) (n := 140) rfl rfl rfl rfl rfl ?_
        refine w_iload_n (n := 141) rfl rfl rfl ?_
        refine w_iload_n (n := 142) rfl rfl rfl ?_
        refine w_iastore (N := 16) (j := (I 66 ((x4 + 1).toNatClampNeg)).toNatClampNeg) (n := 143) rfl rfl rfl rfl rfl ⟨H.1, ?_⟩
        replace H := H.2
        refine w_iconst (v := 0) (n := 144) rfl rfl rfl ?_
        refine w_istore (ls' := [some (.ref 58), some (.int (I 66 ((x4 + 1).toNatClampNeg))), none, some (.int x3), some (.int x4), some (.int 0), none]) (n := 146) rfl rfl rfl rfl ?_
        exact w_drp mm_Qf_i H (lb_s (lb_s (lb_n (lb_s (lb_s (lb_s (lb_n lb_e)))))))
      · replace H := H.2 hc
        refine w_iconst (v := 1) (n := 117) rfl rfl rfl ?_
        exact w_zreturn rfl rfl ⟨by decide, H⟩
    · replace H := H.2 hc
      refine w_iinc (y := x4 + 1) (ls' := [some (.ref 58), some (.int x1), none, some (.int x3), some (.int (x4 + 1)), none, none]) (n := 101) rfl rfl rfl rfl rfl ?_
      refine w_aload_nR (x := 58) (n := 102) rfl rfl rfl ?_
      refine w_iload (n := 104) rfl rfl rfl ?_
      refine w_iload_n (n := 105) rfl rfl rfl ?_
      refine w_calli (as := [.ref 58, .int (x4 + 1), .int x1]) (rest := []) (n := 108) rfl rfl rfl rfl ?_
      obtain ⟨r105, I105, hI105, H⟩ := H
      refine ⟨r105, I105, hI105, ?_⟩
      refine w_istore_n (ls' := [some (.ref 58), some (.int x1), none, some (.int r105), some (.int (x4 + 1)), none, none]) (n := 109) rfl rfl rfl rfl ?_
      refine w_goto rfl ?_
      exact w_drp mm_Qf_i H (lb_s (lb_s (lb_n (lb_s (lb_s (lb_n (lb_n lb_e)))))))
theorem c_M_finds_146 {P : Int32 → mm_I → Prop} {I : mm_I} (x1 : Int32) (x3 : Int32) (x4 : Int32) (x5 : Int32)
  (H : ((I 58 35) ≤ x5 →
      mm_W 210 57 [some (.ref 58), some (.int (x1 + 1)), some (.int (x4 + x3)), none, none, none, none] [] I (mm_qi 210 P)) ∧
    (x5 < (I 58 35) →
      mm_W 210 158 [some (.ref 58), some (.int x1), none, some (.int x3), some (.int x4), some (.int x5), some (.int 0)] [] I (mm_qi 210 P))) : mm_W 210 146 [some (.ref 58), some (.int x1), none, some (.int x3), some (.int x4), some (.int x5), none] [] I (mm_qi 210 P) := by
  refine w_iload (n := 148) rfl rfl rfl ?_
  refine w_aload_nR (x := 58) (n := 149) rfl rfl rfl ?_
  refine w_getI (n := 152) rfl rfl rfl rfl ?_
  refine w_icmp_ge (n := 155) rfl rfl ⟨fun hc => ?_, fun hc => ?_⟩
  · replace H := H.1 hc
    refine w_iload (n := 216) rfl rfl rfl ?_
    refine w_iload_n (n := 217) rfl rfl rfl ?_
    refine w_iadd (n := 218) rfl rfl ?_
    refine w_istore_n (ls' := [some (.ref 58), some (.int x1), some (.int (x4 + x3)), some (.int x3), some (.int x4), some (.int x5), none]) (n := 219) rfl rfl rfl rfl ?_
    refine w_iinc (y := x1 + 1) (ls' := [some (.ref 58), some (.int (x1 + 1)), some (.int (x4 + x3)), some (.int x3), some (.int x4), some (.int x5), none]) (n := 222) rfl rfl rfl rfl rfl ?_
    refine w_goto rfl ?_
    exact w_drp mm_Qf_i H (lb_s (lb_s (lb_s (lb_n (lb_n (lb_n (lb_n lb_e)))))))
  · replace H := H.2 hc
    refine w_iconst (v := 0) (n := 156) rfl rfl rfl ?_
    refine w_istore (ls' := [some (.ref 58), some (.int x1), none, some (.int x3), some (.int x4), some (.int x5), some (.int 0)]) (n := 158) rfl rfl rfl rfl ?_
    exact w_drp mm_Qf_i H (lb_s (lb_s (lb_n (lb_s (lb_s (lb_s (lb_s lb_e)))))))
theorem c_M_finds_158 {P : Int32 → mm_I → Prop} {I : mm_I} (x1 : Int32) (x3 : Int32) (x4 : Int32) (x5 : Int32) (x6 : Int32)
  (H : mm_Mi 208 [.ref 58, .int x1] I (fun r162 I162 =>  -- M.sizeAt
    (r162 ≤ x6 →
      mm_W 210 146 [some (.ref 58), some (.int x1), none, some (.int x3), some (.int x4), some (.int (x5 + 1)), none] [] I162 (mm_qi 210 P)) ∧
    (x6 < r162 →
      vp_in ((64 * x5) + x6) 128 ∧
      vp_in (((256 * x5) + ((I162 58 37) * x1)) + x6) 512 ∧
      mm_W 210 158 [some (.ref 58), some (.int x1), none, some (.int x3), some (.int x4), some (.int x5), some (.int (x6 + 1))] [] (mm_up I162 82 ((((256 * x5) + ((I162 58 37) * x1)) + x6).toNatClampNeg) (I162 78 (((64 * x5) + x6).toNatClampNeg))) (mm_qi 210 P)))) : mm_W 210 158 [some (.ref 58), some (.int x1), none, some (.int x3), some (.int x4), some (.int x5), some (.int x6)] [] I (mm_qi 210 P) := by
  refine w_iload (n := 160) rfl rfl rfl ?_
  refine w_aload_nR (x := 58) (n := 161) rfl rfl rfl ?_
  refine w_iload_n (n := 162) rfl rfl rfl ?_
  refine w_calli (as := [.ref 58, .int x1]) (rest := [.int x6]) (n := 165) rfl rfl rfl rfl ?_
  obtain ⟨r162, I162, hI162, H⟩ := H
  refine ⟨r162, I162, hI162, ?_⟩
  refine w_icmp_ge (n := 168) rfl rfl ⟨fun hc => ?_, fun hc => ?_⟩
  · replace H := H.1 hc
    refine w_iinc (y := x5 + 1) (ls' := [some (.ref 58), some (.int x1), none, some (.int x3), some (.int x4), some (.int (x5 + 1)), some (.int x6)]) (n := 211) rfl rfl rfl rfl rfl ?_
    refine w_goto rfl ?_
    exact w_drp mm_Qf_i H (lb_s (lb_s (lb_n (lb_s (lb_s (lb_s (lb_n lb_e)))))))
  · replace H := H.2 hc
    refine w_aload_nR (x := 58) (n := 169) rfl rfl rfl ?_
    refine w_getR (b := 82) (n := 172) rfl rfl rfl rfl rfl ?_
    refine w_sipush (v := 256) (n := 175) rfl rfl rfl ?_
    refine w_iload (n := 177) rfl rfl rfl ?_
    refine w_imul (n := 178) rfl rfl ?_
    refine w_aload_nR (x := 58) (n := 179) rfl rfl rfl ?_
    refine w_getI (n := 182) rfl rfl rfl rfl ?_
    refine w_iload_n (n := 183) rfl rfl rfl ?_
    refine w_imul (n := 184) rfl rfl ?_
    refine w_iadd (n := 185) rfl rfl ?_
    refine w_iload (n := 187) rfl rfl rfl ?_
    refine w_iadd (n := 188) rfl rfl ?_
    refine w_aload_nR (x := 58) (n := 189) rfl rfl rfl ?_
    refine w_getR (b := 78) (n := 192) rfl rfl rfl rfl rfl ?_
    refine w_bipush (v := 64) (n := 194) rfl rfl rfl ?_
    refine w_iload (n := 196) rfl rfl rfl ?_
    refine w_imul (n := 197) rfl rfl ?_
    refine w_iload (n := 199) rfl rfl rfl ?_
    refine w_iadd (n := 200) rfl rfl ?_
    refine w_iaload (N := 128) (j := ((64 * x5) + x6).toNatClampNeg) (n := 201) rfl rfl rfl rfl rfl rfl ⟨H.1, ?_⟩
    replace H := H.2
    refine w_iastore (N := 512) (j := (((256 * x5) + ((I162 58 37) * x1)) + x6).toNatClampNeg) (n := 202) rfl rfl rfl rfl rfl ⟨H.1, ?_⟩
    replace H := H.2
    refine w_iinc (y := x6 + 1) (ls' := [some (.ref 58), some (.int x1), none, some (.int x3), some (.int x4), some (.int x5), some (.int (x6 + 1))]) (n := 205) rfl rfl rfl rfl rfl ?_
    refine w_goto rfl ?_
    exact w_drp mm_Qf_i H (lb_s (lb_s (lb_n (lb_s (lb_s (lb_s (lb_s lb_e)))))))
theorem e_M_good {P : Int32 → mm_I → Prop} {I : mm_I}
  (H : mm_Mi 210 [.ref 58] (mm_up I 58 16 0) (fun r6 I6 =>  -- M.finds
    (¬ r6 = 0 →
      mm_W 211 18 [some (.ref 58), some (.int 0), some (.int 0)] [] I6 (mm_qi 211 P)) ∧
    (r6 = 0 →
      P (-1) I6))) : mm_Mi 211 [.ref 58] I P := by
  refine mm_Mi_of ?_
  show mm_W 211 0 [some (.ref 58), none, none] [] I (mm_qi 211 P)
  refine w_aload_nR (x := 58) (n := 1) rfl rfl rfl ?_
  refine w_iconst (v := 0) (n := 2) rfl rfl rfl ?_
  refine w_putI (n := 5) rfl rfl rfl rfl rfl ?_
  refine w_aload_nR (x := 58) (n := 6) rfl rfl rfl ?_
  refine w_calli (as := [.ref 58]) (rest := []) (n := 9) rfl rfl rfl rfl ?_
  obtain ⟨r6, I6, hI6, H⟩ := H
  refine ⟨r6, I6, hI6, ?_⟩
  refine w_if_ne (n := 12) rfl rfl ⟨fun hc => ?_, fun hc => ?_⟩
  · replace H := H.1 hc
    refine w_iconst (v := 0) (n := 15) rfl rfl rfl ?_
    refine w_istore_n (ls' := [some (.ref 58), some (.int 0), none]) (n := 16) rfl rfl rfl rfl ?_
    refine w_iconst (v := 0) (n := 17) rfl rfl rfl ?_
    refine w_istore_n (ls' := [some (.ref 58), some (.int 0), some (.int 0)]) (n := 18) rfl rfl rfl rfl ?_
    exact w_drp mm_Qf_i H (lb_s (lb_s (lb_s lb_e)))
  · replace H := H.2 hc
    refine w_iconst (v := (-1)) (n := 13) rfl rfl rfl ?_
    exact w_ireturn rfl rfl H
theorem c_M_good_18 {P : Int32 → mm_I → Prop} {I : mm_I} (x1 : Int32) (x2 : Int32)
  (H : (16 ≤ x2 →
      P x1 I) ∧
    (x2 < 16 →
      vp_in x2 16 ∧
      mm_W 211 18 [some (.ref 58), some (.int (if (I 80 x2.toNatClampNeg) < 0 then (x1 : Int32) else x1 ||| (1 <<< (x2 &&& 31)))), some (.int (x2 + 1))] [] I (mm_qi 211 P))) : mm_W 211 18 [some (.ref 58), some (.int x1), some (.int x2)] [] I (mm_qi 211 P) := by
  refine w_iload_n (n := 19) rfl rfl rfl ?_
  refine w_bipush (v := 16) (n := 21) rfl rfl rfl ?_
  refine w_icmp_ge (n := 24) rfl rfl ⟨fun hc => ?_, fun hc => ?_⟩
  · replace H := H.1 hc
    refine w_iload_n (n := 46) rfl rfl rfl ?_
    exact w_ireturn rfl rfl H
  · replace H := H.2 hc
    refine w_aload_nR (x := 58) (n := 25) rfl rfl rfl ?_
    refine w_getR (b := 80) (n := 28) rfl rfl rfl rfl rfl ?_
    refine w_iload_n (n := 29) rfl rfl rfl ?_
    refine w_iaload (N := 16) (j := x2.toNatClampNeg) (n := 30) rfl rfl rfl rfl rfl rfl ⟨H.1, ?_⟩
    replace H := H.2
    have J30 : ∀ (y30_1 : Int32), y30_1 = (if (I 80 x2.toNatClampNeg) < 0 then (x1 : Int32) else x1 ||| (1 <<< (x2 &&& 31))) → mm_W 211 39 [some (.ref 58), some (.int y30_1), some (.int x2)] [] I (mm_qi 211 P) := by
      intro y30_1 e30_0
      subst e30_0
      refine w_iinc (y := x2 + 1) (ls' := [some (.ref 58), some (.int (if (I 80 x2.toNatClampNeg) < 0 then (x1 : Int32) else x1 ||| (1 <<< (x2 &&& 31)))), some (.int (x2 + 1))]) (n := 42) rfl rfl rfl rfl rfl ?_
      refine w_goto rfl ?_
      exact w_drp mm_Qf_i H (lb_s (lb_s (lb_s lb_e)))
    refine w_if_lt (n := 33) rfl rfl ⟨fun hc => ?_, fun hc => ?_⟩
    · refine w_drp mm_Qf_i (J30 _ ?_) (lb_s (lb_s (lb_s lb_e)))
      · exact (if_pos hc).symm
    · refine w_iload_n (n := 34) rfl rfl rfl ?_
      refine w_iconst (v := 1) (n := 35) rfl rfl rfl ?_
      refine w_iload_n (n := 36) rfl rfl rfl ?_
      refine w_ishl (n := 37) rfl rfl ?_
      refine w_ior (n := 38) rfl rfl ?_
      refine w_istore_n (ls' := [some (.ref 58), some (.int (x1 ||| (1 <<< (x2 &&& 31)))), some (.int x2)]) (n := 39) rfl rfl rfl rfl ?_
      refine w_drp mm_Qf_i (J30 _ ?_) (lb_s (lb_s (lb_s lb_e)))
      · exact (if_neg (fa_nlt hc)).symm
theorem e_M_seek {P : Int32 → mm_I → Prop} {I : mm_I} (x1 : Int32) (x2 : Int32)
  (H : mm_Mi 125 [.int x2, .int 0, .int 1] (mm_up I 58 16 0) (fun r8 I8 =>  -- M.within
    (r8 = 0 →
      P (-1) I8) ∧
    (¬ r8 = 0 →
      mm_Mi 210 [.ref 58] I8 (fun r15 I15 =>  -- M.finds
      (r15 = 0 →
        P (-1) I15) ∧
      (¬ r15 = 0 →
        mm_Mi 200 [.ref 58] I15 (fun r24 I24 =>  -- M.headFrames
        mm_Mi 125 [.int x1, .int 0, .int (r24 - 1)] I24 (fun r29 I29 =>  -- M.within
        (r29 = 0 →
          P (-1) I29) ∧
        (¬ r29 = 0 →
          vp_in x1 16 ∧
          (0 ≤ (I29 80 x1.toNatClampNeg) →
            (¬ x2 = 0 →
              vp_in x1 16 ∧
              True) ∧
            (x2 = 0 →
              vp_in x1 16 ∧
              True) ∧
            P (if x2 = 0 then ((I29 80 x1.toNatClampNeg) : Int32) else (I29 81 x1.toNatClampNeg)) I29) ∧
          ((I29 80 x1.toNatClampNeg) < 0 →
            P (-1) I29))))))))) : mm_Mi 212 [.ref 58, .int x1, .int x2] I P := by
  refine mm_Mi_of ?_
  show mm_W 212 0 [some (.ref 58), some (.int x1), some (.int x2)] [] I (mm_qi 212 P)
  refine w_aload_nR (x := 58) (n := 1) rfl rfl rfl ?_
  refine w_iconst (v := 0) (n := 2) rfl rfl rfl ?_
  refine w_putI (n := 5) rfl rfl rfl rfl rfl ?_
  refine w_iload_n (n := 6) rfl rfl rfl ?_
  refine w_iconst (v := 0) (n := 7) rfl rfl rfl ?_
  refine w_iconst (v := 1) (n := 8) rfl rfl rfl ?_
  refine w_calli (as := [.int x2, .int 0, .int 1]) (rest := []) (n := 11) rfl rfl rfl rfl ?_
  obtain ⟨r8, I8, hI8, H⟩ := H
  refine ⟨r8, I8, hI8, ?_⟩
  refine w_if_eq (n := 14) rfl rfl ⟨fun hc => ?_, fun hc => ?_⟩
  · replace H := H.1 hc
    refine w_iconst (v := (-1)) (n := 45) rfl rfl rfl ?_
    exact w_ireturn rfl rfl H
  · replace H := H.2 hc
    refine w_aload_nR (x := 58) (n := 15) rfl rfl rfl ?_
    refine w_calli (as := [.ref 58]) (rest := []) (n := 18) rfl rfl rfl rfl ?_
    obtain ⟨r15, I15, hI15, H⟩ := H
    refine ⟨r15, I15, hI15, ?_⟩
    refine w_if_eq (n := 21) rfl rfl ⟨fun hc => ?_, fun hc => ?_⟩
    · replace H := H.1 hc
      refine w_iconst (v := (-1)) (n := 45) rfl rfl rfl ?_
      exact w_ireturn rfl rfl H
    · replace H := H.2 hc
      refine w_iload_n (n := 22) rfl rfl rfl ?_
      refine w_iconst (v := 0) (n := 23) rfl rfl rfl ?_
      refine w_aload_nR (x := 58) (n := 24) rfl rfl rfl ?_
      refine w_calli (as := [.ref 58]) (rest := [.int 0, .int x1]) (n := 27) rfl rfl rfl rfl ?_
      obtain ⟨r24, I24, hI24, H⟩ := H
      refine ⟨r24, I24, hI24, ?_⟩
      refine w_iconst (v := 1) (n := 28) rfl rfl rfl ?_
      refine w_isub (n := 29) rfl rfl ?_
      refine w_calli (as := [.int x1, .int 0, .int (r24 - 1)]) (rest := []) (n := 32) rfl rfl rfl rfl ?_
      obtain ⟨r29, I29, hI29, H⟩ := H
      refine ⟨r29, I29, hI29, ?_⟩
      refine w_if_eq (n := 35) rfl rfl ⟨fun hc => ?_, fun hc => ?_⟩
      · replace H := H.1 hc
        refine w_iconst (v := (-1)) (n := 45) rfl rfl rfl ?_
        exact w_ireturn rfl rfl H
      · replace H := H.2 hc
        refine w_aload_nR (x := 58) (n := 36) rfl rfl rfl ?_
        refine w_getR (b := 80) (n := 39) rfl rfl rfl rfl rfl ?_
        refine w_iload_n (n := 40) rfl rfl rfl ?_
        refine w_iaload (N := 16) (j := x1.toNatClampNeg) (n := 41) rfl rfl rfl rfl rfl rfl ⟨H.1, ?_⟩
        replace H := H.2
        refine w_if_ge (n := 44) rfl rfl ⟨fun hc => ?_, fun hc => ?_⟩
        · replace H := H.1 hc
          refine w_iload_n (n := 47) rfl rfl rfl ?_
          obtain ⟨K1, K2, H⟩ := H
          have J47 : ∀ (w47_0 : Int32), w47_0 = (if x2 = 0 then ((I29 80 x1.toNatClampNeg) : Int32) else (I29 81 x1.toNatClampNeg)) → mm_W 212 65 [some (.ref 58), some (.int x1), some (.int x2)] [.int w47_0] I29 (mm_qi 212 P) := by
            intro w47_0 e47_0
            subst e47_0
            exact w_ireturn rfl rfl H
          refine w_if_ne (n := 50) rfl rfl ⟨fun hc => ?_, fun hc => ?_⟩
          · have H := K1 hc
            refine w_aload_nR (x := 58) (n := 60) rfl rfl rfl ?_
            refine w_getR (b := 81) (n := 63) rfl rfl rfl rfl rfl ?_
            refine w_iload_n (n := 64) rfl rfl rfl ?_
            refine w_iaload (N := 16) (j := x1.toNatClampNeg) (n := 65) rfl rfl rfl rfl rfl rfl ⟨H.1, ?_⟩
            replace H := H.2
            refine w_drp mm_Qf_i (J47 _ ?_) (lb_s (lb_s (lb_s lb_e)))
            · exact (if_neg hc).symm
          · have H := K2 hc
            refine w_aload_nR (x := 58) (n := 51) rfl rfl rfl ?_
            refine w_getR (b := 80) (n := 54) rfl rfl rfl rfl rfl ?_
            refine w_iload_n (n := 55) rfl rfl rfl ?_
            refine w_iaload (N := 16) (j := x1.toNatClampNeg) (n := 56) rfl rfl rfl rfl rfl rfl ⟨H.1, ?_⟩
            replace H := H.2
            refine w_goto rfl ?_
            refine w_drp mm_Qf_i (J47 _ ?_) (lb_s (lb_s (lb_s lb_e)))
            · exact (if_pos hc).symm
        · replace H := H.2 hc
          refine w_iconst (v := (-1)) (n := 45) rfl rfl rfl ?_
          exact w_ireturn rfl rfl H
theorem e_M_holds {P : Int32 → mm_I → Prop} {I : mm_I} (x1 : Int32)
  (H : mm_Mi 198 [.ref 58] (mm_up I 58 16 0) (fun r6 I6 =>  -- M.headNow
    (¬ r6 = 0 →
      P (-1) I6) ∧
    (r6 = 0 →
      mm_Mi 125 [.int x1, .int 0, .int ((I6 58 38) - 1)] I6 (fun r20 I20 =>  -- M.within
      (r20 = 0 →
        P (-1) I20) ∧
      (¬ r20 = 0 →
        ¬ (I20 58 37) = 0 ∧
        P (x1 / (I20 58 37)) I20))))) : mm_Mi 213 [.ref 58, .int x1] I P := by
  refine mm_Mi_of ?_
  show mm_W 213 0 [some (.ref 58), some (.int x1)] [] I (mm_qi 213 P)
  refine w_aload_nR (x := 58) (n := 1) rfl rfl rfl ?_
  refine w_iconst (v := 0) (n := 2) rfl rfl rfl ?_
  refine w_putI (n := 5) rfl rfl rfl rfl rfl ?_
  refine w_aload_nR (x := 58) (n := 6) rfl rfl rfl ?_
  refine w_calli (as := [.ref 58]) (rest := []) (n := 9) rfl rfl rfl rfl ?_
  obtain ⟨r6, I6, hI6, H⟩ := H
  refine ⟨r6, I6, hI6, ?_⟩
  refine w_if_ne (n := 12) rfl rfl ⟨fun hc => ?_, fun hc => ?_⟩
  · replace H := H.1 hc
    refine w_iconst (v := (-1)) (n := 36) rfl rfl rfl ?_
    exact w_ireturn rfl rfl H
  · replace H := H.2 hc
    refine w_iload_n (n := 13) rfl rfl rfl ?_
    refine w_iconst (v := 0) (n := 14) rfl rfl rfl ?_
    refine w_aload_nR (x := 58) (n := 15) rfl rfl rfl ?_
    refine w_getI (n := 18) rfl rfl rfl rfl ?_
    refine w_iconst (v := 1) (n := 19) rfl rfl rfl ?_
    refine w_isub (n := 20) rfl rfl ?_
    refine w_calli (as := [.int x1, .int 0, .int ((I6 58 38) - 1)]) (rest := []) (n := 23) rfl rfl rfl rfl ?_
    obtain ⟨r20, I20, hI20, H⟩ := H
    refine ⟨r20, I20, hI20, ?_⟩
    refine w_if_eq (n := 26) rfl rfl ⟨fun hc => ?_, fun hc => ?_⟩
    · replace H := H.1 hc
      refine w_iconst (v := (-1)) (n := 36) rfl rfl rfl ?_
      exact w_ireturn rfl rfl H
    · replace H := H.2 hc
      refine w_iload_n (n := 27) rfl rfl rfl ?_
      refine w_aload_nR (x := 58) (n := 28) rfl rfl rfl ?_
      refine w_getI (n := 31) rfl rfl rfl rfl ?_
      refine w_idiv (n := 32) rfl rfl ⟨H.1, ?_⟩
      replace H := H.2
      refine w_goto rfl ?_
      exact w_ireturn rfl rfl H
theorem e_M_near {P : Int32 → mm_I → Prop} {I : mm_I} (x1 : Int32)
  (H : mm_Mi 198 [.ref 58] (mm_up I 58 16 0) (fun r6 I6 =>  -- M.headNow
    (¬ r6 = 0 →
      P (-1) I6) ∧
    (r6 = 0 →
      mm_Mi 125 [.int x1, .int 0, .int ((I6 58 15) - 1)] I6 (fun r20 I20 =>  -- M.within
      (¬ r20 = 0 →
        mm_W 214 30 [some (.ref 58), none, some (.int x1)] [] I20 (mm_qi 214 P)) ∧
      (r20 = 0 →
        P (-1) I20))))) : mm_Mi 214 [.ref 58, .int x1] I P := by
  refine mm_Mi_of ?_
  show mm_W 214 0 [some (.ref 58), some (.int x1), none] [] I (mm_qi 214 P)
  refine w_aload_nR (x := 58) (n := 1) rfl rfl rfl ?_
  refine w_iconst (v := 0) (n := 2) rfl rfl rfl ?_
  refine w_putI (n := 5) rfl rfl rfl rfl rfl ?_
  refine w_aload_nR (x := 58) (n := 6) rfl rfl rfl ?_
  refine w_calli (as := [.ref 58]) (rest := []) (n := 9) rfl rfl rfl rfl ?_
  obtain ⟨r6, I6, hI6, H⟩ := H
  refine ⟨r6, I6, hI6, ?_⟩
  refine w_if_ne (n := 12) rfl rfl ⟨fun hc => ?_, fun hc => ?_⟩
  · replace H := H.1 hc
    refine w_iconst (v := (-1)) (n := 27) rfl rfl rfl ?_
    exact w_ireturn rfl rfl H
  · replace H := H.2 hc
    refine w_iload_n (n := 13) rfl rfl rfl ?_
    refine w_iconst (v := 0) (n := 14) rfl rfl rfl ?_
    refine w_aload_nR (x := 58) (n := 15) rfl rfl rfl ?_
    refine w_getI (n := 18) rfl rfl rfl rfl ?_
    refine w_iconst (v := 1) (n := 19) rfl rfl rfl ?_
    refine w_isub (n := 20) rfl rfl ?_
    refine w_calli (as := [.int x1, .int 0, .int ((I6 58 15) - 1)]) (rest := []) (n := 23) rfl rfl rfl rfl ?_
    obtain ⟨r20, I20, hI20, H⟩ := H
    refine ⟨r20, I20, hI20, ?_⟩
    refine w_if_ne (n := 26) rfl rfl ⟨fun hc => ?_, fun hc => ?_⟩
    · replace H := H.1 hc
      refine w_iload_n (n := 29) rfl rfl rfl ?_
      refine w_istore_n (ls' := [some (.ref 58), some (.int x1), some (.int x1)]) (n := 30) rfl rfl rfl rfl ?_
      exact w_drp mm_Qf_i H (lb_s (lb_n (lb_s lb_e)))
    · replace H := H.2 hc
      refine w_iconst (v := (-1)) (n := 27) rfl rfl rfl ?_
      exact w_ireturn rfl rfl H
theorem c_M_near_30 {P : Int32 → mm_I → Prop} {I : mm_I} (x2 : Int32)
  (H : ((I 58 15) ≤ x2 →
      P (-1) I) ∧
    (x2 < (I 58 15) →
      mm_Mi 209 [.ref 58, .int x2, .int 0] I (fun r41 I41 =>  -- M.lengthAt
      (r41 < 0 →
        mm_W 214 30 [some (.ref 58), none, some (.int (x2 + 1))] [] I41 (mm_qi 214 P)) ∧
      (0 ≤ r41 →
        P x2 I41)))) : mm_W 214 30 [some (.ref 58), none, some (.int x2)] [] I (mm_qi 214 P) := by
  refine w_iload_n (n := 31) rfl rfl rfl ?_
  refine w_aload_nR (x := 58) (n := 32) rfl rfl rfl ?_
  refine w_getI (n := 35) rfl rfl rfl rfl ?_
  refine w_icmp_ge (n := 38) rfl rfl ⟨fun hc => ?_, fun hc => ?_⟩
  · replace H := H.1 hc
    refine w_iconst (v := (-1)) (n := 56) rfl rfl rfl ?_
    exact w_ireturn rfl rfl H
  · replace H := H.2 hc
    refine w_aload_nR (x := 58) (n := 39) rfl rfl rfl ?_
    refine w_iload_n (n := 40) rfl rfl rfl ?_
    refine w_iconst (v := 0) (n := 41) rfl rfl rfl ?_
    refine w_calli (as := [.ref 58, .int x2, .int 0]) (rest := []) (n := 44) rfl rfl rfl rfl ?_
    obtain ⟨r41, I41, hI41, H⟩ := H
    refine ⟨r41, I41, hI41, ?_⟩
    refine w_if_lt (n := 47) rfl rfl ⟨fun hc => ?_, fun hc => ?_⟩
    · replace H := H.1 hc
      refine w_iinc (y := x2 + 1) (ls' := [some (.ref 58), none, some (.int (x2 + 1))]) (n := 52) rfl rfl rfl rfl rfl ?_
      refine w_goto rfl ?_
      exact w_drp mm_Qf_i H (lb_s (lb_n (lb_s lb_e)))
    · replace H := H.2 hc
      refine w_iload_n (n := 48) rfl rfl rfl ?_
      exact w_ireturn rfl rfl H
theorem e_M_at {P : Int32 → mm_I → Prop} {I : mm_I} (x1 : Int32)
  (H : mm_Mi 198 [.ref 58] (mm_up I 58 16 0) (fun r6 I6 =>  -- M.headNow
    (¬ r6 = 0 →
      P (-1) I6) ∧
    (r6 = 0 →
      mm_Mi 125 [.int x1, .int 0, .int ((I6 58 15) - 1)] I6 (fun r20 I20 =>  -- M.within
      (¬ r20 = 0 →
        mm_Mi 209 [.ref 58, .int x1, .int 0] I20 (fun r31 I31 =>  -- M.lengthAt
        (0 ≤ r31 →
          vp_in (x1 + 1) 4000 ∧
          True) ∧
        P (if r31 < 0 then ((-1) : Int32) else (I31 66 ((x1 + 1).toNatClampNeg))) I31)) ∧
      (r20 = 0 →
        P (-1) I20))))) : mm_Mi 215 [.ref 58, .int x1] I P := by
  refine mm_Mi_of ?_
  show mm_W 215 0 [some (.ref 58), some (.int x1)] [] I (mm_qi 215 P)
  refine w_aload_nR (x := 58) (n := 1) rfl rfl rfl ?_
  refine w_iconst (v := 0) (n := 2) rfl rfl rfl ?_
  refine w_putI (n := 5) rfl rfl rfl rfl rfl ?_
  refine w_aload_nR (x := 58) (n := 6) rfl rfl rfl ?_
  refine w_calli (as := [.ref 58]) (rest := []) (n := 9) rfl rfl rfl rfl ?_
  obtain ⟨r6, I6, hI6, H⟩ := H
  refine ⟨r6, I6, hI6, ?_⟩
  refine w_if_ne (n := 12) rfl rfl ⟨fun hc => ?_, fun hc => ?_⟩
  · replace H := H.1 hc
    refine w_iconst (v := (-1)) (n := 27) rfl rfl rfl ?_
    exact w_ireturn rfl rfl H
  · replace H := H.2 hc
    refine w_iload_n (n := 13) rfl rfl rfl ?_
    refine w_iconst (v := 0) (n := 14) rfl rfl rfl ?_
    refine w_aload_nR (x := 58) (n := 15) rfl rfl rfl ?_
    refine w_getI (n := 18) rfl rfl rfl rfl ?_
    refine w_iconst (v := 1) (n := 19) rfl rfl rfl ?_
    refine w_isub (n := 20) rfl rfl ?_
    refine w_calli (as := [.int x1, .int 0, .int ((I6 58 15) - 1)]) (rest := []) (n := 23) rfl rfl rfl rfl ?_
    obtain ⟨r20, I20, hI20, H⟩ := H
    refine ⟨r20, I20, hI20, ?_⟩
    refine w_if_ne (n := 26) rfl rfl ⟨fun hc => ?_, fun hc => ?_⟩
    · replace H := H.1 hc
      refine w_aload_nR (x := 58) (n := 29) rfl rfl rfl ?_
      refine w_iload_n (n := 30) rfl rfl rfl ?_
      refine w_iconst (v := 0) (n := 31) rfl rfl rfl ?_
      refine w_calli (as := [.ref 58, .int x1, .int 0]) (rest := []) (n := 34) rfl rfl rfl rfl ?_
      obtain ⟨r31, I31, hI31, H⟩ := H
      refine ⟨r31, I31, hI31, ?_⟩
      obtain ⟨K2, H⟩ := H
      have J34 : ∀ (w34_0 : Int32), w34_0 = (if r31 < 0 then ((-1) : Int32) else (I31 66 ((x1 + 1).toNatClampNeg))) → mm_W 215 49 [some (.ref 58), some (.int x1)] [.int w34_0] I31 (mm_qi 215 P) := by
        intro w34_0 e34_0
        subst e34_0
        exact w_ireturn rfl rfl H
      refine w_if_lt (n := 37) rfl rfl ⟨fun hc => ?_, fun hc => ?_⟩
      · refine w_iconst (v := (-1)) (n := 49) rfl rfl rfl ?_
        refine w_drp mm_Qf_i (J34 _ ?_) (lb_s (lb_s lb_e))
        · exact (if_pos hc).symm
      · have H := K2 hc
        refine w_aload_nR (x := 58) (n := 38) rfl rfl rfl ?_
        refine w_getR (b := 66) (n := 41) rfl rfl rfl rfl rfl ?_
        refine w_iload_n (n := 42) rfl rfl rfl ?_
        refine w_iconst (v := 1) (n := 43) rfl rfl rfl ?_
        refine w_iadd (n := 44) rfl rfl ?_
        refine w_iaload (N := 4000) (j := (x1 + 1).toNatClampNeg) (n := 45) rfl rfl rfl rfl rfl rfl ⟨H.1, ?_⟩
        replace H := H.2
        refine w_goto rfl ?_
        refine w_drp mm_Qf_i (J34 _ ?_) (lb_s (lb_s lb_e))
        · exact (if_neg (fa_nlt hc)).symm
    · replace H := H.2 hc
      refine w_iconst (v := (-1)) (n := 27) rfl rfl rfl ?_
      exact w_ireturn rfl rfl H
theorem e_M_heard {P : Int32 → mm_I → Prop} {I : mm_I} (x1 : Int32) (x2 : Int32)
  (H : mm_Mi 210 [.ref 58] (mm_up I 58 16 1) (fun r6 I6 =>  -- M.finds
    (r6 = 0 →
      P 0 I6) ∧
    (¬ r6 = 0 →
      mm_Mi 125 [.int x1, .int 0, .int ((I6 58 35) - 1)] I6 (fun r20 I20 =>  -- M.within
      (r20 = 0 →
        P 0 I20) ∧
      (¬ r20 = 0 →
        mm_Mi 125 [.int x2, .int 0, .int ((I20 58 38) - 1)] I20 (fun r34 I34 =>  -- M.within
        (¬ r34 = 0 →
          vp_in ((256 * x1) + x2) 512 ∧
          P (I34 82 (((256 * x1) + x2).toNatClampNeg)) (mm_up I34 58 16 0)) ∧
        (r34 = 0 →
          P 0 I34))))))) : mm_Mi 216 [.ref 58, .int x1, .int x2] I P := by
  refine mm_Mi_of ?_
  show mm_W 216 0 [some (.ref 58), some (.int x1), some (.int x2)] [] I (mm_qi 216 P)
  refine w_aload_nR (x := 58) (n := 1) rfl rfl rfl ?_
  refine w_iconst (v := 1) (n := 2) rfl rfl rfl ?_
  refine w_putI (n := 5) rfl rfl rfl rfl rfl ?_
  refine w_aload_nR (x := 58) (n := 6) rfl rfl rfl ?_
  refine w_calli (as := [.ref 58]) (rest := []) (n := 9) rfl rfl rfl rfl ?_
  obtain ⟨r6, I6, hI6, H⟩ := H
  refine ⟨r6, I6, hI6, ?_⟩
  refine w_if_eq (n := 12) rfl rfl ⟨fun hc => ?_, fun hc => ?_⟩
  · replace H := H.1 hc
    refine w_iconst (v := 0) (n := 41) rfl rfl rfl ?_
    exact w_ireturn rfl rfl H
  · replace H := H.2 hc
    refine w_iload_n (n := 13) rfl rfl rfl ?_
    refine w_iconst (v := 0) (n := 14) rfl rfl rfl ?_
    refine w_aload_nR (x := 58) (n := 15) rfl rfl rfl ?_
    refine w_getI (n := 18) rfl rfl rfl rfl ?_
    refine w_iconst (v := 1) (n := 19) rfl rfl rfl ?_
    refine w_isub (n := 20) rfl rfl ?_
    refine w_calli (as := [.int x1, .int 0, .int ((I6 58 35) - 1)]) (rest := []) (n := 23) rfl rfl rfl rfl ?_
    obtain ⟨r20, I20, hI20, H⟩ := H
    refine ⟨r20, I20, hI20, ?_⟩
    refine w_if_eq (n := 26) rfl rfl ⟨fun hc => ?_, fun hc => ?_⟩
    · replace H := H.1 hc
      refine w_iconst (v := 0) (n := 41) rfl rfl rfl ?_
      exact w_ireturn rfl rfl H
    · replace H := H.2 hc
      refine w_iload_n (n := 27) rfl rfl rfl ?_
      refine w_iconst (v := 0) (n := 28) rfl rfl rfl ?_
      refine w_aload_nR (x := 58) (n := 29) rfl rfl rfl ?_
      refine w_getI (n := 32) rfl rfl rfl rfl ?_
      refine w_iconst (v := 1) (n := 33) rfl rfl rfl ?_
      refine w_isub (n := 34) rfl rfl ?_
      refine w_calli (as := [.int x2, .int 0, .int ((I20 58 38) - 1)]) (rest := []) (n := 37) rfl rfl rfl rfl ?_
      obtain ⟨r34, I34, hI34, H⟩ := H
      refine ⟨r34, I34, hI34, ?_⟩
      refine w_if_ne (n := 40) rfl rfl ⟨fun hc => ?_, fun hc => ?_⟩
      · replace H := H.1 hc
        refine w_aload_nR (x := 58) (n := 43) rfl rfl rfl ?_
        refine w_iconst (v := 0) (n := 44) rfl rfl rfl ?_
        refine w_putI (n := 47) rfl rfl rfl rfl rfl ?_
        refine w_aload_nR (x := 58) (n := 48) rfl rfl rfl ?_
        refine w_getR (b := 82) (n := 51) rfl rfl rfl rfl rfl ?_
        refine w_sipush (v := 256) (n := 54) rfl rfl rfl ?_
        refine w_iload_n (n := 55) rfl rfl rfl ?_
        refine w_imul (n := 56) rfl rfl ?_
        refine w_iload_n (n := 57) rfl rfl rfl ?_
        refine w_iadd (n := 58) rfl rfl ?_
        refine w_iaload (N := 512) (j := ((256 * x1) + x2).toNatClampNeg) (n := 59) rfl rfl rfl rfl rfl rfl ⟨H.1, ?_⟩
        replace H := H.2
        exact w_ireturn rfl rfl H
      · replace H := H.2 hc
        refine w_iconst (v := 0) (n := 41) rfl rfl rfl ?_
        exact w_ireturn rfl rfl H
theorem e_M_same {P : Int32 → mm_I → Prop} {I : mm_I}
  (H : mm_Mi 210 [.ref 58] (mm_up I 58 16 0) (fun r6 I6 =>  -- M.finds
    (¬ r6 = 0 →
      mm_W 217 18 [some (.ref 58), some (.int 0), some (.int 0), none] [] I6 (mm_qi 217 P)) ∧
    (r6 = 0 →
      P (-1) I6))) : mm_Mi 217 [.ref 58] I P := by
  refine mm_Mi_of ?_
  show mm_W 217 0 [some (.ref 58), none, none, none] [] I (mm_qi 217 P)
  refine w_aload_nR (x := 58) (n := 1) rfl rfl rfl ?_
  refine w_iconst (v := 0) (n := 2) rfl rfl rfl ?_
  refine w_putI (n := 5) rfl rfl rfl rfl rfl ?_
  refine w_aload_nR (x := 58) (n := 6) rfl rfl rfl ?_
  refine w_calli (as := [.ref 58]) (rest := []) (n := 9) rfl rfl rfl rfl ?_
  obtain ⟨r6, I6, hI6, H⟩ := H
  refine ⟨r6, I6, hI6, ?_⟩
  refine w_if_ne (n := 12) rfl rfl ⟨fun hc => ?_, fun hc => ?_⟩
  · replace H := H.1 hc
    refine w_iconst (v := 0) (n := 15) rfl rfl rfl ?_
    refine w_istore_n (ls' := [some (.ref 58), some (.int 0), none, none]) (n := 16) rfl rfl rfl rfl ?_
    refine w_iconst (v := 0) (n := 17) rfl rfl rfl ?_
    refine w_istore_n (ls' := [some (.ref 58), some (.int 0), some (.int 0), none]) (n := 18) rfl rfl rfl rfl ?_
    exact w_drp mm_Qf_i H (lb_s (lb_s (lb_s (lb_n lb_e))))
  · replace H := H.2 hc
    refine w_iconst (v := (-1)) (n := 13) rfl rfl rfl ?_
    exact w_ireturn rfl rfl H
theorem c_M_same_18 {P : Int32 → mm_I → Prop} {I : mm_I} (x1 : Int32) (x2 : Int32)
  (H : ((I 58 4) ≤ x2 →
      P x1 I) ∧
    (x2 < (I 58 4) →
      ((I 58 35) ≤ x2 →
        P x1 I) ∧
      (x2 < (I 58 35) →
        mm_W 217 36 [some (.ref 58), some (.int x1), some (.int x2), some (.int 0)] [] I (mm_qi 217 P)))) : mm_W 217 18 [some (.ref 58), some (.int x1), some (.int x2), none] [] I (mm_qi 217 P) := by
  refine w_iload_n (n := 19) rfl rfl rfl ?_
  refine w_aload_nR (x := 58) (n := 20) rfl rfl rfl ?_
  refine w_getI (n := 23) rfl rfl rfl rfl ?_
  refine w_icmp_ge (n := 26) rfl rfl ⟨fun hc => ?_, fun hc => ?_⟩
  · replace H := H.1 hc
    refine w_iload_n (n := 97) rfl rfl rfl ?_
    exact w_ireturn rfl rfl H
  · replace H := H.2 hc
    refine w_iload_n (n := 27) rfl rfl rfl ?_
    refine w_aload_nR (x := 58) (n := 28) rfl rfl rfl ?_
    refine w_getI (n := 31) rfl rfl rfl rfl ?_
    refine w_icmp_ge (n := 34) rfl rfl ⟨fun hc => ?_, fun hc => ?_⟩
    · replace H := H.1 hc
      refine w_iload_n (n := 97) rfl rfl rfl ?_
      exact w_ireturn rfl rfl H
    · replace H := H.2 hc
      refine w_iconst (v := 0) (n := 35) rfl rfl rfl ?_
      refine w_istore_n (ls' := [some (.ref 58), some (.int x1), some (.int x2), some (.int 0)]) (n := 36) rfl rfl rfl rfl ?_
      exact w_drp mm_Qf_i H (lb_s (lb_s (lb_s (lb_s lb_e))))
theorem c_M_same_36 {P : Int32 → mm_I → Prop} {I : mm_I} (x1 : Int32) (x2 : Int32) (x3 : Int32)
  (H : vp_in x2 2 ∧
    ((I 61 x2.toNatClampNeg) ≤ x3 →
      mm_W 217 18 [some (.ref 58), some (.int x1), some (.int (x2 + 1)), none] [] I (mm_qi 217 P)) ∧
    (x3 < (I 61 x2.toNatClampNeg) →
      ((I 58 38) ≤ x3 →
        mm_W 217 18 [some (.ref 58), some (.int x1), some (.int (x2 + 1)), none] [] I (mm_qi 217 P)) ∧
      (x3 < (I 58 38) →
        vp_in ((256 * x2) + x3) 512 ∧
        vp_in ((256 * x2) + x3) 512 ∧
        mm_W 217 36 [some (.ref 58), some (.int (if (I 82 (((256 * x2) + x3).toNatClampNeg)) = (I 60 (((256 * x2) + x3).toNatClampNeg)) then (x1 + 1 : Int32) else x1)), some (.int x2), some (.int (x3 + 1))] [] I (mm_qi 217 P)))) : mm_W 217 36 [some (.ref 58), some (.int x1), some (.int x2), some (.int x3)] [] I (mm_qi 217 P) := by
  refine w_iload_n (n := 37) rfl rfl rfl ?_
  refine w_aload_nR (x := 58) (n := 38) rfl rfl rfl ?_
  refine w_getR (b := 61) (n := 41) rfl rfl rfl rfl rfl ?_
  refine w_iload_n (n := 42) rfl rfl rfl ?_
  refine w_iaload (N := 2) (j := x2.toNatClampNeg) (n := 43) rfl rfl rfl rfl rfl rfl ⟨H.1, ?_⟩
  replace H := H.2
  refine w_icmp_ge (n := 46) rfl rfl ⟨fun hc => ?_, fun hc => ?_⟩
  · replace H := H.1 hc
    refine w_iinc (y := x2 + 1) (ls' := [some (.ref 58), some (.int x1), some (.int (x2 + 1)), some (.int x3)]) (n := 93) rfl rfl rfl rfl rfl ?_
    refine w_goto rfl ?_
    exact w_drp mm_Qf_i H (lb_s (lb_s (lb_s (lb_n lb_e))))
  · replace H := H.2 hc
    refine w_iload_n (n := 47) rfl rfl rfl ?_
    refine w_aload_nR (x := 58) (n := 48) rfl rfl rfl ?_
    refine w_getI (n := 51) rfl rfl rfl rfl ?_
    refine w_icmp_ge (n := 54) rfl rfl ⟨fun hc => ?_, fun hc => ?_⟩
    · replace H := H.1 hc
      refine w_iinc (y := x2 + 1) (ls' := [some (.ref 58), some (.int x1), some (.int (x2 + 1)), some (.int x3)]) (n := 93) rfl rfl rfl rfl rfl ?_
      refine w_goto rfl ?_
      exact w_drp mm_Qf_i H (lb_s (lb_s (lb_s (lb_n lb_e))))
    · replace H := H.2 hc
      refine w_aload_nR (x := 58) (n := 55) rfl rfl rfl ?_
      refine w_getR (b := 82) (n := 58) rfl rfl rfl rfl rfl ?_
      refine w_sipush (v := 256) (n := 61) rfl rfl rfl ?_
      refine w_iload_n (n := 62) rfl rfl rfl ?_
      refine w_imul (n := 63) rfl rfl ?_
      refine w_iload_n (n := 64) rfl rfl rfl ?_
      refine w_iadd (n := 65) rfl rfl ?_
      refine w_iaload (N := 512) (j := ((256 * x2) + x3).toNatClampNeg) (n := 66) rfl rfl rfl rfl rfl rfl ⟨H.1, ?_⟩
      replace H := H.2
      refine w_aload_nR (x := 58) (n := 67) rfl rfl rfl ?_
      refine w_getR (b := 60) (n := 70) rfl rfl rfl rfl rfl ?_
      refine w_sipush (v := 256) (n := 73) rfl rfl rfl ?_
      refine w_iload_n (n := 74) rfl rfl rfl ?_
      refine w_imul (n := 75) rfl rfl ?_
      refine w_iload_n (n := 76) rfl rfl rfl ?_
      refine w_iadd (n := 77) rfl rfl ?_
      refine w_iaload (N := 512) (j := ((256 * x2) + x3).toNatClampNeg) (n := 78) rfl rfl rfl rfl rfl rfl ⟨H.1, ?_⟩
      replace H := H.2
      have J78 : ∀ (y78_1 : Int32), y78_1 = (if (I 82 (((256 * x2) + x3).toNatClampNeg)) = (I 60 (((256 * x2) + x3).toNatClampNeg)) then (x1 + 1 : Int32) else x1) → mm_W 217 84 [some (.ref 58), some (.int y78_1), some (.int x2), some (.int x3)] [] I (mm_qi 217 P) := by
        intro y78_1 e78_0
        subst e78_0
        refine w_iinc (y := x3 + 1) (ls' := [some (.ref 58), some (.int (if (I 82 (((256 * x2) + x3).toNatClampNeg)) = (I 60 (((256 * x2) + x3).toNatClampNeg)) then (x1 + 1 : Int32) else x1)), some (.int x2), some (.int (x3 + 1))]) (n := 87) rfl rfl rfl rfl rfl ?_
        refine w_goto rfl ?_
        exact w_drp mm_Qf_i H (lb_s (lb_s (lb_s (lb_s lb_e))))
      refine w_icmp_ne (n := 81) rfl rfl ⟨fun hc => ?_, fun hc => ?_⟩
      · refine w_drp mm_Qf_i (J78 _ ?_) (lb_s (lb_s (lb_s (lb_s lb_e))))
        · exact (if_neg hc).symm
      · refine w_iinc (y := x1 + 1) (ls' := [some (.ref 58), some (.int (x1 + 1)), some (.int x2), some (.int x3)]) (n := 84) rfl rfl rfl rfl rfl ?_
        refine w_drp mm_Qf_i (J78 _ ?_) (lb_s (lb_s (lb_s (lb_s lb_e))))
        · exact (if_pos hc).symm
theorem e_M_ratio {P : Int32 → mm_I → Prop} {I : mm_I}
  (H : mm_Mi 146 [.ref 58] (mm_up I 58 16 0) (fun r6 I6 =>  -- M.isReady
    (r6 = 0 →
      P (-1) I6) ∧
    (¬ r6 = 0 →
      (¬ (I6 61 0) = 0 →
        mm_Mi 181 [.ref 58, .int (I6 58 8)] I6 (fun r28 I28 =>  -- M.sizeBy
        vf_n32 (FP.fdiv (FP.i2f r28) (FP.i2f ((((I28 58 5) / 8) * (I28 58 4)) * (I28 61 0)))) ∧
        mm_Mi 223 [.float (FP.fdiv (FP.i2f r28) (FP.i2f ((((I28 58 5) / 8) * (I28 58 4)) * (I28 61 0))))] I28 (fun r53 I53 =>  -- Float.floatToIntBits
        P r53 I53))) ∧
      ((I6 61 0) = 0 →
        P (-1) I6)))) : mm_Mi 218 [.ref 58] I P := by
  refine mm_Mi_of ?_
  show mm_W 218 0 [some (.ref 58)] [] I (mm_qi 218 P)
  refine w_aload_nR (x := 58) (n := 1) rfl rfl rfl ?_
  refine w_iconst (v := 0) (n := 2) rfl rfl rfl ?_
  refine w_putI (n := 5) rfl rfl rfl rfl rfl ?_
  refine w_aload_nR (x := 58) (n := 6) rfl rfl rfl ?_
  refine w_calli (as := [.ref 58]) (rest := []) (n := 9) rfl rfl rfl rfl ?_
  obtain ⟨r6, I6, hI6, H⟩ := H
  refine ⟨r6, I6, hI6, ?_⟩
  refine w_if_eq (n := 12) rfl rfl ⟨fun hc => ?_, fun hc => ?_⟩
  · replace H := H.1 hc
    refine w_iconst (v := (-1)) (n := 22) rfl rfl rfl ?_
    exact w_ireturn rfl rfl H
  · replace H := H.2 hc
    refine w_aload_nR (x := 58) (n := 13) rfl rfl rfl ?_
    refine w_getR (b := 61) (n := 16) rfl rfl rfl rfl rfl ?_
    refine w_iconst (v := 0) (n := 17) rfl rfl rfl ?_
    refine w_iaload (N := 2) (j := 0) (n := 18) rfl rfl rfl rfl (by decide) rfl ⟨mm_vpc (by decide), ?_⟩
    refine w_if_ne (n := 21) rfl rfl ⟨fun hc => ?_, fun hc => ?_⟩
    · replace H := H.1 hc
      refine w_aload_nR (x := 58) (n := 24) rfl rfl rfl ?_
      refine w_aload_nR (x := 58) (n := 25) rfl rfl rfl ?_
      refine w_getI (n := 28) rfl rfl rfl rfl ?_
      refine w_calli (as := [.ref 58, .int (I6 58 8)]) (rest := []) (n := 31) rfl rfl rfl rfl ?_
      obtain ⟨r28, I28, hI28, H⟩ := H
      refine ⟨r28, I28, hI28, ?_⟩
      refine w_i2f (n := 32) rfl rfl ?_
      refine w_aload_nR (x := 58) (n := 33) rfl rfl rfl ?_
      refine w_getI (n := 36) rfl rfl rfl rfl ?_
      refine w_bipush (v := 8) (n := 38) rfl rfl rfl ?_
      refine w_idiv (n := 39) rfl rfl ⟨by decide, ?_⟩
      refine w_aload_nR (x := 58) (n := 40) rfl rfl rfl ?_
      refine w_getI (n := 43) rfl rfl rfl rfl ?_
      refine w_imul (n := 44) rfl rfl ?_
      refine w_aload_nR (x := 58) (n := 45) rfl rfl rfl ?_
      refine w_getR (b := 61) (n := 48) rfl rfl rfl rfl rfl ?_
      refine w_iconst (v := 0) (n := 49) rfl rfl rfl ?_
      refine w_iaload (N := 2) (j := 0) (n := 50) rfl rfl rfl rfl (by decide) rfl ⟨mm_vpc (by decide), ?_⟩
      refine w_imul (n := 51) rfl rfl ?_
      refine w_i2f (n := 52) rfl rfl ?_
      refine w_fdiv (n := 53) rfl rfl ⟨H.1, ?_⟩
      replace H := H.2
      refine w_calli (as := [.float (FP.fdiv (FP.i2f r28) (FP.i2f ((((I28 58 5) / 8) * (I28 58 4)) * (I28 61 0))))]) (rest := []) (n := 56) rfl rfl rfl rfl ?_
      obtain ⟨r53, I53, hI53, H⟩ := H
      refine ⟨r53, I53, hI53, ?_⟩
      exact w_ireturn rfl rfl H
    · replace H := H.2 hc
      refine w_iconst (v := (-1)) (n := 22) rfl rfl rfl ?_
      exact w_ireturn rfl rfl H
theorem e_M_loud {P : Int32 → mm_I → Prop} {I : mm_I} (x1 : Int32) (x2 : Int32)
  (H : mm_Mi 126 [.ref 58, .int x1] (mm_up I 58 16 1) (fun r7 I7 =>  -- M.isChannel
    (r7 = 0 →
      P 0 I7) ∧
    (¬ r7 = 0 →
      mm_Mi 125 [.int x2, .int 0, .int 1] I7 (fun r16 I16 =>  -- M.within
      (r16 = 0 →
        P 0 I16) ∧
      (¬ r16 = 0 →
        vp_in x1 2 ∧
        (¬ (I16 61 x1.toNatClampNeg) = 0 →
          mm_W 219 43 [some (.ref 58), some (.int x1), some (.int x2), some (.long 0), none, some (.int 0), none] [] (mm_up I16 58 16 0) (mm_qi 219 P)) ∧
        ((I16 61 x1.toNatClampNeg) = 0 →
          P 0 I16)))))) : mm_Mi 219 [.ref 58, .int x1, .int x2] I P := by
  refine mm_Mi_of ?_
  show mm_W 219 0 [some (.ref 58), some (.int x1), some (.int x2), none, none, none, none] [] I (mm_qi 219 P)
  refine w_aload_nR (x := 58) (n := 1) rfl rfl rfl ?_
  refine w_iconst (v := 1) (n := 2) rfl rfl rfl ?_
  refine w_putI (n := 5) rfl rfl rfl rfl rfl ?_
  refine w_aload_nR (x := 58) (n := 6) rfl rfl rfl ?_
  refine w_iload_n (n := 7) rfl rfl rfl ?_
  refine w_calli (as := [.ref 58, .int x1]) (rest := []) (n := 10) rfl rfl rfl rfl ?_
  obtain ⟨r7, I7, hI7, H⟩ := H
  refine ⟨r7, I7, hI7, ?_⟩
  refine w_if_eq (n := 13) rfl rfl ⟨fun hc => ?_, fun hc => ?_⟩
  · replace H := H.1 hc
    refine w_iconst (v := 0) (n := 32) rfl rfl rfl ?_
    exact w_ireturn rfl rfl H
  · replace H := H.2 hc
    refine w_iload_n (n := 14) rfl rfl rfl ?_
    refine w_iconst (v := 0) (n := 15) rfl rfl rfl ?_
    refine w_iconst (v := 1) (n := 16) rfl rfl rfl ?_
    refine w_calli (as := [.int x2, .int 0, .int 1]) (rest := []) (n := 19) rfl rfl rfl rfl ?_
    obtain ⟨r16, I16, hI16, H⟩ := H
    refine ⟨r16, I16, hI16, ?_⟩
    refine w_if_eq (n := 22) rfl rfl ⟨fun hc => ?_, fun hc => ?_⟩
    · replace H := H.1 hc
      refine w_iconst (v := 0) (n := 32) rfl rfl rfl ?_
      exact w_ireturn rfl rfl H
    · replace H := H.2 hc
      refine w_aload_nR (x := 58) (n := 23) rfl rfl rfl ?_
      refine w_getR (b := 61) (n := 26) rfl rfl rfl rfl rfl ?_
      refine w_iload_n (n := 27) rfl rfl rfl ?_
      refine w_iaload (N := 2) (j := x1.toNatClampNeg) (n := 28) rfl rfl rfl rfl rfl rfl ⟨H.1, ?_⟩
      replace H := H.2
      refine w_if_ne (n := 31) rfl rfl ⟨fun hc => ?_, fun hc => ?_⟩
      · replace H := H.1 hc
        refine w_aload_nR (x := 58) (n := 34) rfl rfl rfl ?_
        refine w_iconst (v := 0) (n := 35) rfl rfl rfl ?_
        refine w_putI (n := 38) rfl rfl rfl rfl rfl ?_
        refine w_lconst (v := 0) (n := 39) rfl rfl rfl ?_
        refine w_lstore_n (ls' := [some (.ref 58), some (.int x1), some (.int x2), some (.long 0), none, none, none]) (n := 40) rfl rfl rfl rfl ?_
        refine w_iconst (v := 0) (n := 41) rfl rfl rfl ?_
        refine w_istore (ls' := [some (.ref 58), some (.int x1), some (.int x2), some (.long 0), none, some (.int 0), none]) (n := 43) rfl rfl rfl rfl ?_
        exact w_drp mm_Qf_i H (lb_s (lb_s (lb_s (lb_s (lb_n (lb_s (lb_n lb_e)))))))
      · replace H := H.2 hc
        refine w_iconst (v := 0) (n := 32) rfl rfl rfl ?_
        exact w_ireturn rfl rfl H
theorem c_M_loud_43 {P : Int32 → mm_I → Prop} {I : mm_I} (x1 : Int32) (x2 : Int32) (x3 : Int64) (x5 : Int32)
  (H : vp_in x1 2 ∧
    ((I 61 x1.toNatClampNeg) ≤ x5 →
      vp_in x1 2 ∧
      vf_n64 (FP.ddiv (FP.l2d x3) (FP.i2d (I 61 x1.toNatClampNeg))) ∧
      mm_Ml 221 [.double (FP.ddiv (FP.l2d x3) (FP.i2d (I 61 x1.toNatClampNeg)))] I (fun r102 I102 =>  -- Double.doubleToLongBits
      P (if x2 = 0 then ((r102 >>> ((32 : Int32).toInt64 &&& 63)).toInt32 : Int32) else r102.toInt32) I102)) ∧
    (x5 < (I 61 x1.toNatClampNeg) →
      vp_in ((256 * x1) + x5) 512 ∧
      vp_in ((256 * x1) + x5) 512 ∧
      mm_W 219 43 [some (.ref 58), some (.int x1), some (.int x2), some (.long (x3 + (((I 60 (((256 * x1) + x5).toNatClampNeg)).toInt64) * ((I 60 (((256 * x1) + x5).toNatClampNeg)).toInt64)))), none, some (.int (x5 + 1)), none] [] I (mm_qi 219 P))) : mm_W 219 43 [some (.ref 58), some (.int x1), some (.int x2), some (.long x3), none, some (.int x5), none] [] I (mm_qi 219 P) := by
  refine w_iload (n := 45) rfl rfl rfl ?_
  refine w_aload_nR (x := 58) (n := 46) rfl rfl rfl ?_
  refine w_getR (b := 61) (n := 49) rfl rfl rfl rfl rfl ?_
  refine w_iload_n (n := 50) rfl rfl rfl ?_
  refine w_iaload (N := 2) (j := x1.toNatClampNeg) (n := 51) rfl rfl rfl rfl rfl rfl ⟨H.1, ?_⟩
  replace H := H.2
  refine w_icmp_ge (n := 54) rfl rfl ⟨fun hc => ?_, fun hc => ?_⟩
  · replace H := H.1 hc
    refine w_lload_n (n := 93) rfl rfl rfl ?_
    refine w_l2d (n := 94) rfl rfl ?_
    refine w_aload_nR (x := 58) (n := 95) rfl rfl rfl ?_
    refine w_getR (b := 61) (n := 98) rfl rfl rfl rfl rfl ?_
    refine w_iload_n (n := 99) rfl rfl rfl ?_
    refine w_iaload (N := 2) (j := x1.toNatClampNeg) (n := 100) rfl rfl rfl rfl rfl rfl ⟨H.1, ?_⟩
    replace H := H.2
    refine w_i2d (n := 101) rfl rfl ?_
    refine w_ddiv (n := 102) rfl rfl ⟨H.1, ?_⟩
    replace H := H.2
    refine w_calll (as := [.double (FP.ddiv (FP.l2d x3) (FP.i2d (I 61 x1.toNatClampNeg)))]) (rest := []) (n := 105) rfl rfl rfl rfl ?_
    obtain ⟨r102, I102, hI102, H⟩ := H
    refine ⟨r102, I102, hI102, ?_⟩
    refine w_lstore (ls' := [some (.ref 58), some (.int x1), some (.int x2), some (.long x3), none, some (.long r102), none]) (n := 107) rfl rfl rfl rfl ?_
    refine w_iload_n (n := 108) rfl rfl rfl ?_
    have J108 : ∀ (w108_0 : Int32), w108_0 = (if x2 = 0 then ((r102 >>> ((32 : Int32).toInt64 &&& 63)).toInt32 : Int32) else r102.toInt32) → mm_W 219 123 [some (.ref 58), some (.int x1), some (.int x2), some (.long x3), none, some (.long r102), none] [.int w108_0] I102 (mm_qi 219 P) := by
      intro w108_0 e108_0
      subst e108_0
      exact w_ireturn rfl rfl H
    refine w_if_ne (n := 111) rfl rfl ⟨fun hc => ?_, fun hc => ?_⟩
    · refine w_lload (n := 122) rfl rfl rfl ?_
      refine w_l2i (n := 123) rfl rfl ?_
      refine w_drp mm_Qf_i (J108 _ ?_) (lb_s (lb_s (lb_s (lb_s (lb_n (lb_s (lb_n lb_e)))))))
      · exact (if_neg hc).symm
    · refine w_lload (n := 113) rfl rfl rfl ?_
      refine w_bipush (v := 32) (n := 115) rfl rfl rfl ?_
      refine w_lshr (n := 116) rfl rfl ?_
      refine w_l2i (n := 117) rfl rfl ?_
      refine w_goto rfl ?_
      refine w_drp mm_Qf_i (J108 _ ?_) (lb_s (lb_s (lb_s (lb_s (lb_n (lb_s (lb_n lb_e)))))))
      · exact (if_pos hc).symm
  · replace H := H.2 hc
    refine w_lload_n (n := 55) rfl rfl rfl ?_
    refine w_aload_nR (x := 58) (n := 56) rfl rfl rfl ?_
    refine w_getR (b := 60) (n := 59) rfl rfl rfl rfl rfl ?_
    refine w_sipush (v := 256) (n := 62) rfl rfl rfl ?_
    refine w_iload_n (n := 63) rfl rfl rfl ?_
    refine w_imul (n := 64) rfl rfl ?_
    refine w_iload (n := 66) rfl rfl rfl ?_
    refine w_iadd (n := 67) rfl rfl ?_
    refine w_iaload (N := 512) (j := ((256 * x1) + x5).toNatClampNeg) (n := 68) rfl rfl rfl rfl rfl rfl ⟨H.1, ?_⟩
    replace H := H.2
    refine w_i2l (n := 69) rfl rfl ?_
    refine w_aload_nR (x := 58) (n := 70) rfl rfl rfl ?_
    refine w_getR (b := 60) (n := 73) rfl rfl rfl rfl rfl ?_
    refine w_sipush (v := 256) (n := 76) rfl rfl rfl ?_
    refine w_iload_n (n := 77) rfl rfl rfl ?_
    refine w_imul (n := 78) rfl rfl ?_
    refine w_iload (n := 80) rfl rfl rfl ?_
    refine w_iadd (n := 81) rfl rfl ?_
    refine w_iaload (N := 512) (j := ((256 * x1) + x5).toNatClampNeg) (n := 82) rfl rfl rfl rfl rfl rfl ⟨H.1, ?_⟩
    replace H := H.2
    refine w_i2l (n := 83) rfl rfl ?_
    refine w_lmul (n := 84) rfl rfl ?_
    refine w_ladd (n := 85) rfl rfl ?_
    refine w_lstore_n (ls' := [some (.ref 58), some (.int x1), some (.int x2), some (.long (x3 + (((I 60 (((256 * x1) + x5).toNatClampNeg)).toInt64) * ((I 60 (((256 * x1) + x5).toNatClampNeg)).toInt64)))), none, some (.int x5), none]) (n := 86) rfl rfl rfl rfl ?_
    refine w_iinc (y := x5 + 1) (ls' := [some (.ref 58), some (.int x1), some (.int x2), some (.long (x3 + (((I 60 (((256 * x1) + x5).toNatClampNeg)).toInt64) * ((I 60 (((256 * x1) + x5).toNatClampNeg)).toInt64)))), none, some (.int (x5 + 1)), none]) (n := 89) rfl rfl rfl rfl rfl ?_
    refine w_goto rfl ?_
    exact w_drp mm_Qf_i H (lb_s (lb_s (lb_s (lb_s (lb_n (lb_s (lb_n lb_e)))))))
theorem e_M_count {P : Int32 → mm_I → Prop} {I : mm_I} (x1 : Int32)
  (H : (x1 = 0 →
      P (I 58 4) (mm_up I 58 16 0)) ∧
    (x1 = 1 →
      P (I 58 5) (mm_up I 58 16 0)) ∧
    (x1 = 2 →
      P (I 58 6) (mm_up I 58 16 0)) ∧
    (x1 = 3 →
      P (I 58 7) (mm_up I 58 16 0)) ∧
    (x1 = 4 →
      P (I 58 8) (mm_up I 58 16 0)) ∧
    (x1 = 5 →
      mm_Mi 126 [.ref 58, .int (x1 - 5)] (mm_up I 58 16 0) (fun r93 I93 =>  -- M.isChannel
      (¬ r93 = 0 →
        vp_in (x1 - 5) 2 ∧
        True) ∧
      P (if r93 = 0 then ((-1) : Int32) else (I93 61 ((x1 - 5).toNatClampNeg))) I93)) ∧
    (x1 = 6 →
      mm_Mi 126 [.ref 58, .int (x1 - 5)] (mm_up I 58 16 0) (fun r93 I93 =>  -- M.isChannel
      (¬ r93 = 0 →
        vp_in (x1 - 5) 2 ∧
        True) ∧
      P (if r93 = 0 then ((-1) : Int32) else (I93 61 ((x1 - 5).toNatClampNeg))) I93)) ∧
    (x1 = 7 →
      mm_Mi 147 [.ref 58] (mm_up I 58 16 0) (fun r113 I113 =>  -- M.frames
      P r113 I113)) ∧
    (x1 = 8 →
      P (I 58 15) (mm_up I 58 16 0)) ∧
    (x1 = 9 →
      P (I 58 1) (mm_up I 58 16 0)) ∧
    (x1 = 10 →
      P (I 58 9) (mm_up I 58 16 0)) ∧
    (¬ x1 = 0 → ¬ x1 = 1 → ¬ x1 = 2 → ¬ x1 = 3 → ¬ x1 = 4 → ¬ x1 = 5 → ¬ x1 = 6 → ¬ x1 = 7 → ¬ x1 = 8 → ¬ x1 = 9 → ¬ x1 = 10 →
      P (-1) (mm_up I 58 16 0))) : mm_Mi 220 [.ref 58, .int x1] I P := by
  refine mm_Mi_of ?_
  show mm_W 220 0 [some (.ref 58), some (.int x1)] [] I (mm_qi 220 P)
  refine w_aload_nR (x := 58) (n := 1) rfl rfl rfl ?_
  refine w_iconst (v := 0) (n := 2) rfl rfl rfl ?_
  refine w_putI (n := 5) rfl rfl rfl rfl rfl ?_
  refine w_iload_n (n := 6) rfl rfl rfl ?_
  by_cases h6_0 : x1 = 0
  · replace H := H.1 h6_0
    refine w_switch (tg := 64) rfl (by rw [h6_0]; rfl) ?_
    refine w_aload_nR (x := 58) (n := 65) rfl rfl rfl ?_
    refine w_getI (n := 68) rfl rfl rfl rfl ?_
    exact w_ireturn rfl rfl H
  by_cases h6_1 : x1 = 1
  · replace H := H.2.1 h6_1
    refine w_switch (tg := 69) rfl (by rw [h6_1]; rfl) ?_
    refine w_aload_nR (x := 58) (n := 70) rfl rfl rfl ?_
    refine w_getI (n := 73) rfl rfl rfl rfl ?_
    exact w_ireturn rfl rfl H
  by_cases h6_2 : x1 = 2
  · replace H := H.2.2.1 h6_2
    refine w_switch (tg := 74) rfl (by rw [h6_2]; rfl) ?_
    refine w_aload_nR (x := 58) (n := 75) rfl rfl rfl ?_
    refine w_getI (n := 78) rfl rfl rfl rfl ?_
    exact w_ireturn rfl rfl H
  by_cases h6_3 : x1 = 3
  · replace H := H.2.2.2.1 h6_3
    refine w_switch (tg := 79) rfl (by rw [h6_3]; rfl) ?_
    refine w_aload_nR (x := 58) (n := 80) rfl rfl rfl ?_
    refine w_getI (n := 83) rfl rfl rfl rfl ?_
    exact w_ireturn rfl rfl H
  by_cases h6_4 : x1 = 4
  · replace H := H.2.2.2.2.1 h6_4
    refine w_switch (tg := 84) rfl (by rw [h6_4]; rfl) ?_
    refine w_aload_nR (x := 58) (n := 85) rfl rfl rfl ?_
    refine w_getI (n := 88) rfl rfl rfl rfl ?_
    exact w_ireturn rfl rfl H
  by_cases h6_5 : x1 = 5
  · replace H := H.2.2.2.2.2.1 h6_5
    refine w_switch (tg := 89) rfl (by rw [h6_5]; rfl) ?_
    refine w_aload_nR (x := 58) (n := 90) rfl rfl rfl ?_
    refine w_iload_n (n := 91) rfl rfl rfl ?_
    refine w_iconst (v := 5) (n := 92) rfl rfl rfl ?_
    refine w_isub (n := 93) rfl rfl ?_
    refine w_calli (as := [.ref 58, .int (x1 - 5)]) (rest := []) (n := 96) rfl rfl rfl rfl ?_
    obtain ⟨r93, I93, hI93, H⟩ := H
    refine ⟨r93, I93, hI93, ?_⟩
    obtain ⟨K2, H⟩ := H
    have J96 : ∀ (w96_0 : Int32), w96_0 = (if r93 = 0 then ((-1) : Int32) else (I93 61 ((x1 - 5).toNatClampNeg))) → mm_W 220 111 [some (.ref 58), some (.int x1)] [.int w96_0] I93 (mm_qi 220 P) := by
      intro w96_0 e96_0
      subst e96_0
      exact w_ireturn rfl rfl H
    refine w_if_eq (n := 99) rfl rfl ⟨fun hc => ?_, fun hc => ?_⟩
    · refine w_iconst (v := (-1)) (n := 111) rfl rfl rfl ?_
      refine w_drp mm_Qf_i (J96 _ ?_) (lb_s (lb_s lb_e))
      · exact (if_pos hc).symm
    · have H := K2 hc
      refine w_aload_nR (x := 58) (n := 100) rfl rfl rfl ?_
      refine w_getR (b := 61) (n := 103) rfl rfl rfl rfl rfl ?_
      refine w_iload_n (n := 104) rfl rfl rfl ?_
      refine w_iconst (v := 5) (n := 105) rfl rfl rfl ?_
      refine w_isub (n := 106) rfl rfl ?_
      refine w_iaload (N := 2) (j := (x1 - 5).toNatClampNeg) (n := 107) rfl rfl rfl rfl rfl rfl ⟨H.1, ?_⟩
      replace H := H.2
      refine w_goto rfl ?_
      refine w_drp mm_Qf_i (J96 _ ?_) (lb_s (lb_s lb_e))
      · exact (if_neg hc).symm
  by_cases h6_6 : x1 = 6
  · replace H := H.2.2.2.2.2.2.1 h6_6
    refine w_switch (tg := 89) rfl (by rw [h6_6]; rfl) ?_
    refine w_aload_nR (x := 58) (n := 90) rfl rfl rfl ?_
    refine w_iload_n (n := 91) rfl rfl rfl ?_
    refine w_iconst (v := 5) (n := 92) rfl rfl rfl ?_
    refine w_isub (n := 93) rfl rfl ?_
    refine w_calli (as := [.ref 58, .int (x1 - 5)]) (rest := []) (n := 96) rfl rfl rfl rfl ?_
    obtain ⟨r93, I93, hI93, H⟩ := H
    refine ⟨r93, I93, hI93, ?_⟩
    obtain ⟨K2, H⟩ := H
    have J96 : ∀ (w96_0 : Int32), w96_0 = (if r93 = 0 then ((-1) : Int32) else (I93 61 ((x1 - 5).toNatClampNeg))) → mm_W 220 111 [some (.ref 58), some (.int x1)] [.int w96_0] I93 (mm_qi 220 P) := by
      intro w96_0 e96_0
      subst e96_0
      exact w_ireturn rfl rfl H
    refine w_if_eq (n := 99) rfl rfl ⟨fun hc => ?_, fun hc => ?_⟩
    · refine w_iconst (v := (-1)) (n := 111) rfl rfl rfl ?_
      refine w_drp mm_Qf_i (J96 _ ?_) (lb_s (lb_s lb_e))
      · exact (if_pos hc).symm
    · have H := K2 hc
      refine w_aload_nR (x := 58) (n := 100) rfl rfl rfl ?_
      refine w_getR (b := 61) (n := 103) rfl rfl rfl rfl rfl ?_
      refine w_iload_n (n := 104) rfl rfl rfl ?_
      refine w_iconst (v := 5) (n := 105) rfl rfl rfl ?_
      refine w_isub (n := 106) rfl rfl ?_
      refine w_iaload (N := 2) (j := (x1 - 5).toNatClampNeg) (n := 107) rfl rfl rfl rfl rfl rfl ⟨H.1, ?_⟩
      replace H := H.2
      refine w_goto rfl ?_
      refine w_drp mm_Qf_i (J96 _ ?_) (lb_s (lb_s lb_e))
      · exact (if_neg hc).symm
  by_cases h6_7 : x1 = 7
  · replace H := H.2.2.2.2.2.2.2.1 h6_7
    refine w_switch (tg := 112) rfl (by rw [h6_7]; rfl) ?_
    refine w_aload_nR (x := 58) (n := 113) rfl rfl rfl ?_
    refine w_calli (as := [.ref 58]) (rest := []) (n := 116) rfl rfl rfl rfl ?_
    obtain ⟨r113, I113, hI113, H⟩ := H
    refine ⟨r113, I113, hI113, ?_⟩
    exact w_ireturn rfl rfl H
  by_cases h6_8 : x1 = 8
  · replace H := H.2.2.2.2.2.2.2.2.1 h6_8
    refine w_switch (tg := 117) rfl (by rw [h6_8]; rfl) ?_
    refine w_aload_nR (x := 58) (n := 118) rfl rfl rfl ?_
    refine w_getI (n := 121) rfl rfl rfl rfl ?_
    exact w_ireturn rfl rfl H
  by_cases h6_9 : x1 = 9
  · replace H := H.2.2.2.2.2.2.2.2.2.1 h6_9
    refine w_switch (tg := 122) rfl (by rw [h6_9]; rfl) ?_
    refine w_aload_nR (x := 58) (n := 123) rfl rfl rfl ?_
    refine w_getI (n := 126) rfl rfl rfl rfl ?_
    exact w_ireturn rfl rfl H
  by_cases h6_10 : x1 = 10
  · replace H := H.2.2.2.2.2.2.2.2.2.2.1 h6_10
    refine w_switch (tg := 127) rfl (by rw [h6_10]; rfl) ?_
    refine w_aload_nR (x := 58) (n := 128) rfl rfl rfl ?_
    refine w_getI (n := 131) rfl rfl rfl rfl ?_
    exact w_ireturn rfl rfl H
  replace H := H.2.2.2.2.2.2.2.2.2.2.2 h6_0 h6_1 h6_2 h6_3 h6_4 h6_5 h6_6 h6_7 h6_8 h6_9 h6_10
  refine w_switch (tg := 132) rfl (mm_sw_def (fun z z1 z2 ze => ?_) rfl) ?_
  · rcases (show z = 0 ∨ z = 1 ∨ z = 2 ∨ z = 3 ∨ z = 4 ∨ z = 5 ∨ z = 6 ∨ z = 7 ∨ z = 8 ∨ z = 9 ∨ z = 10 by omega) with rfl | rfl | rfl | rfl | rfl | rfl | rfl | rfl | rfl | rfl | rfl
    · exact h6_0 (Int32.toInt_inj.mp (by rw [ze]; rfl))
    · exact h6_1 (Int32.toInt_inj.mp (by rw [ze]; rfl))
    · exact h6_2 (Int32.toInt_inj.mp (by rw [ze]; rfl))
    · exact h6_3 (Int32.toInt_inj.mp (by rw [ze]; rfl))
    · exact h6_4 (Int32.toInt_inj.mp (by rw [ze]; rfl))
    · exact h6_5 (Int32.toInt_inj.mp (by rw [ze]; rfl))
    · exact h6_6 (Int32.toInt_inj.mp (by rw [ze]; rfl))
    · exact h6_7 (Int32.toInt_inj.mp (by rw [ze]; rfl))
    · exact h6_8 (Int32.toInt_inj.mp (by rw [ze]; rfl))
    · exact h6_9 (Int32.toInt_inj.mp (by rw [ze]; rfl))
    · exact h6_10 (Int32.toInt_inj.mp (by rw [ze]; rfl))
  refine w_iconst (v := (-1)) (n := 133) rfl rfl rfl ?_
  exact w_ireturn rfl rfl H
theorem e_Double_doubleToLongBits {P : Int64 → mm_I → Prop} {I : mm_I} (x0 : UInt64)
  (H : mm_Mi 222 [.double x0] I (fun r1 I1 =>  -- Double.isNaN
    (¬ r1 = 0 →
      P 9221120237041090560 I1) ∧
    (r1 = 0 →
      P x0.toInt64 I1))) : mm_Ml 221 [.double x0] I P := by
  refine mm_Ml_of ?_
  show mm_W 221 0 [some (.double x0), none] [] I (mm_ql 221 P)
  refine w_dload_n (n := 1) rfl rfl rfl ?_
  refine w_calli (as := [.double x0]) (rest := []) (n := 4) rfl rfl rfl rfl ?_
  obtain ⟨r1, I1, hI1, H⟩ := H
  refine ⟨r1, I1, hI1, ?_⟩
  refine w_if_ne (n := 7) rfl rfl ⟨fun hc => ?_, fun hc => ?_⟩
  · replace H := H.1 hc
    refine w_ldc2_w (v := 9221120237041090560) (n := 15) rfl rfl rfl ?_
    exact w_lreturn rfl rfl H
  · replace H := H.2 hc
    refine w_dload_n (n := 8) rfl rfl rfl ?_
    refine w_d2raw (n := 11) rfl rfl rfl ?_
    exact w_lreturn rfl rfl H
theorem e_Double_isNaN {P : Int32 → mm_I → Prop} {I : mm_I} (x0 : UInt64)
  (H : ((if (Op.cmpValue (FP.dcmp x0 x0) .l) = 0 then (0 : Int32) else 1) = 0 ∨ (if (Op.cmpValue (FP.dcmp x0 x0) .l) = 0 then (0 : Int32) else 1) = 1) ∧ P (if (Op.cmpValue (FP.dcmp x0 x0) .l) = 0 then (0 : Int32) else 1) I) : mm_Mi 222 [.double x0] I P := by
  refine mm_Mi_of ?_
  show mm_W 222 0 [some (.double x0), none] [] I (mm_qi 222 P)
  refine w_dload_n (n := 1) rfl rfl rfl ?_
  refine w_dload_n (n := 2) rfl rfl rfl ?_
  refine w_dcmp (n := 3) rfl rfl ?_
  have J3 : ∀ (w3_0 : Int32), w3_0 = (if (Op.cmpValue (FP.dcmp x0 x0) .l) = 0 then (0 : Int32) else 1) → mm_W 222 11 [some (.double x0), none] [.int w3_0] I (mm_qi 222 P) := by
    intro w3_0 e3_0
    subst e3_0
    exact w_zreturn rfl rfl H
  refine w_if_eq (n := 6) rfl rfl ⟨fun hc => ?_, fun hc => ?_⟩
  · refine w_iconst (v := 0) (n := 11) rfl rfl rfl ?_
    refine w_drp mm_Qf_i (J3 _ ?_) (lb_s (lb_n lb_e))
    · exact (if_pos hc).symm
  · refine w_iconst (v := 1) (n := 7) rfl rfl rfl ?_
    refine w_goto rfl ?_
    refine w_drp mm_Qf_i (J3 _ ?_) (lb_s (lb_n lb_e))
    · exact (if_neg hc).symm
theorem e_Float_floatToIntBits {P : Int32 → mm_I → Prop} {I : mm_I} (x0 : UInt32)
  (H : mm_Mi 224 [.float x0] I (fun r1 I1 =>  -- Float.isNaN
    (¬ r1 = 0 →
      P 2143289344 I1) ∧
    (r1 = 0 →
      P x0.toInt32 I1))) : mm_Mi 223 [.float x0] I P := by
  refine mm_Mi_of ?_
  show mm_W 223 0 [some (.float x0)] [] I (mm_qi 223 P)
  refine w_fload_n (n := 1) rfl rfl rfl ?_
  refine w_calli (as := [.float x0]) (rest := []) (n := 4) rfl rfl rfl rfl ?_
  obtain ⟨r1, I1, hI1, H⟩ := H
  refine ⟨r1, I1, hI1, ?_⟩
  refine w_if_ne (n := 7) rfl rfl ⟨fun hc => ?_, fun hc => ?_⟩
  · replace H := H.1 hc
    refine w_ldc (v := 2143289344) (n := 14) rfl rfl rfl ?_
    exact w_ireturn rfl rfl H
  · replace H := H.2 hc
    refine w_fload_n (n := 8) rfl rfl rfl ?_
    refine w_f2raw (n := 11) rfl rfl rfl ?_
    exact w_ireturn rfl rfl H
theorem e_Float_isNaN {P : Int32 → mm_I → Prop} {I : mm_I} (x0 : UInt32)
  (H : ((if (Op.cmpValue (FP.fcmp x0 x0) .l) = 0 then (0 : Int32) else 1) = 0 ∨ (if (Op.cmpValue (FP.fcmp x0 x0) .l) = 0 then (0 : Int32) else 1) = 1) ∧ P (if (Op.cmpValue (FP.fcmp x0 x0) .l) = 0 then (0 : Int32) else 1) I) : mm_Mi 224 [.float x0] I P := by
  refine mm_Mi_of ?_
  show mm_W 224 0 [some (.float x0)] [] I (mm_qi 224 P)
  refine w_fload_n (n := 1) rfl rfl rfl ?_
  refine w_fload_n (n := 2) rfl rfl rfl ?_
  refine w_fcmp (n := 3) rfl rfl ?_
  have J3 : ∀ (w3_0 : Int32), w3_0 = (if (Op.cmpValue (FP.fcmp x0 x0) .l) = 0 then (0 : Int32) else 1) → mm_W 224 11 [some (.float x0)] [.int w3_0] I (mm_qi 224 P) := by
    intro w3_0 e3_0
    subst e3_0
    exact w_zreturn rfl rfl H
  refine w_if_eq (n := 6) rfl rfl ⟨fun hc => ?_, fun hc => ?_⟩
  · refine w_iconst (v := 0) (n := 11) rfl rfl rfl ?_
    refine w_drp mm_Qf_i (J3 _ ?_) (lb_s lb_e)
    · exact (if_pos hc).symm
  · refine w_iconst (v := 1) (n := 7) rfl rfl rfl ?_
    refine w_goto rfl ?_
    refine w_drp mm_Qf_i (J3 _ ?_) (lb_s lb_e)
    · exact (if_neg hc).symm
theorem e_Math_max {P : Int32 → mm_I → Prop} {I : mm_I} (x0 : Int32) (x1 : Int32)
  (H : P (if x0 < x1 then (x1 : Int32) else x0) I) : mm_Mi 225 [.int x0, .int x1] I P := by
  refine mm_Mi_of ?_
  show mm_W 225 0 [some (.int x0), some (.int x1)] [] I (mm_qi 225 P)
  refine w_iload_n (n := 1) rfl rfl rfl ?_
  refine w_iload_n (n := 2) rfl rfl rfl ?_
  have J2 : ∀ (w2_0 : Int32), w2_0 = (if x0 < x1 then (x1 : Int32) else x0) → mm_W 225 10 [some (.int x0), some (.int x1)] [.int w2_0] I (mm_qi 225 P) := by
    intro w2_0 e2_0
    subst e2_0
    exact w_ireturn rfl rfl H
  refine w_icmp_lt (n := 5) rfl rfl ⟨fun hc => ?_, fun hc => ?_⟩
  · refine w_iload_n (n := 10) rfl rfl rfl ?_
    refine w_drp mm_Qf_i (J2 _ ?_) (lb_s (lb_s lb_e))
    · exact (if_pos hc).symm
  · refine w_iload_n (n := 6) rfl rfl rfl ?_
    refine w_goto rfl ?_
    refine w_drp mm_Qf_i (J2 _ ?_) (lb_s (lb_s lb_e))
    · exact (if_neg (fa_nlt hc)).symm
theorem e_Math_min {P : Int32 → mm_I → Prop} {I : mm_I} (x0 : Int32) (x1 : Int32)
  (H : P (if x1 < x0 then (x1 : Int32) else x0) I) : mm_Mi 226 [.int x0, .int x1] I P := by
  refine mm_Mi_of ?_
  show mm_W 226 0 [some (.int x0), some (.int x1)] [] I (mm_qi 226 P)
  refine w_iload_n (n := 1) rfl rfl rfl ?_
  refine w_iload_n (n := 2) rfl rfl rfl ?_
  have J2 : ∀ (w2_0 : Int32), w2_0 = (if x1 < x0 then (x1 : Int32) else x0) → mm_W 226 10 [some (.int x0), some (.int x1)] [.int w2_0] I (mm_qi 226 P) := by
    intro w2_0 e2_0
    subst e2_0
    exact w_ireturn rfl rfl H
  refine w_icmp_gt (n := 5) rfl rfl ⟨fun hc => ?_, fun hc => ?_⟩
  · refine w_iload_n (n := 10) rfl rfl rfl ?_
    refine w_drp mm_Qf_i (J2 _ ?_) (lb_s (lb_s lb_e))
    · exact (if_pos hc).symm
  · refine w_iload_n (n := 6) rfl rfl rfl ?_
    refine w_goto rfl ?_
    refine w_drp mm_Qf_i (J2 _ ?_) (lb_s (lb_s lb_e))
    · exact (if_neg (fa_nlt hc)).symm
