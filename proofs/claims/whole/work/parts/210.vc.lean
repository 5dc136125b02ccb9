theorem e_M_joined {P : Int32 → mm_I → Prop} {I : mm_I} (x1 : Int32) (x2 : Int32)
  (H : mm_Mi 148 [.ref 58, .int x1] (mm_up I 58 16 0) (fun r7 I7 =>  -- M.isFrameThere
    (r7 = 0 →
      P (-1) I7) ∧
    (¬ r7 = 0 →
      mm_Mi 125 [.int x2, .int 0, .int (if (I7 58 4) = 2 then (3 : Int32) else 0)] I7 (fun r28 I28 =>  -- M.within
      (¬ r28 = 0 →
        mm_Mv 169 [.ref 58, .int x1, .int (I28 58 8)] I28 (fun I42 =>  -- M.laysSorts
        mm_Mi 170 [.ref 58, .int x2] I42 (fun r47 I47 =>  -- M.joinedBits
        P r47 I47))) ∧
      (r28 = 0 →
        P (-1) I28))))) : mm_Mi 174 [.ref 58, .int x1, .int x2] I P := by
  refine mm_Mi_of ?_
  show mm_W 174 0 [some (.ref 58), some (.int x1), some (.int x2)] [] I (mm_qi 174 P)
  refine w_aload_nR (x := 58) (n := 1) rfl rfl rfl ?_
  refine w_iconst (v := 0) (n := 2) rfl rfl rfl ?_
  refine w_putI (n := 5) rfl rfl rfl rfl rfl ?_
  refine w_aload_nR (x := 58) (n := 6) rfl rfl rfl ?_
  refine w_iload_n (n := 7) rfl rfl rfl ?_
  refine w_calli (as := [.ref 58, .int x1]) (rest := []) (n := 10) rfl rfl rfl rfl ?_
  obtain ⟨r7, I7, hI7, H⟩ := H
  refine ⟨r7, I7, hI7, ?_⟩
  refine w_if_eq (n := 13) rfl rfl ⟨fun hc => ?_, fun hc => ?_⟩
  · replace H := H.1 hc
    refine w_iconst (v := (-1)) (n := 35) rfl rfl rfl ?_
    exact w_ireturn rfl rfl H
  · replace H := H.2 hc
    refine w_iload_n (n := 14) rfl rfl rfl ?_
    refine w_iconst (v := 0) (n := 15) rfl rfl rfl ?_
    refine w_aload_nR (x := 58) (n := 16) rfl rfl rfl ?_
    refine w_getI (n := 19) rfl rfl rfl rfl ?_
    refine w_iconst (v := 2) (n := 20) rfl rfl rfl ?_
    have J20 : ∀ (w20_2 : Int32), w20_2 = (if (I7 58 4) = 2 then (3 : Int32) else 0) → mm_W 174 28 [some (.ref 58), some (.int x1), some (.int x2)] [.int w20_2, .int 0, .int x2] I7 (mm_qi 174 P) := by
      intro w20_2 e20_0
      subst e20_0
      refine w_calli (as := [.int x2, .int 0, .int (if (I7 58 4) = 2 then (3 : Int32) else 0)]) (rest := []) (n := 31) rfl rfl rfl rfl ?_
      obtain ⟨r28, I28, hI28, H⟩ := H
      refine ⟨r28, I28, hI28, ?_⟩
      refine w_if_ne (n := 34) rfl rfl ⟨fun hc => ?_, fun hc => ?_⟩
      · replace H := H.1 hc
        refine w_aload_nR (x := 58) (n := 37) rfl rfl rfl ?_
        refine w_iload_n (n := 38) rfl rfl rfl ?_
        refine w_aload_nR (x := 58) (n := 39) rfl rfl rfl ?_
        refine w_getI (n := 42) rfl rfl rfl rfl ?_
        refine w_callv (as := [.ref 58, .int x1, .int (I28 58 8)]) (rest := []) (n := 45) rfl rfl rfl rfl ?_
        obtain ⟨I42, hI42, H⟩ := H
        refine ⟨I42, hI42, ?_⟩
        refine w_aload_nR (x := 58) (n := 46) rfl rfl rfl ?_
        refine w_iload_n (n := 47) rfl rfl rfl ?_
        refine w_calli (as := [.ref 58, .int x2]) (rest := []) (n := 50) rfl rfl rfl rfl ?_
        obtain ⟨r47, I47, hI47, H⟩ := H
        refine ⟨r47, I47, hI47, ?_⟩
        exact w_ireturn rfl rfl H
      · replace H := H.2 hc
        refine w_iconst (v := (-1)) (n := 35) rfl rfl rfl ?_
        exact w_ireturn rfl rfl H
    refine w_icmp_ne (n := 23) rfl rfl ⟨fun hc => ?_, fun hc => ?_⟩
    · refine w_iconst (v := 0) (n := 28) rfl rfl rfl ?_
      refine w_drp mm_Qf_i (J20 _ ?_) (lb_s (lb_s (lb_s lb_e)))
      · exact (if_neg hc).symm
    · refine w_iconst (v := 3) (n := 24) rfl rfl rfl ?_
      refine w_goto rfl ?_
      refine w_drp mm_Qf_i (J20 _ ?_) (lb_s (lb_s (lb_s lb_e)))
      · exact (if_pos hc).symm
theorem e_M_isRowLaid {P : Int32 → mm_I → Prop} {I : mm_I} (x1 : Int32) (x2 : Int32)
  (H : mm_Mi 148 [.ref 58, .int x1] I (fun r2 I2 =>  -- M.isFrameThere
    (r2 = 0 →
      P 0 I2) ∧
    (¬ r2 = 0 →
      mm_Mi 125 [.int x2, .int 0, .int ((I2 58 4) - 1)] I2 (fun r16 I16 =>  -- M.within
      (¬ r16 = 0 →
        mm_Mi 172 [.ref 58, .int x1, .int (I16 58 8)] I16 (fun r32 I32 =>  -- M.joinOf
        mm_Mi 150 [.int r32, .int x2] I32 (fun r36 I36 =>  -- M.sortOf
        mm_Mv 149 [.ref 58, .int x1, .int r36] I36 (fun I39 =>  -- M.laysRow
        P 1 I39)))) ∧
      (r16 = 0 →
        P 0 I16))))) : mm_Mi 175 [.ref 58, .int x1, .int x2] I P := by
  refine mm_Mi_of ?_
  show mm_W 175 0 [some (.ref 58), some (.int x1), some (.int x2)] [] I (mm_qi 175 P)
  refine w_aload_nR (x := 58) (n := 1) rfl rfl rfl ?_
  refine w_iload_n (n := 2) rfl rfl rfl ?_
  refine w_calli (as := [.ref 58, .int x1]) (rest := []) (n := 5) rfl rfl rfl rfl ?_
  obtain ⟨r2, I2, hI2, H⟩ := H
  refine ⟨r2, I2, hI2, ?_⟩
  refine w_if_eq (n := 8) rfl rfl ⟨fun hc => ?_, fun hc => ?_⟩
  · replace H := H.1 hc
    refine w_iconst (v := 0) (n := 23) rfl rfl rfl ?_
    exact w_zreturn rfl rfl ⟨by decide, H⟩
  · replace H := H.2 hc
    refine w_iload_n (n := 9) rfl rfl rfl ?_
    refine w_iconst (v := 0) (n := 10) rfl rfl rfl ?_
    refine w_aload_nR (x := 58) (n := 11) rfl rfl rfl ?_
    refine w_getI (n := 14) rfl rfl rfl rfl ?_
    refine w_iconst (v := 1) (n := 15) rfl rfl rfl ?_
    refine w_isub (n := 16) rfl rfl ?_
    refine w_calli (as := [.int x2, .int 0, .int ((I2 58 4) - 1)]) (rest := []) (n := 19) rfl rfl rfl rfl ?_
    obtain ⟨r16, I16, hI16, H⟩ := H
    refine ⟨r16, I16, hI16, ?_⟩
    refine w_if_ne (n := 22) rfl rfl ⟨fun hc => ?_, fun hc => ?_⟩
    · replace H := H.1 hc
      refine w_aload_nR (x := 58) (n := 25) rfl rfl rfl ?_
      refine w_iload_n (n := 26) rfl rfl rfl ?_
      refine w_aload_nR (x := 58) (n := 27) rfl rfl rfl ?_
      refine w_iload_n (n := 28) rfl rfl rfl ?_
      refine w_aload_nR (x := 58) (n := 29) rfl rfl rfl ?_
      refine w_getI (n := 32) rfl rfl rfl rfl ?_
      refine w_calli (as := [.ref 58, .int x1, .int (I16 58 8)]) (rest := [.int x1, .ref 58]) (n := 35) rfl rfl rfl rfl ?_
      obtain ⟨r32, I32, hI32, H⟩ := H
      refine ⟨r32, I32, hI32, ?_⟩
      refine w_iload_n (n := 36) rfl rfl rfl ?_
      refine w_calli (as := [.int r32, .int x2]) (rest := [.int x1, .ref 58]) (n := 39) rfl rfl rfl rfl ?_
      obtain ⟨r36, I36, hI36, H⟩ := H
      refine ⟨r36, I36, hI36, ?_⟩
      refine w_callv (as := [.ref 58, .int x1, .int r36]) (rest := []) (n := 42) rfl rfl rfl rfl ?_
      obtain ⟨I39, hI39, H⟩ := H
      refine ⟨I39, hI39, ?_⟩
      refine w_iconst (v := 1) (n := 43) rfl rfl rfl ?_
      exact w_zreturn rfl rfl ⟨by decide, H⟩
    · replace H := H.2 hc
      refine w_iconst (v := 0) (n := 23) rfl rfl rfl ?_
      exact w_zreturn rfl rfl ⟨by decide, H⟩
theorem e_M_row {P : Int32 → mm_I → Prop} {I : mm_I} (x1 : Int32) (x2 : Int32) (x3 : Int32)
  (H : mm_Mi 125 [.int x3, .int 0, .int 2] (mm_up I 58 16 0) (fun r8 I8 =>  -- M.within
    (r8 = 0 →
      P (-1) I8) ∧
    (¬ r8 = 0 →
      mm_Mi 175 [.ref 58, .int x1, .int x2] I8 (fun r17 I17 =>  -- M.isRowLaid
      (¬ r17 = 0 →
        mm_Mi 168 [.ref 58, .int (I17 58 8)] I17 (fun r30 I30 =>  -- M.rowCosts
        P (if x3 = 0 then ((I30 58 32) : Int32) else (if x3 = 1 then (r30 : Int32) else (I30 58 29))) I30)) ∧
      (r17 = 0 →
        P (-1) I17))))) : mm_Mi 176 [.ref 58, .int x1, .int x2, .int x3] I P := by
  refine mm_Mi_of ?_
  show mm_W 176 0 [some (.ref 58), some (.int x1), some (.int x2), some (.int x3), none] [] I (mm_qi 176 P)
  refine w_aload_nR (x := 58) (n := 1) rfl rfl rfl ?_
  refine w_iconst (v := 0) (n := 2) rfl rfl rfl ?_
  refine w_putI (n := 5) rfl rfl rfl rfl rfl ?_
  refine w_iload_n (n := 6) rfl rfl rfl ?_
  refine w_iconst (v := 0) (n := 7) rfl rfl rfl ?_
  refine w_iconst (v := 2) (n := 8) rfl rfl rfl ?_
  refine w_calli (as := [.int x3, .int 0, .int 2]) (rest := []) (n := 11) rfl rfl rfl rfl ?_
  obtain ⟨r8, I8, hI8, H⟩ := H
  refine ⟨r8, I8, hI8, ?_⟩
  refine w_if_eq (n := 14) rfl rfl ⟨fun hc => ?_, fun hc => ?_⟩
  · replace H := H.1 hc
    refine w_iconst (v := (-1)) (n := 24) rfl rfl rfl ?_
    exact w_ireturn rfl rfl H
  · replace H := H.2 hc
    refine w_aload_nR (x := 58) (n := 15) rfl rfl rfl ?_
    refine w_iload_n (n := 16) rfl rfl rfl ?_
    refine w_iload_n (n := 17) rfl rfl rfl ?_
    refine w_calli (as := [.ref 58, .int x1, .int x2]) (rest := []) (n := 20) rfl rfl rfl rfl ?_
    obtain ⟨r17, I17, hI17, H⟩ := H
    refine ⟨r17, I17, hI17, ?_⟩
    refine w_if_ne (n := 23) rfl rfl ⟨fun hc => ?_, fun hc => ?_⟩
    · replace H := H.1 hc
      refine w_aload_nR (x := 58) (n := 26) rfl rfl rfl ?_
      refine w_aload_nR (x := 58) (n := 27) rfl rfl rfl ?_
      refine w_getI (n := 30) rfl rfl rfl rfl ?_
      refine w_calli (as := [.ref 58, .int (I17 58 8)]) (rest := []) (n := 33) rfl rfl rfl rfl ?_
      obtain ⟨r30, I30, hI30, H⟩ := H
      refine ⟨r30, I30, hI30, ?_⟩
      refine w_istore (ls' := [some (.ref 58), some (.int x1), some (.int x2), some (.int x3), some (.int r30)]) (n := 35) rfl rfl rfl rfl ?_
      refine w_iload_n (n := 36) rfl rfl rfl ?_
      have J36 : ∀ (w36_0 : Int32), w36_0 = (if x3 = 0 then ((I30 58 32) : Int32) else (if x3 = 1 then (r30 : Int32) else (I30 58 29))) → mm_W 176 60 [some (.ref 58), some (.int x1), some (.int x2), some (.int x3), some (.int r30)] [.int w36_0] I30 (mm_qi 176 P) := by
        intro w36_0 e36_0
        subst e36_0
        exact w_ireturn rfl rfl H
      refine w_if_ne (n := 39) rfl rfl ⟨fun hc => ?_, fun hc => ?_⟩
      · refine w_iload_n (n := 47) rfl rfl rfl ?_
        refine w_iconst (v := 1) (n := 48) rfl rfl rfl ?_
        have J48 : ∀ (w48_0 : Int32), w48_0 = (if x3 = 1 then (r30 : Int32) else (I30 58 29)) → mm_W 176 60 [some (.ref 58), some (.int x1), some (.int x2), some (.int x3), some (.int r30)] [.int w48_0] I30 (mm_qi 176 P) := by
          intro w48_0 e48_0
          subst e48_0
          refine w_drp mm_Qf_i (J36 _ ?_) (lb_s (lb_s (lb_s (lb_s (lb_s lb_e)))))
          · exact (if_neg hc).symm
        refine w_icmp_ne (n := 51) rfl rfl ⟨fun hc => ?_, fun hc => ?_⟩
        · refine w_aload_nR (x := 58) (n := 57) rfl rfl rfl ?_
          refine w_getI (n := 60) rfl rfl rfl rfl ?_
          refine w_drp mm_Qf_i (J48 _ ?_) (lb_s (lb_s (lb_s (lb_s (lb_s lb_e)))))
          · exact (if_neg hc).symm
        · refine w_iload (n := 53) rfl rfl rfl ?_
          refine w_goto rfl ?_
          refine w_drp mm_Qf_i (J48 _ ?_) (lb_s (lb_s (lb_s (lb_s (lb_s lb_e)))))
          · exact (if_pos hc).symm
      · refine w_aload_nR (x := 58) (n := 40) rfl rfl rfl ?_
        refine w_getI (n := 43) rfl rfl rfl rfl ?_
        refine w_goto rfl ?_
        refine w_drp mm_Qf_i (J36 _ ?_) (lb_s (lb_s (lb_s (lb_s (lb_s lb_e)))))
        · exact (if_pos hc).symm
    · replace H := H.2 hc
      refine w_iconst (v := (-1)) (n := 24) rfl rfl rfl ?_
      exact w_ireturn rfl rfl H
theorem e_M_run {P : Int32 → mm_I → Prop} {I : mm_I} (x1 : Int32) (x2 : Int32) (x3 : Int32) (x4 : Int32)
  (H : mm_Mi 125 [.int x4, .int 0, .int 2] (mm_up I 58 16 0) (fun r9 I9 =>  -- M.within
    (r9 = 0 →
      P (-1) I9) ∧
    (¬ r9 = 0 →
      mm_Mi 175 [.ref 58, .int x1, .int x2] I9 (fun r18 I18 =>  -- M.isRowLaid
      (¬ r18 = 0 →
        mm_Mi 168 [.ref 58, .int (I18 58 8)] I18 (fun r31 I31 =>  -- M.rowCosts
        mm_Mi 125 [.int x3, .int 0, .int ((I31 58 29) - 1)] I31 (fun r43 I43 =>  -- M.within
        (¬ r43 = 0 →
          (¬ x4 = 0 →
            (¬ x4 = 1 →
              vp_in x3 8 ∧
              True) ∧
            (x4 = 1 →
              vp_in x3 8 ∧
              True) ∧
            True) ∧
          (x4 = 0 →
            vp_in x3 8 ∧
            (¬ x3 = 0 →
              vp_in (x3 - 1) 8 ∧
              True) ∧
            True) ∧
          P (if x4 = 0 then ((I43 72 x3.toNatClampNeg) - (if x3 = 0 then (0 : Int32) else (I43 72 ((x3 - 1).toNatClampNeg))) : Int32) else (if x4 = 1 then ((I43 73 x3.toNatClampNeg) : Int32) else (I43 74 x3.toNatClampNeg))) I43) ∧
        (r43 = 0 →
          P (-1) I43)))) ∧
      (r18 = 0 →
        P (-1) I18))))) : mm_Mi 177 [.ref 58, .int x1, .int x2, .int x3, .int x4] I P := by
  refine mm_Mi_of ?_
  show mm_W 177 0 [some (.ref 58), some (.int x1), some (.int x2), some (.int x3), some (.int x4)] [] I (mm_qi 177 P)
  refine w_aload_nR (x := 58) (n := 1) rfl rfl rfl ?_
  refine w_iconst (v := 0) (n := 2) rfl rfl rfl ?_
  refine w_putI (n := 5) rfl rfl rfl rfl rfl ?_
  refine w_iload (n := 7) rfl rfl rfl ?_
  refine w_iconst (v := 0) (n := 8) rfl rfl rfl ?_
  refine w_iconst (v := 2) (n := 9) rfl rfl rfl ?_
  refine w_calli (as := [.int x4, .int 0, .int 2]) (rest := []) (n := 12) rfl rfl rfl rfl ?_
  obtain ⟨r9, I9, hI9, H⟩ := H
  refine ⟨r9, I9, hI9, ?_⟩
  refine w_if_eq (n := 15) rfl rfl ⟨fun hc => ?_, fun hc => ?_⟩
  · replace H := H.1 hc
    refine w_iconst (v := (-1)) (n := 25) rfl rfl rfl ?_
    exact w_ireturn rfl rfl H
  · replace H := H.2 hc
    refine w_aload_nR (x := 58) (n := 16) rfl rfl rfl ?_
    refine w_iload_n (n := 17) rfl rfl rfl ?_
    refine w_iload_n (n := 18) rfl rfl rfl ?_
    refine w_calli (as := [.ref 58, .int x1, .int x2]) (rest := []) (n := 21) rfl rfl rfl rfl ?_
    obtain ⟨r18, I18, hI18, H⟩ := H
    refine ⟨r18, I18, hI18, ?_⟩
    refine w_if_ne (n := 24) rfl rfl ⟨fun hc => ?_, fun hc => ?_⟩
    · replace H := H.1 hc
      refine w_aload_nR (x := 58) (n := 27) rfl rfl rfl ?_
      refine w_aload_nR (x := 58) (n := 28) rfl rfl rfl ?_
      refine w_getI (n := 31) rfl rfl rfl rfl ?_
      refine w_calli (as := [.ref 58, .int (I18 58 8)]) (rest := []) (n := 34) rfl rfl rfl rfl ?_
      obtain ⟨r31, I31, hI31, H⟩ := H
      refine ⟨r31, I31, hI31, ?_⟩
      refine w_pop (n := 35) rfl rfl rfl ?_
      refine w_iload_n (n := 36) rfl rfl rfl ?_
      refine w_iconst (v := 0) (n := 37) rfl rfl rfl ?_
      refine w_aload_nR (x := 58) (n := 38) rfl rfl rfl ?_
      refine w_getI (n := 41) rfl rfl rfl rfl ?_
      refine w_iconst (v := 1) (n := 42) rfl rfl rfl ?_
      refine w_isub (n := 43) rfl rfl ?_
      refine w_calli (as := [.int x3, .int 0, .int ((I31 58 29) - 1)]) (rest := []) (n := 46) rfl rfl rfl rfl ?_
      obtain ⟨r43, I43, hI43, H⟩ := H
      refine ⟨r43, I43, hI43, ?_⟩
      refine w_if_ne (n := 49) rfl rfl ⟨fun hc => ?_, fun hc => ?_⟩
      · replace H := H.1 hc
        refine w_iload (n := 53) rfl rfl rfl ?_
        obtain ⟨K1, K2, H⟩ := H
        have J53 : ∀ (w53_0 : Int32), w53_0 = (if x4 = 0 then ((I43 72 x3.toNatClampNeg) - (if x3 = 0 then (0 : Int32) else (I43 72 ((x3 - 1).toNatClampNeg))) : Int32) else (if x4 = 1 then ((I43 73 x3.toNatClampNeg) : Int32) else (I43 74 x3.toNatClampNeg))) → mm_W 177 103 [some (.ref 58), some (.int x1), some (.int x2), some (.int x3), some (.int x4)] [.int w53_0] I43 (mm_qi 177 P) := by
          intro w53_0 e53_0
          subst e53_0
          exact w_ireturn rfl rfl H
        refine w_if_ne (n := 56) rfl rfl ⟨fun hc => ?_, fun hc => ?_⟩
        · have H := K1 hc
          refine w_iload (n := 84) rfl rfl rfl ?_
          refine w_iconst (v := 1) (n := 85) rfl rfl rfl ?_
          obtain ⟨K1, K2, H⟩ := H
          have J85 : ∀ (w85_0 : Int32), w85_0 = (if x4 = 1 then ((I43 73 x3.toNatClampNeg) : Int32) else (I43 74 x3.toNatClampNeg)) → mm_W 177 103 [some (.ref 58), some (.int x1), some (.int x2), some (.int x3), some (.int x4)] [.int w85_0] I43 (mm_qi 177 P) := by
            intro w85_0 e85_0
            subst e85_0
            refine w_drp mm_Qf_i (J53 _ ?_) (lb_s (lb_s (lb_s (lb_s (lb_s lb_e)))))
            · exact (if_neg hc).symm
          refine w_icmp_ne (n := 88) rfl rfl ⟨fun hc => ?_, fun hc => ?_⟩
          · have H := K1 hc
            refine w_aload_nR (x := 58) (n := 98) rfl rfl rfl ?_
            refine w_getR (b := 74) (n := 101) rfl rfl rfl rfl rfl ?_
            refine w_iload_n (n := 102) rfl rfl rfl ?_
            refine w_iaload (N := 8) (j := x3.toNatClampNeg) (n := 103) rfl rfl rfl rfl rfl rfl ⟨H.1, ?_⟩
            replace H := H.2
            refine w_drp mm_Qf_i (J85 _ ?_) (lb_s (lb_s (lb_s (lb_s (lb_s lb_e)))))
            · exact (if_neg hc).symm
          · have H := K2 hc
            refine w_aload_nR (x := 58) (n := 89) rfl rfl rfl ?_
            refine w_getR (b := 73) (n := 92) rfl rfl rfl rfl rfl ?_
            refine w_iload_n (n := 93) rfl rfl rfl ?_
            refine w_iaload (N := 8) (j := x3.toNatClampNeg) (n := 94) rfl rfl rfl rfl rfl rfl ⟨H.1, ?_⟩
            replace H := H.2
            refine w_goto rfl ?_
            refine w_drp mm_Qf_i (J85 _ ?_) (lb_s (lb_s (lb_s (lb_s (lb_s lb_e)))))
            · exact (if_pos hc).symm
        · have H := K2 hc
          refine w_aload_nR (x := 58) (n := 57) rfl rfl rfl ?_
          refine w_getR (b := 72) (n := 60) rfl rfl rfl rfl rfl ?_
          refine w_iload_n (n := 61) rfl rfl rfl ?_
          refine w_iaload (N := 8) (j := x3.toNatClampNeg) (n := 62) rfl rfl rfl rfl rfl rfl ⟨H.1, ?_⟩
          replace H := H.2
          refine w_iload_n (n := 63) rfl rfl rfl ?_
          obtain ⟨K1, H⟩ := H
          have J63 : ∀ (w63_1 : Int32), w63_1 = (if x3 = 0 then (0 : Int32) else (I43 72 ((x3 - 1).toNatClampNeg))) → mm_W 177 78 [some (.ref 58), some (.int x1), some (.int x2), some (.int x3), some (.int x4)] [.int w63_1, .int (I43 72 x3.toNatClampNeg)] I43 (mm_qi 177 P) := by
            intro w63_1 e63_0
            subst e63_0
            refine w_isub (n := 79) rfl rfl ?_
            refine w_goto rfl ?_
            refine w_drp mm_Qf_i (J53 _ ?_) (lb_s (lb_s (lb_s (lb_s (lb_s lb_e)))))
            · exact (if_pos hc).symm
          refine w_if_ne (n := 66) rfl rfl ⟨fun hc => ?_, fun hc => ?_⟩
          · have H := K1 hc
            refine w_aload_nR (x := 58) (n := 71) rfl rfl rfl ?_
            refine w_getR (b := 72) (n := 74) rfl rfl rfl rfl rfl ?_
            refine w_iload_n (n := 75) rfl rfl rfl ?_
            refine w_iconst (v := 1) (n := 76) rfl rfl rfl ?_
            refine w_isub (n := 77) rfl rfl ?_
            refine w_iaload (N := 8) (j := (x3 - 1).toNatClampNeg) (n := 78) rfl rfl rfl rfl rfl rfl ⟨H.1, ?_⟩
            replace H := H.2
            refine w_drp mm_Qf_i (J63 _ ?_) (lb_s (lb_s (lb_s (lb_s (lb_s lb_e)))))
            · exact (if_neg hc).symm
          · refine w_iconst (v := 0) (n := 67) rfl rfl rfl ?_
            refine w_goto rfl ?_
            refine w_drp mm_Qf_i (J63 _ ?_) (lb_s (lb_s (lb_s (lb_s (lb_s lb_e)))))
            · exact (if_pos hc).symm
      · replace H := H.2 hc
        refine w_iconst (v := (-1)) (n := 50) rfl rfl rfl ?_
        exact w_ireturn rfl rfl H
    · replace H := H.2 hc
      refine w_iconst (v := (-1)) (n := 25) rfl rfl rfl ?_
      exact w_ireturn rfl rfl H
theorem e_M_residual {P : Int32 → mm_I → Prop} {I : mm_I} (x1 : Int32) (x2 : Int32) (x3 : Int32) (x4 : Int32)
  (H : mm_Mi 125 [.int x3, .int 0, .int 7] (mm_up I 58 16 1) (fun r9 I9 =>  -- M.within
    (r9 = 0 →
      P 0 I9) ∧
    (¬ r9 = 0 →
      mm_Mi 175 [.ref 58, .int x1, .int x2] I9 (fun r18 I18 =>  -- M.isRowLaid
      (r18 = 0 →
        P 0 I18) ∧
      (¬ r18 = 0 →
        mm_Mi 144 [.int x3, .ref 62] I18 (fun r29 I29 =>  -- M.orderOf
        ((I29 58 18) ≤ r29 →
          P 0 I29) ∧
        (r29 < (I29 58 18) →
          mm_Mi 125 [.int x4, .int 0, .int ((I29 58 18) - 1)] I29 (fun r48 I48 =>  -- M.within
          (¬ r48 = 0 →
            mm_Mi 144 [.int x3, .ref 62] (mm_up I48 58 16 0) (fun r68 I68 =>  -- M.orderOf
            (r68 ≤ x4 →
              vp_in x4 64 ∧
              mm_Mi 145 [.ref 67, .int x4, .int x3, .ref 62, .ref 63] I68 (fun r106 I106 =>  -- M.guessed
              P ((I68 67 x4.toNatClampNeg) - r106) I106)) ∧
            (x4 < r68 →
              vp_in x4 64 ∧
              P (I68 67 x4.toNatClampNeg) I68))) ∧
          (r48 = 0 →
            P 0 I48))))))))) : mm_Mi 178 [.ref 58, .int x1, .int x2, .int x3, .int x4] I P := by
  refine mm_Mi_of ?_
  show mm_W 178 0 [some (.ref 58), some (.int x1), some (.int x2), some (.int x3), some (.int x4)] [] I (mm_qi 178 P)
  refine w_aload_nR (x := 58) (n := 1) rfl rfl rfl ?_
  refine w_iconst (v := 1) (n := 2) rfl rfl rfl ?_
  refine w_putI (n := 5) rfl rfl rfl rfl rfl ?_
  refine w_iload_n (n := 6) rfl rfl rfl ?_
  refine w_iconst (v := 0) (n := 7) rfl rfl rfl ?_
  refine w_bipush (v := 7) (n := 9) rfl rfl rfl ?_
  refine w_calli (as := [.int x3, .int 0, .int 7]) (rest := []) (n := 12) rfl rfl rfl rfl ?_
  obtain ⟨r9, I9, hI9, H⟩ := H
  refine ⟨r9, I9, hI9, ?_⟩
  refine w_if_eq (n := 15) rfl rfl ⟨fun hc => ?_, fun hc => ?_⟩
  · replace H := H.1 hc
    refine w_iconst (v := 0) (n := 55) rfl rfl rfl ?_
    exact w_ireturn rfl rfl H
  · replace H := H.2 hc
    refine w_aload_nR (x := 58) (n := 16) rfl rfl rfl ?_
    refine w_iload_n (n := 17) rfl rfl rfl ?_
    refine w_iload_n (n := 18) rfl rfl rfl ?_
    refine w_calli (as := [.ref 58, .int x1, .int x2]) (rest := []) (n := 21) rfl rfl rfl rfl ?_
    obtain ⟨r18, I18, hI18, H⟩ := H
    refine ⟨r18, I18, hI18, ?_⟩
    refine w_if_eq (n := 24) rfl rfl ⟨fun hc => ?_, fun hc => ?_⟩
    · replace H := H.1 hc
      refine w_iconst (v := 0) (n := 55) rfl rfl rfl ?_
      exact w_ireturn rfl rfl H
    · replace H := H.2 hc
      refine w_iload_n (n := 25) rfl rfl rfl ?_
      refine w_aload_nR (x := 58) (n := 26) rfl rfl rfl ?_
      refine w_getR (b := 62) (n := 29) rfl rfl rfl rfl rfl ?_
      refine w_calli (as := [.int x3, .ref 62]) (rest := []) (n := 32) rfl rfl rfl rfl ?_
      obtain ⟨r29, I29, hI29, H⟩ := H
      refine ⟨r29, I29, hI29, ?_⟩
      refine w_aload_nR (x := 58) (n := 33) rfl rfl rfl ?_
      refine w_getI (n := 36) rfl rfl rfl rfl ?_
      refine w_icmp_ge (n := 39) rfl rfl ⟨fun hc => ?_, fun hc => ?_⟩
      · replace H := H.1 hc
        refine w_iconst (v := 0) (n := 55) rfl rfl rfl ?_
        exact w_ireturn rfl rfl H
      · replace H := H.2 hc
        refine w_iload (n := 41) rfl rfl rfl ?_
        refine w_iconst (v := 0) (n := 42) rfl rfl rfl ?_
        refine w_aload_nR (x := 58) (n := 43) rfl rfl rfl ?_
        refine w_getI (n := 46) rfl rfl rfl rfl ?_
        refine w_iconst (v := 1) (n := 47) rfl rfl rfl ?_
        refine w_isub (n := 48) rfl rfl ?_
        refine w_calli (as := [.int x4, .int 0, .int ((I29 58 18) - 1)]) (rest := []) (n := 51) rfl rfl rfl rfl ?_
        obtain ⟨r48, I48, hI48, H⟩ := H
        refine ⟨r48, I48, hI48, ?_⟩
        refine w_if_ne (n := 54) rfl rfl ⟨fun hc => ?_, fun hc => ?_⟩
        · replace H := H.1 hc
          refine w_aload_nR (x := 58) (n := 57) rfl rfl rfl ?_
          refine w_iconst (v := 0) (n := 58) rfl rfl rfl ?_
          refine w_putI (n := 61) rfl rfl rfl rfl rfl ?_
          refine w_iload (n := 63) rfl rfl rfl ?_
          refine w_iload_n (n := 64) rfl rfl rfl ?_
          refine w_aload_nR (x := 58) (n := 65) rfl rfl rfl ?_
          refine w_getR (b := 62) (n := 68) rfl rfl rfl rfl rfl ?_
          refine w_calli (as := [.int x3, .ref 62]) (rest := [.int x4]) (n := 71) rfl rfl rfl rfl ?_
          obtain ⟨r68, I68, hI68, H⟩ := H
          refine ⟨r68, I68, hI68, ?_⟩
          refine w_icmp_ge (n := 74) rfl rfl ⟨fun hc => ?_, fun hc => ?_⟩
          · replace H := H.1 hc
            refine w_aload_nR (x := 58) (n := 85) rfl rfl rfl ?_
            refine w_getR (b := 67) (n := 88) rfl rfl rfl rfl rfl ?_
            refine w_iload (n := 90) rfl rfl rfl ?_
            refine w_iaload (N := 64) (j := x4.toNatClampNeg) (n := 91) rfl rfl rfl rfl rfl rfl ⟨H.1, ?_⟩
            replace H := H.2
            refine w_aload_nR (x := 58) (n := 92) rfl rfl rfl ?_
            refine w_getR (b := 67) (n := 95) rfl rfl rfl rfl rfl ?_
            refine w_iload (n := 97) rfl rfl rfl ?_
            refine w_iload_n (n := 98) rfl rfl rfl ?_
            refine w_aload_nR (x := 58) (n := 99) rfl rfl rfl ?_
            refine w_getR (b := 62) (n := 102) rfl rfl rfl rfl rfl ?_
            refine w_aload_nR (x := 58) (n := 103) rfl rfl rfl ?_
            refine w_getR (b := 63) (n := 106) rfl rfl rfl rfl rfl ?_
            refine w_calli (as := [.ref 67, .int x4, .int x3, .ref 62, .ref 63]) (rest := [.int (I68 67 x4.toNatClampNeg)]) (n := 109) rfl rfl rfl rfl ?_
            obtain ⟨r106, I106, hI106, H⟩ := H
            refine ⟨r106, I106, hI106, ?_⟩
            refine w_isub (n := 110) rfl rfl ?_
            exact w_ireturn rfl rfl H
          · replace H := H.2 hc
            refine w_aload_nR (x := 58) (n := 75) rfl rfl rfl ?_
            refine w_getR (b := 67) (n := 78) rfl rfl rfl rfl rfl ?_
            refine w_iload (n := 80) rfl rfl rfl ?_
            refine w_iaload (N := 64) (j := x4.toNatClampNeg) (n := 81) rfl rfl rfl rfl rfl rfl ⟨H.1, ?_⟩
            replace H := H.2
            refine w_goto rfl ?_
            exact w_ireturn rfl rfl H
        · replace H := H.2 hc
          refine w_iconst (v := 0) (n := 55) rfl rfl rfl ?_
          exact w_ireturn rfl rfl H
theorem e_M_tried {P : Int32 → mm_I → Prop} {I : mm_I} (x1 : Int32) (x2 : Int32) (x3 : Int32)
  (H : mm_Mi 125 [.int x3, .int 0, .int 7] (mm_up I 58 16 0) (fun r9 I9 =>  -- M.within
    (r9 = 0 →
      P (-1) I9) ∧
    (¬ r9 = 0 →
      mm_Mi 175 [.ref 58, .int x1, .int x2] I9 (fun r18 I18 =>  -- M.isRowLaid
      (r18 = 0 →
        P (-1) I18) ∧
      (¬ r18 = 0 →
        mm_Mi 144 [.int x3, .ref 62] I18 (fun r29 I29 =>  -- M.orderOf
        ((I29 58 18) ≤ r29 →
          P (-1) I29) ∧
        (r29 < (I29 58 18) →
          mm_Mi 165 [.ref 58, .int x3] I29 (fun r41 I41 =>  -- M.costs
          P r41 I41)))))))) : mm_Mi 179 [.ref 58, .int x1, .int x2, .int x3] I P := by
  refine mm_Mi_of ?_
  show mm_W 179 0 [some (.ref 58), some (.int x1), some (.int x2), some (.int x3)] [] I (mm_qi 179 P)
  refine w_aload_nR (x := 58) (n := 1) rfl rfl rfl ?_
  refine w_iconst (v := 0) (n := 2) rfl rfl rfl ?_
  refine w_putI (n := 5) rfl rfl rfl rfl rfl ?_
  refine w_iload_n (n := 6) rfl rfl rfl ?_
  refine w_iconst (v := 0) (n := 7) rfl rfl rfl ?_
  refine w_bipush (v := 7) (n := 9) rfl rfl rfl ?_
  refine w_calli (as := [.int x3, .int 0, .int 7]) (rest := []) (n := 12) rfl rfl rfl rfl ?_
  obtain ⟨r9, I9, hI9, H⟩ := H
  refine ⟨r9, I9, hI9, ?_⟩
  refine w_if_eq (n := 15) rfl rfl ⟨fun hc => ?_, fun hc => ?_⟩
  · replace H := H.1 hc
    refine w_iconst (v := (-1)) (n := 48) rfl rfl rfl ?_
    exact w_ireturn rfl rfl H
  · replace H := H.2 hc
    refine w_aload_nR (x := 58) (n := 16) rfl rfl rfl ?_
    refine w_iload_n (n := 17) rfl rfl rfl ?_
    refine w_iload_n (n := 18) rfl rfl rfl ?_
    refine w_calli (as := [.ref 58, .int x1, .int x2]) (rest := []) (n := 21) rfl rfl rfl rfl ?_
    obtain ⟨r18, I18, hI18, H⟩ := H
    refine ⟨r18, I18, hI18, ?_⟩
    refine w_if_eq (n := 24) rfl rfl ⟨fun hc => ?_, fun hc => ?_⟩
    · replace H := H.1 hc
      refine w_iconst (v := (-1)) (n := 48) rfl rfl rfl ?_
      exact w_ireturn rfl rfl H
    · replace H := H.2 hc
      refine w_iload_n (n := 25) rfl rfl rfl ?_
      refine w_aload_nR (x := 58) (n := 26) rfl rfl rfl ?_
      refine w_getR (b := 62) (n := 29) rfl rfl rfl rfl rfl ?_
      refine w_calli (as := [.int x3, .ref 62]) (rest := []) (n := 32) rfl rfl rfl rfl ?_
      obtain ⟨r29, I29, hI29, H⟩ := H
      refine ⟨r29, I29, hI29, ?_⟩
      refine w_aload_nR (x := 58) (n := 33) rfl rfl rfl ?_
      refine w_getI (n := 36) rfl rfl rfl rfl ?_
      refine w_icmp_ge (n := 39) rfl rfl ⟨fun hc => ?_, fun hc => ?_⟩
      · replace H := H.1 hc
        refine w_iconst (v := (-1)) (n := 48) rfl rfl rfl ?_
        exact w_ireturn rfl rfl H
      · replace H := H.2 hc
        refine w_aload_nR (x := 58) (n := 40) rfl rfl rfl ?_
        refine w_iload_n (n := 41) rfl rfl rfl ?_
        refine w_calli (as := [.ref 58, .int x3]) (rest := []) (n := 44) rfl rfl rfl rfl ?_
        obtain ⟨r41, I41, hI41, H⟩ := H
        refine ⟨r41, I41, hI41, ?_⟩
        refine w_goto rfl ?_
        exact w_ireturn rfl rfl H
theorem e_M_mean {P : Int32 → mm_I → Prop} {I : mm_I} (x1 : Int32) (x2 : Int32) (x3 : Int32)
  (H : mm_Mi 125 [.int x3, .int 0, .int 7] (mm_up I 58 16 0) (fun r9 I9 =>  -- M.within
    (r9 = 0 →
      P (-1) I9) ∧
    (¬ r9 = 0 →
      mm_Mi 175 [.ref 58, .int x1, .int x2] I9 (fun r18 I18 =>  -- M.isRowLaid
      (r18 = 0 →
        P (-1) I18) ∧
      (¬ r18 = 0 →
        mm_Mi 144 [.int x3, .ref 62] I18 (fun r29 I29 =>  -- M.orderOf
        (r29 < (I29 58 18) →
          mm_Mv 151 [.ref 58, .int x3] I29 (fun I43 =>  -- M.laysErrors
          mm_Mf 163 [.ref 58] I43 (fun r47 I47 =>  -- M.meanNow
          mm_Mi 223 [.float r47] I47 (fun r50 I50 =>  -- Float.floatToIntBits
          P r50 I50)))) ∧
        ((I29 58 18) ≤ r29 →
          P (-1) I29))))))) : mm_Mi 180 [.ref 58, .int x1, .int x2, .int x3] I P := by
  refine mm_Mi_of ?_
  show mm_W 180 0 [some (.ref 58), some (.int x1), some (.int x2), some (.int x3)] [] I (mm_qi 180 P)
  refine w_aload_nR (x := 58) (n := 1) rfl rfl rfl ?_
  refine w_iconst (v := 0) (n := 2) rfl rfl rfl ?_
  refine w_putI (n := 5) rfl rfl rfl rfl rfl ?_
  refine w_iload_n (n := 6) rfl rfl rfl ?_
  refine w_iconst (v := 0) (n := 7) rfl rfl rfl ?_
  refine w_bipush (v := 7) (n := 9) rfl rfl rfl ?_
  refine w_calli (as := [.int x3, .int 0, .int 7]) (rest := []) (n := 12) rfl rfl rfl rfl ?_
  obtain ⟨r9, I9, hI9, H⟩ := H
  refine ⟨r9, I9, hI9, ?_⟩
  refine w_if_eq (n := 15) rfl rfl ⟨fun hc => ?_, fun hc => ?_⟩
  · replace H := H.1 hc
    refine w_iconst (v := (-1)) (n := 40) rfl rfl rfl ?_
    exact w_ireturn rfl rfl H
  · replace H := H.2 hc
    refine w_aload_nR (x := 58) (n := 16) rfl rfl rfl ?_
    refine w_iload_n (n := 17) rfl rfl rfl ?_
    refine w_iload_n (n := 18) rfl rfl rfl ?_
    refine w_calli (as := [.ref 58, .int x1, .int x2]) (rest := []) (n := 21) rfl rfl rfl rfl ?_
    obtain ⟨r18, I18, hI18, H⟩ := H
    refine ⟨r18, I18, hI18, ?_⟩
    refine w_if_eq (n := 24) rfl rfl ⟨fun hc => ?_, fun hc => ?_⟩
    · replace H := H.1 hc
      refine w_iconst (v := (-1)) (n := 40) rfl rfl rfl ?_
      exact w_ireturn rfl rfl H
    · replace H := H.2 hc
      refine w_iload_n (n := 25) rfl rfl rfl ?_
      refine w_aload_nR (x := 58) (n := 26) rfl rfl rfl ?_
      refine w_getR (b := 62) (n := 29) rfl rfl rfl rfl rfl ?_
      refine w_calli (as := [.int x3, .ref 62]) (rest := []) (n := 32) rfl rfl rfl rfl ?_
      obtain ⟨r29, I29, hI29, H⟩ := H
      refine ⟨r29, I29, hI29, ?_⟩
      refine w_aload_nR (x := 58) (n := 33) rfl rfl rfl ?_
      refine w_getI (n := 36) rfl rfl rfl rfl ?_
      refine w_icmp_lt (n := 39) rfl rfl ⟨fun hc => ?_, fun hc => ?_⟩
      · replace H := H.1 hc
        refine w_aload_nR (x := 58) (n := 42) rfl rfl rfl ?_
        refine w_iload_n (n := 43) rfl rfl rfl ?_
        refine w_callv (as := [.ref 58, .int x3]) (rest := []) (n := 46) rfl rfl rfl rfl ?_
        obtain ⟨I43, hI43, H⟩ := H
        refine ⟨I43, hI43, ?_⟩
        refine w_aload_nR (x := 58) (n := 47) rfl rfl rfl ?_
        refine w_callf (as := [.ref 58]) (rest := []) (n := 50) rfl rfl rfl rfl ?_
        obtain ⟨r47, I47, hI47, H⟩ := H
        refine ⟨r47, I47, hI47, ?_⟩
        refine w_calli (as := [.float r47]) (rest := []) (n := 53) rfl rfl rfl rfl ?_
        obtain ⟨r50, I50, hI50, H⟩ := H
        refine ⟨r50, I50, hI50, ?_⟩
        exact w_ireturn rfl rfl H
      · replace H := H.2 hc
        refine w_iconst (v := (-1)) (n := 40) rfl rfl rfl ?_
        exact w_ireturn rfl rfl H
theorem e_M_sizeBy {P : Int32 → mm_I → Prop} {I : mm_I} (x1 : Int32)
  (H : mm_W 181 5 [some (.ref 58), some (.int x1), some (.int 21), some (.int 0)] [] I (mm_qi 181 P)) : mm_Mi 181 [.ref 58, .int x1] I P := by
  refine mm_Mi_of ?_
  show mm_W 181 0 [some (.ref 58), some (.int x1), none, none] [] I (mm_qi 181 P)
  refine w_bipush (v := 21) (n := 2) rfl rfl rfl ?_
  refine w_istore_n (ls' := [some (.ref 58), some (.int x1), some (.int 21), none]) (n := 3) rfl rfl rfl rfl ?_
  refine w_iconst (v := 0) (n := 4) rfl rfl rfl ?_
  refine w_istore_n (ls' := [some (.ref 58), some (.int x1), some (.int 21), some (.int 0)]) (n := 5) rfl rfl rfl rfl ?_
  exact w_drp mm_Qf_i H (lb_s (lb_s (lb_s (lb_s lb_e))))
theorem c_M_sizeBy_5 {P : Int32 → mm_I → Prop} {I : mm_I} (x1 : Int32) (x2 : Int32) (x3 : Int32)
  (H : mm_Mi 147 [.ref 58] I (fun r7 I7 =>  -- M.frames
    (r7 ≤ x3 →
      P x2 I7) ∧
    (x3 < r7 →
      mm_Mi 172 [.ref 58, .int x3, .int x1] I7 (fun r32 I32 =>  -- M.joinOf
      mm_Mi 170 [.ref 58, .int r32] I32 (fun r35 I35 =>  -- M.joinedBits
      mm_W 181 5 [some (.ref 58), some (.int x1), some (.int (x2 + (4 + ((((if (I7 58 4) = 2 then (2 : Int32) else 0) + r35) + 7) / 8)))), some (.int (x3 + 1))] [] I35 (mm_qi 181 P)))))) : mm_W 181 5 [some (.ref 58), some (.int x1), some (.int x2), some (.int x3)] [] I (mm_qi 181 P) := by
  refine w_iload_n (n := 6) rfl rfl rfl ?_
  refine w_aload_nR (x := 58) (n := 7) rfl rfl rfl ?_
  refine w_calli (as := [.ref 58]) (rest := [.int x3]) (n := 10) rfl rfl rfl rfl ?_
  obtain ⟨r7, I7, hI7, H⟩ := H
  refine ⟨r7, I7, hI7, ?_⟩
  refine w_icmp_ge (n := 13) rfl rfl ⟨fun hc => ?_, fun hc => ?_⟩
  · replace H := H.1 hc
    refine w_iload_n (n := 55) rfl rfl rfl ?_
    exact w_ireturn rfl rfl H
  · replace H := H.2 hc
    refine w_iload_n (n := 14) rfl rfl rfl ?_
    refine w_iconst (v := 4) (n := 15) rfl rfl rfl ?_
    refine w_aload_nR (x := 58) (n := 16) rfl rfl rfl ?_
    refine w_getI (n := 19) rfl rfl rfl rfl ?_
    refine w_iconst (v := 2) (n := 20) rfl rfl rfl ?_
    have J20 : ∀ (w20_2 : Int32), w20_2 = (if (I7 58 4) = 2 then (2 : Int32) else 0) → mm_W 181 28 [some (.ref 58), some (.int x1), some (.int x2), some (.int x3)] [.int w20_2, .int 4, .int x2] I7 (mm_qi 181 P) := by
      intro w20_2 e20_0
      subst e20_0
      refine w_aload_nR (x := 58) (n := 29) rfl rfl rfl ?_
      refine w_aload_nR (x := 58) (n := 30) rfl rfl rfl ?_
      refine w_iload_n (n := 31) rfl rfl rfl ?_
      refine w_iload_n (n := 32) rfl rfl rfl ?_
      refine w_calli (as := [.ref 58, .int x3, .int x1]) (rest := [.ref 58, .int (if (I7 58 4) = 2 then (2 : Int32) else 0), .int 4, .int x2]) (n := 35) rfl rfl rfl rfl ?_
      obtain ⟨r32, I32, hI32, H⟩ := H
      refine ⟨r32, I32, hI32, ?_⟩
      refine w_calli (as := [.ref 58, .int r32]) (rest := [.int (if (I7 58 4) = 2 then (2 : Int32) else 0), .int 4, .int x2]) (n := 38) rfl rfl rfl rfl ?_
      obtain ⟨r35, I35, hI35, H⟩ := H
      refine ⟨r35, I35, hI35, ?_⟩
      refine w_iadd (n := 39) rfl rfl ?_
      refine w_bipush (v := 7) (n := 41) rfl rfl rfl ?_
      refine w_iadd (n := 42) rfl rfl ?_
      refine w_bipush (v := 8) (n := 44) rfl rfl rfl ?_
      refine w_idiv (n := 45) rfl rfl ⟨by decide, ?_⟩
      refine w_iadd (n := 46) rfl rfl ?_
      refine w_iadd (n := 47) rfl rfl ?_
      refine w_istore_n (ls' := [some (.ref 58), some (.int x1), some (.int (x2 + (4 + ((((if (I7 58 4) = 2 then (2 : Int32) else 0) + r35) + 7) / 8)))), some (.int x3)]) (n := 48) rfl rfl rfl rfl ?_
      refine w_iinc (y := x3 + 1) (ls' := [some (.ref 58), some (.int x1), some (.int (x2 + (4 + ((((if (I7 58 4) = 2 then (2 : Int32) else 0) + r35) + 7) / 8)))), some (.int (x3 + 1))]) (n := 51) rfl rfl rfl rfl rfl ?_
      refine w_goto rfl ?_
      exact w_drp mm_Qf_i H (lb_s (lb_s (lb_s (lb_s lb_e))))
    refine w_icmp_ne (n := 23) rfl rfl ⟨fun hc => ?_, fun hc => ?_⟩
    · refine w_iconst (v := 0) (n := 28) rfl rfl rfl ?_
      refine w_drp mm_Qf_i (J20 _ ?_) (lb_s (lb_s (lb_s (lb_s lb_e))))
      · exact (if_neg hc).symm
    · refine w_iconst (v := 2) (n := 24) rfl rfl rfl ?_
      refine w_goto rfl ?_
      refine w_drp mm_Qf_i (J20 _ ?_) (lb_s (lb_s (lb_s (lb_s lb_e))))
      · exact (if_pos hc).symm
theorem e_M_size {P : Int32 → mm_I → Prop} {I : mm_I}
  (H : mm_Mi 146 [.ref 58] (mm_up I 58 16 0) (fun r6 I6 =>  -- M.isReady
    (r6 = 0 →
      P (-1) I6) ∧
    (¬ r6 = 0 →
      mm_Mi 181 [.ref 58, .int (I6 58 8)] I6 (fun r17 I17 =>  -- M.sizeBy
      P r17 I17)))) : mm_Mi 182 [.ref 58] I P := by
  refine mm_Mi_of ?_
  show mm_W 182 0 [some (.ref 58)] [] I (mm_qi 182 P)
  refine w_aload_nR (x := 58) (n := 1) rfl rfl rfl ?_
  refine w_iconst (v := 0) (n := 2) rfl rfl rfl ?_
  refine w_putI (n := 5) rfl rfl rfl rfl rfl ?_
  refine w_aload_nR (x := 58) (n := 6) rfl rfl rfl ?_
  refine w_calli (as := [.ref 58]) (rest := []) (n := 9) rfl rfl rfl rfl ?_
  obtain ⟨r6, I6, hI6, H⟩ := H
  refine ⟨r6, I6, hI6, ?_⟩
  refine w_if_eq (n := 12) rfl rfl ⟨fun hc => ?_, fun hc => ?_⟩
  · replace H := H.1 hc
    refine w_iconst (v := (-1)) (n := 24) rfl rfl rfl ?_
    exact w_ireturn rfl rfl H
  · replace H := H.2 hc
    refine w_aload_nR (x := 58) (n := 13) rfl rfl rfl ?_
    refine w_aload_nR (x := 58) (n := 14) rfl rfl rfl ?_
    refine w_getI (n := 17) rfl rfl rfl rfl ?_
    refine w_calli (as := [.ref 58, .int (I6 58 8)]) (rest := []) (n := 20) rfl rfl rfl rfl ?_
    obtain ⟨r17, I17, hI17, H⟩ := H
    refine ⟨r17, I17, hI17, ?_⟩
    refine w_goto rfl ?_
    exact w_ireturn rfl rfl H
theorem e_M_sizeOf {P : Int32 → mm_I → Prop} {I : mm_I} (x1 : Int32)
  (H : mm_Mi 181 [.ref 58, .int (I 58 8)] (mm_up I 58 6 x1) (fun r15 I15 =>  -- M.sizeBy
    P r15 (mm_up I15 58 6 (I 58 6)))) : mm_Mi 183 [.ref 58, .int x1] I P := by
  refine mm_Mi_of ?_
  show mm_W 183 0 [some (.ref 58), some (.int x1), none, none] [] I (mm_qi 183 P)
  refine w_aload_nR (x := 58) (n := 1) rfl rfl rfl ?_
  refine w_getI (n := 4) rfl rfl rfl rfl ?_
  refine w_istore_n (ls' := [some (.ref 58), some (.int x1), some (.int (I 58 6)), none]) (n := 5) rfl rfl rfl rfl ?_
  refine w_aload_nR (x := 58) (n := 6) rfl rfl rfl ?_
  refine w_iload_n (n := 7) rfl rfl rfl ?_
  refine w_putI (n := 10) rfl rfl rfl rfl rfl ?_
  refine w_aload_nR (x := 58) (n := 11) rfl rfl rfl ?_
  refine w_aload_nR (x := 58) (n := 12) rfl rfl rfl ?_
  refine w_getI (n := 15) rfl rfl rfl rfl ?_
  refine w_calli (as := [.ref 58, .int (I 58 8)]) (rest := []) (n := 18) rfl rfl rfl rfl ?_
  obtain ⟨r15, I15, hI15, H⟩ := H
  refine ⟨r15, I15, hI15, ?_⟩
  refine w_istore_n (ls' := [some (.ref 58), some (.int x1), some (.int (I 58 6)), some (.int r15)]) (n := 19) rfl rfl rfl rfl ?_
  refine w_aload_nR (x := 58) (n := 20) rfl rfl rfl ?_
  refine w_iload_n (n := 21) rfl rfl rfl ?_
  refine w_putI (n := 24) rfl rfl rfl rfl rfl ?_
  refine w_iload_n (n := 25) rfl rfl rfl ?_
  exact w_ireturn rfl rfl H
theorem e_M_sized {P : Int32 → mm_I → Prop} {I : mm_I} (x1 : Int32)
  (H : mm_Mi 127 [.int x1] (mm_up I 58 16 0) (fun r6 I6 =>  -- M.isFrame
    (r6 = 0 →
      P (-1) I6) ∧
    (¬ r6 = 0 →
      mm_Mi 146 [.ref 58] I6 (fun r13 I13 =>  -- M.isReady
      (r13 = 0 →
        P (-1) I13) ∧
      (¬ r13 = 0 →
        mm_Mi 183 [.ref 58, .int x1] I13 (fun r21 I21 =>  -- M.sizeOf
        P r21 I21)))))) : mm_Mi 184 [.ref 58, .int x1] I P := by
  refine mm_Mi_of ?_
  show mm_W 184 0 [some (.ref 58), some (.int x1)] [] I (mm_qi 184 P)
  refine w_aload_nR (x := 58) (n := 1) rfl rfl rfl ?_
  refine w_iconst (v := 0) (n := 2) rfl rfl rfl ?_
  refine w_putI (n := 5) rfl rfl rfl rfl rfl ?_
  refine w_iload_n (n := 6) rfl rfl rfl ?_
  refine w_calli (as := [.int x1]) (rest := []) (n := 9) rfl rfl rfl rfl ?_
  obtain ⟨r6, I6, hI6, H⟩ := H
  refine ⟨r6, I6, hI6, ?_⟩
  refine w_if_eq (n := 12) rfl rfl ⟨fun hc => ?_, fun hc => ?_⟩
  · replace H := H.1 hc
    refine w_iconst (v := (-1)) (n := 28) rfl rfl rfl ?_
    exact w_ireturn rfl rfl H
  · replace H := H.2 hc
    refine w_aload_nR (x := 58) (n := 13) rfl rfl rfl ?_
    refine w_calli (as := [.ref 58]) (rest := []) (n := 16) rfl rfl rfl rfl ?_
    obtain ⟨r13, I13, hI13, H⟩ := H
    refine ⟨r13, I13, hI13, ?_⟩
    refine w_if_eq (n := 19) rfl rfl ⟨fun hc => ?_, fun hc => ?_⟩
    · replace H := H.1 hc
      refine w_iconst (v := (-1)) (n := 28) rfl rfl rfl ?_
      exact w_ireturn rfl rfl H
    · replace H := H.2 hc
      refine w_aload_nR (x := 58) (n := 20) rfl rfl rfl ?_
      refine w_iload_n (n := 21) rfl rfl rfl ?_
      refine w_calli (as := [.ref 58, .int x1]) (rest := []) (n := 24) rfl rfl rfl rfl ?_
      obtain ⟨r21, I21, hI21, H⟩ := H
      refine ⟨r21, I21, hI21, ?_⟩
      refine w_goto rfl ?_
      exact w_ireturn rfl rfl H
theorem e_M_without {P : Int32 → mm_I → Prop} {I : mm_I} (x1 : Int32)
  (H : mm_Mi 125 [.int x1, .int 1, .int 7] (mm_up I 58 16 0) (fun r9 I9 =>  -- M.within
    (r9 = 0 →
      P (-1) I9) ∧
    (¬ r9 = 0 →
      mm_Mi 146 [.ref 58] I9 (fun r16 I16 =>  -- M.isReady
      (r16 = 0 →
        P (-1) I16) ∧
      (¬ r16 = 0 →
        mm_Mi 181 [.ref 58, .int ((I16 58 8) &&& ((1 <<< (x1 &&& 31)) ^^^ (-1)))] I16 (fun r33 I33 =>  -- M.sizeBy
        P r33 I33)))))) : mm_Mi 185 [.ref 58, .int x1] I P := by
  refine mm_Mi_of ?_
  show mm_W 185 0 [some (.ref 58), some (.int x1)] [] I (mm_qi 185 P)
  refine w_aload_nR (x := 58) (n := 1) rfl rfl rfl ?_
  refine w_iconst (v := 0) (n := 2) rfl rfl rfl ?_
  refine w_putI (n := 5) rfl rfl rfl rfl rfl ?_
  refine w_iload_n (n := 6) rfl rfl rfl ?_
  refine w_iconst (v := 1) (n := 7) rfl rfl rfl ?_
  refine w_bipush (v := 7) (n := 9) rfl rfl rfl ?_
  refine w_calli (as := [.int x1, .int 1, .int 7]) (rest := []) (n := 12) rfl rfl rfl rfl ?_
  obtain ⟨r9, I9, hI9, H⟩ := H
  refine ⟨r9, I9, hI9, ?_⟩
  refine w_if_eq (n := 15) rfl rfl ⟨fun hc => ?_, fun hc => ?_⟩
  · replace H := H.1 hc
    refine w_iconst (v := (-1)) (n := 40) rfl rfl rfl ?_
    exact w_ireturn rfl rfl H
  · replace H := H.2 hc
    refine w_aload_nR (x := 58) (n := 16) rfl rfl rfl ?_
    refine w_calli (as := [.ref 58]) (rest := []) (n := 19) rfl rfl rfl rfl ?_
    obtain ⟨r16, I16, hI16, H⟩ := H
    refine ⟨r16, I16, hI16, ?_⟩
    refine w_if_eq (n := 22) rfl rfl ⟨fun hc => ?_, fun hc => ?_⟩
    · replace H := H.1 hc
      refine w_iconst (v := (-1)) (n := 40) rfl rfl rfl ?_
      exact w_ireturn rfl rfl H
    · replace H := H.2 hc
      refine w_aload_nR (x := 58) (n := 23) rfl rfl rfl ?_
      refine w_aload_nR (x := 58) (n := 24) rfl rfl rfl ?_
      refine w_getI (n := 27) rfl rfl rfl rfl ?_
      refine w_iconst (v := 1) (n := 28) rfl rfl rfl ?_
      refine w_iload_n (n := 29) rfl rfl rfl ?_
      refine w_ishl (n := 30) rfl rfl ?_
      refine w_iconst (v := (-1)) (n := 31) rfl rfl rfl ?_
      refine w_ixor (n := 32) rfl rfl ?_
      refine w_iand (n := 33) rfl rfl ?_
      refine w_calli (as := [.ref 58, .int ((I16 58 8) &&& ((1 <<< (x1 &&& 31)) ^^^ (-1)))]) (rest := []) (n := 36) rfl rfl rfl rfl ?_
      obtain ⟨r33, I33, hI33, H⟩ := H
      refine ⟨r33, I33, hI33, ?_⟩
      refine w_goto rfl ?_
      exact w_ireturn rfl rfl H
theorem e_M_best {P : Int32 → mm_I → Prop} {I : mm_I}
  (H : mm_Mi 146 [.ref 58] (mm_up I 58 16 0) (fun r6 I6 =>  -- M.isReady
    (¬ r6 = 0 →
      mm_Mi 183 [.ref 58, .int 16] I6 (fun r20 I20 =>  -- M.sizeOf
      mm_W 186 27 [some (.ref 58), some (.int 16), some (.int r20), some (.int 24), none] [] I20 (mm_qi 186 P))) ∧
    (r6 = 0 →
      P (-1) I6))) : mm_Mi 186 [.ref 58] I P := by
  refine mm_Mi_of ?_
  show mm_W 186 0 [some (.ref 58), none, none, none, none] [] I (mm_qi 186 P)
  refine w_aload_nR (x := 58) (n := 1) rfl rfl rfl ?_
  refine w_iconst (v := 0) (n := 2) rfl rfl rfl ?_
  refine w_putI (n := 5) rfl rfl rfl rfl rfl ?_
  refine w_aload_nR (x := 58) (n := 6) rfl rfl rfl ?_
  refine w_calli (as := [.ref 58]) (rest := []) (n := 9) rfl rfl rfl rfl ?_
  obtain ⟨r6, I6, hI6, H⟩ := H
  refine ⟨r6, I6, hI6, ?_⟩
  refine w_if_ne (n := 12) rfl rfl ⟨fun hc => ?_, fun hc => ?_⟩
  · replace H := H.1 hc
    refine w_bipush (v := 16) (n := 16) rfl rfl rfl ?_
    refine w_istore_n (ls' := [some (.ref 58), some (.int 16), none, none, none]) (n := 17) rfl rfl rfl rfl ?_
    refine w_aload_nR (x := 58) (n := 18) rfl rfl rfl ?_
    refine w_bipush (v := 16) (n := 20) rfl rfl rfl ?_
    refine w_calli (as := [.ref 58, .int 16]) (rest := []) (n := 23) rfl rfl rfl rfl ?_
    obtain ⟨r20, I20, hI20, H⟩ := H
    refine ⟨r20, I20, hI20, ?_⟩
    refine w_istore_n (ls' := [some (.ref 58), some (.int 16), some (.int r20), none, none]) (n := 24) rfl rfl rfl rfl ?_
    refine w_bipush (v := 24) (n := 26) rfl rfl rfl ?_
    refine w_istore_n (ls' := [some (.ref 58), some (.int 16), some (.int r20), some (.int 24), none]) (n := 27) rfl rfl rfl rfl ?_
    exact w_drp mm_Qf_i H (lb_s (lb_s (lb_s (lb_s (lb_n lb_e)))))
  · replace H := H.2 hc
    refine w_iconst (v := (-1)) (n := 13) rfl rfl rfl ?_
    exact w_ireturn rfl rfl H
theorem c_M_best_27 {P : Int32 → mm_I → Prop} {I : mm_I} (x1 : Int32) (x2 : Int32) (x3 : Int32)
  (H : (64 < x3 →
      P x1 I) ∧
    (x3 ≤ 64 →
      mm_Mi 183 [.ref 58, .int x3] I (fun r35 I35 =>  -- M.sizeOf
      mm_W 186 27 [some (.ref 58), some (.int (if r35 < x2 then (x3 : Int32) else x1)), some (.int (if r35 < x2 then (r35 : Int32) else x2)), some (.int (x3 + 8)), none] [] I35 (mm_qi 186 P)))) : mm_W 186 27 [some (.ref 58), some (.int x1), some (.int x2), some (.int x3), none] [] I (mm_qi 186 P) := by
  refine w_iload_n (n := 28) rfl rfl rfl ?_
  refine w_bipush (v := 64) (n := 30) rfl rfl rfl ?_
  refine w_icmp_gt (n := 33) rfl rfl ⟨fun hc => ?_, fun hc => ?_⟩
  · replace H := H.1 hc
    refine w_iload_n (n := 61) rfl rfl rfl ?_
    exact w_ireturn rfl rfl H
  · replace H := H.2 hc
    refine w_aload_nR (x := 58) (n := 34) rfl rfl rfl ?_
    refine w_iload_n (n := 35) rfl rfl rfl ?_
    refine w_calli (as := [.ref 58, .int x3]) (rest := []) (n := 38) rfl rfl rfl rfl ?_
    obtain ⟨r35, I35, hI35, H⟩ := H
    refine ⟨r35, I35, hI35, ?_⟩
    refine w_istore (ls' := [some (.ref 58), some (.int x1), some (.int x2), some (.int x3), some (.int r35)]) (n := 40) rfl rfl rfl rfl ?_
    refine w_iload (n := 42) rfl rfl rfl ?_
    refine w_iload_n (n := 43) rfl rfl rfl ?_
    have J43 : ∀ (y43_1 : Int32) (y43_2 : Int32), y43_1 = (if r35 < x2 then (x3 : Int32) else x1) → y43_2 = (if r35 < x2 then (r35 : Int32) else x2) → mm_W 186 54 [some (.ref 58), some (.int y43_1), some (.int y43_2), some (.int x3), some (.int r35)] [] I35 (mm_qi 186 P) := by
      intro y43_1 y43_2 e43_0 e43_1
      subst e43_0
      subst e43_1
      refine w_iinc (y := x3 + 8) (ls' := [some (.ref 58), some (.int (if r35 < x2 then (x3 : Int32) else x1)), some (.int (if r35 < x2 then (r35 : Int32) else x2)), some (.int (x3 + 8)), some (.int r35)]) (n := 57) rfl rfl rfl rfl rfl ?_
      refine w_goto rfl ?_
      exact w_drp mm_Qf_i H (lb_s (lb_s (lb_s (lb_s (lb_n lb_e)))))
    refine w_icmp_lt (n := 46) rfl rfl ⟨fun hc => ?_, fun hc => ?_⟩
    · refine w_iload_n (n := 50) rfl rfl rfl ?_
      refine w_istore_n (ls' := [some (.ref 58), some (.int x3), some (.int x2), some (.int x3), some (.int r35)]) (n := 51) rfl rfl rfl rfl ?_
      refine w_iload (n := 53) rfl rfl rfl ?_
      refine w_istore_n (ls' := [some (.ref 58), some (.int x3), some (.int r35), some (.int x3), some (.int r35)]) (n := 54) rfl rfl rfl rfl ?_
      refine w_drp mm_Qf_i (J43 _ _ ?_ ?_) (lb_s (lb_s (lb_s (lb_s (lb_s lb_e)))))
      · exact (if_pos hc).symm
      · exact (if_pos hc).symm
    · refine w_goto rfl ?_
      refine w_drp mm_Qf_i (J43 _ _ ?_ ?_) (lb_s (lb_s (lb_s (lb_s (lb_s lb_e)))))
      · exact (if_neg (fa_nlt hc)).symm
      · exact (if_neg (fa_nlt hc)).symm
theorem e_M_putsByte {P : mm_I → Prop} {I : mm_I} (x1 : Int32)
  (H : vp_in (I 58 15) 4000 ∧
    P (mm_up (mm_up (mm_up I 66 ((I 58 15).toNatClampNeg) (x1 &&& 255)) 58 15 ((I 58 15) + 1)) 58 34 0)) : mm_Mv 187 [.ref 58, .int x1] I P := by
  refine mm_Mv_of ?_
  show mm_W 187 0 [some (.ref 58), some (.int x1)] [] I (mm_qv 187 P)
  refine w_aload_nR (x := 58) (n := 1) rfl rfl rfl ?_
  refine w_getR (b := 66) (n := 4) rfl rfl rfl rfl rfl ?_
  refine w_aload_nR (x := 58) (n := 5) rfl rfl rfl ?_
  refine w_getI (n := 8) rfl rfl rfl rfl ?_
  refine w_iload_n (n := 9) rfl rfl rfl ?_
  refine w_sipush (v := 255) (n := 12) rfl rfl rfl ?_
  refine w_iand (n := 13) rfl rfl ?_
  refine w_iastore (N := 4000) (j := (I 58 15).toNatClampNeg) (n := 14) rfl rfl rfl rfl rfl ⟨H.1, ?_⟩
  replace H := H.2
  refine w_aload_nR (x := 58) (n := 15) rfl rfl rfl ?_
  refine w_dup (n := 16) rfl rfl rfl ?_
  refine w_getI (n := 19) rfl rfl rfl rfl ?_
  refine w_iconst (v := 1) (n := 20) rfl rfl rfl ?_
  refine w_iadd (n := 21) rfl rfl ?_
  refine w_putI (n := 24) rfl rfl rfl rfl rfl ?_
  refine w_aload_nR (x := 58) (n := 25) rfl rfl rfl ?_
  refine w_iconst (v := 0) (n := 26) rfl rfl rfl ?_
  refine w_putI (n := 29) rfl rfl rfl rfl rfl ?_
  exact w_vreturn rfl rfl H
theorem e_M_putsBits {P : mm_I → Prop} {I : mm_I} (x1 : Int32) (x2 : Int32)
  (H : mm_W 188 4 [some (.ref 58), some (.int x1), none, some (.int (x2 - 1))] [] I (mm_qv 188 P)) : mm_Mv 188 [.ref 58, .int x1, .int x2] I P := by
  refine mm_Mv_of ?_
  show mm_W 188 0 [some (.ref 58), some (.int x1), some (.int x2), none] [] I (mm_qv 188 P)
  refine w_iload_n (n := 1) rfl rfl rfl ?_
  refine w_iconst (v := 1) (n := 2) rfl rfl rfl ?_
  refine w_isub (n := 3) rfl rfl ?_
  refine w_istore_n (ls' := [some (.ref 58), some (.int x1), some (.int x2), some (.int (x2 - 1))]) (n := 4) rfl rfl rfl rfl ?_
  exact w_drp mm_Qf_v H (lb_s (lb_s (lb_n (lb_s lb_e))))
theorem c_M_putsBits_4 {P : mm_I → Prop} {I : mm_I} (x1 : Int32) (x3 : Int32)
  (H : (x3 < 0 →
      P I) ∧
    (0 ≤ x3 →
      (¬ (I 58 34) = 0 →
        vp_in ((I 58 15) - 1) 4000 ∧
        vp_in ((I 58 15) - 1) 4000 ∧
        mm_W 188 4 [some (.ref 58), some (.int x1), none, some (.int (x3 + (-1)))] [] (mm_up (mm_up I 66 (((I 58 15) - 1).toNatClampNeg) ((I 66 (((I 58 15) - 1).toNatClampNeg)) ||| (((x1 >>> (x3 &&& 31)) &&& 1) <<< ((7 - (I 58 34)) &&& 31)))) 58 34 (((I 58 34) + 1) - ((I 58 34) + 1) / 8 * 8)) (mm_qv 188 P)) ∧
      ((I 58 34) = 0 →
        mm_Mv 187 [.ref 58, .int 0] I (fun I17 =>  -- M.putsByte
        vp_in ((I17 58 15) - 1) 4000 ∧
        vp_in ((I17 58 15) - 1) 4000 ∧
        mm_W 188 4 [some (.ref 58), some (.int x1), none, some (.int (x3 + (-1)))] [] (mm_up (mm_up I17 66 (((I17 58 15) - 1).toNatClampNeg) ((I17 66 (((I17 58 15) - 1).toNatClampNeg)) ||| (((x1 >>> (x3 &&& 31)) &&& 1) <<< ((7 - (I17 58 34)) &&& 31)))) 58 34 (((I17 58 34) + 1) - ((I17 58 34) + 1) / 8 * 8)) (mm_qv 188 P))))) : mm_W 188 4 [some (.ref 58), some (.int x1), none, some (.int x3)] [] I (mm_qv 188 P) := by
  refine w_iload_n (n := 5) rfl rfl rfl ?_
  refine w_if_lt (n := 8) rfl rfl ⟨fun hc => ?_, fun hc => ?_⟩
  · replace H := H.1 hc
    exact w_vreturn rfl rfl H
  · replace H := H.2 hc
    refine w_aload_nR (x := 58) (n := 9) rfl rfl rfl ?_
    refine w_getI (n := 12) rfl rfl rfl rfl ?_
    refine w_if_ne (n := 15) rfl rfl ⟨fun hc => ?_, fun hc => ?_⟩
    · replace H := H.1 hc
      refine w_aload_nR (x := 58) (n := 21) rfl rfl rfl ?_
      refine w_getR (b := 66) (n := 24) rfl rfl rfl rfl rfl ?_
      refine w_aload_nR (x := 58) (n := 25) rfl rfl rfl ?_
      refine w_getI (n := 28) rfl rfl rfl rfl ?_
      refine w_iconst (v := 1) (n := 29) rfl rfl rfl ?_
      refine w_isub (n := 30) rfl rfl ?_
      refine w_dup2 (n := 31) rfl rfl rfl ?_
      refine w_iaload (N := 4000) (j := ((I 58 15) - 1).toNatClampNeg) (n := 32) rfl rfl rfl rfl rfl rfl ⟨H.1, ?_⟩
      replace H := H.2
      refine w_iload_n (n := 33) rfl rfl rfl ?_
      refine w_iload_n (n := 34) rfl rfl rfl ?_
      refine w_ishr (n := 35) rfl rfl ?_
      refine w_iconst (v := 1) (n := 36) rfl rfl rfl ?_
      refine w_iand (n := 37) rfl rfl ?_
      refine w_bipush (v := 7) (n := 39) rfl rfl rfl ?_
      refine w_aload_nR (x := 58) (n := 40) rfl rfl rfl ?_
      refine w_getI (n := 43) rfl rfl rfl rfl ?_
      refine w_isub (n := 44) rfl rfl ?_
      refine w_ishl (n := 45) rfl rfl ?_
      refine w_ior (n := 46) rfl rfl ?_
      refine w_iastore (N := 4000) (j := ((I 58 15) - 1).toNatClampNeg) (n := 47) rfl rfl rfl rfl rfl ⟨H.1, ?_⟩
      replace H := H.2
      refine w_aload_nR (x := 58) (n := 48) rfl rfl rfl ?_
      refine w_aload_nR (x := 58) (n := 49) rfl rfl rfl ?_
      refine w_getI (n := 52) rfl rfl rfl rfl ?_
      refine w_iconst (v := 1) (n := 53) rfl rfl rfl ?_
      refine w_iadd (n := 54) rfl rfl ?_
      refine w_bipush (v := 8) (n := 56) rfl rfl rfl ?_
      refine w_irem (n := 57) rfl rfl ⟨by decide, ?_⟩
      refine w_putI (n := 60) rfl rfl rfl rfl rfl ?_
      refine w_iinc (y := x3 + (-1)) (ls' := [some (.ref 58), some (.int x1), none, some (.int (x3 + (-1)))]) (n := 63) rfl rfl rfl rfl rfl ?_
      refine w_goto rfl ?_
      exact w_drp mm_Qf_v H (lb_s (lb_s (lb_n (lb_s lb_e))))
    · replace H := H.2 hc
      refine w_aload_nR (x := 58) (n := 16) rfl rfl rfl ?_
      refine w_iconst (v := 0) (n := 17) rfl rfl rfl ?_
      refine w_callv (as := [.ref 58, .int 0]) (rest := []) (n := 20) rfl rfl rfl rfl ?_
      obtain ⟨I17, hI17, H⟩ := H
      refine ⟨I17, hI17, ?_⟩
      refine w_aload_nR (x := 58) (n := 21) rfl rfl rfl ?_
      refine w_getR (b := 66) (n := 24) rfl rfl rfl rfl rfl ?_
      refine w_aload_nR (x := 58) (n := 25) rfl rfl rfl ?_
      refine w_getI (n := 28) rfl rfl rfl rfl ?_
      refine w_iconst (v := 1) (n := 29) rfl rfl rfl ?_
      refine w_isub (n := 30) rfl rfl ?_
      refine w_dup2 (n := 31) rfl rfl rfl ?_
      refine w_iaload (N := 4000) (j := ((I17 58 15) - 1).toNatClampNeg) (n := 32) rfl rfl rfl rfl rfl rfl ⟨H.1, ?_⟩
      replace H := H.2
      refine w_iload_n (n := 33) rfl rfl rfl ?_
      refine w_iload_n (n := 34) rfl rfl rfl ?_
      refine w_ishr (n := 35) rfl rfl ?_
      refine w_iconst (v := 1) (n := 36) rfl rfl rfl ?_
      refine w_iand (n := 37) rfl rfl ?_
      refine w_bipush (v := 7) (n := 39) rfl rfl rfl ?_
      refine w_aload_nR (x := 58) (n := 40) rfl rfl rfl ?_
      refine w_getI (n := 43) rfl rfl rfl rfl ?_
      refine w_isub (n := 44) rfl rfl ?_
      refine w_ishl (n := 45) rfl rfl ?_
      refine w_ior (n := 46) rfl rfl ?_
      refine w_iastore (N := 4000) (j := ((I17 58 15) - 1).toNatClampNeg) (n := 47) rfl rfl rfl rfl rfl ⟨H.1, ?_⟩
      replace H := H.2
      refine w_aload_nR (x := 58) (n := 48) rfl rfl rfl ?_
      refine w_aload_nR (x := 58) (n := 49) rfl rfl rfl ?_
      refine w_getI (n := 52) rfl rfl rfl rfl ?_
      refine w_iconst (v := 1) (n := 53) rfl rfl rfl ?_
      refine w_iadd (n := 54) rfl rfl ?_
      refine w_bipush (v := 8) (n := 56) rfl rfl rfl ?_
      refine w_irem (n := 57) rfl rfl ⟨by decide, ?_⟩
      refine w_putI (n := 60) rfl rfl rfl rfl rfl ?_
      refine w_iinc (y := x3 + (-1)) (ls' := [some (.ref 58), some (.int x1), none, some (.int (x3 + (-1)))]) (n := 63) rfl rfl rfl rfl rfl ?_
      refine w_goto rfl ?_
      exact w_drp mm_Qf_v H (lb_s (lb_s (lb_n (lb_s lb_e))))
theorem e_M_checked {P : Int32 → mm_I → Prop} {I : mm_I} (x1 : Int32) (x2 : Int32)
  (H : mm_W 189 7 [some (.ref 58), none, some (.int x2), some (.int 65535), some (.int x1), none] [] I (mm_qi 189 P)) : mm_Mi 189 [.ref 58, .int x1, .int x2] I P := by
  refine mm_Mi_of ?_
  show mm_W 189 0 [some (.ref 58), some (.int x1), some (.int x2), none, none, none] [] I (mm_qi 189 P)
  refine w_ldc_w (v := 65535) (n := 3) rfl rfl rfl ?_
  refine w_istore_n (ls' := [some (.ref 58), some (.int x1), some (.int x2), some (.int 65535), none, none]) (n := 4) rfl rfl rfl rfl ?_
  refine w_iload_n (n := 5) rfl rfl rfl ?_
  refine w_istore (ls' := [some (.ref 58), some (.int x1), some (.int x2), some (.int 65535), some (.int x1), none]) (n := 7) rfl rfl rfl rfl ?_
  exact w_drp mm_Qf_i H (lb_s (lb_n (lb_s (lb_s (lb_s (lb_n lb_e))))))
theorem c_M_checked_7 {P : Int32 → mm_I → Prop} {I : mm_I} (x2 : Int32) (x3 : Int32) (x4 : Int32)
  (H : (x2 ≤ x4 →
      P x3 I) ∧
    (x4 < x2 →
      vp_in x4 4000 ∧
      mm_W 189 30 [some (.ref 58), none, some (.int x2), some (.int (x3 ^^^ (256 * (I 66 x4.toNatClampNeg)))), some (.int x4), some (.int 0)] [] I (mm_qi 189 P))) : mm_W 189 7 [some (.ref 58), none, some (.int x2), some (.int x3), some (.int x4), none] [] I (mm_qi 189 P) := by
  refine w_iload (n := 9) rfl rfl rfl ?_
  refine w_iload_n (n := 10) rfl rfl rfl ?_
  refine w_icmp_ge (n := 13) rfl rfl ⟨fun hc => ?_, fun hc => ?_⟩
  · replace H := H.1 hc
    refine w_iload_n (n := 75) rfl rfl rfl ?_
    exact w_ireturn rfl rfl H
  · replace H := H.2 hc
    refine w_iload_n (n := 14) rfl rfl rfl ?_
    refine w_sipush (v := 256) (n := 17) rfl rfl rfl ?_
    refine w_aload_nR (x := 58) (n := 18) rfl rfl rfl ?_
    refine w_getR (b := 66) (n := 21) rfl rfl rfl rfl rfl ?_
    refine w_iload (n := 23) rfl rfl rfl ?_
    refine w_iaload (N := 4000) (j := x4.toNatClampNeg) (n := 24) rfl rfl rfl rfl rfl rfl ⟨H.1, ?_⟩
    replace H := H.2
    refine w_imul (n := 25) rfl rfl ?_
    refine w_ixor (n := 26) rfl rfl ?_
    refine w_istore_n (ls' := [some (.ref 58), none, some (.int x2), some (.int (x3 ^^^ (256 * (I 66 x4.toNatClampNeg)))), some (.int x4), none]) (n := 27) rfl rfl rfl rfl ?_
    refine w_iconst (v := 0) (n := 28) rfl rfl rfl ?_
    refine w_istore (ls' := [some (.ref 58), none, some (.int x2), some (.int (x3 ^^^ (256 * (I 66 x4.toNatClampNeg)))), some (.int x4), some (.int 0)]) (n := 30) rfl rfl rfl rfl ?_
    exact w_drp mm_Qf_i H (lb_s (lb_n (lb_s (lb_s (lb_s (lb_s lb_e))))))
theorem c_M_checked_30 {P : Int32 → mm_I → Prop} {I : mm_I} (x2 : Int32) (x3 : Int32) (x4 : Int32) (x5 : Int32)
  (H : (8 ≤ x5 →
      mm_W 189 7 [some (.ref 58), none, some (.int x2), some (.int x3), some (.int (x4 + 1)), none] [] I (mm_qi 189 P)) ∧
    (x5 < 8 →
      mm_W 189 30 [some (.ref 58), none, some (.int x2), some (.int ((if x3 < 32768 then (2 * x3 : Int32) else (2 * x3) ^^^ 4129) &&& 65535)), some (.int x4), some (.int (x5 + 1))] [] I (mm_qi 189 P))) : mm_W 189 30 [some (.ref 58), none, some (.int x2), some (.int x3), some (.int x4), some (.int x5)] [] I (mm_qi 189 P) := by
  refine w_iload (n := 32) rfl rfl rfl ?_
  refine w_bipush (v := 8) (n := 34) rfl rfl rfl ?_
  refine w_icmp_ge (n := 37) rfl rfl ⟨fun hc => ?_, fun hc => ?_⟩
  · replace H := H.1 hc
    refine w_iinc (y := x4 + 1) (ls' := [some (.ref 58), none, some (.int x2), some (.int x3), some (.int (x4 + 1)), some (.int x5)]) (n := 71) rfl rfl rfl rfl rfl ?_
    refine w_goto rfl ?_
    exact w_drp mm_Qf_i H (lb_s (lb_n (lb_s (lb_s (lb_s (lb_n lb_e))))))
  · replace H := H.2 hc
    refine w_iload_n (n := 38) rfl rfl rfl ?_
    refine w_ldc_w (v := 32768) (n := 41) rfl rfl rfl ?_
    have J41 : ∀ (w41_0 : Int32), w41_0 = (if x3 < 32768 then (2 * x3 : Int32) else (2 * x3) ^^^ 4129) → mm_W 189 57 [some (.ref 58), none, some (.int x2), some (.int x3), some (.int x4), some (.int x5)] [.int w41_0] I (mm_qi 189 P) := by
      intro w41_0 e41_0
      subst e41_0
      refine w_ldc_w (v := 65535) (n := 60) rfl rfl rfl ?_
      refine w_iand (n := 61) rfl rfl ?_
      refine w_istore_n (ls' := [some (.ref 58), none, some (.int x2), some (.int ((if x3 < 32768 then (2 * x3 : Int32) else (2 * x3) ^^^ 4129) &&& 65535)), some (.int x4), some (.int x5)]) (n := 62) rfl rfl rfl rfl ?_
      refine w_iinc (y := x5 + 1) (ls' := [some (.ref 58), none, some (.int x2), some (.int ((if x3 < 32768 then (2 * x3 : Int32) else (2 * x3) ^^^ 4129) &&& 65535)), some (.int x4), some (.int (x5 + 1))]) (n := 65) rfl rfl rfl rfl rfl ?_
      refine w_goto rfl ?_
      exact w_drp mm_Qf_i H (lb_s (lb_n (lb_s (lb_s (lb_s (lb_s lb_e))))))
    refine w_icmp_lt (n := 44) rfl rfl ⟨fun hc => ?_, fun hc => ?_⟩
    · refine w_iconst (v := 2) (n := 55) rfl rfl rfl ?_
      refine w_iload_n (n := 56) rfl rfl rfl ?_
      refine w_imul (n := 57) rfl rfl ?_
      refine w_drp mm_Qf_i (J41 _ ?_) (lb_s (lb_n (lb_s (lb_s (lb_s (lb_s lb_e))))))
      · exact (if_pos hc).symm
    · refine w_iconst (v := 2) (n := 45) rfl rfl rfl ?_
      refine w_iload_n (n := 46) rfl rfl rfl ?_
      refine w_imul (n := 47) rfl rfl ?_
      refine w_sipush (v := 4129) (n := 50) rfl rfl rfl ?_
      refine w_ixor (n := 51) rfl rfl ?_
      refine w_goto rfl ?_
      refine w_drp mm_Qf_i (J41 _ ?_) (lb_s (lb_n (lb_s (lb_s (lb_s (lb_s lb_e))))))
      · exact (if_neg (fa_nlt hc)).symm
theorem e_M_putsCheck {P : mm_I → Prop} {I : mm_I} (x1 : Int32)
  (H : mm_Mi 189 [.ref 58, .int x1, .int (I 58 15)] I (fun r6 I6 =>  -- M.checked
    mm_Mv 187 [.ref 58, .int (r6 >>> (8 &&& 31))] I6 (fun I15 =>  -- M.putsByte
    mm_Mv 187 [.ref 58, .int r6] I15 (fun I20 =>  -- M.putsByte
    P I20)))) : mm_Mv 190 [.ref 58, .int x1] I P := by
  refine mm_Mv_of ?_
  show mm_W 190 0 [some (.ref 58), some (.int x1), none] [] I (mm_qv 190 P)
  refine w_aload_nR (x := 58) (n := 1) rfl rfl rfl ?_
  refine w_iload_n (n := 2) rfl rfl rfl ?_
  refine w_aload_nR (x := 58) (n := 3) rfl rfl rfl ?_
  refine w_getI (n := 6) rfl rfl rfl rfl ?_
  refine w_calli (as := [.ref 58, .int x1, .int (I 58 15)]) (rest := []) (n := 9) rfl rfl rfl rfl ?_
  obtain ⟨r6, I6, hI6, H⟩ := H
  refine ⟨r6, I6, hI6, ?_⟩
  refine w_istore_n (ls' := [some (.ref 58), some (.int x1), some (.int r6)]) (n := 10) rfl rfl rfl rfl ?_
  refine w_aload_nR (x := 58) (n := 11) rfl rfl rfl ?_
  refine w_iload_n (n := 12) rfl rfl rfl ?_
  refine w_bipush (v := 8) (n := 14) rfl rfl rfl ?_
  refine w_ishr (n := 15) rfl rfl ?_
  refine w_callv (as := [.ref 58, .int (r6 >>> (8 &&& 31))]) (rest := []) (n := 18) rfl rfl rfl rfl ?_
  obtain ⟨I15, hI15, H⟩ := H
  refine ⟨I15, hI15, ?_⟩
  refine w_aload_nR (x := 58) (n := 19) rfl rfl rfl ?_
  refine w_iload_n (n := 20) rfl rfl rfl ?_
  refine w_callv (as := [.ref 58, .int r6]) (rest := []) (n := 23) rfl rfl rfl rfl ?_
  obtain ⟨I20, hI20, H⟩ := H
  refine ⟨I20, hI20, ?_⟩
  exact w_vreturn rfl rfl H
theorem e_M_putsRun {P : mm_I → Prop} {I : mm_I} (x1 : Int32) (x2 : Int32) (x3 : Int32) (x4 : Int32)
  (H : mm_Mv 188 [.ref 58, .int ((x2 - x1) - 1), .int 3] I (fun I7 =>  -- M.putsBits
    mm_Mv 188 [.ref 58, .int x3, .int 4] I7 (fun I13 =>  -- M.putsBits
    (¬ x3 = 15 →
      mm_W 191 60 [some (.ref 58), none, none, some (.int x3), none, some (.int (8 * x1)), some (.int (if (I13 58 21) ≤ (8 * x2) then ((I13 58 21) : Int32) else 8 * x2)), some (.int 1), some (.int (8 * x1)), none, none] [] I13 (mm_qv 191 P)) ∧
    (x3 = 15 →
      P I13)))) : mm_Mv 191 [.ref 58, .int x1, .int x2, .int x3, .int x4] I P := by
  refine mm_Mv_of ?_
  show mm_W 191 0 [some (.ref 58), some (.int x1), some (.int x2), some (.int x3), some (.int x4), none, none, none, none, none, none] [] I (mm_qv 191 P)
  refine w_aload_nR (x := 58) (n := 1) rfl rfl rfl ?_
  refine w_iload_n (n := 2) rfl rfl rfl ?_
  refine w_iload_n (n := 3) rfl rfl rfl ?_
  refine w_isub (n := 4) rfl rfl ?_
  refine w_iconst (v := 1) (n := 5) rfl rfl rfl ?_
  refine w_isub (n := 6) rfl rfl ?_
  refine w_iconst (v := 3) (n := 7) rfl rfl rfl ?_
  refine w_callv (as := [.ref 58, .int ((x2 - x1) - 1), .int 3]) (rest := []) (n := 10) rfl rfl rfl rfl ?_
  obtain ⟨I7, hI7, H⟩ := H
  refine ⟨I7, hI7, ?_⟩
  refine w_aload_nR (x := 58) (n := 11) rfl rfl rfl ?_
  refine w_iload_n (n := 12) rfl rfl rfl ?_
  refine w_iconst (v := 4) (n := 13) rfl rfl rfl ?_
  refine w_callv (as := [.ref 58, .int x3, .int 4]) (rest := []) (n := 16) rfl rfl rfl rfl ?_
  obtain ⟨I13, hI13, H⟩ := H
  refine ⟨I13, hI13, ?_⟩
  refine w_iload_n (n := 17) rfl rfl rfl ?_
  refine w_bipush (v := 15) (n := 19) rfl rfl rfl ?_
  refine w_icmp_ne (n := 22) rfl rfl ⟨fun hc => ?_, fun hc => ?_⟩
  · replace H := H.1 hc
    refine w_bipush (v := 8) (n := 25) rfl rfl rfl ?_
    refine w_iload_n (n := 26) rfl rfl rfl ?_
    refine w_imul (n := 27) rfl rfl ?_
    refine w_istore (ls' := [some (.ref 58), some (.int x1), some (.int x2), some (.int x3), some (.int x4), some (.int (8 * x1)), none, none, none, none, none]) (n := 29) rfl rfl rfl rfl ?_
    refine w_bipush (v := 8) (n := 31) rfl rfl rfl ?_
    refine w_iload_n (n := 32) rfl rfl rfl ?_
    refine w_imul (n := 33) rfl rfl ?_
    refine w_aload_nR (x := 58) (n := 34) rfl rfl rfl ?_
    refine w_getI (n := 37) rfl rfl rfl rfl ?_
    have J37 : ∀ (w37_0 : Int32), w37_0 = (if (I13 58 21) ≤ (8 * x2) then ((I13 58 21) : Int32) else 8 * x2) → mm_W 191 51 [some (.ref 58), some (.int x1), some (.int x2), some (.int x3), some (.int x4), some (.int (8 * x1)), none, none, none, none, none] [.int w37_0] I13 (mm_qv 191 P) := by
      intro w37_0 e37_0
      subst e37_0
      refine w_istore (ls' := [some (.ref 58), some (.int x1), some (.int x2), some (.int x3), some (.int x4), some (.int (8 * x1)), some (.int (if (I13 58 21) ≤ (8 * x2) then ((I13 58 21) : Int32) else 8 * x2)), none, none, none, none]) (n := 53) rfl rfl rfl rfl ?_
      refine w_iconst (v := 1) (n := 54) rfl rfl rfl ?_
      refine w_istore (ls' := [some (.ref 58), some (.int x1), some (.int x2), some (.int x3), some (.int x4), some (.int (8 * x1)), some (.int (if (I13 58 21) ≤ (8 * x2) then ((I13 58 21) : Int32) else 8 * x2)), some (.int 1), none, none, none]) (n := 56) rfl rfl rfl rfl ?_
      refine w_iload (n := 58) rfl rfl rfl ?_
      refine w_istore (ls' := [some (.ref 58), some (.int x1), some (.int x2), some (.int x3), some (.int x4), some (.int (8 * x1)), some (.int (if (I13 58 21) ≤ (8 * x2) then ((I13 58 21) : Int32) else 8 * x2)), some (.int 1), some (.int (8 * x1)), none, none]) (n := 60) rfl rfl rfl rfl ?_
      exact w_drp mm_Qf_v H (lb_s (lb_n (lb_n (lb_s (lb_n (lb_s (lb_s (lb_s (lb_s (lb_n (lb_n lb_e)))))))))))
    refine w_icmp_ge (n := 40) rfl rfl ⟨fun hc => ?_, fun hc => ?_⟩
    · refine w_aload_nR (x := 58) (n := 48) rfl rfl rfl ?_
      refine w_getI (n := 51) rfl rfl rfl rfl ?_
      refine w_drp mm_Qf_v (J37 _ ?_) (lb_s (lb_s (lb_s (lb_s (lb_s (lb_s (lb_n (lb_n (lb_n (lb_n (lb_n lb_e)))))))))))
      · exact (if_pos hc).symm
    · refine w_bipush (v := 8) (n := 42) rfl rfl rfl ?_
      refine w_iload_n (n := 43) rfl rfl rfl ?_
      refine w_imul (n := 44) rfl rfl ?_
      refine w_goto rfl ?_
      refine w_drp mm_Qf_v (J37 _ ?_) (lb_s (lb_s (lb_s (lb_s (lb_s (lb_s (lb_n (lb_n (lb_n (lb_n (lb_n lb_e)))))))))))
      · exact (if_neg (fa_nle hc)).symm
  · replace H := H.2 hc
    exact w_vreturn rfl rfl H
theorem c_M_putsRun_60 {P : mm_I → Prop} {I : mm_I} (x3 : Int32) (x5 : Int32) (x6 : Int32) (x7 : Int32) (x8 : Int32)
  (H : (x6 ≤ x8 →
      (¬ x3 = 14 →
        mm_W 191 117 [some (.ref 58), none, none, some (.int x3), none, none, some (.int x6), some (.int x7), some (.int x5), none, none] [] I (mm_qv 191 P)) ∧
      (x3 = 14 →
        mm_Mv 188 [.ref 58, .int x7, .int 5] I (fun I110 =>  -- M.putsBits
        mm_W 191 117 [some (.ref 58), none, none, some (.int x3), none, none, some (.int x6), some (.int x7), some (.int x5), none, none] [] I110 (mm_qv 191 P)))) ∧
    (x8 < x6 →
      vp_in x8 64 ∧
      mm_Mi 153 [.int (I 68 x8.toNatClampNeg)] I (fun r74 I74 =>  -- M.widthOf
      (r74 ≤ x7 →
        mm_W 191 60 [some (.ref 58), none, none, some (.int x3), none, some (.int x5), some (.int x6), some (.int x7), some (.int (x8 + 1)), none, none] [] I74 (mm_qv 191 P)) ∧
      (x7 < r74 →
        vp_in x8 64 ∧
        mm_Mi 153 [.int (I74 68 x8.toNatClampNeg)] I74 (fun r89 I89 =>  -- M.widthOf
        mm_W 191 60 [some (.ref 58), none, none, some (.int x3), none, some (.int x5), some (.int x6), some (.int r89), some (.int (x8 + 1)), none, none] [] I89 (mm_qv 191 P)))))) : mm_W 191 60 [some (.ref 58), none, none, some (.int x3), none, some (.int x5), some (.int x6), some (.int x7), some (.int x8), none, none] [] I (mm_qv 191 P) := by
  refine w_iload (n := 62) rfl rfl rfl ?_
  refine w_iload (n := 64) rfl rfl rfl ?_
  refine w_icmp_ge (n := 67) rfl rfl ⟨fun hc => ?_, fun hc => ?_⟩
  · replace H := H.1 hc
    refine w_iload_n (n := 101) rfl rfl rfl ?_
    refine w_bipush (v := 14) (n := 103) rfl rfl rfl ?_
    refine w_icmp_ne (n := 106) rfl rfl ⟨fun hc => ?_, fun hc => ?_⟩
    · replace H := H.1 hc
      refine w_iload (n := 115) rfl rfl rfl ?_
      refine w_istore (ls' := [some (.ref 58), none, none, some (.int x3), none, some (.int x5), some (.int x6), some (.int x7), some (.int x5), none, none]) (n := 117) rfl rfl rfl rfl ?_
      exact w_drp mm_Qf_v H (lb_s (lb_n (lb_n (lb_s (lb_n (lb_n (lb_s (lb_s (lb_s (lb_n (lb_n lb_e)))))))))))
    · replace H := H.2 hc
      refine w_aload_nR (x := 58) (n := 107) rfl rfl rfl ?_
      refine w_iload (n := 109) rfl rfl rfl ?_
      refine w_iconst (v := 5) (n := 110) rfl rfl rfl ?_
      refine w_callv (as := [.ref 58, .int x7, .int 5]) (rest := []) (n := 113) rfl rfl rfl rfl ?_
      obtain ⟨I110, hI110, H⟩ := H
      refine ⟨I110, hI110, ?_⟩
      refine w_iload (n := 115) rfl rfl rfl ?_
      refine w_istore (ls' := [some (.ref 58), none, none, some (.int x3), none, some (.int x5), some (.int x6), some (.int x7), some (.int x5), none, none]) (n := 117) rfl rfl rfl rfl ?_
      exact w_drp mm_Qf_v H (lb_s (lb_n (lb_n (lb_s (lb_n (lb_n (lb_s (lb_s (lb_s (lb_n (lb_n lb_e)))))))))))
  · replace H := H.2 hc
    refine w_aload_nR (x := 58) (n := 68) rfl rfl rfl ?_
    refine w_getR (b := 68) (n := 71) rfl rfl rfl rfl rfl ?_
    refine w_iload (n := 73) rfl rfl rfl ?_
    refine w_iaload (N := 64) (j := x8.toNatClampNeg) (n := 74) rfl rfl rfl rfl rfl rfl ⟨H.1, ?_⟩
    replace H := H.2
    refine w_calli (as := [.int (I 68 x8.toNatClampNeg)]) (rest := []) (n := 77) rfl rfl rfl rfl ?_
    obtain ⟨r74, I74, hI74, H⟩ := H
    refine ⟨r74, I74, hI74, ?_⟩
    refine w_iload (n := 79) rfl rfl rfl ?_
    refine w_icmp_le (n := 82) rfl rfl ⟨fun hc => ?_, fun hc => ?_⟩
    · replace H := H.1 hc
      refine w_iinc (y := x8 + 1) (ls' := [some (.ref 58), none, none, some (.int x3), none, some (.int x5), some (.int x6), some (.int x7), some (.int (x8 + 1)), none, none]) (n := 97) rfl rfl rfl rfl rfl ?_
      refine w_goto rfl ?_
      exact w_drp mm_Qf_v H (lb_s (lb_n (lb_n (lb_s (lb_n (lb_s (lb_s (lb_s (lb_s (lb_n (lb_n lb_e)))))))))))
    · replace H := H.2 hc
      refine w_aload_nR (x := 58) (n := 83) rfl rfl rfl ?_
      refine w_getR (b := 68) (n := 86) rfl rfl rfl rfl rfl ?_
      refine w_iload (n := 88) rfl rfl rfl ?_
      refine w_iaload (N := 64) (j := x8.toNatClampNeg) (n := 89) rfl rfl rfl rfl rfl rfl ⟨H.1, ?_⟩
      replace H := H.2
      refine w_calli (as := [.int (I74 68 x8.toNatClampNeg)]) (rest := []) (n := 92) rfl rfl rfl rfl ?_
      obtain ⟨r89, I89, hI89, H⟩ := H
      refine ⟨r89, I89, hI89, ?_⟩
      refine w_istore (ls' := [some (.ref 58), none, none, some (.int x3), none, some (.int x5), some (.int x6), some (.int r89), some (.int x8), none, none]) (n := 94) rfl rfl rfl rfl ?_
      refine w_iinc (y := x8 + 1) (ls' := [some (.ref 58), none, none, some (.int x3), none, some (.int x5), some (.int x6), some (.int r89), some (.int (x8 + 1)), none, none]) (n := 97) rfl rfl rfl rfl rfl ?_
      refine w_goto rfl ?_
      exact w_drp mm_Qf_v H (lb_s (lb_n (lb_n (lb_s (lb_n (lb_s (lb_s (lb_s (lb_s (lb_n (lb_n lb_e)))))))))))
theorem c_M_putsRun_117 {P : mm_I → Prop} {I : mm_I} (x3 : Int32) (x6 : Int32) (x7 : Int32) (x8 : Int32)
  (H : (x6 ≤ x8 →
      P I) ∧
    (x8 < x6 →
      (¬ x3 = 14 →
        vp_in x8 64 ∧
        mm_Mi 152 [.int (I 68 x8.toNatClampNeg)] I (fun r153 I153 =>  -- M.folded
        mm_W 191 161 [some (.ref 58), none, none, some (.int x3), none, none, some (.int x6), some (.int x7), some (.int x8), some (.int r153), some (.int 0)] [] I153 (mm_qv 191 P))) ∧
      (x3 = 14 →
        vp_in x8 64 ∧
        mm_Mv 188 [.ref 58, .int (I 68 x8.toNatClampNeg), .int x7] I (fun I140 =>  -- M.putsBits
        mm_W 191 117 [some (.ref 58), none, none, some (.int x3), none, none, some (.int x6), some (.int x7), some (.int (x8 + 1)), none, none] [] I140 (mm_qv 191 P))))) : mm_W 191 117 [some (.ref 58), none, none, some (.int x3), none, none, some (.int x6), some (.int x7), some (.int x8), none, none] [] I (mm_qv 191 P) := by
  refine w_iload (n := 119) rfl rfl rfl ?_
  refine w_iload (n := 121) rfl rfl rfl ?_
  refine w_icmp_ge (n := 124) rfl rfl ⟨fun hc => ?_, fun hc => ?_⟩
  · replace H := H.1 hc
    exact w_vreturn rfl rfl H
  · replace H := H.2 hc
    refine w_iload_n (n := 125) rfl rfl rfl ?_
    refine w_bipush (v := 14) (n := 127) rfl rfl rfl ?_
    refine w_icmp_ne (n := 130) rfl rfl ⟨fun hc => ?_, fun hc => ?_⟩
    · replace H := H.1 hc
      refine w_aload_nR (x := 58) (n := 147) rfl rfl rfl ?_
      refine w_getR (b := 68) (n := 150) rfl rfl rfl rfl rfl ?_
      refine w_iload (n := 152) rfl rfl rfl ?_
      refine w_iaload (N := 64) (j := x8.toNatClampNeg) (n := 153) rfl rfl rfl rfl rfl rfl ⟨H.1, ?_⟩
      replace H := H.2
      refine w_calli (as := [.int (I 68 x8.toNatClampNeg)]) (rest := []) (n := 156) rfl rfl rfl rfl ?_
      obtain ⟨r153, I153, hI153, H⟩ := H
      refine ⟨r153, I153, hI153, ?_⟩
      refine w_istore (ls' := [some (.ref 58), none, none, some (.int x3), none, none, some (.int x6), some (.int x7), some (.int x8), some (.int r153), none]) (n := 158) rfl rfl rfl rfl ?_
      refine w_iconst (v := 0) (n := 159) rfl rfl rfl ?_
      refine w_istore (ls' := [some (.ref 58), none, none, some (.int x3), none, none, some (.int x6), some (.int x7), some (.int x8), some (.int r153), some (.int 0)]) (n := 161) rfl rfl rfl rfl ?_
      exact w_drp mm_Qf_v H (lb_s (lb_n (lb_n (lb_s (lb_n (lb_n (lb_s (lb_s (lb_s (lb_s (lb_s lb_e)))))))))))
    · replace H := H.2 hc
      refine w_aload_nR (x := 58) (n := 131) rfl rfl rfl ?_
      refine w_aload_nR (x := 58) (n := 132) rfl rfl rfl ?_
      refine w_getR (b := 68) (n := 135) rfl rfl rfl rfl rfl ?_
      refine w_iload (n := 137) rfl rfl rfl ?_
      refine w_iaload (N := 64) (j := x8.toNatClampNeg) (n := 138) rfl rfl rfl rfl rfl rfl ⟨H.1, ?_⟩
      replace H := H.2
      refine w_iload (n := 140) rfl rfl rfl ?_
      refine w_callv (as := [.ref 58, .int (I 68 x8.toNatClampNeg), .int x7]) (rest := []) (n := 143) rfl rfl rfl rfl ?_
      obtain ⟨I140, hI140, H⟩ := H
      refine ⟨I140, hI140, ?_⟩
      refine w_goto rfl ?_
      refine w_iinc (y := x8 + 1) (ls' := [some (.ref 58), none, none, some (.int x3), none, none, some (.int x6), some (.int x7), some (.int (x8 + 1)), none, none]) (n := 198) rfl rfl rfl rfl rfl ?_
      refine w_goto rfl ?_
      exact w_drp mm_Qf_v H (lb_s (lb_n (lb_n (lb_s (lb_n (lb_n (lb_s (lb_s (lb_s (lb_n (lb_n lb_e)))))))))))
theorem c_M_putsRun_161 {P : mm_I → Prop} {I : mm_I} (x3 : Int32) (x6 : Int32) (x7 : Int32) (x8 : Int32) (x9 : Int32) (x10 : Int32)
  (H : ((x9 >>> (x3 &&& 31)) ≤ x10 →
      mm_Mv 188 [.ref 58, .int 1, .int 1] I (fun I185 =>  -- M.putsBits
      mm_Mv 188 [.ref 58, .int x9, .int x3] I185 (fun I192 =>  -- M.putsBits
      mm_W 191 117 [some (.ref 58), none, none, some (.int x3), none, none, some (.int x6), some (.int x7), some (.int (x8 + 1)), none, none] [] I192 (mm_qv 191 P)))) ∧
    (x10 < (x9 >>> (x3 &&& 31)) →
      mm_Mv 188 [.ref 58, .int 0, .int 1] I (fun I173 =>  -- M.putsBits
      mm_W 191 161 [some (.ref 58), none, none, some (.int x3), none, none, some (.int x6), some (.int x7), some (.int x8), some (.int x9), some (.int (x10 + 1))] [] I173 (mm_qv 191 P)))) : mm_W 191 161 [some (.ref 58), none, none, some (.int x3), none, none, some (.int x6), some (.int x7), some (.int x8), some (.int x9), some (.int x10)] [] I (mm_qv 191 P) := by
  refine w_iload (n := 163) rfl rfl rfl ?_
  refine w_iload (n := 165) rfl rfl rfl ?_
  refine w_iload_n (n := 166) rfl rfl rfl ?_
  refine w_ishr (n := 167) rfl rfl ?_
  refine w_icmp_ge (n := 170) rfl rfl ⟨fun hc => ?_, fun hc => ?_⟩
  · replace H := H.1 hc
    refine w_aload_nR (x := 58) (n := 183) rfl rfl rfl ?_
    refine w_iconst (v := 1) (n := 184) rfl rfl rfl ?_
    refine w_iconst (v := 1) (n := 185) rfl rfl rfl ?_
    refine w_callv (as := [.ref 58, .int 1, .int 1]) (rest := []) (n := 188) rfl rfl rfl rfl ?_
    obtain ⟨I185, hI185, H⟩ := H
    refine ⟨I185, hI185, ?_⟩
    refine w_aload_nR (x := 58) (n := 189) rfl rfl rfl ?_
    refine w_iload (n := 191) rfl rfl rfl ?_
    refine w_iload_n (n := 192) rfl rfl rfl ?_
    refine w_callv (as := [.ref 58, .int x9, .int x3]) (rest := []) (n := 195) rfl rfl rfl rfl ?_
    obtain ⟨I192, hI192, H⟩ := H
    refine ⟨I192, hI192, ?_⟩
    refine w_iinc (y := x8 + 1) (ls' := [some (.ref 58), none, none, some (.int x3), none, none, some (.int x6), some (.int x7), some (.int (x8 + 1)), some (.int x9), some (.int x10)]) (n := 198) rfl rfl rfl rfl rfl ?_
    refine w_goto rfl ?_
    exact w_drp mm_Qf_v H (lb_s (lb_n (lb_n (lb_s (lb_n (lb_n (lb_s (lb_s (lb_s (lb_n (lb_n lb_e)))))))))))
  · replace H := H.2 hc
    refine w_aload_nR (x := 58) (n := 171) rfl rfl rfl ?_
    refine w_iconst (v := 0) (n := 172) rfl rfl rfl ?_
    refine w_iconst (v := 1) (n := 173) rfl rfl rfl ?_
    refine w_callv (as := [.ref 58, .int 0, .int 1]) (rest := []) (n := 176) rfl rfl rfl rfl ?_
    obtain ⟨I173, hI173, H⟩ := H
    refine ⟨I173, hI173, ?_⟩
    refine w_iinc (y := x10 + 1) (ls' := [some (.ref 58), none, none, some (.int x3), none, none, some (.int x6), some (.int x7), some (.int x8), some (.int x9), some (.int (x10 + 1))]) (n := 179) rfl rfl rfl rfl rfl ?_
    refine w_goto rfl ?_
    exact w_drp mm_Qf_v H (lb_s (lb_n (lb_n (lb_s (lb_n (lb_n (lb_s (lb_s (lb_s (lb_s (lb_s lb_e)))))))))))
theorem e_M_putsRow {P : mm_I → Prop} {I : mm_I} (x1 : Int32) (x2 : Int32)
  (H : mm_Mv 149 [.ref 58, .int x1, .int x2] I (fun I3 =>  -- M.laysRow
    mm_Mi 168 [.ref 58, .int (I3 58 8)] I3 (fun r11 I11 =>  -- M.rowCosts
    mm_Mv 188 [.ref 58, .int (I11 58 32), .int 4] I11 (fun I21 =>  -- M.putsBits
    (¬ (I21 58 32) = 8 →
      (¬ (I21 58 32) = 9 →
        mm_Mi 144 [.int (I21 58 32), .ref 62] I21 (fun r61 I61 =>  -- M.orderOf
        mm_W 192 68 [some (.ref 58), none, none, some (.int r61), some (.int 0)] [] I61 (mm_qv 192 P))) ∧
      ((I21 58 32) = 9 →
        mm_W 192 68 [some (.ref 58), none, none, some (.int (I21 58 18)), some (.int 0)] [] I21 (mm_qv 192 P))) ∧
    ((I21 58 32) = 8 →
      mm_W 192 68 [some (.ref 58), none, none, some (.int 1), some (.int 0)] [] I21 (mm_qv 192 P)))))) : mm_Mv 192 [.ref 58, .int x1, .int x2] I P := by
  refine mm_Mv_of ?_
  show mm_W 192 0 [some (.ref 58), some (.int x1), some (.int x2), none, none] [] I (mm_qv 192 P)
  refine w_aload_nR (x := 58) (n := 1) rfl rfl rfl ?_
  refine w_iload_n (n := 2) rfl rfl rfl ?_
  refine w_iload_n (n := 3) rfl rfl rfl ?_
  refine w_callv (as := [.ref 58, .int x1, .int x2]) (rest := []) (n := 6) rfl rfl rfl rfl ?_
  obtain ⟨I3, hI3, H⟩ := H
  refine ⟨I3, hI3, ?_⟩
  refine w_aload_nR (x := 58) (n := 7) rfl rfl rfl ?_
  refine w_aload_nR (x := 58) (n := 8) rfl rfl rfl ?_
  refine w_getI (n := 11) rfl rfl rfl rfl ?_
  refine w_calli (as := [.ref 58, .int (I3 58 8)]) (rest := []) (n := 14) rfl rfl rfl rfl ?_
  obtain ⟨r11, I11, hI11, H⟩ := H
  refine ⟨r11, I11, hI11, ?_⟩
  refine w_pop (n := 15) rfl rfl rfl ?_
  refine w_aload_nR (x := 58) (n := 16) rfl rfl rfl ?_
  refine w_aload_nR (x := 58) (n := 17) rfl rfl rfl ?_
  refine w_getI (n := 20) rfl rfl rfl rfl ?_
  refine w_iconst (v := 4) (n := 21) rfl rfl rfl ?_
  refine w_callv (as := [.ref 58, .int (I11 58 32), .int 4]) (rest := []) (n := 24) rfl rfl rfl rfl ?_
  obtain ⟨I21, hI21, H⟩ := H
  refine ⟨I21, hI21, ?_⟩
  refine w_aload_nR (x := 58) (n := 25) rfl rfl rfl ?_
  refine w_getI (n := 28) rfl rfl rfl rfl ?_
  refine w_bipush (v := 8) (n := 30) rfl rfl rfl ?_
  refine w_icmp_ne (n := 33) rfl rfl ⟨fun hc => ?_, fun hc => ?_⟩
  · replace H := H.1 hc
    refine w_aload_nR (x := 58) (n := 38) rfl rfl rfl ?_
    refine w_getI (n := 41) rfl rfl rfl rfl ?_
    refine w_bipush (v := 9) (n := 43) rfl rfl rfl ?_
    refine w_icmp_ne (n := 46) rfl rfl ⟨fun hc => ?_, fun hc => ?_⟩
    · replace H := H.1 hc
      refine w_aload_nR (x := 58) (n := 54) rfl rfl rfl ?_
      refine w_getI (n := 57) rfl rfl rfl rfl ?_
      refine w_aload_nR (x := 58) (n := 58) rfl rfl rfl ?_
      refine w_getR (b := 62) (n := 61) rfl rfl rfl rfl rfl ?_
      refine w_calli (as := [.int (I21 58 32), .ref 62]) (rest := []) (n := 64) rfl rfl rfl rfl ?_
      obtain ⟨r61, I61, hI61, H⟩ := H
      refine ⟨r61, I61, hI61, ?_⟩
      refine w_istore_n (ls' := [some (.ref 58), some (.int x1), some (.int x2), some (.int r61), none]) (n := 65) rfl rfl rfl rfl ?_
      refine w_iconst (v := 0) (n := 66) rfl rfl rfl ?_
      refine w_istore (ls' := [some (.ref 58), some (.int x1), some (.int x2), some (.int r61), some (.int 0)]) (n := 68) rfl rfl rfl rfl ?_
      exact w_drp mm_Qf_v H (lb_s (lb_n (lb_n (lb_s (lb_s lb_e)))))
    · replace H := H.2 hc
      refine w_aload_nR (x := 58) (n := 47) rfl rfl rfl ?_
      refine w_getI (n := 50) rfl rfl rfl rfl ?_
      refine w_goto rfl ?_
      refine w_istore_n (ls' := [some (.ref 58), some (.int x1), some (.int x2), some (.int (I21 58 18)), none]) (n := 65) rfl rfl rfl rfl ?_
      refine w_iconst (v := 0) (n := 66) rfl rfl rfl ?_
      refine w_istore (ls' := [some (.ref 58), some (.int x1), some (.int x2), some (.int (I21 58 18)), some (.int 0)]) (n := 68) rfl rfl rfl rfl ?_
      exact w_drp mm_Qf_v H (lb_s (lb_n (lb_n (lb_s (lb_s lb_e)))))
  · replace H := H.2 hc
    refine w_iconst (v := 1) (n := 34) rfl rfl rfl ?_
    refine w_goto rfl ?_
    refine w_istore_n (ls' := [some (.ref 58), some (.int x1), some (.int x2), some (.int 1), none]) (n := 65) rfl rfl rfl rfl ?_
    refine w_iconst (v := 0) (n := 66) rfl rfl rfl ?_
    refine w_istore (ls' := [some (.ref 58), some (.int x1), some (.int x2), some (.int 1), some (.int 0)]) (n := 68) rfl rfl rfl rfl ?_
    exact w_drp mm_Qf_v H (lb_s (lb_n (lb_n (lb_s (lb_s lb_e)))))
theorem c_M_putsRow_68 {P : mm_I → Prop} {I : mm_I} (x3 : Int32) (x4 : Int32)
  (H : (x3 ≤ x4 →
      ((I 58 32) < 8 →
        mm_Mi 165 [.ref 58, .int (I 58 32)] I (fun r110 I110 =>  -- M.costs
        mm_W 192 117 [some (.ref 58), none, none, some (.int x3), some (.int 0)] [] I110 (mm_qv 192 P))) ∧
      (8 ≤ (I 58 32) →
        P I)) ∧
    (x4 < x3 →
      vp_in x4 64 ∧
      mm_Mv 188 [.ref 58, .int (I 67 x4.toNatClampNeg), .int (I 58 19)] I (fun I86 =>  -- M.putsBits
      mm_W 192 68 [some (.ref 58), none, none, some (.int x3), some (.int (x4 + 1))] [] I86 (mm_qv 192 P)))) : mm_W 192 68 [some (.ref 58), none, none, some (.int x3), some (.int x4)] [] I (mm_qv 192 P) := by
  refine w_iload (n := 70) rfl rfl rfl ?_
  refine w_iload_n (n := 71) rfl rfl rfl ?_
  refine w_icmp_ge (n := 74) rfl rfl ⟨fun hc => ?_, fun hc => ?_⟩
  · replace H := H.1 hc
    refine w_aload_nR (x := 58) (n := 96) rfl rfl rfl ?_
    refine w_getI (n := 99) rfl rfl rfl rfl ?_
    refine w_bipush (v := 8) (n := 101) rfl rfl rfl ?_
    refine w_icmp_lt (n := 104) rfl rfl ⟨fun hc => ?_, fun hc => ?_⟩
    · replace H := H.1 hc
      refine w_aload_nR (x := 58) (n := 106) rfl rfl rfl ?_
      refine w_aload_nR (x := 58) (n := 107) rfl rfl rfl ?_
      refine w_getI (n := 110) rfl rfl rfl rfl ?_
      refine w_calli (as := [.ref 58, .int (I 58 32)]) (rest := []) (n := 113) rfl rfl rfl rfl ?_
      obtain ⟨r110, I110, hI110, H⟩ := H
      refine ⟨r110, I110, hI110, ?_⟩
      refine w_pop (n := 114) rfl rfl rfl ?_
      refine w_iconst (v := 0) (n := 115) rfl rfl rfl ?_
      refine w_istore (ls' := [some (.ref 58), none, none, some (.int x3), some (.int 0)]) (n := 117) rfl rfl rfl rfl ?_
      exact w_drp mm_Qf_v H (lb_s (lb_n (lb_n (lb_s (lb_s lb_e)))))
    · replace H := H.2 hc
      exact w_vreturn rfl rfl H
  · replace H := H.2 hc
    refine w_aload_nR (x := 58) (n := 75) rfl rfl rfl ?_
    refine w_aload_nR (x := 58) (n := 76) rfl rfl rfl ?_
    refine w_getR (b := 67) (n := 79) rfl rfl rfl rfl rfl ?_
    refine w_iload (n := 81) rfl rfl rfl ?_
    refine w_iaload (N := 64) (j := x4.toNatClampNeg) (n := 82) rfl rfl rfl rfl rfl rfl ⟨H.1, ?_⟩
    replace H := H.2
    refine w_aload_nR (x := 58) (n := 83) rfl rfl rfl ?_
    refine w_getI (n := 86) rfl rfl rfl rfl ?_
    refine w_callv (as := [.ref 58, .int (I 67 x4.toNatClampNeg), .int (I 58 19)]) (rest := []) (n := 89) rfl rfl rfl rfl ?_
    obtain ⟨I86, hI86, H⟩ := H
    refine ⟨I86, hI86, ?_⟩
    refine w_iinc (y := x4 + 1) (ls' := [some (.ref 58), none, none, some (.int x3), some (.int (x4 + 1))]) (n := 92) rfl rfl rfl rfl rfl ?_
    refine w_goto rfl ?_
    exact w_drp mm_Qf_v H (lb_s (lb_n (lb_n (lb_s (lb_s lb_e)))))
theorem c_M_putsRow_117 {P : mm_I → Prop} {I : mm_I} (x3 : Int32) (x4 : Int32)
  (H : ((I 58 29) ≤ x4 →
      P I) ∧
    (x4 < (I 58 29) →
      (¬ x4 = 0 →
        vp_in (x4 - 1) 8 ∧
        True) ∧
      vp_in x4 8 ∧
      vp_in x4 8 ∧
      mm_Mv 191 [.ref 58, .int (if x4 = 0 then (0 : Int32) else (I 72 ((x4 - 1).toNatClampNeg))), .int (I 72 x4.toNatClampNeg), .int (I 73 x4.toNatClampNeg), .int x3] I (fun I160 =>  -- M.putsRun
      mm_W 192 117 [some (.ref 58), none, none, some (.int x3), some (.int (x4 + 1))] [] I160 (mm_qv 192 P)))) : mm_W 192 117 [some (.ref 58), none, none, some (.int x3), some (.int x4)] [] I (mm_qv 192 P) := by
  refine w_iload (n := 119) rfl rfl rfl ?_
  refine w_aload_nR (x := 58) (n := 120) rfl rfl rfl ?_
  refine w_getI (n := 123) rfl rfl rfl rfl ?_
  refine w_icmp_ge (n := 126) rfl rfl ⟨fun hc => ?_, fun hc => ?_⟩
  · replace H := H.1 hc
    exact w_vreturn rfl rfl H
  · replace H := H.2 hc
    refine w_aload_nR (x := 58) (n := 127) rfl rfl rfl ?_
    refine w_iload (n := 129) rfl rfl rfl ?_
    obtain ⟨K1, H⟩ := H
    have J129 : ∀ (w129_1 : Int32), w129_1 = (if x4 = 0 then (0 : Int32) else (I 72 ((x4 - 1).toNatClampNeg))) → mm_W 192 145 [some (.ref 58), none, none, some (.int x3), some (.int x4)] [.int w129_1, .ref 58] I (mm_qv 192 P) := by
      intro w129_1 e129_0
      subst e129_0
      refine w_aload_nR (x := 58) (n := 146) rfl rfl rfl ?_
      refine w_getR (b := 72) (n := 149) rfl rfl rfl rfl rfl ?_
      refine w_iload (n := 151) rfl rfl rfl ?_
      refine w_iaload (N := 8) (j := x4.toNatClampNeg) (n := 152) rfl rfl rfl rfl rfl rfl ⟨H.1, ?_⟩
      replace H := H.2
      refine w_aload_nR (x := 58) (n := 153) rfl rfl rfl ?_
      refine w_getR (b := 73) (n := 156) rfl rfl rfl rfl rfl ?_
      refine w_iload (n := 158) rfl rfl rfl ?_
      refine w_iaload (N := 8) (j := x4.toNatClampNeg) (n := 159) rfl rfl rfl rfl rfl rfl ⟨H.1, ?_⟩
      replace H := H.2
      refine w_iload_n (n := 160) rfl rfl rfl ?_
      refine w_callv (as := [.ref 58, .int (if x4 = 0 then (0 : Int32) else (I 72 ((x4 - 1).toNatClampNeg))), .int (I 72 x4.toNatClampNeg), .int (I 73 x4.toNatClampNeg), .int x3]) (rest := []) (n := 163) rfl rfl rfl rfl ?_
      obtain ⟨I160, hI160, H⟩ := H
      refine ⟨I160, hI160, ?_⟩
      refine w_iinc (y := x4 + 1) (ls' := [some (.ref 58), none, none, some (.int x3), some (.int (x4 + 1))]) (n := 166) rfl rfl rfl rfl rfl ?_
      refine w_goto rfl ?_
      exact w_drp mm_Qf_v H (lb_s (lb_n (lb_n (lb_s (lb_s lb_e)))))
    refine w_if_ne (n := 132) rfl rfl ⟨fun hc => ?_, fun hc => ?_⟩
    · have H := K1 hc
      refine w_aload_nR (x := 58) (n := 137) rfl rfl rfl ?_
      refine w_getR (b := 72) (n := 140) rfl rfl rfl rfl rfl ?_
      refine w_iload (n := 142) rfl rfl rfl ?_
      refine w_iconst (v := 1) (n := 143) rfl rfl rfl ?_
      refine w_isub (n := 144) rfl rfl ?_
      refine w_iaload (N := 8) (j := (x4 - 1).toNatClampNeg) (n := 145) rfl rfl rfl rfl rfl rfl ⟨H.1, ?_⟩
      replace H := H.2
      refine w_drp mm_Qf_v (J129 _ ?_) (lb_s (lb_n (lb_n (lb_s (lb_s lb_e)))))
      · exact (if_neg hc).symm
    · refine w_iconst (v := 0) (n := 133) rfl rfl rfl ?_
      refine w_goto rfl ?_
      refine w_drp mm_Qf_v (J129 _ ?_) (lb_s (lb_n (lb_n (lb_s (lb_s lb_e)))))
      · exact (if_pos hc).symm
theorem e_M_pack {P : Int32 → mm_I → Prop} {I : mm_I}
  (H : mm_Mi 146 [.ref 58] (mm_up I 58 16 0) (fun r6 I6 =>  -- M.isReady
    (¬ r6 = 0 →
      mm_Mv 187 [.ref 58, .int 83] (mm_up I6 58 15 0) (fun I22 =>  -- M.putsByte
      mm_Mv 187 [.ref 58, .int 80] I22 (fun I28 =>  -- M.putsByte
      mm_Mv 187 [.ref 58, .int (I28 58 4)] I28 (fun I36 =>  -- M.putsByte
      mm_Mv 187 [.ref 58, .int (I36 58 5)] I36 (fun I44 =>  -- M.putsByte
      mm_Mv 187 [.ref 58, .int (I44 58 6)] I44 (fun I52 =>  -- M.putsByte
      mm_Mv 187 [.ref 58, .int ((I52 61 0) / 256)] I52 (fun I66 =>  -- M.putsByte
      mm_Mv 187 [.ref 58, .int ((I66 61 0) - (I66 61 0) / 256 * 256)] I66 (fun I80 =>  -- M.putsByte
      mm_W 193 85 [some (.ref 58), some (.int 0), none, none, none] [] I80 (mm_qi 193 P))))))))) ∧
    (r6 = 0 →
      P (-1) I6))) : mm_Mi 193 [.ref 58] I P := by
  refine mm_Mi_of ?_
  show mm_W 193 0 [some (.ref 58), none, none, none, none] [] I (mm_qi 193 P)
  refine w_aload_nR (x := 58) (n := 1) rfl rfl rfl ?_
  refine w_iconst (v := 0) (n := 2) rfl rfl rfl ?_
  refine w_putI (n := 5) rfl rfl rfl rfl rfl ?_
  refine w_aload_nR (x := 58) (n := 6) rfl rfl rfl ?_
  refine w_calli (as := [.ref 58]) (rest := []) (n := 9) rfl rfl rfl rfl ?_
  obtain ⟨r6, I6, hI6, H⟩ := H
  refine ⟨r6, I6, hI6, ?_⟩
  refine w_if_ne (n := 12) rfl rfl ⟨fun hc => ?_, fun hc => ?_⟩
  · replace H := H.1 hc
    refine w_aload_nR (x := 58) (n := 15) rfl rfl rfl ?_
    refine w_iconst (v := 0) (n := 16) rfl rfl rfl ?_
    refine w_putI (n := 19) rfl rfl rfl rfl rfl ?_
    refine w_aload_nR (x := 58) (n := 20) rfl rfl rfl ?_
    refine w_bipush (v := 83) (n := 22) rfl rfl rfl ?_
    refine w_callv (as := [.ref 58, .int 83]) (rest := []) (n := 25) rfl rfl rfl rfl ?_
    obtain ⟨I22, hI22, H⟩ := H
    refine ⟨I22, hI22, ?_⟩
    refine w_aload_nR (x := 58) (n := 26) rfl rfl rfl ?_
    refine w_bipush (v := 80) (n := 28) rfl rfl rfl ?_
    refine w_callv (as := [.ref 58, .int 80]) (rest := []) (n := 31) rfl rfl rfl rfl ?_
    obtain ⟨I28, hI28, H⟩ := H
    refine ⟨I28, hI28, ?_⟩
    refine w_aload_nR (x := 58) (n := 32) rfl rfl rfl ?_
    refine w_aload_nR (x := 58) (n := 33) rfl rfl rfl ?_
    refine w_getI (n := 36) rfl rfl rfl rfl ?_
    refine w_callv (as := [.ref 58, .int (I28 58 4)]) (rest := []) (n := 39) rfl rfl rfl rfl ?_
    obtain ⟨I36, hI36, H⟩ := H
    refine ⟨I36, hI36, ?_⟩
    refine w_aload_nR (x := 58) (n := 40) rfl rfl rfl ?_
    refine w_aload_nR (x := 58) (n := 41) rfl rfl rfl ?_
    refine w_getI (n := 44) rfl rfl rfl rfl ?_
    refine w_callv (as := [.ref 58, .int (I36 58 5)]) (rest := []) (n := 47) rfl rfl rfl rfl ?_
    obtain ⟨I44, hI44, H⟩ := H
    refine ⟨I44, hI44, ?_⟩
    refine w_aload_nR (x := 58) (n := 48) rfl rfl rfl ?_
    refine w_aload_nR (x := 58) (n := 49) rfl rfl rfl ?_
    refine w_getI (n := 52) rfl rfl rfl rfl ?_
    refine w_callv (as := [.ref 58, .int (I44 58 6)]) (rest := []) (n := 55) rfl rfl rfl rfl ?_
    obtain ⟨I52, hI52, H⟩ := H
    refine ⟨I52, hI52, ?_⟩
    refine w_aload_nR (x := 58) (n := 56) rfl rfl rfl ?_
    refine w_aload_nR (x := 58) (n := 57) rfl rfl rfl ?_
    refine w_getR (b := 61) (n := 60) rfl rfl rfl rfl rfl ?_
    refine w_iconst (v := 0) (n := 61) rfl rfl rfl ?_
    refine w_iaload (N := 2) (j := 0) (n := 62) rfl rfl rfl rfl (by decide) rfl ⟨mm_vpc (by decide), ?_⟩
    refine w_sipush (v := 256) (n := 65) rfl rfl rfl ?_
    refine w_idiv (n := 66) rfl rfl ⟨by decide, ?_⟩
    refine w_callv (as := [.ref 58, .int ((I52 61 0) / 256)]) (rest := []) (n := 69) rfl rfl rfl rfl ?_
    obtain ⟨I66, hI66, H⟩ := H
    refine ⟨I66, hI66, ?_⟩
    refine w_aload_nR (x := 58) (n := 70) rfl rfl rfl ?_
    refine w_aload_nR (x := 58) (n := 71) rfl rfl rfl ?_
    refine w_getR (b := 61) (n := 74) rfl rfl rfl rfl rfl ?_
    refine w_iconst (v := 0) (n := 75) rfl rfl rfl ?_
    refine w_iaload (N := 2) (j := 0) (n := 76) rfl rfl rfl rfl (by decide) rfl ⟨mm_vpc (by decide), ?_⟩
    refine w_sipush (v := 256) (n := 79) rfl rfl rfl ?_
    refine w_irem (n := 80) rfl rfl ⟨by decide, ?_⟩
    refine w_callv (as := [.ref 58, .int ((I66 61 0) - (I66 61 0) / 256 * 256)]) (rest := []) (n := 83) rfl rfl rfl rfl ?_
    obtain ⟨I80, hI80, H⟩ := H
    refine ⟨I80, hI80, ?_⟩
    refine w_iconst (v := 0) (n := 84) rfl rfl rfl ?_
    refine w_istore_n (ls' := [some (.ref 58), some (.int 0), none, none, none]) (n := 85) rfl rfl rfl rfl ?_
    exact w_drp mm_Qf_i H (lb_s (lb_s (lb_n (lb_n (lb_n lb_e)))))
  · replace H := H.2 hc
    refine w_iconst (v := (-1)) (n := 13) rfl rfl rfl ?_
    exact w_ireturn rfl rfl H
theorem c_M_pack_85 {P : Int32 → mm_I → Prop} {I : mm_I} (x1 : Int32)
  (H : (3 ≤ x1 →
      mm_Mv 190 [.ref 58, .int 0] I (fun I135 =>  -- M.putsCheck
      mm_W 193 140 [some (.ref 58), some (.int 0), none, none, none] [] I135 (mm_qi 193 P))) ∧
    (x1 < 3 →
      mm_W 193 92 [some (.ref 58), some (.int x1), some (.int 0), none, none] [] I (mm_qi 193 P))) : mm_W 193 85 [some (.ref 58), some (.int x1), none, none, none] [] I (mm_qi 193 P) := by
  refine w_iload_n (n := 86) rfl rfl rfl ?_
  refine w_iconst (v := 3) (n := 87) rfl rfl rfl ?_
  refine w_icmp_ge (n := 90) rfl rfl ⟨fun hc => ?_, fun hc => ?_⟩
  · replace H := H.1 hc
    refine w_aload_nR (x := 58) (n := 134) rfl rfl rfl ?_
    refine w_iconst (v := 0) (n := 135) rfl rfl rfl ?_
    refine w_callv (as := [.ref 58, .int 0]) (rest := []) (n := 138) rfl rfl rfl rfl ?_
    obtain ⟨I135, hI135, H⟩ := H
    refine ⟨I135, hI135, ?_⟩
    refine w_iconst (v := 0) (n := 139) rfl rfl rfl ?_
    refine w_istore_n (ls' := [some (.ref 58), some (.int 0), none, none, none]) (n := 140) rfl rfl rfl rfl ?_
    exact w_drp mm_Qf_i H (lb_s (lb_s (lb_n (lb_n (lb_n lb_e)))))
  · replace H := H.2 hc
    refine w_iconst (v := 0) (n := 91) rfl rfl rfl ?_
    refine w_istore_n (ls' := [some (.ref 58), some (.int x1), some (.int 0), none, none]) (n := 92) rfl rfl rfl rfl ?_
    exact w_drp mm_Qf_i H (lb_s (lb_s (lb_s (lb_n (lb_n lb_e)))))
theorem c_M_pack_140 {P : Int32 → mm_I → Prop} {I : mm_I} (x1 : Int32)
  (H : mm_Mi 147 [.ref 58] I (fun r142 I142 =>  -- M.frames
    (r142 ≤ x1 →
      P (I142 58 15) I142) ∧
    (x1 < r142 →
      mm_Mv 187 [.ref 58, .int 165] I142 (fun I157 =>  -- M.putsByte
      mm_Mv 187 [.ref 58, .int x1] I157 (fun I162 =>  -- M.putsByte
      mm_Mi 172 [.ref 58, .int x1, .int (I162 58 8)] I162 (fun r171 I171 =>  -- M.joinOf
      (¬ (I171 58 4) = 2 →
        mm_W 193 192 [some (.ref 58), some (.int x1), some (.int (I142 58 15)), some (.int r171), some (.int 0)] [] I171 (mm_qi 193 P)) ∧
      ((I171 58 4) = 2 →
        mm_Mv 188 [.ref 58, .int r171, .int 2] I171 (fun I186 =>  -- M.putsBits
        mm_W 193 192 [some (.ref 58), some (.int x1), some (.int (I142 58 15)), some (.int r171), some (.int 0)] [] I186 (mm_qi 193 P))))))))) : mm_W 193 140 [some (.ref 58), some (.int x1), none, none, none] [] I (mm_qi 193 P) := by
  refine w_iload_n (n := 141) rfl rfl rfl ?_
  refine w_aload_nR (x := 58) (n := 142) rfl rfl rfl ?_
  refine w_calli (as := [.ref 58]) (rest := [.int x1]) (n := 145) rfl rfl rfl rfl ?_
  obtain ⟨r142, I142, hI142, H⟩ := H
  refine ⟨r142, I142, hI142, ?_⟩
  refine w_icmp_ge (n := 148) rfl rfl ⟨fun hc => ?_, fun hc => ?_⟩
  · replace H := H.1 hc
    refine w_aload_nR (x := 58) (n := 230) rfl rfl rfl ?_
    refine w_getI (n := 233) rfl rfl rfl rfl ?_
    exact w_ireturn rfl rfl H
  · replace H := H.2 hc
    refine w_aload_nR (x := 58) (n := 149) rfl rfl rfl ?_
    refine w_getI (n := 152) rfl rfl rfl rfl ?_
    refine w_istore_n (ls' := [some (.ref 58), some (.int x1), some (.int (I142 58 15)), none, none]) (n := 153) rfl rfl rfl rfl ?_
    refine w_aload_nR (x := 58) (n := 154) rfl rfl rfl ?_
    refine w_sipush (v := 165) (n := 157) rfl rfl rfl ?_
    refine w_callv (as := [.ref 58, .int 165]) (rest := []) (n := 160) rfl rfl rfl rfl ?_
    obtain ⟨I157, hI157, H⟩ := H
    refine ⟨I157, hI157, ?_⟩
    refine w_aload_nR (x := 58) (n := 161) rfl rfl rfl ?_
    refine w_iload_n (n := 162) rfl rfl rfl ?_
    refine w_callv (as := [.ref 58, .int x1]) (rest := []) (n := 165) rfl rfl rfl rfl ?_
    obtain ⟨I162, hI162, H⟩ := H
    refine ⟨I162, hI162, ?_⟩
    refine w_aload_nR (x := 58) (n := 166) rfl rfl rfl ?_
    refine w_iload_n (n := 167) rfl rfl rfl ?_
    refine w_aload_nR (x := 58) (n := 168) rfl rfl rfl ?_
    refine w_getI (n := 171) rfl rfl rfl rfl ?_
    refine w_calli (as := [.ref 58, .int x1, .int (I162 58 8)]) (rest := []) (n := 174) rfl rfl rfl rfl ?_
    obtain ⟨r171, I171, hI171, H⟩ := H
    refine ⟨r171, I171, hI171, ?_⟩
    refine w_istore_n (ls' := [some (.ref 58), some (.int x1), some (.int (I142 58 15)), some (.int r171), none]) (n := 175) rfl rfl rfl rfl ?_
    refine w_aload_nR (x := 58) (n := 176) rfl rfl rfl ?_
    refine w_getI (n := 179) rfl rfl rfl rfl ?_
    refine w_iconst (v := 2) (n := 180) rfl rfl rfl ?_
    refine w_icmp_ne (n := 183) rfl rfl ⟨fun hc => ?_, fun hc => ?_⟩
    · replace H := H.1 hc
      refine w_iconst (v := 0) (n := 190) rfl rfl rfl ?_
      refine w_istore (ls' := [some (.ref 58), some (.int x1), some (.int (I142 58 15)), some (.int r171), some (.int 0)]) (n := 192) rfl rfl rfl rfl ?_
      exact w_drp mm_Qf_i H (lb_s (lb_s (lb_s (lb_s (lb_s lb_e)))))
    · replace H := H.2 hc
      refine w_aload_nR (x := 58) (n := 184) rfl rfl rfl ?_
      refine w_iload_n (n := 185) rfl rfl rfl ?_
      refine w_iconst (v := 2) (n := 186) rfl rfl rfl ?_
      refine w_callv (as := [.ref 58, .int r171, .int 2]) (rest := []) (n := 189) rfl rfl rfl rfl ?_
      obtain ⟨I186, hI186, H⟩ := H
      refine ⟨I186, hI186, ?_⟩
      refine w_iconst (v := 0) (n := 190) rfl rfl rfl ?_
      refine w_istore (ls' := [some (.ref 58), some (.int x1), some (.int (I142 58 15)), some (.int r171), some (.int 0)]) (n := 192) rfl rfl rfl rfl ?_
      exact w_drp mm_Qf_i H (lb_s (lb_s (lb_s (lb_s (lb_s lb_e)))))
theorem c_M_pack_92 {P : Int32 → mm_I → Prop} {I : mm_I} (x1 : Int32) (x2 : Int32)
  (H : (3 ≤ x2 →
      vp_in x1 3 ∧
      mm_Mv 187 [.ref 58, .int (I 63 x1.toNatClampNeg)] I (fun I124 =>  -- M.putsByte
      mm_W 193 85 [some (.ref 58), some (.int (x1 + 1)), none, none, none] [] I124 (mm_qi 193 P))) ∧
    (x2 < 3 →
      vp_in ((3 * x1) + x2) 9 ∧
      mm_Mv 187 [.ref 58, .int (I 62 (((3 * x1) + x2).toNatClampNeg))] I (fun I108 =>  -- M.putsByte
      mm_W 193 92 [some (.ref 58), some (.int x1), some (.int (x2 + 1)), none, none] [] I108 (mm_qi 193 P)))) : mm_W 193 92 [some (.ref 58), some (.int x1), some (.int x2), none, none] [] I (mm_qi 193 P) := by
  refine w_iload_n (n := 93) rfl rfl rfl ?_
  refine w_iconst (v := 3) (n := 94) rfl rfl rfl ?_
  refine w_icmp_ge (n := 97) rfl rfl ⟨fun hc => ?_, fun hc => ?_⟩
  · replace H := H.1 hc
    refine w_aload_nR (x := 58) (n := 118) rfl rfl rfl ?_
    refine w_aload_nR (x := 58) (n := 119) rfl rfl rfl ?_
    refine w_getR (b := 63) (n := 122) rfl rfl rfl rfl rfl ?_
    refine w_iload_n (n := 123) rfl rfl rfl ?_
    refine w_iaload (N := 3) (j := x1.toNatClampNeg) (n := 124) rfl rfl rfl rfl rfl rfl ⟨H.1, ?_⟩
    replace H := H.2
    refine w_callv (as := [.ref 58, .int (I 63 x1.toNatClampNeg)]) (rest := []) (n := 127) rfl rfl rfl rfl ?_
    obtain ⟨I124, hI124, H⟩ := H
    refine ⟨I124, hI124, ?_⟩
    refine w_iinc (y := x1 + 1) (ls' := [some (.ref 58), some (.int (x1 + 1)), some (.int x2), none, none]) (n := 130) rfl rfl rfl rfl rfl ?_
    refine w_goto rfl ?_
    exact w_drp mm_Qf_i H (lb_s (lb_s (lb_n (lb_n (lb_n lb_e)))))
  · replace H := H.2 hc
    refine w_aload_nR (x := 58) (n := 98) rfl rfl rfl ?_
    refine w_aload_nR (x := 58) (n := 99) rfl rfl rfl ?_
    refine w_getR (b := 62) (n := 102) rfl rfl rfl rfl rfl ?_
    refine w_iconst (v := 3) (n := 103) rfl rfl rfl ?_
    refine w_iload_n (n := 104) rfl rfl rfl ?_
    refine w_imul (n := 105) rfl rfl ?_
    refine w_iload_n (n := 106) rfl rfl rfl ?_
    refine w_iadd (n := 107) rfl rfl ?_
    refine w_iaload (N := 9) (j := ((3 * x1) + x2).toNatClampNeg) (n := 108) rfl rfl rfl rfl rfl rfl ⟨H.1, ?_⟩
    replace H := H.2
    refine w_callv (as := [.ref 58, .int (I 62 (((3 * x1) + x2).toNatClampNeg))]) (rest := []) (n := 111) rfl rfl rfl rfl ?_
    obtain ⟨I108, hI108, H⟩ := H
    refine ⟨I108, hI108, ?_⟩
    refine w_iinc (y := x2 + 1) (ls' := [some (.ref 58), some (.int x1), some (.int (x2 + 1)), none, none]) (n := 114) rfl rfl rfl rfl rfl ?_
    refine w_goto rfl ?_
    exact w_drp mm_Qf_i H (lb_s (lb_s (lb_s (lb_n (lb_n lb_e)))))
theorem c_M_pack_192 {P : Int32 → mm_I → Prop} {I : mm_I} (x1 : Int32) (x2 : Int32) (x3 : Int32) (x4 : Int32)
  (H : ((I 58 4) ≤ x4 →
      mm_Mv 190 [.ref 58, .int x2] I (fun I220 =>  -- M.putsCheck
      mm_W 193 140 [some (.ref 58), some (.int (x1 + 1)), none, none, none] [] I220 (mm_qi 193 P))) ∧
    (x4 < (I 58 4) →
      mm_Mi 150 [.int x3, .int x4] I (fun r206 I206 =>  -- M.sortOf
      mm_Mv 192 [.ref 58, .int x1, .int r206] I206 (fun I209 =>  -- M.putsRow
      mm_W 193 192 [some (.ref 58), some (.int x1), some (.int x2), some (.int x3), some (.int (x4 + 1))] [] I209 (mm_qi 193 P))))) : mm_W 193 192 [some (.ref 58), some (.int x1), some (.int x2), some (.int x3), some (.int x4)] [] I (mm_qi 193 P) := by
  refine w_iload (n := 194) rfl rfl rfl ?_
  refine w_aload_nR (x := 58) (n := 195) rfl rfl rfl ?_
  refine w_getI (n := 198) rfl rfl rfl rfl ?_
  refine w_icmp_ge (n := 201) rfl rfl ⟨fun hc => ?_, fun hc => ?_⟩
  · replace H := H.1 hc
    refine w_aload_nR (x := 58) (n := 219) rfl rfl rfl ?_
    refine w_iload_n (n := 220) rfl rfl rfl ?_
    refine w_callv (as := [.ref 58, .int x2]) (rest := []) (n := 223) rfl rfl rfl rfl ?_
    obtain ⟨I220, hI220, H⟩ := H
    refine ⟨I220, hI220, ?_⟩
    refine w_iinc (y := x1 + 1) (ls' := [some (.ref 58), some (.int (x1 + 1)), some (.int x2), some (.int x3), some (.int x4)]) (n := 226) rfl rfl rfl rfl rfl ?_
    refine w_goto rfl ?_
    exact w_drp mm_Qf_i H (lb_s (lb_s (lb_n (lb_n (lb_n lb_e)))))
  · replace H := H.2 hc
    refine w_aload_nR (x := 58) (n := 202) rfl rfl rfl ?_
    refine w_iload_n (n := 203) rfl rfl rfl ?_
    refine w_iload_n (n := 204) rfl rfl rfl ?_
    refine w_iload (n := 206) rfl rfl rfl ?_
    refine w_calli (as := [.int x3, .int x4]) (rest := [.int x1, .ref 58]) (n := 209) rfl rfl rfl rfl ?_
    obtain ⟨r206, I206, hI206, H⟩ := H
    refine ⟨r206, I206, hI206, ?_⟩
    refine w_callv (as := [.ref 58, .int x1, .int r206]) (rest := []) (n := 212) rfl rfl rfl rfl ?_
    obtain ⟨I209, hI209, H⟩ := H
    refine ⟨I209, hI209, ?_⟩
    refine w_iinc (y := x4 + 1) (ls' := [some (.ref 58), some (.int x1), some (.int x2), some (.int x3), some (.int (x4 + 1))]) (n := 215) rfl rfl rfl rfl rfl ?_
    refine w_goto rfl ?_
    exact w_drp mm_Qf_i H (lb_s (lb_s (lb_s (lb_s (lb_s lb_e)))))
theorem e_M_store {P : Int32 → mm_I → Prop} {I : mm_I} (x1 : Int32)
  (H : mm_Mi 125 [.int x1, .int 0, .int ((I 58 15) - 1)] (mm_up I 58 16 0) (fun r13 I13 =>  -- M.within
    (¬ r13 = 0 →
      vp_in x1 4000 ∧
      True) ∧
    P (if r13 = 0 then ((-1) : Int32) else (I13 66 x1.toNatClampNeg)) I13)) : mm_Mi 194 [.ref 58, .int x1] I P := by
  refine mm_Mi_of ?_
  show mm_W 194 0 [some (.ref 58), some (.int x1)] [] I (mm_qi 194 P)
  refine w_aload_nR (x := 58) (n := 1) rfl rfl rfl ?_
  refine w_iconst (v := 0) (n := 2) rfl rfl rfl ?_
  refine w_putI (n := 5) rfl rfl rfl rfl rfl ?_
  refine w_iload_n (n := 6) rfl rfl rfl ?_
  refine w_iconst (v := 0) (n := 7) rfl rfl rfl ?_
  refine w_aload_nR (x := 58) (n := 8) rfl rfl rfl ?_
  refine w_getI (n := 11) rfl rfl rfl rfl ?_
  refine w_iconst (v := 1) (n := 12) rfl rfl rfl ?_
  refine w_isub (n := 13) rfl rfl ?_
  refine w_calli (as := [.int x1, .int 0, .int ((I 58 15) - 1)]) (rest := []) (n := 16) rfl rfl rfl rfl ?_
  obtain ⟨r13, I13, hI13, H⟩ := H
  refine ⟨r13, I13, hI13, ?_⟩
  obtain ⟨K2, H⟩ := H
  have J16 : ∀ (w16_0 : Int32), w16_0 = (if r13 = 0 then ((-1) : Int32) else (I13 66 x1.toNatClampNeg)) → mm_W 194 29 [some (.ref 58), some (.int x1)] [.int w16_0] I13 (mm_qi 194 P) := by
    intro w16_0 e16_0
    subst e16_0
    exact w_ireturn rfl rfl H
  refine w_if_eq (n := 19) rfl rfl ⟨fun hc => ?_, fun hc => ?_⟩
  · refine w_iconst (v := (-1)) (n := 29) rfl rfl rfl ?_
    refine w_drp mm_Qf_i (J16 _ ?_) (lb_s (lb_s lb_e))
    · exact (if_pos hc).symm
  · have H := K2 hc
    refine w_aload_nR (x := 58) (n := 20) rfl rfl rfl ?_
    refine w_getR (b := 66) (n := 23) rfl rfl rfl rfl rfl ?_
    refine w_iload_n (n := 24) rfl rfl rfl ?_
    refine w_iaload (N := 4000) (j := x1.toNatClampNeg) (n := 25) rfl rfl rfl rfl rfl rfl ⟨H.1, ?_⟩
    replace H := H.2
    refine w_goto rfl ?_
    refine w_drp mm_Qf_i (J16 _ ?_) (lb_s (lb_s lb_e))
    · exact (if_neg hc).symm
theorem e_M_spoil {P : Int32 → mm_I → Prop} {I : mm_I} (x1 : Int32) (x2 : Int32)
  (H : mm_Mi 125 [.int x1, .int 0, .int ((I 58 15) - 1)] (mm_up I 58 16 0) (fun r13 I13 =>  -- M.within
    (r13 = 0 →
      P (-1) I13) ∧
    (¬ r13 = 0 →
      mm_Mi 125 [.int x2, .int 1, .int 255] I13 (fun r24 I24 =>  -- M.within
      (¬ r24 = 0 →
        vp_in x1 4000 ∧
        vp_in x1 4000 ∧
        vp_in x1 4000 ∧
        P ((mm_up I24 66 x1.toNatClampNeg ((I24 66 x1.toNatClampNeg) ^^^ x2)) 66 x1.toNatClampNeg) (mm_up I24 66 x1.toNatClampNeg ((I24 66 x1.toNatClampNeg) ^^^ x2))) ∧
      (r24 = 0 →
        P (-1) I24))))) : mm_Mi 195 [.ref 58, .int x1, .int x2] I P := by
  refine mm_Mi_of ?_
  show mm_W 195 0 [some (.ref 58), some (.int x1), some (.int x2)] [] I (mm_qi 195 P)
  refine w_aload_nR (x := 58) (n := 1) rfl rfl rfl ?_
  refine w_iconst (v := 0) (n := 2) rfl rfl rfl ?_
  refine w_putI (n := 5) rfl rfl rfl rfl rfl ?_
  refine w_iload_n (n := 6) rfl rfl rfl ?_
  refine w_iconst (v := 0) (n := 7) rfl rfl rfl ?_
  refine w_aload_nR (x := 58) (n := 8) rfl rfl rfl ?_
  refine w_getI (n := 11) rfl rfl rfl rfl ?_
  refine w_iconst (v := 1) (n := 12) rfl rfl rfl ?_
  refine w_isub (n := 13) rfl rfl ?_
  refine w_calli (as := [.int x1, .int 0, .int ((I 58 15) - 1)]) (rest := []) (n := 16) rfl rfl rfl rfl ?_
  obtain ⟨r13, I13, hI13, H⟩ := H
  refine ⟨r13, I13, hI13, ?_⟩
  refine w_if_eq (n := 19) rfl rfl ⟨fun hc => ?_, fun hc => ?_⟩
  · replace H := H.1 hc
    refine w_iconst (v := (-1)) (n := 31) rfl rfl rfl ?_
    exact w_ireturn rfl rfl H
  · replace H := H.2 hc
    refine w_iload_n (n := 20) rfl rfl rfl ?_
    refine w_iconst (v := 1) (n := 21) rfl rfl rfl ?_
    refine w_sipush (v := 255) (n := 24) rfl rfl rfl ?_
    refine w_calli (as := [.int x2, .int 1, .int 255]) (rest := []) (n := 27) rfl rfl rfl rfl ?_
    obtain ⟨r24, I24, hI24, H⟩ := H
    refine ⟨r24, I24, hI24, ?_⟩
    refine w_if_ne (n := 30) rfl rfl ⟨fun hc => ?_, fun hc => ?_⟩
    · replace H := H.1 hc
      refine w_aload_nR (x := 58) (n := 33) rfl rfl rfl ?_
      refine w_getR (b := 66) (n := 36) rfl rfl rfl rfl rfl ?_
      refine w_iload_n (n := 37) rfl rfl rfl ?_
      refine w_dup2 (n := 38) rfl rfl rfl ?_
      refine w_iaload (N := 4000) (j := x1.toNatClampNeg) (n := 39) rfl rfl rfl rfl rfl rfl ⟨H.1, ?_⟩
      replace H := H.2
      refine w_iload_n (n := 40) rfl rfl rfl ?_
      refine w_ixor (n := 41) rfl rfl ?_
      refine w_iastore (N := 4000) (j := x1.toNatClampNeg) (n := 42) rfl rfl rfl rfl rfl ⟨H.1, ?_⟩
      replace H := H.2
      refine w_aload_nR (x := 58) (n := 43) rfl rfl rfl ?_
      refine w_getR (b := 66) (n := 46) rfl rfl rfl rfl rfl ?_
      refine w_iload_n (n := 47) rfl rfl rfl ?_
      refine w_iaload (N := 4000) (j := x1.toNatClampNeg) (n := 48) rfl rfl rfl rfl rfl rfl ⟨H.1, ?_⟩
      replace H := H.2
      exact w_ireturn rfl rfl H
    · replace H := H.2 hc
      refine w_iconst (v := (-1)) (n := 31) rfl rfl rfl ?_
      exact w_ireturn rfl rfl H
theorem e_M_drop {P : Int32 → mm_I → Prop} {I : mm_I} (x1 : Int32)
  (H : mm_Mi 125 [.int x1, .int 0, .int (I 58 15)] (mm_up I 58 16 0) (fun r11 I11 =>  -- M.within
    (¬ r11 = 0 →
      P ((I11 58 15) - x1) (mm_up I11 58 15 ((I11 58 15) - x1))) ∧
    (r11 = 0 →
      P (-1) I11))) : mm_Mi 196 [.ref 58, .int x1] I P := by
  refine mm_Mi_of ?_
  show mm_W 196 0 [some (.ref 58), some (.int x1)] [] I (mm_qi 196 P)
  refine w_aload_nR (x := 58) (n := 1) rfl rfl rfl ?_
  refine w_iconst (v := 0) (n := 2) rfl rfl rfl ?_
  refine w_putI (n := 5) rfl rfl rfl rfl rfl ?_
  refine w_iload_n (n := 6) rfl rfl rfl ?_
  refine w_iconst (v := 0) (n := 7) rfl rfl rfl ?_
  refine w_aload_nR (x := 58) (n := 8) rfl rfl rfl ?_
  refine w_getI (n := 11) rfl rfl rfl rfl ?_
  refine w_calli (as := [.int x1, .int 0, .int (I 58 15)]) (rest := []) (n := 14) rfl rfl rfl rfl ?_
  obtain ⟨r11, I11, hI11, H⟩ := H
  refine ⟨r11, I11, hI11, ?_⟩
  refine w_if_ne (n := 17) rfl rfl ⟨fun hc => ?_, fun hc => ?_⟩
  · replace H := H.1 hc
    refine w_aload_nR (x := 58) (n := 20) rfl rfl rfl ?_
    refine w_dup (n := 21) rfl rfl rfl ?_
    refine w_getI (n := 24) rfl rfl rfl rfl ?_
    refine w_iload_n (n := 25) rfl rfl rfl ?_
    refine w_isub (n := 26) rfl rfl ?_
    refine w_putI (n := 29) rfl rfl rfl rfl rfl ?_
    refine w_aload_nR (x := 58) (n := 30) rfl rfl rfl ?_
    refine w_getI (n := 33) rfl rfl rfl rfl ?_
    exact w_ireturn rfl rfl H
  · replace H := H.2 hc
    refine w_iconst (v := (-1)) (n := 18) rfl rfl rfl ?_
    exact w_ireturn rfl rfl H
