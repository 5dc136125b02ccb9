theorem e_Reader_readSplit {P : Int32 → mm_I → Prop} {I : mm_I} (x1 : Int32)
  (H : mm_W 30 2 [some (.ref 46), some (.int x1), some (.int 0), none] [] I (mm_qi 30 P)) : mm_Mi 30 [.ref 46, .int x1] I P := by
  refine mm_Mi_of ?_
  show mm_W 30 0 [some (.ref 46), some (.int x1), none, none] [] I (mm_qi 30 P)
  refine w_iconst (v := 0) (n := 1) rfl rfl rfl ?_
  refine w_istore_n (ls' := [some (.ref 46), some (.int x1), some (.int 0), none]) (n := 2) rfl rfl rfl rfl ?_
  exact w_drp mm_Qf_i H (lb_s (lb_s (lb_s (lb_n lb_e))))
theorem c_Reader_readSplit_2 {P : Int32 → mm_I → Prop} {I : mm_I} (x1 : Int32) (x2 : Int32)
  (H : (32000 ≤ x2 →
      mm_Mi 28 [.ref 46, .int x1] I (fun r35 I35 =>  -- Reader.readBits
      P (if (((x2 <<< (x1 &&& 31)) + r35) &&& 1) = 0 then (((x2 <<< (x1 &&& 31)) + r35) >>> (1 &&& 31) : Int32) else (-(((x2 <<< (x1 &&& 31)) + r35) >>> (1 &&& 31))) - 1) I35)) ∧
    (x2 < 32000 →
      (¬ (I 46 7) = 0 →
        mm_Mi 28 [.ref 46, .int x1] I (fun r35 I35 =>  -- Reader.readBits
        P (if (((x2 <<< (x1 &&& 31)) + r35) &&& 1) = 0 then (((x2 <<< (x1 &&& 31)) + r35) >>> (1 &&& 31) : Int32) else (-(((x2 <<< (x1 &&& 31)) + r35) >>> (1 &&& 31))) - 1) I35)) ∧
      ((I 46 7) = 0 →
        mm_Mi 28 [.ref 46, .int 1] I (fun r18 I18 =>  -- Reader.readBits
        (¬ r18 = 0 →
          mm_Mi 28 [.ref 46, .int x1] I18 (fun r35 I35 =>  -- Reader.readBits
          P (if (((x2 <<< (x1 &&& 31)) + r35) &&& 1) = 0 then (((x2 <<< (x1 &&& 31)) + r35) >>> (1 &&& 31) : Int32) else (-(((x2 <<< (x1 &&& 31)) + r35) >>> (1 &&& 31))) - 1) I35)) ∧
        (r18 = 0 →
          mm_W 30 2 [some (.ref 46), some (.int x1), some (.int (x2 + 1)), none] [] I18 (mm_qi 30 P)))))) : mm_W 30 2 [some (.ref 46), some (.int x1), some (.int x2), none] [] I (mm_qi 30 P) := by
  refine w_iload_n (n := 3) rfl rfl rfl ?_
  refine w_sipush (v := 32000) (n := 6) rfl rfl rfl ?_
  refine w_icmp_ge (n := 9) rfl rfl ⟨fun hc => ?_, fun hc => ?_⟩
  · replace H := H.1 hc
    refine w_iload_n (n := 31) rfl rfl rfl ?_
    refine w_iload_n (n := 32) rfl rfl rfl ?_
    refine w_ishl (n := 33) rfl rfl ?_
    refine w_aload_nR (x := 46) (n := 34) rfl rfl rfl ?_
    refine w_iload_n (n := 35) rfl rfl rfl ?_
    refine w_calli (as := [.ref 46, .int x1]) (rest := [.int (x2 <<< (x1 &&& 31))]) (n := 38) rfl rfl rfl rfl ?_
    obtain ⟨r35, I35, hI35, H⟩ := H
    refine ⟨r35, I35, hI35, ?_⟩
    refine w_iadd (n := 39) rfl rfl ?_
    refine w_istore_n (ls' := [some (.ref 46), some (.int x1), some (.int x2), some (.int ((x2 <<< (x1 &&& 31)) + r35))]) (n := 40) rfl rfl rfl rfl ?_
    refine w_iload_n (n := 41) rfl rfl rfl ?_
    refine w_iconst (v := 1) (n := 42) rfl rfl rfl ?_
    refine w_iand (n := 43) rfl rfl ?_
    have J43 : ∀ (w43_0 : Int32), w43_0 = (if (((x2 <<< (x1 &&& 31)) + r35) &&& 1) = 0 then (((x2 <<< (x1 &&& 31)) + r35) >>> (1 &&& 31) : Int32) else (-(((x2 <<< (x1 &&& 31)) + r35) >>> (1 &&& 31))) - 1) → mm_W 30 58 [some (.ref 46), some (.int x1), some (.int x2), some (.int ((x2 <<< (x1 &&& 31)) + r35))] [.int w43_0] I35 (mm_qi 30 P) := by
      intro w43_0 e43_0
      subst e43_0
      exact w_ireturn rfl rfl H
    refine w_if_ne (n := 46) rfl rfl ⟨fun hc => ?_, fun hc => ?_⟩
    · refine w_iload_n (n := 53) rfl rfl rfl ?_
      refine w_iconst (v := 1) (n := 54) rfl rfl rfl ?_
      refine w_ishr (n := 55) rfl rfl ?_
      refine w_ineg (n := 56) rfl rfl ?_
      refine w_iconst (v := 1) (n := 57) rfl rfl rfl ?_
      refine w_isub (n := 58) rfl rfl ?_
      refine w_drp mm_Qf_i (J43 _ ?_) (lb_s (lb_s (lb_s (lb_s lb_e))))
      · exact (if_neg hc).symm
    · refine w_iload_n (n := 47) rfl rfl rfl ?_
      refine w_iconst (v := 1) (n := 48) rfl rfl rfl ?_
      refine w_ishr (n := 49) rfl rfl ?_
      refine w_goto rfl ?_
      refine w_drp mm_Qf_i (J43 _ ?_) (lb_s (lb_s (lb_s (lb_s lb_e))))
      · exact (if_pos hc).symm
  · replace H := H.2 hc
    refine w_aload_nR (x := 46) (n := 10) rfl rfl rfl ?_
    refine w_getI (n := 13) rfl rfl rfl rfl ?_
    refine w_if_ne (n := 16) rfl rfl ⟨fun hc => ?_, fun hc => ?_⟩
    · replace H := H.1 hc
      refine w_iload_n (n := 31) rfl rfl rfl ?_
      refine w_iload_n (n := 32) rfl rfl rfl ?_
      refine w_ishl (n := 33) rfl rfl ?_
      refine w_aload_nR (x := 46) (n := 34) rfl rfl rfl ?_
      refine w_iload_n (n := 35) rfl rfl rfl ?_
      refine w_calli (as := [.ref 46, .int x1]) (rest := [.int (x2 <<< (x1 &&& 31))]) (n := 38) rfl rfl rfl rfl ?_
      obtain ⟨r35, I35, hI35, H⟩ := H
      refine ⟨r35, I35, hI35, ?_⟩
      refine w_iadd (n := 39) rfl rfl ?_
      refine w_istore_n (ls' := [some (.ref 46), some (.int x1), some (.int x2), some (.int ((x2 <<< (x1 &&& 31)) + r35))]) (n := 40) rfl rfl rfl rfl ?_
      refine w_iload_n (n := 41) rfl rfl rfl ?_
      refine w_iconst (v := 1) (n := 42) rfl rfl rfl ?_
      refine w_iand (n := 43) rfl rfl ?_
      have J43 : ∀ (w43_0 : Int32), w43_0 = (if (((x2 <<< (x1 &&& 31)) + r35) &&& 1) = 0 then (((x2 <<< (x1 &&& 31)) + r35) >>> (1 &&& 31) : Int32) else (-(((x2 <<< (x1 &&& 31)) + r35) >>> (1 &&& 31))) - 1) → mm_W 30 58 [some (.ref 46), some (.int x1), some (.int x2), some (.int ((x2 <<< (x1 &&& 31)) + r35))] [.int w43_0] I35 (mm_qi 30 P) := by
        intro w43_0 e43_0
        subst e43_0
        exact w_ireturn rfl rfl H
      refine w_if_ne (n := 46) rfl rfl ⟨fun hc => ?_, fun hc => ?_⟩
      · refine w_iload_n (n := 53) rfl rfl rfl ?_
        refine w_iconst (v := 1) (n := 54) rfl rfl rfl ?_
        refine w_ishr (n := 55) rfl rfl ?_
        refine w_ineg (n := 56) rfl rfl ?_
        refine w_iconst (v := 1) (n := 57) rfl rfl rfl ?_
        refine w_isub (n := 58) rfl rfl ?_
        refine w_drp mm_Qf_i (J43 _ ?_) (lb_s (lb_s (lb_s (lb_s lb_e))))
        · exact (if_neg hc).symm
      · refine w_iload_n (n := 47) rfl rfl rfl ?_
        refine w_iconst (v := 1) (n := 48) rfl rfl rfl ?_
        refine w_ishr (n := 49) rfl rfl ?_
        refine w_goto rfl ?_
        refine w_drp mm_Qf_i (J43 _ ?_) (lb_s (lb_s (lb_s (lb_s lb_e))))
        · exact (if_pos hc).symm
    · replace H := H.2 hc
      refine w_aload_nR (x := 46) (n := 17) rfl rfl rfl ?_
      refine w_iconst (v := 1) (n := 18) rfl rfl rfl ?_
      refine w_calli (as := [.ref 46, .int 1]) (rest := []) (n := 21) rfl rfl rfl rfl ?_
      obtain ⟨r18, I18, hI18, H⟩ := H
      refine ⟨r18, I18, hI18, ?_⟩
      refine w_if_ne (n := 24) rfl rfl ⟨fun hc => ?_, fun hc => ?_⟩
      · replace H := H.1 hc
        refine w_iload_n (n := 31) rfl rfl rfl ?_
        refine w_iload_n (n := 32) rfl rfl rfl ?_
        refine w_ishl (n := 33) rfl rfl ?_
        refine w_aload_nR (x := 46) (n := 34) rfl rfl rfl ?_
        refine w_iload_n (n := 35) rfl rfl rfl ?_
        refine w_calli (as := [.ref 46, .int x1]) (rest := [.int (x2 <<< (x1 &&& 31))]) (n := 38) rfl rfl rfl rfl ?_
        obtain ⟨r35, I35, hI35, H⟩ := H
        refine ⟨r35, I35, hI35, ?_⟩
        refine w_iadd (n := 39) rfl rfl ?_
        refine w_istore_n (ls' := [some (.ref 46), some (.int x1), some (.int x2), some (.int ((x2 <<< (x1 &&& 31)) + r35))]) (n := 40) rfl rfl rfl rfl ?_
        refine w_iload_n (n := 41) rfl rfl rfl ?_
        refine w_iconst (v := 1) (n := 42) rfl rfl rfl ?_
        refine w_iand (n := 43) rfl rfl ?_
        have J43 : ∀ (w43_0 : Int32), w43_0 = (if (((x2 <<< (x1 &&& 31)) + r35) &&& 1) = 0 then (((x2 <<< (x1 &&& 31)) + r35) >>> (1 &&& 31) : Int32) else (-(((x2 <<< (x1 &&& 31)) + r35) >>> (1 &&& 31))) - 1) → mm_W 30 58 [some (.ref 46), some (.int x1), some (.int x2), some (.int ((x2 <<< (x1 &&& 31)) + r35))] [.int w43_0] I35 (mm_qi 30 P) := by
          intro w43_0 e43_0
          subst e43_0
          exact w_ireturn rfl rfl H
        refine w_if_ne (n := 46) rfl rfl ⟨fun hc => ?_, fun hc => ?_⟩
        · refine w_iload_n (n := 53) rfl rfl rfl ?_
          refine w_iconst (v := 1) (n := 54) rfl rfl rfl ?_
          refine w_ishr (n := 55) rfl rfl ?_
          refine w_ineg (n := 56) rfl rfl ?_
          refine w_iconst (v := 1) (n := 57) rfl rfl rfl ?_
          refine w_isub (n := 58) rfl rfl ?_
          refine w_drp mm_Qf_i (J43 _ ?_) (lb_s (lb_s (lb_s (lb_s lb_e))))
          · exact (if_neg hc).symm
        · refine w_iload_n (n := 47) rfl rfl rfl ?_
          refine w_iconst (v := 1) (n := 48) rfl rfl rfl ?_
          refine w_ishr (n := 49) rfl rfl ?_
          refine w_goto rfl ?_
          refine w_drp mm_Qf_i (J43 _ ?_) (lb_s (lb_s (lb_s (lb_s lb_e))))
          · exact (if_pos hc).symm
      · replace H := H.2 hc
        refine w_iinc (y := x2 + 1) (ls' := [some (.ref 46), some (.int x1), some (.int (x2 + 1)), none]) (n := 27) rfl rfl rfl rfl rfl ?_
        refine w_goto rfl ?_
        exact w_drp mm_Qf_i H (lb_s (lb_s (lb_s (lb_n lb_e))))
theorem e_Reader_readRow {P : mm_I → Prop} {I : mm_I} {vv : Nat} (hs0 : vv = 53 ∨ vv = 54) (x2 : Int32) (x3 : Int32)
  (H : mm_Mi 28 [.ref 46, .int 4] I (fun r2 I2 =>  -- Reader.readBits
    (r2 ≤ 9 →
      (¬ r2 = 8 →
        (¬ r2 = 9 →
          vp_in r2 8 ∧
          ((I2 51 r2.toNatClampNeg) < x2 →
            vp_in r2 8 ∧
            mm_Mv 32 [.ref 46, .ref vv, .int (I2 51 r2.toNatClampNeg), .int x3] I2 (fun I112 =>  -- Reader.readNumbers
            mm_Mv 33 [.ref 46, .ref vv, .int x2, .int r2] I112 (fun I120 =>  -- Reader.readRuns
            P I120))) ∧
          (x2 ≤ (I2 51 r2.toNatClampNeg) →
            P (mm_up I2 46 7 1))) ∧
        (r2 = 9 →
          mm_Mv 32 [.ref 46, .ref vv, .int x2, .int x3] I2 (fun I71 =>  -- Reader.readNumbers
          P I71))) ∧
      (r2 = 8 →
        mm_Mi 29 [.ref 46, .int x3] I2 (fun r31 I31 =>  -- Reader.readSigned
        mm_W 31 39 [none, some (.ref vv), some (.int x2), none, none, some (.int r31), some (.int 0)] [] I31 (mm_qv 31 P)))) ∧
    (9 < r2 →
      P (mm_up I2 46 7 1)))) : mm_Mv 31 [.ref 46, .ref vv, .int x2, .int x3] I P := by
  rcases hs0 with rfl | rfl
  · refine mm_Mv_of ?_
    show mm_W 31 0 [some (.ref 46), some (.ref 53), some (.int x2), some (.int x3), none, none, none] [] I (mm_qv 31 P)
    refine w_aload_nR (x := 46) (n := 1) rfl rfl rfl ?_
    refine w_iconst (v := 4) (n := 2) rfl rfl rfl ?_
    refine w_calli (as := [.ref 46, .int 4]) (rest := []) (n := 5) rfl rfl rfl rfl ?_
    obtain ⟨r2, I2, hI2, H⟩ := H
    refine ⟨r2, I2, hI2, ?_⟩
    refine w_istore (ls' := [some (.ref 46), some (.ref 53), some (.int x2), some (.int x3), some (.int r2), none, none]) (n := 7) rfl rfl rfl rfl ?_
    refine w_iload (n := 9) rfl rfl rfl ?_
    refine w_bipush (v := 9) (n := 11) rfl rfl rfl ?_
    refine w_icmp_le (n := 14) rfl rfl ⟨fun hc => ?_, fun hc => ?_⟩
    · replace H := H.1 hc
      refine w_iload (n := 24) rfl rfl rfl ?_
      refine w_bipush (v := 8) (n := 26) rfl rfl rfl ?_
      refine w_icmp_ne (n := 29) rfl rfl ⟨fun hc => ?_, fun hc => ?_⟩
      · replace H := H.1 hc
        refine w_iload (n := 62) rfl rfl rfl ?_
        refine w_bipush (v := 9) (n := 64) rfl rfl rfl ?_
        refine w_icmp_ne (n := 67) rfl rfl ⟨fun hc => ?_, fun hc => ?_⟩
        · replace H := H.1 hc
          refine w_aload_nR (x := 46) (n := 78) rfl rfl rfl ?_
          refine w_getR (b := 49) (n := 81) rfl rfl rfl rfl rfl ?_
          refine w_getR (b := 51) (n := 84) rfl rfl rfl rfl rfl ?_
          refine w_iload (n := 86) rfl rfl rfl ?_
          refine w_iaload (N := 8) (j := r2.toNatClampNeg) (n := 87) rfl rfl rfl rfl rfl rfl ⟨H.1, ?_⟩
          replace H := H.2
          refine w_iload_n (n := 88) rfl rfl rfl ?_
          refine w_icmp_lt (n := 91) rfl rfl ⟨fun hc => ?_, fun hc => ?_⟩
          · replace H := H.1 hc
            refine w_aload_nR (x := 46) (n := 100) rfl rfl rfl ?_
            refine w_aload_nR (x := 53) (n := 101) rfl rfl rfl ?_
            refine w_aload_nR (x := 46) (n := 102) rfl rfl rfl ?_
            refine w_getR (b := 49) (n := 105) rfl rfl rfl rfl rfl ?_
            refine w_getR (b := 51) (n := 108) rfl rfl rfl rfl rfl ?_
            refine w_iload (n := 110) rfl rfl rfl ?_
            refine w_iaload (N := 8) (j := r2.toNatClampNeg) (n := 111) rfl rfl rfl rfl rfl rfl ⟨H.1, ?_⟩
            replace H := H.2
            refine w_iload_n (n := 112) rfl rfl rfl ?_
            refine w_callv (as := [.ref 46, .ref 53, .int (I2 51 r2.toNatClampNeg), .int x3]) (rest := []) (n := 115) rfl rfl rfl rfl ?_
            obtain ⟨I112, hI112, H⟩ := H
            refine ⟨I112, hI112, ?_⟩
            refine w_aload_nR (x := 46) (n := 116) rfl rfl rfl ?_
            refine w_aload_nR (x := 53) (n := 117) rfl rfl rfl ?_
            refine w_iload_n (n := 118) rfl rfl rfl ?_
            refine w_iload (n := 120) rfl rfl rfl ?_
            refine w_callv (as := [.ref 46, .ref 53, .int x2, .int r2]) (rest := []) (n := 123) rfl rfl rfl rfl ?_
            obtain ⟨I120, hI120, H⟩ := H
            refine ⟨I120, hI120, ?_⟩
            exact w_vreturn rfl rfl H
          · replace H := H.2 hc
            refine w_aload_nR (x := 46) (n := 92) rfl rfl rfl ?_
            refine w_iconst (v := 1) (n := 93) rfl rfl rfl ?_
            refine w_putZ (n := 96) rfl rfl rfl rfl rfl rfl ⟨by decide, ?_⟩
            refine w_goto rfl ?_
            exact w_vreturn rfl rfl H
        · replace H := H.2 hc
          refine w_aload_nR (x := 46) (n := 68) rfl rfl rfl ?_
          refine w_aload_nR (x := 53) (n := 69) rfl rfl rfl ?_
          refine w_iload_n (n := 70) rfl rfl rfl ?_
          refine w_iload_n (n := 71) rfl rfl rfl ?_
          refine w_callv (as := [.ref 46, .ref 53, .int x2, .int x3]) (rest := []) (n := 74) rfl rfl rfl rfl ?_
          obtain ⟨I71, hI71, H⟩ := H
          refine ⟨I71, hI71, ?_⟩
          refine w_goto rfl ?_
          exact w_vreturn rfl rfl H
      · replace H := H.2 hc
        refine w_aload_nR (x := 46) (n := 30) rfl rfl rfl ?_
        refine w_iload_n (n := 31) rfl rfl rfl ?_
        refine w_calli (as := [.ref 46, .int x3]) (rest := []) (n := 34) rfl rfl rfl rfl ?_
        obtain ⟨r31, I31, hI31, H⟩ := H
        refine ⟨r31, I31, hI31, ?_⟩
        refine w_istore (ls' := [some (.ref 46), some (.ref 53), some (.int x2), some (.int x3), some (.int r2), some (.int r31), none]) (n := 36) rfl rfl rfl rfl ?_
        refine w_iconst (v := 0) (n := 37) rfl rfl rfl ?_
        refine w_istore (ls' := [some (.ref 46), some (.ref 53), some (.int x2), some (.int x3), some (.int r2), some (.int r31), some (.int 0)]) (n := 39) rfl rfl rfl rfl ?_
        exact w_drp mm_Qf_v H (lb_n (lb_s (lb_s (lb_n (lb_n (lb_s (lb_s lb_e)))))))
    · replace H := H.2 hc
      refine w_aload_nR (x := 46) (n := 15) rfl rfl rfl ?_
      refine w_iconst (v := 1) (n := 16) rfl rfl rfl ?_
      refine w_putZ (n := 19) rfl rfl rfl rfl rfl rfl ⟨by decide, ?_⟩
      refine w_goto rfl ?_
      exact w_vreturn rfl rfl H
  · refine mm_Mv_of ?_
    show mm_W 31 0 [some (.ref 46), some (.ref 54), some (.int x2), some (.int x3), none, none, none] [] I (mm_qv 31 P)
    refine w_aload_nR (x := 46) (n := 1) rfl rfl rfl ?_
    refine w_iconst (v := 4) (n := 2) rfl rfl rfl ?_
    refine w_calli (as := [.ref 46, .int 4]) (rest := []) (n := 5) rfl rfl rfl rfl ?_
    obtain ⟨r2, I2, hI2, H⟩ := H
    refine ⟨r2, I2, hI2, ?_⟩
    refine w_istore (ls' := [some (.ref 46), some (.ref 54), some (.int x2), some (.int x3), some (.int r2), none, none]) (n := 7) rfl rfl rfl rfl ?_
    refine w_iload (n := 9) rfl rfl rfl ?_
    refine w_bipush (v := 9) (n := 11) rfl rfl rfl ?_
    refine w_icmp_le (n := 14) rfl rfl ⟨fun hc => ?_, fun hc => ?_⟩
    · replace H := H.1 hc
      refine w_iload (n := 24) rfl rfl rfl ?_
      refine w_bipush (v := 8) (n := 26) rfl rfl rfl ?_
      refine w_icmp_ne (n := 29) rfl rfl ⟨fun hc => ?_, fun hc => ?_⟩
      · replace H := H.1 hc
        refine w_iload (n := 62) rfl rfl rfl ?_
        refine w_bipush (v := 9) (n := 64) rfl rfl rfl ?_
        refine w_icmp_ne (n := 67) rfl rfl ⟨fun hc => ?_, fun hc => ?_⟩
        · replace H := H.1 hc
          refine w_aload_nR (x := 46) (n := 78) rfl rfl rfl ?_
          refine w_getR (b := 49) (n := 81) rfl rfl rfl rfl rfl ?_
          refine w_getR (b := 51) (n := 84) rfl rfl rfl rfl rfl ?_
          refine w_iload (n := 86) rfl rfl rfl ?_
          refine w_iaload (N := 8) (j := r2.toNatClampNeg) (n := 87) rfl rfl rfl rfl rfl rfl ⟨H.1, ?_⟩
          replace H := H.2
          refine w_iload_n (n := 88) rfl rfl rfl ?_
          refine w_icmp_lt (n := 91) rfl rfl ⟨fun hc => ?_, fun hc => ?_⟩
          · replace H := H.1 hc
            refine w_aload_nR (x := 46) (n := 100) rfl rfl rfl ?_
            refine w_aload_nR (x := 54) (n := 101) rfl rfl rfl ?_
            refine w_aload_nR (x := 46) (n := 102) rfl rfl rfl ?_
            refine w_getR (b := 49) (n := 105) rfl rfl rfl rfl rfl ?_
            refine w_getR (b := 51) (n := 108) rfl rfl rfl rfl rfl ?_
            refine w_iload (n := 110) rfl rfl rfl ?_
            refine w_iaload (N := 8) (j := r2.toNatClampNeg) (n := 111) rfl rfl rfl rfl rfl rfl ⟨H.1, ?_⟩
            replace H := H.2
            refine w_iload_n (n := 112) rfl rfl rfl ?_
            refine w_callv (as := [.ref 46, .ref 54, .int (I2 51 r2.toNatClampNeg), .int x3]) (rest := []) (n := 115) rfl rfl rfl rfl ?_
            obtain ⟨I112, hI112, H⟩ := H
            refine ⟨I112, hI112, ?_⟩
            refine w_aload_nR (x := 46) (n := 116) rfl rfl rfl ?_
            refine w_aload_nR (x := 54) (n := 117) rfl rfl rfl ?_
            refine w_iload_n (n := 118) rfl rfl rfl ?_
            refine w_iload (n := 120) rfl rfl rfl ?_
            refine w_callv (as := [.ref 46, .ref 54, .int x2, .int r2]) (rest := []) (n := 123) rfl rfl rfl rfl ?_
            obtain ⟨I120, hI120, H⟩ := H
            refine ⟨I120, hI120, ?_⟩
            exact w_vreturn rfl rfl H
          · replace H := H.2 hc
            refine w_aload_nR (x := 46) (n := 92) rfl rfl rfl ?_
            refine w_iconst (v := 1) (n := 93) rfl rfl rfl ?_
            refine w_putZ (n := 96) rfl rfl rfl rfl rfl rfl ⟨by decide, ?_⟩
            refine w_goto rfl ?_
            exact w_vreturn rfl rfl H
        · replace H := H.2 hc
          refine w_aload_nR (x := 46) (n := 68) rfl rfl rfl ?_
          refine w_aload_nR (x := 54) (n := 69) rfl rfl rfl ?_
          refine w_iload_n (n := 70) rfl rfl rfl ?_
          refine w_iload_n (n := 71) rfl rfl rfl ?_
          refine w_callv (as := [.ref 46, .ref 54, .int x2, .int x3]) (rest := []) (n := 74) rfl rfl rfl rfl ?_
          obtain ⟨I71, hI71, H⟩ := H
          refine ⟨I71, hI71, ?_⟩
          refine w_goto rfl ?_
          exact w_vreturn rfl rfl H
      · replace H := H.2 hc
        refine w_aload_nR (x := 46) (n := 30) rfl rfl rfl ?_
        refine w_iload_n (n := 31) rfl rfl rfl ?_
        refine w_calli (as := [.ref 46, .int x3]) (rest := []) (n := 34) rfl rfl rfl rfl ?_
        obtain ⟨r31, I31, hI31, H⟩ := H
        refine ⟨r31, I31, hI31, ?_⟩
        refine w_istore (ls' := [some (.ref 46), some (.ref 54), some (.int x2), some (.int x3), some (.int r2), some (.int r31), none]) (n := 36) rfl rfl rfl rfl ?_
        refine w_iconst (v := 0) (n := 37) rfl rfl rfl ?_
        refine w_istore (ls' := [some (.ref 46), some (.ref 54), some (.int x2), some (.int x3), some (.int r2), some (.int r31), some (.int 0)]) (n := 39) rfl rfl rfl rfl ?_
        exact w_drp mm_Qf_v H (lb_n (lb_s (lb_s (lb_n (lb_n (lb_s (lb_s lb_e)))))))
    · replace H := H.2 hc
      refine w_aload_nR (x := 46) (n := 15) rfl rfl rfl ?_
      refine w_iconst (v := 1) (n := 16) rfl rfl rfl ?_
      refine w_putZ (n := 19) rfl rfl rfl rfl rfl rfl ⟨by decide, ?_⟩
      refine w_goto rfl ?_
      exact w_vreturn rfl rfl H
theorem c_Reader_readRow_39 {P : mm_I → Prop} {I : mm_I} {vv : Nat} (hs0 : vv = 53 ∨ vv = 54) (x2 : Int32) (x5 : Int32) (x6 : Int32)
  (H : (x2 ≤ x6 →
      P I) ∧
    (x6 < x2 →
      vp_in x6 64 ∧
      mm_W 31 39 [none, some (.ref vv), some (.int x2), none, none, some (.int x5), some (.int (x6 + 1))] [] (mm_up I vv x6.toNatClampNeg x5) (mm_qv 31 P))) : mm_W 31 39 [none, some (.ref vv), some (.int x2), none, none, some (.int x5), some (.int x6)] [] I (mm_qv 31 P) := by
  rcases hs0 with rfl | rfl
  · refine w_iload (n := 41) rfl rfl rfl ?_
    refine w_iload_n (n := 42) rfl rfl rfl ?_
    refine w_icmp_ge (n := 45) rfl rfl ⟨fun hc => ?_, fun hc => ?_⟩
    · replace H := H.1 hc
      refine w_goto rfl ?_
      exact w_vreturn rfl rfl H
    · replace H := H.2 hc
      refine w_aload_nR (x := 53) (n := 46) rfl rfl rfl ?_
      refine w_iload (n := 48) rfl rfl rfl ?_
      refine w_iload (n := 50) rfl rfl rfl ?_
      refine w_iastore (N := 64) (j := x6.toNatClampNeg) (n := 51) rfl rfl rfl rfl rfl ⟨H.1, ?_⟩
      replace H := H.2
      refine w_iinc (y := x6 + 1) (ls' := [none, some (.ref 53), some (.int x2), none, none, some (.int x5), some (.int (x6 + 1))]) (n := 54) rfl rfl rfl rfl rfl ?_
      refine w_goto rfl ?_
      exact w_drp mm_Qf_v H (lb_n (lb_s (lb_s (lb_n (lb_n (lb_s (lb_s lb_e)))))))
  · refine w_iload (n := 41) rfl rfl rfl ?_
    refine w_iload_n (n := 42) rfl rfl rfl ?_
    refine w_icmp_ge (n := 45) rfl rfl ⟨fun hc => ?_, fun hc => ?_⟩
    · replace H := H.1 hc
      refine w_goto rfl ?_
      exact w_vreturn rfl rfl H
    · replace H := H.2 hc
      refine w_aload_nR (x := 54) (n := 46) rfl rfl rfl ?_
      refine w_iload (n := 48) rfl rfl rfl ?_
      refine w_iload (n := 50) rfl rfl rfl ?_
      refine w_iastore (N := 64) (j := x6.toNatClampNeg) (n := 51) rfl rfl rfl rfl rfl ⟨H.1, ?_⟩
      replace H := H.2
      refine w_iinc (y := x6 + 1) (ls' := [none, some (.ref 54), some (.int x2), none, none, some (.int x5), some (.int (x6 + 1))]) (n := 54) rfl rfl rfl rfl rfl ?_
      refine w_goto rfl ?_
      exact w_drp mm_Qf_v H (lb_n (lb_s (lb_s (lb_n (lb_n (lb_s (lb_s lb_e)))))))
theorem e_Reader_readNumbers {P : mm_I → Prop} {I : mm_I} {vv : Nat} (hs0 : vv = 53 ∨ vv = 54) (x2 : Int32) (x3 : Int32)
  (H : mm_W 32 3 [some (.ref 46), some (.ref vv), some (.int x2), some (.int x3), some (.int 0)] [] I (mm_qv 32 P)) : mm_Mv 32 [.ref 46, .ref vv, .int x2, .int x3] I P := by
  rcases hs0 with rfl | rfl
  · refine mm_Mv_of ?_
    show mm_W 32 0 [some (.ref 46), some (.ref 53), some (.int x2), some (.int x3), none] [] I (mm_qv 32 P)
    refine w_iconst (v := 0) (n := 1) rfl rfl rfl ?_
    refine w_istore (ls' := [some (.ref 46), some (.ref 53), some (.int x2), some (.int x3), some (.int 0)]) (n := 3) rfl rfl rfl rfl ?_
    exact w_drp mm_Qf_v H (lb_s (lb_s (lb_s (lb_s (lb_s lb_e)))))
  · refine mm_Mv_of ?_
    show mm_W 32 0 [some (.ref 46), some (.ref 54), some (.int x2), some (.int x3), none] [] I (mm_qv 32 P)
    refine w_iconst (v := 0) (n := 1) rfl rfl rfl ?_
    refine w_istore (ls' := [some (.ref 46), some (.ref 54), some (.int x2), some (.int x3), some (.int 0)]) (n := 3) rfl rfl rfl rfl ?_
    exact w_drp mm_Qf_v H (lb_s (lb_s (lb_s (lb_s (lb_s lb_e)))))
theorem c_Reader_readNumbers_3 {P : mm_I → Prop} {I : mm_I} {vv : Nat} (hs0 : vv = 53 ∨ vv = 54) (x2 : Int32) (x3 : Int32) (x4 : Int32)
  (H : (x2 ≤ x4 →
      P I) ∧
    (x4 < x2 →
      mm_Mi 29 [.ref 46, .int x3] I (fun r14 I14 =>  -- Reader.readSigned
      vp_in x4 64 ∧
      mm_W 32 3 [some (.ref 46), some (.ref vv), some (.int x2), some (.int x3), some (.int (x4 + 1))] [] (mm_up I14 vv x4.toNatClampNeg r14) (mm_qv 32 P)))) : mm_W 32 3 [some (.ref 46), some (.ref vv), some (.int x2), some (.int x3), some (.int x4)] [] I (mm_qv 32 P) := by
  rcases hs0 with rfl | rfl
  · refine w_iload (n := 5) rfl rfl rfl ?_
    refine w_iload_n (n := 6) rfl rfl rfl ?_
    refine w_icmp_ge (n := 9) rfl rfl ⟨fun hc => ?_, fun hc => ?_⟩
    · replace H := H.1 hc
      exact w_vreturn rfl rfl H
    · replace H := H.2 hc
      refine w_aload_nR (x := 53) (n := 10) rfl rfl rfl ?_
      refine w_iload (n := 12) rfl rfl rfl ?_
      refine w_aload_nR (x := 46) (n := 13) rfl rfl rfl ?_
      refine w_iload_n (n := 14) rfl rfl rfl ?_
      refine w_calli (as := [.ref 46, .int x3]) (rest := [.int x4, .ref 53]) (n := 17) rfl rfl rfl rfl ?_
      obtain ⟨r14, I14, hI14, H⟩ := H
      refine ⟨r14, I14, hI14, ?_⟩
      refine w_iastore (N := 64) (j := x4.toNatClampNeg) (n := 18) rfl rfl rfl rfl rfl ⟨H.1, ?_⟩
      replace H := H.2
      refine w_iinc (y := x4 + 1) (ls' := [some (.ref 46), some (.ref 53), some (.int x2), some (.int x3), some (.int (x4 + 1))]) (n := 21) rfl rfl rfl rfl rfl ?_
      refine w_goto rfl ?_
      exact w_drp mm_Qf_v H (lb_s (lb_s (lb_s (lb_s (lb_s lb_e)))))
  · refine w_iload (n := 5) rfl rfl rfl ?_
    refine w_iload_n (n := 6) rfl rfl rfl ?_
    refine w_icmp_ge (n := 9) rfl rfl ⟨fun hc => ?_, fun hc => ?_⟩
    · replace H := H.1 hc
      exact w_vreturn rfl rfl H
    · replace H := H.2 hc
      refine w_aload_nR (x := 54) (n := 10) rfl rfl rfl ?_
      refine w_iload (n := 12) rfl rfl rfl ?_
      refine w_aload_nR (x := 46) (n := 13) rfl rfl rfl ?_
      refine w_iload_n (n := 14) rfl rfl rfl ?_
      refine w_calli (as := [.ref 46, .int x3]) (rest := [.int x4, .ref 54]) (n := 17) rfl rfl rfl rfl ?_
      obtain ⟨r14, I14, hI14, H⟩ := H
      refine ⟨r14, I14, hI14, ?_⟩
      refine w_iastore (N := 64) (j := x4.toNatClampNeg) (n := 18) rfl rfl rfl rfl rfl ⟨H.1, ?_⟩
      replace H := H.2
      refine w_iinc (y := x4 + 1) (ls' := [some (.ref 46), some (.ref 54), some (.int x2), some (.int x3), some (.int (x4 + 1))]) (n := 21) rfl rfl rfl rfl rfl ?_
      refine w_goto rfl ?_
      exact w_drp mm_Qf_v H (lb_s (lb_s (lb_s (lb_s (lb_s lb_e)))))
theorem e_Reader_readRuns {P : mm_I → Prop} {I : mm_I} {vv : Nat} (hs0 : vv = 53 ∨ vv = 54) (x2 : Int32) (x3 : Int32)
  (H : vp_in x3 8 ∧
    mm_W 33 28 [some (.ref 46), some (.ref vv), some (.int x2), some (.int x3), some (.int (I 51 x3.toNatClampNeg)), some (.int ((((x2 - (I 51 x3.toNatClampNeg)) + 8) - 1) / 8)), some (.int 0), none, none, none, none, none, none] [] I (mm_qv 33 P)) : mm_Mv 33 [.ref 46, .ref vv, .int x2, .int x3] I P := by
  rcases hs0 with rfl | rfl
  · refine mm_Mv_of ?_
    show mm_W 33 0 [some (.ref 46), some (.ref 53), some (.int x2), some (.int x3), none, none, none, none, none, none, none, none, none] [] I (mm_qv 33 P)
    refine w_aload_nR (x := 46) (n := 1) rfl rfl rfl ?_
    refine w_getR (b := 49) (n := 4) rfl rfl rfl rfl rfl ?_
    refine w_getR (b := 51) (n := 7) rfl rfl rfl rfl rfl ?_
    refine w_iload_n (n := 8) rfl rfl rfl ?_
    refine w_iaload (N := 8) (j := x3.toNatClampNeg) (n := 9) rfl rfl rfl rfl rfl rfl ⟨H.1, ?_⟩
    replace H := H.2
    refine w_istore (ls' := [some (.ref 46), some (.ref 53), some (.int x2), some (.int x3), some (.int (I 51 x3.toNatClampNeg)), none, none, none, none, none, none, none, none]) (n := 11) rfl rfl rfl rfl ?_
    refine w_iload_n (n := 12) rfl rfl rfl ?_
    refine w_iload (n := 14) rfl rfl rfl ?_
    refine w_isub (n := 15) rfl rfl ?_
    refine w_bipush (v := 8) (n := 17) rfl rfl rfl ?_
    refine w_iadd (n := 18) rfl rfl ?_
    refine w_iconst (v := 1) (n := 19) rfl rfl rfl ?_
    refine w_isub (n := 20) rfl rfl ?_
    refine w_bipush (v := 8) (n := 22) rfl rfl rfl ?_
    refine w_idiv (n := 23) rfl rfl ⟨by decide, ?_⟩
    refine w_istore (ls' := [some (.ref 46), some (.ref 53), some (.int x2), some (.int x3), some (.int (I 51 x3.toNatClampNeg)), some (.int ((((x2 - (I 51 x3.toNatClampNeg)) + 8) - 1) / 8)), none, none, none, none, none, none, none]) (n := 25) rfl rfl rfl rfl ?_
    refine w_iconst (v := 0) (n := 26) rfl rfl rfl ?_
    refine w_istore (ls' := [some (.ref 46), some (.ref 53), some (.int x2), some (.int x3), some (.int (I 51 x3.toNatClampNeg)), some (.int ((((x2 - (I 51 x3.toNatClampNeg)) + 8) - 1) / 8)), some (.int 0), none, none, none, none, none, none]) (n := 28) rfl rfl rfl rfl ?_
    exact w_drp mm_Qf_v H (lb_s (lb_s (lb_s (lb_s (lb_s (lb_s (lb_s (lb_n (lb_n (lb_n (lb_n (lb_n (lb_n lb_e)))))))))))))
  · refine mm_Mv_of ?_
    show mm_W 33 0 [some (.ref 46), some (.ref 54), some (.int x2), some (.int x3), none, none, none, none, none, none, none, none, none] [] I (mm_qv 33 P)
    refine w_aload_nR (x := 46) (n := 1) rfl rfl rfl ?_
    refine w_getR (b := 49) (n := 4) rfl rfl rfl rfl rfl ?_
    refine w_getR (b := 51) (n := 7) rfl rfl rfl rfl rfl ?_
    refine w_iload_n (n := 8) rfl rfl rfl ?_
    refine w_iaload (N := 8) (j := x3.toNatClampNeg) (n := 9) rfl rfl rfl rfl rfl rfl ⟨H.1, ?_⟩
    replace H := H.2
    refine w_istore (ls' := [some (.ref 46), some (.ref 54), some (.int x2), some (.int x3), some (.int (I 51 x3.toNatClampNeg)), none, none, none, none, none, none, none, none]) (n := 11) rfl rfl rfl rfl ?_
    refine w_iload_n (n := 12) rfl rfl rfl ?_
    refine w_iload (n := 14) rfl rfl rfl ?_
    refine w_isub (n := 15) rfl rfl ?_
    refine w_bipush (v := 8) (n := 17) rfl rfl rfl ?_
    refine w_iadd (n := 18) rfl rfl ?_
    refine w_iconst (v := 1) (n := 19) rfl rfl rfl ?_
    refine w_isub (n := 20) rfl rfl ?_
    refine w_bipush (v := 8) (n := 22) rfl rfl rfl ?_
    refine w_idiv (n := 23) rfl rfl ⟨by decide, ?_⟩
    refine w_istore (ls' := [some (.ref 46), some (.ref 54), some (.int x2), some (.int x3), some (.int (I 51 x3.toNatClampNeg)), some (.int ((((x2 - (I 51 x3.toNatClampNeg)) + 8) - 1) / 8)), none, none, none, none, none, none, none]) (n := 25) rfl rfl rfl rfl ?_
    refine w_iconst (v := 0) (n := 26) rfl rfl rfl ?_
    refine w_istore (ls' := [some (.ref 46), some (.ref 54), some (.int x2), some (.int x3), some (.int (I 51 x3.toNatClampNeg)), some (.int ((((x2 - (I 51 x3.toNatClampNeg)) + 8) - 1) / 8)), some (.int 0), none, none, none, none, none, none]) (n := 28) rfl rfl rfl rfl ?_
    exact w_drp mm_Qf_v H (lb_s (lb_s (lb_s (lb_s (lb_s (lb_s (lb_s (lb_n (lb_n (lb_n (lb_n (lb_n (lb_n lb_e)))))))))))))
theorem c_Reader_readRuns_28 {P : mm_I → Prop} {I : mm_I} {vv : Nat} (hs0 : vv = 53 ∨ vv = 54) (x2 : Int32) (x3 : Int32) (x4 : Int32) (x5 : Int32) (x6 : Int32)
  (H : (8 ≤ x6 →
      P I) ∧
    (x6 < 8 →
      (x5 ≤ 0 →
        P I) ∧
      (0 < x5 →
        (¬ (I 46 7) = 0 →
          P I) ∧
        ((I 46 7) = 0 →
          mm_Mi 28 [.ref 46, .int 3] I (fun r49 I49 =>  -- Reader.readBits
          mm_Mi 28 [.ref 46, .int 4] I49 (fun r58 I58 =>  -- Reader.readBits
          ((r49 + 1) ≤ x5 →
            mm_Mi 226 [.int x2, .int (x4 + ((r49 + 1) * 8))] I58 (fun r85 I85 =>  -- Math.min
            (¬ r58 = 14 →
              mm_W 33 112 [some (.ref 46), some (.ref vv), some (.int x2), some (.int x3), none, some (.int x5), some (.int x6), some (.int (r49 + 1)), some (.int r58), some (.int r85), some (.int 0), some (.int x4), none] [] I85 (mm_qv 33 P)) ∧
            (r58 = 14 →
              mm_Mi 28 [.ref 46, .int 5] I85 (fun r99 I99 =>  -- Reader.readBits
              mm_W 33 112 [some (.ref 46), some (.ref vv), some (.int x2), some (.int x3), none, some (.int x5), some (.int x6), some (.int (r49 + 1)), some (.int r58), some (.int r85), some (.int r99), some (.int x4), none] [] I99 (mm_qv 33 P))))) ∧
          (x5 < (r49 + 1) →
            P (mm_up I58 46 7 1)))))))) : mm_W 33 28 [some (.ref 46), some (.ref vv), some (.int x2), some (.int x3), some (.int x4), some (.int x5), some (.int x6), none, none, none, none, none, none] [] I (mm_qv 33 P) := by
  rcases hs0 with rfl | rfl
  · refine w_iload (n := 30) rfl rfl rfl ?_
    refine w_bipush (v := 8) (n := 32) rfl rfl rfl ?_
    refine w_icmp_ge (n := 35) rfl rfl ⟨fun hc => ?_, fun hc => ?_⟩
    · replace H := H.1 hc
      exact w_vreturn rfl rfl H
    · replace H := H.2 hc
      refine w_iload (n := 37) rfl rfl rfl ?_
      refine w_if_le (n := 40) rfl rfl ⟨fun hc => ?_, fun hc => ?_⟩
      · replace H := H.1 hc
        exact w_vreturn rfl rfl H
      · replace H := H.2 hc
        refine w_aload_nR (x := 46) (n := 41) rfl rfl rfl ?_
        refine w_getI (n := 44) rfl rfl rfl rfl ?_
        refine w_if_ne (n := 47) rfl rfl ⟨fun hc => ?_, fun hc => ?_⟩
        · replace H := H.1 hc
          exact w_vreturn rfl rfl H
        · replace H := H.2 hc
          refine w_aload_nR (x := 46) (n := 48) rfl rfl rfl ?_
          refine w_iconst (v := 3) (n := 49) rfl rfl rfl ?_
          refine w_calli (as := [.ref 46, .int 3]) (rest := []) (n := 52) rfl rfl rfl rfl ?_
          obtain ⟨r49, I49, hI49, H⟩ := H
          refine ⟨r49, I49, hI49, ?_⟩
          refine w_iconst (v := 1) (n := 53) rfl rfl rfl ?_
          refine w_iadd (n := 54) rfl rfl ?_
          refine w_istore (ls' := [some (.ref 46), some (.ref 53), some (.int x2), some (.int x3), some (.int x4), some (.int x5), some (.int x6), some (.int (r49 + 1)), none, none, none, none, none]) (n := 56) rfl rfl rfl rfl ?_
          refine w_aload_nR (x := 46) (n := 57) rfl rfl rfl ?_
          refine w_iconst (v := 4) (n := 58) rfl rfl rfl ?_
          refine w_calli (as := [.ref 46, .int 4]) (rest := []) (n := 61) rfl rfl rfl rfl ?_
          obtain ⟨r58, I58, hI58, H⟩ := H
          refine ⟨r58, I58, hI58, ?_⟩
          refine w_istore (ls' := [some (.ref 46), some (.ref 53), some (.int x2), some (.int x3), some (.int x4), some (.int x5), some (.int x6), some (.int (r49 + 1)), some (.int r58), none, none, none, none]) (n := 63) rfl rfl rfl rfl ?_
          refine w_iload (n := 65) rfl rfl rfl ?_
          refine w_iload (n := 67) rfl rfl rfl ?_
          refine w_icmp_le (n := 70) rfl rfl ⟨fun hc => ?_, fun hc => ?_⟩
          · replace H := H.1 hc
            refine w_iload_n (n := 77) rfl rfl rfl ?_
            refine w_iload (n := 79) rfl rfl rfl ?_
            refine w_iload (n := 81) rfl rfl rfl ?_
            refine w_bipush (v := 8) (n := 83) rfl rfl rfl ?_
            refine w_imul (n := 84) rfl rfl ?_
            refine w_iadd (n := 85) rfl rfl ?_
            refine w_calli (as := [.int x2, .int (x4 + ((r49 + 1) * 8))]) (rest := []) (n := 88) rfl rfl rfl rfl ?_
            obtain ⟨r85, I85, hI85, H⟩ := H
            refine ⟨r85, I85, hI85, ?_⟩
            refine w_istore (ls' := [some (.ref 46), some (.ref 53), some (.int x2), some (.int x3), some (.int x4), some (.int x5), some (.int x6), some (.int (r49 + 1)), some (.int r58), some (.int r85), none, none, none]) (n := 90) rfl rfl rfl rfl ?_
            refine w_iload (n := 92) rfl rfl rfl ?_
            refine w_bipush (v := 14) (n := 94) rfl rfl rfl ?_
            refine w_icmp_ne (n := 97) rfl rfl ⟨fun hc => ?_, fun hc => ?_⟩
            · replace H := H.1 hc
              refine w_iconst (v := 0) (n := 106) rfl rfl rfl ?_
              refine w_istore (ls' := [some (.ref 46), some (.ref 53), some (.int x2), some (.int x3), some (.int x4), some (.int x5), some (.int x6), some (.int (r49 + 1)), some (.int r58), some (.int r85), some (.int 0), none, none]) (n := 108) rfl rfl rfl rfl ?_
              refine w_iload (n := 110) rfl rfl rfl ?_
              refine w_istore (ls' := [some (.ref 46), some (.ref 53), some (.int x2), some (.int x3), some (.int x4), some (.int x5), some (.int x6), some (.int (r49 + 1)), some (.int r58), some (.int r85), some (.int 0), some (.int x4), none]) (n := 112) rfl rfl rfl rfl ?_
              exact w_drp mm_Qf_v H (lb_s (lb_s (lb_s (lb_s (lb_n (lb_s (lb_s (lb_s (lb_s (lb_s (lb_s (lb_s (lb_n lb_e)))))))))))))
            · replace H := H.2 hc
              refine w_aload_nR (x := 46) (n := 98) rfl rfl rfl ?_
              refine w_iconst (v := 5) (n := 99) rfl rfl rfl ?_
              refine w_calli (as := [.ref 46, .int 5]) (rest := []) (n := 102) rfl rfl rfl rfl ?_
              obtain ⟨r99, I99, hI99, H⟩ := H
              refine ⟨r99, I99, hI99, ?_⟩
              refine w_goto rfl ?_
              refine w_istore (ls' := [some (.ref 46), some (.ref 53), some (.int x2), some (.int x3), some (.int x4), some (.int x5), some (.int x6), some (.int (r49 + 1)), some (.int r58), some (.int r85), some (.int r99), none, none]) (n := 108) rfl rfl rfl rfl ?_
              refine w_iload (n := 110) rfl rfl rfl ?_
              refine w_istore (ls' := [some (.ref 46), some (.ref 53), some (.int x2), some (.int x3), some (.int x4), some (.int x5), some (.int x6), some (.int (r49 + 1)), some (.int r58), some (.int r85), some (.int r99), some (.int x4), none]) (n := 112) rfl rfl rfl rfl ?_
              exact w_drp mm_Qf_v H (lb_s (lb_s (lb_s (lb_s (lb_n (lb_s (lb_s (lb_s (lb_s (lb_s (lb_s (lb_s (lb_n lb_e)))))))))))))
          · replace H := H.2 hc
            refine w_aload_nR (x := 46) (n := 71) rfl rfl rfl ?_
            refine w_iconst (v := 1) (n := 72) rfl rfl rfl ?_
            refine w_putZ (n := 75) rfl rfl rfl rfl rfl rfl ⟨by decide, ?_⟩
            exact w_vreturn rfl rfl H
  · refine w_iload (n := 30) rfl rfl rfl ?_
    refine w_bipush (v := 8) (n := 32) rfl rfl rfl ?_
    refine w_icmp_ge (n := 35) rfl rfl ⟨fun hc => ?_, fun hc => ?_⟩
    · replace H := H.1 hc
      exact w_vreturn rfl rfl H
    · replace H := H.2 hc
      refine w_iload (n := 37) rfl rfl rfl ?_
      refine w_if_le (n := 40) rfl rfl ⟨fun hc => ?_, fun hc => ?_⟩
      · replace H := H.1 hc
        exact w_vreturn rfl rfl H
      · replace H := H.2 hc
        refine w_aload_nR (x := 46) (n := 41) rfl rfl rfl ?_
        refine w_getI (n := 44) rfl rfl rfl rfl ?_
        refine w_if_ne (n := 47) rfl rfl ⟨fun hc => ?_, fun hc => ?_⟩
        · replace H := H.1 hc
          exact w_vreturn rfl rfl H
        · replace H := H.2 hc
          refine w_aload_nR (x := 46) (n := 48) rfl rfl rfl ?_
          refine w_iconst (v := 3) (n := 49) rfl rfl rfl ?_
          refine w_calli (as := [.ref 46, .int 3]) (rest := []) (n := 52) rfl rfl rfl rfl ?_
          obtain ⟨r49, I49, hI49, H⟩ := H
          refine ⟨r49, I49, hI49, ?_⟩
          refine w_iconst (v := 1) (n := 53) rfl rfl rfl ?_
          refine w_iadd (n := 54) rfl rfl ?_
          refine w_istore (ls' := [some (.ref 46), some (.ref 54), some (.int x2), some (.int x3), some (.int x4), some (.int x5), some (.int x6), some (.int (r49 + 1)), none, none, none, none, none]) (n := 56) rfl rfl rfl rfl ?_
          refine w_aload_nR (x := 46) (n := 57) rfl rfl rfl ?_
          refine w_iconst (v := 4) (n := 58) rfl rfl rfl ?_
          refine w_calli (as := [.ref 46, .int 4]) (rest := []) (n := 61) rfl rfl rfl rfl ?_
          obtain ⟨r58, I58, hI58, H⟩ := H
          refine ⟨r58, I58, hI58, ?_⟩
          refine w_istore (ls' := [some (.ref 46), some (.ref 54), some (.int x2), some (.int x3), some (.int x4), some (.int x5), some (.int x6), some (.int (r49 + 1)), some (.int r58), none, none, none, none]) (n := 63) rfl rfl rfl rfl ?_
          refine w_iload (n := 65) rfl rfl rfl ?_
          refine w_iload (n := 67) rfl rfl rfl ?_
          refine w_icmp_le (n := 70) rfl rfl ⟨fun hc => ?_, fun hc => ?_⟩
          · replace H := H.1 hc
            refine w_iload_n (n := 77) rfl rfl rfl ?_
            refine w_iload (n := 79) rfl rfl rfl ?_
            refine w_iload (n := 81) rfl rfl rfl ?_
            refine w_bipush (v := 8) (n := 83) rfl rfl rfl ?_
            refine w_imul (n := 84) rfl rfl ?_
            refine w_iadd (n := 85) rfl rfl ?_
            refine w_calli (as := [.int x2, .int (x4 + ((r49 + 1) * 8))]) (rest := []) (n := 88) rfl rfl rfl rfl ?_
            obtain ⟨r85, I85, hI85, H⟩ := H
            refine ⟨r85, I85, hI85, ?_⟩
            refine w_istore (ls' := [some (.ref 46), some (.ref 54), some (.int x2), some (.int x3), some (.int x4), some (.int x5), some (.int x6), some (.int (r49 + 1)), some (.int r58), some (.int r85), none, none, none]) (n := 90) rfl rfl rfl rfl ?_
            refine w_iload (n := 92) rfl rfl rfl ?_
            refine w_bipush (v := 14) (n := 94) rfl rfl rfl ?_
            refine w_icmp_ne (n := 97) rfl rfl ⟨fun hc => ?_, fun hc => ?_⟩
            · replace H := H.1 hc
              refine w_iconst (v := 0) (n := 106) rfl rfl rfl ?_
              refine w_istore (ls' := [some (.ref 46), some (.ref 54), some (.int x2), some (.int x3), some (.int x4), some (.int x5), some (.int x6), some (.int (r49 + 1)), some (.int r58), some (.int r85), some (.int 0), none, none]) (n := 108) rfl rfl rfl rfl ?_
              refine w_iload (n := 110) rfl rfl rfl ?_
              refine w_istore (ls' := [some (.ref 46), some (.ref 54), some (.int x2), some (.int x3), some (.int x4), some (.int x5), some (.int x6), some (.int (r49 + 1)), some (.int r58), some (.int r85), some (.int 0), some (.int x4), none]) (n := 112) rfl rfl rfl rfl ?_
              exact w_drp mm_Qf_v H (lb_s (lb_s (lb_s (lb_s (lb_n (lb_s (lb_s (lb_s (lb_s (lb_s (lb_s (lb_s (lb_n lb_e)))))))))))))
            · replace H := H.2 hc
              refine w_aload_nR (x := 46) (n := 98) rfl rfl rfl ?_
              refine w_iconst (v := 5) (n := 99) rfl rfl rfl ?_
              refine w_calli (as := [.ref 46, .int 5]) (rest := []) (n := 102) rfl rfl rfl rfl ?_
              obtain ⟨r99, I99, hI99, H⟩ := H
              refine ⟨r99, I99, hI99, ?_⟩
              refine w_goto rfl ?_
              refine w_istore (ls' := [some (.ref 46), some (.ref 54), some (.int x2), some (.int x3), some (.int x4), some (.int x5), some (.int x6), some (.int (r49 + 1)), some (.int r58), some (.int r85), some (.int r99), none, none]) (n := 108) rfl rfl rfl rfl ?_
              refine w_iload (n := 110) rfl rfl rfl ?_
              refine w_istore (ls' := [some (.ref 46), some (.ref 54), some (.int x2), some (.int x3), some (.int x4), some (.int x5), some (.int x6), some (.int (r49 + 1)), some (.int r58), some (.int r85), some (.int r99), some (.int x4), none]) (n := 112) rfl rfl rfl rfl ?_
              exact w_drp mm_Qf_v H (lb_s (lb_s (lb_s (lb_s (lb_n (lb_s (lb_s (lb_s (lb_s (lb_s (lb_s (lb_s (lb_n lb_e)))))))))))))
          · replace H := H.2 hc
            refine w_aload_nR (x := 46) (n := 71) rfl rfl rfl ?_
            refine w_iconst (v := 1) (n := 72) rfl rfl rfl ?_
            refine w_putZ (n := 75) rfl rfl rfl rfl rfl rfl ⟨by decide, ?_⟩
            exact w_vreturn rfl rfl H
theorem c_Reader_readRuns_112 {P : mm_I → Prop} {I : mm_I} {vv : Nat} (hs0 : vv = 53 ∨ vv = 54) (x2 : Int32) (x3 : Int32) (x5 : Int32) (x6 : Int32) (x7 : Int32) (x8 : Int32) (x9 : Int32) (x10 : Int32) (x11 : Int32)
  (H : (x9 ≤ x11 →
      mm_W 33 28 [some (.ref 46), some (.ref vv), some (.int x2), some (.int x3), some (.int x9), some (.int (x5 - x7)), some (.int (x6 + 1)), none, none, none, none, none, none] [] I (mm_qv 33 P)) ∧
    (x11 < x9 →
      (¬ (I 46 7) = 0 →
        mm_W 33 28 [some (.ref 46), some (.ref vv), some (.int x2), some (.int x3), some (.int x9), some (.int (x5 - x7)), some (.int (x6 + 1)), none, none, none, none, none, none] [] I (mm_qv 33 P)) ∧
      ((I 46 7) = 0 →
        (14 ≤ x8 →
          mm_Mi 29 [.ref 46, .int x10] I (fun r145 I145 =>  -- Reader.readSigned
          mm_Mi 22 [.ref 49, .int x3, .ref vv, .int x11] I145 (fun r161 I161 =>  -- Pred.guess
          vp_in x11 64 ∧
          mm_W 33 112 [some (.ref 46), some (.ref vv), some (.int x2), some (.int x3), none, some (.int x5), some (.int x6), some (.int x7), some (.int x8), some (.int x9), some (.int x10), some (.int (x11 + 1)), none] [] (mm_up I161 vv x11.toNatClampNeg (r161 + r145)) (mm_qv 33 P)))) ∧
        (x8 < 14 →
          mm_Mi 30 [.ref 46, .int x8] I (fun r136 I136 =>  -- Reader.readSplit
          mm_Mi 22 [.ref 49, .int x3, .ref vv, .int x11] I136 (fun r161 I161 =>  -- Pred.guess
          vp_in x11 64 ∧
          mm_W 33 112 [some (.ref 46), some (.ref vv), some (.int x2), some (.int x3), none, some (.int x5), some (.int x6), some (.int x7), some (.int x8), some (.int x9), some (.int x10), some (.int (x11 + 1)), none] [] (mm_up I161 vv x11.toNatClampNeg (r161 + r136)) (mm_qv 33 P))))))) : mm_W 33 112 [some (.ref 46), some (.ref vv), some (.int x2), some (.int x3), none, some (.int x5), some (.int x6), some (.int x7), some (.int x8), some (.int x9), some (.int x10), some (.int x11), none] [] I (mm_qv 33 P) := by
  rcases hs0 with rfl | rfl
  · refine w_iload (n := 114) rfl rfl rfl ?_
    refine w_iload (n := 116) rfl rfl rfl ?_
    refine w_icmp_ge (n := 119) rfl rfl ⟨fun hc => ?_, fun hc => ?_⟩
    · replace H := H.1 hc
      refine w_iload (n := 176) rfl rfl rfl ?_
      refine w_istore (ls' := [some (.ref 46), some (.ref 53), some (.int x2), some (.int x3), some (.int x9), some (.int x5), some (.int x6), some (.int x7), some (.int x8), some (.int x9), some (.int x10), some (.int x11), none]) (n := 178) rfl rfl rfl rfl ?_
      refine w_iload (n := 180) rfl rfl rfl ?_
      refine w_iload (n := 182) rfl rfl rfl ?_
      refine w_isub (n := 183) rfl rfl ?_
      refine w_istore (ls' := [some (.ref 46), some (.ref 53), some (.int x2), some (.int x3), some (.int x9), some (.int (x5 - x7)), some (.int x6), some (.int x7), some (.int x8), some (.int x9), some (.int x10), some (.int x11), none]) (n := 185) rfl rfl rfl rfl ?_
      refine w_iinc (y := x6 + 1) (ls' := [some (.ref 46), some (.ref 53), some (.int x2), some (.int x3), some (.int x9), some (.int (x5 - x7)), some (.int (x6 + 1)), some (.int x7), some (.int x8), some (.int x9), some (.int x10), some (.int x11), none]) (n := 188) rfl rfl rfl rfl rfl ?_
      refine w_goto rfl ?_
      exact w_drp mm_Qf_v H (lb_s (lb_s (lb_s (lb_s (lb_s (lb_s (lb_s (lb_n (lb_n (lb_n (lb_n (lb_n (lb_n lb_e)))))))))))))
    · replace H := H.2 hc
      refine w_aload_nR (x := 46) (n := 120) rfl rfl rfl ?_
      refine w_getI (n := 123) rfl rfl rfl rfl ?_
      refine w_if_ne (n := 126) rfl rfl ⟨fun hc => ?_, fun hc => ?_⟩
      · replace H := H.1 hc
        refine w_iload (n := 176) rfl rfl rfl ?_
        refine w_istore (ls' := [some (.ref 46), some (.ref 53), some (.int x2), some (.int x3), some (.int x9), some (.int x5), some (.int x6), some (.int x7), some (.int x8), some (.int x9), some (.int x10), some (.int x11), none]) (n := 178) rfl rfl rfl rfl ?_
        refine w_iload (n := 180) rfl rfl rfl ?_
        refine w_iload (n := 182) rfl rfl rfl ?_
        refine w_isub (n := 183) rfl rfl ?_
        refine w_istore (ls' := [some (.ref 46), some (.ref 53), some (.int x2), some (.int x3), some (.int x9), some (.int (x5 - x7)), some (.int x6), some (.int x7), some (.int x8), some (.int x9), some (.int x10), some (.int x11), none]) (n := 185) rfl rfl rfl rfl ?_
        refine w_iinc (y := x6 + 1) (ls' := [some (.ref 46), some (.ref 53), some (.int x2), some (.int x3), some (.int x9), some (.int (x5 - x7)), some (.int (x6 + 1)), some (.int x7), some (.int x8), some (.int x9), some (.int x10), some (.int x11), none]) (n := 188) rfl rfl rfl rfl rfl ?_
        refine w_goto rfl ?_
        exact w_drp mm_Qf_v H (lb_s (lb_s (lb_s (lb_s (lb_s (lb_s (lb_s (lb_n (lb_n (lb_n (lb_n (lb_n (lb_n lb_e)))))))))))))
      · replace H := H.2 hc
        refine w_iload (n := 128) rfl rfl rfl ?_
        refine w_bipush (v := 14) (n := 130) rfl rfl rfl ?_
        refine w_icmp_ge (n := 133) rfl rfl ⟨fun hc => ?_, fun hc => ?_⟩
        · replace H := H.1 hc
          refine w_aload_nR (x := 46) (n := 143) rfl rfl rfl ?_
          refine w_iload (n := 145) rfl rfl rfl ?_
          refine w_calli (as := [.ref 46, .int x10]) (rest := []) (n := 148) rfl rfl rfl rfl ?_
          obtain ⟨r145, I145, hI145, H⟩ := H
          refine ⟨r145, I145, hI145, ?_⟩
          refine w_istore (ls' := [some (.ref 46), some (.ref 53), some (.int x2), some (.int x3), none, some (.int x5), some (.int x6), some (.int x7), some (.int x8), some (.int x9), some (.int x10), some (.int x11), some (.int r145)]) (n := 150) rfl rfl rfl rfl ?_
          refine w_aload_nR (x := 53) (n := 151) rfl rfl rfl ?_
          refine w_iload (n := 153) rfl rfl rfl ?_
          refine w_aload_nR (x := 46) (n := 154) rfl rfl rfl ?_
          refine w_getR (b := 49) (n := 157) rfl rfl rfl rfl rfl ?_
          refine w_iload_n (n := 158) rfl rfl rfl ?_
          refine w_aload_nR (x := 53) (n := 159) rfl rfl rfl ?_
          refine w_iload (n := 161) rfl rfl rfl ?_
          refine w_calli (as := [.ref 49, .int x3, .ref 53, .int x11]) (rest := [.int x11, .ref 53]) (n := 164) rfl rfl rfl rfl ?_
          obtain ⟨r161, I161, hI161, H⟩ := H
          refine ⟨r161, I161, hI161, ?_⟩
          refine w_iload (n := 166) rfl rfl rfl ?_
          refine w_iadd (n := 167) rfl rfl ?_
          refine w_iastore (N := 64) (j := x11.toNatClampNeg) (n := 168) rfl rfl rfl rfl rfl ⟨H.1, ?_⟩
          replace H := H.2
          refine w_iinc (y := x11 + 1) (ls' := [some (.ref 46), some (.ref 53), some (.int x2), some (.int x3), none, some (.int x5), some (.int x6), some (.int x7), some (.int x8), some (.int x9), some (.int x10), some (.int (x11 + 1)), some (.int r145)]) (n := 171) rfl rfl rfl rfl rfl ?_
          refine w_goto rfl ?_
          exact w_drp mm_Qf_v H (lb_s (lb_s (lb_s (lb_s (lb_n (lb_s (lb_s (lb_s (lb_s (lb_s (lb_s (lb_s (lb_n lb_e)))))))))))))
        · replace H := H.2 hc
          refine w_aload_nR (x := 46) (n := 134) rfl rfl rfl ?_
          refine w_iload (n := 136) rfl rfl rfl ?_
          refine w_calli (as := [.ref 46, .int x8]) (rest := []) (n := 139) rfl rfl rfl rfl ?_
          obtain ⟨r136, I136, hI136, H⟩ := H
          refine ⟨r136, I136, hI136, ?_⟩
          refine w_goto rfl ?_
          refine w_istore (ls' := [some (.ref 46), some (.ref 53), some (.int x2), some (.int x3), none, some (.int x5), some (.int x6), some (.int x7), some (.int x8), some (.int x9), some (.int x10), some (.int x11), some (.int r136)]) (n := 150) rfl rfl rfl rfl ?_
          refine w_aload_nR (x := 53) (n := 151) rfl rfl rfl ?_
          refine w_iload (n := 153) rfl rfl rfl ?_
          refine w_aload_nR (x := 46) (n := 154) rfl rfl rfl ?_
          refine w_getR (b := 49) (n := 157) rfl rfl rfl rfl rfl ?_
          refine w_iload_n (n := 158) rfl rfl rfl ?_
          refine w_aload_nR (x := 53) (n := 159) rfl rfl rfl ?_
          refine w_iload (n := 161) rfl rfl rfl ?_
          refine w_calli (as := [.ref 49, .int x3, .ref 53, .int x11]) (rest := [.int x11, .ref 53]) (n := 164) rfl rfl rfl rfl ?_
          obtain ⟨r161, I161, hI161, H⟩ := H
          refine ⟨r161, I161, hI161, ?_⟩
          refine w_iload (n := 166) rfl rfl rfl ?_
          refine w_iadd (n := 167) rfl rfl ?_
          refine w_iastore (N := 64) (j := x11.toNatClampNeg) (n := 168) rfl rfl rfl rfl rfl ⟨H.1, ?_⟩
          replace H := H.2
          refine w_iinc (y := x11 + 1) (ls' := [some (.ref 46), some (.ref 53), some (.int x2), some (.int x3), none, some (.int x5), some (.int x6), some (.int x7), some (.int x8), some (.int x9), some (.int x10), some (.int (x11 + 1)), some (.int r136)]) (n := 171) rfl rfl rfl rfl rfl ?_
          refine w_goto rfl ?_
          exact w_drp mm_Qf_v H (lb_s (lb_s (lb_s (lb_s (lb_n (lb_s (lb_s (lb_s (lb_s (lb_s (lb_s (lb_s (lb_n lb_e)))))))))))))
  · refine w_iload (n := 114) rfl rfl rfl ?_
    refine w_iload (n := 116) rfl rfl rfl ?_
    refine w_icmp_ge (n := 119) rfl rfl ⟨fun hc => ?_, fun hc => ?_⟩
    · replace H := H.1 hc
      refine w_iload (n := 176) rfl rfl rfl ?_
      refine w_istore (ls' := [some (.ref 46), some (.ref 54), some (.int x2), some (.int x3), some (.int x9), some (.int x5), some (.int x6), some (.int x7), some (.int x8), some (.int x9), some (.int x10), some (.int x11), none]) (n := 178) rfl rfl rfl rfl ?_
      refine w_iload (n := 180) rfl rfl rfl ?_
      refine w_iload (n := 182) rfl rfl rfl ?_
      refine w_isub (n := 183) rfl rfl ?_
      refine w_istore (ls' := [some (.ref 46), some (.ref 54), some (.int x2), some (.int x3), some (.int x9), some (.int (x5 - x7)), some (.int x6), some (.int x7), some (.int x8), some (.int x9), some (.int x10), some (.int x11), none]) (n := 185) rfl rfl rfl rfl ?_
      refine w_iinc (y := x6 + 1) (ls' := [some (.ref 46), some (.ref 54), some (.int x2), some (.int x3), some (.int x9), some (.int (x5 - x7)), some (.int (x6 + 1)), some (.int x7), some (.int x8), some (.int x9), some (.int x10), some (.int x11), none]) (n := 188) rfl rfl rfl rfl rfl ?_
      refine w_goto rfl ?_
      exact w_drp mm_Qf_v H (lb_s (lb_s (lb_s (lb_s (lb_s (lb_s (lb_s (lb_n (lb_n (lb_n (lb_n (lb_n (lb_n lb_e)))))))))))))
    · replace H := H.2 hc
      refine w_aload_nR (x := 46) (n := 120) rfl rfl rfl ?_
      refine w_getI (n := 123) rfl rfl rfl rfl ?_
      refine w_if_ne (n := 126) rfl rfl ⟨fun hc => ?_, fun hc => ?_⟩
      · replace H := H.1 hc
        refine w_iload (n := 176) rfl rfl rfl ?_
        refine w_istore (ls' := [some (.ref 46), some (.ref 54), some (.int x2), some (.int x3), some (.int x9), some (.int x5), some (.int x6), some (.int x7), some (.int x8), some (.int x9), some (.int x10), some (.int x11), none]) (n := 178) rfl rfl rfl rfl ?_
        refine w_iload (n := 180) rfl rfl rfl ?_
        refine w_iload (n := 182) rfl rfl rfl ?_
        refine w_isub (n := 183) rfl rfl ?_
        refine w_istore (ls' := [some (.ref 46), some (.ref 54), some (.int x2), some (.int x3), some (.int x9), some (.int (x5 - x7)), some (.int x6), some (.int x7), some (.int x8), some (.int x9), some (.int x10), some (.int x11), none]) (n := 185) rfl rfl rfl rfl ?_
        refine w_iinc (y := x6 + 1) (ls' := [some (.ref 46), some (.ref 54), some (.int x2), some (.int x3), some (.int x9), some (.int (x5 - x7)), some (.int (x6 + 1)), some (.int x7), some (.int x8), some (.int x9), some (.int x10), some (.int x11), none]) (n := 188) rfl rfl rfl rfl rfl ?_
        refine w_goto rfl ?_
        exact w_drp mm_Qf_v H (lb_s (lb_s (lb_s (lb_s (lb_s (lb_s (lb_s (lb_n (lb_n (lb_n (lb_n (lb_n (lb_n lb_e)))))))))))))
      · replace H := H.2 hc
        refine w_iload (n := 128) rfl rfl rfl ?_
        refine w_bipush (v := 14) (n := 130) rfl rfl rfl ?_
        refine w_icmp_ge (n := 133) rfl rfl ⟨fun hc => ?_, fun hc => ?_⟩
        · replace H := H.1 hc
          refine w_aload_nR (x := 46) (n := 143) rfl rfl rfl ?_
          refine w_iload (n := 145) rfl rfl rfl ?_
          refine w_calli (as := [.ref 46, .int x10]) (rest := []) (n := 148) rfl rfl rfl rfl ?_
          obtain ⟨r145, I145, hI145, H⟩ := H
          refine ⟨r145, I145, hI145, ?_⟩
          refine w_istore (ls' := [some (.ref 46), some (.ref 54), some (.int x2), some (.int x3), none, some (.int x5), some (.int x6), some (.int x7), some (.int x8), some (.int x9), some (.int x10), some (.int x11), some (.int r145)]) (n := 150) rfl rfl rfl rfl ?_
          refine w_aload_nR (x := 54) (n := 151) rfl rfl rfl ?_
          refine w_iload (n := 153) rfl rfl rfl ?_
          refine w_aload_nR (x := 46) (n := 154) rfl rfl rfl ?_
          refine w_getR (b := 49) (n := 157) rfl rfl rfl rfl rfl ?_
          refine w_iload_n (n := 158) rfl rfl rfl ?_
          refine w_aload_nR (x := 54) (n := 159) rfl rfl rfl ?_
          refine w_iload (n := 161) rfl rfl rfl ?_
          refine w_calli (as := [.ref 49, .int x3, .ref 54, .int x11]) (rest := [.int x11, .ref 54]) (n := 164) rfl rfl rfl rfl ?_
          obtain ⟨r161, I161, hI161, H⟩ := H
          refine ⟨r161, I161, hI161, ?_⟩
          refine w_iload (n := 166) rfl rfl rfl ?_
          refine w_iadd (n := 167) rfl rfl ?_
          refine w_iastore (N := 64) (j := x11.toNatClampNeg) (n := 168) rfl rfl rfl rfl rfl ⟨H.1, ?_⟩
          replace H := H.2
          refine w_iinc (y := x11 + 1) (ls' := [some (.ref 46), some (.ref 54), some (.int x2), some (.int x3), none, some (.int x5), some (.int x6), some (.int x7), some (.int x8), some (.int x9), some (.int x10), some (.int (x11 + 1)), some (.int r145)]) (n := 171) rfl rfl rfl rfl rfl ?_
          refine w_goto rfl ?_
          exact w_drp mm_Qf_v H (lb_s (lb_s (lb_s (lb_s (lb_n (lb_s (lb_s (lb_s (lb_s (lb_s (lb_s (lb_s (lb_n lb_e)))))))))))))
        · replace H := H.2 hc
          refine w_aload_nR (x := 46) (n := 134) rfl rfl rfl ?_
          refine w_iload (n := 136) rfl rfl rfl ?_
          refine w_calli (as := [.ref 46, .int x8]) (rest := []) (n := 139) rfl rfl rfl rfl ?_
          obtain ⟨r136, I136, hI136, H⟩ := H
          refine ⟨r136, I136, hI136, ?_⟩
          refine w_goto rfl ?_
          refine w_istore (ls' := [some (.ref 46), some (.ref 54), some (.int x2), some (.int x3), none, some (.int x5), some (.int x6), some (.int x7), some (.int x8), some (.int x9), some (.int x10), some (.int x11), some (.int r136)]) (n := 150) rfl rfl rfl rfl ?_
          refine w_aload_nR (x := 54) (n := 151) rfl rfl rfl ?_
          refine w_iload (n := 153) rfl rfl rfl ?_
          refine w_aload_nR (x := 46) (n := 154) rfl rfl rfl ?_
          refine w_getR (b := 49) (n := 157) rfl rfl rfl rfl rfl ?_
          refine w_iload_n (n := 158) rfl rfl rfl ?_
          refine w_aload_nR (x := 54) (n := 159) rfl rfl rfl ?_
          refine w_iload (n := 161) rfl rfl rfl ?_
          refine w_calli (as := [.ref 49, .int x3, .ref 54, .int x11]) (rest := [.int x11, .ref 54]) (n := 164) rfl rfl rfl rfl ?_
          obtain ⟨r161, I161, hI161, H⟩ := H
          refine ⟨r161, I161, hI161, ?_⟩
          refine w_iload (n := 166) rfl rfl rfl ?_
          refine w_iadd (n := 167) rfl rfl ?_
          refine w_iastore (N := 64) (j := x11.toNatClampNeg) (n := 168) rfl rfl rfl rfl rfl ⟨H.1, ?_⟩
          replace H := H.2
          refine w_iinc (y := x11 + 1) (ls' := [some (.ref 46), some (.ref 54), some (.int x2), some (.int x3), none, some (.int x5), some (.int x6), some (.int x7), some (.int x8), some (.int x9), some (.int x10), some (.int (x11 + 1)), some (.int r136)]) (n := 171) rfl rfl rfl rfl rfl ?_
          refine w_goto rfl ?_
          exact w_drp mm_Qf_v H (lb_s (lb_s (lb_s (lb_s (lb_n (lb_s (lb_s (lb_s (lb_s (lb_s (lb_s (lb_s (lb_n lb_e)))))))))))))
theorem e_Reader_part {P : mm_I → Prop} {I : mm_I} (x1 : Int32) (x2 : Int32)
  (H : mm_W 34 2 [some (.ref 46), some (.int x1), some (.int x2), some (.int 0), none, none] [] I (mm_qv 34 P)) : mm_Mv 34 [.ref 46, .int x1, .int x2] I P := by
  refine mm_Mv_of ?_
  show mm_W 34 0 [some (.ref 46), some (.int x1), some (.int x2), none, none, none] [] I (mm_qv 34 P)
  refine w_iconst (v := 0) (n := 1) rfl rfl rfl ?_
  refine w_istore_n (ls' := [some (.ref 46), some (.int x1), some (.int x2), some (.int 0), none, none]) (n := 2) rfl rfl rfl rfl ?_
  exact w_drp mm_Qf_v H (lb_s (lb_s (lb_s (lb_s (lb_n (lb_n lb_e))))))
theorem c_Reader_part_2 {P : mm_I → Prop} {I : mm_I} (x1 : Int32) (x2 : Int32) (x3 : Int32)
  (H : (x2 ≤ x3 →
      P I) ∧
    (x3 < x2 →
      vp_in x3 64 ∧
      vp_in x3 64 ∧
      (¬ x1 = 1 →
        (¬ x1 = 2 →
          (¬ x1 = 3 →
            mm_W 34 2 [some (.ref 46), some (.int x1), some (.int x2), some (.int (x3 + 1)), none, none] [] I (mm_qv 34 P)) ∧
          (x1 = 3 →
            vp_in x3 64 ∧
            vp_in x3 64 ∧
            vp_in x3 64 ∧
            mm_W 34 2 [some (.ref 46), some (.int x1), some (.int x2), some (.int (x3 + 1)), none, none] [] (mm_up (mm_up I 53 x3.toNatClampNeg ((((2 * (I 53 x3.toNatClampNeg)) + ((I 54 x3.toNatClampNeg) &&& 1)) + (I 54 x3.toNatClampNeg)) >>> (1 &&& 31))) 54 x3.toNatClampNeg (((mm_up I 53 x3.toNatClampNeg ((((2 * (I 53 x3.toNatClampNeg)) + ((I 54 x3.toNatClampNeg) &&& 1)) + (I 54 x3.toNatClampNeg)) >>> (1 &&& 31))) 53 x3.toNatClampNeg) - (I 54 x3.toNatClampNeg))) (mm_qv 34 P))) ∧
        (x1 = 2 →
          vp_in x3 64 ∧
          mm_W 34 2 [some (.ref 46), some (.int x1), some (.int x2), some (.int (x3 + 1)), none, none] [] (mm_up I 53 x3.toNatClampNeg ((I 53 x3.toNatClampNeg) + (I 54 x3.toNatClampNeg))) (mm_qv 34 P))) ∧
      (x1 = 1 →
        vp_in x3 64 ∧
        mm_W 34 2 [some (.ref 46), some (.int x1), some (.int x2), some (.int (x3 + 1)), none, none] [] (mm_up I 54 x3.toNatClampNeg ((I 53 x3.toNatClampNeg) - (I 54 x3.toNatClampNeg))) (mm_qv 34 P)))) : mm_W 34 2 [some (.ref 46), some (.int x1), some (.int x2), some (.int x3), none, none] [] I (mm_qv 34 P) := by
  refine w_iload_n (n := 3) rfl rfl rfl ?_
  refine w_iload_n (n := 4) rfl rfl rfl ?_
  refine w_icmp_ge (n := 7) rfl rfl ⟨fun hc => ?_, fun hc => ?_⟩
  · replace H := H.1 hc
    exact w_vreturn rfl rfl H
  · replace H := H.2 hc
    refine w_aload_nR (x := 46) (n := 8) rfl rfl rfl ?_
    refine w_getR (b := 53) (n := 11) rfl rfl rfl rfl rfl ?_
    refine w_iload_n (n := 12) rfl rfl rfl ?_
    refine w_iaload (N := 64) (j := x3.toNatClampNeg) (n := 13) rfl rfl rfl rfl rfl rfl ⟨H.1, ?_⟩
    replace H := H.2
    refine w_istore (ls' := [some (.ref 46), some (.int x1), some (.int x2), some (.int x3), some (.int (I 53 x3.toNatClampNeg)), none]) (n := 15) rfl rfl rfl rfl ?_
    refine w_aload_nR (x := 46) (n := 16) rfl rfl rfl ?_
    refine w_getR (b := 54) (n := 19) rfl rfl rfl rfl rfl ?_
    refine w_iload_n (n := 20) rfl rfl rfl ?_
    refine w_iaload (N := 64) (j := x3.toNatClampNeg) (n := 21) rfl rfl rfl rfl rfl rfl ⟨H.1, ?_⟩
    replace H := H.2
    refine w_istore (ls' := [some (.ref 46), some (.int x1), some (.int x2), some (.int x3), some (.int (I 53 x3.toNatClampNeg)), some (.int (I 54 x3.toNatClampNeg))]) (n := 23) rfl rfl rfl rfl ?_
    refine w_iload_n (n := 24) rfl rfl rfl ?_
    refine w_iconst (v := 1) (n := 25) rfl rfl rfl ?_
    refine w_icmp_ne (n := 28) rfl rfl ⟨fun hc => ?_, fun hc => ?_⟩
    · replace H := H.1 hc
      refine w_iload_n (n := 43) rfl rfl rfl ?_
      refine w_iconst (v := 2) (n := 44) rfl rfl rfl ?_
      refine w_icmp_ne (n := 47) rfl rfl ⟨fun hc => ?_, fun hc => ?_⟩
      · replace H := H.1 hc
        refine w_iload_n (n := 62) rfl rfl rfl ?_
        refine w_iconst (v := 3) (n := 63) rfl rfl rfl ?_
        refine w_icmp_ne (n := 66) rfl rfl ⟨fun hc => ?_, fun hc => ?_⟩
        · replace H := H.1 hc
          refine w_iinc (y := x3 + 1) (ls' := [some (.ref 46), some (.int x1), some (.int x2), some (.int (x3 + 1)), some (.int (I 53 x3.toNatClampNeg)), some (.int (I 54 x3.toNatClampNeg))]) (n := 104) rfl rfl rfl rfl rfl ?_
          refine w_goto rfl ?_
          exact w_drp mm_Qf_v H (lb_s (lb_s (lb_s (lb_s (lb_n (lb_n lb_e))))))
        · replace H := H.2 hc
          refine w_aload_nR (x := 46) (n := 67) rfl rfl rfl ?_
          refine w_getR (b := 53) (n := 70) rfl rfl rfl rfl rfl ?_
          refine w_iload_n (n := 71) rfl rfl rfl ?_
          refine w_iconst (v := 2) (n := 72) rfl rfl rfl ?_
          refine w_iload (n := 74) rfl rfl rfl ?_
          refine w_imul (n := 75) rfl rfl ?_
          refine w_iload (n := 77) rfl rfl rfl ?_
          refine w_iconst (v := 1) (n := 78) rfl rfl rfl ?_
          refine w_iand (n := 79) rfl rfl ?_
          refine w_iadd (n := 80) rfl rfl ?_
          refine w_iload (n := 82) rfl rfl rfl ?_
          refine w_iadd (n := 83) rfl rfl ?_
          refine w_iconst (v := 1) (n := 84) rfl rfl rfl ?_
          refine w_ishr (n := 85) rfl rfl ?_
          refine w_iastore (N := 64) (j := x3.toNatClampNeg) (n := 86) rfl rfl rfl rfl rfl ⟨H.1, ?_⟩
          replace H := H.2
          refine w_aload_nR (x := 46) (n := 87) rfl rfl rfl ?_
          refine w_getR (b := 54) (n := 90) rfl rfl rfl rfl rfl ?_
          refine w_iload_n (n := 91) rfl rfl rfl ?_
          refine w_aload_nR (x := 46) (n := 92) rfl rfl rfl ?_
          refine w_getR (b := 53) (n := 95) rfl rfl rfl rfl rfl ?_
          refine w_iload_n (n := 96) rfl rfl rfl ?_
          refine w_iaload (N := 64) (j := x3.toNatClampNeg) (n := 97) rfl rfl rfl rfl rfl rfl ⟨H.1, ?_⟩
          replace H := H.2
          refine w_iload (n := 99) rfl rfl rfl ?_
          refine w_isub (n := 100) rfl rfl ?_
          refine w_iastore (N := 64) (j := x3.toNatClampNeg) (n := 101) rfl rfl rfl rfl rfl ⟨H.1, ?_⟩
          replace H := H.2
          refine w_iinc (y := x3 + 1) (ls' := [some (.ref 46), some (.int x1), some (.int x2), some (.int (x3 + 1)), some (.int (I 53 x3.toNatClampNeg)), some (.int (I 54 x3.toNatClampNeg))]) (n := 104) rfl rfl rfl rfl rfl ?_
          refine w_goto rfl ?_
          exact w_drp mm_Qf_v H (lb_s (lb_s (lb_s (lb_s (lb_n (lb_n lb_e))))))
      · replace H := H.2 hc
        refine w_aload_nR (x := 46) (n := 48) rfl rfl rfl ?_
        refine w_getR (b := 53) (n := 51) rfl rfl rfl rfl rfl ?_
        refine w_iload_n (n := 52) rfl rfl rfl ?_
        refine w_iload (n := 54) rfl rfl rfl ?_
        refine w_iload (n := 56) rfl rfl rfl ?_
        refine w_iadd (n := 57) rfl rfl ?_
        refine w_iastore (N := 64) (j := x3.toNatClampNeg) (n := 58) rfl rfl rfl rfl rfl ⟨H.1, ?_⟩
        replace H := H.2
        refine w_goto rfl ?_
        refine w_iinc (y := x3 + 1) (ls' := [some (.ref 46), some (.int x1), some (.int x2), some (.int (x3 + 1)), some (.int (I 53 x3.toNatClampNeg)), some (.int (I 54 x3.toNatClampNeg))]) (n := 104) rfl rfl rfl rfl rfl ?_
        refine w_goto rfl ?_
        exact w_drp mm_Qf_v H (lb_s (lb_s (lb_s (lb_s (lb_n (lb_n lb_e))))))
    · replace H := H.2 hc
      refine w_aload_nR (x := 46) (n := 29) rfl rfl rfl ?_
      refine w_getR (b := 54) (n := 32) rfl rfl rfl rfl rfl ?_
      refine w_iload_n (n := 33) rfl rfl rfl ?_
      refine w_iload (n := 35) rfl rfl rfl ?_
      refine w_iload (n := 37) rfl rfl rfl ?_
      refine w_isub (n := 38) rfl rfl ?_
      refine w_iastore (N := 64) (j := x3.toNatClampNeg) (n := 39) rfl rfl rfl rfl rfl ⟨H.1, ?_⟩
      replace H := H.2
      refine w_goto rfl ?_
      refine w_iinc (y := x3 + 1) (ls' := [some (.ref 46), some (.int x1), some (.int x2), some (.int (x3 + 1)), some (.int (I 53 x3.toNatClampNeg)), some (.int (I 54 x3.toNatClampNeg))]) (n := 104) rfl rfl rfl rfl rfl ?_
      refine w_goto rfl ?_
      exact w_drp mm_Qf_v H (lb_s (lb_s (lb_s (lb_s (lb_n (lb_n lb_e))))))
theorem e_Reader_isOfWidth {P : Int32 → mm_I → Prop} {I : mm_I} {vv : Nat} (hs0 : vv = 53 ∨ vv = 54) (x2 : Int32)
  (H : mm_W 35 21 [none, some (.ref vv), some (.int x2), some (.int (if (I 46 3) = 8 then (128 : Int32) else 32768)), some (.int 0)] [] I (mm_qi 35 P)) : mm_Mi 35 [.ref 46, .ref vv, .int x2] I P := by
  rcases hs0 with rfl | rfl
  · refine mm_Mi_of ?_
    show mm_W 35 0 [some (.ref 46), some (.ref 53), some (.int x2), none, none] [] I (mm_qi 35 P)
    refine w_aload_nR (x := 46) (n := 1) rfl rfl rfl ?_
    refine w_getI (n := 4) rfl rfl rfl rfl ?_
    refine w_bipush (v := 8) (n := 6) rfl rfl rfl ?_
    have J6 : ∀ (w6_0 : Int32), w6_0 = (if (I 46 3) = 8 then (128 : Int32) else 32768) → mm_W 35 17 [some (.ref 46), some (.ref 53), some (.int x2), none, none] [.int w6_0] I (mm_qi 35 P) := by
      intro w6_0 e6_0
      subst e6_0
      refine w_istore_n (ls' := [some (.ref 46), some (.ref 53), some (.int x2), some (.int (if (I 46 3) = 8 then (128 : Int32) else 32768)), none]) (n := 18) rfl rfl rfl rfl ?_
      refine w_iconst (v := 0) (n := 19) rfl rfl rfl ?_
      refine w_istore (ls' := [some (.ref 46), some (.ref 53), some (.int x2), some (.int (if (I 46 3) = 8 then (128 : Int32) else 32768)), some (.int 0)]) (n := 21) rfl rfl rfl rfl ?_
      exact w_drp mm_Qf_i H (lb_n (lb_s (lb_s (lb_s (lb_s lb_e)))))
    refine w_icmp_ne (n := 9) rfl rfl ⟨fun hc => ?_, fun hc => ?_⟩
    · refine w_ldc (v := 32768) (n := 17) rfl rfl rfl ?_
      refine w_drp mm_Qf_i (J6 _ ?_) (lb_s (lb_s (lb_s (lb_n (lb_n lb_e)))))
      · exact (if_neg hc).symm
    · refine w_sipush (v := 128) (n := 12) rfl rfl rfl ?_
      refine w_goto rfl ?_
      refine w_drp mm_Qf_i (J6 _ ?_) (lb_s (lb_s (lb_s (lb_n (lb_n lb_e)))))
      · exact (if_pos hc).symm
  · refine mm_Mi_of ?_
    show mm_W 35 0 [some (.ref 46), some (.ref 54), some (.int x2), none, none] [] I (mm_qi 35 P)
    refine w_aload_nR (x := 46) (n := 1) rfl rfl rfl ?_
    refine w_getI (n := 4) rfl rfl rfl rfl ?_
    refine w_bipush (v := 8) (n := 6) rfl rfl rfl ?_
    have J6 : ∀ (w6_0 : Int32), w6_0 = (if (I 46 3) = 8 then (128 : Int32) else 32768) → mm_W 35 17 [some (.ref 46), some (.ref 54), some (.int x2), none, none] [.int w6_0] I (mm_qi 35 P) := by
      intro w6_0 e6_0
      subst e6_0
      refine w_istore_n (ls' := [some (.ref 46), some (.ref 54), some (.int x2), some (.int (if (I 46 3) = 8 then (128 : Int32) else 32768)), none]) (n := 18) rfl rfl rfl rfl ?_
      refine w_iconst (v := 0) (n := 19) rfl rfl rfl ?_
      refine w_istore (ls' := [some (.ref 46), some (.ref 54), some (.int x2), some (.int (if (I 46 3) = 8 then (128 : Int32) else 32768)), some (.int 0)]) (n := 21) rfl rfl rfl rfl ?_
      exact w_drp mm_Qf_i H (lb_n (lb_s (lb_s (lb_s (lb_s lb_e)))))
    refine w_icmp_ne (n := 9) rfl rfl ⟨fun hc => ?_, fun hc => ?_⟩
    · refine w_ldc (v := 32768) (n := 17) rfl rfl rfl ?_
      refine w_drp mm_Qf_i (J6 _ ?_) (lb_s (lb_s (lb_s (lb_n (lb_n lb_e)))))
      · exact (if_neg hc).symm
    · refine w_sipush (v := 128) (n := 12) rfl rfl rfl ?_
      refine w_goto rfl ?_
      refine w_drp mm_Qf_i (J6 _ ?_) (lb_s (lb_s (lb_s (lb_n (lb_n lb_e)))))
      · exact (if_pos hc).symm
theorem c_Reader_isOfWidth_21 {P : Int32 → mm_I → Prop} {I : mm_I} {vv : Nat} (hs0 : vv = 53 ∨ vv = 54) (x2 : Int32) (x3 : Int32) (x4 : Int32)
  (H : (x2 ≤ x4 →
      P 1 I) ∧
    (x4 < x2 →
      vp_in x4 64 ∧
      ((I vv x4.toNatClampNeg) < (-x3) →
        P 0 I) ∧
      ((-x3) ≤ (I vv x4.toNatClampNeg) →
        vp_in x4 64 ∧
        ((I vv x4.toNatClampNeg) < x3 →
          mm_W 35 21 [none, some (.ref vv), some (.int x2), some (.int x3), some (.int (x4 + 1))] [] I (mm_qi 35 P)) ∧
        (x3 ≤ (I vv x4.toNatClampNeg) →
          P 0 I)))) : mm_W 35 21 [none, some (.ref vv), some (.int x2), some (.int x3), some (.int x4)] [] I (mm_qi 35 P) := by
  rcases hs0 with rfl | rfl
  · refine w_iload (n := 23) rfl rfl rfl ?_
    refine w_iload_n (n := 24) rfl rfl rfl ?_
    refine w_icmp_ge (n := 27) rfl rfl ⟨fun hc => ?_, fun hc => ?_⟩
    · replace H := H.1 hc
      refine w_iconst (v := 1) (n := 53) rfl rfl rfl ?_
      exact w_zreturn rfl rfl ⟨by decide, H⟩
    · replace H := H.2 hc
      refine w_aload_nR (x := 53) (n := 28) rfl rfl rfl ?_
      refine w_iload (n := 30) rfl rfl rfl ?_
      refine w_iaload (N := 64) (j := x4.toNatClampNeg) (n := 31) rfl rfl rfl rfl rfl rfl ⟨H.1, ?_⟩
      replace H := H.2
      refine w_iload_n (n := 32) rfl rfl rfl ?_
      refine w_ineg (n := 33) rfl rfl ?_
      refine w_icmp_lt (n := 36) rfl rfl ⟨fun hc => ?_, fun hc => ?_⟩
      · replace H := H.1 hc
        refine w_iconst (v := 0) (n := 45) rfl rfl rfl ?_
        exact w_zreturn rfl rfl ⟨by decide, H⟩
      · replace H := H.2 hc
        refine w_aload_nR (x := 53) (n := 37) rfl rfl rfl ?_
        refine w_iload (n := 39) rfl rfl rfl ?_
        refine w_iaload (N := 64) (j := x4.toNatClampNeg) (n := 40) rfl rfl rfl rfl rfl rfl ⟨H.1, ?_⟩
        replace H := H.2
        refine w_iload_n (n := 41) rfl rfl rfl ?_
        refine w_icmp_lt (n := 44) rfl rfl ⟨fun hc => ?_, fun hc => ?_⟩
        · replace H := H.1 hc
          refine w_iinc (y := x4 + 1) (ls' := [none, some (.ref 53), some (.int x2), some (.int x3), some (.int (x4 + 1))]) (n := 49) rfl rfl rfl rfl rfl ?_
          refine w_goto rfl ?_
          exact w_drp mm_Qf_i H (lb_n (lb_s (lb_s (lb_s (lb_s lb_e)))))
        · replace H := H.2 hc
          refine w_iconst (v := 0) (n := 45) rfl rfl rfl ?_
          exact w_zreturn rfl rfl ⟨by decide, H⟩
  · refine w_iload (n := 23) rfl rfl rfl ?_
    refine w_iload_n (n := 24) rfl rfl rfl ?_
    refine w_icmp_ge (n := 27) rfl rfl ⟨fun hc => ?_, fun hc => ?_⟩
    · replace H := H.1 hc
      refine w_iconst (v := 1) (n := 53) rfl rfl rfl ?_
      exact w_zreturn rfl rfl ⟨by decide, H⟩
    · replace H := H.2 hc
      refine w_aload_nR (x := 54) (n := 28) rfl rfl rfl ?_
      refine w_iload (n := 30) rfl rfl rfl ?_
      refine w_iaload (N := 64) (j := x4.toNatClampNeg) (n := 31) rfl rfl rfl rfl rfl rfl ⟨H.1, ?_⟩
      replace H := H.2
      refine w_iload_n (n := 32) rfl rfl rfl ?_
      refine w_ineg (n := 33) rfl rfl ?_
      refine w_icmp_lt (n := 36) rfl rfl ⟨fun hc => ?_, fun hc => ?_⟩
      · replace H := H.1 hc
        refine w_iconst (v := 0) (n := 45) rfl rfl rfl ?_
        exact w_zreturn rfl rfl ⟨by decide, H⟩
      · replace H := H.2 hc
        refine w_aload_nR (x := 54) (n := 37) rfl rfl rfl ?_
        refine w_iload (n := 39) rfl rfl rfl ?_
        refine w_iaload (N := 64) (j := x4.toNatClampNeg) (n := 40) rfl rfl rfl rfl rfl rfl ⟨H.1, ?_⟩
        replace H := H.2
        refine w_iload_n (n := 41) rfl rfl rfl ?_
        refine w_icmp_lt (n := 44) rfl rfl ⟨fun hc => ?_, fun hc => ?_⟩
        · replace H := H.1 hc
          refine w_iinc (y := x4 + 1) (ls' := [none, some (.ref 54), some (.int x2), some (.int x3), some (.int (x4 + 1))]) (n := 49) rfl rfl rfl rfl rfl ?_
          refine w_goto rfl ?_
          exact w_drp mm_Qf_i H (lb_n (lb_s (lb_s (lb_s (lb_s lb_e)))))
        · replace H := H.2 hc
          refine w_iconst (v := 0) (n := 45) rfl rfl rfl ?_
          exact w_zreturn rfl rfl ⟨by decide, H⟩
theorem e_Reader_find {P : mm_I → Prop} {I : mm_I}
  (H : mm_Mv 37 [.ref 46] I (fun I1 =>  -- Reader.forgetFound
    mm_W 36 12 [some (.ref 46), some (.int 0), some (.int 21), some (.int 21), none, none] [] I1 (mm_qv 36 P))) : mm_Mv 36 [.ref 46] I P := by
  refine mm_Mv_of ?_
  show mm_W 36 0 [some (.ref 46), none, none, none, none, none] [] I (mm_qv 36 P)
  refine w_aload_nR (x := 46) (n := 1) rfl rfl rfl ?_
  refine w_callv (as := [.ref 46]) (rest := []) (n := 4) rfl rfl rfl rfl ?_
  obtain ⟨I1, hI1, H⟩ := H
  refine ⟨I1, hI1, ?_⟩
  refine w_iconst (v := 0) (n := 5) rfl rfl rfl ?_
  refine w_istore_n (ls' := [some (.ref 46), some (.int 0), none, none, none, none]) (n := 6) rfl rfl rfl rfl ?_
  refine w_bipush (v := 21) (n := 8) rfl rfl rfl ?_
  refine w_istore_n (ls' := [some (.ref 46), some (.int 0), some (.int 21), none, none, none]) (n := 9) rfl rfl rfl rfl ?_
  refine w_bipush (v := 21) (n := 11) rfl rfl rfl ?_
  refine w_istore_n (ls' := [some (.ref 46), some (.int 0), some (.int 21), some (.int 21), none, none]) (n := 12) rfl rfl rfl rfl ?_
  exact w_drp mm_Qf_v H (lb_s (lb_s (lb_s (lb_s (lb_n (lb_n lb_e))))))
theorem c_Reader_find_12 {P : mm_I → Prop} {I : mm_I} (x1 : Int32) (x2 : Int32) (x3 : Int32)
  (H : ((I 47 1) ≤ x3 →
      P I) ∧
    (x3 < (I 47 1) →
      (x2 ≤ x3 →
        mm_Mi 26 [.ref 46, .int x3] I (fun r34 I34 =>  -- Reader.numberAt
        (r34 = (-1) →
          mm_W 36 12 [some (.ref 46), some (.int x1), some (.int x2), some (.int (x3 + 1)), none, none] [] I34 (mm_qv 36 P)) ∧
        (¬ r34 = (-1) →
          (x1 ≤ r34 →
            mm_Mi 27 [.ref 46, .int x3] I34 (fun r57 I57 =>  -- Reader.lengthAt
            (r57 = (-1) →
              mm_W 36 12 [some (.ref 46), some (.int x1), some (.int x2), some (.int (x3 + 1)), none, none] [] I57 (mm_qv 36 P)) ∧
            (¬ r57 = (-1) →
              mm_Mv 38 [.ref 46, .int r34, .int x3, .int r57] I57 (fun I74 =>  -- Reader.keepFound
              mm_W 36 12 [some (.ref 46), some (.int (r34 + 1)), some (.int (x3 + r57)), some (.int (x3 + 1)), none, none] [] I74 (mm_qv 36 P))))) ∧
          (r34 < x1 →
            mm_W 36 12 [some (.ref 46), some (.int x1), some (.int x2), some (.int (x3 + 1)), none, none] [] I34 (mm_qv 36 P))))) ∧
      (x3 < x2 →
        mm_W 36 12 [some (.ref 46), some (.int x1), some (.int x2), some (.int (x3 + 1)), none, none] [] I (mm_qv 36 P)))) : mm_W 36 12 [some (.ref 46), some (.int x1), some (.int x2), some (.int x3), none, none] [] I (mm_qv 36 P) := by
  refine w_iload_n (n := 13) rfl rfl rfl ?_
  refine w_aload_nR (x := 46) (n := 14) rfl rfl rfl ?_
  refine w_getR (b := 47) (n := 17) rfl rfl rfl rfl rfl ?_
  refine w_getI (n := 20) rfl rfl rfl rfl ?_
  refine w_icmp_ge (n := 23) rfl rfl ⟨fun hc => ?_, fun hc => ?_⟩
  · replace H := H.1 hc
    exact w_vreturn rfl rfl H
  · replace H := H.2 hc
    refine w_iload_n (n := 24) rfl rfl rfl ?_
    refine w_iload_n (n := 25) rfl rfl rfl ?_
    refine w_icmp_ge (n := 28) rfl rfl ⟨fun hc => ?_, fun hc => ?_⟩
    · replace H := H.1 hc
      refine w_aload_nR (x := 46) (n := 33) rfl rfl rfl ?_
      refine w_iload_n (n := 34) rfl rfl rfl ?_
      refine w_calli (as := [.ref 46, .int x3]) (rest := []) (n := 37) rfl rfl rfl rfl ?_
      obtain ⟨r34, I34, hI34, H⟩ := H
      refine ⟨r34, I34, hI34, ?_⟩
      refine w_istore (ls' := [some (.ref 46), some (.int x1), some (.int x2), some (.int x3), some (.int r34), none]) (n := 39) rfl rfl rfl rfl ?_
      refine w_iload (n := 41) rfl rfl rfl ?_
      refine w_iconst (v := (-1)) (n := 42) rfl rfl rfl ?_
      refine w_icmp_eq (n := 45) rfl rfl ⟨fun hc => ?_, fun hc => ?_⟩
      · replace H := H.1 hc
        refine w_iconst (v := (-1)) (n := 52) rfl rfl rfl ?_
        refine w_goto rfl ?_
        refine w_istore (ls' := [some (.ref 46), some (.int x1), some (.int x2), some (.int x3), some (.int r34), some (.int (-1))]) (n := 62) rfl rfl rfl rfl ?_
        refine w_iload (n := 64) rfl rfl rfl ?_
        refine w_iconst (v := (-1)) (n := 65) rfl rfl rfl ?_
        refine w_icmp_eq (n := 68) rfl rfl ⟨fun _ => ?_, fun hc => absurd hc (show ¬ (¬ ((-1) : Int32) = ((-1) : Int32)) by decide)⟩
        refine w_iinc (y := x3 + 1) (ls' := [some (.ref 46), some (.int x1), some (.int x2), some (.int (x3 + 1)), some (.int r34), some (.int (-1))]) (n := 90) rfl rfl rfl rfl rfl ?_
        refine w_goto rfl ?_
        exact w_drp mm_Qf_v H (lb_s (lb_s (lb_s (lb_s (lb_n (lb_n lb_e))))))
      · replace H := H.2 hc
        refine w_iload (n := 47) rfl rfl rfl ?_
        refine w_iload_n (n := 48) rfl rfl rfl ?_
        refine w_icmp_ge (n := 51) rfl rfl ⟨fun hc => ?_, fun hc => ?_⟩
        · replace H := H.1 hc
          refine w_aload_nR (x := 46) (n := 56) rfl rfl rfl ?_
          refine w_iload_n (n := 57) rfl rfl rfl ?_
          refine w_calli (as := [.ref 46, .int x3]) (rest := []) (n := 60) rfl rfl rfl rfl ?_
          obtain ⟨r57, I57, hI57, H⟩ := H
          refine ⟨r57, I57, hI57, ?_⟩
          refine w_istore (ls' := [some (.ref 46), some (.int x1), some (.int x2), some (.int x3), some (.int r34), some (.int r57)]) (n := 62) rfl rfl rfl rfl ?_
          refine w_iload (n := 64) rfl rfl rfl ?_
          refine w_iconst (v := (-1)) (n := 65) rfl rfl rfl ?_
          refine w_icmp_eq (n := 68) rfl rfl ⟨fun hc => ?_, fun hc => ?_⟩
          · replace H := H.1 hc
            refine w_iinc (y := x3 + 1) (ls' := [some (.ref 46), some (.int x1), some (.int x2), some (.int (x3 + 1)), some (.int r34), some (.int r57)]) (n := 90) rfl rfl rfl rfl rfl ?_
            refine w_goto rfl ?_
            exact w_drp mm_Qf_v H (lb_s (lb_s (lb_s (lb_s (lb_n (lb_n lb_e))))))
          · replace H := H.2 hc
            refine w_aload_nR (x := 46) (n := 69) rfl rfl rfl ?_
            refine w_iload (n := 71) rfl rfl rfl ?_
            refine w_iload_n (n := 72) rfl rfl rfl ?_
            refine w_iload (n := 74) rfl rfl rfl ?_
            refine w_callv (as := [.ref 46, .int r34, .int x3, .int r57]) (rest := []) (n := 77) rfl rfl rfl rfl ?_
            obtain ⟨I74, hI74, H⟩ := H
            refine ⟨I74, hI74, ?_⟩
            refine w_iload (n := 79) rfl rfl rfl ?_
            refine w_iconst (v := 1) (n := 80) rfl rfl rfl ?_
            refine w_iadd (n := 81) rfl rfl ?_
            refine w_istore_n (ls' := [some (.ref 46), some (.int (r34 + 1)), some (.int x2), some (.int x3), some (.int r34), some (.int r57)]) (n := 82) rfl rfl rfl rfl ?_
            refine w_iload_n (n := 83) rfl rfl rfl ?_
            refine w_iload (n := 85) rfl rfl rfl ?_
            refine w_iadd (n := 86) rfl rfl ?_
            refine w_istore_n (ls' := [some (.ref 46), some (.int (r34 + 1)), some (.int (x3 + r57)), some (.int x3), some (.int r34), some (.int r57)]) (n := 87) rfl rfl rfl rfl ?_
            refine w_iinc (y := x3 + 1) (ls' := [some (.ref 46), some (.int (r34 + 1)), some (.int (x3 + r57)), some (.int (x3 + 1)), some (.int r34), some (.int r57)]) (n := 90) rfl rfl rfl rfl rfl ?_
            refine w_goto rfl ?_
            exact w_drp mm_Qf_v H (lb_s (lb_s (lb_s (lb_s (lb_n (lb_n lb_e))))))
        · replace H := H.2 hc
          refine w_iconst (v := (-1)) (n := 52) rfl rfl rfl ?_
          refine w_goto rfl ?_
          refine w_istore (ls' := [some (.ref 46), some (.int x1), some (.int x2), some (.int x3), some (.int r34), some (.int (-1))]) (n := 62) rfl rfl rfl rfl ?_
          refine w_iload (n := 64) rfl rfl rfl ?_
          refine w_iconst (v := (-1)) (n := 65) rfl rfl rfl ?_
          refine w_icmp_eq (n := 68) rfl rfl ⟨fun _ => ?_, fun hc => absurd hc (show ¬ (¬ ((-1) : Int32) = ((-1) : Int32)) by decide)⟩
          refine w_iinc (y := x3 + 1) (ls' := [some (.ref 46), some (.int x1), some (.int x2), some (.int (x3 + 1)), some (.int r34), some (.int (-1))]) (n := 90) rfl rfl rfl rfl rfl ?_
          refine w_goto rfl ?_
          exact w_drp mm_Qf_v H (lb_s (lb_s (lb_s (lb_s (lb_n (lb_n lb_e))))))
    · replace H := H.2 hc
      refine w_iconst (v := (-1)) (n := 29) rfl rfl rfl ?_
      refine w_goto rfl ?_
      refine w_istore (ls' := [some (.ref 46), some (.int x1), some (.int x2), some (.int x3), some (.int (-1)), none]) (n := 39) rfl rfl rfl rfl ?_
      refine w_iload (n := 41) rfl rfl rfl ?_
      refine w_iconst (v := (-1)) (n := 42) rfl rfl rfl ?_
      refine w_icmp_eq (n := 45) rfl rfl ⟨fun _ => ?_, fun hc => absurd hc (show ¬ (¬ ((-1) : Int32) = ((-1) : Int32)) by decide)⟩
      refine w_iconst (v := (-1)) (n := 52) rfl rfl rfl ?_
      refine w_goto rfl ?_
      refine w_istore (ls' := [some (.ref 46), some (.int x1), some (.int x2), some (.int x3), some (.int (-1)), some (.int (-1))]) (n := 62) rfl rfl rfl rfl ?_
      refine w_iload (n := 64) rfl rfl rfl ?_
      refine w_iconst (v := (-1)) (n := 65) rfl rfl rfl ?_
      refine w_icmp_eq (n := 68) rfl rfl ⟨fun _ => ?_, fun hc => absurd hc (show ¬ (¬ ((-1) : Int32) = ((-1) : Int32)) by decide)⟩
      refine w_iinc (y := x3 + 1) (ls' := [some (.ref 46), some (.int x1), some (.int x2), some (.int (x3 + 1)), some (.int (-1)), some (.int (-1))]) (n := 90) rfl rfl rfl rfl rfl ?_
      refine w_goto rfl ?_
      exact w_drp mm_Qf_v H (lb_s (lb_s (lb_s (lb_s (lb_n (lb_n lb_e))))))
theorem e_Reader_forgetFound {P : mm_I → Prop} {I : mm_I}
  (H : mm_W 37 2 [some (.ref 46), some (.int 0)] [] I (mm_qv 37 P)) : mm_Mv 37 [.ref 46] I P := by
  refine mm_Mv_of ?_
  show mm_W 37 0 [some (.ref 46), none] [] I (mm_qv 37 P)
  refine w_iconst (v := 0) (n := 1) rfl rfl rfl ?_
  refine w_istore_n (ls' := [some (.ref 46), some (.int 0)]) (n := 2) rfl rfl rfl rfl ?_
  exact w_drp mm_Qf_v H (lb_s (lb_s lb_e))
theorem c_Reader_forgetFound_2 {P : mm_I → Prop} {I : mm_I} (x1 : Int32)
  (H : (16 ≤ x1 →
      mm_W 37 30 [some (.ref 46), some (.int 0)] [] I (mm_qv 37 P)) ∧
    (x1 < 16 →
      vp_in x1 16 ∧
      vp_in x1 16 ∧
      mm_W 37 2 [some (.ref 46), some (.int (x1 + 1))] [] (mm_up (mm_up I 55 x1.toNatClampNeg (-1)) 56 x1.toNatClampNeg (-1)) (mm_qv 37 P))) : mm_W 37 2 [some (.ref 46), some (.int x1)] [] I (mm_qv 37 P) := by
  refine w_iload_n (n := 3) rfl rfl rfl ?_
  refine w_bipush (v := 16) (n := 5) rfl rfl rfl ?_
  refine w_icmp_ge (n := 8) rfl rfl ⟨fun hc => ?_, fun hc => ?_⟩
  · replace H := H.1 hc
    refine w_iconst (v := 0) (n := 29) rfl rfl rfl ?_
    refine w_istore_n (ls' := [some (.ref 46), some (.int 0)]) (n := 30) rfl rfl rfl rfl ?_
    exact w_drp mm_Qf_v H (lb_s (lb_s lb_e))
  · replace H := H.2 hc
    refine w_aload_nR (x := 46) (n := 9) rfl rfl rfl ?_
    refine w_getR (b := 55) (n := 12) rfl rfl rfl rfl rfl ?_
    refine w_iload_n (n := 13) rfl rfl rfl ?_
    refine w_iconst (v := (-1)) (n := 14) rfl rfl rfl ?_
    refine w_iastore (N := 16) (j := x1.toNatClampNeg) (n := 15) rfl rfl rfl rfl rfl ⟨H.1, ?_⟩
    replace H := H.2
    refine w_aload_nR (x := 46) (n := 16) rfl rfl rfl ?_
    refine w_getR (b := 56) (n := 19) rfl rfl rfl rfl rfl ?_
    refine w_iload_n (n := 20) rfl rfl rfl ?_
    refine w_iconst (v := (-1)) (n := 21) rfl rfl rfl ?_
    refine w_iastore (N := 16) (j := x1.toNatClampNeg) (n := 22) rfl rfl rfl rfl rfl ⟨H.1, ?_⟩
    replace H := H.2
    refine w_iinc (y := x1 + 1) (ls' := [some (.ref 46), some (.int (x1 + 1))]) (n := 25) rfl rfl rfl rfl rfl ?_
    refine w_goto rfl ?_
    exact w_drp mm_Qf_v H (lb_s (lb_s lb_e))
theorem c_Reader_forgetFound_30 {P : mm_I → Prop} {I : mm_I} (x1 : Int32)
  (H : (512 ≤ x1 →
      P I) ∧
    (x1 < 512 →
      vp_in x1 512 ∧
      mm_W 37 30 [some (.ref 46), some (.int (x1 + 1))] [] (mm_up I 57 x1.toNatClampNeg 0) (mm_qv 37 P))) : mm_W 37 30 [some (.ref 46), some (.int x1)] [] I (mm_qv 37 P) := by
  refine w_iload_n (n := 31) rfl rfl rfl ?_
  refine w_aload_nR (x := 46) (n := 32) rfl rfl rfl ?_
  refine w_getR (b := 57) (n := 35) rfl rfl rfl rfl rfl ?_
  refine w_alen (N := 512) (v := 512) (n := 36) rfl rfl rfl rfl rfl ?_
  refine w_icmp_ge (n := 39) rfl rfl ⟨fun hc => ?_, fun hc => ?_⟩
  · replace H := H.1 hc
    exact w_vreturn rfl rfl H
  · replace H := H.2 hc
    refine w_aload_nR (x := 46) (n := 40) rfl rfl rfl ?_
    refine w_getR (b := 57) (n := 43) rfl rfl rfl rfl rfl ?_
    refine w_iload_n (n := 44) rfl rfl rfl ?_
    refine w_iconst (v := 0) (n := 45) rfl rfl rfl ?_
    refine w_iastore (N := 512) (j := x1.toNatClampNeg) (n := 46) rfl rfl rfl rfl rfl ⟨H.1, ?_⟩
    replace H := H.2
    refine w_iinc (y := x1 + 1) (ls' := [some (.ref 46), some (.int (x1 + 1))]) (n := 49) rfl rfl rfl rfl rfl ?_
    refine w_goto rfl ?_
    exact w_drp mm_Qf_v H (lb_s (lb_s lb_e))
theorem e_Reader_keepFound {P : mm_I → Prop} {I : mm_I} (x1 : Int32) (x2 : Int32) (x3 : Int32)
  (H : vp_in x1 16 ∧
    vp_in x1 16 ∧
    mm_Mi 226 [.int (I 46 4), .int ((I 46 5) - (x1 * (I 46 4)))] (mm_up (mm_up I 55 x1.toNatClampNeg x2) 56 x1.toNatClampNeg x3) (fun r33 I33 =>  -- Math.min
    mm_W 38 41 [some (.ref 46), none, none, none, some (.int (x1 * (I 46 4))), some (.int r33), some (.int 0)] [] I33 (mm_qv 38 P))) : mm_Mv 38 [.ref 46, .int x1, .int x2, .int x3] I P := by
  refine mm_Mv_of ?_
  show mm_W 38 0 [some (.ref 46), some (.int x1), some (.int x2), some (.int x3), none, none, none] [] I (mm_qv 38 P)
  refine w_aload_nR (x := 46) (n := 1) rfl rfl rfl ?_
  refine w_getR (b := 55) (n := 4) rfl rfl rfl rfl rfl ?_
  refine w_iload_n (n := 5) rfl rfl rfl ?_
  refine w_iload_n (n := 6) rfl rfl rfl ?_
  refine w_iastore (N := 16) (j := x1.toNatClampNeg) (n := 7) rfl rfl rfl rfl rfl ⟨H.1, ?_⟩
  replace H := H.2
  refine w_aload_nR (x := 46) (n := 8) rfl rfl rfl ?_
  refine w_getR (b := 56) (n := 11) rfl rfl rfl rfl rfl ?_
  refine w_iload_n (n := 12) rfl rfl rfl ?_
  refine w_iload_n (n := 13) rfl rfl rfl ?_
  refine w_iastore (N := 16) (j := x1.toNatClampNeg) (n := 14) rfl rfl rfl rfl rfl ⟨H.1, ?_⟩
  replace H := H.2
  refine w_iload_n (n := 15) rfl rfl rfl ?_
  refine w_aload_nR (x := 46) (n := 16) rfl rfl rfl ?_
  refine w_getI (n := 19) rfl rfl rfl rfl ?_
  refine w_imul (n := 20) rfl rfl ?_
  refine w_istore (ls' := [some (.ref 46), some (.int x1), some (.int x2), some (.int x3), some (.int (x1 * (I 46 4))), none, none]) (n := 22) rfl rfl rfl rfl ?_
  refine w_aload_nR (x := 46) (n := 23) rfl rfl rfl ?_
  refine w_getI (n := 26) rfl rfl rfl rfl ?_
  refine w_aload_nR (x := 46) (n := 27) rfl rfl rfl ?_
  refine w_getI (n := 30) rfl rfl rfl rfl ?_
  refine w_iload (n := 32) rfl rfl rfl ?_
  refine w_isub (n := 33) rfl rfl ?_
  refine w_calli (as := [.int (I 46 4), .int ((I 46 5) - (x1 * (I 46 4)))]) (rest := []) (n := 36) rfl rfl rfl rfl ?_
  obtain ⟨r33, I33, hI33, H⟩ := H
  refine ⟨r33, I33, hI33, ?_⟩
  refine w_istore (ls' := [some (.ref 46), some (.int x1), some (.int x2), some (.int x3), some (.int (x1 * (I 46 4))), some (.int r33), none]) (n := 38) rfl rfl rfl rfl ?_
  refine w_iconst (v := 0) (n := 39) rfl rfl rfl ?_
  refine w_istore (ls' := [some (.ref 46), some (.int x1), some (.int x2), some (.int x3), some (.int (x1 * (I 46 4))), some (.int r33), some (.int 0)]) (n := 41) rfl rfl rfl rfl ?_
  exact w_drp mm_Qf_v H (lb_s (lb_n (lb_n (lb_n (lb_s (lb_s (lb_s lb_e)))))))
theorem c_Reader_keepFound_41 {P : mm_I → Prop} {I : mm_I} (x4 : Int32) (x5 : Int32) (x6 : Int32)
  (H : (x5 ≤ x6 →
      P I) ∧
    (x6 < x5 →
      vp_in x6 64 ∧
      vp_in (x4 + x6) 512 ∧
      (¬ (I 46 2) = 2 →
        mm_W 38 41 [some (.ref 46), none, none, none, some (.int x4), some (.int x5), some (.int (x6 + 1))] [] (mm_up I 57 ((x4 + x6).toNatClampNeg) (I 53 x6.toNatClampNeg)) (mm_qv 38 P)) ∧
      ((I 46 2) = 2 →
        vp_in x6 64 ∧
        vp_in ((256 + x4) + x6) 512 ∧
        mm_W 38 41 [some (.ref 46), none, none, none, some (.int x4), some (.int x5), some (.int (x6 + 1))] [] (mm_up (mm_up I 57 ((x4 + x6).toNatClampNeg) (I 53 x6.toNatClampNeg)) 57 (((256 + x4) + x6).toNatClampNeg) (I 54 x6.toNatClampNeg)) (mm_qv 38 P)))) : mm_W 38 41 [some (.ref 46), none, none, none, some (.int x4), some (.int x5), some (.int x6)] [] I (mm_qv 38 P) := by
  refine w_iload (n := 43) rfl rfl rfl ?_
  refine w_iload (n := 45) rfl rfl rfl ?_
  refine w_icmp_ge (n := 48) rfl rfl ⟨fun hc => ?_, fun hc => ?_⟩
  · replace H := H.1 hc
    exact w_vreturn rfl rfl H
  · replace H := H.2 hc
    refine w_aload_nR (x := 46) (n := 49) rfl rfl rfl ?_
    refine w_getR (b := 57) (n := 52) rfl rfl rfl rfl rfl ?_
    refine w_iload (n := 54) rfl rfl rfl ?_
    refine w_iload (n := 56) rfl rfl rfl ?_
    refine w_iadd (n := 57) rfl rfl ?_
    refine w_aload_nR (x := 46) (n := 58) rfl rfl rfl ?_
    refine w_getR (b := 53) (n := 61) rfl rfl rfl rfl rfl ?_
    refine w_iload (n := 63) rfl rfl rfl ?_
    refine w_iaload (N := 64) (j := x6.toNatClampNeg) (n := 64) rfl rfl rfl rfl rfl rfl ⟨H.1, ?_⟩
    replace H := H.2
    refine w_iastore (N := 512) (j := (x4 + x6).toNatClampNeg) (n := 65) rfl rfl rfl rfl rfl ⟨H.1, ?_⟩
    replace H := H.2
    refine w_aload_nR (x := 46) (n := 66) rfl rfl rfl ?_
    refine w_getI (n := 69) rfl rfl rfl rfl ?_
    refine w_iconst (v := 2) (n := 70) rfl rfl rfl ?_
    refine w_icmp_ne (n := 73) rfl rfl ⟨fun hc => ?_, fun hc => ?_⟩
    · replace H := H.1 hc
      refine w_iinc (y := x6 + 1) (ls' := [some (.ref 46), none, none, none, some (.int x4), some (.int x5), some (.int (x6 + 1))]) (n := 97) rfl rfl rfl rfl rfl ?_
      refine w_goto rfl ?_
      exact w_drp mm_Qf_v H (lb_s (lb_n (lb_n (lb_n (lb_s (lb_s (lb_s lb_e)))))))
    · replace H := H.2 hc
      refine w_aload_nR (x := 46) (n := 74) rfl rfl rfl ?_
      refine w_getR (b := 57) (n := 77) rfl rfl rfl rfl rfl ?_
      refine w_sipush (v := 256) (n := 80) rfl rfl rfl ?_
      refine w_iload (n := 82) rfl rfl rfl ?_
      refine w_iadd (n := 83) rfl rfl ?_
      refine w_iload (n := 85) rfl rfl rfl ?_
      refine w_iadd (n := 86) rfl rfl ?_
      refine w_aload_nR (x := 46) (n := 87) rfl rfl rfl ?_
      refine w_getR (b := 54) (n := 90) rfl rfl rfl rfl rfl ?_
      refine w_iload (n := 92) rfl rfl rfl ?_
      refine w_iaload (N := 64) (j := x6.toNatClampNeg) (n := 93) rfl rfl rfl rfl rfl rfl ⟨H.1, ?_⟩
      replace H := H.2
      refine w_iastore (N := 512) (j := ((256 + x4) + x6).toNatClampNeg) (n := 94) rfl rfl rfl rfl rfl ⟨H.1, ?_⟩
      replace H := H.2
      refine w_iinc (y := x6 + 1) (ls' := [some (.ref 46), none, none, none, some (.int x4), some (.int x5), some (.int (x6 + 1))]) (n := 97) rfl rfl rfl rfl rfl ?_
      refine w_goto rfl ?_
      exact w_drp mm_Qf_v H (lb_s (lb_n (lb_n (lb_n (lb_s (lb_s (lb_s lb_e)))))))
theorem e_Row_start {P : mm_I → Prop} {I : mm_I} {rr : Nat} (hs0 : rr = 22 ∨ rr = 28 ∨ rr = 34 ∨ rr = 40) (x1 : Int32) (x2 : Int32)
  (H : P (mm_up (mm_up I rr 1 x1) rr 2 x2)) : mm_Mv 40 [.ref rr, .int x1, .int x2] I P := by
  rcases hs0 with rfl | rfl | rfl | rfl
  · refine mm_Mv_of ?_
    show mm_W 40 0 [some (.ref 22), some (.int x1), some (.int x2)] [] I (mm_qv 40 P)
    refine w_aload_nR (x := 22) (n := 1) rfl rfl rfl ?_
    refine w_iload_n (n := 2) rfl rfl rfl ?_
    refine w_putI (n := 5) rfl rfl rfl rfl rfl ?_
    refine w_aload_nR (x := 22) (n := 6) rfl rfl rfl ?_
    refine w_iload_n (n := 7) rfl rfl rfl ?_
    refine w_putI (n := 10) rfl rfl rfl rfl rfl ?_
    exact w_vreturn rfl rfl H
  · refine mm_Mv_of ?_
    show mm_W 40 0 [some (.ref 28), some (.int x1), some (.int x2)] [] I (mm_qv 40 P)
    refine w_aload_nR (x := 28) (n := 1) rfl rfl rfl ?_
    refine w_iload_n (n := 2) rfl rfl rfl ?_
    refine w_putI (n := 5) rfl rfl rfl rfl rfl ?_
    refine w_aload_nR (x := 28) (n := 6) rfl rfl rfl ?_
    refine w_iload_n (n := 7) rfl rfl rfl ?_
    refine w_putI (n := 10) rfl rfl rfl rfl rfl ?_
    exact w_vreturn rfl rfl H
  · refine mm_Mv_of ?_
    show mm_W 40 0 [some (.ref 34), some (.int x1), some (.int x2)] [] I (mm_qv 40 P)
    refine w_aload_nR (x := 34) (n := 1) rfl rfl rfl ?_
    refine w_iload_n (n := 2) rfl rfl rfl ?_
    refine w_putI (n := 5) rfl rfl rfl rfl rfl ?_
    refine w_aload_nR (x := 34) (n := 6) rfl rfl rfl ?_
    refine w_iload_n (n := 7) rfl rfl rfl ?_
    refine w_putI (n := 10) rfl rfl rfl rfl rfl ?_
    exact w_vreturn rfl rfl H
  · refine mm_Mv_of ?_
    show mm_W 40 0 [some (.ref 40), some (.int x1), some (.int x2)] [] I (mm_qv 40 P)
    refine w_aload_nR (x := 40) (n := 1) rfl rfl rfl ?_
    refine w_iload_n (n := 2) rfl rfl rfl ?_
    refine w_putI (n := 5) rfl rfl rfl rfl rfl ?_
    refine w_aload_nR (x := 40) (n := 6) rfl rfl rfl ?_
    refine w_iload_n (n := 7) rfl rfl rfl ?_
    refine w_putI (n := 10) rfl rfl rfl rfl rfl ?_
    exact w_vreturn rfl rfl H
