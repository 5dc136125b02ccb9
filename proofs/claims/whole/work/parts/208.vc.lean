theorem e_M_samples {P : Int32 → mm_I → Prop} {I : mm_I} (x1 : Int32) (x2 : Int32)
  (H : mm_Mi 126 [.ref 58, .int x1] (mm_up I 58 16 0) (fun r7 I7 =>  -- M.isChannel
    (r7 = 0 →
      P (-1) I7) ∧
    (¬ r7 = 0 →
      mm_Mi 125 [.int x2, .int 0, .int 256] I7 (fun r18 I18 =>  -- M.within
      (r18 = 0 →
        P (-1) I18) ∧
      (¬ r18 = 0 →
        ((I18 58 1) < (x2 * ((I18 58 5) / 8)) →
          P (-1) I18) ∧
        ((x2 * ((I18 58 5) / 8)) ≤ (I18 58 1) →
          vp_in x1 2 ∧
          (((I18 61 x1.toNatClampNeg) + x2) ≤ 256 →
            mm_W 133 58 [some (.ref 58), some (.int x1), some (.int x2), some (.int 0)] [] I18 (mm_qi 133 P)) ∧
          (256 < ((I18 61 x1.toNatClampNeg) + x2) →
            P (-1) I18))))))) : mm_Mi 133 [.ref 58, .int x1, .int x2] I P := by
  refine mm_Mi_of ?_
  show mm_W 133 0 [some (.ref 58), some (.int x1), some (.int x2), none] [] I (mm_qi 133 P)
  refine w_aload_nR (x := 58) (n := 1) rfl rfl rfl ?_
  refine w_iconst (v := 0) (n := 2) rfl rfl rfl ?_
  refine w_putI (n := 5) rfl rfl rfl rfl rfl ?_
  refine w_aload_nR (x := 58) (n := 6) rfl rfl rfl ?_
  refine w_iload_n (n := 7) rfl rfl rfl ?_
  refine w_calli (as := [.ref 58, .int x1]) (rest := []) (n := 10) rfl rfl rfl rfl ?_
  obtain ⟨r7, I7, hI7, H⟩ := H
  refine ⟨r7, I7, hI7, ?_⟩
  refine w_if_eq (n := 13) rfl rfl ⟨fun hc => ?_, fun hc => ?_⟩
  · replace H := H.1 hc
    refine w_iconst (v := (-1)) (n := 55) rfl rfl rfl ?_
    exact w_ireturn rfl rfl H
  · replace H := H.2 hc
    refine w_iload_n (n := 14) rfl rfl rfl ?_
    refine w_iconst (v := 0) (n := 15) rfl rfl rfl ?_
    refine w_sipush (v := 256) (n := 18) rfl rfl rfl ?_
    refine w_calli (as := [.int x2, .int 0, .int 256]) (rest := []) (n := 21) rfl rfl rfl rfl ?_
    obtain ⟨r18, I18, hI18, H⟩ := H
    refine ⟨r18, I18, hI18, ?_⟩
    refine w_if_eq (n := 24) rfl rfl ⟨fun hc => ?_, fun hc => ?_⟩
    · replace H := H.1 hc
      refine w_iconst (v := (-1)) (n := 55) rfl rfl rfl ?_
      exact w_ireturn rfl rfl H
    · replace H := H.2 hc
      refine w_iload_n (n := 25) rfl rfl rfl ?_
      refine w_aload_nR (x := 58) (n := 26) rfl rfl rfl ?_
      refine w_getI (n := 29) rfl rfl rfl rfl ?_
      refine w_bipush (v := 8) (n := 31) rfl rfl rfl ?_
      refine w_idiv (n := 32) rfl rfl ⟨by decide, ?_⟩
      refine w_imul (n := 33) rfl rfl ?_
      refine w_aload_nR (x := 58) (n := 34) rfl rfl rfl ?_
      refine w_getI (n := 37) rfl rfl rfl rfl ?_
      refine w_icmp_gt (n := 40) rfl rfl ⟨fun hc => ?_, fun hc => ?_⟩
      · replace H := H.1 hc
        refine w_iconst (v := (-1)) (n := 55) rfl rfl rfl ?_
        exact w_ireturn rfl rfl H
      · replace H := H.2 hc
        refine w_aload_nR (x := 58) (n := 41) rfl rfl rfl ?_
        refine w_getR (b := 61) (n := 44) rfl rfl rfl rfl rfl ?_
        refine w_iload_n (n := 45) rfl rfl rfl ?_
        refine w_iaload (N := 2) (j := x1.toNatClampNeg) (n := 46) rfl rfl rfl rfl rfl rfl ⟨H.1, ?_⟩
        replace H := H.2
        refine w_iload_n (n := 47) rfl rfl rfl ?_
        refine w_iadd (n := 48) rfl rfl ?_
        refine w_sipush (v := 256) (n := 51) rfl rfl rfl ?_
        refine w_icmp_le (n := 54) rfl rfl ⟨fun hc => ?_, fun hc => ?_⟩
        · replace H := H.1 hc
          refine w_iconst (v := 0) (n := 57) rfl rfl rfl ?_
          refine w_istore_n (ls' := [some (.ref 58), some (.int x1), some (.int x2), some (.int 0)]) (n := 58) rfl rfl rfl rfl ?_
          exact w_drp mm_Qf_i H (lb_s (lb_s (lb_s (lb_s lb_e))))
        · replace H := H.2 hc
          refine w_iconst (v := (-1)) (n := 55) rfl rfl rfl ?_
          exact w_ireturn rfl rfl H
theorem c_M_samples_58 {P : Int32 → mm_I → Prop} {I : mm_I} (x1 : Int32) (x2 : Int32) (x3 : Int32)
  (H : (x2 ≤ x3 →
      vp_in x1 2 ∧
      P (I 61 x1.toNatClampNeg) (mm_up I 58 1 0)) ∧
    (x3 < x2 →
      (¬ (I 58 5) = 8 →
        vp_in (2 * x3) 240 ∧
        vp_in ((2 * x3) + 1) 240 ∧
        mm_Mi 131 [.int ((256 * (I 59 ((2 * x3).toNatClampNeg))) + (I 59 (((2 * x3) + 1).toNatClampNeg))), .int 16] I (fun r113 I113 =>  -- M.signed
        mm_Mv 132 [.ref 58, .int x1, .int r113] I113 (fun I116 =>  -- M.puts
        mm_W 133 58 [some (.ref 58), some (.int x1), some (.int x2), some (.int (x3 + 1))] [] I116 (mm_qi 133 P)))) ∧
      ((I 58 5) = 8 →
        vp_in x3 240 ∧
        mm_Mi 131 [.int (I 59 x3.toNatClampNeg), .int 8] I (fun r82 I82 =>  -- M.signed
        mm_Mv 132 [.ref 58, .int x1, .int r82] I82 (fun I116 =>  -- M.puts
        mm_W 133 58 [some (.ref 58), some (.int x1), some (.int x2), some (.int (x3 + 1))] [] I116 (mm_qi 133 P)))))) : mm_W 133 58 [some (.ref 58), some (.int x1), some (.int x2), some (.int x3)] [] I (mm_qi 133 P) := by
  refine w_iload_n (n := 59) rfl rfl rfl ?_
  refine w_iload_n (n := 60) rfl rfl rfl ?_
  refine w_icmp_ge (n := 63) rfl rfl ⟨fun hc => ?_, fun hc => ?_⟩
  · replace H := H.1 hc
    refine w_aload_nR (x := 58) (n := 126) rfl rfl rfl ?_
    refine w_iconst (v := 0) (n := 127) rfl rfl rfl ?_
    refine w_putI (n := 130) rfl rfl rfl rfl rfl ?_
    refine w_aload_nR (x := 58) (n := 131) rfl rfl rfl ?_
    refine w_getR (b := 61) (n := 134) rfl rfl rfl rfl rfl ?_
    refine w_iload_n (n := 135) rfl rfl rfl ?_
    refine w_iaload (N := 2) (j := x1.toNatClampNeg) (n := 136) rfl rfl rfl rfl rfl rfl ⟨H.1, ?_⟩
    replace H := H.2
    exact w_ireturn rfl rfl H
  · replace H := H.2 hc
    refine w_aload_nR (x := 58) (n := 64) rfl rfl rfl ?_
    refine w_iload_n (n := 65) rfl rfl rfl ?_
    refine w_aload_nR (x := 58) (n := 66) rfl rfl rfl ?_
    refine w_getI (n := 69) rfl rfl rfl rfl ?_
    refine w_bipush (v := 8) (n := 71) rfl rfl rfl ?_
    refine w_icmp_ne (n := 74) rfl rfl ⟨fun hc => ?_, fun hc => ?_⟩
    · replace H := H.1 hc
      refine w_sipush (v := 256) (n := 91) rfl rfl rfl ?_
      refine w_aload_nR (x := 58) (n := 92) rfl rfl rfl ?_
      refine w_getR (b := 59) (n := 95) rfl rfl rfl rfl rfl ?_
      refine w_iconst (v := 2) (n := 96) rfl rfl rfl ?_
      refine w_iload_n (n := 97) rfl rfl rfl ?_
      refine w_imul (n := 98) rfl rfl ?_
      refine w_iaload (N := 240) (j := (2 * x3).toNatClampNeg) (n := 99) rfl rfl rfl rfl rfl rfl ⟨H.1, ?_⟩
      replace H := H.2
      refine w_imul (n := 100) rfl rfl ?_
      refine w_aload_nR (x := 58) (n := 101) rfl rfl rfl ?_
      refine w_getR (b := 59) (n := 104) rfl rfl rfl rfl rfl ?_
      refine w_iconst (v := 2) (n := 105) rfl rfl rfl ?_
      refine w_iload_n (n := 106) rfl rfl rfl ?_
      refine w_imul (n := 107) rfl rfl ?_
      refine w_iconst (v := 1) (n := 108) rfl rfl rfl ?_
      refine w_iadd (n := 109) rfl rfl ?_
      refine w_iaload (N := 240) (j := ((2 * x3) + 1).toNatClampNeg) (n := 110) rfl rfl rfl rfl rfl rfl ⟨H.1, ?_⟩
      replace H := H.2
      refine w_iadd (n := 111) rfl rfl ?_
      refine w_bipush (v := 16) (n := 113) rfl rfl rfl ?_
      refine w_calli (as := [.int ((256 * (I 59 ((2 * x3).toNatClampNeg))) + (I 59 (((2 * x3) + 1).toNatClampNeg))), .int 16]) (rest := [.int x1, .ref 58]) (n := 116) rfl rfl rfl rfl ?_
      obtain ⟨r113, I113, hI113, H⟩ := H
      refine ⟨r113, I113, hI113, ?_⟩
      refine w_callv (as := [.ref 58, .int x1, .int r113]) (rest := []) (n := 119) rfl rfl rfl rfl ?_
      obtain ⟨I116, hI116, H⟩ := H
      refine ⟨I116, hI116, ?_⟩
      refine w_iinc (y := x3 + 1) (ls' := [some (.ref 58), some (.int x1), some (.int x2), some (.int (x3 + 1))]) (n := 122) rfl rfl rfl rfl rfl ?_
      refine w_goto rfl ?_
      exact w_drp mm_Qf_i H (lb_s (lb_s (lb_s (lb_s lb_e))))
    · replace H := H.2 hc
      refine w_aload_nR (x := 58) (n := 75) rfl rfl rfl ?_
      refine w_getR (b := 59) (n := 78) rfl rfl rfl rfl rfl ?_
      refine w_iload_n (n := 79) rfl rfl rfl ?_
      refine w_iaload (N := 240) (j := x3.toNatClampNeg) (n := 80) rfl rfl rfl rfl rfl rfl ⟨H.1, ?_⟩
      replace H := H.2
      refine w_bipush (v := 8) (n := 82) rfl rfl rfl ?_
      refine w_calli (as := [.int (I 59 x3.toNatClampNeg), .int 8]) (rest := [.int x1, .ref 58]) (n := 85) rfl rfl rfl rfl ?_
      obtain ⟨r82, I82, hI82, H⟩ := H
      refine ⟨r82, I82, hI82, ?_⟩
      refine w_goto rfl ?_
      refine w_callv (as := [.ref 58, .int x1, .int r82]) (rest := []) (n := 119) rfl rfl rfl rfl ?_
      obtain ⟨I116, hI116, H⟩ := H
      refine ⟨I116, hI116, ?_⟩
      refine w_iinc (y := x3 + 1) (ls' := [some (.ref 58), some (.int x1), some (.int x2), some (.int (x3 + 1))]) (n := 122) rfl rfl rfl rfl rfl ?_
      refine w_goto rfl ?_
      exact w_drp mm_Qf_i H (lb_s (lb_s (lb_s (lb_s lb_e))))
theorem e_M_held {P : Int32 → mm_I → Prop} {I : mm_I} (x1 : Int32)
  (H : P (if x1 ≤ ((1 <<< (((I 58 5) - 1) &&& 31)) - 1) then ((if ((-((1 <<< (((I 58 5) - 1) &&& 31)) - 1)) - 1) ≤ x1 then (x1 : Int32) else (-((1 <<< (((I 58 5) - 1) &&& 31)) - 1)) - 1) : Int32) else (1 <<< (((I 58 5) - 1) &&& 31)) - 1) I) : mm_Mi 134 [.ref 58, .int x1] I P := by
  refine mm_Mi_of ?_
  show mm_W 134 0 [some (.ref 58), some (.int x1), none] [] I (mm_qi 134 P)
  refine w_iconst (v := 1) (n := 1) rfl rfl rfl ?_
  refine w_aload_nR (x := 58) (n := 2) rfl rfl rfl ?_
  refine w_getI (n := 5) rfl rfl rfl rfl ?_
  refine w_iconst (v := 1) (n := 6) rfl rfl rfl ?_
  refine w_isub (n := 7) rfl rfl ?_
  refine w_ishl (n := 8) rfl rfl ?_
  refine w_iconst (v := 1) (n := 9) rfl rfl rfl ?_
  refine w_isub (n := 10) rfl rfl ?_
  refine w_istore_n (ls' := [some (.ref 58), some (.int x1), some (.int ((1 <<< (((I 58 5) - 1) &&& 31)) - 1))]) (n := 11) rfl rfl rfl rfl ?_
  refine w_iload_n (n := 12) rfl rfl rfl ?_
  refine w_iload_n (n := 13) rfl rfl rfl ?_
  have J13 : ∀ (w13_0 : Int32), w13_0 = (if x1 ≤ ((1 <<< (((I 58 5) - 1) &&& 31)) - 1) then ((if ((-((1 <<< (((I 58 5) - 1) &&& 31)) - 1)) - 1) ≤ x1 then (x1 : Int32) else (-((1 <<< (((I 58 5) - 1) &&& 31)) - 1)) - 1) : Int32) else (1 <<< (((I 58 5) - 1) &&& 31)) - 1) → mm_W 134 36 [some (.ref 58), some (.int x1), some (.int ((1 <<< (((I 58 5) - 1) &&& 31)) - 1))] [.int w13_0] I (mm_qi 134 P) := by
    intro w13_0 e13_0
    subst e13_0
    exact w_ireturn rfl rfl H
  refine w_icmp_le (n := 16) rfl rfl ⟨fun hc => ?_, fun hc => ?_⟩
  · refine w_iload_n (n := 21) rfl rfl rfl ?_
    refine w_iload_n (n := 22) rfl rfl rfl ?_
    refine w_ineg (n := 23) rfl rfl ?_
    refine w_iconst (v := 1) (n := 24) rfl rfl rfl ?_
    refine w_isub (n := 25) rfl rfl ?_
    have J25 : ∀ (w25_0 : Int32), w25_0 = (if ((-((1 <<< (((I 58 5) - 1) &&& 31)) - 1)) - 1) ≤ x1 then (x1 : Int32) else (-((1 <<< (((I 58 5) - 1) &&& 31)) - 1)) - 1) → mm_W 134 36 [some (.ref 58), some (.int x1), some (.int ((1 <<< (((I 58 5) - 1) &&& 31)) - 1))] [.int w25_0] I (mm_qi 134 P) := by
      intro w25_0 e25_0
      subst e25_0
      refine w_drp mm_Qf_i (J13 _ ?_) (lb_s (lb_s (lb_s lb_e)))
      · exact (if_pos hc).symm
    refine w_icmp_ge (n := 28) rfl rfl ⟨fun hc => ?_, fun hc => ?_⟩
    · refine w_iload_n (n := 36) rfl rfl rfl ?_
      refine w_drp mm_Qf_i (J25 _ ?_) (lb_s (lb_s (lb_s lb_e)))
      · exact (if_pos hc).symm
    · refine w_iload_n (n := 29) rfl rfl rfl ?_
      refine w_ineg (n := 30) rfl rfl ?_
      refine w_iconst (v := 1) (n := 31) rfl rfl rfl ?_
      refine w_isub (n := 32) rfl rfl ?_
      refine w_goto rfl ?_
      refine w_drp mm_Qf_i (J25 _ ?_) (lb_s (lb_s (lb_s lb_e)))
      · exact (if_neg (fa_nle hc)).symm
  · refine w_iload_n (n := 17) rfl rfl rfl ?_
    refine w_goto rfl ?_
    refine w_drp mm_Qf_i (J13 _ ?_) (lb_s (lb_s (lb_s lb_e)))
    · exact (if_neg (fa_nle hc)).symm
theorem e_M_drawn {P : Int32 → mm_I → Prop} {I : mm_I}
  (H : P ((((1103515245 * (I 58 9)) + 12345) >>> (16 &&& 31)) &&& 32767) (mm_up I 58 9 ((1103515245 * (I 58 9)) + 12345))) : mm_Mi 135 [.ref 58] I P := by
  refine mm_Mi_of ?_
  show mm_W 135 0 [some (.ref 58)] [] I (mm_qi 135 P)
  refine w_aload_nR (x := 58) (n := 1) rfl rfl rfl ?_
  refine w_ldc (v := 1103515245) (n := 3) rfl rfl rfl ?_
  refine w_aload_nR (x := 58) (n := 4) rfl rfl rfl ?_
  refine w_getI (n := 7) rfl rfl rfl rfl ?_
  refine w_imul (n := 8) rfl rfl ?_
  refine w_sipush (v := 12345) (n := 11) rfl rfl rfl ?_
  refine w_iadd (n := 12) rfl rfl ?_
  refine w_putI (n := 15) rfl rfl rfl rfl rfl ?_
  refine w_aload_nR (x := 58) (n := 16) rfl rfl rfl ?_
  refine w_getI (n := 19) rfl rfl rfl rfl ?_
  refine w_bipush (v := 16) (n := 21) rfl rfl rfl ?_
  refine w_ishr (n := 22) rfl rfl ?_
  refine w_sipush (v := 32767) (n := 25) rfl rfl rfl ?_
  refine w_iand (n := 26) rfl rfl ?_
  exact w_ireturn rfl rfl H
theorem e_M_filled {P : Int32 → mm_I → Prop} {I : mm_I} (x1 : Int32) (x2 : Int32) (x3 : Int32) (x4 : Int32) (x5 : Int32)
  (H : (x2 = 0 →
      P x4 I) ∧
    (x2 = 1 →
      P (x4 + (x3 * x5)) I) ∧
    (x2 = 2 →
      ¬ x5 = 0 ∧
      P (if ((x3 / x5) - (x3 / x5) / 2 * 2) = 0 then (x4 : Int32) else -x4) I) ∧
    (x2 = 3 →
      mm_Mi 135 [.ref 58] I (fun r62 I62 =>  -- M.drawn
      ¬ ((2 * x4) + 1) = 0 ∧
      P ((r62 - r62 / ((2 * x4) + 1) * ((2 * x4) + 1)) - x4) I62)) ∧
    (¬ x2 = 0 → ¬ x2 = 1 → ¬ x2 = 2 → ¬ x2 = 3 →
      vp_in x1 2 ∧
      ((I 58 4) = 2 →
        (0 ≤ ((I 61 x1.toNatClampNeg) - x5) →
          vp_in (1 - x1) 2 ∧
          (((I 61 x1.toNatClampNeg) - x5) < (I 61 ((1 - x1).toNatClampNeg)) →
            vp_in ((256 * (1 - x1)) + ((I 61 x1.toNatClampNeg) - x5)) 512 ∧
            True) ∧
          True) ∧
        True) ∧
      P (if (I 58 4) = 2 then ((if ((I 61 x1.toNatClampNeg) - x5) < 0 then (x4 : Int32) else (if (I 61 ((1 - x1).toNatClampNeg)) ≤ ((I 61 x1.toNatClampNeg) - x5) then (x4 : Int32) else x4 + (I 60 (((256 * (1 - x1)) + ((I 61 x1.toNatClampNeg) - x5)).toNatClampNeg)))) : Int32) else x4) I)) : mm_Mi 136 [.ref 58, .int x1, .int x2, .int x3, .int x4, .int x5] I P := by
  refine mm_Mi_of ?_
  show mm_W 136 0 [some (.ref 58), some (.int x1), some (.int x2), some (.int x3), some (.int x4), some (.int x5), none] [] I (mm_qi 136 P)
  refine w_iload_n (n := 1) rfl rfl rfl ?_
  by_cases h1_0 : x2 = 0
  · replace H := H.1 h1_0
    refine w_switch (tg := 32) rfl (by rw [h1_0]; rfl) ?_
    refine w_iload (n := 34) rfl rfl rfl ?_
    exact w_ireturn rfl rfl H
  by_cases h1_1 : x2 = 1
  · replace H := H.2.1 h1_1
    refine w_switch (tg := 35) rfl (by rw [h1_1]; rfl) ?_
    refine w_iload (n := 37) rfl rfl rfl ?_
    refine w_iload_n (n := 38) rfl rfl rfl ?_
    refine w_iload (n := 40) rfl rfl rfl ?_
    refine w_imul (n := 41) rfl rfl ?_
    refine w_iadd (n := 42) rfl rfl ?_
    exact w_ireturn rfl rfl H
  by_cases h1_2 : x2 = 2
  · replace H := H.2.2.1 h1_2
    refine w_switch (tg := 43) rfl (by rw [h1_2]; rfl) ?_
    refine w_iload_n (n := 44) rfl rfl rfl ?_
    refine w_iload (n := 46) rfl rfl rfl ?_
    refine w_idiv (n := 47) rfl rfl ⟨H.1, ?_⟩
    replace H := H.2
    refine w_iconst (v := 2) (n := 48) rfl rfl rfl ?_
    refine w_irem (n := 49) rfl rfl ⟨by decide, ?_⟩
    have J49 : ∀ (w49_0 : Int32), w49_0 = (if ((x3 / x5) - (x3 / x5) / 2 * 2) = 0 then (x4 : Int32) else -x4) → mm_W 136 60 [some (.ref 58), some (.int x1), some (.int x2), some (.int x3), some (.int x4), some (.int x5), none] [.int w49_0] I (mm_qi 136 P) := by
      intro w49_0 e49_0
      subst e49_0
      exact w_ireturn rfl rfl H
    refine w_if_ne (n := 52) rfl rfl ⟨fun hc => ?_, fun hc => ?_⟩
    · refine w_iload (n := 59) rfl rfl rfl ?_
      refine w_ineg (n := 60) rfl rfl ?_
      refine w_drp mm_Qf_i (J49 _ ?_) (lb_s (lb_s (lb_s (lb_s (lb_s (lb_s (lb_n lb_e)))))))
      · exact (if_neg hc).symm
    · refine w_iload (n := 54) rfl rfl rfl ?_
      refine w_goto rfl ?_
      refine w_drp mm_Qf_i (J49 _ ?_) (lb_s (lb_s (lb_s (lb_s (lb_s (lb_s (lb_n lb_e)))))))
      · exact (if_pos hc).symm
  by_cases h1_3 : x2 = 3
  · replace H := H.2.2.2.1 h1_3
    refine w_switch (tg := 61) rfl (by rw [h1_3]; rfl) ?_
    refine w_aload_nR (x := 58) (n := 62) rfl rfl rfl ?_
    refine w_calli (as := [.ref 58]) (rest := []) (n := 65) rfl rfl rfl rfl ?_
    obtain ⟨r62, I62, hI62, H⟩ := H
    refine ⟨r62, I62, hI62, ?_⟩
    refine w_iconst (v := 2) (n := 66) rfl rfl rfl ?_
    refine w_iload (n := 68) rfl rfl rfl ?_
    refine w_imul (n := 69) rfl rfl ?_
    refine w_iconst (v := 1) (n := 70) rfl rfl rfl ?_
    refine w_iadd (n := 71) rfl rfl ?_
    refine w_irem (n := 72) rfl rfl ⟨H.1, ?_⟩
    replace H := H.2
    refine w_iload (n := 74) rfl rfl rfl ?_
    refine w_isub (n := 75) rfl rfl ?_
    exact w_ireturn rfl rfl H
  replace H := H.2.2.2.2 h1_0 h1_1 h1_2 h1_3
  refine w_switch (tg := 76) rfl (mm_sw_def (fun z z1 z2 ze => ?_) rfl) ?_
  · rcases (show z = 0 ∨ z = 1 ∨ z = 2 ∨ z = 3 by omega) with rfl | rfl | rfl | rfl
    · exact h1_0 (Int32.toInt_inj.mp (by rw [ze]; rfl))
    · exact h1_1 (Int32.toInt_inj.mp (by rw [ze]; rfl))
    · exact h1_2 (Int32.toInt_inj.mp (by rw [ze]; rfl))
    · exact h1_3 (Int32.toInt_inj.mp (by rw [ze]; rfl))
  refine w_aload_nR (x := 58) (n := 77) rfl rfl rfl ?_
  refine w_getR (b := 61) (n := 80) rfl rfl rfl rfl rfl ?_
  refine w_iload_n (n := 81) rfl rfl rfl ?_
  refine w_iaload (N := 2) (j := x1.toNatClampNeg) (n := 82) rfl rfl rfl rfl rfl rfl ⟨H.1, ?_⟩
  replace H := H.2
  refine w_iload (n := 84) rfl rfl rfl ?_
  refine w_isub (n := 85) rfl rfl ?_
  refine w_istore (ls' := [some (.ref 58), some (.int x1), some (.int x2), some (.int x3), some (.int x4), some (.int x5), some (.int ((I 61 x1.toNatClampNeg) - x5))]) (n := 87) rfl rfl rfl rfl ?_
  refine w_aload_nR (x := 58) (n := 88) rfl rfl rfl ?_
  refine w_getI (n := 91) rfl rfl rfl rfl ?_
  refine w_iconst (v := 2) (n := 92) rfl rfl rfl ?_
  obtain ⟨K2, H⟩ := H
  have J92 : ∀ (w92_0 : Int32), w92_0 = (if (I 58 4) = 2 then ((if ((I 61 x1.toNatClampNeg) - x5) < 0 then (x4 : Int32) else (if (I 61 ((1 - x1).toNatClampNeg)) ≤ ((I 61 x1.toNatClampNeg) - x5) then (x4 : Int32) else x4 + (I 60 (((256 * (1 - x1)) + ((I 61 x1.toNatClampNeg) - x5)).toNatClampNeg)))) : Int32) else x4) → mm_W 136 136 [some (.ref 58), some (.int x1), some (.int x2), some (.int x3), some (.int x4), some (.int x5), some (.int ((I 61 x1.toNatClampNeg) - x5))] [.int w92_0] I (mm_qi 136 P) := by
    intro w92_0 e92_0
    subst e92_0
    exact w_ireturn rfl rfl H
  refine w_icmp_ne (n := 95) rfl rfl ⟨fun hc => ?_, fun hc => ?_⟩
  · refine w_iload (n := 136) rfl rfl rfl ?_
    refine w_drp mm_Qf_i (J92 _ ?_) (lb_s (lb_s (lb_s (lb_s (lb_s (lb_s (lb_s lb_e)))))))
    · exact (if_neg hc).symm
  · have H := K2 hc
    refine w_iload (n := 97) rfl rfl rfl ?_
    obtain ⟨K2, H⟩ := H
    have J97 : ∀ (w97_0 : Int32), w97_0 = (if ((I 61 x1.toNatClampNeg) - x5) < 0 then (x4 : Int32) else (if (I 61 ((1 - x1).toNatClampNeg)) ≤ ((I 61 x1.toNatClampNeg) - x5) then (x4 : Int32) else x4 + (I 60 (((256 * (1 - x1)) + ((I 61 x1.toNatClampNeg) - x5)).toNatClampNeg)))) → mm_W 136 136 [some (.ref 58), some (.int x1), some (.int x2), some (.int x3), some (.int x4), some (.int x5), some (.int ((I 61 x1.toNatClampNeg) - x5))] [.int w97_0] I (mm_qi 136 P) := by
      intro w97_0 e97_0
      subst e97_0
      refine w_drp mm_Qf_i (J92 _ ?_) (lb_s (lb_s (lb_s (lb_s (lb_s (lb_s (lb_s lb_e)))))))
      · exact (if_pos hc).symm
    refine w_if_lt (n := 100) rfl rfl ⟨fun hc => ?_, fun hc => ?_⟩
    · refine w_iload (n := 136) rfl rfl rfl ?_
      refine w_drp mm_Qf_i (J97 _ ?_) (lb_s (lb_s (lb_s (lb_s (lb_s (lb_s (lb_s lb_e)))))))
      · exact (if_pos hc).symm
    · have H := K2 hc
      refine w_iload (n := 102) rfl rfl rfl ?_
      refine w_aload_nR (x := 58) (n := 103) rfl rfl rfl ?_
      refine w_getR (b := 61) (n := 106) rfl rfl rfl rfl rfl ?_
      refine w_iconst (v := 1) (n := 107) rfl rfl rfl ?_
      refine w_iload_n (n := 108) rfl rfl rfl ?_
      refine w_isub (n := 109) rfl rfl ?_
      refine w_iaload (N := 2) (j := (1 - x1).toNatClampNeg) (n := 110) rfl rfl rfl rfl rfl rfl ⟨H.1, ?_⟩
      replace H := H.2
      obtain ⟨K2, H⟩ := H
      have J110 : ∀ (w110_0 : Int32), w110_0 = (if (I 61 ((1 - x1).toNatClampNeg)) ≤ ((I 61 x1.toNatClampNeg) - x5) then (x4 : Int32) else x4 + (I 60 (((256 * (1 - x1)) + ((I 61 x1.toNatClampNeg) - x5)).toNatClampNeg))) → mm_W 136 136 [some (.ref 58), some (.int x1), some (.int x2), some (.int x3), some (.int x4), some (.int x5), some (.int ((I 61 x1.toNatClampNeg) - x5))] [.int w110_0] I (mm_qi 136 P) := by
        intro w110_0 e110_0
        subst e110_0
        refine w_drp mm_Qf_i (J97 _ ?_) (lb_s (lb_s (lb_s (lb_s (lb_s (lb_s (lb_s lb_e)))))))
        · exact (if_neg (fa_nlt hc)).symm
      refine w_icmp_ge (n := 113) rfl rfl ⟨fun hc => ?_, fun hc => ?_⟩
      · refine w_iload (n := 136) rfl rfl rfl ?_
        refine w_drp mm_Qf_i (J110 _ ?_) (lb_s (lb_s (lb_s (lb_s (lb_s (lb_s (lb_s lb_e)))))))
        · exact (if_pos hc).symm
      · have H := K2 hc
        refine w_iload (n := 115) rfl rfl rfl ?_
        refine w_aload_nR (x := 58) (n := 116) rfl rfl rfl ?_
        refine w_getR (b := 60) (n := 119) rfl rfl rfl rfl rfl ?_
        refine w_sipush (v := 256) (n := 122) rfl rfl rfl ?_
        refine w_iconst (v := 1) (n := 123) rfl rfl rfl ?_
        refine w_iload_n (n := 124) rfl rfl rfl ?_
        refine w_isub (n := 125) rfl rfl ?_
        refine w_imul (n := 126) rfl rfl ?_
        refine w_iload (n := 128) rfl rfl rfl ?_
        refine w_iadd (n := 129) rfl rfl ?_
        refine w_iaload (N := 512) (j := ((256 * (1 - x1)) + ((I 61 x1.toNatClampNeg) - x5)).toNatClampNeg) (n := 130) rfl rfl rfl rfl rfl rfl ⟨H.1, ?_⟩
        replace H := H.2
        refine w_iadd (n := 131) rfl rfl ?_
        refine w_goto rfl ?_
        refine w_drp mm_Qf_i (J110 _ ?_) (lb_s (lb_s (lb_s (lb_s (lb_s (lb_s (lb_s lb_e)))))))
        · exact (if_neg (fa_nle hc)).symm
theorem e_M_fill {P : Int32 → mm_I → Prop} {I : mm_I} (x1 : Int32) (x2 : Int32) (x3 : Int32) (x4 : Int32) (x5 : Int32)
  (H : mm_Mi 126 [.ref 58, .int x1] (mm_up I 58 16 0) (fun r7 I7 =>  -- M.isChannel
    (r7 = 0 →
      P (-1) I7) ∧
    (¬ r7 = 0 →
      mm_Mi 125 [.int x2, .int 0, .int 4] I7 (fun r16 I16 =>  -- M.within
      (r16 = 0 →
        P (-1) I16) ∧
      (¬ r16 = 0 →
        mm_Mi 125 [.int x3, .int 1, .int 64] I16 (fun r26 I26 =>  -- M.within
        (r26 = 0 →
          P (-1) I26) ∧
        (¬ r26 = 0 →
          mm_Mi 125 [.int x4, .int (-65536), .int 65536] I26 (fun r38 I38 =>  -- M.within
          (r38 = 0 →
            P (-1) I38) ∧
          (¬ r38 = 0 →
            mm_Mi 125 [.int x5, .int (-65536), .int 65536] I38 (fun r50 I50 =>  -- M.within
            (¬ r50 = 0 →
              (¬ x2 = 2 →
                mm_W 137 74 [some (.ref 58), some (.int x1), some (.int x2), some (.int x3), some (.int x4), some (.int x5), none] [] I50 (mm_qi 137 P)) ∧
              (x2 = 2 →
                mm_Mi 125 [.int x5, .int 1, .int 64] I50 (fun r68 I68 =>  -- M.within
                (r68 = 0 →
                  P (-1) I68) ∧
                (¬ r68 = 0 →
                  mm_W 137 74 [some (.ref 58), some (.int x1), some (.int x2), some (.int x3), some (.int x4), some (.int x5), none] [] I68 (mm_qi 137 P))))) ∧
            (r50 = 0 →
              P (-1) I50))))))))))) : mm_Mi 137 [.ref 58, .int x1, .int x2, .int x3, .int x4, .int x5] I P := by
  refine mm_Mi_of ?_
  show mm_W 137 0 [some (.ref 58), some (.int x1), some (.int x2), some (.int x3), some (.int x4), some (.int x5), none] [] I (mm_qi 137 P)
  refine w_aload_nR (x := 58) (n := 1) rfl rfl rfl ?_
  refine w_iconst (v := 0) (n := 2) rfl rfl rfl ?_
  refine w_putI (n := 5) rfl rfl rfl rfl rfl ?_
  refine w_aload_nR (x := 58) (n := 6) rfl rfl rfl ?_
  refine w_iload_n (n := 7) rfl rfl rfl ?_
  refine w_calli (as := [.ref 58, .int x1]) (rest := []) (n := 10) rfl rfl rfl rfl ?_
  obtain ⟨r7, I7, hI7, H⟩ := H
  refine ⟨r7, I7, hI7, ?_⟩
  refine w_if_eq (n := 13) rfl rfl ⟨fun hc => ?_, fun hc => ?_⟩
  · replace H := H.1 hc
    refine w_iconst (v := (-1)) (n := 57) rfl rfl rfl ?_
    exact w_ireturn rfl rfl H
  · replace H := H.2 hc
    refine w_iload_n (n := 14) rfl rfl rfl ?_
    refine w_iconst (v := 0) (n := 15) rfl rfl rfl ?_
    refine w_iconst (v := 4) (n := 16) rfl rfl rfl ?_
    refine w_calli (as := [.int x2, .int 0, .int 4]) (rest := []) (n := 19) rfl rfl rfl rfl ?_
    obtain ⟨r16, I16, hI16, H⟩ := H
    refine ⟨r16, I16, hI16, ?_⟩
    refine w_if_eq (n := 22) rfl rfl ⟨fun hc => ?_, fun hc => ?_⟩
    · replace H := H.1 hc
      refine w_iconst (v := (-1)) (n := 57) rfl rfl rfl ?_
      exact w_ireturn rfl rfl H
    · replace H := H.2 hc
      refine w_iload_n (n := 23) rfl rfl rfl ?_
      refine w_iconst (v := 1) (n := 24) rfl rfl rfl ?_
      refine w_bipush (v := 64) (n := 26) rfl rfl rfl ?_
      refine w_calli (as := [.int x3, .int 1, .int 64]) (rest := []) (n := 29) rfl rfl rfl rfl ?_
      obtain ⟨r26, I26, hI26, H⟩ := H
      refine ⟨r26, I26, hI26, ?_⟩
      refine w_if_eq (n := 32) rfl rfl ⟨fun hc => ?_, fun hc => ?_⟩
      · replace H := H.1 hc
        refine w_iconst (v := (-1)) (n := 57) rfl rfl rfl ?_
        exact w_ireturn rfl rfl H
      · replace H := H.2 hc
        refine w_iload (n := 34) rfl rfl rfl ?_
        refine w_ldc (v := (-65536)) (n := 36) rfl rfl rfl ?_
        refine w_ldc (v := 65536) (n := 38) rfl rfl rfl ?_
        refine w_calli (as := [.int x4, .int (-65536), .int 65536]) (rest := []) (n := 41) rfl rfl rfl rfl ?_
        obtain ⟨r38, I38, hI38, H⟩ := H
        refine ⟨r38, I38, hI38, ?_⟩
        refine w_if_eq (n := 44) rfl rfl ⟨fun hc => ?_, fun hc => ?_⟩
        · replace H := H.1 hc
          refine w_iconst (v := (-1)) (n := 57) rfl rfl rfl ?_
          exact w_ireturn rfl rfl H
        · replace H := H.2 hc
          refine w_iload (n := 46) rfl rfl rfl ?_
          refine w_ldc (v := (-65536)) (n := 48) rfl rfl rfl ?_
          refine w_ldc (v := 65536) (n := 50) rfl rfl rfl ?_
          refine w_calli (as := [.int x5, .int (-65536), .int 65536]) (rest := []) (n := 53) rfl rfl rfl rfl ?_
          obtain ⟨r50, I50, hI50, H⟩ := H
          refine ⟨r50, I50, hI50, ?_⟩
          refine w_if_ne (n := 56) rfl rfl ⟨fun hc => ?_, fun hc => ?_⟩
          · replace H := H.1 hc
            refine w_iload_n (n := 59) rfl rfl rfl ?_
            refine w_iconst (v := 2) (n := 60) rfl rfl rfl ?_
            refine w_icmp_ne (n := 63) rfl rfl ⟨fun hc => ?_, fun hc => ?_⟩
            · replace H := H.1 hc
              exact w_drp mm_Qf_i H (lb_s (lb_s (lb_s (lb_s (lb_s (lb_s (lb_n lb_e)))))))
            · replace H := H.2 hc
              refine w_iload (n := 65) rfl rfl rfl ?_
              refine w_iconst (v := 1) (n := 66) rfl rfl rfl ?_
              refine w_bipush (v := 64) (n := 68) rfl rfl rfl ?_
              refine w_calli (as := [.int x5, .int 1, .int 64]) (rest := []) (n := 71) rfl rfl rfl rfl ?_
              obtain ⟨r68, I68, hI68, H⟩ := H
              refine ⟨r68, I68, hI68, ?_⟩
              refine w_if_eq (n := 74) rfl rfl ⟨fun hc => ?_, fun hc => ?_⟩
              · replace H := H.1 hc
                refine w_iconst (v := (-1)) (n := 123) rfl rfl rfl ?_
                exact w_ireturn rfl rfl H
              · replace H := H.2 hc
                exact w_drp mm_Qf_i H (lb_s (lb_s (lb_s (lb_s (lb_s (lb_s (lb_n lb_e)))))))
          · replace H := H.2 hc
            refine w_iconst (v := (-1)) (n := 57) rfl rfl rfl ?_
            exact w_ireturn rfl rfl H
theorem c_M_fill_74 {P : Int32 → mm_I → Prop} {I : mm_I} (x1 : Int32) (x2 : Int32) (x3 : Int32) (x4 : Int32) (x5 : Int32)
  (H : (¬ x2 = 3 →
      mm_W 137 91 [some (.ref 58), some (.int x1), some (.int x2), some (.int x3), some (.int x4), some (.int x5), none] [] I (mm_qi 137 P)) ∧
    (x2 = 3 →
      mm_Mi 125 [.int x4, .int 0, .int 32767] I (fun r85 I85 =>  -- M.within
      (r85 = 0 →
        P (-1) I85) ∧
      (¬ r85 = 0 →
        mm_W 137 91 [some (.ref 58), some (.int x1), some (.int x2), some (.int x3), some (.int x4), some (.int x5), none] [] I85 (mm_qi 137 P))))) : mm_W 137 74 [some (.ref 58), some (.int x1), some (.int x2), some (.int x3), some (.int x4), some (.int x5), none] [] I (mm_qi 137 P) := by
  refine w_iload_n (n := 75) rfl rfl rfl ?_
  refine w_iconst (v := 3) (n := 76) rfl rfl rfl ?_
  refine w_icmp_ne (n := 79) rfl rfl ⟨fun hc => ?_, fun hc => ?_⟩
  · replace H := H.1 hc
    exact w_drp mm_Qf_i H (lb_s (lb_s (lb_s (lb_s (lb_s (lb_s (lb_n lb_e)))))))
  · replace H := H.2 hc
    refine w_iload (n := 81) rfl rfl rfl ?_
    refine w_iconst (v := 0) (n := 82) rfl rfl rfl ?_
    refine w_sipush (v := 32767) (n := 85) rfl rfl rfl ?_
    refine w_calli (as := [.int x4, .int 0, .int 32767]) (rest := []) (n := 88) rfl rfl rfl rfl ?_
    obtain ⟨r85, I85, hI85, H⟩ := H
    refine ⟨r85, I85, hI85, ?_⟩
    refine w_if_eq (n := 91) rfl rfl ⟨fun hc => ?_, fun hc => ?_⟩
    · replace H := H.1 hc
      refine w_iconst (v := (-1)) (n := 123) rfl rfl rfl ?_
      exact w_ireturn rfl rfl H
    · replace H := H.2 hc
      exact w_drp mm_Qf_i H (lb_s (lb_s (lb_s (lb_s (lb_s (lb_s (lb_n lb_e)))))))
theorem c_M_fill_91 {P : Int32 → mm_I → Prop} {I : mm_I} (x1 : Int32) (x2 : Int32) (x3 : Int32) (x4 : Int32) (x5 : Int32)
  (H : (¬ x2 = 4 →
      mm_W 137 108 [some (.ref 58), some (.int x1), some (.int x2), some (.int x3), some (.int x4), some (.int x5), none] [] I (mm_qi 137 P)) ∧
    (x2 = 4 →
      mm_Mi 125 [.int x5, .int 0, .int 255] I (fun r102 I102 =>  -- M.within
      (r102 = 0 →
        P (-1) I102) ∧
      (¬ r102 = 0 →
        mm_W 137 108 [some (.ref 58), some (.int x1), some (.int x2), some (.int x3), some (.int x4), some (.int x5), none] [] I102 (mm_qi 137 P))))) : mm_W 137 91 [some (.ref 58), some (.int x1), some (.int x2), some (.int x3), some (.int x4), some (.int x5), none] [] I (mm_qi 137 P) := by
  refine w_iload_n (n := 92) rfl rfl rfl ?_
  refine w_iconst (v := 4) (n := 93) rfl rfl rfl ?_
  refine w_icmp_ne (n := 96) rfl rfl ⟨fun hc => ?_, fun hc => ?_⟩
  · replace H := H.1 hc
    exact w_drp mm_Qf_i H (lb_s (lb_s (lb_s (lb_s (lb_s (lb_s (lb_n lb_e)))))))
  · replace H := H.2 hc
    refine w_iload (n := 98) rfl rfl rfl ?_
    refine w_iconst (v := 0) (n := 99) rfl rfl rfl ?_
    refine w_sipush (v := 255) (n := 102) rfl rfl rfl ?_
    refine w_calli (as := [.int x5, .int 0, .int 255]) (rest := []) (n := 105) rfl rfl rfl rfl ?_
    obtain ⟨r102, I102, hI102, H⟩ := H
    refine ⟨r102, I102, hI102, ?_⟩
    refine w_if_eq (n := 108) rfl rfl ⟨fun hc => ?_, fun hc => ?_⟩
    · replace H := H.1 hc
      refine w_iconst (v := (-1)) (n := 123) rfl rfl rfl ?_
      exact w_ireturn rfl rfl H
    · replace H := H.2 hc
      exact w_drp mm_Qf_i H (lb_s (lb_s (lb_s (lb_s (lb_s (lb_s (lb_n lb_e)))))))
theorem c_M_fill_108 {P : Int32 → mm_I → Prop} {I : mm_I} (x1 : Int32) (x2 : Int32) (x3 : Int32) (x4 : Int32) (x5 : Int32)
  (H : vp_in x1 2 ∧
    (((I 61 x1.toNatClampNeg) + x3) ≤ 256 →
      (¬ x2 = 3 →
        mm_W 137 143 [some (.ref 58), some (.int x1), some (.int x2), some (.int x3), some (.int x4), some (.int x5), some (.int 0)] [] I (mm_qi 137 P)) ∧
      (x2 = 3 →
        (x5 = 0 →
          mm_W 137 143 [some (.ref 58), some (.int x1), some (.int x2), some (.int x3), some (.int x4), some (.int x5), some (.int 0)] [] I (mm_qi 137 P)) ∧
        (¬ x5 = 0 →
          mm_W 137 143 [some (.ref 58), some (.int x1), some (.int x2), some (.int x3), some (.int x4), some (.int x5), some (.int 0)] [] (mm_up I 58 9 x5) (mm_qi 137 P)))) ∧
    (256 < ((I 61 x1.toNatClampNeg) + x3) →
      P (-1) I)) : mm_W 137 108 [some (.ref 58), some (.int x1), some (.int x2), some (.int x3), some (.int x4), some (.int x5), none] [] I (mm_qi 137 P) := by
  refine w_aload_nR (x := 58) (n := 109) rfl rfl rfl ?_
  refine w_getR (b := 61) (n := 112) rfl rfl rfl rfl rfl ?_
  refine w_iload_n (n := 113) rfl rfl rfl ?_
  refine w_iaload (N := 2) (j := x1.toNatClampNeg) (n := 114) rfl rfl rfl rfl rfl rfl ⟨H.1, ?_⟩
  replace H := H.2
  refine w_iload_n (n := 115) rfl rfl rfl ?_
  refine w_iadd (n := 116) rfl rfl ?_
  refine w_sipush (v := 256) (n := 119) rfl rfl rfl ?_
  refine w_icmp_le (n := 122) rfl rfl ⟨fun hc => ?_, fun hc => ?_⟩
  · replace H := H.1 hc
    refine w_iload_n (n := 125) rfl rfl rfl ?_
    refine w_iconst (v := 3) (n := 126) rfl rfl rfl ?_
    refine w_icmp_ne (n := 129) rfl rfl ⟨fun hc => ?_, fun hc => ?_⟩
    · replace H := H.1 hc
      refine w_iconst (v := 0) (n := 141) rfl rfl rfl ?_
      refine w_istore (ls' := [some (.ref 58), some (.int x1), some (.int x2), some (.int x3), some (.int x4), some (.int x5), some (.int 0)]) (n := 143) rfl rfl rfl rfl ?_
      exact w_drp mm_Qf_i H (lb_s (lb_s (lb_s (lb_s (lb_s (lb_s (lb_s lb_e)))))))
    · replace H := H.2 hc
      refine w_iload (n := 131) rfl rfl rfl ?_
      refine w_if_eq (n := 134) rfl rfl ⟨fun hc => ?_, fun hc => ?_⟩
      · replace H := H.1 hc
        refine w_iconst (v := 0) (n := 141) rfl rfl rfl ?_
        refine w_istore (ls' := [some (.ref 58), some (.int x1), some (.int x2), some (.int x3), some (.int x4), some (.int x5), some (.int 0)]) (n := 143) rfl rfl rfl rfl ?_
        exact w_drp mm_Qf_i H (lb_s (lb_s (lb_s (lb_s (lb_s (lb_s (lb_s lb_e)))))))
      · replace H := H.2 hc
        refine w_aload_nR (x := 58) (n := 135) rfl rfl rfl ?_
        refine w_iload (n := 137) rfl rfl rfl ?_
        refine w_putI (n := 140) rfl rfl rfl rfl rfl ?_
        refine w_iconst (v := 0) (n := 141) rfl rfl rfl ?_
        refine w_istore (ls' := [some (.ref 58), some (.int x1), some (.int x2), some (.int x3), some (.int x4), some (.int x5), some (.int 0)]) (n := 143) rfl rfl rfl rfl ?_
        exact w_drp mm_Qf_i H (lb_s (lb_s (lb_s (lb_s (lb_s (lb_s (lb_s lb_e)))))))
  · replace H := H.2 hc
    refine w_iconst (v := (-1)) (n := 123) rfl rfl rfl ?_
    exact w_ireturn rfl rfl H
theorem c_M_fill_143 {P : Int32 → mm_I → Prop} {I : mm_I} (x1 : Int32) (x2 : Int32) (x3 : Int32) (x4 : Int32) (x5 : Int32) (x6 : Int32)
  (H : (x3 ≤ x6 →
      vp_in x1 2 ∧
      P (I 61 x1.toNatClampNeg) I) ∧
    (x6 < x3 →
      mm_Mi 136 [.ref 58, .int x1, .int x2, .int x6, .int x4, .int x5] I (fun r161 I161 =>  -- M.filled
      mm_Mi 134 [.ref 58, .int r161] I161 (fun r164 I164 =>  -- M.held
      mm_Mv 132 [.ref 58, .int x1, .int r164] I164 (fun I167 =>  -- M.puts
      mm_W 137 143 [some (.ref 58), some (.int x1), some (.int x2), some (.int x3), some (.int x4), some (.int x5), some (.int (x6 + 1))] [] I167 (mm_qi 137 P)))))) : mm_W 137 143 [some (.ref 58), some (.int x1), some (.int x2), some (.int x3), some (.int x4), some (.int x5), some (.int x6)] [] I (mm_qi 137 P) := by
  refine w_iload (n := 145) rfl rfl rfl ?_
  refine w_iload_n (n := 146) rfl rfl rfl ?_
  refine w_icmp_ge (n := 149) rfl rfl ⟨fun hc => ?_, fun hc => ?_⟩
  · replace H := H.1 hc
    refine w_aload_nR (x := 58) (n := 177) rfl rfl rfl ?_
    refine w_getR (b := 61) (n := 180) rfl rfl rfl rfl rfl ?_
    refine w_iload_n (n := 181) rfl rfl rfl ?_
    refine w_iaload (N := 2) (j := x1.toNatClampNeg) (n := 182) rfl rfl rfl rfl rfl rfl ⟨H.1, ?_⟩
    replace H := H.2
    exact w_ireturn rfl rfl H
  · replace H := H.2 hc
    refine w_aload_nR (x := 58) (n := 150) rfl rfl rfl ?_
    refine w_iload_n (n := 151) rfl rfl rfl ?_
    refine w_aload_nR (x := 58) (n := 152) rfl rfl rfl ?_
    refine w_aload_nR (x := 58) (n := 153) rfl rfl rfl ?_
    refine w_iload_n (n := 154) rfl rfl rfl ?_
    refine w_iload_n (n := 155) rfl rfl rfl ?_
    refine w_iload (n := 157) rfl rfl rfl ?_
    refine w_iload (n := 159) rfl rfl rfl ?_
    refine w_iload (n := 161) rfl rfl rfl ?_
    refine w_calli (as := [.ref 58, .int x1, .int x2, .int x6, .int x4, .int x5]) (rest := [.ref 58, .int x1, .ref 58]) (n := 164) rfl rfl rfl rfl ?_
    obtain ⟨r161, I161, hI161, H⟩ := H
    refine ⟨r161, I161, hI161, ?_⟩
    refine w_calli (as := [.ref 58, .int r161]) (rest := [.int x1, .ref 58]) (n := 167) rfl rfl rfl rfl ?_
    obtain ⟨r164, I164, hI164, H⟩ := H
    refine ⟨r164, I164, hI164, ?_⟩
    refine w_callv (as := [.ref 58, .int x1, .int r164]) (rest := []) (n := 170) rfl rfl rfl rfl ?_
    obtain ⟨I167, hI167, H⟩ := H
    refine ⟨I167, hI167, ?_⟩
    refine w_iinc (y := x6 + 1) (ls' := [some (.ref 58), some (.int x1), some (.int x2), some (.int x3), some (.int x4), some (.int x5), some (.int (x6 + 1))]) (n := 173) rfl rfl rfl rfl rfl ?_
    refine w_goto rfl ?_
    exact w_drp mm_Qf_i H (lb_s (lb_s (lb_s (lb_s (lb_s (lb_s (lb_s lb_e)))))))
theorem e_M_clear {P : Int32 → mm_I → Prop} {I : mm_I}
  (H : mm_W 138 50 [some (.ref 58), some (.int (I 58 4)), some (.int 0)] [] (mm_up (mm_up (mm_up (mm_up (mm_up (mm_up (mm_up (mm_up I 58 16 0) 58 1 0) 58 4 0) 58 5 0) 58 6 32) 58 7 1) 58 8 255) 58 9 1) (mm_qi 138 P)) : mm_Mi 138 [.ref 58] I P := by
  refine mm_Mi_of ?_
  show mm_W 138 0 [some (.ref 58), none, none] [] I (mm_qi 138 P)
  refine w_aload_nR (x := 58) (n := 1) rfl rfl rfl ?_
  refine w_iconst (v := 0) (n := 2) rfl rfl rfl ?_
  refine w_putI (n := 5) rfl rfl rfl rfl rfl ?_
  refine w_aload_nR (x := 58) (n := 6) rfl rfl rfl ?_
  refine w_getI (n := 9) rfl rfl rfl rfl ?_
  refine w_istore_n (ls' := [some (.ref 58), some (.int (I 58 4)), none]) (n := 10) rfl rfl rfl rfl ?_
  refine w_aload_nR (x := 58) (n := 11) rfl rfl rfl ?_
  refine w_iconst (v := 0) (n := 12) rfl rfl rfl ?_
  refine w_putI (n := 15) rfl rfl rfl rfl rfl ?_
  refine w_aload_nR (x := 58) (n := 16) rfl rfl rfl ?_
  refine w_iconst (v := 0) (n := 17) rfl rfl rfl ?_
  refine w_putI (n := 20) rfl rfl rfl rfl rfl ?_
  refine w_aload_nR (x := 58) (n := 21) rfl rfl rfl ?_
  refine w_iconst (v := 0) (n := 22) rfl rfl rfl ?_
  refine w_putI (n := 25) rfl rfl rfl rfl rfl ?_
  refine w_aload_nR (x := 58) (n := 26) rfl rfl rfl ?_
  refine w_bipush (v := 32) (n := 28) rfl rfl rfl ?_
  refine w_putI (n := 31) rfl rfl rfl rfl rfl ?_
  refine w_aload_nR (x := 58) (n := 32) rfl rfl rfl ?_
  refine w_iconst (v := 1) (n := 33) rfl rfl rfl ?_
  refine w_putI (n := 36) rfl rfl rfl rfl rfl ?_
  refine w_aload_nR (x := 58) (n := 37) rfl rfl rfl ?_
  refine w_sipush (v := 255) (n := 40) rfl rfl rfl ?_
  refine w_putI (n := 43) rfl rfl rfl rfl rfl ?_
  refine w_aload_nR (x := 58) (n := 44) rfl rfl rfl ?_
  refine w_iconst (v := 1) (n := 45) rfl rfl rfl ?_
  refine w_putI (n := 48) rfl rfl rfl rfl rfl ?_
  refine w_iconst (v := 0) (n := 49) rfl rfl rfl ?_
  refine w_istore_n (ls' := [some (.ref 58), some (.int (I 58 4)), some (.int 0)]) (n := 50) rfl rfl rfl rfl ?_
  exact w_drp mm_Qf_i H (lb_s (lb_s (lb_s lb_e)))
theorem c_M_clear_50 {P : Int32 → mm_I → Prop} {I : mm_I} (x1 : Int32) (x2 : Int32)
  (H : (9 ≤ x2 →
      mm_W 138 71 [some (.ref 58), some (.int x1), some (.int 0)] [] I (mm_qi 138 P)) ∧
    (x2 < 9 →
      vp_in x2 9 ∧
      mm_W 138 50 [some (.ref 58), some (.int x1), some (.int (x2 + 1))] [] (mm_up I 62 x2.toNatClampNeg 0) (mm_qi 138 P))) : mm_W 138 50 [some (.ref 58), some (.int x1), some (.int x2)] [] I (mm_qi 138 P) := by
  refine w_iload_n (n := 51) rfl rfl rfl ?_
  refine w_bipush (v := 9) (n := 53) rfl rfl rfl ?_
  refine w_icmp_ge (n := 56) rfl rfl ⟨fun hc => ?_, fun hc => ?_⟩
  · replace H := H.1 hc
    refine w_iconst (v := 0) (n := 70) rfl rfl rfl ?_
    refine w_istore_n (ls' := [some (.ref 58), some (.int x1), some (.int 0)]) (n := 71) rfl rfl rfl rfl ?_
    exact w_drp mm_Qf_i H (lb_s (lb_s (lb_s lb_e)))
  · replace H := H.2 hc
    refine w_aload_nR (x := 58) (n := 57) rfl rfl rfl ?_
    refine w_getR (b := 62) (n := 60) rfl rfl rfl rfl rfl ?_
    refine w_iload_n (n := 61) rfl rfl rfl ?_
    refine w_iconst (v := 0) (n := 62) rfl rfl rfl ?_
    refine w_iastore (N := 9) (j := x2.toNatClampNeg) (n := 63) rfl rfl rfl rfl rfl ⟨H.1, ?_⟩
    replace H := H.2
    refine w_iinc (y := x2 + 1) (ls' := [some (.ref 58), some (.int x1), some (.int (x2 + 1))]) (n := 66) rfl rfl rfl rfl rfl ?_
    refine w_goto rfl ?_
    exact w_drp mm_Qf_i H (lb_s (lb_s (lb_s lb_e)))
theorem c_M_clear_71 {P : Int32 → mm_I → Prop} {I : mm_I} (x1 : Int32) (x2 : Int32)
  (H : (3 ≤ x2 →
      P x1 I) ∧
    (x2 < 3 →
      vp_in x2 3 ∧
      mm_W 138 71 [some (.ref 58), some (.int x1), some (.int (x2 + 1))] [] (mm_up I 63 x2.toNatClampNeg 0) (mm_qi 138 P))) : mm_W 138 71 [some (.ref 58), some (.int x1), some (.int x2)] [] I (mm_qi 138 P) := by
  refine w_iload_n (n := 72) rfl rfl rfl ?_
  refine w_iconst (v := 3) (n := 73) rfl rfl rfl ?_
  refine w_icmp_ge (n := 76) rfl rfl ⟨fun hc => ?_, fun hc => ?_⟩
  · replace H := H.1 hc
    refine w_iload_n (n := 90) rfl rfl rfl ?_
    exact w_ireturn rfl rfl H
  · replace H := H.2 hc
    refine w_aload_nR (x := 58) (n := 77) rfl rfl rfl ?_
    refine w_getR (b := 63) (n := 80) rfl rfl rfl rfl rfl ?_
    refine w_iload_n (n := 81) rfl rfl rfl ?_
    refine w_iconst (v := 0) (n := 82) rfl rfl rfl ?_
    refine w_iastore (N := 3) (j := x2.toNatClampNeg) (n := 83) rfl rfl rfl rfl rfl ⟨H.1, ?_⟩
    replace H := H.2
    refine w_iinc (y := x2 + 1) (ls' := [some (.ref 58), some (.int x1), some (.int (x2 + 1))]) (n := 86) rfl rfl rfl rfl rfl ?_
    refine w_goto rfl ?_
    exact w_drp mm_Qf_i H (lb_s (lb_s (lb_s lb_e)))
theorem e_M_frame {P : Int32 → mm_I → Prop} {I : mm_I} (x1 : Int32)
  (H : mm_Mi 127 [.int x1] (mm_up I 58 16 0) (fun r6 I6 =>  -- M.isFrame
    (¬ r6 = 0 →
      P (I6 58 6) (mm_up I6 58 6 x1)) ∧
    (r6 = 0 →
      P (-1) I6))) : mm_Mi 139 [.ref 58, .int x1] I P := by
  refine mm_Mi_of ?_
  show mm_W 139 0 [some (.ref 58), some (.int x1), none] [] I (mm_qi 139 P)
  refine w_aload_nR (x := 58) (n := 1) rfl rfl rfl ?_
  refine w_iconst (v := 0) (n := 2) rfl rfl rfl ?_
  refine w_putI (n := 5) rfl rfl rfl rfl rfl ?_
  refine w_iload_n (n := 6) rfl rfl rfl ?_
  refine w_calli (as := [.int x1]) (rest := []) (n := 9) rfl rfl rfl rfl ?_
  obtain ⟨r6, I6, hI6, H⟩ := H
  refine ⟨r6, I6, hI6, ?_⟩
  refine w_if_ne (n := 12) rfl rfl ⟨fun hc => ?_, fun hc => ?_⟩
  · replace H := H.1 hc
    refine w_aload_nR (x := 58) (n := 15) rfl rfl rfl ?_
    refine w_getI (n := 18) rfl rfl rfl rfl ?_
    refine w_istore_n (ls' := [some (.ref 58), some (.int x1), some (.int (I6 58 6))]) (n := 19) rfl rfl rfl rfl ?_
    refine w_aload_nR (x := 58) (n := 20) rfl rfl rfl ?_
    refine w_iload_n (n := 21) rfl rfl rfl ?_
    refine w_putI (n := 24) rfl rfl rfl rfl rfl ?_
    refine w_iload_n (n := 25) rfl rfl rfl ?_
    exact w_ireturn rfl rfl H
  · replace H := H.2 hc
    refine w_iconst (v := (-1)) (n := 13) rfl rfl rfl ?_
    exact w_ireturn rfl rfl H
theorem e_M_predictor {P : Int32 → mm_I → Prop} {I : mm_I} (x1 : Int32) (x2 : Int32) (x3 : Int32) (x4 : Int32) (x5 : Int32)
  (H : mm_Mi 125 [.int x1, .int 5, .int 7] (mm_up I 58 16 0) (fun r9 I9 =>  -- M.within
    (r9 = 0 →
      P (-1) I9) ∧
    (¬ r9 = 0 →
      mm_Mi 125 [.int x2, .int (-31), .int 31] I9 (fun r20 I20 =>  -- M.within
      (r20 = 0 →
        P (-1) I20) ∧
      (¬ r20 = 0 →
        mm_Mi 125 [.int x3, .int (-31), .int 31] I20 (fun r31 I31 =>  -- M.within
        (r31 = 0 →
          P (-1) I31) ∧
        (¬ r31 = 0 →
          mm_Mi 125 [.int x4, .int (-31), .int 31] I31 (fun r43 I43 =>  -- M.within
          (r43 = 0 →
            P (-1) I43) ∧
          (¬ r43 = 0 →
            mm_Mi 125 [.int x5, .int 0, .int 4] I43 (fun r53 I53 =>  -- M.within
            (¬ r53 = 0 →
              vp_in (3 * (x1 - 5)) 9 ∧
              vp_in ((3 * (x1 - 5)) + 1) 9 ∧
              vp_in ((3 * (x1 - 5)) + 2) 9 ∧
              vp_in (x1 - 5) 3 ∧
              mm_Mi 144 [.int x1, .ref 62] (mm_up (mm_up (mm_up (mm_up I53 62 ((3 * (x1 - 5)).toNatClampNeg) x2) 62 (((3 * (x1 - 5)) + 1).toNatClampNeg) x3) 62 (((3 * (x1 - 5)) + 2).toNatClampNeg) x4) 63 ((x1 - 5).toNatClampNeg) x5) (fun r112 I112 =>  -- M.orderOf
              P r112 I112)) ∧
            (r53 = 0 →
              P (-1) I53))))))))))) : mm_Mi 140 [.ref 58, .int x1, .int x2, .int x3, .int x4, .int x5] I P := by
  refine mm_Mi_of ?_
  show mm_W 140 0 [some (.ref 58), some (.int x1), some (.int x2), some (.int x3), some (.int x4), some (.int x5), none] [] I (mm_qi 140 P)
  refine w_aload_nR (x := 58) (n := 1) rfl rfl rfl ?_
  refine w_iconst (v := 0) (n := 2) rfl rfl rfl ?_
  refine w_putI (n := 5) rfl rfl rfl rfl rfl ?_
  refine w_iload_n (n := 6) rfl rfl rfl ?_
  refine w_iconst (v := 5) (n := 7) rfl rfl rfl ?_
  refine w_bipush (v := 7) (n := 9) rfl rfl rfl ?_
  refine w_calli (as := [.int x1, .int 5, .int 7]) (rest := []) (n := 12) rfl rfl rfl rfl ?_
  obtain ⟨r9, I9, hI9, H⟩ := H
  refine ⟨r9, I9, hI9, ?_⟩
  refine w_if_eq (n := 15) rfl rfl ⟨fun hc => ?_, fun hc => ?_⟩
  · replace H := H.1 hc
    refine w_iconst (v := (-1)) (n := 60) rfl rfl rfl ?_
    exact w_ireturn rfl rfl H
  · replace H := H.2 hc
    refine w_iload_n (n := 16) rfl rfl rfl ?_
    refine w_bipush (v := (-31)) (n := 18) rfl rfl rfl ?_
    refine w_bipush (v := 31) (n := 20) rfl rfl rfl ?_
    refine w_calli (as := [.int x2, .int (-31), .int 31]) (rest := []) (n := 23) rfl rfl rfl rfl ?_
    obtain ⟨r20, I20, hI20, H⟩ := H
    refine ⟨r20, I20, hI20, ?_⟩
    refine w_if_eq (n := 26) rfl rfl ⟨fun hc => ?_, fun hc => ?_⟩
    · replace H := H.1 hc
      refine w_iconst (v := (-1)) (n := 60) rfl rfl rfl ?_
      exact w_ireturn rfl rfl H
    · replace H := H.2 hc
      refine w_iload_n (n := 27) rfl rfl rfl ?_
      refine w_bipush (v := (-31)) (n := 29) rfl rfl rfl ?_
      refine w_bipush (v := 31) (n := 31) rfl rfl rfl ?_
      refine w_calli (as := [.int x3, .int (-31), .int 31]) (rest := []) (n := 34) rfl rfl rfl rfl ?_
      obtain ⟨r31, I31, hI31, H⟩ := H
      refine ⟨r31, I31, hI31, ?_⟩
      refine w_if_eq (n := 37) rfl rfl ⟨fun hc => ?_, fun hc => ?_⟩
      · replace H := H.1 hc
        refine w_iconst (v := (-1)) (n := 60) rfl rfl rfl ?_
        exact w_ireturn rfl rfl H
      · replace H := H.2 hc
        refine w_iload (n := 39) rfl rfl rfl ?_
        refine w_bipush (v := (-31)) (n := 41) rfl rfl rfl ?_
        refine w_bipush (v := 31) (n := 43) rfl rfl rfl ?_
        refine w_calli (as := [.int x4, .int (-31), .int 31]) (rest := []) (n := 46) rfl rfl rfl rfl ?_
        obtain ⟨r43, I43, hI43, H⟩ := H
        refine ⟨r43, I43, hI43, ?_⟩
        refine w_if_eq (n := 49) rfl rfl ⟨fun hc => ?_, fun hc => ?_⟩
        · replace H := H.1 hc
          refine w_iconst (v := (-1)) (n := 60) rfl rfl rfl ?_
          exact w_ireturn rfl rfl H
        · replace H := H.2 hc
          refine w_iload (n := 51) rfl rfl rfl ?_
          refine w_iconst (v := 0) (n := 52) rfl rfl rfl ?_
          refine w_iconst (v := 4) (n := 53) rfl rfl rfl ?_
          refine w_calli (as := [.int x5, .int 0, .int 4]) (rest := []) (n := 56) rfl rfl rfl rfl ?_
          obtain ⟨r53, I53, hI53, H⟩ := H
          refine ⟨r53, I53, hI53, ?_⟩
          refine w_if_ne (n := 59) rfl rfl ⟨fun hc => ?_, fun hc => ?_⟩
          · replace H := H.1 hc
            refine w_iconst (v := 3) (n := 62) rfl rfl rfl ?_
            refine w_iload_n (n := 63) rfl rfl rfl ?_
            refine w_iconst (v := 5) (n := 64) rfl rfl rfl ?_
            refine w_isub (n := 65) rfl rfl ?_
            refine w_imul (n := 66) rfl rfl ?_
            refine w_istore (ls' := [some (.ref 58), some (.int x1), some (.int x2), some (.int x3), some (.int x4), some (.int x5), some (.int (3 * (x1 - 5)))]) (n := 68) rfl rfl rfl rfl ?_
            refine w_aload_nR (x := 58) (n := 69) rfl rfl rfl ?_
            refine w_getR (b := 62) (n := 72) rfl rfl rfl rfl rfl ?_
            refine w_iload (n := 74) rfl rfl rfl ?_
            refine w_iload_n (n := 75) rfl rfl rfl ?_
            refine w_iastore (N := 9) (j := (3 * (x1 - 5)).toNatClampNeg) (n := 76) rfl rfl rfl rfl rfl ⟨H.1, ?_⟩
            replace H := H.2
            refine w_aload_nR (x := 58) (n := 77) rfl rfl rfl ?_
            refine w_getR (b := 62) (n := 80) rfl rfl rfl rfl rfl ?_
            refine w_iload (n := 82) rfl rfl rfl ?_
            refine w_iconst (v := 1) (n := 83) rfl rfl rfl ?_
            refine w_iadd (n := 84) rfl rfl ?_
            refine w_iload_n (n := 85) rfl rfl rfl ?_
            refine w_iastore (N := 9) (j := ((3 * (x1 - 5)) + 1).toNatClampNeg) (n := 86) rfl rfl rfl rfl rfl ⟨H.1, ?_⟩
            replace H := H.2
            refine w_aload_nR (x := 58) (n := 87) rfl rfl rfl ?_
            refine w_getR (b := 62) (n := 90) rfl rfl rfl rfl rfl ?_
            refine w_iload (n := 92) rfl rfl rfl ?_
            refine w_iconst (v := 2) (n := 93) rfl rfl rfl ?_
            refine w_iadd (n := 94) rfl rfl ?_
            refine w_iload (n := 96) rfl rfl rfl ?_
            refine w_iastore (N := 9) (j := ((3 * (x1 - 5)) + 2).toNatClampNeg) (n := 97) rfl rfl rfl rfl rfl ⟨H.1, ?_⟩
            replace H := H.2
            refine w_aload_nR (x := 58) (n := 98) rfl rfl rfl ?_
            refine w_getR (b := 63) (n := 101) rfl rfl rfl rfl rfl ?_
            refine w_iload_n (n := 102) rfl rfl rfl ?_
            refine w_iconst (v := 5) (n := 103) rfl rfl rfl ?_
            refine w_isub (n := 104) rfl rfl ?_
            refine w_iload (n := 106) rfl rfl rfl ?_
            refine w_iastore (N := 3) (j := (x1 - 5).toNatClampNeg) (n := 107) rfl rfl rfl rfl rfl ⟨H.1, ?_⟩
            replace H := H.2
            refine w_iload_n (n := 108) rfl rfl rfl ?_
            refine w_aload_nR (x := 58) (n := 109) rfl rfl rfl ?_
            refine w_getR (b := 62) (n := 112) rfl rfl rfl rfl rfl ?_
            refine w_calli (as := [.int x1, .ref 62]) (rest := []) (n := 115) rfl rfl rfl rfl ?_
            obtain ⟨r112, I112, hI112, H⟩ := H
            refine ⟨r112, I112, hI112, ?_⟩
            exact w_ireturn rfl rfl H
          · replace H := H.2 hc
            refine w_iconst (v := (-1)) (n := 60) rfl rfl rfl ?_
            exact w_ireturn rfl rfl H
theorem e_M_effort {P : Int32 → mm_I → Prop} {I : mm_I} (x1 : Int32)
  (H : mm_Mi 125 [.int x1, .int 0, .int 1] (mm_up I 58 16 0) (fun r8 I8 =>  -- M.within
    (¬ r8 = 0 →
      P (I8 58 7) (mm_up I8 58 7 x1)) ∧
    (r8 = 0 →
      P (-1) I8))) : mm_Mi 141 [.ref 58, .int x1] I P := by
  refine mm_Mi_of ?_
  show mm_W 141 0 [some (.ref 58), some (.int x1), none] [] I (mm_qi 141 P)
  refine w_aload_nR (x := 58) (n := 1) rfl rfl rfl ?_
  refine w_iconst (v := 0) (n := 2) rfl rfl rfl ?_
  refine w_putI (n := 5) rfl rfl rfl rfl rfl ?_
  refine w_iload_n (n := 6) rfl rfl rfl ?_
  refine w_iconst (v := 0) (n := 7) rfl rfl rfl ?_
  refine w_iconst (v := 1) (n := 8) rfl rfl rfl ?_
  refine w_calli (as := [.int x1, .int 0, .int 1]) (rest := []) (n := 11) rfl rfl rfl rfl ?_
  obtain ⟨r8, I8, hI8, H⟩ := H
  refine ⟨r8, I8, hI8, ?_⟩
  refine w_if_ne (n := 14) rfl rfl ⟨fun hc => ?_, fun hc => ?_⟩
  · replace H := H.1 hc
    refine w_aload_nR (x := 58) (n := 17) rfl rfl rfl ?_
    refine w_getI (n := 20) rfl rfl rfl rfl ?_
    refine w_istore_n (ls' := [some (.ref 58), some (.int x1), some (.int (I8 58 7))]) (n := 21) rfl rfl rfl rfl ?_
    refine w_aload_nR (x := 58) (n := 22) rfl rfl rfl ?_
    refine w_iload_n (n := 23) rfl rfl rfl ?_
    refine w_putI (n := 26) rfl rfl rfl rfl rfl ?_
    refine w_iload_n (n := 27) rfl rfl rfl ?_
    exact w_ireturn rfl rfl H
  · replace H := H.2 hc
    refine w_iconst (v := (-1)) (n := 15) rfl rfl rfl ?_
    exact w_ireturn rfl rfl H
theorem e_M_allow {P : Int32 → mm_I → Prop} {I : mm_I} (x1 : Int32)
  (H : mm_Mi 125 [.int x1, .int 0, .int 255] (mm_up I 58 16 0) (fun r10 I10 =>  -- M.within
    (¬ r10 = 0 →
      P (I10 58 8) (mm_up I10 58 8 (x1 ||| 1))) ∧
    (r10 = 0 →
      P (-1) I10))) : mm_Mi 142 [.ref 58, .int x1] I P := by
  refine mm_Mi_of ?_
  show mm_W 142 0 [some (.ref 58), some (.int x1), none] [] I (mm_qi 142 P)
  refine w_aload_nR (x := 58) (n := 1) rfl rfl rfl ?_
  refine w_iconst (v := 0) (n := 2) rfl rfl rfl ?_
  refine w_putI (n := 5) rfl rfl rfl rfl rfl ?_
  refine w_iload_n (n := 6) rfl rfl rfl ?_
  refine w_iconst (v := 0) (n := 7) rfl rfl rfl ?_
  refine w_sipush (v := 255) (n := 10) rfl rfl rfl ?_
  refine w_calli (as := [.int x1, .int 0, .int 255]) (rest := []) (n := 13) rfl rfl rfl rfl ?_
  obtain ⟨r10, I10, hI10, H⟩ := H
  refine ⟨r10, I10, hI10, ?_⟩
  refine w_if_ne (n := 16) rfl rfl ⟨fun hc => ?_, fun hc => ?_⟩
  · replace H := H.1 hc
    refine w_aload_nR (x := 58) (n := 19) rfl rfl rfl ?_
    refine w_getI (n := 22) rfl rfl rfl rfl ?_
    refine w_istore_n (ls' := [some (.ref 58), some (.int x1), some (.int (I10 58 8))]) (n := 23) rfl rfl rfl rfl ?_
    refine w_aload_nR (x := 58) (n := 24) rfl rfl rfl ?_
    refine w_iload_n (n := 25) rfl rfl rfl ?_
    refine w_iconst (v := 1) (n := 26) rfl rfl rfl ?_
    refine w_ior (n := 27) rfl rfl ?_
    refine w_putI (n := 30) rfl rfl rfl rfl rfl ?_
    refine w_iload_n (n := 31) rfl rfl rfl ?_
    exact w_ireturn rfl rfl H
  · replace H := H.2 hc
    refine w_iconst (v := (-1)) (n := 17) rfl rfl rfl ?_
    exact w_ireturn rfl rfl H
theorem e_M_sample {P : Int32 → mm_I → Prop} {I : mm_I} (x1 : Int32) (x2 : Int32)
  (H : mm_Mi 126 [.ref 58, .int x1] (mm_up I 58 16 0) (fun r7 I7 =>  -- M.isChannel
    (r7 = 0 →
      P (-2147483648) I7) ∧
    (¬ r7 = 0 →
      vp_in x1 2 ∧
      mm_Mi 125 [.int x2, .int 0, .int ((I7 61 x1.toNatClampNeg) - 1)] I7 (fun r23 I23 =>  -- M.within
      (¬ r23 = 0 →
        vp_in ((256 * x1) + x2) 512 ∧
        True) ∧
      P (if r23 = 0 then ((-2147483648) : Int32) else (I23 60 (((256 * x1) + x2).toNatClampNeg))) I23)))) : mm_Mi 143 [.ref 58, .int x1, .int x2] I P := by
  refine mm_Mi_of ?_
  show mm_W 143 0 [some (.ref 58), some (.int x1), some (.int x2)] [] I (mm_qi 143 P)
  refine w_aload_nR (x := 58) (n := 1) rfl rfl rfl ?_
  refine w_iconst (v := 0) (n := 2) rfl rfl rfl ?_
  refine w_putI (n := 5) rfl rfl rfl rfl rfl ?_
  refine w_aload_nR (x := 58) (n := 6) rfl rfl rfl ?_
  refine w_iload_n (n := 7) rfl rfl rfl ?_
  refine w_calli (as := [.ref 58, .int x1]) (rest := []) (n := 10) rfl rfl rfl rfl ?_
  obtain ⟨r7, I7, hI7, H⟩ := H
  refine ⟨r7, I7, hI7, ?_⟩
  refine w_if_eq (n := 13) rfl rfl ⟨fun hc => ?_, fun hc => ?_⟩
  · replace H := H.1 hc
    refine w_ldc (v := (-2147483648)) (n := 46) rfl rfl rfl ?_
    exact w_ireturn rfl rfl H
  · replace H := H.2 hc
    refine w_iload_n (n := 14) rfl rfl rfl ?_
    refine w_iconst (v := 0) (n := 15) rfl rfl rfl ?_
    refine w_aload_nR (x := 58) (n := 16) rfl rfl rfl ?_
    refine w_getR (b := 61) (n := 19) rfl rfl rfl rfl rfl ?_
    refine w_iload_n (n := 20) rfl rfl rfl ?_
    refine w_iaload (N := 2) (j := x1.toNatClampNeg) (n := 21) rfl rfl rfl rfl rfl rfl ⟨H.1, ?_⟩
    replace H := H.2
    refine w_iconst (v := 1) (n := 22) rfl rfl rfl ?_
    refine w_isub (n := 23) rfl rfl ?_
    refine w_calli (as := [.int x2, .int 0, .int ((I7 61 x1.toNatClampNeg) - 1)]) (rest := []) (n := 26) rfl rfl rfl rfl ?_
    obtain ⟨r23, I23, hI23, H⟩ := H
    refine ⟨r23, I23, hI23, ?_⟩
    obtain ⟨K2, H⟩ := H
    have J26 : ∀ (w26_0 : Int32), w26_0 = (if r23 = 0 then ((-2147483648) : Int32) else (I23 60 (((256 * x1) + x2).toNatClampNeg))) → mm_W 143 46 [some (.ref 58), some (.int x1), some (.int x2)] [.int w26_0] I23 (mm_qi 143 P) := by
      intro w26_0 e26_0
      subst e26_0
      exact w_ireturn rfl rfl H
    refine w_if_eq (n := 29) rfl rfl ⟨fun hc => ?_, fun hc => ?_⟩
    · refine w_ldc (v := (-2147483648)) (n := 46) rfl rfl rfl ?_
      refine w_drp mm_Qf_i (J26 _ ?_) (lb_s (lb_s (lb_s lb_e)))
      · exact (if_pos hc).symm
    · have H := K2 hc
      refine w_aload_nR (x := 58) (n := 30) rfl rfl rfl ?_
      refine w_getR (b := 60) (n := 33) rfl rfl rfl rfl rfl ?_
      refine w_sipush (v := 256) (n := 36) rfl rfl rfl ?_
      refine w_iload_n (n := 37) rfl rfl rfl ?_
      refine w_imul (n := 38) rfl rfl ?_
      refine w_iload_n (n := 39) rfl rfl rfl ?_
      refine w_iadd (n := 40) rfl rfl ?_
      refine w_iaload (N := 512) (j := ((256 * x1) + x2).toNatClampNeg) (n := 41) rfl rfl rfl rfl rfl rfl ⟨H.1, ?_⟩
      replace H := H.2
      refine w_goto rfl ?_
      refine w_drp mm_Qf_i (J26 _ ?_) (lb_s (lb_s (lb_s lb_e)))
      · exact (if_neg hc).symm
theorem e_M_orderOf {P : Int32 → mm_I → Prop} {I : mm_I} {tt : Nat} (hs0 : tt = 62 ∨ tt = 64) (x0 : Int32)
  (H : (5 ≤ x0 →
      vp_in ((3 * (x0 - 5)) + 2) 9 ∧
      ((I tt (((3 * (x0 - 5)) + 2).toNatClampNeg)) = 0 →
        vp_in ((3 * (x0 - 5)) + 1) 9 ∧
        ((I tt (((3 * (x0 - 5)) + 1).toNatClampNeg)) = 0 →
          vp_in (3 * (x0 - 5)) 9 ∧
          True) ∧
        True) ∧
      P (if (I tt (((3 * (x0 - 5)) + 2).toNatClampNeg)) = 0 then ((if (I tt (((3 * (x0 - 5)) + 1).toNatClampNeg)) = 0 then ((if (I tt ((3 * (x0 - 5)).toNatClampNeg)) = 0 then (0 : Int32) else 1) : Int32) else 2) : Int32) else 3) I) ∧
    (x0 < 5 →
      P x0 I)) : mm_Mi 144 [.int x0, .ref tt] I P := by
  rcases hs0 with rfl | rfl
  · refine mm_Mi_of ?_
    show mm_W 144 0 [some (.int x0), some (.ref 62), none] [] I (mm_qi 144 P)
    refine w_iload_n (n := 1) rfl rfl rfl ?_
    refine w_iconst (v := 5) (n := 2) rfl rfl rfl ?_
    refine w_icmp_ge (n := 5) rfl rfl ⟨fun hc => ?_, fun hc => ?_⟩
    · replace H := H.1 hc
      refine w_iconst (v := 3) (n := 8) rfl rfl rfl ?_
      refine w_iload_n (n := 9) rfl rfl rfl ?_
      refine w_iconst (v := 5) (n := 10) rfl rfl rfl ?_
      refine w_isub (n := 11) rfl rfl ?_
      refine w_imul (n := 12) rfl rfl ?_
      refine w_istore_n (ls' := [some (.int x0), some (.ref 62), some (.int (3 * (x0 - 5)))]) (n := 13) rfl rfl rfl rfl ?_
      refine w_aload_nR (x := 62) (n := 14) rfl rfl rfl ?_
      refine w_iload_n (n := 15) rfl rfl rfl ?_
      refine w_iconst (v := 2) (n := 16) rfl rfl rfl ?_
      refine w_iadd (n := 17) rfl rfl ?_
      refine w_iaload (N := 9) (j := ((3 * (x0 - 5)) + 2).toNatClampNeg) (n := 18) rfl rfl rfl rfl rfl rfl ⟨H.1, ?_⟩
      replace H := H.2
      obtain ⟨K1, H⟩ := H
      have J18 : ∀ (w18_0 : Int32), w18_0 = (if (I 62 (((3 * (x0 - 5)) + 2).toNatClampNeg)) = 0 then ((if (I 62 (((3 * (x0 - 5)) + 1).toNatClampNeg)) = 0 then ((if (I 62 ((3 * (x0 - 5)).toNatClampNeg)) = 0 then (0 : Int32) else 1) : Int32) else 2) : Int32) else 3) → mm_W 144 48 [some (.int x0), some (.ref 62), some (.int (3 * (x0 - 5)))] [.int w18_0] I (mm_qi 144 P) := by
        intro w18_0 e18_0
        subst e18_0
        exact w_ireturn rfl rfl H
      refine w_if_eq (n := 21) rfl rfl ⟨fun hc => ?_, fun hc => ?_⟩
      · have H := K1 hc
        refine w_aload_nR (x := 62) (n := 26) rfl rfl rfl ?_
        refine w_iload_n (n := 27) rfl rfl rfl ?_
        refine w_iconst (v := 1) (n := 28) rfl rfl rfl ?_
        refine w_iadd (n := 29) rfl rfl ?_
        refine w_iaload (N := 9) (j := ((3 * (x0 - 5)) + 1).toNatClampNeg) (n := 30) rfl rfl rfl rfl rfl rfl ⟨H.1, ?_⟩
        replace H := H.2
        obtain ⟨K1, H⟩ := H
        have J30 : ∀ (w30_0 : Int32), w30_0 = (if (I 62 (((3 * (x0 - 5)) + 1).toNatClampNeg)) = 0 then ((if (I 62 ((3 * (x0 - 5)).toNatClampNeg)) = 0 then (0 : Int32) else 1) : Int32) else 2) → mm_W 144 48 [some (.int x0), some (.ref 62), some (.int (3 * (x0 - 5)))] [.int w30_0] I (mm_qi 144 P) := by
          intro w30_0 e30_0
          subst e30_0
          refine w_drp mm_Qf_i (J18 _ ?_) (lb_s (lb_s (lb_s lb_e)))
          · exact (if_pos hc).symm
        refine w_if_eq (n := 33) rfl rfl ⟨fun hc => ?_, fun hc => ?_⟩
        · have H := K1 hc
          refine w_aload_nR (x := 62) (n := 38) rfl rfl rfl ?_
          refine w_iload_n (n := 39) rfl rfl rfl ?_
          refine w_iaload (N := 9) (j := (3 * (x0 - 5)).toNatClampNeg) (n := 40) rfl rfl rfl rfl rfl rfl ⟨H.1, ?_⟩
          replace H := H.2
          have J40 : ∀ (w40_0 : Int32), w40_0 = (if (I 62 ((3 * (x0 - 5)).toNatClampNeg)) = 0 then (0 : Int32) else 1) → mm_W 144 48 [some (.int x0), some (.ref 62), some (.int (3 * (x0 - 5)))] [.int w40_0] I (mm_qi 144 P) := by
            intro w40_0 e40_0
            subst e40_0
            refine w_drp mm_Qf_i (J30 _ ?_) (lb_s (lb_s (lb_s lb_e)))
            · exact (if_pos hc).symm
          refine w_if_eq (n := 43) rfl rfl ⟨fun hc => ?_, fun hc => ?_⟩
          · refine w_iconst (v := 0) (n := 48) rfl rfl rfl ?_
            refine w_drp mm_Qf_i (J40 _ ?_) (lb_s (lb_s (lb_s lb_e)))
            · exact (if_pos hc).symm
          · refine w_iconst (v := 1) (n := 44) rfl rfl rfl ?_
            refine w_goto rfl ?_
            refine w_drp mm_Qf_i (J40 _ ?_) (lb_s (lb_s (lb_s lb_e)))
            · exact (if_neg hc).symm
        · refine w_iconst (v := 2) (n := 34) rfl rfl rfl ?_
          refine w_goto rfl ?_
          refine w_drp mm_Qf_i (J30 _ ?_) (lb_s (lb_s (lb_s lb_e)))
          · exact (if_neg hc).symm
      · refine w_iconst (v := 3) (n := 22) rfl rfl rfl ?_
        refine w_goto rfl ?_
        refine w_drp mm_Qf_i (J18 _ ?_) (lb_s (lb_s (lb_s lb_e)))
        · exact (if_neg hc).symm
    · replace H := H.2 hc
      refine w_iload_n (n := 6) rfl rfl rfl ?_
      exact w_ireturn rfl rfl H
  · refine mm_Mi_of ?_
    show mm_W 144 0 [some (.int x0), some (.ref 64), none] [] I (mm_qi 144 P)
    refine w_iload_n (n := 1) rfl rfl rfl ?_
    refine w_iconst (v := 5) (n := 2) rfl rfl rfl ?_
    refine w_icmp_ge (n := 5) rfl rfl ⟨fun hc => ?_, fun hc => ?_⟩
    · replace H := H.1 hc
      refine w_iconst (v := 3) (n := 8) rfl rfl rfl ?_
      refine w_iload_n (n := 9) rfl rfl rfl ?_
      refine w_iconst (v := 5) (n := 10) rfl rfl rfl ?_
      refine w_isub (n := 11) rfl rfl ?_
      refine w_imul (n := 12) rfl rfl ?_
      refine w_istore_n (ls' := [some (.int x0), some (.ref 64), some (.int (3 * (x0 - 5)))]) (n := 13) rfl rfl rfl rfl ?_
      refine w_aload_nR (x := 64) (n := 14) rfl rfl rfl ?_
      refine w_iload_n (n := 15) rfl rfl rfl ?_
      refine w_iconst (v := 2) (n := 16) rfl rfl rfl ?_
      refine w_iadd (n := 17) rfl rfl ?_
      refine w_iaload (N := 9) (j := ((3 * (x0 - 5)) + 2).toNatClampNeg) (n := 18) rfl rfl rfl rfl rfl rfl ⟨H.1, ?_⟩
      replace H := H.2
      obtain ⟨K1, H⟩ := H
      have J18 : ∀ (w18_0 : Int32), w18_0 = (if (I 64 (((3 * (x0 - 5)) + 2).toNatClampNeg)) = 0 then ((if (I 64 (((3 * (x0 - 5)) + 1).toNatClampNeg)) = 0 then ((if (I 64 ((3 * (x0 - 5)).toNatClampNeg)) = 0 then (0 : Int32) else 1) : Int32) else 2) : Int32) else 3) → mm_W 144 48 [some (.int x0), some (.ref 64), some (.int (3 * (x0 - 5)))] [.int w18_0] I (mm_qi 144 P) := by
        intro w18_0 e18_0
        subst e18_0
        exact w_ireturn rfl rfl H
      refine w_if_eq (n := 21) rfl rfl ⟨fun hc => ?_, fun hc => ?_⟩
      · have H := K1 hc
        refine w_aload_nR (x := 64) (n := 26) rfl rfl rfl ?_
        refine w_iload_n (n := 27) rfl rfl rfl ?_
        refine w_iconst (v := 1) (n := 28) rfl rfl rfl ?_
        refine w_iadd (n := 29) rfl rfl ?_
        refine w_iaload (N := 9) (j := ((3 * (x0 - 5)) + 1).toNatClampNeg) (n := 30) rfl rfl rfl rfl rfl rfl ⟨H.1, ?_⟩
        replace H := H.2
        obtain ⟨K1, H⟩ := H
        have J30 : ∀ (w30_0 : Int32), w30_0 = (if (I 64 (((3 * (x0 - 5)) + 1).toNatClampNeg)) = 0 then ((if (I 64 ((3 * (x0 - 5)).toNatClampNeg)) = 0 then (0 : Int32) else 1) : Int32) else 2) → mm_W 144 48 [some (.int x0), some (.ref 64), some (.int (3 * (x0 - 5)))] [.int w30_0] I (mm_qi 144 P) := by
          intro w30_0 e30_0
          subst e30_0
          refine w_drp mm_Qf_i (J18 _ ?_) (lb_s (lb_s (lb_s lb_e)))
          · exact (if_pos hc).symm
        refine w_if_eq (n := 33) rfl rfl ⟨fun hc => ?_, fun hc => ?_⟩
        · have H := K1 hc
          refine w_aload_nR (x := 64) (n := 38) rfl rfl rfl ?_
          refine w_iload_n (n := 39) rfl rfl rfl ?_
          refine w_iaload (N := 9) (j := (3 * (x0 - 5)).toNatClampNeg) (n := 40) rfl rfl rfl rfl rfl rfl ⟨H.1, ?_⟩
          replace H := H.2
          have J40 : ∀ (w40_0 : Int32), w40_0 = (if (I 64 ((3 * (x0 - 5)).toNatClampNeg)) = 0 then (0 : Int32) else 1) → mm_W 144 48 [some (.int x0), some (.ref 64), some (.int (3 * (x0 - 5)))] [.int w40_0] I (mm_qi 144 P) := by
            intro w40_0 e40_0
            subst e40_0
            refine w_drp mm_Qf_i (J30 _ ?_) (lb_s (lb_s (lb_s lb_e)))
            · exact (if_pos hc).symm
          refine w_if_eq (n := 43) rfl rfl ⟨fun hc => ?_, fun hc => ?_⟩
          · refine w_iconst (v := 0) (n := 48) rfl rfl rfl ?_
            refine w_drp mm_Qf_i (J40 _ ?_) (lb_s (lb_s (lb_s lb_e)))
            · exact (if_pos hc).symm
          · refine w_iconst (v := 1) (n := 44) rfl rfl rfl ?_
            refine w_goto rfl ?_
            refine w_drp mm_Qf_i (J40 _ ?_) (lb_s (lb_s (lb_s lb_e)))
            · exact (if_neg hc).symm
        · refine w_iconst (v := 2) (n := 34) rfl rfl rfl ?_
          refine w_goto rfl ?_
          refine w_drp mm_Qf_i (J30 _ ?_) (lb_s (lb_s (lb_s lb_e)))
          · exact (if_neg hc).symm
      · refine w_iconst (v := 3) (n := 22) rfl rfl rfl ?_
        refine w_goto rfl ?_
        refine w_drp mm_Qf_i (J18 _ ?_) (lb_s (lb_s (lb_s lb_e)))
        · exact (if_neg hc).symm
    · replace H := H.2 hc
      refine w_iload_n (n := 6) rfl rfl rfl ?_
      exact w_ireturn rfl rfl H
theorem e_M_guessed {P : Int32 → mm_I → Prop} {I : mm_I} {vv tt uu : Nat} (hs0 : (vv = 67 ∧ tt = 62 ∧ uu = 63) ∨ (vv = 79 ∧ tt = 64 ∧ uu = 65)) (x1 : Int32) (x2 : Int32)
  (H : mm_W 145 6 [some (.ref vv), some (.int x1), some (.int x2), some (.ref tt), some (.ref uu), some (.int 0), some (.int 0)] [] I (mm_qi 145 P)) : mm_Mi 145 [.ref vv, .int x1, .int x2, .ref tt, .ref uu] I P := by
  rcases hs0 with ⟨rfl, rfl, rfl⟩ | ⟨rfl, rfl, rfl⟩
  · refine mm_Mi_of ?_
    show mm_W 145 0 [some (.ref 67), some (.int x1), some (.int x2), some (.ref 62), some (.ref 63), none, none] [] I (mm_qi 145 P)
    refine w_iconst (v := 0) (n := 1) rfl rfl rfl ?_
    refine w_istore (ls' := [some (.ref 67), some (.int x1), some (.int x2), some (.ref 62), some (.ref 63), some (.int 0), none]) (n := 3) rfl rfl rfl rfl ?_
    refine w_iconst (v := 0) (n := 4) rfl rfl rfl ?_
    refine w_istore (ls' := [some (.ref 67), some (.int x1), some (.int x2), some (.ref 62), some (.ref 63), some (.int 0), some (.int 0)]) (n := 6) rfl rfl rfl rfl ?_
    exact w_drp mm_Qf_i H (lb_s (lb_s (lb_s (lb_s (lb_s (lb_s (lb_s lb_e)))))))
  · refine mm_Mi_of ?_
    show mm_W 145 0 [some (.ref 79), some (.int x1), some (.int x2), some (.ref 64), some (.ref 65), none, none] [] I (mm_qi 145 P)
    refine w_iconst (v := 0) (n := 1) rfl rfl rfl ?_
    refine w_istore (ls' := [some (.ref 79), some (.int x1), some (.int x2), some (.ref 64), some (.ref 65), some (.int 0), none]) (n := 3) rfl rfl rfl rfl ?_
    refine w_iconst (v := 0) (n := 4) rfl rfl rfl ?_
    refine w_istore (ls' := [some (.ref 79), some (.int x1), some (.int x2), some (.ref 64), some (.ref 65), some (.int 0), some (.int 0)]) (n := 6) rfl rfl rfl rfl ?_
    exact w_drp mm_Qf_i H (lb_s (lb_s (lb_s (lb_s (lb_s (lb_s (lb_s lb_e)))))))
theorem c_M_guessed_6 {P : Int32 → mm_I → Prop} {I : mm_I} {vv tt uu : Nat} (hs0 : (vv = 67 ∧ tt = 62 ∧ uu = 63) ∨ (vv = 79 ∧ tt = 64 ∧ uu = 65)) (x1 : Int32) (x2 : Int32) (x5 : Int32) (x6 : Int32)
  (H : mm_Mi 144 [.int x2, .ref tt] I (fun r10 I10 =>  -- M.orderOf
    (r10 ≤ x6 →
      (5 ≤ x2 →
        vp_in (x2 - 5) 3 ∧
        True) ∧
      P (if 5 ≤ x2 then (x5 >>> ((I10 uu ((x2 - 5).toNatClampNeg)) &&& 31) : Int32) else x5) I10) ∧
    (x6 < r10 →
      (5 ≤ x2 →
        vp_in ((3 * (x2 - 5)) + x6) 9 ∧
        True) ∧
      (x2 < 5 →
        vp_in ((4 * x2) + x6) 20 ∧
        True) ∧
      vp_in ((x1 - 1) - x6) 64 ∧
      mm_W 145 6 [some (.ref vv), some (.int x1), some (.int x2), some (.ref tt), some (.ref uu), some (.int (x5 + ((if 5 ≤ x2 then ((I10 tt (((3 * (x2 - 5)) + x6).toNatClampNeg)) : Int32) else mm_fix (((4 * x2) + x6).toNatClampNeg)) * (I10 vv (((x1 - 1) - x6).toNatClampNeg))))), some (.int (x6 + 1))] [] I10 (mm_qi 145 P)))) : mm_W 145 6 [some (.ref vv), some (.int x1), some (.int x2), some (.ref tt), some (.ref uu), some (.int x5), some (.int x6)] [] I (mm_qi 145 P) := by
  rcases hs0 with ⟨rfl, rfl, rfl⟩ | ⟨rfl, rfl, rfl⟩
  · refine w_iload (n := 8) rfl rfl rfl ?_
    refine w_iload_n (n := 9) rfl rfl rfl ?_
    refine w_aload_nR (x := 62) (n := 10) rfl rfl rfl ?_
    refine w_calli (as := [.int x2, .ref 62]) (rest := [.int x6]) (n := 13) rfl rfl rfl rfl ?_
    obtain ⟨r10, I10, hI10, H⟩ := H
    refine ⟨r10, I10, hI10, ?_⟩
    refine w_icmp_ge (n := 16) rfl rfl ⟨fun hc => ?_, fun hc => ?_⟩
    · replace H := H.1 hc
      refine w_iload_n (n := 65) rfl rfl rfl ?_
      refine w_iconst (v := 5) (n := 66) rfl rfl rfl ?_
      obtain ⟨K1, H⟩ := H
      have J66 : ∀ (w66_0 : Int32), w66_0 = (if 5 ≤ x2 then (x5 >>> ((I10 63 ((x2 - 5).toNatClampNeg)) &&& 31) : Int32) else x5) → mm_W 145 83 [some (.ref 67), some (.int x1), some (.int x2), some (.ref 62), some (.ref 63), some (.int x5), some (.int x6)] [.int w66_0] I10 (mm_qi 145 P) := by
        intro w66_0 e66_0
        subst e66_0
        exact w_ireturn rfl rfl H
      refine w_icmp_ge (n := 69) rfl rfl ⟨fun hc => ?_, fun hc => ?_⟩
      · have H := K1 hc
        refine w_iload (n := 76) rfl rfl rfl ?_
        refine w_aloadR (x := 63) (n := 78) rfl rfl rfl ?_
        refine w_iload_n (n := 79) rfl rfl rfl ?_
        refine w_iconst (v := 5) (n := 80) rfl rfl rfl ?_
        refine w_isub (n := 81) rfl rfl ?_
        refine w_iaload (N := 3) (j := (x2 - 5).toNatClampNeg) (n := 82) rfl rfl rfl rfl rfl rfl ⟨H.1, ?_⟩
        replace H := H.2
        refine w_ishr (n := 83) rfl rfl ?_
        refine w_drp mm_Qf_i (J66 _ ?_) (lb_s (lb_s (lb_s (lb_s (lb_s (lb_s (lb_s lb_e)))))))
        · exact (if_pos hc).symm
      · refine w_iload (n := 71) rfl rfl rfl ?_
        refine w_goto rfl ?_
        refine w_drp mm_Qf_i (J66 _ ?_) (lb_s (lb_s (lb_s (lb_s (lb_s (lb_s (lb_s lb_e)))))))
        · exact (if_neg (fa_nle hc)).symm
    · replace H := H.2 hc
      refine w_iload (n := 18) rfl rfl rfl ?_
      refine w_iload_n (n := 19) rfl rfl rfl ?_
      refine w_iconst (v := 5) (n := 20) rfl rfl rfl ?_
      obtain ⟨K1, K2, H⟩ := H
      have J20 : ∀ (w20_1 : Int32), w20_1 = (if 5 ≤ x2 then ((I10 62 (((3 * (x2 - 5)) + x6).toNatClampNeg)) : Int32) else mm_fix (((4 * x2) + x6).toNatClampNeg)) → mm_W 145 46 [some (.ref 67), some (.int x1), some (.int x2), some (.ref 62), some (.ref 63), some (.int x5), some (.int x6)] [.int w20_1, .int x5] I10 (mm_qi 145 P) := by
        intro w20_1 e20_0
        subst e20_0
        refine w_aload_nR (x := 67) (n := 47) rfl rfl rfl ?_
        refine w_iload_n (n := 48) rfl rfl rfl ?_
        refine w_iconst (v := 1) (n := 49) rfl rfl rfl ?_
        refine w_isub (n := 50) rfl rfl ?_
        refine w_iload (n := 52) rfl rfl rfl ?_
        refine w_isub (n := 53) rfl rfl ?_
        refine w_iaload (N := 64) (j := ((x1 - 1) - x6).toNatClampNeg) (n := 54) rfl rfl rfl rfl rfl rfl ⟨H.1, ?_⟩
        replace H := H.2
        refine w_imul (n := 55) rfl rfl ?_
        refine w_iadd (n := 56) rfl rfl ?_
        refine w_istore (ls' := [some (.ref 67), some (.int x1), some (.int x2), some (.ref 62), some (.ref 63), some (.int (x5 + ((if 5 ≤ x2 then ((I10 62 (((3 * (x2 - 5)) + x6).toNatClampNeg)) : Int32) else mm_fix (((4 * x2) + x6).toNatClampNeg)) * (I10 67 (((x1 - 1) - x6).toNatClampNeg))))), some (.int x6)]) (n := 58) rfl rfl rfl rfl ?_
        refine w_iinc (y := x6 + 1) (ls' := [some (.ref 67), some (.int x1), some (.int x2), some (.ref 62), some (.ref 63), some (.int (x5 + ((if 5 ≤ x2 then ((I10 62 (((3 * (x2 - 5)) + x6).toNatClampNeg)) : Int32) else mm_fix (((4 * x2) + x6).toNatClampNeg)) * (I10 67 (((x1 - 1) - x6).toNatClampNeg))))), some (.int (x6 + 1))]) (n := 61) rfl rfl rfl rfl rfl ?_
        refine w_goto rfl ?_
        exact w_drp mm_Qf_i H (lb_s (lb_s (lb_s (lb_s (lb_s (lb_s (lb_s lb_e)))))))
      refine w_icmp_ge (n := 23) rfl rfl ⟨fun hc => ?_, fun hc => ?_⟩
      · have H := K1 hc
        refine w_aload_nR (x := 62) (n := 37) rfl rfl rfl ?_
        refine w_iconst (v := 3) (n := 38) rfl rfl rfl ?_
        refine w_iload_n (n := 39) rfl rfl rfl ?_
        refine w_iconst (v := 5) (n := 40) rfl rfl rfl ?_
        refine w_isub (n := 41) rfl rfl ?_
        refine w_imul (n := 42) rfl rfl ?_
        refine w_iload (n := 44) rfl rfl rfl ?_
        refine w_iadd (n := 45) rfl rfl ?_
        refine w_iaload (N := 9) (j := ((3 * (x2 - 5)) + x6).toNatClampNeg) (n := 46) rfl rfl rfl rfl rfl rfl ⟨H.1, ?_⟩
        replace H := H.2
        refine w_drp mm_Qf_i (J20 _ ?_) (lb_s (lb_s (lb_s (lb_s (lb_s (lb_s (lb_s lb_e)))))))
        · exact (if_pos hc).symm
      · have H := K2 hc
        refine w_getS (n := 26) rfl rfl ?_
        refine w_iconst (v := 4) (n := 27) rfl rfl rfl ?_
        refine w_iload_n (n := 28) rfl rfl rfl ?_
        refine w_imul (n := 29) rfl rfl ?_
        refine w_iload (n := 31) rfl rfl rfl ?_
        refine w_iadd (n := 32) rfl rfl ?_
        refine w_ialoadF (j := ((4 * x2) + x6).toNatClampNeg) (n := 33) rfl rfl rfl ⟨H.1, ?_⟩
        replace H := H.2
        refine w_goto rfl ?_
        refine w_drp mm_Qf_i (J20 _ ?_) (lb_s (lb_s (lb_s (lb_s (lb_s (lb_s (lb_s lb_e)))))))
        · exact (if_neg (fa_nle hc)).symm
  · refine w_iload (n := 8) rfl rfl rfl ?_
    refine w_iload_n (n := 9) rfl rfl rfl ?_
    refine w_aload_nR (x := 64) (n := 10) rfl rfl rfl ?_
    refine w_calli (as := [.int x2, .ref 64]) (rest := [.int x6]) (n := 13) rfl rfl rfl rfl ?_
    obtain ⟨r10, I10, hI10, H⟩ := H
    refine ⟨r10, I10, hI10, ?_⟩
    refine w_icmp_ge (n := 16) rfl rfl ⟨fun hc => ?_, fun hc => ?_⟩
    · replace H := H.1 hc
      refine w_iload_n (n := 65) rfl rfl rfl ?_
      refine w_iconst (v := 5) (n := 66) rfl rfl rfl ?_
      obtain ⟨K1, H⟩ := H
      have J66 : ∀ (w66_0 : Int32), w66_0 = (if 5 ≤ x2 then (x5 >>> ((I10 65 ((x2 - 5).toNatClampNeg)) &&& 31) : Int32) else x5) → mm_W 145 83 [some (.ref 79), some (.int x1), some (.int x2), some (.ref 64), some (.ref 65), some (.int x5), some (.int x6)] [.int w66_0] I10 (mm_qi 145 P) := by
        intro w66_0 e66_0
        subst e66_0
        exact w_ireturn rfl rfl H
      refine w_icmp_ge (n := 69) rfl rfl ⟨fun hc => ?_, fun hc => ?_⟩
      · have H := K1 hc
        refine w_iload (n := 76) rfl rfl rfl ?_
        refine w_aloadR (x := 65) (n := 78) rfl rfl rfl ?_
        refine w_iload_n (n := 79) rfl rfl rfl ?_
        refine w_iconst (v := 5) (n := 80) rfl rfl rfl ?_
        refine w_isub (n := 81) rfl rfl ?_
        refine w_iaload (N := 3) (j := (x2 - 5).toNatClampNeg) (n := 82) rfl rfl rfl rfl rfl rfl ⟨H.1, ?_⟩
        replace H := H.2
        refine w_ishr (n := 83) rfl rfl ?_
        refine w_drp mm_Qf_i (J66 _ ?_) (lb_s (lb_s (lb_s (lb_s (lb_s (lb_s (lb_s lb_e)))))))
        · exact (if_pos hc).symm
      · refine w_iload (n := 71) rfl rfl rfl ?_
        refine w_goto rfl ?_
        refine w_drp mm_Qf_i (J66 _ ?_) (lb_s (lb_s (lb_s (lb_s (lb_s (lb_s (lb_s lb_e)))))))
        · exact (if_neg (fa_nle hc)).symm
    · replace H := H.2 hc
      refine w_iload (n := 18) rfl rfl rfl ?_
      refine w_iload_n (n := 19) rfl rfl rfl ?_
      refine w_iconst (v := 5) (n := 20) rfl rfl rfl ?_
      obtain ⟨K1, K2, H⟩ := H
      have J20 : ∀ (w20_1 : Int32), w20_1 = (if 5 ≤ x2 then ((I10 64 (((3 * (x2 - 5)) + x6).toNatClampNeg)) : Int32) else mm_fix (((4 * x2) + x6).toNatClampNeg)) → mm_W 145 46 [some (.ref 79), some (.int x1), some (.int x2), some (.ref 64), some (.ref 65), some (.int x5), some (.int x6)] [.int w20_1, .int x5] I10 (mm_qi 145 P) := by
        intro w20_1 e20_0
        subst e20_0
        refine w_aload_nR (x := 79) (n := 47) rfl rfl rfl ?_
        refine w_iload_n (n := 48) rfl rfl rfl ?_
        refine w_iconst (v := 1) (n := 49) rfl rfl rfl ?_
        refine w_isub (n := 50) rfl rfl ?_
        refine w_iload (n := 52) rfl rfl rfl ?_
        refine w_isub (n := 53) rfl rfl ?_
        refine w_iaload (N := 64) (j := ((x1 - 1) - x6).toNatClampNeg) (n := 54) rfl rfl rfl rfl rfl rfl ⟨H.1, ?_⟩
        replace H := H.2
        refine w_imul (n := 55) rfl rfl ?_
        refine w_iadd (n := 56) rfl rfl ?_
        refine w_istore (ls' := [some (.ref 79), some (.int x1), some (.int x2), some (.ref 64), some (.ref 65), some (.int (x5 + ((if 5 ≤ x2 then ((I10 64 (((3 * (x2 - 5)) + x6).toNatClampNeg)) : Int32) else mm_fix (((4 * x2) + x6).toNatClampNeg)) * (I10 79 (((x1 - 1) - x6).toNatClampNeg))))), some (.int x6)]) (n := 58) rfl rfl rfl rfl ?_
        refine w_iinc (y := x6 + 1) (ls' := [some (.ref 79), some (.int x1), some (.int x2), some (.ref 64), some (.ref 65), some (.int (x5 + ((if 5 ≤ x2 then ((I10 64 (((3 * (x2 - 5)) + x6).toNatClampNeg)) : Int32) else mm_fix (((4 * x2) + x6).toNatClampNeg)) * (I10 79 (((x1 - 1) - x6).toNatClampNeg))))), some (.int (x6 + 1))]) (n := 61) rfl rfl rfl rfl rfl ?_
        refine w_goto rfl ?_
        exact w_drp mm_Qf_i H (lb_s (lb_s (lb_s (lb_s (lb_s (lb_s (lb_s lb_e)))))))
      refine w_icmp_ge (n := 23) rfl rfl ⟨fun hc => ?_, fun hc => ?_⟩
      · have H := K1 hc
        refine w_aload_nR (x := 64) (n := 37) rfl rfl rfl ?_
        refine w_iconst (v := 3) (n := 38) rfl rfl rfl ?_
        refine w_iload_n (n := 39) rfl rfl rfl ?_
        refine w_iconst (v := 5) (n := 40) rfl rfl rfl ?_
        refine w_isub (n := 41) rfl rfl ?_
        refine w_imul (n := 42) rfl rfl ?_
        refine w_iload (n := 44) rfl rfl rfl ?_
        refine w_iadd (n := 45) rfl rfl ?_
        refine w_iaload (N := 9) (j := ((3 * (x2 - 5)) + x6).toNatClampNeg) (n := 46) rfl rfl rfl rfl rfl rfl ⟨H.1, ?_⟩
        replace H := H.2
        refine w_drp mm_Qf_i (J20 _ ?_) (lb_s (lb_s (lb_s (lb_s (lb_s (lb_s (lb_s lb_e)))))))
        · exact (if_pos hc).symm
      · have H := K2 hc
        refine w_getS (n := 26) rfl rfl ?_
        refine w_iconst (v := 4) (n := 27) rfl rfl rfl ?_
        refine w_iload_n (n := 28) rfl rfl rfl ?_
        refine w_imul (n := 29) rfl rfl ?_
        refine w_iload (n := 31) rfl rfl rfl ?_
        refine w_iadd (n := 32) rfl rfl ?_
        refine w_ialoadF (j := ((4 * x2) + x6).toNatClampNeg) (n := 33) rfl rfl rfl ⟨H.1, ?_⟩
        replace H := H.2
        refine w_goto rfl ?_
        refine w_drp mm_Qf_i (J20 _ ?_) (lb_s (lb_s (lb_s (lb_s (lb_s (lb_s (lb_s lb_e)))))))
        · exact (if_neg (fa_nle hc)).symm
theorem e_M_isReady {P : Int32 → mm_I → Prop} {I : mm_I}
  (H : ((if (I 58 4) ≤ 0 then (0 : Int32) else (if (I 58 4) = 1 then (1 : Int32) else (if (I 61 0) = (I 61 1) then (1 : Int32) else 0))) = 0 ∨ (if (I 58 4) ≤ 0 then (0 : Int32) else (if (I 58 4) = 1 then (1 : Int32) else (if (I 61 0) = (I 61 1) then (1 : Int32) else 0))) = 1) ∧ P (if (I 58 4) ≤ 0 then (0 : Int32) else (if (I 58 4) = 1 then (1 : Int32) else (if (I 61 0) = (I 61 1) then (1 : Int32) else 0))) I) : mm_Mi 146 [.ref 58] I P := by
  refine mm_Mi_of ?_
  show mm_W 146 0 [some (.ref 58)] [] I (mm_qi 146 P)
  refine w_aload_nR (x := 58) (n := 1) rfl rfl rfl ?_
  refine w_getI (n := 4) rfl rfl rfl rfl ?_
  have J4 : ∀ (w4_0 : Int32), w4_0 = (if (I 58 4) ≤ 0 then (0 : Int32) else (if (I 58 4) = 1 then (1 : Int32) else (if (I 61 0) = (I 61 1) then (1 : Int32) else 0))) → mm_W 146 35 [some (.ref 58)] [.int w4_0] I (mm_qi 146 P) := by
    intro w4_0 e4_0
    subst e4_0
    exact w_zreturn rfl rfl H
  refine w_if_le (n := 7) rfl rfl ⟨fun hc => ?_, fun hc => ?_⟩
  · refine w_iconst (v := 0) (n := 35) rfl rfl rfl ?_
    refine w_drp mm_Qf_i (J4 _ ?_) (lb_s lb_e)
    · exact (if_pos hc).symm
  · refine w_aload_nR (x := 58) (n := 8) rfl rfl rfl ?_
    refine w_getI (n := 11) rfl rfl rfl rfl ?_
    refine w_iconst (v := 1) (n := 12) rfl rfl rfl ?_
    have J12 : ∀ (w12_0 : Int32), w12_0 = (if (I 58 4) = 1 then (1 : Int32) else (if (I 61 0) = (I 61 1) then (1 : Int32) else 0)) → mm_W 146 35 [some (.ref 58)] [.int w12_0] I (mm_qi 146 P) := by
      intro w12_0 e12_0
      subst e12_0
      refine w_drp mm_Qf_i (J4 _ ?_) (lb_s lb_e)
      · exact (if_neg (fa_nle hc)).symm
    refine w_icmp_eq (n := 15) rfl rfl ⟨fun hc => ?_, fun hc => ?_⟩
    · refine w_iconst (v := 1) (n := 31) rfl rfl rfl ?_
      refine w_goto rfl ?_
      refine w_drp mm_Qf_i (J12 _ ?_) (lb_s lb_e)
      · exact (if_pos hc).symm
    · refine w_aload_nR (x := 58) (n := 16) rfl rfl rfl ?_
      refine w_getR (b := 61) (n := 19) rfl rfl rfl rfl rfl ?_
      refine w_iconst (v := 0) (n := 20) rfl rfl rfl ?_
      refine w_iaload (N := 2) (j := 0) (n := 21) rfl rfl rfl rfl (by decide) rfl ⟨mm_vpc (by decide), ?_⟩
      refine w_aload_nR (x := 58) (n := 22) rfl rfl rfl ?_
      refine w_getR (b := 61) (n := 25) rfl rfl rfl rfl rfl ?_
      refine w_iconst (v := 1) (n := 26) rfl rfl rfl ?_
      refine w_iaload (N := 2) (j := 1) (n := 27) rfl rfl rfl rfl (by decide) rfl ⟨mm_vpc (by decide), ?_⟩
      have J27 : ∀ (w27_0 : Int32), w27_0 = (if (I 61 0) = (I 61 1) then (1 : Int32) else 0) → mm_W 146 35 [some (.ref 58)] [.int w27_0] I (mm_qi 146 P) := by
        intro w27_0 e27_0
        subst e27_0
        refine w_drp mm_Qf_i (J12 _ ?_) (lb_s lb_e)
        · exact (if_neg hc).symm
      refine w_icmp_ne (n := 30) rfl rfl ⟨fun hc => ?_, fun hc => ?_⟩
      · refine w_iconst (v := 0) (n := 35) rfl rfl rfl ?_
        refine w_drp mm_Qf_i (J27 _ ?_) (lb_s lb_e)
        · exact (if_neg hc).symm
      · refine w_iconst (v := 1) (n := 31) rfl rfl rfl ?_
        refine w_goto rfl ?_
        refine w_drp mm_Qf_i (J27 _ ?_) (lb_s lb_e)
        · exact (if_pos hc).symm
theorem e_M_frames {P : Int32 → mm_I → Prop} {I : mm_I}
  (H : mm_Mi 146 [.ref 58] I (fun r1 I1 =>  -- M.isReady
    (r1 = 0 →
      P 0 I1) ∧
    (¬ r1 = 0 →
      ¬ (I1 58 6) = 0 ∧
      P ((((I1 61 0) + (I1 58 6)) - 1) / (I1 58 6)) I1))) : mm_Mi 147 [.ref 58] I P := by
  refine mm_Mi_of ?_
  show mm_W 147 0 [some (.ref 58)] [] I (mm_qi 147 P)
  refine w_aload_nR (x := 58) (n := 1) rfl rfl rfl ?_
  refine w_calli (as := [.ref 58]) (rest := []) (n := 4) rfl rfl rfl rfl ?_
  obtain ⟨r1, I1, hI1, H⟩ := H
  refine ⟨r1, I1, hI1, ?_⟩
  refine w_if_eq (n := 7) rfl rfl ⟨fun hc => ?_, fun hc => ?_⟩
  · replace H := H.1 hc
    refine w_iconst (v := 0) (n := 29) rfl rfl rfl ?_
    exact w_ireturn rfl rfl H
  · replace H := H.2 hc
    refine w_aload_nR (x := 58) (n := 8) rfl rfl rfl ?_
    refine w_getR (b := 61) (n := 11) rfl rfl rfl rfl rfl ?_
    refine w_iconst (v := 0) (n := 12) rfl rfl rfl ?_
    refine w_iaload (N := 2) (j := 0) (n := 13) rfl rfl rfl rfl (by decide) rfl ⟨mm_vpc (by decide), ?_⟩
    refine w_aload_nR (x := 58) (n := 14) rfl rfl rfl ?_
    refine w_getI (n := 17) rfl rfl rfl rfl ?_
    refine w_iadd (n := 18) rfl rfl ?_
    refine w_iconst (v := 1) (n := 19) rfl rfl rfl ?_
    refine w_isub (n := 20) rfl rfl ?_
    refine w_aload_nR (x := 58) (n := 21) rfl rfl rfl ?_
    refine w_getI (n := 24) rfl rfl rfl rfl ?_
    refine w_idiv (n := 25) rfl rfl ⟨H.1, ?_⟩
    replace H := H.2
    refine w_goto rfl ?_
    exact w_ireturn rfl rfl H
theorem e_M_isFrameThere {P : Int32 → mm_I → Prop} {I : mm_I} (x1 : Int32)
  (H : mm_Mi 147 [.ref 58] I (fun r3 I3 =>  -- M.frames
    mm_Mi 125 [.int x1, .int 0, .int (r3 - 1)] I3 (fun r8 I8 =>  -- M.within
    (r8 = 0 ∨ r8 = 1) ∧ P r8 I8))) : mm_Mi 148 [.ref 58, .int x1] I P := by
  refine mm_Mi_of ?_
  show mm_W 148 0 [some (.ref 58), some (.int x1)] [] I (mm_qi 148 P)
  refine w_iload_n (n := 1) rfl rfl rfl ?_
  refine w_iconst (v := 0) (n := 2) rfl rfl rfl ?_
  refine w_aload_nR (x := 58) (n := 3) rfl rfl rfl ?_
  refine w_calli (as := [.ref 58]) (rest := [.int 0, .int x1]) (n := 6) rfl rfl rfl rfl ?_
  obtain ⟨r3, I3, hI3, H⟩ := H
  refine ⟨r3, I3, hI3, ?_⟩
  refine w_iconst (v := 1) (n := 7) rfl rfl rfl ?_
  refine w_isub (n := 8) rfl rfl ?_
  refine w_calli (as := [.int x1, .int 0, .int (r3 - 1)]) (rest := []) (n := 11) rfl rfl rfl rfl ?_
  obtain ⟨r8, I8, hI8, H⟩ := H
  refine ⟨r8, I8, hI8, ?_⟩
  exact w_zreturn rfl rfl H
theorem e_M_laysRow {P : mm_I → Prop} {I : mm_I} (x1 : Int32) (x2 : Int32)
  (H : mm_W 149 66 [some (.ref 58), none, some (.int x2), some (.int ((I 58 6) * x1)), some (.int 0), none, none] [] (mm_up (mm_up I 58 18 (if (I 58 6) ≤ ((I 61 0) - ((I 58 6) * x1)) then ((I 58 6) : Int32) else (I 61 0) - ((I 58 6) * x1))) 58 19 (if x2 = 2 then ((I 58 5) + 1 : Int32) else (I 58 5))) (mm_qv 149 P)) : mm_Mv 149 [.ref 58, .int x1, .int x2] I P := by
  refine mm_Mv_of ?_
  show mm_W 149 0 [some (.ref 58), some (.int x1), some (.int x2), none, none, none, none] [] I (mm_qv 149 P)
  refine w_aload_nR (x := 58) (n := 1) rfl rfl rfl ?_
  refine w_getI (n := 4) rfl rfl rfl rfl ?_
  refine w_iload_n (n := 5) rfl rfl rfl ?_
  refine w_imul (n := 6) rfl rfl ?_
  refine w_istore_n (ls' := [some (.ref 58), some (.int x1), some (.int x2), some (.int ((I 58 6) * x1)), none, none, none]) (n := 7) rfl rfl rfl rfl ?_
  refine w_aload_nR (x := 58) (n := 8) rfl rfl rfl ?_
  refine w_aload_nR (x := 58) (n := 9) rfl rfl rfl ?_
  refine w_getR (b := 61) (n := 12) rfl rfl rfl rfl rfl ?_
  refine w_iconst (v := 0) (n := 13) rfl rfl rfl ?_
  refine w_iaload (N := 2) (j := 0) (n := 14) rfl rfl rfl rfl (by decide) rfl ⟨mm_vpc (by decide), ?_⟩
  refine w_iload_n (n := 15) rfl rfl rfl ?_
  refine w_isub (n := 16) rfl rfl ?_
  refine w_aload_nR (x := 58) (n := 17) rfl rfl rfl ?_
  refine w_getI (n := 20) rfl rfl rfl rfl ?_
  have J20 : ∀ (w20_1 : Int32), w20_1 = (if (I 58 6) ≤ ((I 61 0) - ((I 58 6) * x1)) then ((I 58 6) : Int32) else (I 61 0) - ((I 58 6) * x1)) → mm_W 149 38 [some (.ref 58), some (.int x1), some (.int x2), some (.int ((I 58 6) * x1)), none, none, none] [.int w20_1, .ref 58] I (mm_qv 149 P) := by
    intro w20_1 e20_0
    subst e20_0
    refine w_putI (n := 41) rfl rfl rfl rfl rfl ?_
    refine w_aload_nR (x := 58) (n := 42) rfl rfl rfl ?_
    refine w_iload_n (n := 43) rfl rfl rfl ?_
    refine w_iconst (v := 2) (n := 44) rfl rfl rfl ?_
    have J44 : ∀ (w44_1 : Int32), w44_1 = (if x2 = 2 then ((I 58 5) + 1 : Int32) else (I 58 5)) → mm_W 149 60 [some (.ref 58), some (.int x1), some (.int x2), some (.int ((I 58 6) * x1)), none, none, none] [.int w44_1, .ref 58] (mm_up I 58 18 (if (I 58 6) ≤ ((I 61 0) - ((I 58 6) * x1)) then ((I 58 6) : Int32) else (I 61 0) - ((I 58 6) * x1))) (mm_qv 149 P) := by
      intro w44_1 e44_0
      subst e44_0
      refine w_putI (n := 63) rfl rfl rfl rfl rfl ?_
      refine w_iconst (v := 0) (n := 64) rfl rfl rfl ?_
      refine w_istore (ls' := [some (.ref 58), some (.int x1), some (.int x2), some (.int ((I 58 6) * x1)), some (.int 0), none, none]) (n := 66) rfl rfl rfl rfl ?_
      exact w_drp mm_Qf_v H (lb_s (lb_n (lb_s (lb_s (lb_s (lb_n (lb_n lb_e)))))))
    refine w_icmp_ne (n := 47) rfl rfl ⟨fun hc => ?_, fun hc => ?_⟩
    · refine w_aload_nR (x := 58) (n := 57) rfl rfl rfl ?_
      refine w_getI (n := 60) rfl rfl rfl rfl ?_
      refine w_drp mm_Qf_v (J44 _ ?_) (lb_s (lb_s (lb_s (lb_s (lb_n (lb_n (lb_n lb_e)))))))
      · exact (if_neg hc).symm
    · refine w_aload_nR (x := 58) (n := 48) rfl rfl rfl ?_
      refine w_getI (n := 51) rfl rfl rfl rfl ?_
      refine w_iconst (v := 1) (n := 52) rfl rfl rfl ?_
      refine w_iadd (n := 53) rfl rfl ?_
      refine w_goto rfl ?_
      refine w_drp mm_Qf_v (J44 _ ?_) (lb_s (lb_s (lb_s (lb_s (lb_n (lb_n (lb_n lb_e)))))))
      · exact (if_pos hc).symm
  refine w_icmp_ge (n := 23) rfl rfl ⟨fun hc => ?_, fun hc => ?_⟩
  · refine w_aload_nR (x := 58) (n := 35) rfl rfl rfl ?_
    refine w_getI (n := 38) rfl rfl rfl rfl ?_
    refine w_drp mm_Qf_v (J20 _ ?_) (lb_s (lb_s (lb_s (lb_s (lb_n (lb_n (lb_n lb_e)))))))
    · exact (if_pos hc).symm
  · refine w_aload_nR (x := 58) (n := 24) rfl rfl rfl ?_
    refine w_getR (b := 61) (n := 27) rfl rfl rfl rfl rfl ?_
    refine w_iconst (v := 0) (n := 28) rfl rfl rfl ?_
    refine w_iaload (N := 2) (j := 0) (n := 29) rfl rfl rfl rfl (by decide) rfl ⟨mm_vpc (by decide), ?_⟩
    refine w_iload_n (n := 30) rfl rfl rfl ?_
    refine w_isub (n := 31) rfl rfl ?_
    refine w_goto rfl ?_
    refine w_drp mm_Qf_v (J20 _ ?_) (lb_s (lb_s (lb_s (lb_s (lb_n (lb_n (lb_n lb_e)))))))
    · exact (if_neg (fa_nle hc)).symm
theorem c_M_laysRow_66 {P : mm_I → Prop} {I : mm_I} (x2 : Int32) (x3 : Int32) (x4 : Int32)
  (H : ((I 58 18) ≤ x4 →
      P I) ∧
    (x4 < (I 58 18) →
      vp_in (x3 + x4) 512 ∧
      vp_in ((256 + x3) + x4) 512 ∧
      vp_in x4 64 ∧
      mm_W 149 66 [some (.ref 58), none, some (.int x2), some (.int x3), some (.int (x4 + 1)), none, none] [] (mm_up I 67 x4.toNatClampNeg (if x2 = 0 then ((I 60 ((x3 + x4).toNatClampNeg)) : Int32) else (if x2 = 1 then ((I 60 (((256 + x3) + x4).toNatClampNeg)) : Int32) else (if x2 = 2 then ((I 60 ((x3 + x4).toNatClampNeg)) - (I 60 (((256 + x3) + x4).toNatClampNeg)) : Int32) else ((I 60 ((x3 + x4).toNatClampNeg)) + (I 60 (((256 + x3) + x4).toNatClampNeg))) >>> (1 &&& 31))))) (mm_qv 149 P))) : mm_W 149 66 [some (.ref 58), none, some (.int x2), some (.int x3), some (.int x4), none, none] [] I (mm_qv 149 P) := by
  refine w_iload (n := 68) rfl rfl rfl ?_
  refine w_aload_nR (x := 58) (n := 69) rfl rfl rfl ?_
  refine w_getI (n := 72) rfl rfl rfl rfl ?_
  refine w_icmp_ge (n := 75) rfl rfl ⟨fun hc => ?_, fun hc => ?_⟩
  · replace H := H.1 hc
    exact w_vreturn rfl rfl H
  · replace H := H.2 hc
    refine w_aload_nR (x := 58) (n := 76) rfl rfl rfl ?_
    refine w_getR (b := 60) (n := 79) rfl rfl rfl rfl rfl ?_
    refine w_iload_n (n := 80) rfl rfl rfl ?_
    refine w_iload (n := 82) rfl rfl rfl ?_
    refine w_iadd (n := 83) rfl rfl ?_
    refine w_iaload (N := 512) (j := (x3 + x4).toNatClampNeg) (n := 84) rfl rfl rfl rfl rfl rfl ⟨H.1, ?_⟩
    replace H := H.2
    refine w_istore (ls' := [some (.ref 58), none, some (.int x2), some (.int x3), some (.int x4), some (.int (I 60 ((x3 + x4).toNatClampNeg))), none]) (n := 86) rfl rfl rfl rfl ?_
    refine w_aload_nR (x := 58) (n := 87) rfl rfl rfl ?_
    refine w_getR (b := 60) (n := 90) rfl rfl rfl rfl rfl ?_
    refine w_sipush (v := 256) (n := 93) rfl rfl rfl ?_
    refine w_iload_n (n := 94) rfl rfl rfl ?_
    refine w_iadd (n := 95) rfl rfl ?_
    refine w_iload (n := 97) rfl rfl rfl ?_
    refine w_iadd (n := 98) rfl rfl ?_
    refine w_iaload (N := 512) (j := ((256 + x3) + x4).toNatClampNeg) (n := 99) rfl rfl rfl rfl rfl rfl ⟨H.1, ?_⟩
    replace H := H.2
    refine w_istore (ls' := [some (.ref 58), none, some (.int x2), some (.int x3), some (.int x4), some (.int (I 60 ((x3 + x4).toNatClampNeg))), some (.int (I 60 (((256 + x3) + x4).toNatClampNeg)))]) (n := 101) rfl rfl rfl rfl ?_
    refine w_aload_nR (x := 58) (n := 102) rfl rfl rfl ?_
    refine w_getR (b := 67) (n := 105) rfl rfl rfl rfl rfl ?_
    refine w_iload (n := 107) rfl rfl rfl ?_
    refine w_iload_n (n := 108) rfl rfl rfl ?_
    have J108 : ∀ (w108_2 : Int32), w108_2 = (if x2 = 0 then ((I 60 ((x3 + x4).toNatClampNeg)) : Int32) else (if x2 = 1 then ((I 60 (((256 + x3) + x4).toNatClampNeg)) : Int32) else (if x2 = 2 then ((I 60 ((x3 + x4).toNatClampNeg)) - (I 60 (((256 + x3) + x4).toNatClampNeg)) : Int32) else ((I 60 ((x3 + x4).toNatClampNeg)) + (I 60 (((256 + x3) + x4).toNatClampNeg))) >>> (1 &&& 31)))) → mm_W 149 146 [some (.ref 58), none, some (.int x2), some (.int x3), some (.int x4), some (.int (I 60 ((x3 + x4).toNatClampNeg))), some (.int (I 60 (((256 + x3) + x4).toNatClampNeg)))] [.int w108_2, .int x4, .ref 67] I (mm_qv 149 P) := by
      intro w108_2 e108_0
      subst e108_0
      refine w_iastore (N := 64) (j := x4.toNatClampNeg) (n := 147) rfl rfl rfl rfl rfl ⟨H.1, ?_⟩
      replace H := H.2
      refine w_iinc (y := x4 + 1) (ls' := [some (.ref 58), none, some (.int x2), some (.int x3), some (.int (x4 + 1)), some (.int (I 60 ((x3 + x4).toNatClampNeg))), some (.int (I 60 (((256 + x3) + x4).toNatClampNeg)))]) (n := 150) rfl rfl rfl rfl rfl ?_
      refine w_goto rfl ?_
      exact w_drp mm_Qf_v H (lb_s (lb_n (lb_s (lb_s (lb_s (lb_n (lb_n lb_e)))))))
    refine w_if_ne (n := 111) rfl rfl ⟨fun hc => ?_, fun hc => ?_⟩
    · refine w_iload_n (n := 117) rfl rfl rfl ?_
      refine w_iconst (v := 1) (n := 118) rfl rfl rfl ?_
      have J118 : ∀ (w118_2 : Int32), w118_2 = (if x2 = 1 then ((I 60 (((256 + x3) + x4).toNatClampNeg)) : Int32) else (if x2 = 2 then ((I 60 ((x3 + x4).toNatClampNeg)) - (I 60 (((256 + x3) + x4).toNatClampNeg)) : Int32) else ((I 60 ((x3 + x4).toNatClampNeg)) + (I 60 (((256 + x3) + x4).toNatClampNeg))) >>> (1 &&& 31))) → mm_W 149 146 [some (.ref 58), none, some (.int x2), some (.int x3), some (.int x4), some (.int (I 60 ((x3 + x4).toNatClampNeg))), some (.int (I 60 (((256 + x3) + x4).toNatClampNeg)))] [.int w118_2, .int x4, .ref 67] I (mm_qv 149 P) := by
        intro w118_2 e118_0
        subst e118_0
        refine w_drp mm_Qf_v (J108 _ ?_) (lb_s (lb_n (lb_s (lb_s (lb_s (lb_s (lb_s lb_e)))))))
        · exact (if_neg hc).symm
      refine w_icmp_ne (n := 121) rfl rfl ⟨fun hc => ?_, fun hc => ?_⟩
      · refine w_iload_n (n := 127) rfl rfl rfl ?_
        refine w_iconst (v := 2) (n := 128) rfl rfl rfl ?_
        have J128 : ∀ (w128_2 : Int32), w128_2 = (if x2 = 2 then ((I 60 ((x3 + x4).toNatClampNeg)) - (I 60 (((256 + x3) + x4).toNatClampNeg)) : Int32) else ((I 60 ((x3 + x4).toNatClampNeg)) + (I 60 (((256 + x3) + x4).toNatClampNeg))) >>> (1 &&& 31)) → mm_W 149 146 [some (.ref 58), none, some (.int x2), some (.int x3), some (.int x4), some (.int (I 60 ((x3 + x4).toNatClampNeg))), some (.int (I 60 (((256 + x3) + x4).toNatClampNeg)))] [.int w128_2, .int x4, .ref 67] I (mm_qv 149 P) := by
          intro w128_2 e128_0
          subst e128_0
          refine w_drp mm_Qf_v (J118 _ ?_) (lb_s (lb_n (lb_s (lb_s (lb_s (lb_s (lb_s lb_e)))))))
          · exact (if_neg hc).symm
        refine w_icmp_ne (n := 131) rfl rfl ⟨fun hc => ?_, fun hc => ?_⟩
        · refine w_iload (n := 141) rfl rfl rfl ?_
          refine w_iload (n := 143) rfl rfl rfl ?_
          refine w_iadd (n := 144) rfl rfl ?_
          refine w_iconst (v := 1) (n := 145) rfl rfl rfl ?_
          refine w_ishr (n := 146) rfl rfl ?_
          refine w_drp mm_Qf_v (J128 _ ?_) (lb_s (lb_n (lb_s (lb_s (lb_s (lb_s (lb_s lb_e)))))))
          · exact (if_neg hc).symm
        · refine w_iload (n := 133) rfl rfl rfl ?_
          refine w_iload (n := 135) rfl rfl rfl ?_
          refine w_isub (n := 136) rfl rfl ?_
          refine w_goto rfl ?_
          refine w_drp mm_Qf_v (J128 _ ?_) (lb_s (lb_n (lb_s (lb_s (lb_s (lb_s (lb_s lb_e)))))))
          · exact (if_pos hc).symm
      · refine w_iload (n := 123) rfl rfl rfl ?_
        refine w_goto rfl ?_
        refine w_drp mm_Qf_v (J118 _ ?_) (lb_s (lb_n (lb_s (lb_s (lb_s (lb_s (lb_s lb_e)))))))
        · exact (if_pos hc).symm
    · refine w_iload (n := 113) rfl rfl rfl ?_
      refine w_goto rfl ?_
      refine w_drp mm_Qf_v (J108 _ ?_) (lb_s (lb_n (lb_s (lb_s (lb_s (lb_s (lb_s lb_e)))))))
      · exact (if_pos hc).symm
theorem e_M_sortOf {P : Int32 → mm_I → Prop} {I : mm_I} (x0 : Int32) (x1 : Int32)
  (H : P (if x1 = 0 then ((if x0 = 2 then (2 : Int32) else (if x0 = 3 then (3 : Int32) else 0)) : Int32) else (if x0 = 0 then (1 : Int32) else (if x0 = 2 then (1 : Int32) else 2))) I) : mm_Mi 150 [.int x0, .int x1] I P := by
  refine mm_Mi_of ?_
  show mm_W 150 0 [some (.int x0), some (.int x1)] [] I (mm_qi 150 P)
  refine w_iload_n (n := 1) rfl rfl rfl ?_
  have J1 : ∀ (w1_0 : Int32), w1_0 = (if x1 = 0 then ((if x0 = 2 then (2 : Int32) else (if x0 = 3 then (3 : Int32) else 0)) : Int32) else (if x0 = 0 then (1 : Int32) else (if x0 = 2 then (1 : Int32) else 2))) → mm_W 150 40 [some (.int x0), some (.int x1)] [.int w1_0] I (mm_qi 150 P) := by
    intro w1_0 e1_0
    subst e1_0
    exact w_ireturn rfl rfl H
  refine w_if_ne (n := 4) rfl rfl ⟨fun hc => ?_, fun hc => ?_⟩
  · refine w_iload_n (n := 27) rfl rfl rfl ?_
    have J27 : ∀ (w27_0 : Int32), w27_0 = (if x0 = 0 then (1 : Int32) else (if x0 = 2 then (1 : Int32) else 2)) → mm_W 150 40 [some (.int x0), some (.int x1)] [.int w27_0] I (mm_qi 150 P) := by
      intro w27_0 e27_0
      subst e27_0
      refine w_drp mm_Qf_i (J1 _ ?_) (lb_s (lb_s lb_e))
      · exact (if_neg hc).symm
    refine w_if_eq (n := 30) rfl rfl ⟨fun hc => ?_, fun hc => ?_⟩
    · refine w_iconst (v := 1) (n := 36) rfl rfl rfl ?_
      refine w_goto rfl ?_
      refine w_drp mm_Qf_i (J27 _ ?_) (lb_s (lb_s lb_e))
      · exact (if_pos hc).symm
    · refine w_iload_n (n := 31) rfl rfl rfl ?_
      refine w_iconst (v := 2) (n := 32) rfl rfl rfl ?_
      have J32 : ∀ (w32_0 : Int32), w32_0 = (if x0 = 2 then (1 : Int32) else 2) → mm_W 150 40 [some (.int x0), some (.int x1)] [.int w32_0] I (mm_qi 150 P) := by
        intro w32_0 e32_0
        subst e32_0
        refine w_drp mm_Qf_i (J27 _ ?_) (lb_s (lb_s lb_e))
        · exact (if_neg hc).symm
      refine w_icmp_ne (n := 35) rfl rfl ⟨fun hc => ?_, fun hc => ?_⟩
      · refine w_iconst (v := 2) (n := 40) rfl rfl rfl ?_
        refine w_drp mm_Qf_i (J32 _ ?_) (lb_s (lb_s lb_e))
        · exact (if_neg hc).symm
      · refine w_iconst (v := 1) (n := 36) rfl rfl rfl ?_
        refine w_goto rfl ?_
        refine w_drp mm_Qf_i (J32 _ ?_) (lb_s (lb_s lb_e))
        · exact (if_pos hc).symm
  · refine w_iload_n (n := 5) rfl rfl rfl ?_
    refine w_iconst (v := 2) (n := 6) rfl rfl rfl ?_
    have J6 : ∀ (w6_0 : Int32), w6_0 = (if x0 = 2 then (2 : Int32) else (if x0 = 3 then (3 : Int32) else 0)) → mm_W 150 40 [some (.int x0), some (.int x1)] [.int w6_0] I (mm_qi 150 P) := by
      intro w6_0 e6_0
      subst e6_0
      refine w_drp mm_Qf_i (J1 _ ?_) (lb_s (lb_s lb_e))
      · exact (if_pos hc).symm
    refine w_icmp_ne (n := 9) rfl rfl ⟨fun hc => ?_, fun hc => ?_⟩
    · refine w_iload_n (n := 14) rfl rfl rfl ?_
      refine w_iconst (v := 3) (n := 15) rfl rfl rfl ?_
      have J15 : ∀ (w15_0 : Int32), w15_0 = (if x0 = 3 then (3 : Int32) else 0) → mm_W 150 40 [some (.int x0), some (.int x1)] [.int w15_0] I (mm_qi 150 P) := by
        intro w15_0 e15_0
        subst e15_0
        refine w_drp mm_Qf_i (J6 _ ?_) (lb_s (lb_s lb_e))
        · exact (if_neg hc).symm
      refine w_icmp_ne (n := 18) rfl rfl ⟨fun hc => ?_, fun hc => ?_⟩
      · refine w_iconst (v := 0) (n := 23) rfl rfl rfl ?_
        refine w_goto rfl ?_
        refine w_drp mm_Qf_i (J15 _ ?_) (lb_s (lb_s lb_e))
        · exact (if_neg hc).symm
      · refine w_iconst (v := 3) (n := 19) rfl rfl rfl ?_
        refine w_goto rfl ?_
        refine w_drp mm_Qf_i (J15 _ ?_) (lb_s (lb_s lb_e))
        · exact (if_pos hc).symm
    · refine w_iconst (v := 2) (n := 10) rfl rfl rfl ?_
      refine w_goto rfl ?_
      refine w_drp mm_Qf_i (J6 _ ?_) (lb_s (lb_s lb_e))
      · exact (if_pos hc).symm
theorem e_M_laysErrors {P : mm_I → Prop} {I : mm_I} (x1 : Int32)
  (H : mm_Mi 144 [.int x1, .ref 62] I (fun r5 I5 =>  -- M.orderOf
    mm_W 151 35 [some (.ref 58), some (.int x1), some (.int r5), some (.int 0)] [] (mm_up (mm_up I5 58 21 ((I5 58 18) - r5)) 58 22 ((((I5 58 18) - r5) + 7) / 8)) (mm_qv 151 P))) : mm_Mv 151 [.ref 58, .int x1] I P := by
  refine mm_Mv_of ?_
  show mm_W 151 0 [some (.ref 58), some (.int x1), none, none] [] I (mm_qv 151 P)
  refine w_iload_n (n := 1) rfl rfl rfl ?_
  refine w_aload_nR (x := 58) (n := 2) rfl rfl rfl ?_
  refine w_getR (b := 62) (n := 5) rfl rfl rfl rfl rfl ?_
  refine w_calli (as := [.int x1, .ref 62]) (rest := []) (n := 8) rfl rfl rfl rfl ?_
  obtain ⟨r5, I5, hI5, H⟩ := H
  refine ⟨r5, I5, hI5, ?_⟩
  refine w_istore_n (ls' := [some (.ref 58), some (.int x1), some (.int r5), none]) (n := 9) rfl rfl rfl rfl ?_
  refine w_aload_nR (x := 58) (n := 10) rfl rfl rfl ?_
  refine w_aload_nR (x := 58) (n := 11) rfl rfl rfl ?_
  refine w_getI (n := 14) rfl rfl rfl rfl ?_
  refine w_iload_n (n := 15) rfl rfl rfl ?_
  refine w_isub (n := 16) rfl rfl ?_
  refine w_putI (n := 19) rfl rfl rfl rfl rfl ?_
  refine w_aload_nR (x := 58) (n := 20) rfl rfl rfl ?_
  refine w_aload_nR (x := 58) (n := 21) rfl rfl rfl ?_
  refine w_getI (n := 24) rfl rfl rfl rfl ?_
  refine w_bipush (v := 7) (n := 26) rfl rfl rfl ?_
  refine w_iadd (n := 27) rfl rfl ?_
  refine w_bipush (v := 8) (n := 29) rfl rfl rfl ?_
  refine w_idiv (n := 30) rfl rfl ⟨by decide, ?_⟩
  refine w_putI (n := 33) rfl rfl rfl rfl rfl ?_
  refine w_iconst (v := 0) (n := 34) rfl rfl rfl ?_
  refine w_istore_n (ls' := [some (.ref 58), some (.int x1), some (.int r5), some (.int 0)]) (n := 35) rfl rfl rfl rfl ?_
  exact w_drp mm_Qf_v H (lb_s (lb_s (lb_s (lb_s lb_e))))
theorem c_M_laysErrors_35 {P : mm_I → Prop} {I : mm_I} (x1 : Int32) (x2 : Int32) (x3 : Int32)
  (H : ((I 58 21) ≤ x3 →
      P I) ∧
    (x3 < (I 58 21) →
      vp_in (x2 + x3) 64 ∧
      mm_Mi 145 [.ref 67, .int (x2 + x3), .int x1, .ref 62, .ref 63] I (fun r72 I72 =>  -- M.guessed
      vp_in x3 64 ∧
      mm_W 151 35 [some (.ref 58), some (.int x1), some (.int x2), some (.int (x3 + 1))] [] (mm_up I72 68 x3.toNatClampNeg ((I 67 ((x2 + x3).toNatClampNeg)) - r72)) (mm_qv 151 P)))) : mm_W 151 35 [some (.ref 58), some (.int x1), some (.int x2), some (.int x3)] [] I (mm_qv 151 P) := by
  refine w_iload_n (n := 36) rfl rfl rfl ?_
  refine w_aload_nR (x := 58) (n := 37) rfl rfl rfl ?_
  refine w_getI (n := 40) rfl rfl rfl rfl ?_
  refine w_icmp_ge (n := 43) rfl rfl ⟨fun hc => ?_, fun hc => ?_⟩
  · replace H := H.1 hc
    exact w_vreturn rfl rfl H
  · replace H := H.2 hc
    refine w_aload_nR (x := 58) (n := 44) rfl rfl rfl ?_
    refine w_getR (b := 68) (n := 47) rfl rfl rfl rfl rfl ?_
    refine w_iload_n (n := 48) rfl rfl rfl ?_
    refine w_aload_nR (x := 58) (n := 49) rfl rfl rfl ?_
    refine w_getR (b := 67) (n := 52) rfl rfl rfl rfl rfl ?_
    refine w_iload_n (n := 53) rfl rfl rfl ?_
    refine w_iload_n (n := 54) rfl rfl rfl ?_
    refine w_iadd (n := 55) rfl rfl ?_
    refine w_iaload (N := 64) (j := (x2 + x3).toNatClampNeg) (n := 56) rfl rfl rfl rfl rfl rfl ⟨H.1, ?_⟩
    replace H := H.2
    refine w_aload_nR (x := 58) (n := 57) rfl rfl rfl ?_
    refine w_getR (b := 67) (n := 60) rfl rfl rfl rfl rfl ?_
    refine w_iload_n (n := 61) rfl rfl rfl ?_
    refine w_iload_n (n := 62) rfl rfl rfl ?_
    refine w_iadd (n := 63) rfl rfl ?_
    refine w_iload_n (n := 64) rfl rfl rfl ?_
    refine w_aload_nR (x := 58) (n := 65) rfl rfl rfl ?_
    refine w_getR (b := 62) (n := 68) rfl rfl rfl rfl rfl ?_
    refine w_aload_nR (x := 58) (n := 69) rfl rfl rfl ?_
    refine w_getR (b := 63) (n := 72) rfl rfl rfl rfl rfl ?_
    refine w_calli (as := [.ref 67, .int (x2 + x3), .int x1, .ref 62, .ref 63]) (rest := [.int (I 67 ((x2 + x3).toNatClampNeg)), .int x3, .ref 68]) (n := 75) rfl rfl rfl rfl ?_
    obtain ⟨r72, I72, hI72, H⟩ := H
    refine ⟨r72, I72, hI72, ?_⟩
    refine w_isub (n := 76) rfl rfl ?_
    refine w_iastore (N := 64) (j := x3.toNatClampNeg) (n := 77) rfl rfl rfl rfl rfl ⟨H.1, ?_⟩
    replace H := H.2
    refine w_iinc (y := x3 + 1) (ls' := [some (.ref 58), some (.int x1), some (.int x2), some (.int (x3 + 1))]) (n := 80) rfl rfl rfl rfl rfl ?_
    refine w_goto rfl ?_
    exact w_drp mm_Qf_v H (lb_s (lb_s (lb_s (lb_s lb_e))))
theorem e_M_folded {P : Int32 → mm_I → Prop} {I : mm_I} (x0 : Int32)
  (H : P (if 0 ≤ x0 then (2 * x0 : Int32) else ((-2) * x0) - 1) I) : mm_Mi 152 [.int x0] I P := by
  refine mm_Mi_of ?_
  show mm_W 152 0 [some (.int x0)] [] I (mm_qi 152 P)
  refine w_iload_n (n := 1) rfl rfl rfl ?_
  have J1 : ∀ (w1_0 : Int32), w1_0 = (if 0 ≤ x0 then (2 * x0 : Int32) else ((-2) * x0) - 1) → mm_W 152 16 [some (.int x0)] [.int w1_0] I (mm_qi 152 P) := by
    intro w1_0 e1_0
    subst e1_0
    exact w_ireturn rfl rfl H
  refine w_if_ge (n := 4) rfl rfl ⟨fun hc => ?_, fun hc => ?_⟩
  · refine w_iconst (v := 2) (n := 14) rfl rfl rfl ?_
    refine w_iload_n (n := 15) rfl rfl rfl ?_
    refine w_imul (n := 16) rfl rfl ?_
    refine w_drp mm_Qf_i (J1 _ ?_) (lb_s lb_e)
    · exact (if_pos hc).symm
  · refine w_bipush (v := (-2)) (n := 6) rfl rfl rfl ?_
    refine w_iload_n (n := 7) rfl rfl rfl ?_
    refine w_imul (n := 8) rfl rfl ?_
    refine w_iconst (v := 1) (n := 9) rfl rfl rfl ?_
    refine w_isub (n := 10) rfl rfl ?_
    refine w_goto rfl ?_
    refine w_drp mm_Qf_i (J1 _ ?_) (lb_s lb_e)
    · exact (if_neg (fa_nle hc)).symm
theorem e_M_widthOf {P : Int32 → mm_I → Prop} {I : mm_I} (x0 : Int32)
  (H : mm_W 153 2 [some (.int x0), some (.int 1)] [] I (mm_qi 153 P)) : mm_Mi 153 [.int x0] I P := by
  refine mm_Mi_of ?_
  show mm_W 153 0 [some (.int x0), none] [] I (mm_qi 153 P)
  refine w_iconst (v := 1) (n := 1) rfl rfl rfl ?_
  refine w_istore_n (ls' := [some (.int x0), some (.int 1)]) (n := 2) rfl rfl rfl rfl ?_
  exact w_drp mm_Qf_i H (lb_s (lb_s lb_e))
theorem c_M_widthOf_2 {P : Int32 → mm_I → Prop} {I : mm_I} (x0 : Int32) (x1 : Int32)
  (H : (x0 < (-(1 <<< ((x1 - 1) &&& 31))) →
      mm_W 153 2 [some (.int x0), some (.int (x1 + 1))] [] I (mm_qi 153 P)) ∧
    ((-(1 <<< ((x1 - 1) &&& 31))) ≤ x0 →
      (x0 ≤ ((1 <<< ((x1 - 1) &&& 31)) - 1) →
        P x1 I) ∧
      (((1 <<< ((x1 - 1) &&& 31)) - 1) < x0 →
        mm_W 153 2 [some (.int x0), some (.int (x1 + 1))] [] I (mm_qi 153 P)))) : mm_W 153 2 [some (.int x0), some (.int x1)] [] I (mm_qi 153 P) := by
  refine w_iload_n (n := 3) rfl rfl rfl ?_
  refine w_iconst (v := 1) (n := 4) rfl rfl rfl ?_
  refine w_iload_n (n := 5) rfl rfl rfl ?_
  refine w_iconst (v := 1) (n := 6) rfl rfl rfl ?_
  refine w_isub (n := 7) rfl rfl ?_
  refine w_ishl (n := 8) rfl rfl ?_
  refine w_ineg (n := 9) rfl rfl ?_
  refine w_icmp_lt (n := 12) rfl rfl ⟨fun hc => ?_, fun hc => ?_⟩
  · replace H := H.1 hc
    refine w_iinc (y := x1 + 1) (ls' := [some (.int x0), some (.int (x1 + 1))]) (n := 26) rfl rfl rfl rfl rfl ?_
    refine w_goto rfl ?_
    exact w_drp mm_Qf_i H (lb_s (lb_s lb_e))
  · replace H := H.2 hc
    refine w_iload_n (n := 13) rfl rfl rfl ?_
    refine w_iconst (v := 1) (n := 14) rfl rfl rfl ?_
    refine w_iload_n (n := 15) rfl rfl rfl ?_
    refine w_iconst (v := 1) (n := 16) rfl rfl rfl ?_
    refine w_isub (n := 17) rfl rfl ?_
    refine w_ishl (n := 18) rfl rfl ?_
    refine w_iconst (v := 1) (n := 19) rfl rfl rfl ?_
    refine w_isub (n := 20) rfl rfl ?_
    refine w_icmp_le (n := 23) rfl rfl ⟨fun hc => ?_, fun hc => ?_⟩
    · replace H := H.1 hc
      refine w_iload_n (n := 30) rfl rfl rfl ?_
      exact w_ireturn rfl rfl H
    · replace H := H.2 hc
      refine w_iinc (y := x1 + 1) (ls' := [some (.int x0), some (.int (x1 + 1))]) (n := 26) rfl rfl rfl rfl rfl ?_
      refine w_goto rfl ?_
      exact w_drp mm_Qf_i H (lb_s (lb_s lb_e))
theorem e_M_inGroup {P : Int32 → mm_I → Prop} {I : mm_I} (x1 : Int32)
  (H : P (if 8 ≤ ((I 58 21) - (8 * x1)) then (8 : Int32) else (I 58 21) - (8 * x1)) I) : mm_Mi 154 [.ref 58, .int x1] I P := by
  refine mm_Mi_of ?_
  show mm_W 154 0 [some (.ref 58), some (.int x1)] [] I (mm_qi 154 P)
  refine w_aload_nR (x := 58) (n := 1) rfl rfl rfl ?_
  refine w_getI (n := 4) rfl rfl rfl rfl ?_
  refine w_bipush (v := 8) (n := 6) rfl rfl rfl ?_
  refine w_iload_n (n := 7) rfl rfl rfl ?_
  refine w_imul (n := 8) rfl rfl ?_
  refine w_isub (n := 9) rfl rfl ?_
  refine w_bipush (v := 8) (n := 11) rfl rfl rfl ?_
  have J11 : ∀ (w11_0 : Int32), w11_0 = (if 8 ≤ ((I 58 21) - (8 * x1)) then (8 : Int32) else (I 58 21) - (8 * x1)) → mm_W 154 28 [some (.ref 58), some (.int x1)] [.int w11_0] I (mm_qi 154 P) := by
    intro w11_0 e11_0
    subst e11_0
    exact w_ireturn rfl rfl H
  refine w_icmp_ge (n := 14) rfl rfl ⟨fun hc => ?_, fun hc => ?_⟩
  · refine w_bipush (v := 8) (n := 28) rfl rfl rfl ?_
    refine w_drp mm_Qf_i (J11 _ ?_) (lb_s (lb_s lb_e))
    · exact (if_pos hc).symm
  · refine w_aload_nR (x := 58) (n := 15) rfl rfl rfl ?_
    refine w_getI (n := 18) rfl rfl rfl rfl ?_
    refine w_bipush (v := 8) (n := 20) rfl rfl rfl ?_
    refine w_iload_n (n := 21) rfl rfl rfl ?_
    refine w_imul (n := 22) rfl rfl ?_
    refine w_isub (n := 23) rfl rfl ?_
    refine w_goto rfl ?_
    refine w_drp mm_Qf_i (J11 _ ?_) (lb_s (lb_s lb_e))
    · exact (if_neg (fa_nle hc)).symm
