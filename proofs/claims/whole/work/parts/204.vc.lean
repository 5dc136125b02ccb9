theorem e_Sound_held {P : Int32 → mm_I → Prop} {I : mm_I} (x1 : Int32)
  (H : mm_Mi 226 [.int ((if (I 3 3) = 8 then (128 : Int32) else 32768) - 1), .int x1] I (fun r24 I24 =>  -- Math.min
    mm_Mi 225 [.int (-(if (I 3 3) = 8 then (128 : Int32) else 32768)), .int r24] I24 (fun r27 I27 =>  -- Math.max
    P r27 I27))) : mm_Mi 52 [.ref 3, .int x1] I P := by
  refine mm_Mi_of ?_
  show mm_W 52 0 [some (.ref 3), some (.int x1), none] [] I (mm_qi 52 P)
  refine w_aload_nR (x := 3) (n := 1) rfl rfl rfl ?_
  refine w_getI (n := 4) rfl rfl rfl rfl ?_
  refine w_bipush (v := 8) (n := 6) rfl rfl rfl ?_
  have J6 : ∀ (w6_0 : Int32), w6_0 = (if (I 3 3) = 8 then (128 : Int32) else 32768) → mm_W 52 17 [some (.ref 3), some (.int x1), none] [.int w6_0] I (mm_qi 52 P) := by
    intro w6_0 e6_0
    subst e6_0
    refine w_istore_n (ls' := [some (.ref 3), some (.int x1), some (.int (if (I 3 3) = 8 then (128 : Int32) else 32768))]) (n := 18) rfl rfl rfl rfl ?_
    refine w_iload_n (n := 19) rfl rfl rfl ?_
    refine w_ineg (n := 20) rfl rfl ?_
    refine w_iload_n (n := 21) rfl rfl rfl ?_
    refine w_iconst (v := 1) (n := 22) rfl rfl rfl ?_
    refine w_isub (n := 23) rfl rfl ?_
    refine w_iload_n (n := 24) rfl rfl rfl ?_
    refine w_calli (as := [.int ((if (I 3 3) = 8 then (128 : Int32) else 32768) - 1), .int x1]) (rest := [.int (-(if (I 3 3) = 8 then (128 : Int32) else 32768))]) (n := 27) rfl rfl rfl rfl ?_
    obtain ⟨r24, I24, hI24, H⟩ := H
    refine ⟨r24, I24, hI24, ?_⟩
    refine w_calli (as := [.int (-(if (I 3 3) = 8 then (128 : Int32) else 32768)), .int r24]) (rest := []) (n := 30) rfl rfl rfl rfl ?_
    obtain ⟨r27, I27, hI27, H⟩ := H
    refine ⟨r27, I27, hI27, ?_⟩
    exact w_ireturn rfl rfl H
  refine w_icmp_ne (n := 9) rfl rfl ⟨fun hc => ?_, fun hc => ?_⟩
  · refine w_ldc (v := 32768) (n := 17) rfl rfl rfl ?_
    refine w_drp mm_Qf_i (J6 _ ?_) (lb_s (lb_s (lb_n lb_e)))
    · exact (if_neg hc).symm
  · refine w_sipush (v := 128) (n := 12) rfl rfl rfl ?_
    refine w_goto rfl ?_
    refine w_drp mm_Qf_i (J6 _ ?_) (lb_s (lb_s (lb_n lb_e)))
    · exact (if_pos hc).symm
theorem e_Sound_draw {P : Int32 → mm_I → Prop} {I : mm_I}
  (H : P (((((1103515245 * (I 3 4)) + 12345).toUInt32 >>> ((16 : Int32).toUInt32 &&& Int32.toUInt32 31)).toInt32) &&& 32767) (mm_up I 3 4 ((1103515245 * (I 3 4)) + 12345))) : mm_Mi 53 [.ref 3] I P := by
  refine mm_Mi_of ?_
  show mm_W 53 0 [some (.ref 3)] [] I (mm_qi 53 P)
  refine w_aload_nR (x := 3) (n := 1) rfl rfl rfl ?_
  refine w_ldc (v := 1103515245) (n := 3) rfl rfl rfl ?_
  refine w_aload_nR (x := 3) (n := 4) rfl rfl rfl ?_
  refine w_getI (n := 7) rfl rfl rfl rfl ?_
  refine w_imul (n := 8) rfl rfl ?_
  refine w_sipush (v := 12345) (n := 11) rfl rfl rfl ?_
  refine w_iadd (n := 12) rfl rfl ?_
  refine w_putI (n := 15) rfl rfl rfl rfl rfl ?_
  refine w_aload_nR (x := 3) (n := 16) rfl rfl rfl ?_
  refine w_getI (n := 19) rfl rfl rfl rfl ?_
  refine w_bipush (v := 16) (n := 21) rfl rfl rfl ?_
  refine w_iushr (n := 22) rfl rfl ?_
  refine w_sipush (v := 32767) (n := 25) rfl rfl rfl ?_
  refine w_iand (n := 26) rfl rfl ?_
  exact w_ireturn rfl rfl H
theorem e_Sound_ready {P : Int32 → mm_I → Prop} {I : mm_I}
  (H : ((if (I 3 2) = 1 then (1 : Int32) else (if (I 3 2) = 2 then ((if (I 5 0) = (I 5 1) then (1 : Int32) else 0) : Int32) else 0)) = 0 ∨ (if (I 3 2) = 1 then (1 : Int32) else (if (I 3 2) = 2 then ((if (I 5 0) = (I 5 1) then (1 : Int32) else 0) : Int32) else 0)) = 1) ∧ P (if (I 3 2) = 1 then (1 : Int32) else (if (I 3 2) = 2 then ((if (I 5 0) = (I 5 1) then (1 : Int32) else 0) : Int32) else 0)) I) : mm_Mi 54 [.ref 3] I P := by
  refine mm_Mi_of ?_
  show mm_W 54 0 [some (.ref 3)] [] I (mm_qi 54 P)
  refine w_aload_nR (x := 3) (n := 1) rfl rfl rfl ?_
  refine w_getI (n := 4) rfl rfl rfl rfl ?_
  refine w_iconst (v := 1) (n := 5) rfl rfl rfl ?_
  have J5 : ∀ (w5_0 : Int32), w5_0 = (if (I 3 2) = 1 then (1 : Int32) else (if (I 3 2) = 2 then ((if (I 5 0) = (I 5 1) then (1 : Int32) else 0) : Int32) else 0)) → mm_W 54 36 [some (.ref 3)] [.int w5_0] I (mm_qi 54 P) := by
    intro w5_0 e5_0
    subst e5_0
    exact w_zreturn rfl rfl H
  refine w_icmp_eq (n := 8) rfl rfl ⟨fun hc => ?_, fun hc => ?_⟩
  · refine w_iconst (v := 1) (n := 32) rfl rfl rfl ?_
    refine w_goto rfl ?_
    refine w_drp mm_Qf_i (J5 _ ?_) (lb_s lb_e)
    · exact (if_pos hc).symm
  · refine w_aload_nR (x := 3) (n := 9) rfl rfl rfl ?_
    refine w_getI (n := 12) rfl rfl rfl rfl ?_
    refine w_iconst (v := 2) (n := 13) rfl rfl rfl ?_
    have J13 : ∀ (w13_0 : Int32), w13_0 = (if (I 3 2) = 2 then ((if (I 5 0) = (I 5 1) then (1 : Int32) else 0) : Int32) else 0) → mm_W 54 36 [some (.ref 3)] [.int w13_0] I (mm_qi 54 P) := by
      intro w13_0 e13_0
      subst e13_0
      refine w_drp mm_Qf_i (J5 _ ?_) (lb_s lb_e)
      · exact (if_neg hc).symm
    refine w_icmp_ne (n := 16) rfl rfl ⟨fun hc => ?_, fun hc => ?_⟩
    · refine w_iconst (v := 0) (n := 36) rfl rfl rfl ?_
      refine w_drp mm_Qf_i (J13 _ ?_) (lb_s lb_e)
      · exact (if_neg hc).symm
    · refine w_aload_nR (x := 3) (n := 17) rfl rfl rfl ?_
      refine w_getR (b := 5) (n := 20) rfl rfl rfl rfl rfl ?_
      refine w_iconst (v := 0) (n := 21) rfl rfl rfl ?_
      refine w_iaload (N := 2) (j := 0) (n := 22) rfl rfl rfl rfl (by decide) rfl ⟨mm_vpc (by decide), ?_⟩
      refine w_aload_nR (x := 3) (n := 23) rfl rfl rfl ?_
      refine w_getR (b := 5) (n := 26) rfl rfl rfl rfl rfl ?_
      refine w_iconst (v := 1) (n := 27) rfl rfl rfl ?_
      refine w_iaload (N := 2) (j := 1) (n := 28) rfl rfl rfl rfl (by decide) rfl ⟨mm_vpc (by decide), ?_⟩
      have J28 : ∀ (w28_0 : Int32), w28_0 = (if (I 5 0) = (I 5 1) then (1 : Int32) else 0) → mm_W 54 36 [some (.ref 3)] [.int w28_0] I (mm_qi 54 P) := by
        intro w28_0 e28_0
        subst e28_0
        refine w_drp mm_Qf_i (J13 _ ?_) (lb_s lb_e)
        · exact (if_pos hc).symm
      refine w_icmp_ne (n := 31) rfl rfl ⟨fun hc => ?_, fun hc => ?_⟩
      · refine w_iconst (v := 0) (n := 36) rfl rfl rfl ?_
        refine w_drp mm_Qf_i (J28 _ ?_) (lb_s lb_e)
        · exact (if_neg hc).symm
      · refine w_iconst (v := 1) (n := 32) rfl rfl rfl ?_
        refine w_goto rfl ?_
        refine w_drp mm_Qf_i (J28 _ ?_) (lb_s lb_e)
        · exact (if_pos hc).symm
theorem e_Sound_frames {P : Int32 → mm_I → Prop} {I : mm_I} (x1 : Int32)
  (H : mm_Mi 54 [.ref 3] I (fun r1 I1 =>  -- Sound.ready
    (r1 = 0 →
      P 0 I1) ∧
    (¬ r1 = 0 →
      (x1 ≤ 0 →
        P 0 I1) ∧
      (0 < x1 →
        ¬ x1 = 0 ∧
        P ((((I1 5 0) + x1) - 1) / x1) I1)))) : mm_Mi 55 [.ref 3, .int x1] I P := by
  refine mm_Mi_of ?_
  show mm_W 55 0 [some (.ref 3), some (.int x1)] [] I (mm_qi 55 P)
  refine w_aload_nR (x := 3) (n := 1) rfl rfl rfl ?_
  refine w_calli (as := [.ref 3]) (rest := []) (n := 4) rfl rfl rfl rfl ?_
  obtain ⟨r1, I1, hI1, H⟩ := H
  refine ⟨r1, I1, hI1, ?_⟩
  refine w_if_eq (n := 7) rfl rfl ⟨fun hc => ?_, fun hc => ?_⟩
  · replace H := H.1 hc
    refine w_iconst (v := 0) (n := 27) rfl rfl rfl ?_
    exact w_ireturn rfl rfl H
  · replace H := H.2 hc
    refine w_iload_n (n := 8) rfl rfl rfl ?_
    refine w_if_le (n := 11) rfl rfl ⟨fun hc => ?_, fun hc => ?_⟩
    · replace H := H.1 hc
      refine w_iconst (v := 0) (n := 27) rfl rfl rfl ?_
      exact w_ireturn rfl rfl H
    · replace H := H.2 hc
      refine w_aload_nR (x := 3) (n := 12) rfl rfl rfl ?_
      refine w_getR (b := 5) (n := 15) rfl rfl rfl rfl rfl ?_
      refine w_iconst (v := 0) (n := 16) rfl rfl rfl ?_
      refine w_iaload (N := 2) (j := 0) (n := 17) rfl rfl rfl rfl (by decide) rfl ⟨mm_vpc (by decide), ?_⟩
      refine w_iload_n (n := 18) rfl rfl rfl ?_
      refine w_iadd (n := 19) rfl rfl ?_
      refine w_iconst (v := 1) (n := 20) rfl rfl rfl ?_
      refine w_isub (n := 21) rfl rfl ?_
      refine w_iload_n (n := 22) rfl rfl rfl ?_
      refine w_idiv (n := 23) rfl rfl ⟨H.1, ?_⟩
      replace H := H.2
      refine w_goto rfl ?_
      exact w_ireturn rfl rfl H
theorem e_Store_has {P : Int32 → mm_I → Prop} {I : mm_I} (x1 : Int32)
  (H : ((if x1 < 0 then (0 : Int32) else (if (I 47 1) ≤ x1 then (0 : Int32) else (if 4000 ≤ x1 then (0 : Int32) else 1))) = 0 ∨ (if x1 < 0 then (0 : Int32) else (if (I 47 1) ≤ x1 then (0 : Int32) else (if 4000 ≤ x1 then (0 : Int32) else 1))) = 1) ∧ P (if x1 < 0 then (0 : Int32) else (if (I 47 1) ≤ x1 then (0 : Int32) else (if 4000 ≤ x1 then (0 : Int32) else 1))) I) : mm_Mi 57 [.ref 47, .int x1] I P := by
  refine mm_Mi_of ?_
  show mm_W 57 0 [some (.ref 47), some (.int x1)] [] I (mm_qi 57 P)
  refine w_iload_n (n := 1) rfl rfl rfl ?_
  have J1 : ∀ (w1_0 : Int32), w1_0 = (if x1 < 0 then (0 : Int32) else (if (I 47 1) ≤ x1 then (0 : Int32) else (if 4000 ≤ x1 then (0 : Int32) else 1))) → mm_W 57 26 [some (.ref 47), some (.int x1)] [.int w1_0] I (mm_qi 57 P) := by
    intro w1_0 e1_0
    subst e1_0
    exact w_zreturn rfl rfl H
  refine w_if_lt (n := 4) rfl rfl ⟨fun hc => ?_, fun hc => ?_⟩
  · refine w_iconst (v := 0) (n := 26) rfl rfl rfl ?_
    refine w_drp mm_Qf_i (J1 _ ?_) (lb_s (lb_s lb_e))
    · exact (if_pos hc).symm
  · refine w_iload_n (n := 5) rfl rfl rfl ?_
    refine w_aload_nR (x := 47) (n := 6) rfl rfl rfl ?_
    refine w_getI (n := 9) rfl rfl rfl rfl ?_
    have J9 : ∀ (w9_0 : Int32), w9_0 = (if (I 47 1) ≤ x1 then (0 : Int32) else (if 4000 ≤ x1 then (0 : Int32) else 1)) → mm_W 57 26 [some (.ref 47), some (.int x1)] [.int w9_0] I (mm_qi 57 P) := by
      intro w9_0 e9_0
      subst e9_0
      refine w_drp mm_Qf_i (J1 _ ?_) (lb_s (lb_s lb_e))
      · exact (if_neg (fa_nlt hc)).symm
    refine w_icmp_ge (n := 12) rfl rfl ⟨fun hc => ?_, fun hc => ?_⟩
    · refine w_iconst (v := 0) (n := 26) rfl rfl rfl ?_
      refine w_drp mm_Qf_i (J9 _ ?_) (lb_s (lb_s lb_e))
      · exact (if_pos hc).symm
    · refine w_iload_n (n := 13) rfl rfl rfl ?_
      refine w_aload_nR (x := 47) (n := 14) rfl rfl rfl ?_
      refine w_getR (b := 48) (n := 17) rfl rfl rfl rfl rfl ?_
      refine w_alen (N := 4000) (v := 4000) (n := 18) rfl rfl rfl rfl rfl ?_
      have J18 : ∀ (w18_0 : Int32), w18_0 = (if 4000 ≤ x1 then (0 : Int32) else 1) → mm_W 57 26 [some (.ref 47), some (.int x1)] [.int w18_0] I (mm_qi 57 P) := by
        intro w18_0 e18_0
        subst e18_0
        refine w_drp mm_Qf_i (J9 _ ?_) (lb_s (lb_s lb_e))
        · exact (if_neg (fa_nle hc)).symm
      refine w_icmp_ge (n := 21) rfl rfl ⟨fun hc => ?_, fun hc => ?_⟩
      · refine w_iconst (v := 0) (n := 26) rfl rfl rfl ?_
        refine w_drp mm_Qf_i (J18 _ ?_) (lb_s (lb_s lb_e))
        · exact (if_pos hc).symm
      · refine w_iconst (v := 1) (n := 22) rfl rfl rfl ?_
        refine w_goto rfl ?_
        refine w_drp mm_Qf_i (J18 _ ?_) (lb_s (lb_s lb_e))
        · exact (if_neg (fa_nle hc)).symm
theorem e_Store_putByte {P : mm_I → Prop} {I : mm_I} (x1 : Int32)
  (H : (4000 ≤ (I 47 1) →
      P I) ∧
    ((I 47 1) < 4000 →
      vp_in (I 47 1) 4000 ∧
      P (mm_up (mm_up I 48 ((I 47 1).toNatClampNeg) (x1 &&& 255)) 47 1 ((I 47 1) + 1)))) : mm_Mv 58 [.ref 47, .int x1] I P := by
  refine mm_Mv_of ?_
  show mm_W 58 0 [some (.ref 47), some (.int x1)] [] I (mm_qv 58 P)
  refine w_aload_nR (x := 47) (n := 1) rfl rfl rfl ?_
  refine w_getI (n := 4) rfl rfl rfl rfl ?_
  refine w_aload_nR (x := 47) (n := 5) rfl rfl rfl ?_
  refine w_getR (b := 48) (n := 8) rfl rfl rfl rfl rfl ?_
  refine w_alen (N := 4000) (v := 4000) (n := 9) rfl rfl rfl rfl rfl ?_
  refine w_icmp_ge (n := 12) rfl rfl ⟨fun hc => ?_, fun hc => ?_⟩
  · replace H := H.1 hc
    exact w_vreturn rfl rfl H
  · replace H := H.2 hc
    refine w_aload_nR (x := 47) (n := 13) rfl rfl rfl ?_
    refine w_getR (b := 48) (n := 16) rfl rfl rfl rfl rfl ?_
    refine w_aload_nR (x := 47) (n := 17) rfl rfl rfl ?_
    refine w_getI (n := 20) rfl rfl rfl rfl ?_
    refine w_iload_n (n := 21) rfl rfl rfl ?_
    refine w_sipush (v := 255) (n := 24) rfl rfl rfl ?_
    refine w_iand (n := 25) rfl rfl ?_
    refine w_iastore (N := 4000) (j := (I 47 1).toNatClampNeg) (n := 26) rfl rfl rfl rfl rfl ⟨H.1, ?_⟩
    replace H := H.2
    refine w_aload_nR (x := 47) (n := 27) rfl rfl rfl ?_
    refine w_dup (n := 28) rfl rfl rfl ?_
    refine w_getI (n := 31) rfl rfl rfl rfl ?_
    refine w_iconst (v := 1) (n := 32) rfl rfl rfl ?_
    refine w_iadd (n := 33) rfl rfl ?_
    refine w_putI (n := 36) rfl rfl rfl rfl rfl ?_
    exact w_vreturn rfl rfl H
theorem e_Store_putBits {P : mm_I → Prop} {I : mm_I} (x1 : Int32) (x2 : Int32)
  (H : mm_W 59 4 [some (.ref 47), some (.int x1), none, some (.int (x2 - 1))] [] I (mm_qv 59 P)) : mm_Mv 59 [.ref 47, .int x1, .int x2] I P := by
  refine mm_Mv_of ?_
  show mm_W 59 0 [some (.ref 47), some (.int x1), some (.int x2), none] [] I (mm_qv 59 P)
  refine w_iload_n (n := 1) rfl rfl rfl ?_
  refine w_iconst (v := 1) (n := 2) rfl rfl rfl ?_
  refine w_isub (n := 3) rfl rfl ?_
  refine w_istore_n (ls' := [some (.ref 47), some (.int x1), some (.int x2), some (.int (x2 - 1))]) (n := 4) rfl rfl rfl rfl ?_
  exact w_drp mm_Qf_v H (lb_s (lb_s (lb_n (lb_s lb_e))))
theorem c_Store_putBits_4 {P : mm_I → Prop} {I : mm_I} (x1 : Int32) (x3 : Int32)
  (H : (x3 < 0 →
      P I) ∧
    (0 ≤ x3 →
      (¬ (I 47 2) = 0 →
        ((I 47 1) ≤ 0 →
          mm_W 59 4 [some (.ref 47), some (.int x1), none, some (.int (x3 + (-1)))] [] (mm_up I 47 2 ((I 47 2) - 1)) (mm_qv 59 P)) ∧
        (0 < (I 47 1) →
          vp_in ((I 47 1) - 1) 4000 ∧
          vp_in ((I 47 1) - 1) 4000 ∧
          mm_W 59 4 [some (.ref 47), some (.int x1), none, some (.int (x3 + (-1)))] [] (mm_up (mm_up I 47 2 ((I 47 2) - 1)) 48 (((I 47 1) - 1).toNatClampNeg) ((I 48 (((I 47 1) - 1).toNatClampNeg)) ||| (((x1 >>> (x3 &&& 31)) &&& 1) <<< (((I 47 2) - 1) &&& 31)))) (mm_qv 59 P))) ∧
      ((I 47 2) = 0 →
        mm_Mv 58 [.ref 47, .int 0] I (fun I17 =>  -- Store.putByte
        ((I17 47 1) ≤ 0 →
          mm_W 59 4 [some (.ref 47), some (.int x1), none, some (.int (x3 + (-1)))] [] (mm_up (mm_up I17 47 2 8) 47 2 (8 - 1)) (mm_qv 59 P)) ∧
        (0 < (I17 47 1) →
          vp_in ((I17 47 1) - 1) 4000 ∧
          vp_in ((I17 47 1) - 1) 4000 ∧
          mm_W 59 4 [some (.ref 47), some (.int x1), none, some (.int (x3 + (-1)))] [] (mm_up (mm_up (mm_up I17 47 2 8) 47 2 (8 - 1)) 48 (((I17 47 1) - 1).toNatClampNeg) ((I17 48 (((I17 47 1) - 1).toNatClampNeg)) ||| (((x1 >>> (x3 &&& 31)) &&& 1) <<< ((8 - 1) &&& 31)))) (mm_qv 59 P)))))) : mm_W 59 4 [some (.ref 47), some (.int x1), none, some (.int x3)] [] I (mm_qv 59 P) := by
  refine w_iload_n (n := 5) rfl rfl rfl ?_
  refine w_if_lt (n := 8) rfl rfl ⟨fun hc => ?_, fun hc => ?_⟩
  · replace H := H.1 hc
    exact w_vreturn rfl rfl H
  · replace H := H.2 hc
    refine w_aload_nR (x := 47) (n := 9) rfl rfl rfl ?_
    refine w_getI (n := 12) rfl rfl rfl rfl ?_
    refine w_if_ne (n := 15) rfl rfl ⟨fun hc => ?_, fun hc => ?_⟩
    · replace H := H.1 hc
      refine w_aload_nR (x := 47) (n := 27) rfl rfl rfl ?_
      refine w_dup (n := 28) rfl rfl rfl ?_
      refine w_getI (n := 31) rfl rfl rfl rfl ?_
      refine w_iconst (v := 1) (n := 32) rfl rfl rfl ?_
      refine w_isub (n := 33) rfl rfl ?_
      refine w_putI (n := 36) rfl rfl rfl rfl rfl ?_
      refine w_aload_nR (x := 47) (n := 37) rfl rfl rfl ?_
      refine w_getI (n := 40) rfl rfl rfl rfl ?_
      refine w_if_le (n := 43) rfl rfl ⟨fun hc => ?_, fun hc => ?_⟩
      · replace H := H.1 hc
        refine w_iinc (y := x3 + (-1)) (ls' := [some (.ref 47), some (.int x1), none, some (.int (x3 + (-1)))]) (n := 70) rfl rfl rfl rfl rfl ?_
        refine w_goto rfl ?_
        exact w_drp mm_Qf_v H (lb_s (lb_s (lb_n (lb_s lb_e))))
      · replace H := H.2 hc
        refine w_aload_nR (x := 47) (n := 44) rfl rfl rfl ?_
        refine w_getR (b := 48) (n := 47) rfl rfl rfl rfl rfl ?_
        refine w_aload_nR (x := 47) (n := 48) rfl rfl rfl ?_
        refine w_getI (n := 51) rfl rfl rfl rfl ?_
        refine w_iconst (v := 1) (n := 52) rfl rfl rfl ?_
        refine w_isub (n := 53) rfl rfl ?_
        refine w_dup2 (n := 54) rfl rfl rfl ?_
        refine w_iaload (N := 4000) (j := ((I 47 1) - 1).toNatClampNeg) (n := 55) rfl rfl rfl rfl rfl rfl ⟨H.1, ?_⟩
        replace H := H.2
        refine w_iload_n (n := 56) rfl rfl rfl ?_
        refine w_iload_n (n := 57) rfl rfl rfl ?_
        refine w_ishr (n := 58) rfl rfl ?_
        refine w_iconst (v := 1) (n := 59) rfl rfl rfl ?_
        refine w_iand (n := 60) rfl rfl ?_
        refine w_aload_nR (x := 47) (n := 61) rfl rfl rfl ?_
        refine w_getI (n := 64) rfl rfl rfl rfl ?_
        refine w_ishl (n := 65) rfl rfl ?_
        refine w_ior (n := 66) rfl rfl ?_
        refine w_iastore (N := 4000) (j := ((I 47 1) - 1).toNatClampNeg) (n := 67) rfl rfl rfl rfl rfl ⟨H.1, ?_⟩
        replace H := H.2
        refine w_iinc (y := x3 + (-1)) (ls' := [some (.ref 47), some (.int x1), none, some (.int (x3 + (-1)))]) (n := 70) rfl rfl rfl rfl rfl ?_
        refine w_goto rfl ?_
        exact w_drp mm_Qf_v H (lb_s (lb_s (lb_n (lb_s lb_e))))
    · replace H := H.2 hc
      refine w_aload_nR (x := 47) (n := 16) rfl rfl rfl ?_
      refine w_iconst (v := 0) (n := 17) rfl rfl rfl ?_
      refine w_callv (as := [.ref 47, .int 0]) (rest := []) (n := 20) rfl rfl rfl rfl ?_
      obtain ⟨I17, hI17, H⟩ := H
      refine ⟨I17, hI17, ?_⟩
      refine w_aload_nR (x := 47) (n := 21) rfl rfl rfl ?_
      refine w_bipush (v := 8) (n := 23) rfl rfl rfl ?_
      refine w_putI (n := 26) rfl rfl rfl rfl rfl ?_
      refine w_aload_nR (x := 47) (n := 27) rfl rfl rfl ?_
      refine w_dup (n := 28) rfl rfl rfl ?_
      refine w_getI (n := 31) rfl rfl rfl rfl ?_
      refine w_iconst (v := 1) (n := 32) rfl rfl rfl ?_
      refine w_isub (n := 33) rfl rfl ?_
      refine w_putI (n := 36) rfl rfl rfl rfl rfl ?_
      refine w_aload_nR (x := 47) (n := 37) rfl rfl rfl ?_
      refine w_getI (n := 40) rfl rfl rfl rfl ?_
      refine w_if_le (n := 43) rfl rfl ⟨fun hc => ?_, fun hc => ?_⟩
      · replace H := H.1 hc
        refine w_iinc (y := x3 + (-1)) (ls' := [some (.ref 47), some (.int x1), none, some (.int (x3 + (-1)))]) (n := 70) rfl rfl rfl rfl rfl ?_
        refine w_goto rfl ?_
        exact w_drp mm_Qf_v H (lb_s (lb_s (lb_n (lb_s lb_e))))
      · replace H := H.2 hc
        refine w_aload_nR (x := 47) (n := 44) rfl rfl rfl ?_
        refine w_getR (b := 48) (n := 47) rfl rfl rfl rfl rfl ?_
        refine w_aload_nR (x := 47) (n := 48) rfl rfl rfl ?_
        refine w_getI (n := 51) rfl rfl rfl rfl ?_
        refine w_iconst (v := 1) (n := 52) rfl rfl rfl ?_
        refine w_isub (n := 53) rfl rfl ?_
        refine w_dup2 (n := 54) rfl rfl rfl ?_
        refine w_iaload (N := 4000) (j := ((I17 47 1) - 1).toNatClampNeg) (n := 55) rfl rfl rfl rfl rfl rfl ⟨H.1, ?_⟩
        replace H := H.2
        refine w_iload_n (n := 56) rfl rfl rfl ?_
        refine w_iload_n (n := 57) rfl rfl rfl ?_
        refine w_ishr (n := 58) rfl rfl ?_
        refine w_iconst (v := 1) (n := 59) rfl rfl rfl ?_
        refine w_iand (n := 60) rfl rfl ?_
        refine w_aload_nR (x := 47) (n := 61) rfl rfl rfl ?_
        refine w_getI (n := 64) rfl rfl rfl rfl ?_
        refine w_ishl (n := 65) rfl rfl ?_
        refine w_ior (n := 66) rfl rfl ?_
        refine w_iastore (N := 4000) (j := ((I17 47 1) - 1).toNatClampNeg) (n := 67) rfl rfl rfl rfl rfl ⟨H.1, ?_⟩
        replace H := H.2
        refine w_iinc (y := x3 + (-1)) (ls' := [some (.ref 47), some (.int x1), none, some (.int (x3 + (-1)))]) (n := 70) rfl rfl rfl rfl rfl ?_
        refine w_goto rfl ?_
        exact w_drp mm_Qf_v H (lb_s (lb_s (lb_n (lb_s lb_e))))
theorem e_Store_endBits {P : mm_I → Prop} {I : mm_I}
  (H : P (mm_up I 47 2 0)) : mm_Mv 60 [.ref 47] I P := by
  refine mm_Mv_of ?_
  show mm_W 60 0 [some (.ref 47)] [] I (mm_qv 60 P)
  refine w_aload_nR (x := 47) (n := 1) rfl rfl rfl ?_
  refine w_iconst (v := 0) (n := 2) rfl rfl rfl ?_
  refine w_putI (n := 5) rfl rfl rfl rfl rfl ?_
  exact w_vreturn rfl rfl H
theorem e_Store_putCheck {P : mm_I → Prop} {I : mm_I} (x1 : Int32)
  (H : mm_Mi 62 [.ref 47, .int x1, .int (I 47 1)] I (fun r6 I6 =>  -- Store.checkOf
    mm_Mv 58 [.ref 47, .int (r6 >>> (8 &&& 31))] I6 (fun I15 =>  -- Store.putByte
    mm_Mv 58 [.ref 47, .int r6] I15 (fun I20 =>  -- Store.putByte
    P I20)))) : mm_Mv 61 [.ref 47, .int x1] I P := by
  refine mm_Mv_of ?_
  show mm_W 61 0 [some (.ref 47), some (.int x1), none] [] I (mm_qv 61 P)
  refine w_aload_nR (x := 47) (n := 1) rfl rfl rfl ?_
  refine w_iload_n (n := 2) rfl rfl rfl ?_
  refine w_aload_nR (x := 47) (n := 3) rfl rfl rfl ?_
  refine w_getI (n := 6) rfl rfl rfl rfl ?_
  refine w_calli (as := [.ref 47, .int x1, .int (I 47 1)]) (rest := []) (n := 9) rfl rfl rfl rfl ?_
  obtain ⟨r6, I6, hI6, H⟩ := H
  refine ⟨r6, I6, hI6, ?_⟩
  refine w_istore_n (ls' := [some (.ref 47), some (.int x1), some (.int r6)]) (n := 10) rfl rfl rfl rfl ?_
  refine w_aload_nR (x := 47) (n := 11) rfl rfl rfl ?_
  refine w_iload_n (n := 12) rfl rfl rfl ?_
  refine w_bipush (v := 8) (n := 14) rfl rfl rfl ?_
  refine w_ishr (n := 15) rfl rfl ?_
  refine w_callv (as := [.ref 47, .int (r6 >>> (8 &&& 31))]) (rest := []) (n := 18) rfl rfl rfl rfl ?_
  obtain ⟨I15, hI15, H⟩ := H
  refine ⟨I15, hI15, ?_⟩
  refine w_aload_nR (x := 47) (n := 19) rfl rfl rfl ?_
  refine w_iload_n (n := 20) rfl rfl rfl ?_
  refine w_callv (as := [.ref 47, .int r6]) (rest := []) (n := 23) rfl rfl rfl rfl ?_
  obtain ⟨I20, hI20, H⟩ := H
  refine ⟨I20, hI20, ?_⟩
  exact w_vreturn rfl rfl H
theorem e_Store_checkOf {P : Int32 → mm_I → Prop} {I : mm_I} (x1 : Int32) (x2 : Int32)
  (H : mm_W 62 6 [some (.ref 47), none, some (.int x2), some (.int 65535), some (.int x1), none] [] I (mm_qi 62 P)) : mm_Mi 62 [.ref 47, .int x1, .int x2] I P := by
  refine mm_Mi_of ?_
  show mm_W 62 0 [some (.ref 47), some (.int x1), some (.int x2), none, none, none] [] I (mm_qi 62 P)
  refine w_ldc (v := 65535) (n := 2) rfl rfl rfl ?_
  refine w_istore_n (ls' := [some (.ref 47), some (.int x1), some (.int x2), some (.int 65535), none, none]) (n := 3) rfl rfl rfl rfl ?_
  refine w_iload_n (n := 4) rfl rfl rfl ?_
  refine w_istore (ls' := [some (.ref 47), some (.int x1), some (.int x2), some (.int 65535), some (.int x1), none]) (n := 6) rfl rfl rfl rfl ?_
  exact w_drp mm_Qf_i H (lb_s (lb_n (lb_s (lb_s (lb_s (lb_n lb_e))))))
theorem c_Store_checkOf_6 {P : Int32 → mm_I → Prop} {I : mm_I} (x2 : Int32) (x3 : Int32) (x4 : Int32)
  (H : (x2 ≤ x4 →
      P x3 I) ∧
    (x4 < x2 →
      mm_Mi 57 [.ref 47, .int x4] I (fun r15 I15 =>  -- Store.has
      (r15 = 0 →
        P x3 I15) ∧
      (¬ r15 = 0 →
        vp_in x4 4000 ∧
        mm_W 62 37 [some (.ref 47), none, some (.int x2), some (.int (x3 ^^^ ((I15 48 x4.toNatClampNeg) <<< (8 &&& 31)))), some (.int x4), some (.int 0)] [] I15 (mm_qi 62 P))))) : mm_W 62 6 [some (.ref 47), none, some (.int x2), some (.int x3), some (.int x4), none] [] I (mm_qi 62 P) := by
  refine w_iload (n := 8) rfl rfl rfl ?_
  refine w_iload_n (n := 9) rfl rfl rfl ?_
  refine w_icmp_ge (n := 12) rfl rfl ⟨fun hc => ?_, fun hc => ?_⟩
  · replace H := H.1 hc
    refine w_iload_n (n := 80) rfl rfl rfl ?_
    exact w_ireturn rfl rfl H
  · replace H := H.2 hc
    refine w_aload_nR (x := 47) (n := 13) rfl rfl rfl ?_
    refine w_iload (n := 15) rfl rfl rfl ?_
    refine w_calli (as := [.ref 47, .int x4]) (rest := []) (n := 18) rfl rfl rfl rfl ?_
    obtain ⟨r15, I15, hI15, H⟩ := H
    refine ⟨r15, I15, hI15, ?_⟩
    refine w_if_eq (n := 21) rfl rfl ⟨fun hc => ?_, fun hc => ?_⟩
    · replace H := H.1 hc
      refine w_iload_n (n := 80) rfl rfl rfl ?_
      exact w_ireturn rfl rfl H
    · replace H := H.2 hc
      refine w_iload_n (n := 22) rfl rfl rfl ?_
      refine w_aload_nR (x := 47) (n := 23) rfl rfl rfl ?_
      refine w_getR (b := 48) (n := 26) rfl rfl rfl rfl rfl ?_
      refine w_iload (n := 28) rfl rfl rfl ?_
      refine w_iaload (N := 4000) (j := x4.toNatClampNeg) (n := 29) rfl rfl rfl rfl rfl rfl ⟨H.1, ?_⟩
      replace H := H.2
      refine w_bipush (v := 8) (n := 31) rfl rfl rfl ?_
      refine w_ishl (n := 32) rfl rfl ?_
      refine w_ixor (n := 33) rfl rfl ?_
      refine w_istore_n (ls' := [some (.ref 47), none, some (.int x2), some (.int (x3 ^^^ ((I15 48 x4.toNatClampNeg) <<< (8 &&& 31)))), some (.int x4), none]) (n := 34) rfl rfl rfl rfl ?_
      refine w_iconst (v := 0) (n := 35) rfl rfl rfl ?_
      refine w_istore (ls' := [some (.ref 47), none, some (.int x2), some (.int (x3 ^^^ ((I15 48 x4.toNatClampNeg) <<< (8 &&& 31)))), some (.int x4), some (.int 0)]) (n := 37) rfl rfl rfl rfl ?_
      exact w_drp mm_Qf_i H (lb_s (lb_n (lb_s (lb_s (lb_s (lb_s lb_e))))))
theorem c_Store_checkOf_37 {P : Int32 → mm_I → Prop} {I : mm_I} (x2 : Int32) (x3 : Int32) (x4 : Int32) (x5 : Int32)
  (H : (8 ≤ x5 →
      mm_W 62 6 [some (.ref 47), none, some (.int x2), some (.int x3), some (.int (x4 + 1)), none] [] I (mm_qi 62 P)) ∧
    (x5 < 8 →
      mm_W 62 37 [some (.ref 47), none, some (.int x2), some (.int (if x3 < 32768 then (x3 <<< (1 &&& 31) : Int32) else ((x3 <<< (1 &&& 31)) ^^^ 4129) &&& 65535)), some (.int x4), some (.int (x5 + 1))] [] I (mm_qi 62 P))) : mm_W 62 37 [some (.ref 47), none, some (.int x2), some (.int x3), some (.int x4), some (.int x5)] [] I (mm_qi 62 P) := by
  refine w_iload (n := 39) rfl rfl rfl ?_
  refine w_bipush (v := 8) (n := 41) rfl rfl rfl ?_
  refine w_icmp_ge (n := 44) rfl rfl ⟨fun hc => ?_, fun hc => ?_⟩
  · replace H := H.1 hc
    refine w_iinc (y := x4 + 1) (ls' := [some (.ref 47), none, some (.int x2), some (.int x3), some (.int (x4 + 1)), some (.int x5)]) (n := 76) rfl rfl rfl rfl rfl ?_
    refine w_goto rfl ?_
    exact w_drp mm_Qf_i H (lb_s (lb_n (lb_s (lb_s (lb_s (lb_n lb_e))))))
  · replace H := H.2 hc
    refine w_iload_n (n := 45) rfl rfl rfl ?_
    refine w_ldc (v := 32768) (n := 47) rfl rfl rfl ?_
    have J47 : ∀ (w47_0 : Int32), w47_0 = (if x3 < 32768 then (x3 <<< (1 &&& 31) : Int32) else ((x3 <<< (1 &&& 31)) ^^^ 4129) &&& 65535) → mm_W 62 66 [some (.ref 47), none, some (.int x2), some (.int x3), some (.int x4), some (.int x5)] [.int w47_0] I (mm_qi 62 P) := by
      intro w47_0 e47_0
      subst e47_0
      refine w_istore_n (ls' := [some (.ref 47), none, some (.int x2), some (.int (if x3 < 32768 then (x3 <<< (1 &&& 31) : Int32) else ((x3 <<< (1 &&& 31)) ^^^ 4129) &&& 65535)), some (.int x4), some (.int x5)]) (n := 67) rfl rfl rfl rfl ?_
      refine w_iinc (y := x5 + 1) (ls' := [some (.ref 47), none, some (.int x2), some (.int (if x3 < 32768 then (x3 <<< (1 &&& 31) : Int32) else ((x3 <<< (1 &&& 31)) ^^^ 4129) &&& 65535)), some (.int x4), some (.int (x5 + 1))]) (n := 70) rfl rfl rfl rfl rfl ?_
      refine w_goto rfl ?_
      exact w_drp mm_Qf_i H (lb_s (lb_n (lb_s (lb_s (lb_s (lb_s lb_e))))))
    refine w_icmp_lt (n := 50) rfl rfl ⟨fun hc => ?_, fun hc => ?_⟩
    · refine w_iload_n (n := 64) rfl rfl rfl ?_
      refine w_iconst (v := 1) (n := 65) rfl rfl rfl ?_
      refine w_ishl (n := 66) rfl rfl ?_
      refine w_drp mm_Qf_i (J47 _ ?_) (lb_s (lb_n (lb_s (lb_s (lb_s (lb_s lb_e))))))
      · exact (if_pos hc).symm
    · refine w_iload_n (n := 51) rfl rfl rfl ?_
      refine w_iconst (v := 1) (n := 52) rfl rfl rfl ?_
      refine w_ishl (n := 53) rfl rfl ?_
      refine w_sipush (v := 4129) (n := 56) rfl rfl rfl ?_
      refine w_ixor (n := 57) rfl rfl ?_
      refine w_ldc (v := 65535) (n := 59) rfl rfl rfl ?_
      refine w_iand (n := 60) rfl rfl ?_
      refine w_goto rfl ?_
      refine w_drp mm_Qf_i (J47 _ ?_) (lb_s (lb_n (lb_s (lb_s (lb_s (lb_s lb_e))))))
      · exact (if_neg (fa_nlt hc)).symm
theorem e_Store_hasCheck {P : Int32 → mm_I → Prop} {I : mm_I} (x1 : Int32) (x2 : Int32)
  (H : mm_Mi 57 [.ref 47, .int x2] I (fun r2 I2 =>  -- Store.has
    (r2 = 0 →
      P 0 I2) ∧
    (¬ r2 = 0 →
      mm_Mi 57 [.ref 47, .int (x2 + 1)] I2 (fun r12 I12 =>  -- Store.has
      (r12 = 0 →
        P 0 I12) ∧
      (¬ r12 = 0 →
        mm_Mi 62 [.ref 47, .int x1, .int x2] I12 (fun r21 I21 =>  -- Store.checkOf
        vp_in x2 4000 ∧
        vp_in (x2 + 1) 4000 ∧
        ((if r21 = (((I21 48 x2.toNatClampNeg) * 256) + (I21 48 ((x2 + 1).toNatClampNeg))) then (1 : Int32) else 0) = 0 ∨ (if r21 = (((I21 48 x2.toNatClampNeg) * 256) + (I21 48 ((x2 + 1).toNatClampNeg))) then (1 : Int32) else 0) = 1) ∧ P (if r21 = (((I21 48 x2.toNatClampNeg) * 256) + (I21 48 ((x2 + 1).toNatClampNeg))) then (1 : Int32) else 0) I21)))))) : mm_Mi 63 [.ref 47, .int x1, .int x2] I P := by
  refine mm_Mi_of ?_
  show mm_W 63 0 [some (.ref 47), some (.int x1), some (.int x2)] [] I (mm_qi 63 P)
  refine w_aload_nR (x := 47) (n := 1) rfl rfl rfl ?_
  refine w_iload_n (n := 2) rfl rfl rfl ?_
  refine w_calli (as := [.ref 47, .int x2]) (rest := []) (n := 5) rfl rfl rfl rfl ?_
  obtain ⟨r2, I2, hI2, H⟩ := H
  refine ⟨r2, I2, hI2, ?_⟩
  refine w_if_eq (n := 8) rfl rfl ⟨fun hc => ?_, fun hc => ?_⟩
  · replace H := H.1 hc
    refine w_iconst (v := 0) (n := 51) rfl rfl rfl ?_
    exact w_zreturn rfl rfl ⟨by decide, H⟩
  · replace H := H.2 hc
    refine w_aload_nR (x := 47) (n := 9) rfl rfl rfl ?_
    refine w_iload_n (n := 10) rfl rfl rfl ?_
    refine w_iconst (v := 1) (n := 11) rfl rfl rfl ?_
    refine w_iadd (n := 12) rfl rfl ?_
    refine w_calli (as := [.ref 47, .int (x2 + 1)]) (rest := []) (n := 15) rfl rfl rfl rfl ?_
    obtain ⟨r12, I12, hI12, H⟩ := H
    refine ⟨r12, I12, hI12, ?_⟩
    refine w_if_eq (n := 18) rfl rfl ⟨fun hc => ?_, fun hc => ?_⟩
    · replace H := H.1 hc
      refine w_iconst (v := 0) (n := 51) rfl rfl rfl ?_
      exact w_zreturn rfl rfl ⟨by decide, H⟩
    · replace H := H.2 hc
      refine w_aload_nR (x := 47) (n := 19) rfl rfl rfl ?_
      refine w_iload_n (n := 20) rfl rfl rfl ?_
      refine w_iload_n (n := 21) rfl rfl rfl ?_
      refine w_calli (as := [.ref 47, .int x1, .int x2]) (rest := []) (n := 24) rfl rfl rfl rfl ?_
      obtain ⟨r21, I21, hI21, H⟩ := H
      refine ⟨r21, I21, hI21, ?_⟩
      refine w_aload_nR (x := 47) (n := 25) rfl rfl rfl ?_
      refine w_getR (b := 48) (n := 28) rfl rfl rfl rfl rfl ?_
      refine w_iload_n (n := 29) rfl rfl rfl ?_
      refine w_iaload (N := 4000) (j := x2.toNatClampNeg) (n := 30) rfl rfl rfl rfl rfl rfl ⟨H.1, ?_⟩
      replace H := H.2
      refine w_sipush (v := 256) (n := 33) rfl rfl rfl ?_
      refine w_imul (n := 34) rfl rfl ?_
      refine w_aload_nR (x := 47) (n := 35) rfl rfl rfl ?_
      refine w_getR (b := 48) (n := 38) rfl rfl rfl rfl rfl ?_
      refine w_iload_n (n := 39) rfl rfl rfl ?_
      refine w_iconst (v := 1) (n := 40) rfl rfl rfl ?_
      refine w_iadd (n := 41) rfl rfl ?_
      refine w_iaload (N := 4000) (j := (x2 + 1).toNatClampNeg) (n := 42) rfl rfl rfl rfl rfl rfl ⟨H.1, ?_⟩
      replace H := H.2
      refine w_iadd (n := 43) rfl rfl ?_
      have J43 : ∀ (w43_0 : Int32), w43_0 = (if r21 = (((I21 48 x2.toNatClampNeg) * 256) + (I21 48 ((x2 + 1).toNatClampNeg))) then (1 : Int32) else 0) → mm_W 63 51 [some (.ref 47), some (.int x1), some (.int x2)] [.int w43_0] I21 (mm_qi 63 P) := by
        intro w43_0 e43_0
        subst e43_0
        exact w_zreturn rfl rfl H
      refine w_icmp_ne (n := 46) rfl rfl ⟨fun hc => ?_, fun hc => ?_⟩
      · refine w_iconst (v := 0) (n := 51) rfl rfl rfl ?_
        refine w_drp mm_Qf_i (J43 _ ?_) (lb_s (lb_s (lb_s lb_e)))
        · exact (if_neg hc).symm
      · refine w_iconst (v := 1) (n := 47) rfl rfl rfl ?_
        refine w_goto rfl ?_
        refine w_drp mm_Qf_i (J43 _ ?_) (lb_s (lb_s (lb_s lb_e)))
        · exact (if_pos hc).symm
theorem e_Tape_push {P : mm_I → Prop} {I : mm_I} (x1 : Int64)
  (H : mm_W 65 3 [some (.ref 1), some (.long x1), none, some (.int 56)] [] I (mm_qv 65 P)) : mm_Mv 65 [.ref 1, .long x1] I P := by
  refine mm_Mv_of ?_
  show mm_W 65 0 [some (.ref 1), some (.long x1), none, none] [] I (mm_qv 65 P)
  refine w_bipush (v := 56) (n := 2) rfl rfl rfl ?_
  refine w_istore_n (ls' := [some (.ref 1), some (.long x1), none, some (.int 56)]) (n := 3) rfl rfl rfl rfl ?_
  exact w_drp mm_Qf_v H (lb_s (lb_s (lb_n (lb_s lb_e))))
theorem c_Tape_push_3 {P : mm_I → Prop} {I : mm_I} (x1 : Int64) (x3 : Int32)
  (H : (x3 < 0 →
      P I) ∧
    (0 ≤ x3 →
      (240 ≤ (I 1 1) →
        P I) ∧
      ((I 1 1) < 240 →
        vp_in (I 1 1) 240 ∧
        mm_W 65 3 [some (.ref 1), some (.long x1), none, some (.int (x3 + (-8)))] [] (mm_up (mm_up I 2 ((I 1 1).toNatClampNeg) ((((x1.toUInt64 >>> (x3.toInt64.toUInt64 &&& Int64.toUInt64 63)).toInt64).toInt32) &&& 255)) 1 1 ((I 1 1) + 1)) (mm_qv 65 P)))) : mm_W 65 3 [some (.ref 1), some (.long x1), none, some (.int x3)] [] I (mm_qv 65 P) := by
  refine w_iload_n (n := 4) rfl rfl rfl ?_
  refine w_if_lt (n := 7) rfl rfl ⟨fun hc => ?_, fun hc => ?_⟩
  · replace H := H.1 hc
    exact w_vreturn rfl rfl H
  · replace H := H.2 hc
    refine w_aload_nR (x := 1) (n := 8) rfl rfl rfl ?_
    refine w_getI (n := 11) rfl rfl rfl rfl ?_
    refine w_aload_nR (x := 1) (n := 12) rfl rfl rfl ?_
    refine w_getR (b := 2) (n := 15) rfl rfl rfl rfl rfl ?_
    refine w_alen (N := 240) (v := 240) (n := 16) rfl rfl rfl rfl rfl ?_
    refine w_icmp_ge (n := 19) rfl rfl ⟨fun hc => ?_, fun hc => ?_⟩
    · replace H := H.1 hc
      exact w_vreturn rfl rfl H
    · replace H := H.2 hc
      refine w_aload_nR (x := 1) (n := 20) rfl rfl rfl ?_
      refine w_getR (b := 2) (n := 23) rfl rfl rfl rfl rfl ?_
      refine w_aload_nR (x := 1) (n := 24) rfl rfl rfl ?_
      refine w_getI (n := 27) rfl rfl rfl rfl ?_
      refine w_lload_n (n := 28) rfl rfl rfl ?_
      refine w_iload_n (n := 29) rfl rfl rfl ?_
      refine w_lushr (n := 30) rfl rfl ?_
      refine w_l2i (n := 31) rfl rfl ?_
      refine w_sipush (v := 255) (n := 34) rfl rfl rfl ?_
      refine w_iand (n := 35) rfl rfl ?_
      refine w_iastore (N := 240) (j := (I 1 1).toNatClampNeg) (n := 36) rfl rfl rfl rfl rfl ⟨H.1, ?_⟩
      replace H := H.2
      refine w_aload_nR (x := 1) (n := 37) rfl rfl rfl ?_
      refine w_dup (n := 38) rfl rfl rfl ?_
      refine w_getI (n := 41) rfl rfl rfl rfl ?_
      refine w_iconst (v := 1) (n := 42) rfl rfl rfl ?_
      refine w_iadd (n := 43) rfl rfl ?_
      refine w_putI (n := 46) rfl rfl rfl rfl rfl ?_
      refine w_iinc (y := x3 + (-8)) (ls' := [some (.ref 1), some (.long x1), none, some (.int (x3 + (-8)))]) (n := 49) rfl rfl rfl rfl rfl ?_
      refine w_goto rfl ?_
      exact w_drp mm_Qf_v H (lb_s (lb_s (lb_n (lb_s lb_e))))
theorem e_Tape_signedAt {P : Int32 → mm_I → Prop} {I : mm_I} (x1 : Int32) (x2 : Int32)
  (H : (x1 < 0 →
      P 0 I) ∧
    (0 ≤ x1 →
      (x2 < 1 →
        P 0 I) ∧
      (1 ≤ x2 →
        (x1 ≤ (240 - x2) →
          vp_in x1 240 ∧
          mm_W 66 33 [some (.ref 1), some (.int x1), some (.int x2), some (.int ((I 2 x1.toNatClampNeg).toInt8.toInt32)), some (.int 1)] [] I (mm_qi 66 P)) ∧
        ((240 - x2) < x1 →
          P 0 I)))) : mm_Mi 66 [.ref 1, .int x1, .int x2] I P := by
  refine mm_Mi_of ?_
  show mm_W 66 0 [some (.ref 1), some (.int x1), some (.int x2), none, none] [] I (mm_qi 66 P)
  refine w_iload_n (n := 1) rfl rfl rfl ?_
  refine w_if_lt (n := 4) rfl rfl ⟨fun hc => ?_, fun hc => ?_⟩
  · replace H := H.1 hc
    refine w_iconst (v := 0) (n := 21) rfl rfl rfl ?_
    exact w_ireturn rfl rfl H
  · replace H := H.2 hc
    refine w_iload_n (n := 5) rfl rfl rfl ?_
    refine w_iconst (v := 1) (n := 6) rfl rfl rfl ?_
    refine w_icmp_lt (n := 9) rfl rfl ⟨fun hc => ?_, fun hc => ?_⟩
    · replace H := H.1 hc
      refine w_iconst (v := 0) (n := 21) rfl rfl rfl ?_
      exact w_ireturn rfl rfl H
    · replace H := H.2 hc
      refine w_iload_n (n := 10) rfl rfl rfl ?_
      refine w_aload_nR (x := 1) (n := 11) rfl rfl rfl ?_
      refine w_getR (b := 2) (n := 14) rfl rfl rfl rfl rfl ?_
      refine w_alen (N := 240) (v := 240) (n := 15) rfl rfl rfl rfl rfl ?_
      refine w_iload_n (n := 16) rfl rfl rfl ?_
      refine w_isub (n := 17) rfl rfl ?_
      refine w_icmp_le (n := 20) rfl rfl ⟨fun hc => ?_, fun hc => ?_⟩
      · replace H := H.1 hc
        refine w_aload_nR (x := 1) (n := 23) rfl rfl rfl ?_
        refine w_getR (b := 2) (n := 26) rfl rfl rfl rfl rfl ?_
        refine w_iload_n (n := 27) rfl rfl rfl ?_
        refine w_iaload (N := 240) (j := x1.toNatClampNeg) (n := 28) rfl rfl rfl rfl rfl rfl ⟨H.1, ?_⟩
        replace H := H.2
        refine w_i2b (n := 29) rfl rfl ?_
        refine w_istore_n (ls' := [some (.ref 1), some (.int x1), some (.int x2), some (.int ((I 2 x1.toNatClampNeg).toInt8.toInt32)), none]) (n := 30) rfl rfl rfl rfl ?_
        refine w_iconst (v := 1) (n := 31) rfl rfl rfl ?_
        refine w_istore (ls' := [some (.ref 1), some (.int x1), some (.int x2), some (.int ((I 2 x1.toNatClampNeg).toInt8.toInt32)), some (.int 1)]) (n := 33) rfl rfl rfl rfl ?_
        exact w_drp mm_Qf_i H (lb_s (lb_s (lb_s (lb_s (lb_s lb_e)))))
      · replace H := H.2 hc
        refine w_iconst (v := 0) (n := 21) rfl rfl rfl ?_
        exact w_ireturn rfl rfl H
theorem c_Tape_signedAt_33 {P : Int32 → mm_I → Prop} {I : mm_I} (x1 : Int32) (x2 : Int32) (x3 : Int32) (x4 : Int32)
  (H : (x2 ≤ x4 →
      P x3 I) ∧
    (x4 < x2 →
      vp_in (x1 + x4) 240 ∧
      mm_W 66 33 [some (.ref 1), some (.int x1), some (.int x2), some (.int ((x3 * 256) + (I 2 ((x1 + x4).toNatClampNeg)))), some (.int (x4 + 1))] [] I (mm_qi 66 P))) : mm_W 66 33 [some (.ref 1), some (.int x1), some (.int x2), some (.int x3), some (.int x4)] [] I (mm_qi 66 P) := by
  refine w_iload (n := 35) rfl rfl rfl ?_
  refine w_iload_n (n := 36) rfl rfl rfl ?_
  refine w_icmp_ge (n := 39) rfl rfl ⟨fun hc => ?_, fun hc => ?_⟩
  · replace H := H.1 hc
    refine w_iload_n (n := 62) rfl rfl rfl ?_
    exact w_ireturn rfl rfl H
  · replace H := H.2 hc
    refine w_iload_n (n := 40) rfl rfl rfl ?_
    refine w_sipush (v := 256) (n := 43) rfl rfl rfl ?_
    refine w_imul (n := 44) rfl rfl ?_
    refine w_aload_nR (x := 1) (n := 45) rfl rfl rfl ?_
    refine w_getR (b := 2) (n := 48) rfl rfl rfl rfl rfl ?_
    refine w_iload_n (n := 49) rfl rfl rfl ?_
    refine w_iload (n := 51) rfl rfl rfl ?_
    refine w_iadd (n := 52) rfl rfl ?_
    refine w_iaload (N := 240) (j := (x1 + x4).toNatClampNeg) (n := 53) rfl rfl rfl rfl rfl rfl ⟨H.1, ?_⟩
    replace H := H.2
    refine w_iadd (n := 54) rfl rfl ?_
    refine w_istore_n (ls' := [some (.ref 1), some (.int x1), some (.int x2), some (.int ((x3 * 256) + (I 2 ((x1 + x4).toNatClampNeg)))), some (.int x4)]) (n := 55) rfl rfl rfl rfl ?_
    refine w_iinc (y := x4 + 1) (ls' := [some (.ref 1), some (.int x1), some (.int x2), some (.int ((x3 * 256) + (I 2 ((x1 + x4).toNatClampNeg)))), some (.int (x4 + 1))]) (n := 58) rfl rfl rfl rfl rfl ?_
    refine w_goto rfl ?_
    exact w_drp mm_Qf_i H (lb_s (lb_s (lb_s (lb_s (lb_s lb_e)))))
theorem e_WS_feed {P : Int32 → mm_I → Prop} {I : mm_I} (x1 : Int64) (x3 : Int64) (x5 : Int64)
  (H : (((I 1 1) + 24) ≤ 240 →
      mm_Mv 65 [.ref 1, .long x1] I (fun I23 =>  -- Tape.push
      mm_Mv 65 [.ref 1, .long x3] I23 (fun I31 =>  -- Tape.push
      mm_Mv 65 [.ref 1, .long x5] I31 (fun I40 =>  -- Tape.push
      P (I40 1 1) I40)))) ∧
    (240 < ((I 1 1) + 24) →
      P (-1) I)) : mm_Mi 68 [.ref 0, .long x1, .long x3, .long x5] I P := by
  refine mm_Mi_of ?_
  show mm_W 68 0 [some (.ref 0), some (.long x1), none, some (.long x3), none, some (.long x5), none] [] I (mm_qi 68 P)
  refine w_aload_nR (x := 0) (n := 1) rfl rfl rfl ?_
  refine w_getR (b := 1) (n := 4) rfl rfl rfl rfl rfl ?_
  refine w_getI (n := 7) rfl rfl rfl rfl ?_
  refine w_bipush (v := 24) (n := 9) rfl rfl rfl ?_
  refine w_iadd (n := 10) rfl rfl ?_
  refine w_sipush (v := 240) (n := 13) rfl rfl rfl ?_
  refine w_icmp_le (n := 16) rfl rfl ⟨fun hc => ?_, fun hc => ?_⟩
  · replace H := H.1 hc
    refine w_aload_nR (x := 0) (n := 19) rfl rfl rfl ?_
    refine w_getR (b := 1) (n := 22) rfl rfl rfl rfl rfl ?_
    refine w_lload_n (n := 23) rfl rfl rfl ?_
    refine w_callv (as := [.ref 1, .long x1]) (rest := []) (n := 26) rfl rfl rfl rfl ?_
    obtain ⟨I23, hI23, H⟩ := H
    refine ⟨I23, hI23, ?_⟩
    refine w_aload_nR (x := 0) (n := 27) rfl rfl rfl ?_
    refine w_getR (b := 1) (n := 30) rfl rfl rfl rfl rfl ?_
    refine w_lload_n (n := 31) rfl rfl rfl ?_
    refine w_callv (as := [.ref 1, .long x3]) (rest := []) (n := 34) rfl rfl rfl rfl ?_
    obtain ⟨I31, hI31, H⟩ := H
    refine ⟨I31, hI31, ?_⟩
    refine w_aload_nR (x := 0) (n := 35) rfl rfl rfl ?_
    refine w_getR (b := 1) (n := 38) rfl rfl rfl rfl rfl ?_
    refine w_lload (n := 40) rfl rfl rfl ?_
    refine w_callv (as := [.ref 1, .long x5]) (rest := []) (n := 43) rfl rfl rfl rfl ?_
    obtain ⟨I40, hI40, H⟩ := H
    refine ⟨I40, hI40, ?_⟩
    refine w_aload_nR (x := 0) (n := 44) rfl rfl rfl ?_
    refine w_getR (b := 1) (n := 47) rfl rfl rfl rfl rfl ?_
    refine w_getI (n := 50) rfl rfl rfl rfl ?_
    exact w_ireturn rfl rfl H
  · replace H := H.2 hc
    refine w_iconst (v := (-1)) (n := 17) rfl rfl rfl ?_
    exact w_ireturn rfl rfl H
theorem e_WS_channel {P : Int32 → mm_I → Prop} {I : mm_I} (x1 : Int32)
  (H : mm_Mi 117 [.int x1] I (fun r1 I1 =>  -- WS.isWidth
    (r1 = 0 →
      P (-1) I1) ∧
    (¬ r1 = 0 →
      ((I1 3 2) < 2 →
        ((I1 3 2) ≤ 0 →
          P (((I1 3 2) + 1) - 1) (mm_up (mm_up I1 3 3 x1) 3 2 ((I1 3 2) + 1))) ∧
        (0 < (I1 3 2) →
          ((I1 3 3) = x1 →
            P (((I1 3 2) + 1) - 1) (mm_up (mm_up I1 3 3 x1) 3 2 ((I1 3 2) + 1))) ∧
          (¬ (I1 3 3) = x1 →
            P (-1) I1))) ∧
      (2 ≤ (I1 3 2) →
        P (-1) I1)))) : mm_Mi 69 [.ref 0, .int x1] I P := by
  refine mm_Mi_of ?_
  show mm_W 69 0 [some (.ref 0), some (.int x1)] [] I (mm_qi 69 P)
  refine w_iload_n (n := 1) rfl rfl rfl ?_
  refine w_calli (as := [.int x1]) (rest := []) (n := 4) rfl rfl rfl rfl ?_
  obtain ⟨r1, I1, hI1, H⟩ := H
  refine ⟨r1, I1, hI1, ?_⟩
  refine w_if_eq (n := 7) rfl rfl ⟨fun hc => ?_, fun hc => ?_⟩
  · replace H := H.1 hc
    refine w_iconst (v := (-1)) (n := 19) rfl rfl rfl ?_
    exact w_ireturn rfl rfl H
  · replace H := H.2 hc
    refine w_aload_nR (x := 0) (n := 8) rfl rfl rfl ?_
    refine w_getR (b := 3) (n := 11) rfl rfl rfl rfl rfl ?_
    refine w_getI (n := 14) rfl rfl rfl rfl ?_
    refine w_iconst (v := 2) (n := 15) rfl rfl rfl ?_
    refine w_icmp_lt (n := 18) rfl rfl ⟨fun hc => ?_, fun hc => ?_⟩
    · replace H := H.1 hc
      refine w_aload_nR (x := 0) (n := 21) rfl rfl rfl ?_
      refine w_getR (b := 3) (n := 24) rfl rfl rfl rfl rfl ?_
      refine w_getI (n := 27) rfl rfl rfl rfl ?_
      refine w_if_le (n := 30) rfl rfl ⟨fun hc => ?_, fun hc => ?_⟩
      · replace H := H.1 hc
        refine w_aload_nR (x := 0) (n := 44) rfl rfl rfl ?_
        refine w_getR (b := 3) (n := 47) rfl rfl rfl rfl rfl ?_
        refine w_iload_n (n := 48) rfl rfl rfl ?_
        refine w_putI (n := 51) rfl rfl rfl rfl rfl ?_
        refine w_aload_nR (x := 0) (n := 52) rfl rfl rfl ?_
        refine w_getR (b := 3) (n := 55) rfl rfl rfl rfl rfl ?_
        refine w_dup (n := 56) rfl rfl rfl ?_
        refine w_getI (n := 59) rfl rfl rfl rfl ?_
        refine w_iconst (v := 1) (n := 60) rfl rfl rfl ?_
        refine w_iadd (n := 61) rfl rfl ?_
        refine w_putI (n := 64) rfl rfl rfl rfl rfl ?_
        refine w_aload_nR (x := 0) (n := 65) rfl rfl rfl ?_
        refine w_getR (b := 3) (n := 68) rfl rfl rfl rfl rfl ?_
        refine w_getI (n := 71) rfl rfl rfl rfl ?_
        refine w_iconst (v := 1) (n := 72) rfl rfl rfl ?_
        refine w_isub (n := 73) rfl rfl ?_
        exact w_ireturn rfl rfl H
      · replace H := H.2 hc
        refine w_aload_nR (x := 0) (n := 31) rfl rfl rfl ?_
        refine w_getR (b := 3) (n := 34) rfl rfl rfl rfl rfl ?_
        refine w_getI (n := 37) rfl rfl rfl rfl ?_
        refine w_iload_n (n := 38) rfl rfl rfl ?_
        refine w_icmp_eq (n := 41) rfl rfl ⟨fun hc => ?_, fun hc => ?_⟩
        · replace H := H.1 hc
          refine w_aload_nR (x := 0) (n := 44) rfl rfl rfl ?_
          refine w_getR (b := 3) (n := 47) rfl rfl rfl rfl rfl ?_
          refine w_iload_n (n := 48) rfl rfl rfl ?_
          refine w_putI (n := 51) rfl rfl rfl rfl rfl ?_
          refine w_aload_nR (x := 0) (n := 52) rfl rfl rfl ?_
          refine w_getR (b := 3) (n := 55) rfl rfl rfl rfl rfl ?_
          refine w_dup (n := 56) rfl rfl rfl ?_
          refine w_getI (n := 59) rfl rfl rfl rfl ?_
          refine w_iconst (v := 1) (n := 60) rfl rfl rfl ?_
          refine w_iadd (n := 61) rfl rfl ?_
          refine w_putI (n := 64) rfl rfl rfl rfl rfl ?_
          refine w_aload_nR (x := 0) (n := 65) rfl rfl rfl ?_
          refine w_getR (b := 3) (n := 68) rfl rfl rfl rfl rfl ?_
          refine w_getI (n := 71) rfl rfl rfl rfl ?_
          refine w_iconst (v := 1) (n := 72) rfl rfl rfl ?_
          refine w_isub (n := 73) rfl rfl ?_
          exact w_ireturn rfl rfl H
        · replace H := H.2 hc
          refine w_iconst (v := (-1)) (n := 42) rfl rfl rfl ?_
          exact w_ireturn rfl rfl H
    · replace H := H.2 hc
      refine w_iconst (v := (-1)) (n := 19) rfl rfl rfl ?_
      exact w_ireturn rfl rfl H
theorem e_WS_samples {P : Int32 → mm_I → Prop} {I : mm_I} (x1 : Int32) (x2 : Int32)
  (H : mm_Mi 47 [.ref 3, .int x1] I (fun r5 I5 =>  -- Sound.has
    (r5 = 0 →
      P (-1) I5) ∧
    (¬ r5 = 0 →
      (x2 < 0 →
        P (-1) I5) ∧
      (0 ≤ x2 →
        vp_in x1 2 ∧
        (x2 ≤ (256 - (I5 5 x1.toNatClampNeg)) →
          ((x2 * ((I5 3 3) / 8)) ≤ (I5 1 1) →
            mm_W 70 63 [some (.ref 0), some (.int x1), some (.int x2), some (.int ((I5 3 3) / 8)), some (.int 0)] [] I5 (mm_qi 70 P)) ∧
          ((I5 1 1) < (x2 * ((I5 3 3) / 8)) →
            P (-1) I5)) ∧
        ((256 - (I5 5 x1.toNatClampNeg)) < x2 →
          P (-1) I5))))) : mm_Mi 70 [.ref 0, .int x1, .int x2] I P := by
  refine mm_Mi_of ?_
  show mm_W 70 0 [some (.ref 0), some (.int x1), some (.int x2), none, none] [] I (mm_qi 70 P)
  refine w_aload_nR (x := 0) (n := 1) rfl rfl rfl ?_
  refine w_getR (b := 3) (n := 4) rfl rfl rfl rfl rfl ?_
  refine w_iload_n (n := 5) rfl rfl rfl ?_
  refine w_calli (as := [.ref 3, .int x1]) (rest := []) (n := 8) rfl rfl rfl rfl ?_
  obtain ⟨r5, I5, hI5, H⟩ := H
  refine ⟨r5, I5, hI5, ?_⟩
  refine w_if_eq (n := 11) rfl rfl ⟨fun hc => ?_, fun hc => ?_⟩
  · replace H := H.1 hc
    refine w_iconst (v := (-1)) (n := 33) rfl rfl rfl ?_
    exact w_ireturn rfl rfl H
  · replace H := H.2 hc
    refine w_iload_n (n := 12) rfl rfl rfl ?_
    refine w_if_lt (n := 15) rfl rfl ⟨fun hc => ?_, fun hc => ?_⟩
    · replace H := H.1 hc
      refine w_iconst (v := (-1)) (n := 33) rfl rfl rfl ?_
      exact w_ireturn rfl rfl H
    · replace H := H.2 hc
      refine w_iload_n (n := 16) rfl rfl rfl ?_
      refine w_sipush (v := 256) (n := 19) rfl rfl rfl ?_
      refine w_aload_nR (x := 0) (n := 20) rfl rfl rfl ?_
      refine w_getR (b := 3) (n := 23) rfl rfl rfl rfl rfl ?_
      refine w_getR (b := 5) (n := 26) rfl rfl rfl rfl rfl ?_
      refine w_iload_n (n := 27) rfl rfl rfl ?_
      refine w_iaload (N := 2) (j := x1.toNatClampNeg) (n := 28) rfl rfl rfl rfl rfl rfl ⟨H.1, ?_⟩
      replace H := H.2
      refine w_isub (n := 29) rfl rfl ?_
      refine w_icmp_le (n := 32) rfl rfl ⟨fun hc => ?_, fun hc => ?_⟩
      · replace H := H.1 hc
        refine w_aload_nR (x := 0) (n := 35) rfl rfl rfl ?_
        refine w_getR (b := 3) (n := 38) rfl rfl rfl rfl rfl ?_
        refine w_getI (n := 41) rfl rfl rfl rfl ?_
        refine w_bipush (v := 8) (n := 43) rfl rfl rfl ?_
        refine w_idiv (n := 44) rfl rfl ⟨by decide, ?_⟩
        refine w_istore_n (ls' := [some (.ref 0), some (.int x1), some (.int x2), some (.int ((I5 3 3) / 8)), none]) (n := 45) rfl rfl rfl rfl ?_
        refine w_iload_n (n := 46) rfl rfl rfl ?_
        refine w_iload_n (n := 47) rfl rfl rfl ?_
        refine w_imul (n := 48) rfl rfl ?_
        refine w_aload_nR (x := 0) (n := 49) rfl rfl rfl ?_
        refine w_getR (b := 1) (n := 52) rfl rfl rfl rfl rfl ?_
        refine w_getI (n := 55) rfl rfl rfl rfl ?_
        refine w_icmp_le (n := 58) rfl rfl ⟨fun hc => ?_, fun hc => ?_⟩
        · replace H := H.1 hc
          refine w_iconst (v := 0) (n := 61) rfl rfl rfl ?_
          refine w_istore (ls' := [some (.ref 0), some (.int x1), some (.int x2), some (.int ((I5 3 3) / 8)), some (.int 0)]) (n := 63) rfl rfl rfl rfl ?_
          exact w_drp mm_Qf_i H (lb_s (lb_s (lb_s (lb_s (lb_s lb_e)))))
        · replace H := H.2 hc
          refine w_iconst (v := (-1)) (n := 59) rfl rfl rfl ?_
          exact w_ireturn rfl rfl H
      · replace H := H.2 hc
        refine w_iconst (v := (-1)) (n := 33) rfl rfl rfl ?_
        exact w_ireturn rfl rfl H
theorem c_WS_samples_63 {P : Int32 → mm_I → Prop} {I : mm_I} (x1 : Int32) (x2 : Int32) (x3 : Int32) (x4 : Int32)
  (H : (x2 ≤ x4 →
      vp_in x1 2 ∧
      P (I 5 x1.toNatClampNeg) (mm_up I 1 1 0)) ∧
    (x4 < x2 →
      mm_Mi 66 [.ref 1, .int (x4 * x3), .int x3] I (fun r83 I83 =>  -- Tape.signedAt
      mm_Mv 51 [.ref 3, .int x1, .int r83] I83 (fun I86 =>  -- Sound.put
      mm_W 70 63 [some (.ref 0), some (.int x1), some (.int x2), some (.int x3), some (.int (x4 + 1))] [] I86 (mm_qi 70 P))))) : mm_W 70 63 [some (.ref 0), some (.int x1), some (.int x2), some (.int x3), some (.int x4)] [] I (mm_qi 70 P) := by
  refine w_iload (n := 65) rfl rfl rfl ?_
  refine w_iload_n (n := 66) rfl rfl rfl ?_
  refine w_icmp_ge (n := 69) rfl rfl ⟨fun hc => ?_, fun hc => ?_⟩
  · replace H := H.1 hc
    refine w_aload_nR (x := 0) (n := 96) rfl rfl rfl ?_
    refine w_getR (b := 1) (n := 99) rfl rfl rfl rfl rfl ?_
    refine w_iconst (v := 0) (n := 100) rfl rfl rfl ?_
    refine w_putI (n := 103) rfl rfl rfl rfl rfl ?_
    refine w_aload_nR (x := 0) (n := 104) rfl rfl rfl ?_
    refine w_getR (b := 3) (n := 107) rfl rfl rfl rfl rfl ?_
    refine w_getR (b := 5) (n := 110) rfl rfl rfl rfl rfl ?_
    refine w_iload_n (n := 111) rfl rfl rfl ?_
    refine w_iaload (N := 2) (j := x1.toNatClampNeg) (n := 112) rfl rfl rfl rfl rfl rfl ⟨H.1, ?_⟩
    replace H := H.2
    exact w_ireturn rfl rfl H
  · replace H := H.2 hc
    refine w_aload_nR (x := 0) (n := 70) rfl rfl rfl ?_
    refine w_getR (b := 3) (n := 73) rfl rfl rfl rfl rfl ?_
    refine w_iload_n (n := 74) rfl rfl rfl ?_
    refine w_aload_nR (x := 0) (n := 75) rfl rfl rfl ?_
    refine w_getR (b := 1) (n := 78) rfl rfl rfl rfl rfl ?_
    refine w_iload (n := 80) rfl rfl rfl ?_
    refine w_iload_n (n := 81) rfl rfl rfl ?_
    refine w_imul (n := 82) rfl rfl ?_
    refine w_iload_n (n := 83) rfl rfl rfl ?_
    refine w_calli (as := [.ref 1, .int (x4 * x3), .int x3]) (rest := [.int x1, .ref 3]) (n := 86) rfl rfl rfl rfl ?_
    obtain ⟨r83, I83, hI83, H⟩ := H
    refine ⟨r83, I83, hI83, ?_⟩
    refine w_callv (as := [.ref 3, .int x1, .int r83]) (rest := []) (n := 89) rfl rfl rfl rfl ?_
    obtain ⟨I86, hI86, H⟩ := H
    refine ⟨I86, hI86, ?_⟩
    refine w_iinc (y := x4 + 1) (ls' := [some (.ref 0), some (.int x1), some (.int x2), some (.int x3), some (.int (x4 + 1))]) (n := 92) rfl rfl rfl rfl rfl ?_
    refine w_goto rfl ?_
    exact w_drp mm_Qf_i H (lb_s (lb_s (lb_s (lb_s (lb_s lb_e)))))
theorem e_WS_fill {P : Int32 → mm_I → Prop} {I : mm_I} (x1 : Int32) (x2 : Int32) (x3 : Int32) (x4 : Int32) (x5 : Int32)
  (H : mm_Mi 47 [.ref 3, .int x1] I (fun r5 I5 =>  -- Sound.has
    (r5 = 0 →
      P (-1) I5) ∧
    (¬ r5 = 0 →
      (x3 < 1 →
        P (-1) I5) ∧
      (1 ≤ x3 →
        (64 < x3 →
          P (-1) I5) ∧
        (x3 ≤ 64 →
          vp_in x1 2 ∧
          ((256 - (I5 5 x1.toNatClampNeg)) < x3 →
            P (-1) I5) ∧
          (x3 ≤ (256 - (I5 5 x1.toNatClampNeg)) →
            mm_Mi 72 [.int x2, .int x4, .int x5] I5 (fun r44 I44 =>  -- WS.canFill
            (¬ r44 = 0 →
              (¬ x2 = 3 →
                mm_W 71 74 [some (.ref 0), some (.int x1), some (.int x2), some (.int x3), some (.int x4), some (.int x5), some (.int 0)] [] I44 (mm_qi 71 P)) ∧
              (x2 = 3 →
                (x5 = 0 →
                  mm_W 71 74 [some (.ref 0), some (.int x1), some (.int x2), some (.int x3), some (.int x4), some (.int x5), some (.int 0)] [] I44 (mm_qi 71 P)) ∧
                (¬ x5 = 0 →
                  mm_W 71 74 [some (.ref 0), some (.int x1), some (.int x2), some (.int x3), some (.int x4), some (.int x5), some (.int 0)] [] (mm_up I44 3 4 x5) (mm_qi 71 P)))) ∧
            (r44 = 0 →
              P (-1) I44)))))))) : mm_Mi 71 [.ref 0, .int x1, .int x2, .int x3, .int x4, .int x5] I P := by
  refine mm_Mi_of ?_
  show mm_W 71 0 [some (.ref 0), some (.int x1), some (.int x2), some (.int x3), some (.int x4), some (.int x5), none] [] I (mm_qi 71 P)
  refine w_aload_nR (x := 0) (n := 1) rfl rfl rfl ?_
  refine w_getR (b := 3) (n := 4) rfl rfl rfl rfl rfl ?_
  refine w_iload_n (n := 5) rfl rfl rfl ?_
  refine w_calli (as := [.ref 3, .int x1]) (rest := []) (n := 8) rfl rfl rfl rfl ?_
  obtain ⟨r5, I5, hI5, H⟩ := H
  refine ⟨r5, I5, hI5, ?_⟩
  refine w_if_eq (n := 11) rfl rfl ⟨fun hc => ?_, fun hc => ?_⟩
  · replace H := H.1 hc
    refine w_iconst (v := (-1)) (n := 51) rfl rfl rfl ?_
    exact w_ireturn rfl rfl H
  · replace H := H.2 hc
    refine w_iload_n (n := 12) rfl rfl rfl ?_
    refine w_iconst (v := 1) (n := 13) rfl rfl rfl ?_
    refine w_icmp_lt (n := 16) rfl rfl ⟨fun hc => ?_, fun hc => ?_⟩
    · replace H := H.1 hc
      refine w_iconst (v := (-1)) (n := 51) rfl rfl rfl ?_
      exact w_ireturn rfl rfl H
    · replace H := H.2 hc
      refine w_iload_n (n := 17) rfl rfl rfl ?_
      refine w_bipush (v := 64) (n := 19) rfl rfl rfl ?_
      refine w_icmp_gt (n := 22) rfl rfl ⟨fun hc => ?_, fun hc => ?_⟩
      · replace H := H.1 hc
        refine w_iconst (v := (-1)) (n := 51) rfl rfl rfl ?_
        exact w_ireturn rfl rfl H
      · replace H := H.2 hc
        refine w_iload_n (n := 23) rfl rfl rfl ?_
        refine w_sipush (v := 256) (n := 26) rfl rfl rfl ?_
        refine w_aload_nR (x := 0) (n := 27) rfl rfl rfl ?_
        refine w_getR (b := 3) (n := 30) rfl rfl rfl rfl rfl ?_
        refine w_getR (b := 5) (n := 33) rfl rfl rfl rfl rfl ?_
        refine w_iload_n (n := 34) rfl rfl rfl ?_
        refine w_iaload (N := 2) (j := x1.toNatClampNeg) (n := 35) rfl rfl rfl rfl rfl rfl ⟨H.1, ?_⟩
        replace H := H.2
        refine w_isub (n := 36) rfl rfl ?_
        refine w_icmp_gt (n := 39) rfl rfl ⟨fun hc => ?_, fun hc => ?_⟩
        · replace H := H.1 hc
          refine w_iconst (v := (-1)) (n := 51) rfl rfl rfl ?_
          exact w_ireturn rfl rfl H
        · replace H := H.2 hc
          refine w_iload_n (n := 40) rfl rfl rfl ?_
          refine w_iload (n := 42) rfl rfl rfl ?_
          refine w_iload (n := 44) rfl rfl rfl ?_
          refine w_calli (as := [.int x2, .int x4, .int x5]) (rest := []) (n := 47) rfl rfl rfl rfl ?_
          obtain ⟨r44, I44, hI44, H⟩ := H
          refine ⟨r44, I44, hI44, ?_⟩
          refine w_if_ne (n := 50) rfl rfl ⟨fun hc => ?_, fun hc => ?_⟩
          · replace H := H.1 hc
            refine w_iload_n (n := 53) rfl rfl rfl ?_
            refine w_iconst (v := 3) (n := 54) rfl rfl rfl ?_
            refine w_icmp_ne (n := 57) rfl rfl ⟨fun hc => ?_, fun hc => ?_⟩
            · replace H := H.1 hc
              refine w_iconst (v := 0) (n := 72) rfl rfl rfl ?_
              refine w_istore (ls' := [some (.ref 0), some (.int x1), some (.int x2), some (.int x3), some (.int x4), some (.int x5), some (.int 0)]) (n := 74) rfl rfl rfl rfl ?_
              exact w_drp mm_Qf_i H (lb_s (lb_s (lb_s (lb_s (lb_s (lb_s (lb_s lb_e)))))))
            · replace H := H.2 hc
              refine w_iload (n := 59) rfl rfl rfl ?_
              refine w_if_eq (n := 62) rfl rfl ⟨fun hc => ?_, fun hc => ?_⟩
              · replace H := H.1 hc
                refine w_iconst (v := 0) (n := 72) rfl rfl rfl ?_
                refine w_istore (ls' := [some (.ref 0), some (.int x1), some (.int x2), some (.int x3), some (.int x4), some (.int x5), some (.int 0)]) (n := 74) rfl rfl rfl rfl ?_
                exact w_drp mm_Qf_i H (lb_s (lb_s (lb_s (lb_s (lb_s (lb_s (lb_s lb_e)))))))
              · replace H := H.2 hc
                refine w_aload_nR (x := 0) (n := 63) rfl rfl rfl ?_
                refine w_getR (b := 3) (n := 66) rfl rfl rfl rfl rfl ?_
                refine w_iload (n := 68) rfl rfl rfl ?_
                refine w_putI (n := 71) rfl rfl rfl rfl rfl ?_
                refine w_iconst (v := 0) (n := 72) rfl rfl rfl ?_
                refine w_istore (ls' := [some (.ref 0), some (.int x1), some (.int x2), some (.int x3), some (.int x4), some (.int x5), some (.int 0)]) (n := 74) rfl rfl rfl rfl ?_
                exact w_drp mm_Qf_i H (lb_s (lb_s (lb_s (lb_s (lb_s (lb_s (lb_s lb_e)))))))
          · replace H := H.2 hc
            refine w_iconst (v := (-1)) (n := 51) rfl rfl rfl ?_
            exact w_ireturn rfl rfl H
theorem c_WS_fill_74 {P : Int32 → mm_I → Prop} {I : mm_I} (x1 : Int32) (x2 : Int32) (x3 : Int32) (x4 : Int32) (x5 : Int32) (x6 : Int32)
  (H : (x3 ≤ x6 →
      vp_in x1 2 ∧
      P (I 5 x1.toNatClampNeg) I) ∧
    (x6 < x3 →
      mm_Mi 73 [.ref 0, .int x1, .int x2, .int x6, .int x4, .int x5] I (fun r98 I98 =>  -- WS.filled
      mm_Mi 52 [.ref 3, .int r98] I98 (fun r101 I101 =>  -- Sound.held
      mm_Mv 51 [.ref 3, .int x1, .int r101] I101 (fun I104 =>  -- Sound.put
      mm_W 71 74 [some (.ref 0), some (.int x1), some (.int x2), some (.int x3), some (.int x4), some (.int x5), some (.int (x6 + 1))] [] I104 (mm_qi 71 P)))))) : mm_W 71 74 [some (.ref 0), some (.int x1), some (.int x2), some (.int x3), some (.int x4), some (.int x5), some (.int x6)] [] I (mm_qi 71 P) := by
  refine w_iload (n := 76) rfl rfl rfl ?_
  refine w_iload_n (n := 77) rfl rfl rfl ?_
  refine w_icmp_ge (n := 80) rfl rfl ⟨fun hc => ?_, fun hc => ?_⟩
  · replace H := H.1 hc
    refine w_aload_nR (x := 0) (n := 114) rfl rfl rfl ?_
    refine w_getR (b := 3) (n := 117) rfl rfl rfl rfl rfl ?_
    refine w_getR (b := 5) (n := 120) rfl rfl rfl rfl rfl ?_
    refine w_iload_n (n := 121) rfl rfl rfl ?_
    refine w_iaload (N := 2) (j := x1.toNatClampNeg) (n := 122) rfl rfl rfl rfl rfl rfl ⟨H.1, ?_⟩
    replace H := H.2
    exact w_ireturn rfl rfl H
  · replace H := H.2 hc
    refine w_aload_nR (x := 0) (n := 81) rfl rfl rfl ?_
    refine w_getR (b := 3) (n := 84) rfl rfl rfl rfl rfl ?_
    refine w_iload_n (n := 85) rfl rfl rfl ?_
    refine w_aload_nR (x := 0) (n := 86) rfl rfl rfl ?_
    refine w_getR (b := 3) (n := 89) rfl rfl rfl rfl rfl ?_
    refine w_aload_nR (x := 0) (n := 90) rfl rfl rfl ?_
    refine w_iload_n (n := 91) rfl rfl rfl ?_
    refine w_iload_n (n := 92) rfl rfl rfl ?_
    refine w_iload (n := 94) rfl rfl rfl ?_
    refine w_iload (n := 96) rfl rfl rfl ?_
    refine w_iload (n := 98) rfl rfl rfl ?_
    refine w_calli (as := [.ref 0, .int x1, .int x2, .int x6, .int x4, .int x5]) (rest := [.ref 3, .int x1, .ref 3]) (n := 101) rfl rfl rfl rfl ?_
    obtain ⟨r98, I98, hI98, H⟩ := H
    refine ⟨r98, I98, hI98, ?_⟩
    refine w_calli (as := [.ref 3, .int r98]) (rest := [.int x1, .ref 3]) (n := 104) rfl rfl rfl rfl ?_
    obtain ⟨r101, I101, hI101, H⟩ := H
    refine ⟨r101, I101, hI101, ?_⟩
    refine w_callv (as := [.ref 3, .int x1, .int r101]) (rest := []) (n := 107) rfl rfl rfl rfl ?_
    obtain ⟨I104, hI104, H⟩ := H
    refine ⟨I104, hI104, ?_⟩
    refine w_iinc (y := x6 + 1) (ls' := [some (.ref 0), some (.int x1), some (.int x2), some (.int x3), some (.int x4), some (.int x5), some (.int (x6 + 1))]) (n := 110) rfl rfl rfl rfl rfl ?_
    refine w_goto rfl ?_
    exact w_drp mm_Qf_i H (lb_s (lb_s (lb_s (lb_s (lb_s (lb_s (lb_s lb_e)))))))
theorem e_WS_canFill {P : Int32 → mm_I → Prop} {I : mm_I} (x0 : Int32) (x1 : Int32) (x2 : Int32)
  (H : (x1 < (-65536) →
      P 0 I) ∧
    ((-65536) ≤ x1 →
      (65536 < x1 →
        P 0 I) ∧
      (x1 ≤ 65536 →
        (x2 < (-65536) →
          P 0 I) ∧
        ((-65536) ≤ x2 →
          (x2 ≤ 65536 →
            (x0 = 0 →
              P 1 I) ∧
            (x0 = 1 →
              P 1 I) ∧
            (x0 = 2 →
              ((if x2 < 1 then (0 : Int32) else (if 64 < x2 then (0 : Int32) else 1)) = 0 ∨ (if x2 < 1 then (0 : Int32) else (if 64 < x2 then (0 : Int32) else 1)) = 1) ∧ P (if x2 < 1 then (0 : Int32) else (if 64 < x2 then (0 : Int32) else 1)) I) ∧
            (x0 = 3 →
              ((if x1 < 0 then (0 : Int32) else (if 32767 < x1 then (0 : Int32) else 1)) = 0 ∨ (if x1 < 0 then (0 : Int32) else (if 32767 < x1 then (0 : Int32) else 1)) = 1) ∧ P (if x1 < 0 then (0 : Int32) else (if 32767 < x1 then (0 : Int32) else 1)) I) ∧
            (x0 = 4 →
              ((if x2 < 0 then (0 : Int32) else (if 256 ≤ x2 then (0 : Int32) else 1)) = 0 ∨ (if x2 < 0 then (0 : Int32) else (if 256 ≤ x2 then (0 : Int32) else 1)) = 1) ∧ P (if x2 < 0 then (0 : Int32) else (if 256 ≤ x2 then (0 : Int32) else 1)) I) ∧
            (¬ x0 = 0 → ¬ x0 = 1 → ¬ x0 = 2 → ¬ x0 = 3 → ¬ x0 = 4 →
              P 0 I)) ∧
          (65536 < x2 →
            P 0 I))))) : mm_Mi 72 [.int x0, .int x1, .int x2] I P := by
  refine mm_Mi_of ?_
  show mm_W 72 0 [some (.int x0), some (.int x1), some (.int x2)] [] I (mm_qi 72 P)
  refine w_iload_n (n := 1) rfl rfl rfl ?_
  refine w_ldc (v := (-65536)) (n := 3) rfl rfl rfl ?_
  refine w_icmp_lt (n := 6) rfl rfl ⟨fun hc => ?_, fun hc => ?_⟩
  · replace H := H.1 hc
    refine w_iconst (v := 0) (n := 25) rfl rfl rfl ?_
    exact w_zreturn rfl rfl ⟨by decide, H⟩
  · replace H := H.2 hc
    refine w_iload_n (n := 7) rfl rfl rfl ?_
    refine w_ldc (v := 65536) (n := 9) rfl rfl rfl ?_
    refine w_icmp_gt (n := 12) rfl rfl ⟨fun hc => ?_, fun hc => ?_⟩
    · replace H := H.1 hc
      refine w_iconst (v := 0) (n := 25) rfl rfl rfl ?_
      exact w_zreturn rfl rfl ⟨by decide, H⟩
    · replace H := H.2 hc
      refine w_iload_n (n := 13) rfl rfl rfl ?_
      refine w_ldc (v := (-65536)) (n := 15) rfl rfl rfl ?_
      refine w_icmp_lt (n := 18) rfl rfl ⟨fun hc => ?_, fun hc => ?_⟩
      · replace H := H.1 hc
        refine w_iconst (v := 0) (n := 25) rfl rfl rfl ?_
        exact w_zreturn rfl rfl ⟨by decide, H⟩
      · replace H := H.2 hc
        refine w_iload_n (n := 19) rfl rfl rfl ?_
        refine w_ldc (v := 65536) (n := 21) rfl rfl rfl ?_
        refine w_icmp_le (n := 24) rfl rfl ⟨fun hc => ?_, fun hc => ?_⟩
        · replace H := H.1 hc
          refine w_iload_n (n := 27) rfl rfl rfl ?_
          by_cases h27_0 : x0 = 0
          · replace H := H.1 h27_0
            refine w_switch (tg := 60) rfl (by rw [h27_0]; rfl) ?_
            refine w_iconst (v := 1) (n := 61) rfl rfl rfl ?_
            exact w_zreturn rfl rfl ⟨by decide, H⟩
          by_cases h27_1 : x0 = 1
          · replace H := H.2.1 h27_1
            refine w_switch (tg := 60) rfl (by rw [h27_1]; rfl) ?_
            refine w_iconst (v := 1) (n := 61) rfl rfl rfl ?_
            exact w_zreturn rfl rfl ⟨by decide, H⟩
          by_cases h27_2 : x0 = 2
          · replace H := H.2.2.1 h27_2
            refine w_switch (tg := 62) rfl (by rw [h27_2]; rfl) ?_
            refine w_iload_n (n := 63) rfl rfl rfl ?_
            refine w_iconst (v := 1) (n := 64) rfl rfl rfl ?_
            have J64 : ∀ (w64_0 : Int32), w64_0 = (if x2 < 1 then (0 : Int32) else (if 64 < x2 then (0 : Int32) else 1)) → mm_W 72 78 [some (.int x0), some (.int x1), some (.int x2)] [.int w64_0] I (mm_qi 72 P) := by
              intro w64_0 e64_0
              subst e64_0
              exact w_zreturn rfl rfl H
            refine w_icmp_lt (n := 67) rfl rfl ⟨fun hc => ?_, fun hc => ?_⟩
            · refine w_iconst (v := 0) (n := 78) rfl rfl rfl ?_
              refine w_drp mm_Qf_i (J64 _ ?_) (lb_s (lb_s (lb_s lb_e)))
              · exact (if_pos hc).symm
            · refine w_iload_n (n := 68) rfl rfl rfl ?_
              refine w_bipush (v := 64) (n := 70) rfl rfl rfl ?_
              have J70 : ∀ (w70_0 : Int32), w70_0 = (if 64 < x2 then (0 : Int32) else 1) → mm_W 72 78 [some (.int x0), some (.int x1), some (.int x2)] [.int w70_0] I (mm_qi 72 P) := by
                intro w70_0 e70_0
                subst e70_0
                refine w_drp mm_Qf_i (J64 _ ?_) (lb_s (lb_s (lb_s lb_e)))
                · exact (if_neg (fa_nlt hc)).symm
              refine w_icmp_gt (n := 73) rfl rfl ⟨fun hc => ?_, fun hc => ?_⟩
              · refine w_iconst (v := 0) (n := 78) rfl rfl rfl ?_
                refine w_drp mm_Qf_i (J70 _ ?_) (lb_s (lb_s (lb_s lb_e)))
                · exact (if_pos hc).symm
              · refine w_iconst (v := 1) (n := 74) rfl rfl rfl ?_
                refine w_goto rfl ?_
                refine w_drp mm_Qf_i (J70 _ ?_) (lb_s (lb_s (lb_s lb_e)))
                · exact (if_neg (fa_nlt hc)).symm
          by_cases h27_3 : x0 = 3
          · replace H := H.2.2.2.1 h27_3
            refine w_switch (tg := 79) rfl (by rw [h27_3]; rfl) ?_
            refine w_iload_n (n := 80) rfl rfl rfl ?_
            have J80 : ∀ (w80_0 : Int32), w80_0 = (if x1 < 0 then (0 : Int32) else (if 32767 < x1 then (0 : Int32) else 1)) → mm_W 72 95 [some (.int x0), some (.int x1), some (.int x2)] [.int w80_0] I (mm_qi 72 P) := by
              intro w80_0 e80_0
              subst e80_0
              exact w_zreturn rfl rfl H
            refine w_if_lt (n := 83) rfl rfl ⟨fun hc => ?_, fun hc => ?_⟩
            · refine w_iconst (v := 0) (n := 95) rfl rfl rfl ?_
              refine w_drp mm_Qf_i (J80 _ ?_) (lb_s (lb_s (lb_s lb_e)))
              · exact (if_pos hc).symm
            · refine w_iload_n (n := 84) rfl rfl rfl ?_
              refine w_sipush (v := 32767) (n := 87) rfl rfl rfl ?_
              have J87 : ∀ (w87_0 : Int32), w87_0 = (if 32767 < x1 then (0 : Int32) else 1) → mm_W 72 95 [some (.int x0), some (.int x1), some (.int x2)] [.int w87_0] I (mm_qi 72 P) := by
                intro w87_0 e87_0
                subst e87_0
                refine w_drp mm_Qf_i (J80 _ ?_) (lb_s (lb_s (lb_s lb_e)))
                · exact (if_neg (fa_nlt hc)).symm
              refine w_icmp_gt (n := 90) rfl rfl ⟨fun hc => ?_, fun hc => ?_⟩
              · refine w_iconst (v := 0) (n := 95) rfl rfl rfl ?_
                refine w_drp mm_Qf_i (J87 _ ?_) (lb_s (lb_s (lb_s lb_e)))
                · exact (if_pos hc).symm
              · refine w_iconst (v := 1) (n := 91) rfl rfl rfl ?_
                refine w_goto rfl ?_
                refine w_drp mm_Qf_i (J87 _ ?_) (lb_s (lb_s (lb_s lb_e)))
                · exact (if_neg (fa_nlt hc)).symm
          by_cases h27_4 : x0 = 4
          · replace H := H.2.2.2.2.1 h27_4
            refine w_switch (tg := 96) rfl (by rw [h27_4]; rfl) ?_
            refine w_iload_n (n := 97) rfl rfl rfl ?_
            have J97 : ∀ (w97_0 : Int32), w97_0 = (if x2 < 0 then (0 : Int32) else (if 256 ≤ x2 then (0 : Int32) else 1)) → mm_W 72 112 [some (.int x0), some (.int x1), some (.int x2)] [.int w97_0] I (mm_qi 72 P) := by
              intro w97_0 e97_0
              subst e97_0
              exact w_zreturn rfl rfl H
            refine w_if_lt (n := 100) rfl rfl ⟨fun hc => ?_, fun hc => ?_⟩
            · refine w_iconst (v := 0) (n := 112) rfl rfl rfl ?_
              refine w_drp mm_Qf_i (J97 _ ?_) (lb_s (lb_s (lb_s lb_e)))
              · exact (if_pos hc).symm
            · refine w_iload_n (n := 101) rfl rfl rfl ?_
              refine w_sipush (v := 256) (n := 104) rfl rfl rfl ?_
              have J104 : ∀ (w104_0 : Int32), w104_0 = (if 256 ≤ x2 then (0 : Int32) else 1) → mm_W 72 112 [some (.int x0), some (.int x1), some (.int x2)] [.int w104_0] I (mm_qi 72 P) := by
                intro w104_0 e104_0
                subst e104_0
                refine w_drp mm_Qf_i (J97 _ ?_) (lb_s (lb_s (lb_s lb_e)))
                · exact (if_neg (fa_nlt hc)).symm
              refine w_icmp_ge (n := 107) rfl rfl ⟨fun hc => ?_, fun hc => ?_⟩
              · refine w_iconst (v := 0) (n := 112) rfl rfl rfl ?_
                refine w_drp mm_Qf_i (J104 _ ?_) (lb_s (lb_s (lb_s lb_e)))
                · exact (if_pos hc).symm
              · refine w_iconst (v := 1) (n := 108) rfl rfl rfl ?_
                refine w_goto rfl ?_
                refine w_drp mm_Qf_i (J104 _ ?_) (lb_s (lb_s (lb_s lb_e)))
                · exact (if_neg (fa_nle hc)).symm
          replace H := H.2.2.2.2.2 h27_0 h27_1 h27_2 h27_3 h27_4
          refine w_switch (tg := 113) rfl (mm_sw_def (fun z z1 z2 ze => ?_) rfl) ?_
          · rcases (show z = 0 ∨ z = 1 ∨ z = 2 ∨ z = 3 ∨ z = 4 by omega) with rfl | rfl | rfl | rfl | rfl
            · exact h27_0 (Int32.toInt_inj.mp (by rw [ze]; rfl))
            · exact h27_1 (Int32.toInt_inj.mp (by rw [ze]; rfl))
            · exact h27_2 (Int32.toInt_inj.mp (by rw [ze]; rfl))
            · exact h27_3 (Int32.toInt_inj.mp (by rw [ze]; rfl))
            · exact h27_4 (Int32.toInt_inj.mp (by rw [ze]; rfl))
          refine w_iconst (v := 0) (n := 114) rfl rfl rfl ?_
          exact w_zreturn rfl rfl ⟨by decide, H⟩
        · replace H := H.2 hc
          refine w_iconst (v := 0) (n := 25) rfl rfl rfl ?_
          exact w_zreturn rfl rfl ⟨by decide, H⟩
theorem e_WS_filled {P : Int32 → mm_I → Prop} {I : mm_I} (x1 : Int32) (x2 : Int32) (x3 : Int32) (x4 : Int32) (x5 : Int32)
  (H : (x2 = 1 →
      P (x4 + (x3 * x5)) I) ∧
    (x2 = 2 →
      (x5 ≤ 0 →
        P x4 I) ∧
      (0 < x5 →
        ¬ x5 = 0 ∧
        P (if ((x3 / x5) - (x3 / x5) / 2 * 2) = 0 then (x4 : Int32) else -x4) I)) ∧
    (x2 = 3 →
      (0 ≤ x4 →
        mm_Mi 53 [.ref 3] I (fun r76 I76 =>  -- Sound.draw
        ¬ ((2 * x4) + 1) = 0 ∧
        P ((r76 - r76 / ((2 * x4) + 1) * ((2 * x4) + 1)) - x4) I76)) ∧
      (x4 < 0 →
        P 0 I)) ∧
    (x2 = 4 →
      vp_in x1 2 ∧
      mm_Mi 50 [.ref 3, .int (1 - x1), .int ((I 5 x1.toNatClampNeg) - x5)] I (fun r111 I111 =>  -- Sound.orZero
      P (x4 + r111) I111)) ∧
    (¬ x2 = 1 → ¬ x2 = 2 → ¬ x2 = 3 → ¬ x2 = 4 →
      P x4 I)) : mm_Mi 73 [.ref 0, .int x1, .int x2, .int x3, .int x4, .int x5] I P := by
  refine mm_Mi_of ?_
  show mm_W 73 0 [some (.ref 0), some (.int x1), some (.int x2), some (.int x3), some (.int x4), some (.int x5)] [] I (mm_qi 73 P)
  refine w_iload_n (n := 1) rfl rfl rfl ?_
  by_cases h1_1 : x2 = 1
  · replace H := H.1 h1_1
    refine w_switch (tg := 32) rfl (by rw [h1_1]; rfl) ?_
    refine w_iload (n := 34) rfl rfl rfl ?_
    refine w_iload_n (n := 35) rfl rfl rfl ?_
    refine w_iload (n := 37) rfl rfl rfl ?_
    refine w_imul (n := 38) rfl rfl ?_
    refine w_iadd (n := 39) rfl rfl ?_
    exact w_ireturn rfl rfl H
  by_cases h1_2 : x2 = 2
  · replace H := H.2.1 h1_2
    refine w_switch (tg := 40) rfl (by rw [h1_2]; rfl) ?_
    refine w_iload (n := 42) rfl rfl rfl ?_
    refine w_if_le (n := 45) rfl rfl ⟨fun hc => ?_, fun hc => ?_⟩
    · replace H := H.1 hc
      refine w_iload (n := 62) rfl rfl rfl ?_
      exact w_ireturn rfl rfl H
    · replace H := H.2 hc
      refine w_iload_n (n := 46) rfl rfl rfl ?_
      refine w_iload (n := 48) rfl rfl rfl ?_
      refine w_idiv (n := 49) rfl rfl ⟨H.1, ?_⟩
      replace H := H.2
      refine w_iconst (v := 2) (n := 50) rfl rfl rfl ?_
      refine w_irem (n := 51) rfl rfl ⟨by decide, ?_⟩
      have J51 : ∀ (w51_0 : Int32), w51_0 = (if ((x3 / x5) - (x3 / x5) / 2 * 2) = 0 then (x4 : Int32) else -x4) → mm_W 73 62 [some (.ref 0), some (.int x1), some (.int x2), some (.int x3), some (.int x4), some (.int x5)] [.int w51_0] I (mm_qi 73 P) := by
        intro w51_0 e51_0
        subst e51_0
        exact w_ireturn rfl rfl H
      refine w_if_eq (n := 54) rfl rfl ⟨fun hc => ?_, fun hc => ?_⟩
      · refine w_iload (n := 62) rfl rfl rfl ?_
        refine w_drp mm_Qf_i (J51 _ ?_) (lb_s (lb_s (lb_s (lb_s (lb_s (lb_s lb_e))))))
        · exact (if_pos hc).symm
      · refine w_iload (n := 56) rfl rfl rfl ?_
        refine w_ineg (n := 57) rfl rfl ?_
        refine w_goto rfl ?_
        refine w_drp mm_Qf_i (J51 _ ?_) (lb_s (lb_s (lb_s (lb_s (lb_s (lb_s lb_e))))))
        · exact (if_neg hc).symm
  by_cases h1_3 : x2 = 3
  · replace H := H.2.2.1 h1_3
    refine w_switch (tg := 63) rfl (by rw [h1_3]; rfl) ?_
    refine w_iload (n := 65) rfl rfl rfl ?_
    refine w_if_ge (n := 68) rfl rfl ⟨fun hc => ?_, fun hc => ?_⟩
    · replace H := H.1 hc
      refine w_aload_nR (x := 0) (n := 73) rfl rfl rfl ?_
      refine w_getR (b := 3) (n := 76) rfl rfl rfl rfl rfl ?_
      refine w_calli (as := [.ref 3]) (rest := []) (n := 79) rfl rfl rfl rfl ?_
      obtain ⟨r76, I76, hI76, H⟩ := H
      refine ⟨r76, I76, hI76, ?_⟩
      refine w_iconst (v := 2) (n := 80) rfl rfl rfl ?_
      refine w_iload (n := 82) rfl rfl rfl ?_
      refine w_imul (n := 83) rfl rfl ?_
      refine w_iconst (v := 1) (n := 84) rfl rfl rfl ?_
      refine w_iadd (n := 85) rfl rfl ?_
      refine w_irem (n := 86) rfl rfl ⟨H.1, ?_⟩
      replace H := H.2
      refine w_iload (n := 88) rfl rfl rfl ?_
      refine w_isub (n := 89) rfl rfl ?_
      exact w_ireturn rfl rfl H
    · replace H := H.2 hc
      refine w_iconst (v := 0) (n := 69) rfl rfl rfl ?_
      refine w_goto rfl ?_
      exact w_ireturn rfl rfl H
  by_cases h1_4 : x2 = 4
  · replace H := H.2.2.2.1 h1_4
    refine w_switch (tg := 90) rfl (by rw [h1_4]; rfl) ?_
    refine w_iload (n := 92) rfl rfl rfl ?_
    refine w_aload_nR (x := 0) (n := 93) rfl rfl rfl ?_
    refine w_getR (b := 3) (n := 96) rfl rfl rfl rfl rfl ?_
    refine w_iconst (v := 1) (n := 97) rfl rfl rfl ?_
    refine w_iload_n (n := 98) rfl rfl rfl ?_
    refine w_isub (n := 99) rfl rfl ?_
    refine w_aload_nR (x := 0) (n := 100) rfl rfl rfl ?_
    refine w_getR (b := 3) (n := 103) rfl rfl rfl rfl rfl ?_
    refine w_getR (b := 5) (n := 106) rfl rfl rfl rfl rfl ?_
    refine w_iload_n (n := 107) rfl rfl rfl ?_
    refine w_iaload (N := 2) (j := x1.toNatClampNeg) (n := 108) rfl rfl rfl rfl rfl rfl ⟨H.1, ?_⟩
    replace H := H.2
    refine w_iload (n := 110) rfl rfl rfl ?_
    refine w_isub (n := 111) rfl rfl ?_
    refine w_calli (as := [.ref 3, .int (1 - x1), .int ((I 5 x1.toNatClampNeg) - x5)]) (rest := [.int x4]) (n := 114) rfl rfl rfl rfl ?_
    obtain ⟨r111, I111, hI111, H⟩ := H
    refine ⟨r111, I111, hI111, ?_⟩
    refine w_iadd (n := 115) rfl rfl ?_
    exact w_ireturn rfl rfl H
  replace H := H.2.2.2.2 h1_1 h1_2 h1_3 h1_4
  refine w_switch (tg := 116) rfl (mm_sw_def (fun z z1 z2 ze => ?_) rfl) ?_
  · rcases (show z = 1 ∨ z = 2 ∨ z = 3 ∨ z = 4 by omega) with rfl | rfl | rfl | rfl
    · exact h1_1 (Int32.toInt_inj.mp (by rw [ze]; rfl))
    · exact h1_2 (Int32.toInt_inj.mp (by rw [ze]; rfl))
    · exact h1_3 (Int32.toInt_inj.mp (by rw [ze]; rfl))
    · exact h1_4 (Int32.toInt_inj.mp (by rw [ze]; rfl))
  refine w_iload (n := 118) rfl rfl rfl ?_
  exact w_ireturn rfl rfl H
theorem e_WS_clear {P : Int32 → mm_I → Prop} {I : mm_I}
  (H : mm_Mv 46 [.ref 3] (mm_up I 1 1 0) (fun I20 =>  -- Sound.forget
    mm_Mv 19 [.ref 6] I20 (fun I27 =>  -- Pred.forget
    P (I 3 2) (mm_up (mm_up (mm_up I27 0 7 32) 0 8 1) 0 9 255)))) : mm_Mi 74 [.ref 0] I P := by
  refine mm_Mi_of ?_
  show mm_W 74 0 [some (.ref 0), none] [] I (mm_qi 74 P)
  refine w_aload_nR (x := 0) (n := 1) rfl rfl rfl ?_
  refine w_getR (b := 3) (n := 4) rfl rfl rfl rfl rfl ?_
  refine w_getI (n := 7) rfl rfl rfl rfl ?_
  refine w_istore_n (ls' := [some (.ref 0), some (.int (I 3 2))]) (n := 8) rfl rfl rfl rfl ?_
  refine w_aload_nR (x := 0) (n := 9) rfl rfl rfl ?_
  refine w_getR (b := 1) (n := 12) rfl rfl rfl rfl rfl ?_
  refine w_iconst (v := 0) (n := 13) rfl rfl rfl ?_
  refine w_putI (n := 16) rfl rfl rfl rfl rfl ?_
  refine w_aload_nR (x := 0) (n := 17) rfl rfl rfl ?_
  refine w_getR (b := 3) (n := 20) rfl rfl rfl rfl rfl ?_
  refine w_callv (as := [.ref 3]) (rest := []) (n := 23) rfl rfl rfl rfl ?_
  obtain ⟨I20, hI20, H⟩ := H
  refine ⟨I20, hI20, ?_⟩
  refine w_aload_nR (x := 0) (n := 24) rfl rfl rfl ?_
  refine w_getR (b := 6) (n := 27) rfl rfl rfl rfl rfl ?_
  refine w_callv (as := [.ref 6]) (rest := []) (n := 30) rfl rfl rfl rfl ?_
  obtain ⟨I27, hI27, H⟩ := H
  refine ⟨I27, hI27, ?_⟩
  refine w_aload_nR (x := 0) (n := 31) rfl rfl rfl ?_
  refine w_bipush (v := 32) (n := 33) rfl rfl rfl ?_
  refine w_putI (n := 36) rfl rfl rfl rfl rfl ?_
  refine w_aload_nR (x := 0) (n := 37) rfl rfl rfl ?_
  refine w_iconst (v := 1) (n := 38) rfl rfl rfl ?_
  refine w_putI (n := 41) rfl rfl rfl rfl rfl ?_
  refine w_aload_nR (x := 0) (n := 42) rfl rfl rfl ?_
  refine w_sipush (v := 255) (n := 45) rfl rfl rfl ?_
  refine w_putI (n := 48) rfl rfl rfl rfl rfl ?_
  refine w_iload_n (n := 49) rfl rfl rfl ?_
  exact w_ireturn rfl rfl H
theorem e_WS_frame {P : Int32 → mm_I → Prop} {I : mm_I} (x1 : Int32)
  (H : mm_Mi 118 [.int x1] I (fun r1 I1 =>  -- WS.isFrame
    (¬ r1 = 0 →
      P (I1 0 7) (mm_up I1 0 7 x1)) ∧
    (r1 = 0 →
      P (-1) I1))) : mm_Mi 75 [.ref 0, .int x1] I P := by
  refine mm_Mi_of ?_
  show mm_W 75 0 [some (.ref 0), some (.int x1), none] [] I (mm_qi 75 P)
  refine w_iload_n (n := 1) rfl rfl rfl ?_
  refine w_calli (as := [.int x1]) (rest := []) (n := 4) rfl rfl rfl rfl ?_
  obtain ⟨r1, I1, hI1, H⟩ := H
  refine ⟨r1, I1, hI1, ?_⟩
  refine w_if_ne (n := 7) rfl rfl ⟨fun hc => ?_, fun hc => ?_⟩
  · replace H := H.1 hc
    refine w_aload_nR (x := 0) (n := 10) rfl rfl rfl ?_
    refine w_getI (n := 13) rfl rfl rfl rfl ?_
    refine w_istore_n (ls' := [some (.ref 0), some (.int x1), some (.int (I1 0 7))]) (n := 14) rfl rfl rfl rfl ?_
    refine w_aload_nR (x := 0) (n := 15) rfl rfl rfl ?_
    refine w_iload_n (n := 16) rfl rfl rfl ?_
    refine w_putI (n := 19) rfl rfl rfl rfl rfl ?_
    refine w_iload_n (n := 20) rfl rfl rfl ?_
    exact w_ireturn rfl rfl H
  · replace H := H.2 hc
    refine w_iconst (v := (-1)) (n := 8) rfl rfl rfl ?_
    exact w_ireturn rfl rfl H
theorem e_WS_predictor {P : Int32 → mm_I → Prop} {I : mm_I} (x1 : Int32) (x2 : Int32) (x3 : Int32) (x4 : Int32) (x5 : Int32)
  (H : (x1 < 5 →
      P (-1) I) ∧
    (5 ≤ x1 →
      (8 ≤ x1 →
        P (-1) I) ∧
      (x1 < 8 →
        mm_Mi 119 [.int x5] I (fun r13 I13 =>  -- WS.isShift
        (r13 = 0 →
          P (-1) I13) ∧
        (¬ r13 = 0 →
          mm_Mi 120 [.int x2] I13 (fun r20 I20 =>  -- WS.isWeight
          (r20 = 0 →
            P (-1) I20) ∧
          (¬ r20 = 0 →
            mm_Mi 120 [.int x3] I20 (fun r27 I27 =>  -- WS.isWeight
            (r27 = 0 →
              P (-1) I27) ∧
            (¬ r27 = 0 →
              mm_Mi 120 [.int x4] I27 (fun r35 I35 =>  -- WS.isWeight
              (¬ r35 = 0 →
                mm_Mv 20 [.ref 6, .int x1, .int x2, .int x3, .int x4, .int x5] I35 (fun I54 =>  -- Pred.tell
                vp_in x1 8 ∧
                P (I54 8 x1.toNatClampNeg) I54)) ∧
              (r35 = 0 →
                P (-1) I35))))))))))) : mm_Mi 76 [.ref 0, .int x1, .int x2, .int x3, .int x4, .int x5] I P := by
  refine mm_Mi_of ?_
  show mm_W 76 0 [some (.ref 0), some (.int x1), some (.int x2), some (.int x3), some (.int x4), some (.int x5)] [] I (mm_qi 76 P)
  refine w_iload_n (n := 1) rfl rfl rfl ?_
  refine w_iconst (v := 5) (n := 2) rfl rfl rfl ?_
  refine w_icmp_lt (n := 5) rfl rfl ⟨fun hc => ?_, fun hc => ?_⟩
  · replace H := H.1 hc
    refine w_iconst (v := (-1)) (n := 42) rfl rfl rfl ?_
    exact w_ireturn rfl rfl H
  · replace H := H.2 hc
    refine w_iload_n (n := 6) rfl rfl rfl ?_
    refine w_bipush (v := 8) (n := 8) rfl rfl rfl ?_
    refine w_icmp_ge (n := 11) rfl rfl ⟨fun hc => ?_, fun hc => ?_⟩
    · replace H := H.1 hc
      refine w_iconst (v := (-1)) (n := 42) rfl rfl rfl ?_
      exact w_ireturn rfl rfl H
    · replace H := H.2 hc
      refine w_iload (n := 13) rfl rfl rfl ?_
      refine w_calli (as := [.int x5]) (rest := []) (n := 16) rfl rfl rfl rfl ?_
      obtain ⟨r13, I13, hI13, H⟩ := H
      refine ⟨r13, I13, hI13, ?_⟩
      refine w_if_eq (n := 19) rfl rfl ⟨fun hc => ?_, fun hc => ?_⟩
      · replace H := H.1 hc
        refine w_iconst (v := (-1)) (n := 42) rfl rfl rfl ?_
        exact w_ireturn rfl rfl H
      · replace H := H.2 hc
        refine w_iload_n (n := 20) rfl rfl rfl ?_
        refine w_calli (as := [.int x2]) (rest := []) (n := 23) rfl rfl rfl rfl ?_
        obtain ⟨r20, I20, hI20, H⟩ := H
        refine ⟨r20, I20, hI20, ?_⟩
        refine w_if_eq (n := 26) rfl rfl ⟨fun hc => ?_, fun hc => ?_⟩
        · replace H := H.1 hc
          refine w_iconst (v := (-1)) (n := 42) rfl rfl rfl ?_
          exact w_ireturn rfl rfl H
        · replace H := H.2 hc
          refine w_iload_n (n := 27) rfl rfl rfl ?_
          refine w_calli (as := [.int x3]) (rest := []) (n := 30) rfl rfl rfl rfl ?_
          obtain ⟨r27, I27, hI27, H⟩ := H
          refine ⟨r27, I27, hI27, ?_⟩
          refine w_if_eq (n := 33) rfl rfl ⟨fun hc => ?_, fun hc => ?_⟩
          · replace H := H.1 hc
            refine w_iconst (v := (-1)) (n := 42) rfl rfl rfl ?_
            exact w_ireturn rfl rfl H
          · replace H := H.2 hc
            refine w_iload (n := 35) rfl rfl rfl ?_
            refine w_calli (as := [.int x4]) (rest := []) (n := 38) rfl rfl rfl rfl ?_
            obtain ⟨r35, I35, hI35, H⟩ := H
            refine ⟨r35, I35, hI35, ?_⟩
            refine w_if_ne (n := 41) rfl rfl ⟨fun hc => ?_, fun hc => ?_⟩
            · replace H := H.1 hc
              refine w_aload_nR (x := 0) (n := 44) rfl rfl rfl ?_
              refine w_getR (b := 6) (n := 47) rfl rfl rfl rfl rfl ?_
              refine w_iload_n (n := 48) rfl rfl rfl ?_
              refine w_iload_n (n := 49) rfl rfl rfl ?_
              refine w_iload_n (n := 50) rfl rfl rfl ?_
              refine w_iload (n := 52) rfl rfl rfl ?_
              refine w_iload (n := 54) rfl rfl rfl ?_
              refine w_callv (as := [.ref 6, .int x1, .int x2, .int x3, .int x4, .int x5]) (rest := []) (n := 57) rfl rfl rfl rfl ?_
              obtain ⟨I54, hI54, H⟩ := H
              refine ⟨I54, hI54, ?_⟩
              refine w_aload_nR (x := 0) (n := 58) rfl rfl rfl ?_
              refine w_getR (b := 6) (n := 61) rfl rfl rfl rfl rfl ?_
              refine w_getR (b := 8) (n := 64) rfl rfl rfl rfl rfl ?_
              refine w_iload_n (n := 65) rfl rfl rfl ?_
              refine w_iaload (N := 8) (j := x1.toNatClampNeg) (n := 66) rfl rfl rfl rfl rfl rfl ⟨H.1, ?_⟩
              replace H := H.2
              exact w_ireturn rfl rfl H
            · replace H := H.2 hc
              refine w_iconst (v := (-1)) (n := 42) rfl rfl rfl ?_
              exact w_ireturn rfl rfl H
theorem e_WS_effort {P : Int32 → mm_I → Prop} {I : mm_I} (x1 : Int32)
  (H : (x1 < 0 →
      P (-1) I) ∧
    (0 ≤ x1 →
      (x1 ≤ 1 →
        P (I 0 8) (mm_up I 0 8 x1)) ∧
      (1 < x1 →
        P (-1) I))) : mm_Mi 77 [.ref 0, .int x1] I P := by
  refine mm_Mi_of ?_
  show mm_W 77 0 [some (.ref 0), some (.int x1), none] [] I (mm_qi 77 P)
  refine w_iload_n (n := 1) rfl rfl rfl ?_
  refine w_if_lt (n := 4) rfl rfl ⟨fun hc => ?_, fun hc => ?_⟩
  · replace H := H.1 hc
    refine w_iconst (v := (-1)) (n := 10) rfl rfl rfl ?_
    exact w_ireturn rfl rfl H
  · replace H := H.2 hc
    refine w_iload_n (n := 5) rfl rfl rfl ?_
    refine w_iconst (v := 1) (n := 6) rfl rfl rfl ?_
    refine w_icmp_le (n := 9) rfl rfl ⟨fun hc => ?_, fun hc => ?_⟩
    · replace H := H.1 hc
      refine w_aload_nR (x := 0) (n := 12) rfl rfl rfl ?_
      refine w_getI (n := 15) rfl rfl rfl rfl ?_
      refine w_istore_n (ls' := [some (.ref 0), some (.int x1), some (.int (I 0 8))]) (n := 16) rfl rfl rfl rfl ?_
      refine w_aload_nR (x := 0) (n := 17) rfl rfl rfl ?_
      refine w_iload_n (n := 18) rfl rfl rfl ?_
      refine w_putI (n := 21) rfl rfl rfl rfl rfl ?_
      refine w_iload_n (n := 22) rfl rfl rfl ?_
      exact w_ireturn rfl rfl H
    · replace H := H.2 hc
      refine w_iconst (v := (-1)) (n := 10) rfl rfl rfl ?_
      exact w_ireturn rfl rfl H
theorem e_WS_allow {P : Int32 → mm_I → Prop} {I : mm_I} (x1 : Int32)
  (H : (x1 < 0 →
      P (-1) I) ∧
    (0 ≤ x1 →
      (x1 ≤ 255 →
        P (I 0 9) (mm_up I 0 9 (x1 ||| 1))) ∧
      (255 < x1 →
        P (-1) I))) : mm_Mi 78 [.ref 0, .int x1] I P := by
  refine mm_Mi_of ?_
  show mm_W 78 0 [some (.ref 0), some (.int x1), none] [] I (mm_qi 78 P)
  refine w_iload_n (n := 1) rfl rfl rfl ?_
  refine w_if_lt (n := 4) rfl rfl ⟨fun hc => ?_, fun hc => ?_⟩
  · replace H := H.1 hc
    refine w_iconst (v := (-1)) (n := 12) rfl rfl rfl ?_
    exact w_ireturn rfl rfl H
  · replace H := H.2 hc
    refine w_iload_n (n := 5) rfl rfl rfl ?_
    refine w_sipush (v := 255) (n := 8) rfl rfl rfl ?_
    refine w_icmp_le (n := 11) rfl rfl ⟨fun hc => ?_, fun hc => ?_⟩
    · replace H := H.1 hc
      refine w_aload_nR (x := 0) (n := 14) rfl rfl rfl ?_
      refine w_getI (n := 17) rfl rfl rfl rfl ?_
      refine w_istore_n (ls' := [some (.ref 0), some (.int x1), some (.int (I 0 9))]) (n := 18) rfl rfl rfl rfl ?_
      refine w_aload_nR (x := 0) (n := 19) rfl rfl rfl ?_
      refine w_iload_n (n := 20) rfl rfl rfl ?_
      refine w_iconst (v := 1) (n := 21) rfl rfl rfl ?_
      refine w_ior (n := 22) rfl rfl ?_
      refine w_putI (n := 25) rfl rfl rfl rfl rfl ?_
      refine w_iload_n (n := 26) rfl rfl rfl ?_
      exact w_ireturn rfl rfl H
    · replace H := H.2 hc
      refine w_iconst (v := (-1)) (n := 12) rfl rfl rfl ?_
      exact w_ireturn rfl rfl H
theorem e_WS_sample {P : Int32 → mm_I → Prop} {I : mm_I} (x1 : Int32) (x2 : Int32)
  (H : mm_Mi 48 [.ref 3, .int x1, .int x2] I (fun r6 I6 =>  -- Sound.holdsPlace
    (r6 = 0 →
      P (-2147483648) I6) ∧
    (¬ r6 = 0 →
      mm_Mi 49 [.ref 3, .int x1, .int x2] I6 (fun r18 I18 =>  -- Sound.valueAt
      P r18 I18)))) : mm_Mi 79 [.ref 0, .int x1, .int x2] I P := by
  refine mm_Mi_of ?_
  show mm_W 79 0 [some (.ref 0), some (.int x1), some (.int x2)] [] I (mm_qi 79 P)
  refine w_aload_nR (x := 0) (n := 1) rfl rfl rfl ?_
  refine w_getR (b := 3) (n := 4) rfl rfl rfl rfl rfl ?_
  refine w_iload_n (n := 5) rfl rfl rfl ?_
  refine w_iload_n (n := 6) rfl rfl rfl ?_
  refine w_calli (as := [.ref 3, .int x1, .int x2]) (rest := []) (n := 9) rfl rfl rfl rfl ?_
  obtain ⟨r6, I6, hI6, H⟩ := H
  refine ⟨r6, I6, hI6, ?_⟩
  refine w_if_eq (n := 12) rfl rfl ⟨fun hc => ?_, fun hc => ?_⟩
  · replace H := H.1 hc
    refine w_ldc (v := (-2147483648)) (n := 26) rfl rfl rfl ?_
    exact w_ireturn rfl rfl H
  · replace H := H.2 hc
    refine w_aload_nR (x := 0) (n := 13) rfl rfl rfl ?_
    refine w_getR (b := 3) (n := 16) rfl rfl rfl rfl rfl ?_
    refine w_iload_n (n := 17) rfl rfl rfl ?_
    refine w_iload_n (n := 18) rfl rfl rfl ?_
    refine w_calli (as := [.ref 3, .int x1, .int x2]) (rest := []) (n := 21) rfl rfl rfl rfl ?_
    obtain ⟨r18, I18, hI18, H⟩ := H
    refine ⟨r18, I18, hI18, ?_⟩
    refine w_goto rfl ?_
    exact w_ireturn rfl rfl H
theorem e_WS_join {P : Int32 → mm_I → Prop} {I : mm_I} (x1 : Int32)
  (H : mm_Mi 87 [.ref 0, .int x1] I (fun r2 I2 =>  -- WS.hasFrame
    (¬ r2 = 0 →
      mm_Mv 11 [.ref 10, .ref 3, .ref 6, .int (I2 0 7), .int x1, .int (I2 0 8), .int (I2 0 9)] I2 (fun I35 =>  -- Plan.make
      P (I35 10 6) I35)) ∧
    (r2 = 0 →
      P (-1) I2))) : mm_Mi 80 [.ref 0, .int x1] I P := by
  refine mm_Mi_of ?_
  show mm_W 80 0 [some (.ref 0), some (.int x1)] [] I (mm_qi 80 P)
  refine w_aload_nR (x := 0) (n := 1) rfl rfl rfl ?_
  refine w_iload_n (n := 2) rfl rfl rfl ?_
  refine w_calli (as := [.ref 0, .int x1]) (rest := []) (n := 5) rfl rfl rfl rfl ?_
  obtain ⟨r2, I2, hI2, H⟩ := H
  refine ⟨r2, I2, hI2, ?_⟩
  refine w_if_ne (n := 8) rfl rfl ⟨fun hc => ?_, fun hc => ?_⟩
  · replace H := H.1 hc
    refine w_aload_nR (x := 0) (n := 11) rfl rfl rfl ?_
    refine w_getR (b := 10) (n := 14) rfl rfl rfl rfl rfl ?_
    refine w_aload_nR (x := 0) (n := 15) rfl rfl rfl ?_
    refine w_getR (b := 3) (n := 18) rfl rfl rfl rfl rfl ?_
    refine w_aload_nR (x := 0) (n := 19) rfl rfl rfl ?_
    refine w_getR (b := 6) (n := 22) rfl rfl rfl rfl rfl ?_
    refine w_aload_nR (x := 0) (n := 23) rfl rfl rfl ?_
    refine w_getI (n := 26) rfl rfl rfl rfl ?_
    refine w_iload_n (n := 27) rfl rfl rfl ?_
    refine w_aload_nR (x := 0) (n := 28) rfl rfl rfl ?_
    refine w_getI (n := 31) rfl rfl rfl rfl ?_
    refine w_aload_nR (x := 0) (n := 32) rfl rfl rfl ?_
    refine w_getI (n := 35) rfl rfl rfl rfl ?_
    refine w_callv (as := [.ref 10, .ref 3, .ref 6, .int (I2 0 7), .int x1, .int (I2 0 8), .int (I2 0 9)]) (rest := []) (n := 38) rfl rfl rfl rfl ?_
    obtain ⟨I35, hI35, H⟩ := H
    refine ⟨I35, hI35, ?_⟩
    refine w_aload_nR (x := 0) (n := 39) rfl rfl rfl ?_
    refine w_getR (b := 10) (n := 42) rfl rfl rfl rfl rfl ?_
    refine w_getI (n := 45) rfl rfl rfl rfl ?_
    exact w_ireturn rfl rfl H
  · replace H := H.2 hc
    refine w_iconst (v := (-1)) (n := 9) rfl rfl rfl ?_
    exact w_ireturn rfl rfl H
theorem e_WS_joined {P : Int32 → mm_I → Prop} {I : mm_I} (x1 : Int32) (x2 : Int32)
  (H : (x2 < 0 →
      P (-1) I) ∧
    (0 ≤ x2 →
      (4 ≤ x2 →
        P (-1) I) ∧
      (x2 < 4 →
        (x2 ≤ 0 →
          mm_Mi 87 [.ref 0, .int x1] I (fun r26 I26 =>  -- WS.hasFrame
          (¬ r26 = 0 →
            mm_Mv 11 [.ref 10, .ref 3, .ref 6, .int (I26 0 7), .int x1, .int (I26 0 8), .int (I26 0 9)] I26 (fun I59 =>  -- Plan.make
            mm_Mi 16 [.ref 10, .int x2] I59 (fun r67 I67 =>  -- Plan.rowBits
            P r67 I67))) ∧
          (r26 = 0 →
            P (-1) I26))) ∧
        (0 < x2 →
          ((I 3 2) < 2 →
            P (-1) I) ∧
          (2 ≤ (I 3 2) →
            mm_Mi 87 [.ref 0, .int x1] I (fun r26 I26 =>  -- WS.hasFrame
            (¬ r26 = 0 →
              mm_Mv 11 [.ref 10, .ref 3, .ref 6, .int (I26 0 7), .int x1, .int (I26 0 8), .int (I26 0 9)] I26 (fun I59 =>  -- Plan.make
              mm_Mi 16 [.ref 10, .int x2] I59 (fun r67 I67 =>  -- Plan.rowBits
              P r67 I67))) ∧
            (r26 = 0 →
              P (-1) I26))))))) : mm_Mi 81 [.ref 0, .int x1, .int x2] I P := by
  refine mm_Mi_of ?_
  show mm_W 81 0 [some (.ref 0), some (.int x1), some (.int x2)] [] I (mm_qi 81 P)
  refine w_iload_n (n := 1) rfl rfl rfl ?_
  refine w_if_lt (n := 4) rfl rfl ⟨fun hc => ?_, fun hc => ?_⟩
  · replace H := H.1 hc
    refine w_iconst (v := (-1)) (n := 33) rfl rfl rfl ?_
    exact w_ireturn rfl rfl H
  · replace H := H.2 hc
    refine w_iload_n (n := 5) rfl rfl rfl ?_
    refine w_iconst (v := 4) (n := 6) rfl rfl rfl ?_
    refine w_icmp_ge (n := 9) rfl rfl ⟨fun hc => ?_, fun hc => ?_⟩
    · replace H := H.1 hc
      refine w_iconst (v := (-1)) (n := 33) rfl rfl rfl ?_
      exact w_ireturn rfl rfl H
    · replace H := H.2 hc
      refine w_iload_n (n := 10) rfl rfl rfl ?_
      refine w_if_le (n := 13) rfl rfl ⟨fun hc => ?_, fun hc => ?_⟩
      · replace H := H.1 hc
        refine w_aload_nR (x := 0) (n := 25) rfl rfl rfl ?_
        refine w_iload_n (n := 26) rfl rfl rfl ?_
        refine w_calli (as := [.ref 0, .int x1]) (rest := []) (n := 29) rfl rfl rfl rfl ?_
        obtain ⟨r26, I26, hI26, H⟩ := H
        refine ⟨r26, I26, hI26, ?_⟩
        refine w_if_ne (n := 32) rfl rfl ⟨fun hc => ?_, fun hc => ?_⟩
        · replace H := H.1 hc
          refine w_aload_nR (x := 0) (n := 35) rfl rfl rfl ?_
          refine w_getR (b := 10) (n := 38) rfl rfl rfl rfl rfl ?_
          refine w_aload_nR (x := 0) (n := 39) rfl rfl rfl ?_
          refine w_getR (b := 3) (n := 42) rfl rfl rfl rfl rfl ?_
          refine w_aload_nR (x := 0) (n := 43) rfl rfl rfl ?_
          refine w_getR (b := 6) (n := 46) rfl rfl rfl rfl rfl ?_
          refine w_aload_nR (x := 0) (n := 47) rfl rfl rfl ?_
          refine w_getI (n := 50) rfl rfl rfl rfl ?_
          refine w_iload_n (n := 51) rfl rfl rfl ?_
          refine w_aload_nR (x := 0) (n := 52) rfl rfl rfl ?_
          refine w_getI (n := 55) rfl rfl rfl rfl ?_
          refine w_aload_nR (x := 0) (n := 56) rfl rfl rfl ?_
          refine w_getI (n := 59) rfl rfl rfl rfl ?_
          refine w_callv (as := [.ref 10, .ref 3, .ref 6, .int (I26 0 7), .int x1, .int (I26 0 8), .int (I26 0 9)]) (rest := []) (n := 62) rfl rfl rfl rfl ?_
          obtain ⟨I59, hI59, H⟩ := H
          refine ⟨I59, hI59, ?_⟩
          refine w_aload_nR (x := 0) (n := 63) rfl rfl rfl ?_
          refine w_getR (b := 10) (n := 66) rfl rfl rfl rfl rfl ?_
          refine w_iload_n (n := 67) rfl rfl rfl ?_
          refine w_calli (as := [.ref 10, .int x2]) (rest := []) (n := 70) rfl rfl rfl rfl ?_
          obtain ⟨r67, I67, hI67, H⟩ := H
          refine ⟨r67, I67, hI67, ?_⟩
          exact w_ireturn rfl rfl H
        · replace H := H.2 hc
          refine w_iconst (v := (-1)) (n := 33) rfl rfl rfl ?_
          exact w_ireturn rfl rfl H
      · replace H := H.2 hc
        refine w_aload_nR (x := 0) (n := 14) rfl rfl rfl ?_
        refine w_getR (b := 3) (n := 17) rfl rfl rfl rfl rfl ?_
        refine w_getI (n := 20) rfl rfl rfl rfl ?_
        refine w_iconst (v := 2) (n := 21) rfl rfl rfl ?_
        refine w_icmp_lt (n := 24) rfl rfl ⟨fun hc => ?_, fun hc => ?_⟩
        · replace H := H.1 hc
          refine w_iconst (v := (-1)) (n := 33) rfl rfl rfl ?_
          exact w_ireturn rfl rfl H
        · replace H := H.2 hc
          refine w_aload_nR (x := 0) (n := 25) rfl rfl rfl ?_
          refine w_iload_n (n := 26) rfl rfl rfl ?_
          refine w_calli (as := [.ref 0, .int x1]) (rest := []) (n := 29) rfl rfl rfl rfl ?_
          obtain ⟨r26, I26, hI26, H⟩ := H
          refine ⟨r26, I26, hI26, ?_⟩
          refine w_if_ne (n := 32) rfl rfl ⟨fun hc => ?_, fun hc => ?_⟩
          · replace H := H.1 hc
            refine w_aload_nR (x := 0) (n := 35) rfl rfl rfl ?_
            refine w_getR (b := 10) (n := 38) rfl rfl rfl rfl rfl ?_
            refine w_aload_nR (x := 0) (n := 39) rfl rfl rfl ?_
            refine w_getR (b := 3) (n := 42) rfl rfl rfl rfl rfl ?_
            refine w_aload_nR (x := 0) (n := 43) rfl rfl rfl ?_
            refine w_getR (b := 6) (n := 46) rfl rfl rfl rfl rfl ?_
            refine w_aload_nR (x := 0) (n := 47) rfl rfl rfl ?_
            refine w_getI (n := 50) rfl rfl rfl rfl ?_
            refine w_iload_n (n := 51) rfl rfl rfl ?_
            refine w_aload_nR (x := 0) (n := 52) rfl rfl rfl ?_
            refine w_getI (n := 55) rfl rfl rfl rfl ?_
            refine w_aload_nR (x := 0) (n := 56) rfl rfl rfl ?_
            refine w_getI (n := 59) rfl rfl rfl rfl ?_
            refine w_callv (as := [.ref 10, .ref 3, .ref 6, .int (I26 0 7), .int x1, .int (I26 0 8), .int (I26 0 9)]) (rest := []) (n := 62) rfl rfl rfl rfl ?_
            obtain ⟨I59, hI59, H⟩ := H
            refine ⟨I59, hI59, ?_⟩
            refine w_aload_nR (x := 0) (n := 63) rfl rfl rfl ?_
            refine w_getR (b := 10) (n := 66) rfl rfl rfl rfl rfl ?_
            refine w_iload_n (n := 67) rfl rfl rfl ?_
            refine w_calli (as := [.ref 10, .int x2]) (rest := []) (n := 70) rfl rfl rfl rfl ?_
            obtain ⟨r67, I67, hI67, H⟩ := H
            refine ⟨r67, I67, hI67, ?_⟩
            exact w_ireturn rfl rfl H
          · replace H := H.2 hc
            refine w_iconst (v := (-1)) (n := 33) rfl rfl rfl ?_
            exact w_ireturn rfl rfl H
theorem e_WS_row {P : Int32 → mm_I → Prop} {I : mm_I} (x1 : Int32) (x2 : Int32) (x3 : Int32)
  (H : mm_Mr 88 [.ref 0, .int x1, .int x2] I (fun r3 I3 =>  -- WS.plannedRow
    (r3 = none →
      P (-1) I3) ∧
    (∀ aa10, r3 = some aa10 → (aa10 = 22 ∨ aa10 = 28 ∨ aa10 = 34 ∨ aa10 = 40) ∧
      (x3 = 0 →
        P (I3 aa10 3) I3) ∧
      (x3 = 1 →
        P (I3 aa10 4) I3) ∧
      (x3 = 2 →
        P (I3 aa10 5) I3) ∧
      (¬ x3 = 0 → ¬ x3 = 1 → ¬ x3 = 2 →
        P (-1) I3)))) : mm_Mi 82 [.ref 0, .int x1, .int x2, .int x3] I P := by
  refine mm_Mi_of ?_
  show mm_W 82 0 [some (.ref 0), some (.int x1), some (.int x2), some (.int x3), none] [] I (mm_qi 82 P)
  refine w_aload_nR (x := 0) (n := 1) rfl rfl rfl ?_
  refine w_iload_n (n := 2) rfl rfl rfl ?_
  refine w_iload_n (n := 3) rfl rfl rfl ?_
  refine w_callr (as := [.ref 0, .int x1, .int x2]) (rest := []) (n := 6) rfl rfl rfl rfl ?_
  obtain ⟨r3, I3, hI3, H⟩ := H
  refine ⟨r3, I3, hI3, ?_⟩
  refine w_astore (ls' := [some (.ref 0), some (.int x1), some (.int x2), some (.int x3), some (va_rf r3)]) (x := r3) (n := 8) rfl rfl rfl rfl ?_
  refine w_aload (x := r3) (n := 10) rfl rfl rfl ?_
  refine w_ifnonnull (n := 13) rfl rfl ⟨fun hc => ?_, fun aa10 hc => ?_⟩
  · replace H := H.1 hc
    subst hc
    refine w_iconst (v := (-1)) (n := 14) rfl rfl rfl ?_
    exact w_ireturn rfl rfl H
  · have H9 := H.2 aa10 hc
    clear H
    subst hc
    obtain ⟨haa10, H⟩ := H9
    rcases haa10 with rfl | rfl | rfl | rfl
    · refine w_iload_n (n := 16) rfl rfl rfl ?_
      by_cases h16_0 : x3 = 0
      · replace H := H.1 h16_0
        refine w_switch (tg := 44) rfl (by rw [h16_0]; rfl) ?_
        refine w_aloadR (x := 22) (n := 46) rfl rfl rfl ?_
        refine w_getI (n := 49) rfl rfl rfl rfl ?_
        exact w_ireturn rfl rfl H
      by_cases h16_1 : x3 = 1
      · replace H := H.2.1 h16_1
        refine w_switch (tg := 50) rfl (by rw [h16_1]; rfl) ?_
        refine w_aloadR (x := 22) (n := 52) rfl rfl rfl ?_
        refine w_getI (n := 55) rfl rfl rfl rfl ?_
        exact w_ireturn rfl rfl H
      by_cases h16_2 : x3 = 2
      · replace H := H.2.2.1 h16_2
        refine w_switch (tg := 56) rfl (by rw [h16_2]; rfl) ?_
        refine w_aloadR (x := 22) (n := 58) rfl rfl rfl ?_
        refine w_getI (n := 61) rfl rfl rfl rfl ?_
        exact w_ireturn rfl rfl H
      replace H := H.2.2.2 h16_0 h16_1 h16_2
      refine w_switch (tg := 62) rfl (mm_sw_def (fun z z1 z2 ze => ?_) rfl) ?_
      · rcases (show z = 0 ∨ z = 1 ∨ z = 2 by omega) with rfl | rfl | rfl
        · exact h16_0 (Int32.toInt_inj.mp (by rw [ze]; rfl))
        · exact h16_1 (Int32.toInt_inj.mp (by rw [ze]; rfl))
        · exact h16_2 (Int32.toInt_inj.mp (by rw [ze]; rfl))
      refine w_iconst (v := (-1)) (n := 63) rfl rfl rfl ?_
      exact w_ireturn rfl rfl H
    · refine w_iload_n (n := 16) rfl rfl rfl ?_
      by_cases h16_0 : x3 = 0
      · replace H := H.1 h16_0
        refine w_switch (tg := 44) rfl (by rw [h16_0]; rfl) ?_
        refine w_aloadR (x := 28) (n := 46) rfl rfl rfl ?_
        refine w_getI (n := 49) rfl rfl rfl rfl ?_
        exact w_ireturn rfl rfl H
      by_cases h16_1 : x3 = 1
      · replace H := H.2.1 h16_1
        refine w_switch (tg := 50) rfl (by rw [h16_1]; rfl) ?_
        refine w_aloadR (x := 28) (n := 52) rfl rfl rfl ?_
        refine w_getI (n := 55) rfl rfl rfl rfl ?_
        exact w_ireturn rfl rfl H
      by_cases h16_2 : x3 = 2
      · replace H := H.2.2.1 h16_2
        refine w_switch (tg := 56) rfl (by rw [h16_2]; rfl) ?_
        refine w_aloadR (x := 28) (n := 58) rfl rfl rfl ?_
        refine w_getI (n := 61) rfl rfl rfl rfl ?_
        exact w_ireturn rfl rfl H
      replace H := H.2.2.2 h16_0 h16_1 h16_2
      refine w_switch (tg := 62) rfl (mm_sw_def (fun z z1 z2 ze => ?_) rfl) ?_
      · rcases (show z = 0 ∨ z = 1 ∨ z = 2 by omega) with rfl | rfl | rfl
        · exact h16_0 (Int32.toInt_inj.mp (by rw [ze]; rfl))
        · exact h16_1 (Int32.toInt_inj.mp (by rw [ze]; rfl))
        · exact h16_2 (Int32.toInt_inj.mp (by rw [ze]; rfl))
      refine w_iconst (v := (-1)) (n := 63) rfl rfl rfl ?_
      exact w_ireturn rfl rfl H
    · refine w_iload_n (n := 16) rfl rfl rfl ?_
      by_cases h16_0 : x3 = 0
      · replace H := H.1 h16_0
        refine w_switch (tg := 44) rfl (by rw [h16_0]; rfl) ?_
        refine w_aloadR (x := 34) (n := 46) rfl rfl rfl ?_
        refine w_getI (n := 49) rfl rfl rfl rfl ?_
        exact w_ireturn rfl rfl H
      by_cases h16_1 : x3 = 1
      · replace H := H.2.1 h16_1
        refine w_switch (tg := 50) rfl (by rw [h16_1]; rfl) ?_
        refine w_aloadR (x := 34) (n := 52) rfl rfl rfl ?_
        refine w_getI (n := 55) rfl rfl rfl rfl ?_
        exact w_ireturn rfl rfl H
      by_cases h16_2 : x3 = 2
      · replace H := H.2.2.1 h16_2
        refine w_switch (tg := 56) rfl (by rw [h16_2]; rfl) ?_
        refine w_aloadR (x := 34) (n := 58) rfl rfl rfl ?_
        refine w_getI (n := 61) rfl rfl rfl rfl ?_
        exact w_ireturn rfl rfl H
      replace H := H.2.2.2 h16_0 h16_1 h16_2
      refine w_switch (tg := 62) rfl (mm_sw_def (fun z z1 z2 ze => ?_) rfl) ?_
      · rcases (show z = 0 ∨ z = 1 ∨ z = 2 by omega) with rfl | rfl | rfl
        · exact h16_0 (Int32.toInt_inj.mp (by rw [ze]; rfl))
        · exact h16_1 (Int32.toInt_inj.mp (by rw [ze]; rfl))
        · exact h16_2 (Int32.toInt_inj.mp (by rw [ze]; rfl))
      refine w_iconst (v := (-1)) (n := 63) rfl rfl rfl ?_
      exact w_ireturn rfl rfl H
    · refine w_iload_n (n := 16) rfl rfl rfl ?_
      by_cases h16_0 : x3 = 0
      · replace H := H.1 h16_0
        refine w_switch (tg := 44) rfl (by rw [h16_0]; rfl) ?_
        refine w_aloadR (x := 40) (n := 46) rfl rfl rfl ?_
        refine w_getI (n := 49) rfl rfl rfl rfl ?_
        exact w_ireturn rfl rfl H
      by_cases h16_1 : x3 = 1
      · replace H := H.2.1 h16_1
        refine w_switch (tg := 50) rfl (by rw [h16_1]; rfl) ?_
        refine w_aloadR (x := 40) (n := 52) rfl rfl rfl ?_
        refine w_getI (n := 55) rfl rfl rfl rfl ?_
        exact w_ireturn rfl rfl H
      by_cases h16_2 : x3 = 2
      · replace H := H.2.2.1 h16_2
        refine w_switch (tg := 56) rfl (by rw [h16_2]; rfl) ?_
        refine w_aloadR (x := 40) (n := 58) rfl rfl rfl ?_
        refine w_getI (n := 61) rfl rfl rfl rfl ?_
        exact w_ireturn rfl rfl H
      replace H := H.2.2.2 h16_0 h16_1 h16_2
      refine w_switch (tg := 62) rfl (mm_sw_def (fun z z1 z2 ze => ?_) rfl) ?_
      · rcases (show z = 0 ∨ z = 1 ∨ z = 2 by omega) with rfl | rfl | rfl
        · exact h16_0 (Int32.toInt_inj.mp (by rw [ze]; rfl))
        · exact h16_1 (Int32.toInt_inj.mp (by rw [ze]; rfl))
        · exact h16_2 (Int32.toInt_inj.mp (by rw [ze]; rfl))
      refine w_iconst (v := (-1)) (n := 63) rfl rfl rfl ?_
      exact w_ireturn rfl rfl H
