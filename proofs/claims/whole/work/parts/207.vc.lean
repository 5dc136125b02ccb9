theorem e_WS_writeSplit {P : mm_I → Prop} {I : mm_I} (x1 : Int32) (x2 : Int32) (x3 : Int32)
  (H : mm_W 101 3 [some (.ref 0), none, some (.int x2), some (.int x3), some (.int x1), none, none, none] [] I (mm_qv 101 P)) : mm_Mv 101 [.ref 0, .int x1, .int x2, .int x3] I P := by
  refine mm_Mv_of ?_
  show mm_W 101 0 [some (.ref 0), some (.int x1), some (.int x2), some (.int x3), none, none, none, none] [] I (mm_qv 101 P)
  refine w_iload_n (n := 1) rfl rfl rfl ?_
  refine w_istore (ls' := [some (.ref 0), some (.int x1), some (.int x2), some (.int x3), some (.int x1), none, none, none]) (n := 3) rfl rfl rfl rfl ?_
  exact w_drp mm_Qf_v H (lb_s (lb_n (lb_s (lb_s (lb_s (lb_n (lb_n (lb_n lb_e))))))))
theorem c_WS_writeSplit_3 {P : mm_I → Prop} {I : mm_I} (x2 : Int32) (x3 : Int32) (x4 : Int32)
  (H : (x2 ≤ x4 →
      P I) ∧
    (x4 < x2 →
      vp_in x4 64 ∧
      mm_Mi 1 [.int (I 12 x4.toNatClampNeg)] I (fun r19 I19 =>  -- Cutter.unsigned
      mm_W 101 33 [some (.ref 0), none, some (.int x2), some (.int x3), some (.int x4), some (.int r19), some (.int (r19 >>> (x3 &&& 31))), some (.int 0)] [] I19 (mm_qv 101 P)))) : mm_W 101 3 [some (.ref 0), none, some (.int x2), some (.int x3), some (.int x4), none, none, none] [] I (mm_qv 101 P) := by
  refine w_iload (n := 5) rfl rfl rfl ?_
  refine w_iload_n (n := 6) rfl rfl rfl ?_
  refine w_icmp_ge (n := 9) rfl rfl ⟨fun hc => ?_, fun hc => ?_⟩
  · replace H := H.1 hc
    exact w_vreturn rfl rfl H
  · replace H := H.2 hc
    refine w_aload_nR (x := 0) (n := 10) rfl rfl rfl ?_
    refine w_getR (b := 11) (n := 13) rfl rfl rfl rfl rfl ?_
    refine w_getR (b := 12) (n := 16) rfl rfl rfl rfl rfl ?_
    refine w_iload (n := 18) rfl rfl rfl ?_
    refine w_iaload (N := 64) (j := x4.toNatClampNeg) (n := 19) rfl rfl rfl rfl rfl rfl ⟨H.1, ?_⟩
    replace H := H.2
    refine w_calli (as := [.int (I 12 x4.toNatClampNeg)]) (rest := []) (n := 22) rfl rfl rfl rfl ?_
    obtain ⟨r19, I19, hI19, H⟩ := H
    refine ⟨r19, I19, hI19, ?_⟩
    refine w_istore (ls' := [some (.ref 0), none, some (.int x2), some (.int x3), some (.int x4), some (.int r19), none, none]) (n := 24) rfl rfl rfl rfl ?_
    refine w_iload (n := 26) rfl rfl rfl ?_
    refine w_iload_n (n := 27) rfl rfl rfl ?_
    refine w_ishr (n := 28) rfl rfl ?_
    refine w_istore (ls' := [some (.ref 0), none, some (.int x2), some (.int x3), some (.int x4), some (.int r19), some (.int (r19 >>> (x3 &&& 31))), none]) (n := 30) rfl rfl rfl rfl ?_
    refine w_iconst (v := 0) (n := 31) rfl rfl rfl ?_
    refine w_istore (ls' := [some (.ref 0), none, some (.int x2), some (.int x3), some (.int x4), some (.int r19), some (.int (r19 >>> (x3 &&& 31))), some (.int 0)]) (n := 33) rfl rfl rfl rfl ?_
    exact w_drp mm_Qf_v H (lb_s (lb_n (lb_s (lb_s (lb_s (lb_s (lb_s (lb_s lb_e))))))))
theorem c_WS_writeSplit_33 {P : mm_I → Prop} {I : mm_I} (x2 : Int32) (x3 : Int32) (x4 : Int32) (x5 : Int32) (x6 : Int32) (x7 : Int32)
  (H : (x6 ≤ x7 →
      mm_Mv 59 [.ref 47, .int 1, .int 1] I (fun I61 =>  -- Store.putBits
      mm_Mv 59 [.ref 47, .int x5, .int x3] I61 (fun I71 =>  -- Store.putBits
      mm_W 101 3 [some (.ref 0), none, some (.int x2), some (.int x3), some (.int (x4 + 1)), none, none, none] [] I71 (mm_qv 101 P)))) ∧
    (x7 < x6 →
      mm_Mv 59 [.ref 47, .int 0, .int 1] I (fun I46 =>  -- Store.putBits
      mm_W 101 33 [some (.ref 0), none, some (.int x2), some (.int x3), some (.int x4), some (.int x5), some (.int x6), some (.int (x7 + 1))] [] I46 (mm_qv 101 P)))) : mm_W 101 33 [some (.ref 0), none, some (.int x2), some (.int x3), some (.int x4), some (.int x5), some (.int x6), some (.int x7)] [] I (mm_qv 101 P) := by
  refine w_iload (n := 35) rfl rfl rfl ?_
  refine w_iload (n := 37) rfl rfl rfl ?_
  refine w_icmp_ge (n := 40) rfl rfl ⟨fun hc => ?_, fun hc => ?_⟩
  · replace H := H.1 hc
    refine w_aload_nR (x := 0) (n := 56) rfl rfl rfl ?_
    refine w_getR (b := 47) (n := 59) rfl rfl rfl rfl rfl ?_
    refine w_iconst (v := 1) (n := 60) rfl rfl rfl ?_
    refine w_iconst (v := 1) (n := 61) rfl rfl rfl ?_
    refine w_callv (as := [.ref 47, .int 1, .int 1]) (rest := []) (n := 64) rfl rfl rfl rfl ?_
    obtain ⟨I61, hI61, H⟩ := H
    refine ⟨I61, hI61, ?_⟩
    refine w_aload_nR (x := 0) (n := 65) rfl rfl rfl ?_
    refine w_getR (b := 47) (n := 68) rfl rfl rfl rfl rfl ?_
    refine w_iload (n := 70) rfl rfl rfl ?_
    refine w_iload_n (n := 71) rfl rfl rfl ?_
    refine w_callv (as := [.ref 47, .int x5, .int x3]) (rest := []) (n := 74) rfl rfl rfl rfl ?_
    obtain ⟨I71, hI71, H⟩ := H
    refine ⟨I71, hI71, ?_⟩
    refine w_iinc (y := x4 + 1) (ls' := [some (.ref 0), none, some (.int x2), some (.int x3), some (.int (x4 + 1)), some (.int x5), some (.int x6), some (.int x7)]) (n := 77) rfl rfl rfl rfl rfl ?_
    refine w_goto rfl ?_
    exact w_drp mm_Qf_v H (lb_s (lb_n (lb_s (lb_s (lb_s (lb_n (lb_n (lb_n lb_e))))))))
  · replace H := H.2 hc
    refine w_aload_nR (x := 0) (n := 41) rfl rfl rfl ?_
    refine w_getR (b := 47) (n := 44) rfl rfl rfl rfl rfl ?_
    refine w_iconst (v := 0) (n := 45) rfl rfl rfl ?_
    refine w_iconst (v := 1) (n := 46) rfl rfl rfl ?_
    refine w_callv (as := [.ref 47, .int 0, .int 1]) (rest := []) (n := 49) rfl rfl rfl rfl ?_
    obtain ⟨I46, hI46, H⟩ := H
    refine ⟨I46, hI46, ?_⟩
    refine w_iinc (y := x7 + 1) (ls' := [some (.ref 0), none, some (.int x2), some (.int x3), some (.int x4), some (.int x5), some (.int x6), some (.int (x7 + 1))]) (n := 52) rfl rfl rfl rfl rfl ?_
    refine w_goto rfl ?_
    exact w_drp mm_Qf_v H (lb_s (lb_n (lb_s (lb_s (lb_s (lb_s (lb_s (lb_s lb_e))))))))
theorem e_WS_store {P : Int32 → mm_I → Prop} {I : mm_I} (x1 : Int32)
  (H : mm_Mi 57 [.ref 47, .int x1] I (fun r5 I5 =>  -- Store.has
    (¬ r5 = 0 →
      vp_in x1 4000 ∧
      True) ∧
    P (if r5 = 0 then ((-1) : Int32) else (I5 48 x1.toNatClampNeg)) I5)) : mm_Mi 102 [.ref 0, .int x1] I P := by
  refine mm_Mi_of ?_
  show mm_W 102 0 [some (.ref 0), some (.int x1)] [] I (mm_qi 102 P)
  refine w_aload_nR (x := 0) (n := 1) rfl rfl rfl ?_
  refine w_getR (b := 47) (n := 4) rfl rfl rfl rfl rfl ?_
  refine w_iload_n (n := 5) rfl rfl rfl ?_
  refine w_calli (as := [.ref 47, .int x1]) (rest := []) (n := 8) rfl rfl rfl rfl ?_
  obtain ⟨r5, I5, hI5, H⟩ := H
  refine ⟨r5, I5, hI5, ?_⟩
  obtain ⟨K2, H⟩ := H
  have J8 : ∀ (w8_0 : Int32), w8_0 = (if r5 = 0 then ((-1) : Int32) else (I5 48 x1.toNatClampNeg)) → mm_W 102 24 [some (.ref 0), some (.int x1)] [.int w8_0] I5 (mm_qi 102 P) := by
    intro w8_0 e8_0
    subst e8_0
    exact w_ireturn rfl rfl H
  refine w_if_eq (n := 11) rfl rfl ⟨fun hc => ?_, fun hc => ?_⟩
  · refine w_iconst (v := (-1)) (n := 24) rfl rfl rfl ?_
    refine w_drp mm_Qf_i (J8 _ ?_) (lb_s (lb_s lb_e))
    · exact (if_pos hc).symm
  · have H := K2 hc
    refine w_aload_nR (x := 0) (n := 12) rfl rfl rfl ?_
    refine w_getR (b := 47) (n := 15) rfl rfl rfl rfl rfl ?_
    refine w_getR (b := 48) (n := 18) rfl rfl rfl rfl rfl ?_
    refine w_iload_n (n := 19) rfl rfl rfl ?_
    refine w_iaload (N := 4000) (j := x1.toNatClampNeg) (n := 20) rfl rfl rfl rfl rfl rfl ⟨H.1, ?_⟩
    replace H := H.2
    refine w_goto rfl ?_
    refine w_drp mm_Qf_i (J8 _ ?_) (lb_s (lb_s lb_e))
    · exact (if_neg hc).symm
theorem e_WS_spoil {P : Int32 → mm_I → Prop} {I : mm_I} (x1 : Int32) (x2 : Int32)
  (H : mm_Mi 57 [.ref 47, .int x1] I (fun r5 I5 =>  -- Store.has
    (r5 = 0 →
      P (-1) I5) ∧
    (¬ r5 = 0 →
      (x2 < 1 →
        P (-1) I5) ∧
      (1 ≤ x2 →
        (x2 ≤ 255 →
          vp_in x1 4000 ∧
          vp_in x1 4000 ∧
          vp_in x1 4000 ∧
          P ((mm_up I5 48 x1.toNatClampNeg ((I5 48 x1.toNatClampNeg) ^^^ x2)) 48 x1.toNatClampNeg) (mm_up I5 48 x1.toNatClampNeg ((I5 48 x1.toNatClampNeg) ^^^ x2))) ∧
        (255 < x2 →
          P (-1) I5))))) : mm_Mi 103 [.ref 0, .int x1, .int x2] I P := by
  refine mm_Mi_of ?_
  show mm_W 103 0 [some (.ref 0), some (.int x1), some (.int x2)] [] I (mm_qi 103 P)
  refine w_aload_nR (x := 0) (n := 1) rfl rfl rfl ?_
  refine w_getR (b := 47) (n := 4) rfl rfl rfl rfl rfl ?_
  refine w_iload_n (n := 5) rfl rfl rfl ?_
  refine w_calli (as := [.ref 47, .int x1]) (rest := []) (n := 8) rfl rfl rfl rfl ?_
  obtain ⟨r5, I5, hI5, H⟩ := H
  refine ⟨r5, I5, hI5, ?_⟩
  refine w_if_eq (n := 11) rfl rfl ⟨fun hc => ?_, fun hc => ?_⟩
  · replace H := H.1 hc
    refine w_iconst (v := (-1)) (n := 24) rfl rfl rfl ?_
    exact w_ireturn rfl rfl H
  · replace H := H.2 hc
    refine w_iload_n (n := 12) rfl rfl rfl ?_
    refine w_iconst (v := 1) (n := 13) rfl rfl rfl ?_
    refine w_icmp_lt (n := 16) rfl rfl ⟨fun hc => ?_, fun hc => ?_⟩
    · replace H := H.1 hc
      refine w_iconst (v := (-1)) (n := 24) rfl rfl rfl ?_
      exact w_ireturn rfl rfl H
    · replace H := H.2 hc
      refine w_iload_n (n := 17) rfl rfl rfl ?_
      refine w_sipush (v := 255) (n := 20) rfl rfl rfl ?_
      refine w_icmp_le (n := 23) rfl rfl ⟨fun hc => ?_, fun hc => ?_⟩
      · replace H := H.1 hc
        refine w_aload_nR (x := 0) (n := 26) rfl rfl rfl ?_
        refine w_getR (b := 47) (n := 29) rfl rfl rfl rfl rfl ?_
        refine w_getR (b := 48) (n := 32) rfl rfl rfl rfl rfl ?_
        refine w_iload_n (n := 33) rfl rfl rfl ?_
        refine w_dup2 (n := 34) rfl rfl rfl ?_
        refine w_iaload (N := 4000) (j := x1.toNatClampNeg) (n := 35) rfl rfl rfl rfl rfl rfl ⟨H.1, ?_⟩
        replace H := H.2
        refine w_iload_n (n := 36) rfl rfl rfl ?_
        refine w_ixor (n := 37) rfl rfl ?_
        refine w_iastore (N := 4000) (j := x1.toNatClampNeg) (n := 38) rfl rfl rfl rfl rfl ⟨H.1, ?_⟩
        replace H := H.2
        refine w_aload_nR (x := 0) (n := 39) rfl rfl rfl ?_
        refine w_getR (b := 47) (n := 42) rfl rfl rfl rfl rfl ?_
        refine w_getR (b := 48) (n := 45) rfl rfl rfl rfl rfl ?_
        refine w_iload_n (n := 46) rfl rfl rfl ?_
        refine w_iaload (N := 4000) (j := x1.toNatClampNeg) (n := 47) rfl rfl rfl rfl rfl rfl ⟨H.1, ?_⟩
        replace H := H.2
        exact w_ireturn rfl rfl H
      · replace H := H.2 hc
        refine w_iconst (v := (-1)) (n := 24) rfl rfl rfl ?_
        exact w_ireturn rfl rfl H
theorem e_WS_drop {P : Int32 → mm_I → Prop} {I : mm_I} (x1 : Int32)
  (H : (x1 < 0 →
      P (-1) I) ∧
    (0 ≤ x1 →
      (x1 ≤ (I 47 1) →
        P ((I 47 1) - x1) (mm_up I 47 1 ((I 47 1) - x1))) ∧
      ((I 47 1) < x1 →
        P (-1) I))) : mm_Mi 104 [.ref 0, .int x1] I P := by
  refine mm_Mi_of ?_
  show mm_W 104 0 [some (.ref 0), some (.int x1)] [] I (mm_qi 104 P)
  refine w_iload_n (n := 1) rfl rfl rfl ?_
  refine w_if_lt (n := 4) rfl rfl ⟨fun hc => ?_, fun hc => ?_⟩
  · replace H := H.1 hc
    refine w_iconst (v := (-1)) (n := 16) rfl rfl rfl ?_
    exact w_ireturn rfl rfl H
  · replace H := H.2 hc
    refine w_iload_n (n := 5) rfl rfl rfl ?_
    refine w_aload_nR (x := 0) (n := 6) rfl rfl rfl ?_
    refine w_getR (b := 47) (n := 9) rfl rfl rfl rfl rfl ?_
    refine w_getI (n := 12) rfl rfl rfl rfl ?_
    refine w_icmp_le (n := 15) rfl rfl ⟨fun hc => ?_, fun hc => ?_⟩
    · replace H := H.1 hc
      refine w_aload_nR (x := 0) (n := 18) rfl rfl rfl ?_
      refine w_getR (b := 47) (n := 21) rfl rfl rfl rfl rfl ?_
      refine w_dup (n := 22) rfl rfl rfl ?_
      refine w_getI (n := 25) rfl rfl rfl rfl ?_
      refine w_iload_n (n := 26) rfl rfl rfl ?_
      refine w_isub (n := 27) rfl rfl ?_
      refine w_putI (n := 30) rfl rfl rfl rfl rfl ?_
      refine w_aload_nR (x := 0) (n := 31) rfl rfl rfl ?_
      refine w_getR (b := 47) (n := 34) rfl rfl rfl rfl rfl ?_
      refine w_getI (n := 37) rfl rfl rfl rfl ?_
      exact w_ireturn rfl rfl H
    · replace H := H.2 hc
      refine w_iconst (v := (-1)) (n := 16) rfl rfl rfl ?_
      exact w_ireturn rfl rfl H
theorem e_WS_take {P : Int32 → mm_I → Prop} {I : mm_I} (x1 : Int32)
  (H : mm_Mi 57 [.ref 47, .int x1] I (fun r5 I5 =>  -- Store.has
    (¬ r5 = 0 →
      vp_in x1 4000 ∧
      mm_W 105 27 [some (.ref 0), none, some (.int (I5 48 x1.toNatClampNeg)), some (.int (x1 + 1))] [] I5 (mm_qi 105 P)) ∧
    (r5 = 0 →
      P (-1) I5))) : mm_Mi 105 [.ref 0, .int x1] I P := by
  refine mm_Mi_of ?_
  show mm_W 105 0 [some (.ref 0), some (.int x1), none, none] [] I (mm_qi 105 P)
  refine w_aload_nR (x := 0) (n := 1) rfl rfl rfl ?_
  refine w_getR (b := 47) (n := 4) rfl rfl rfl rfl rfl ?_
  refine w_iload_n (n := 5) rfl rfl rfl ?_
  refine w_calli (as := [.ref 47, .int x1]) (rest := []) (n := 8) rfl rfl rfl rfl ?_
  obtain ⟨r5, I5, hI5, H⟩ := H
  refine ⟨r5, I5, hI5, ?_⟩
  refine w_if_ne (n := 11) rfl rfl ⟨fun hc => ?_, fun hc => ?_⟩
  · replace H := H.1 hc
    refine w_aload_nR (x := 0) (n := 14) rfl rfl rfl ?_
    refine w_getR (b := 47) (n := 17) rfl rfl rfl rfl rfl ?_
    refine w_getR (b := 48) (n := 20) rfl rfl rfl rfl rfl ?_
    refine w_iload_n (n := 21) rfl rfl rfl ?_
    refine w_iaload (N := 4000) (j := x1.toNatClampNeg) (n := 22) rfl rfl rfl rfl rfl rfl ⟨H.1, ?_⟩
    replace H := H.2
    refine w_istore_n (ls' := [some (.ref 0), some (.int x1), some (.int (I5 48 x1.toNatClampNeg)), none]) (n := 23) rfl rfl rfl rfl ?_
    refine w_iload_n (n := 24) rfl rfl rfl ?_
    refine w_iconst (v := 1) (n := 25) rfl rfl rfl ?_
    refine w_iadd (n := 26) rfl rfl ?_
    refine w_istore_n (ls' := [some (.ref 0), some (.int x1), some (.int (I5 48 x1.toNatClampNeg)), some (.int (x1 + 1))]) (n := 27) rfl rfl rfl rfl ?_
    exact w_drp mm_Qf_i H (lb_s (lb_n (lb_s (lb_s lb_e))))
  · replace H := H.2 hc
    refine w_iconst (v := (-1)) (n := 12) rfl rfl rfl ?_
    exact w_ireturn rfl rfl H
theorem c_WS_take_27 {P : Int32 → mm_I → Prop} {I : mm_I} (x2 : Int32) (x3 : Int32)
  (H : ((I 47 1) ≤ x3 →
      P x2 (mm_up I 47 1 ((I 47 1) - 1))) ∧
    (x3 < (I 47 1) →
      vp_in x3 4000 ∧
      vp_in (x3 - 1) 4000 ∧
      mm_W 105 27 [some (.ref 0), none, some (.int x2), some (.int (x3 + 1))] [] (mm_up I 48 ((x3 - 1).toNatClampNeg) (I 48 x3.toNatClampNeg)) (mm_qi 105 P))) : mm_W 105 27 [some (.ref 0), none, some (.int x2), some (.int x3)] [] I (mm_qi 105 P) := by
  refine w_iload_n (n := 28) rfl rfl rfl ?_
  refine w_aload_nR (x := 0) (n := 29) rfl rfl rfl ?_
  refine w_getR (b := 47) (n := 32) rfl rfl rfl rfl rfl ?_
  refine w_getI (n := 35) rfl rfl rfl rfl ?_
  refine w_icmp_ge (n := 38) rfl rfl ⟨fun hc => ?_, fun hc => ?_⟩
  · replace H := H.1 hc
    refine w_aload_nR (x := 0) (n := 65) rfl rfl rfl ?_
    refine w_getR (b := 47) (n := 68) rfl rfl rfl rfl rfl ?_
    refine w_dup (n := 69) rfl rfl rfl ?_
    refine w_getI (n := 72) rfl rfl rfl rfl ?_
    refine w_iconst (v := 1) (n := 73) rfl rfl rfl ?_
    refine w_isub (n := 74) rfl rfl ?_
    refine w_putI (n := 77) rfl rfl rfl rfl rfl ?_
    refine w_iload_n (n := 78) rfl rfl rfl ?_
    exact w_ireturn rfl rfl H
  · replace H := H.2 hc
    refine w_aload_nR (x := 0) (n := 39) rfl rfl rfl ?_
    refine w_getR (b := 47) (n := 42) rfl rfl rfl rfl rfl ?_
    refine w_getR (b := 48) (n := 45) rfl rfl rfl rfl rfl ?_
    refine w_iload_n (n := 46) rfl rfl rfl ?_
    refine w_iconst (v := 1) (n := 47) rfl rfl rfl ?_
    refine w_isub (n := 48) rfl rfl ?_
    refine w_aload_nR (x := 0) (n := 49) rfl rfl rfl ?_
    refine w_getR (b := 47) (n := 52) rfl rfl rfl rfl rfl ?_
    refine w_getR (b := 48) (n := 55) rfl rfl rfl rfl rfl ?_
    refine w_iload_n (n := 56) rfl rfl rfl ?_
    refine w_iaload (N := 4000) (j := x3.toNatClampNeg) (n := 57) rfl rfl rfl rfl rfl rfl ⟨H.1, ?_⟩
    replace H := H.2
    refine w_iastore (N := 4000) (j := (x3 - 1).toNatClampNeg) (n := 58) rfl rfl rfl rfl rfl ⟨H.1, ?_⟩
    replace H := H.2
    refine w_iinc (y := x3 + 1) (ls' := [some (.ref 0), none, some (.int x2), some (.int (x3 + 1))]) (n := 61) rfl rfl rfl rfl rfl ?_
    refine w_goto rfl ?_
    exact w_drp mm_Qf_i H (lb_s (lb_n (lb_s (lb_s lb_e))))
theorem e_WS_head {P : Int32 → mm_I → Prop} {I : mm_I}
  (H : mm_Mi 24 [.ref 46] I (fun r4 I4 =>  -- Reader.readHead
    P r4 I4)) : mm_Mi 106 [.ref 0] I P := by
  refine mm_Mi_of ?_
  show mm_W 106 0 [some (.ref 0)] [] I (mm_qi 106 P)
  refine w_aload_nR (x := 0) (n := 1) rfl rfl rfl ?_
  refine w_getR (b := 46) (n := 4) rfl rfl rfl rfl rfl ?_
  refine w_calli (as := [.ref 46]) (rest := []) (n := 7) rfl rfl rfl rfl ?_
  obtain ⟨r4, I4, hI4, H⟩ := H
  refine ⟨r4, I4, hI4, ?_⟩
  exact w_ireturn rfl rfl H
theorem e_WS_good {P : Int32 → mm_I → Prop} {I : mm_I}
  (H : mm_Mi 24 [.ref 46] I (fun r4 I4 =>  -- Reader.readHead
    (r4 = 0 →
      mm_Mv 36 [.ref 46] I4 (fun I16 =>  -- Reader.find
      mm_W 107 23 [some (.ref 0), some (.int 0), some (.int 0)] [] I16 (mm_qi 107 P))) ∧
    (¬ r4 = 0 →
      P (-1) I4))) : mm_Mi 107 [.ref 0] I P := by
  refine mm_Mi_of ?_
  show mm_W 107 0 [some (.ref 0), none, none] [] I (mm_qi 107 P)
  refine w_aload_nR (x := 0) (n := 1) rfl rfl rfl ?_
  refine w_getR (b := 46) (n := 4) rfl rfl rfl rfl rfl ?_
  refine w_calli (as := [.ref 46]) (rest := []) (n := 7) rfl rfl rfl rfl ?_
  obtain ⟨r4, I4, hI4, H⟩ := H
  refine ⟨r4, I4, hI4, ?_⟩
  refine w_if_eq (n := 10) rfl rfl ⟨fun hc => ?_, fun hc => ?_⟩
  · replace H := H.1 hc
    refine w_aload_nR (x := 0) (n := 13) rfl rfl rfl ?_
    refine w_getR (b := 46) (n := 16) rfl rfl rfl rfl rfl ?_
    refine w_callv (as := [.ref 46]) (rest := []) (n := 19) rfl rfl rfl rfl ?_
    obtain ⟨I16, hI16, H⟩ := H
    refine ⟨I16, hI16, ?_⟩
    refine w_iconst (v := 0) (n := 20) rfl rfl rfl ?_
    refine w_istore_n (ls' := [some (.ref 0), some (.int 0), none]) (n := 21) rfl rfl rfl rfl ?_
    refine w_iconst (v := 0) (n := 22) rfl rfl rfl ?_
    refine w_istore_n (ls' := [some (.ref 0), some (.int 0), some (.int 0)]) (n := 23) rfl rfl rfl rfl ?_
    exact w_drp mm_Qf_i H (lb_s (lb_s (lb_s lb_e)))
  · replace H := H.2 hc
    refine w_iconst (v := (-1)) (n := 11) rfl rfl rfl ?_
    exact w_ireturn rfl rfl H
theorem c_WS_good_23 {P : Int32 → mm_I → Prop} {I : mm_I} (x1 : Int32) (x2 : Int32)
  (H : (16 ≤ x2 →
      P x1 I) ∧
    (x2 < 16 →
      vp_in x2 16 ∧
      mm_W 107 23 [some (.ref 0), some (.int (if (I 55 x2.toNatClampNeg) = (-1) then (x1 : Int32) else x1 ||| (1 <<< (x2 &&& 31)))), some (.int (x2 + 1))] [] I (mm_qi 107 P))) : mm_W 107 23 [some (.ref 0), some (.int x1), some (.int x2)] [] I (mm_qi 107 P) := by
  refine w_iload_n (n := 24) rfl rfl rfl ?_
  refine w_bipush (v := 16) (n := 26) rfl rfl rfl ?_
  refine w_icmp_ge (n := 29) rfl rfl ⟨fun hc => ?_, fun hc => ?_⟩
  · replace H := H.1 hc
    refine w_iload_n (n := 55) rfl rfl rfl ?_
    exact w_ireturn rfl rfl H
  · replace H := H.2 hc
    refine w_aload_nR (x := 0) (n := 30) rfl rfl rfl ?_
    refine w_getR (b := 46) (n := 33) rfl rfl rfl rfl rfl ?_
    refine w_getR (b := 55) (n := 36) rfl rfl rfl rfl rfl ?_
    refine w_iload_n (n := 37) rfl rfl rfl ?_
    refine w_iaload (N := 16) (j := x2.toNatClampNeg) (n := 38) rfl rfl rfl rfl rfl rfl ⟨H.1, ?_⟩
    replace H := H.2
    refine w_iconst (v := (-1)) (n := 39) rfl rfl rfl ?_
    have J39 : ∀ (y39_1 : Int32), y39_1 = (if (I 55 x2.toNatClampNeg) = (-1) then (x1 : Int32) else x1 ||| (1 <<< (x2 &&& 31))) → mm_W 107 48 [some (.ref 0), some (.int y39_1), some (.int x2)] [] I (mm_qi 107 P) := by
      intro y39_1 e39_0
      subst e39_0
      refine w_iinc (y := x2 + 1) (ls' := [some (.ref 0), some (.int (if (I 55 x2.toNatClampNeg) = (-1) then (x1 : Int32) else x1 ||| (1 <<< (x2 &&& 31)))), some (.int (x2 + 1))]) (n := 51) rfl rfl rfl rfl rfl ?_
      refine w_goto rfl ?_
      exact w_drp mm_Qf_i H (lb_s (lb_s (lb_s lb_e)))
    refine w_icmp_eq (n := 42) rfl rfl ⟨fun hc => ?_, fun hc => ?_⟩
    · refine w_drp mm_Qf_i (J39 _ ?_) (lb_s (lb_s (lb_s lb_e)))
      · exact (if_pos hc).symm
    · refine w_iload_n (n := 43) rfl rfl rfl ?_
      refine w_iconst (v := 1) (n := 44) rfl rfl rfl ?_
      refine w_iload_n (n := 45) rfl rfl rfl ?_
      refine w_ishl (n := 46) rfl rfl ?_
      refine w_ior (n := 47) rfl rfl ?_
      refine w_istore_n (ls' := [some (.ref 0), some (.int (x1 ||| (1 <<< (x2 &&& 31)))), some (.int x2)]) (n := 48) rfl rfl rfl rfl ?_
      refine w_drp mm_Qf_i (J39 _ ?_) (lb_s (lb_s (lb_s lb_e)))
      · exact (if_neg hc).symm
theorem e_WS_seek {P : Int32 → mm_I → Prop} {I : mm_I} (x1 : Int32) (x2 : Int32)
  (H : (x2 < 0 →
      P (-1) I) ∧
    (0 ≤ x2 →
      (1 < x2 →
        P (-1) I) ∧
      (x2 ≤ 1 →
        (x1 < 0 →
          P (-1) I) ∧
        (0 ≤ x1 →
          (16 ≤ x1 →
            P (-1) I) ∧
          (x1 < 16 →
            mm_Mi 24 [.ref 46] I (fun r23 I23 =>  -- Reader.readHead
            (r23 = 0 →
              mm_Mv 36 [.ref 46] I23 (fun I35 =>  -- Reader.find
              (¬ x2 = 0 →
                vp_in x1 16 ∧
                True) ∧
              (x2 = 0 →
                vp_in x1 16 ∧
                True) ∧
              P (if x2 = 0 then ((I35 55 x1.toNatClampNeg) : Int32) else (I35 56 x1.toNatClampNeg)) I35)) ∧
            (¬ r23 = 0 →
              P (-1) I23))))))) : mm_Mi 108 [.ref 0, .int x1, .int x2] I P := by
  refine mm_Mi_of ?_
  show mm_W 108 0 [some (.ref 0), some (.int x1), some (.int x2)] [] I (mm_qi 108 P)
  refine w_iload_n (n := 1) rfl rfl rfl ?_
  refine w_if_lt (n := 4) rfl rfl ⟨fun hc => ?_, fun hc => ?_⟩
  · replace H := H.1 hc
    refine w_iconst (v := (-1)) (n := 30) rfl rfl rfl ?_
    exact w_ireturn rfl rfl H
  · replace H := H.2 hc
    refine w_iload_n (n := 5) rfl rfl rfl ?_
    refine w_iconst (v := 1) (n := 6) rfl rfl rfl ?_
    refine w_icmp_gt (n := 9) rfl rfl ⟨fun hc => ?_, fun hc => ?_⟩
    · replace H := H.1 hc
      refine w_iconst (v := (-1)) (n := 30) rfl rfl rfl ?_
      exact w_ireturn rfl rfl H
    · replace H := H.2 hc
      refine w_iload_n (n := 10) rfl rfl rfl ?_
      refine w_if_lt (n := 13) rfl rfl ⟨fun hc => ?_, fun hc => ?_⟩
      · replace H := H.1 hc
        refine w_iconst (v := (-1)) (n := 30) rfl rfl rfl ?_
        exact w_ireturn rfl rfl H
      · replace H := H.2 hc
        refine w_iload_n (n := 14) rfl rfl rfl ?_
        refine w_bipush (v := 16) (n := 16) rfl rfl rfl ?_
        refine w_icmp_ge (n := 19) rfl rfl ⟨fun hc => ?_, fun hc => ?_⟩
        · replace H := H.1 hc
          refine w_iconst (v := (-1)) (n := 30) rfl rfl rfl ?_
          exact w_ireturn rfl rfl H
        · replace H := H.2 hc
          refine w_aload_nR (x := 0) (n := 20) rfl rfl rfl ?_
          refine w_getR (b := 46) (n := 23) rfl rfl rfl rfl rfl ?_
          refine w_calli (as := [.ref 46]) (rest := []) (n := 26) rfl rfl rfl rfl ?_
          obtain ⟨r23, I23, hI23, H⟩ := H
          refine ⟨r23, I23, hI23, ?_⟩
          refine w_if_eq (n := 29) rfl rfl ⟨fun hc => ?_, fun hc => ?_⟩
          · replace H := H.1 hc
            refine w_aload_nR (x := 0) (n := 32) rfl rfl rfl ?_
            refine w_getR (b := 46) (n := 35) rfl rfl rfl rfl rfl ?_
            refine w_callv (as := [.ref 46]) (rest := []) (n := 38) rfl rfl rfl rfl ?_
            obtain ⟨I35, hI35, H⟩ := H
            refine ⟨I35, hI35, ?_⟩
            refine w_iload_n (n := 39) rfl rfl rfl ?_
            obtain ⟨K1, K2, H⟩ := H
            have J39 : ∀ (w39_0 : Int32), w39_0 = (if x2 = 0 then ((I35 55 x1.toNatClampNeg) : Int32) else (I35 56 x1.toNatClampNeg)) → mm_W 108 63 [some (.ref 0), some (.int x1), some (.int x2)] [.int w39_0] I35 (mm_qi 108 P) := by
              intro w39_0 e39_0
              subst e39_0
              exact w_ireturn rfl rfl H
            refine w_if_ne (n := 42) rfl rfl ⟨fun hc => ?_, fun hc => ?_⟩
            · have H := K1 hc
              refine w_aload_nR (x := 0) (n := 55) rfl rfl rfl ?_
              refine w_getR (b := 46) (n := 58) rfl rfl rfl rfl rfl ?_
              refine w_getR (b := 56) (n := 61) rfl rfl rfl rfl rfl ?_
              refine w_iload_n (n := 62) rfl rfl rfl ?_
              refine w_iaload (N := 16) (j := x1.toNatClampNeg) (n := 63) rfl rfl rfl rfl rfl rfl ⟨H.1, ?_⟩
              replace H := H.2
              refine w_drp mm_Qf_i (J39 _ ?_) (lb_s (lb_s (lb_s lb_e)))
              · exact (if_neg hc).symm
            · have H := K2 hc
              refine w_aload_nR (x := 0) (n := 43) rfl rfl rfl ?_
              refine w_getR (b := 46) (n := 46) rfl rfl rfl rfl rfl ?_
              refine w_getR (b := 55) (n := 49) rfl rfl rfl rfl rfl ?_
              refine w_iload_n (n := 50) rfl rfl rfl ?_
              refine w_iaload (N := 16) (j := x1.toNatClampNeg) (n := 51) rfl rfl rfl rfl rfl rfl ⟨H.1, ?_⟩
              replace H := H.2
              refine w_goto rfl ?_
              refine w_drp mm_Qf_i (J39 _ ?_) (lb_s (lb_s (lb_s lb_e)))
              · exact (if_pos hc).symm
          · replace H := H.2 hc
            refine w_iconst (v := (-1)) (n := 30) rfl rfl rfl ?_
            exact w_ireturn rfl rfl H
theorem e_WS_holds {P : Int32 → mm_I → Prop} {I : mm_I} (x1 : Int32)
  (H : mm_Mi 24 [.ref 46] I (fun r4 I4 =>  -- Reader.readHead
    (¬ r4 = 0 →
      P (-1) I4) ∧
    (r4 = 0 →
      (x1 < 0 →
        P (-1) I4) ∧
      (0 ≤ x1 →
        ((I4 46 5) ≤ x1 →
          P (-1) I4) ∧
        (x1 < (I4 46 5) →
          (0 < (I4 46 4) →
            ¬ (I4 46 4) = 0 ∧
            P (x1 / (I4 46 4)) I4) ∧
          ((I4 46 4) ≤ 0 →
            P (-1) I4)))))) : mm_Mi 109 [.ref 0, .int x1] I P := by
  refine mm_Mi_of ?_
  show mm_W 109 0 [some (.ref 0), some (.int x1)] [] I (mm_qi 109 P)
  refine w_aload_nR (x := 0) (n := 1) rfl rfl rfl ?_
  refine w_getR (b := 46) (n := 4) rfl rfl rfl rfl rfl ?_
  refine w_calli (as := [.ref 46]) (rest := []) (n := 7) rfl rfl rfl rfl ?_
  obtain ⟨r4, I4, hI4, H⟩ := H
  refine ⟨r4, I4, hI4, ?_⟩
  refine w_if_ne (n := 10) rfl rfl ⟨fun hc => ?_, fun hc => ?_⟩
  · replace H := H.1 hc
    refine w_iconst (v := (-1)) (n := 36) rfl rfl rfl ?_
    exact w_ireturn rfl rfl H
  · replace H := H.2 hc
    refine w_iload_n (n := 11) rfl rfl rfl ?_
    refine w_if_lt (n := 14) rfl rfl ⟨fun hc => ?_, fun hc => ?_⟩
    · replace H := H.1 hc
      refine w_iconst (v := (-1)) (n := 36) rfl rfl rfl ?_
      exact w_ireturn rfl rfl H
    · replace H := H.2 hc
      refine w_iload_n (n := 15) rfl rfl rfl ?_
      refine w_aload_nR (x := 0) (n := 16) rfl rfl rfl ?_
      refine w_getR (b := 46) (n := 19) rfl rfl rfl rfl rfl ?_
      refine w_getI (n := 22) rfl rfl rfl rfl ?_
      refine w_icmp_ge (n := 25) rfl rfl ⟨fun hc => ?_, fun hc => ?_⟩
      · replace H := H.1 hc
        refine w_iconst (v := (-1)) (n := 36) rfl rfl rfl ?_
        exact w_ireturn rfl rfl H
      · replace H := H.2 hc
        refine w_aload_nR (x := 0) (n := 26) rfl rfl rfl ?_
        refine w_getR (b := 46) (n := 29) rfl rfl rfl rfl rfl ?_
        refine w_getI (n := 32) rfl rfl rfl rfl ?_
        refine w_if_gt (n := 35) rfl rfl ⟨fun hc => ?_, fun hc => ?_⟩
        · replace H := H.1 hc
          refine w_iload_n (n := 38) rfl rfl rfl ?_
          refine w_aload_nR (x := 0) (n := 39) rfl rfl rfl ?_
          refine w_getR (b := 46) (n := 42) rfl rfl rfl rfl rfl ?_
          refine w_getI (n := 45) rfl rfl rfl rfl ?_
          refine w_idiv (n := 46) rfl rfl ⟨H.1, ?_⟩
          replace H := H.2
          exact w_ireturn rfl rfl H
        · replace H := H.2 hc
          refine w_iconst (v := (-1)) (n := 36) rfl rfl rfl ?_
          exact w_ireturn rfl rfl H
theorem e_WS_near {P : Int32 → mm_I → Prop} {I : mm_I} (x1 : Int32)
  (H : mm_Mi 57 [.ref 47, .int x1] I (fun r5 I5 =>  -- Store.has
    (r5 = 0 →
      P (-1) I5) ∧
    (¬ r5 = 0 →
      mm_Mi 24 [.ref 46] I5 (fun r15 I15 =>  -- Reader.readHead
      (r15 = 0 →
        mm_W 110 25 [some (.ref 0), none, some (.int x1)] [] I15 (mm_qi 110 P)) ∧
      (¬ r15 = 0 →
        P (-1) I15))))) : mm_Mi 110 [.ref 0, .int x1] I P := by
  refine mm_Mi_of ?_
  show mm_W 110 0 [some (.ref 0), some (.int x1), none] [] I (mm_qi 110 P)
  refine w_aload_nR (x := 0) (n := 1) rfl rfl rfl ?_
  refine w_getR (b := 47) (n := 4) rfl rfl rfl rfl rfl ?_
  refine w_iload_n (n := 5) rfl rfl rfl ?_
  refine w_calli (as := [.ref 47, .int x1]) (rest := []) (n := 8) rfl rfl rfl rfl ?_
  obtain ⟨r5, I5, hI5, H⟩ := H
  refine ⟨r5, I5, hI5, ?_⟩
  refine w_if_eq (n := 11) rfl rfl ⟨fun hc => ?_, fun hc => ?_⟩
  · replace H := H.1 hc
    refine w_iconst (v := (-1)) (n := 22) rfl rfl rfl ?_
    exact w_ireturn rfl rfl H
  · replace H := H.2 hc
    refine w_aload_nR (x := 0) (n := 12) rfl rfl rfl ?_
    refine w_getR (b := 46) (n := 15) rfl rfl rfl rfl rfl ?_
    refine w_calli (as := [.ref 46]) (rest := []) (n := 18) rfl rfl rfl rfl ?_
    obtain ⟨r15, I15, hI15, H⟩ := H
    refine ⟨r15, I15, hI15, ?_⟩
    refine w_if_eq (n := 21) rfl rfl ⟨fun hc => ?_, fun hc => ?_⟩
    · replace H := H.1 hc
      refine w_iload_n (n := 24) rfl rfl rfl ?_
      refine w_istore_n (ls' := [some (.ref 0), some (.int x1), some (.int x1)]) (n := 25) rfl rfl rfl rfl ?_
      exact w_drp mm_Qf_i H (lb_s (lb_n (lb_s lb_e)))
    · replace H := H.2 hc
      refine w_iconst (v := (-1)) (n := 22) rfl rfl rfl ?_
      exact w_ireturn rfl rfl H
theorem c_WS_near_25 {P : Int32 → mm_I → Prop} {I : mm_I} (x2 : Int32)
  (H : ((I 47 1) ≤ x2 →
      P (-1) I) ∧
    (x2 < (I 47 1) →
      mm_Mi 27 [.ref 46, .int x2] I (fun r41 I41 =>  -- Reader.lengthAt
      (r41 = (-1) →
        mm_W 110 25 [some (.ref 0), none, some (.int (x2 + 1))] [] I41 (mm_qi 110 P)) ∧
      (¬ r41 = (-1) →
        P x2 I41)))) : mm_W 110 25 [some (.ref 0), none, some (.int x2)] [] I (mm_qi 110 P) := by
  refine w_iload_n (n := 26) rfl rfl rfl ?_
  refine w_aload_nR (x := 0) (n := 27) rfl rfl rfl ?_
  refine w_getR (b := 47) (n := 30) rfl rfl rfl rfl rfl ?_
  refine w_getI (n := 33) rfl rfl rfl rfl ?_
  refine w_icmp_ge (n := 36) rfl rfl ⟨fun hc => ?_, fun hc => ?_⟩
  · replace H := H.1 hc
    refine w_iconst (v := (-1)) (n := 57) rfl rfl rfl ?_
    exact w_ireturn rfl rfl H
  · replace H := H.2 hc
    refine w_aload_nR (x := 0) (n := 37) rfl rfl rfl ?_
    refine w_getR (b := 46) (n := 40) rfl rfl rfl rfl rfl ?_
    refine w_iload_n (n := 41) rfl rfl rfl ?_
    refine w_calli (as := [.ref 46, .int x2]) (rest := []) (n := 44) rfl rfl rfl rfl ?_
    obtain ⟨r41, I41, hI41, H⟩ := H
    refine ⟨r41, I41, hI41, ?_⟩
    refine w_iconst (v := (-1)) (n := 45) rfl rfl rfl ?_
    refine w_icmp_eq (n := 48) rfl rfl ⟨fun hc => ?_, fun hc => ?_⟩
    · replace H := H.1 hc
      refine w_iinc (y := x2 + 1) (ls' := [some (.ref 0), none, some (.int (x2 + 1))]) (n := 53) rfl rfl rfl rfl rfl ?_
      refine w_goto rfl ?_
      exact w_drp mm_Qf_i H (lb_s (lb_n (lb_s lb_e)))
    · replace H := H.2 hc
      refine w_iload_n (n := 49) rfl rfl rfl ?_
      exact w_ireturn rfl rfl H
theorem e_WS_at {P : Int32 → mm_I → Prop} {I : mm_I} (x1 : Int32)
  (H : mm_Mi 57 [.ref 47, .int x1] I (fun r5 I5 =>  -- Store.has
    (r5 = 0 →
      P (-1) I5) ∧
    (¬ r5 = 0 →
      mm_Mi 24 [.ref 46] I5 (fun r15 I15 =>  -- Reader.readHead
      (¬ r15 = 0 →
        P (-1) I15) ∧
      (r15 = 0 →
        mm_Mi 27 [.ref 46, .int x1] I15 (fun r26 I26 =>  -- Reader.lengthAt
        (¬ r26 = (-1) →
          mm_Mi 26 [.ref 46, .int x1] I26 (fun r40 I40 =>  -- Reader.numberAt
          P r40 I40)) ∧
        (r26 = (-1) →
          P (-1) I26))))))) : mm_Mi 111 [.ref 0, .int x1] I P := by
  refine mm_Mi_of ?_
  show mm_W 111 0 [some (.ref 0), some (.int x1)] [] I (mm_qi 111 P)
  refine w_aload_nR (x := 0) (n := 1) rfl rfl rfl ?_
  refine w_getR (b := 47) (n := 4) rfl rfl rfl rfl rfl ?_
  refine w_iload_n (n := 5) rfl rfl rfl ?_
  refine w_calli (as := [.ref 47, .int x1]) (rest := []) (n := 8) rfl rfl rfl rfl ?_
  obtain ⟨r5, I5, hI5, H⟩ := H
  refine ⟨r5, I5, hI5, ?_⟩
  refine w_if_eq (n := 11) rfl rfl ⟨fun hc => ?_, fun hc => ?_⟩
  · replace H := H.1 hc
    refine w_iconst (v := (-1)) (n := 34) rfl rfl rfl ?_
    exact w_ireturn rfl rfl H
  · replace H := H.2 hc
    refine w_aload_nR (x := 0) (n := 12) rfl rfl rfl ?_
    refine w_getR (b := 46) (n := 15) rfl rfl rfl rfl rfl ?_
    refine w_calli (as := [.ref 46]) (rest := []) (n := 18) rfl rfl rfl rfl ?_
    obtain ⟨r15, I15, hI15, H⟩ := H
    refine ⟨r15, I15, hI15, ?_⟩
    refine w_if_ne (n := 21) rfl rfl ⟨fun hc => ?_, fun hc => ?_⟩
    · replace H := H.1 hc
      refine w_iconst (v := (-1)) (n := 34) rfl rfl rfl ?_
      exact w_ireturn rfl rfl H
    · replace H := H.2 hc
      refine w_aload_nR (x := 0) (n := 22) rfl rfl rfl ?_
      refine w_getR (b := 46) (n := 25) rfl rfl rfl rfl rfl ?_
      refine w_iload_n (n := 26) rfl rfl rfl ?_
      refine w_calli (as := [.ref 46, .int x1]) (rest := []) (n := 29) rfl rfl rfl rfl ?_
      obtain ⟨r26, I26, hI26, H⟩ := H
      refine ⟨r26, I26, hI26, ?_⟩
      refine w_iconst (v := (-1)) (n := 30) rfl rfl rfl ?_
      refine w_icmp_ne (n := 33) rfl rfl ⟨fun hc => ?_, fun hc => ?_⟩
      · replace H := H.1 hc
        refine w_aload_nR (x := 0) (n := 36) rfl rfl rfl ?_
        refine w_getR (b := 46) (n := 39) rfl rfl rfl rfl rfl ?_
        refine w_iload_n (n := 40) rfl rfl rfl ?_
        refine w_calli (as := [.ref 46, .int x1]) (rest := []) (n := 43) rfl rfl rfl rfl ?_
        obtain ⟨r40, I40, hI40, H⟩ := H
        refine ⟨r40, I40, hI40, ?_⟩
        exact w_ireturn rfl rfl H
      · replace H := H.2 hc
        refine w_iconst (v := (-1)) (n := 34) rfl rfl rfl ?_
        exact w_ireturn rfl rfl H
theorem e_WS_heard {Q : mm_S → Prop} (hQ : mm_Qf Q) {I : mm_I} (x1 : Int32) (x2 : Int32)
  (H : mm_Mi 24 [.ref 46] I (fun r4 I4 =>  -- Reader.readHead
    (¬ r4 = 0 →
      Q (40, [some (.ref 0), some (.int x1), some (.int x2)], [], (mm_lay, I4))) ∧
    (r4 = 0 →
      (x1 < 0 →
        Q (40, [some (.ref 0), some (.int x1), some (.int x2)], [], (mm_lay, I4))) ∧
      (0 ≤ x1 →
        ((I4 46 2) ≤ x1 →
          Q (40, [some (.ref 0), some (.int x1), some (.int x2)], [], (mm_lay, I4))) ∧
        (x1 < (I4 46 2) →
          (x2 < 0 →
            Q (40, [some (.ref 0), some (.int x1), some (.int x2)], [], (mm_lay, I4))) ∧
          (0 ≤ x2 →
            (x2 < (I4 46 5) →
              mm_Mv 36 [.ref 46] I4 (fun I52 =>  -- Reader.find
              vp_in ((x1 * 256) + x2) 512 ∧
              Q (70, [some (.ref 0), some (.int x1), some (.int x2)], [.int (I52 57 (((x1 * 256) + x2).toNatClampNeg))], (mm_lay, I52)))) ∧
            ((I4 46 5) ≤ x2 →
              Q (40, [some (.ref 0), some (.int x1), some (.int x2)], [], (mm_lay, I4))))))))) : mm_W 112 0 (mm_ent (mm_mL 112) [.ref 0, .int x1, .int x2]) [] I Q := by
  show mm_W 112 0 [some (.ref 0), some (.int x1), some (.int x2)] [] I Q
  refine w_aload_nR (x := 0) (n := 1) rfl rfl rfl ?_
  refine w_getR (b := 46) (n := 4) rfl rfl rfl rfl rfl ?_
  refine w_calli (as := [.ref 46]) (rest := []) (n := 7) rfl rfl rfl rfl ?_
  obtain ⟨r4, I4, hI4, H⟩ := H
  refine ⟨r4, I4, hI4, ?_⟩
  refine w_if_ne (n := 10) rfl rfl ⟨fun hc => ?_, fun hc => ?_⟩
  · replace H := H.1 hc
    exact mm_W.end rfl rfl H
  · replace H := H.2 hc
    refine w_iload_n (n := 11) rfl rfl rfl ?_
    refine w_if_lt (n := 14) rfl rfl ⟨fun hc => ?_, fun hc => ?_⟩
    · replace H := H.1 hc
      exact mm_W.end rfl rfl H
    · replace H := H.2 hc
      refine w_iload_n (n := 15) rfl rfl rfl ?_
      refine w_aload_nR (x := 0) (n := 16) rfl rfl rfl ?_
      refine w_getR (b := 46) (n := 19) rfl rfl rfl rfl rfl ?_
      refine w_getI (n := 22) rfl rfl rfl rfl ?_
      refine w_icmp_ge (n := 25) rfl rfl ⟨fun hc => ?_, fun hc => ?_⟩
      · replace H := H.1 hc
        exact mm_W.end rfl rfl H
      · replace H := H.2 hc
        refine w_iload_n (n := 26) rfl rfl rfl ?_
        refine w_if_lt (n := 29) rfl rfl ⟨fun hc => ?_, fun hc => ?_⟩
        · replace H := H.1 hc
          exact mm_W.end rfl rfl H
        · replace H := H.2 hc
          refine w_iload_n (n := 30) rfl rfl rfl ?_
          refine w_aload_nR (x := 0) (n := 31) rfl rfl rfl ?_
          refine w_getR (b := 46) (n := 34) rfl rfl rfl rfl rfl ?_
          refine w_getI (n := 37) rfl rfl rfl rfl ?_
          refine w_icmp_lt (n := 40) rfl rfl ⟨fun hc => ?_, fun hc => ?_⟩
          · replace H := H.1 hc
            refine w_aload_nR (x := 0) (n := 49) rfl rfl rfl ?_
            refine w_getR (b := 46) (n := 52) rfl rfl rfl rfl rfl ?_
            refine w_callv (as := [.ref 46]) (rest := []) (n := 55) rfl rfl rfl rfl ?_
            obtain ⟨I52, hI52, H⟩ := H
            refine ⟨I52, hI52, ?_⟩
            refine w_aload_nR (x := 0) (n := 56) rfl rfl rfl ?_
            refine w_getR (b := 46) (n := 59) rfl rfl rfl rfl rfl ?_
            refine w_getR (b := 57) (n := 62) rfl rfl rfl rfl rfl ?_
            refine w_iload_n (n := 63) rfl rfl rfl ?_
            refine w_sipush (v := 256) (n := 66) rfl rfl rfl ?_
            refine w_imul (n := 67) rfl rfl ?_
            refine w_iload_n (n := 68) rfl rfl rfl ?_
            refine w_iadd (n := 69) rfl rfl ?_
            refine w_iaload (N := 512) (j := ((x1 * 256) + x2).toNatClampNeg) (n := 70) rfl rfl rfl rfl rfl rfl ⟨H.1, ?_⟩
            replace H := H.2
            exact mm_W.end rfl rfl H
          · replace H := H.2 hc
            exact mm_W.end rfl rfl H
theorem e_WS_same {P : Int32 → mm_I → Prop} {I : mm_I}
  (H : mm_Mi 24 [.ref 46] I (fun r4 I4 =>  -- Reader.readHead
    (r4 = 0 →
      mm_Mv 36 [.ref 46] I4 (fun I16 =>  -- Reader.find
      mm_W 113 23 [some (.ref 0), some (.int 0), some (.int 0), none, none] [] I16 (mm_qi 113 P))) ∧
    (¬ r4 = 0 →
      P (-1) I4))) : mm_Mi 113 [.ref 0] I P := by
  refine mm_Mi_of ?_
  show mm_W 113 0 [some (.ref 0), none, none, none, none] [] I (mm_qi 113 P)
  refine w_aload_nR (x := 0) (n := 1) rfl rfl rfl ?_
  refine w_getR (b := 46) (n := 4) rfl rfl rfl rfl rfl ?_
  refine w_calli (as := [.ref 46]) (rest := []) (n := 7) rfl rfl rfl rfl ?_
  obtain ⟨r4, I4, hI4, H⟩ := H
  refine ⟨r4, I4, hI4, ?_⟩
  refine w_if_eq (n := 10) rfl rfl ⟨fun hc => ?_, fun hc => ?_⟩
  · replace H := H.1 hc
    refine w_aload_nR (x := 0) (n := 13) rfl rfl rfl ?_
    refine w_getR (b := 46) (n := 16) rfl rfl rfl rfl rfl ?_
    refine w_callv (as := [.ref 46]) (rest := []) (n := 19) rfl rfl rfl rfl ?_
    obtain ⟨I16, hI16, H⟩ := H
    refine ⟨I16, hI16, ?_⟩
    refine w_iconst (v := 0) (n := 20) rfl rfl rfl ?_
    refine w_istore_n (ls' := [some (.ref 0), some (.int 0), none, none, none]) (n := 21) rfl rfl rfl rfl ?_
    refine w_iconst (v := 0) (n := 22) rfl rfl rfl ?_
    refine w_istore_n (ls' := [some (.ref 0), some (.int 0), some (.int 0), none, none]) (n := 23) rfl rfl rfl rfl ?_
    exact w_drp mm_Qf_i H (lb_s (lb_s (lb_s (lb_n (lb_n lb_e)))))
  · replace H := H.2 hc
    refine w_iconst (v := (-1)) (n := 11) rfl rfl rfl ?_
    exact w_ireturn rfl rfl H
theorem c_WS_same_23 {P : Int32 → mm_I → Prop} {I : mm_I} (x1 : Int32) (x2 : Int32)
  (H : ((I 3 2) ≤ x2 →
      P x1 I) ∧
    (x2 < (I 3 2) →
      ((I 46 2) ≤ x2 →
        P x1 I) ∧
      (x2 < (I 46 2) →
        vp_in x2 2 ∧
        mm_Mi 226 [.int (I 5 x2.toNatClampNeg), .int (I 46 5)] I (fun r61 I61 =>  -- Math.min
        mm_W 113 68 [some (.ref 0), some (.int x1), some (.int x2), some (.int r61), some (.int 0)] [] I61 (mm_qi 113 P))))) : mm_W 113 23 [some (.ref 0), some (.int x1), some (.int x2), none, none] [] I (mm_qi 113 P) := by
  refine w_iload_n (n := 24) rfl rfl rfl ?_
  refine w_aload_nR (x := 0) (n := 25) rfl rfl rfl ?_
  refine w_getR (b := 3) (n := 28) rfl rfl rfl rfl rfl ?_
  refine w_getI (n := 31) rfl rfl rfl rfl ?_
  refine w_icmp_ge (n := 34) rfl rfl ⟨fun hc => ?_, fun hc => ?_⟩
  · replace H := H.1 hc
    refine w_iload_n (n := 119) rfl rfl rfl ?_
    exact w_ireturn rfl rfl H
  · replace H := H.2 hc
    refine w_iload_n (n := 35) rfl rfl rfl ?_
    refine w_aload_nR (x := 0) (n := 36) rfl rfl rfl ?_
    refine w_getR (b := 46) (n := 39) rfl rfl rfl rfl rfl ?_
    refine w_getI (n := 42) rfl rfl rfl rfl ?_
    refine w_icmp_ge (n := 45) rfl rfl ⟨fun hc => ?_, fun hc => ?_⟩
    · replace H := H.1 hc
      refine w_iload_n (n := 119) rfl rfl rfl ?_
      exact w_ireturn rfl rfl H
    · replace H := H.2 hc
      refine w_aload_nR (x := 0) (n := 46) rfl rfl rfl ?_
      refine w_getR (b := 3) (n := 49) rfl rfl rfl rfl rfl ?_
      refine w_getR (b := 5) (n := 52) rfl rfl rfl rfl rfl ?_
      refine w_iload_n (n := 53) rfl rfl rfl ?_
      refine w_iaload (N := 2) (j := x2.toNatClampNeg) (n := 54) rfl rfl rfl rfl rfl rfl ⟨H.1, ?_⟩
      replace H := H.2
      refine w_aload_nR (x := 0) (n := 55) rfl rfl rfl ?_
      refine w_getR (b := 46) (n := 58) rfl rfl rfl rfl rfl ?_
      refine w_getI (n := 61) rfl rfl rfl rfl ?_
      refine w_calli (as := [.int (I 5 x2.toNatClampNeg), .int (I 46 5)]) (rest := []) (n := 64) rfl rfl rfl rfl ?_
      obtain ⟨r61, I61, hI61, H⟩ := H
      refine ⟨r61, I61, hI61, ?_⟩
      refine w_istore_n (ls' := [some (.ref 0), some (.int x1), some (.int x2), some (.int r61), none]) (n := 65) rfl rfl rfl rfl ?_
      refine w_iconst (v := 0) (n := 66) rfl rfl rfl ?_
      refine w_istore (ls' := [some (.ref 0), some (.int x1), some (.int x2), some (.int r61), some (.int 0)]) (n := 68) rfl rfl rfl rfl ?_
      exact w_drp mm_Qf_i H (lb_s (lb_s (lb_s (lb_s (lb_s lb_e)))))
theorem c_WS_same_68 {P : Int32 → mm_I → Prop} {I : mm_I} (x1 : Int32) (x2 : Int32) (x3 : Int32) (x4 : Int32)
  (H : (x3 ≤ x4 →
      mm_W 113 23 [some (.ref 0), some (.int x1), some (.int (x2 + 1)), none, none] [] I (mm_qi 113 P)) ∧
    (x4 < x3 →
      mm_Mi 49 [.ref 3, .int x2, .int x4] I (fun r81 I81 =>  -- Sound.valueAt
      vp_in ((x2 * 256) + x4) 512 ∧
      mm_W 113 68 [some (.ref 0), some (.int (if r81 = (I81 57 (((x2 * 256) + x4).toNatClampNeg)) then (x1 + 1 : Int32) else x1)), some (.int x2), some (.int x3), some (.int (x4 + 1))] [] I81 (mm_qi 113 P)))) : mm_W 113 68 [some (.ref 0), some (.int x1), some (.int x2), some (.int x3), some (.int x4)] [] I (mm_qi 113 P) := by
  refine w_iload (n := 70) rfl rfl rfl ?_
  refine w_iload_n (n := 71) rfl rfl rfl ?_
  refine w_icmp_ge (n := 74) rfl rfl ⟨fun hc => ?_, fun hc => ?_⟩
  · replace H := H.1 hc
    refine w_iinc (y := x2 + 1) (ls' := [some (.ref 0), some (.int x1), some (.int (x2 + 1)), some (.int x3), some (.int x4)]) (n := 115) rfl rfl rfl rfl rfl ?_
    refine w_goto rfl ?_
    exact w_drp mm_Qf_i H (lb_s (lb_s (lb_s (lb_n (lb_n lb_e)))))
  · replace H := H.2 hc
    refine w_aload_nR (x := 0) (n := 75) rfl rfl rfl ?_
    refine w_getR (b := 3) (n := 78) rfl rfl rfl rfl rfl ?_
    refine w_iload_n (n := 79) rfl rfl rfl ?_
    refine w_iload (n := 81) rfl rfl rfl ?_
    refine w_calli (as := [.ref 3, .int x2, .int x4]) (rest := []) (n := 84) rfl rfl rfl rfl ?_
    obtain ⟨r81, I81, hI81, H⟩ := H
    refine ⟨r81, I81, hI81, ?_⟩
    refine w_aload_nR (x := 0) (n := 85) rfl rfl rfl ?_
    refine w_getR (b := 46) (n := 88) rfl rfl rfl rfl rfl ?_
    refine w_getR (b := 57) (n := 91) rfl rfl rfl rfl rfl ?_
    refine w_iload_n (n := 92) rfl rfl rfl ?_
    refine w_sipush (v := 256) (n := 95) rfl rfl rfl ?_
    refine w_imul (n := 96) rfl rfl ?_
    refine w_iload (n := 98) rfl rfl rfl ?_
    refine w_iadd (n := 99) rfl rfl ?_
    refine w_iaload (N := 512) (j := ((x2 * 256) + x4).toNatClampNeg) (n := 100) rfl rfl rfl rfl rfl rfl ⟨H.1, ?_⟩
    replace H := H.2
    have J100 : ∀ (y100_1 : Int32), y100_1 = (if r81 = (I81 57 (((x2 * 256) + x4).toNatClampNeg)) then (x1 + 1 : Int32) else x1) → mm_W 113 106 [some (.ref 0), some (.int y100_1), some (.int x2), some (.int x3), some (.int x4)] [] I81 (mm_qi 113 P) := by
      intro y100_1 e100_0
      subst e100_0
      refine w_iinc (y := x4 + 1) (ls' := [some (.ref 0), some (.int (if r81 = (I81 57 (((x2 * 256) + x4).toNatClampNeg)) then (x1 + 1 : Int32) else x1)), some (.int x2), some (.int x3), some (.int (x4 + 1))]) (n := 109) rfl rfl rfl rfl rfl ?_
      refine w_goto rfl ?_
      exact w_drp mm_Qf_i H (lb_s (lb_s (lb_s (lb_s (lb_s lb_e)))))
    refine w_icmp_ne (n := 103) rfl rfl ⟨fun hc => ?_, fun hc => ?_⟩
    · refine w_drp mm_Qf_i (J100 _ ?_) (lb_s (lb_s (lb_s (lb_s (lb_s lb_e)))))
      · exact (if_neg hc).symm
    · refine w_iinc (y := x1 + 1) (ls' := [some (.ref 0), some (.int (x1 + 1)), some (.int x2), some (.int x3), some (.int x4)]) (n := 106) rfl rfl rfl rfl rfl ?_
      refine w_drp mm_Qf_i (J100 _ ?_) (lb_s (lb_s (lb_s (lb_s (lb_s lb_e)))))
      · exact (if_pos hc).symm
theorem e_WS_ratio {P : Int32 → mm_I → Prop} {I : mm_I}
  (H : mm_Mi 54 [.ref 3] I (fun r4 I4 =>  -- Sound.ready
    (r4 = 0 →
      P (-1) I4) ∧
    (¬ r4 = 0 →
      (¬ (I4 5 0) = 0 →
        (0 < (((I4 3 2) * (I4 5 0)) * ((I4 3 3) / 8)) →
          mm_Mi 94 [.ref 0, .int (I4 0 7), .int (I4 0 9)] I4 (fun r68 I68 =>  -- WS.packedSize
          vf_n32 (FP.fdiv (FP.i2f r68) (FP.i2f (((I4 3 2) * (I4 5 0)) * ((I4 3 3) / 8)))) ∧
          mm_Mi 121 [.float (FP.fdiv (FP.i2f r68) (FP.i2f (((I4 3 2) * (I4 5 0)) * ((I4 3 3) / 8))))] I68 (fun r75 I75 =>  -- WS.floatBits
          P r75 I75))) ∧
        ((((I4 3 2) * (I4 5 0)) * ((I4 3 3) / 8)) ≤ 0 →
          P (-1) I4)) ∧
      ((I4 5 0) = 0 →
        P (-1) I4)))) : mm_Mi 114 [.ref 0] I P := by
  refine mm_Mi_of ?_
  show mm_W 114 0 [some (.ref 0), none] [] I (mm_qi 114 P)
  refine w_aload_nR (x := 0) (n := 1) rfl rfl rfl ?_
  refine w_getR (b := 3) (n := 4) rfl rfl rfl rfl rfl ?_
  refine w_calli (as := [.ref 3]) (rest := []) (n := 7) rfl rfl rfl rfl ?_
  obtain ⟨r4, I4, hI4, H⟩ := H
  refine ⟨r4, I4, hI4, ?_⟩
  refine w_if_eq (n := 10) rfl rfl ⟨fun hc => ?_, fun hc => ?_⟩
  · replace H := H.1 hc
    refine w_iconst (v := (-1)) (n := 23) rfl rfl rfl ?_
    exact w_ireturn rfl rfl H
  · replace H := H.2 hc
    refine w_aload_nR (x := 0) (n := 11) rfl rfl rfl ?_
    refine w_getR (b := 3) (n := 14) rfl rfl rfl rfl rfl ?_
    refine w_getR (b := 5) (n := 17) rfl rfl rfl rfl rfl ?_
    refine w_iconst (v := 0) (n := 18) rfl rfl rfl ?_
    refine w_iaload (N := 2) (j := 0) (n := 19) rfl rfl rfl rfl (by decide) rfl ⟨mm_vpc (by decide), ?_⟩
    refine w_if_ne (n := 22) rfl rfl ⟨fun hc => ?_, fun hc => ?_⟩
    · replace H := H.1 hc
      refine w_aload_nR (x := 0) (n := 25) rfl rfl rfl ?_
      refine w_getR (b := 3) (n := 28) rfl rfl rfl rfl rfl ?_
      refine w_getI (n := 31) rfl rfl rfl rfl ?_
      refine w_aload_nR (x := 0) (n := 32) rfl rfl rfl ?_
      refine w_getR (b := 3) (n := 35) rfl rfl rfl rfl rfl ?_
      refine w_getR (b := 5) (n := 38) rfl rfl rfl rfl rfl ?_
      refine w_iconst (v := 0) (n := 39) rfl rfl rfl ?_
      refine w_iaload (N := 2) (j := 0) (n := 40) rfl rfl rfl rfl (by decide) rfl ⟨mm_vpc (by decide), ?_⟩
      refine w_imul (n := 41) rfl rfl ?_
      refine w_aload_nR (x := 0) (n := 42) rfl rfl rfl ?_
      refine w_getR (b := 3) (n := 45) rfl rfl rfl rfl rfl ?_
      refine w_getI (n := 48) rfl rfl rfl rfl ?_
      refine w_bipush (v := 8) (n := 50) rfl rfl rfl ?_
      refine w_idiv (n := 51) rfl rfl ⟨by decide, ?_⟩
      refine w_imul (n := 52) rfl rfl ?_
      refine w_istore_n (ls' := [some (.ref 0), some (.int (((I4 3 2) * (I4 5 0)) * ((I4 3 3) / 8)))]) (n := 53) rfl rfl rfl rfl ?_
      refine w_iload_n (n := 54) rfl rfl rfl ?_
      refine w_if_gt (n := 57) rfl rfl ⟨fun hc => ?_, fun hc => ?_⟩
      · replace H := H.1 hc
        refine w_aload_nR (x := 0) (n := 60) rfl rfl rfl ?_
        refine w_aload_nR (x := 0) (n := 61) rfl rfl rfl ?_
        refine w_getI (n := 64) rfl rfl rfl rfl ?_
        refine w_aload_nR (x := 0) (n := 65) rfl rfl rfl ?_
        refine w_getI (n := 68) rfl rfl rfl rfl ?_
        refine w_calli (as := [.ref 0, .int (I4 0 7), .int (I4 0 9)]) (rest := []) (n := 71) rfl rfl rfl rfl ?_
        obtain ⟨r68, I68, hI68, H⟩ := H
        refine ⟨r68, I68, hI68, ?_⟩
        refine w_i2f (n := 72) rfl rfl ?_
        refine w_iload_n (n := 73) rfl rfl rfl ?_
        refine w_i2f (n := 74) rfl rfl ?_
        refine w_fdiv (n := 75) rfl rfl ⟨H.1, ?_⟩
        replace H := H.2
        refine w_calli (as := [.float (FP.fdiv (FP.i2f r68) (FP.i2f (((I4 3 2) * (I4 5 0)) * ((I4 3 3) / 8))))]) (rest := []) (n := 78) rfl rfl rfl rfl ?_
        obtain ⟨r75, I75, hI75, H⟩ := H
        refine ⟨r75, I75, hI75, ?_⟩
        exact w_ireturn rfl rfl H
      · replace H := H.2 hc
        refine w_iconst (v := (-1)) (n := 58) rfl rfl rfl ?_
        exact w_ireturn rfl rfl H
    · replace H := H.2 hc
      refine w_iconst (v := (-1)) (n := 23) rfl rfl rfl ?_
      exact w_ireturn rfl rfl H
theorem e_WS_loud {Q : mm_S → Prop} (hQ : mm_Qf Q) {I : mm_I} (x1 : Int32) (x2 : Int32)
  (H : mm_Mi 47 [.ref 3, .int x1] I (fun r5 I5 =>  -- Sound.has
    (r5 = 0 →
      Q (32, [some (.ref 0), some (.int x1), some (.int x2), none, none, none, none, none], [], (mm_lay, I5))) ∧
    (¬ r5 = 0 →
      (x2 < 0 →
        Q (32, [some (.ref 0), some (.int x1), some (.int x2), none, none, none, none, none], [], (mm_lay, I5))) ∧
      (0 ≤ x2 →
        (1 < x2 →
          Q (32, [some (.ref 0), some (.int x1), some (.int x2), none, none, none, none, none], [], (mm_lay, I5))) ∧
        (x2 ≤ 1 →
          vp_in x1 2 ∧
          (0 < (I5 5 x1.toNatClampNeg) →
            mm_W 115 45 [some (.ref 0), some (.int x1), some (.int x2), some (.long 0), none, some (.int 0), none, none] [] I5 (Q)) ∧
          ((I5 5 x1.toNatClampNeg) ≤ 0 →
            Q (32, [some (.ref 0), some (.int x1), some (.int x2), none, none, none, none, none], [], (mm_lay, I5)))))))) : mm_W 115 0 (mm_ent (mm_mL 115) [.ref 0, .int x1, .int x2]) [] I Q := by
  show mm_W 115 0 [some (.ref 0), some (.int x1), some (.int x2), none, none, none, none, none] [] I Q
  refine w_aload_nR (x := 0) (n := 1) rfl rfl rfl ?_
  refine w_getR (b := 3) (n := 4) rfl rfl rfl rfl rfl ?_
  refine w_iload_n (n := 5) rfl rfl rfl ?_
  refine w_calli (as := [.ref 3, .int x1]) (rest := []) (n := 8) rfl rfl rfl rfl ?_
  obtain ⟨r5, I5, hI5, H⟩ := H
  refine ⟨r5, I5, hI5, ?_⟩
  refine w_if_eq (n := 11) rfl rfl ⟨fun hc => ?_, fun hc => ?_⟩
  · replace H := H.1 hc
    exact mm_W.end rfl rfl H
  · replace H := H.2 hc
    refine w_iload_n (n := 12) rfl rfl rfl ?_
    refine w_if_lt (n := 15) rfl rfl ⟨fun hc => ?_, fun hc => ?_⟩
    · replace H := H.1 hc
      exact mm_W.end rfl rfl H
    · replace H := H.2 hc
      refine w_iload_n (n := 16) rfl rfl rfl ?_
      refine w_iconst (v := 1) (n := 17) rfl rfl rfl ?_
      refine w_icmp_gt (n := 20) rfl rfl ⟨fun hc => ?_, fun hc => ?_⟩
      · replace H := H.1 hc
        exact mm_W.end rfl rfl H
      · replace H := H.2 hc
        refine w_aload_nR (x := 0) (n := 21) rfl rfl rfl ?_
        refine w_getR (b := 3) (n := 24) rfl rfl rfl rfl rfl ?_
        refine w_getR (b := 5) (n := 27) rfl rfl rfl rfl rfl ?_
        refine w_iload_n (n := 28) rfl rfl rfl ?_
        refine w_iaload (N := 2) (j := x1.toNatClampNeg) (n := 29) rfl rfl rfl rfl rfl rfl ⟨H.1, ?_⟩
        replace H := H.2
        refine w_if_gt (n := 32) rfl rfl ⟨fun hc => ?_, fun hc => ?_⟩
        · replace H := H.1 hc
          refine w_lconst (v := 0) (n := 41) rfl rfl rfl ?_
          refine w_lstore_n (ls' := [some (.ref 0), some (.int x1), some (.int x2), some (.long 0), none, none, none, none]) (n := 42) rfl rfl rfl rfl ?_
          refine w_iconst (v := 0) (n := 43) rfl rfl rfl ?_
          refine w_istore (ls' := [some (.ref 0), some (.int x1), some (.int x2), some (.long 0), none, some (.int 0), none, none]) (n := 45) rfl rfl rfl rfl ?_
          exact w_drp hQ H (lb_s (lb_s (lb_s (lb_s (lb_n (lb_s (lb_n (lb_n lb_e))))))))
        · replace H := H.2 hc
          exact mm_W.end rfl rfl H
theorem c_WS_loud_45 {Q : mm_S → Prop} (hQ : mm_Qf Q) {I : mm_I} (x1 : Int32) (x2 : Int32) (x3 : Int64) (x5 : Int32)
  (H : vp_in x1 2 ∧
    ((I 5 x1.toNatClampNeg) ≤ x5 →
      vp_in x1 2 ∧
      vf_n64 (FP.ddiv (FP.l2d x3) (FP.i2d (I 5 x1.toNatClampNeg))) ∧
      mm_Ml 122 [.double (FP.ddiv (FP.l2d x3) (FP.i2d (I 5 x1.toNatClampNeg)))] I (fun r99 I99 =>  -- WS.doubleBits
      Q (120, [some (.ref 0), some (.int x1), some (.int x2), some (.long x3), none, some (.long r99), none, none], [.int (if x2 = 0 then (((r99.toUInt64 >>> ((32 : Int32).toInt64.toUInt64 &&& Int64.toUInt64 63)).toInt64).toInt32 : Int32) else r99.toInt32)], (mm_lay, I99)))) ∧
    (x5 < (I 5 x1.toNatClampNeg) →
      mm_Mi 49 [.ref 3, .int x1, .int x5] I (fun r66 I66 =>  -- Sound.valueAt
      mm_W 115 45 [some (.ref 0), some (.int x1), some (.int x2), some (.long (x3 + (r66.toInt64 * r66.toInt64))), none, some (.int (x5 + 1)), none, none] [] I66 (Q)))) : mm_W 115 45 [some (.ref 0), some (.int x1), some (.int x2), some (.long x3), none, some (.int x5), none, none] [] I (Q) := by
  refine w_iload (n := 47) rfl rfl rfl ?_
  refine w_aload_nR (x := 0) (n := 48) rfl rfl rfl ?_
  refine w_getR (b := 3) (n := 51) rfl rfl rfl rfl rfl ?_
  refine w_getR (b := 5) (n := 54) rfl rfl rfl rfl rfl ?_
  refine w_iload_n (n := 55) rfl rfl rfl ?_
  refine w_iaload (N := 2) (j := x1.toNatClampNeg) (n := 56) rfl rfl rfl rfl rfl rfl ⟨H.1, ?_⟩
  replace H := H.2
  refine w_icmp_ge (n := 59) rfl rfl ⟨fun hc => ?_, fun hc => ?_⟩
  · replace H := H.1 hc
    refine w_lload_n (n := 87) rfl rfl rfl ?_
    refine w_l2d (n := 88) rfl rfl ?_
    refine w_aload_nR (x := 0) (n := 89) rfl rfl rfl ?_
    refine w_getR (b := 3) (n := 92) rfl rfl rfl rfl rfl ?_
    refine w_getR (b := 5) (n := 95) rfl rfl rfl rfl rfl ?_
    refine w_iload_n (n := 96) rfl rfl rfl ?_
    refine w_iaload (N := 2) (j := x1.toNatClampNeg) (n := 97) rfl rfl rfl rfl rfl rfl ⟨H.1, ?_⟩
    replace H := H.2
    refine w_i2d (n := 98) rfl rfl ?_
    refine w_ddiv (n := 99) rfl rfl ⟨H.1, ?_⟩
    replace H := H.2
    refine w_calll (as := [.double (FP.ddiv (FP.l2d x3) (FP.i2d (I 5 x1.toNatClampNeg)))]) (rest := []) (n := 102) rfl rfl rfl rfl ?_
    obtain ⟨r99, I99, hI99, H⟩ := H
    refine ⟨r99, I99, hI99, ?_⟩
    refine w_lstore (ls' := [some (.ref 0), some (.int x1), some (.int x2), some (.long x3), none, some (.long r99), none, none]) (n := 104) rfl rfl rfl rfl ?_
    refine w_iload_n (n := 105) rfl rfl rfl ?_
    have J105 : ∀ (w105_0 : Int32), w105_0 = (if x2 = 0 then (((r99.toUInt64 >>> ((32 : Int32).toInt64.toUInt64 &&& Int64.toUInt64 63)).toInt64).toInt32 : Int32) else r99.toInt32) → mm_W 115 120 [some (.ref 0), some (.int x1), some (.int x2), some (.long x3), none, some (.long r99), none, none] [.int w105_0] I99 (Q) := by
      intro w105_0 e105_0
      subst e105_0
      exact mm_W.end rfl rfl H
    refine w_if_ne (n := 108) rfl rfl ⟨fun hc => ?_, fun hc => ?_⟩
    · refine w_lload (n := 119) rfl rfl rfl ?_
      refine w_l2i (n := 120) rfl rfl ?_
      refine w_drp hQ (J105 _ ?_) (lb_s (lb_s (lb_s (lb_s (lb_n (lb_s (lb_n (lb_n lb_e))))))))
      · exact (if_neg hc).symm
    · refine w_lload (n := 110) rfl rfl rfl ?_
      refine w_bipush (v := 32) (n := 112) rfl rfl rfl ?_
      refine w_lushr (n := 113) rfl rfl ?_
      refine w_l2i (n := 114) rfl rfl ?_
      refine w_goto rfl ?_
      refine w_drp hQ (J105 _ ?_) (lb_s (lb_s (lb_s (lb_s (lb_n (lb_s (lb_n (lb_n lb_e))))))))
      · exact (if_pos hc).symm
  · replace H := H.2 hc
    refine w_aload_nR (x := 0) (n := 60) rfl rfl rfl ?_
    refine w_getR (b := 3) (n := 63) rfl rfl rfl rfl rfl ?_
    refine w_iload_n (n := 64) rfl rfl rfl ?_
    refine w_iload (n := 66) rfl rfl rfl ?_
    refine w_calli (as := [.ref 3, .int x1, .int x5]) (rest := []) (n := 69) rfl rfl rfl rfl ?_
    obtain ⟨r66, I66, hI66, H⟩ := H
    refine ⟨r66, I66, hI66, ?_⟩
    refine w_i2l (n := 70) rfl rfl ?_
    refine w_lstore (ls' := [some (.ref 0), some (.int x1), some (.int x2), some (.long x3), none, some (.int x5), some (.long r66.toInt64), none]) (n := 72) rfl rfl rfl rfl ?_
    refine w_lload_n (n := 73) rfl rfl rfl ?_
    refine w_lload (n := 75) rfl rfl rfl ?_
    refine w_lload (n := 77) rfl rfl rfl ?_
    refine w_lmul (n := 78) rfl rfl ?_
    refine w_ladd (n := 79) rfl rfl ?_
    refine w_lstore_n (ls' := [some (.ref 0), some (.int x1), some (.int x2), some (.long (x3 + (r66.toInt64 * r66.toInt64))), none, some (.int x5), some (.long r66.toInt64), none]) (n := 80) rfl rfl rfl rfl ?_
    refine w_iinc (y := x5 + 1) (ls' := [some (.ref 0), some (.int x1), some (.int x2), some (.long (x3 + (r66.toInt64 * r66.toInt64))), none, some (.int (x5 + 1)), some (.long r66.toInt64), none]) (n := 83) rfl rfl rfl rfl rfl ?_
    refine w_goto rfl ?_
    exact w_drp hQ H (lb_s (lb_s (lb_s (lb_s (lb_n (lb_s (lb_n (lb_n lb_e))))))))
theorem e_WS_count {P : Int32 → mm_I → Prop} {I : mm_I} (x1 : Int32)
  (H : (x1 = 0 →
      P (I 3 2) I) ∧
    (x1 = 1 →
      P (I 3 3) I) ∧
    (x1 = 2 →
      P (I 0 7) I) ∧
    (x1 = 3 →
      P (I 0 8) I) ∧
    (x1 = 4 →
      P (I 0 9) I) ∧
    (x1 = 5 →
      mm_Mi 47 [.ref 3, .int (x1 - 5)] I (fun r98 I98 =>  -- Sound.has
      (¬ r98 = 0 →
        vp_in (x1 - 5) 2 ∧
        True) ∧
      P (if r98 = 0 then ((-1) : Int32) else (I98 5 ((x1 - 5).toNatClampNeg))) I98)) ∧
    (x1 = 6 →
      mm_Mi 47 [.ref 3, .int (x1 - 5)] I (fun r98 I98 =>  -- Sound.has
      (¬ r98 = 0 →
        vp_in (x1 - 5) 2 ∧
        True) ∧
      P (if r98 = 0 then ((-1) : Int32) else (I98 5 ((x1 - 5).toNatClampNeg))) I98)) ∧
    (x1 = 7 →
      mm_Mi 55 [.ref 3, .int (I 0 7)] I (fun r128 I128 =>  -- Sound.frames
      P r128 I128)) ∧
    (x1 = 8 →
      P (I 47 1) I) ∧
    (x1 = 9 →
      P (I 1 1) I) ∧
    (x1 = 10 →
      P (I 3 4) I) ∧
    (¬ x1 = 0 → ¬ x1 = 1 → ¬ x1 = 2 → ¬ x1 = 3 → ¬ x1 = 4 → ¬ x1 = 5 → ¬ x1 = 6 → ¬ x1 = 7 → ¬ x1 = 8 → ¬ x1 = 9 → ¬ x1 = 10 →
      P (-1) I)) : mm_Mi 116 [.ref 0, .int x1] I P := by
  refine mm_Mi_of ?_
  show mm_W 116 0 [some (.ref 0), some (.int x1)] [] I (mm_qi 116 P)
  refine w_iload_n (n := 1) rfl rfl rfl ?_
  by_cases h1_0 : x1 = 0
  · replace H := H.1 h1_0
    refine w_switch (tg := 60) rfl (by rw [h1_0]; rfl) ?_
    refine w_aload_nR (x := 0) (n := 61) rfl rfl rfl ?_
    refine w_getR (b := 3) (n := 64) rfl rfl rfl rfl rfl ?_
    refine w_getI (n := 67) rfl rfl rfl rfl ?_
    exact w_ireturn rfl rfl H
  by_cases h1_1 : x1 = 1
  · replace H := H.2.1 h1_1
    refine w_switch (tg := 68) rfl (by rw [h1_1]; rfl) ?_
    refine w_aload_nR (x := 0) (n := 69) rfl rfl rfl ?_
    refine w_getR (b := 3) (n := 72) rfl rfl rfl rfl rfl ?_
    refine w_getI (n := 75) rfl rfl rfl rfl ?_
    exact w_ireturn rfl rfl H
  by_cases h1_2 : x1 = 2
  · replace H := H.2.2.1 h1_2
    refine w_switch (tg := 76) rfl (by rw [h1_2]; rfl) ?_
    refine w_aload_nR (x := 0) (n := 77) rfl rfl rfl ?_
    refine w_getI (n := 80) rfl rfl rfl rfl ?_
    exact w_ireturn rfl rfl H
  by_cases h1_3 : x1 = 3
  · replace H := H.2.2.2.1 h1_3
    refine w_switch (tg := 81) rfl (by rw [h1_3]; rfl) ?_
    refine w_aload_nR (x := 0) (n := 82) rfl rfl rfl ?_
    refine w_getI (n := 85) rfl rfl rfl rfl ?_
    exact w_ireturn rfl rfl H
  by_cases h1_4 : x1 = 4
  · replace H := H.2.2.2.2.1 h1_4
    refine w_switch (tg := 86) rfl (by rw [h1_4]; rfl) ?_
    refine w_aload_nR (x := 0) (n := 87) rfl rfl rfl ?_
    refine w_getI (n := 90) rfl rfl rfl rfl ?_
    exact w_ireturn rfl rfl H
  by_cases h1_5 : x1 = 5
  · replace H := H.2.2.2.2.2.1 h1_5
    refine w_switch (tg := 91) rfl (by rw [h1_5]; rfl) ?_
    refine w_aload_nR (x := 0) (n := 92) rfl rfl rfl ?_
    refine w_getR (b := 3) (n := 95) rfl rfl rfl rfl rfl ?_
    refine w_iload_n (n := 96) rfl rfl rfl ?_
    refine w_iconst (v := 5) (n := 97) rfl rfl rfl ?_
    refine w_isub (n := 98) rfl rfl ?_
    refine w_calli (as := [.ref 3, .int (x1 - 5)]) (rest := []) (n := 101) rfl rfl rfl rfl ?_
    obtain ⟨r98, I98, hI98, H⟩ := H
    refine ⟨r98, I98, hI98, ?_⟩
    obtain ⟨K2, H⟩ := H
    have J101 : ∀ (w101_0 : Int32), w101_0 = (if r98 = 0 then ((-1) : Int32) else (I98 5 ((x1 - 5).toNatClampNeg))) → mm_W 116 119 [some (.ref 0), some (.int x1)] [.int w101_0] I98 (mm_qi 116 P) := by
      intro w101_0 e101_0
      subst e101_0
      exact w_ireturn rfl rfl H
    refine w_if_eq (n := 104) rfl rfl ⟨fun hc => ?_, fun hc => ?_⟩
    · refine w_iconst (v := (-1)) (n := 119) rfl rfl rfl ?_
      refine w_drp mm_Qf_i (J101 _ ?_) (lb_s (lb_s lb_e))
      · exact (if_pos hc).symm
    · have H := K2 hc
      refine w_aload_nR (x := 0) (n := 105) rfl rfl rfl ?_
      refine w_getR (b := 3) (n := 108) rfl rfl rfl rfl rfl ?_
      refine w_getR (b := 5) (n := 111) rfl rfl rfl rfl rfl ?_
      refine w_iload_n (n := 112) rfl rfl rfl ?_
      refine w_iconst (v := 5) (n := 113) rfl rfl rfl ?_
      refine w_isub (n := 114) rfl rfl ?_
      refine w_iaload (N := 2) (j := (x1 - 5).toNatClampNeg) (n := 115) rfl rfl rfl rfl rfl rfl ⟨H.1, ?_⟩
      replace H := H.2
      refine w_goto rfl ?_
      refine w_drp mm_Qf_i (J101 _ ?_) (lb_s (lb_s lb_e))
      · exact (if_neg hc).symm
  by_cases h1_6 : x1 = 6
  · replace H := H.2.2.2.2.2.2.1 h1_6
    refine w_switch (tg := 91) rfl (by rw [h1_6]; rfl) ?_
    refine w_aload_nR (x := 0) (n := 92) rfl rfl rfl ?_
    refine w_getR (b := 3) (n := 95) rfl rfl rfl rfl rfl ?_
    refine w_iload_n (n := 96) rfl rfl rfl ?_
    refine w_iconst (v := 5) (n := 97) rfl rfl rfl ?_
    refine w_isub (n := 98) rfl rfl ?_
    refine w_calli (as := [.ref 3, .int (x1 - 5)]) (rest := []) (n := 101) rfl rfl rfl rfl ?_
    obtain ⟨r98, I98, hI98, H⟩ := H
    refine ⟨r98, I98, hI98, ?_⟩
    obtain ⟨K2, H⟩ := H
    have J101 : ∀ (w101_0 : Int32), w101_0 = (if r98 = 0 then ((-1) : Int32) else (I98 5 ((x1 - 5).toNatClampNeg))) → mm_W 116 119 [some (.ref 0), some (.int x1)] [.int w101_0] I98 (mm_qi 116 P) := by
      intro w101_0 e101_0
      subst e101_0
      exact w_ireturn rfl rfl H
    refine w_if_eq (n := 104) rfl rfl ⟨fun hc => ?_, fun hc => ?_⟩
    · refine w_iconst (v := (-1)) (n := 119) rfl rfl rfl ?_
      refine w_drp mm_Qf_i (J101 _ ?_) (lb_s (lb_s lb_e))
      · exact (if_pos hc).symm
    · have H := K2 hc
      refine w_aload_nR (x := 0) (n := 105) rfl rfl rfl ?_
      refine w_getR (b := 3) (n := 108) rfl rfl rfl rfl rfl ?_
      refine w_getR (b := 5) (n := 111) rfl rfl rfl rfl rfl ?_
      refine w_iload_n (n := 112) rfl rfl rfl ?_
      refine w_iconst (v := 5) (n := 113) rfl rfl rfl ?_
      refine w_isub (n := 114) rfl rfl ?_
      refine w_iaload (N := 2) (j := (x1 - 5).toNatClampNeg) (n := 115) rfl rfl rfl rfl rfl rfl ⟨H.1, ?_⟩
      replace H := H.2
      refine w_goto rfl ?_
      refine w_drp mm_Qf_i (J101 _ ?_) (lb_s (lb_s lb_e))
      · exact (if_neg hc).symm
  by_cases h1_7 : x1 = 7
  · replace H := H.2.2.2.2.2.2.2.1 h1_7
    refine w_switch (tg := 120) rfl (by rw [h1_7]; rfl) ?_
    refine w_aload_nR (x := 0) (n := 121) rfl rfl rfl ?_
    refine w_getR (b := 3) (n := 124) rfl rfl rfl rfl rfl ?_
    refine w_aload_nR (x := 0) (n := 125) rfl rfl rfl ?_
    refine w_getI (n := 128) rfl rfl rfl rfl ?_
    refine w_calli (as := [.ref 3, .int (I 0 7)]) (rest := []) (n := 131) rfl rfl rfl rfl ?_
    obtain ⟨r128, I128, hI128, H⟩ := H
    refine ⟨r128, I128, hI128, ?_⟩
    exact w_ireturn rfl rfl H
  by_cases h1_8 : x1 = 8
  · replace H := H.2.2.2.2.2.2.2.2.1 h1_8
    refine w_switch (tg := 132) rfl (by rw [h1_8]; rfl) ?_
    refine w_aload_nR (x := 0) (n := 133) rfl rfl rfl ?_
    refine w_getR (b := 47) (n := 136) rfl rfl rfl rfl rfl ?_
    refine w_getI (n := 139) rfl rfl rfl rfl ?_
    exact w_ireturn rfl rfl H
  by_cases h1_9 : x1 = 9
  · replace H := H.2.2.2.2.2.2.2.2.2.1 h1_9
    refine w_switch (tg := 140) rfl (by rw [h1_9]; rfl) ?_
    refine w_aload_nR (x := 0) (n := 141) rfl rfl rfl ?_
    refine w_getR (b := 1) (n := 144) rfl rfl rfl rfl rfl ?_
    refine w_getI (n := 147) rfl rfl rfl rfl ?_
    exact w_ireturn rfl rfl H
  by_cases h1_10 : x1 = 10
  · replace H := H.2.2.2.2.2.2.2.2.2.2.1 h1_10
    refine w_switch (tg := 148) rfl (by rw [h1_10]; rfl) ?_
    refine w_aload_nR (x := 0) (n := 149) rfl rfl rfl ?_
    refine w_getR (b := 3) (n := 152) rfl rfl rfl rfl rfl ?_
    refine w_getI (n := 155) rfl rfl rfl rfl ?_
    exact w_ireturn rfl rfl H
  replace H := H.2.2.2.2.2.2.2.2.2.2.2 h1_0 h1_1 h1_2 h1_3 h1_4 h1_5 h1_6 h1_7 h1_8 h1_9 h1_10
  refine w_switch (tg := 156) rfl (mm_sw_def (fun z z1 z2 ze => ?_) rfl) ?_
  · rcases (show z = 0 ∨ z = 1 ∨ z = 2 ∨ z = 3 ∨ z = 4 ∨ z = 5 ∨ z = 6 ∨ z = 7 ∨ z = 8 ∨ z = 9 ∨ z = 10 by omega) with rfl | rfl | rfl | rfl | rfl | rfl | rfl | rfl | rfl | rfl | rfl
    · exact h1_0 (Int32.toInt_inj.mp (by rw [ze]; rfl))
    · exact h1_1 (Int32.toInt_inj.mp (by rw [ze]; rfl))
    · exact h1_2 (Int32.toInt_inj.mp (by rw [ze]; rfl))
    · exact h1_3 (Int32.toInt_inj.mp (by rw [ze]; rfl))
    · exact h1_4 (Int32.toInt_inj.mp (by rw [ze]; rfl))
    · exact h1_5 (Int32.toInt_inj.mp (by rw [ze]; rfl))
    · exact h1_6 (Int32.toInt_inj.mp (by rw [ze]; rfl))
    · exact h1_7 (Int32.toInt_inj.mp (by rw [ze]; rfl))
    · exact h1_8 (Int32.toInt_inj.mp (by rw [ze]; rfl))
    · exact h1_9 (Int32.toInt_inj.mp (by rw [ze]; rfl))
    · exact h1_10 (Int32.toInt_inj.mp (by rw [ze]; rfl))
  refine w_iconst (v := (-1)) (n := 157) rfl rfl rfl ?_
  exact w_ireturn rfl rfl H
theorem e_WS_isWidth {P : Int32 → mm_I → Prop} {I : mm_I} (x0 : Int32)
  (H : ((if x0 = 8 then (1 : Int32) else (if x0 = 16 then (1 : Int32) else 0)) = 0 ∨ (if x0 = 8 then (1 : Int32) else (if x0 = 16 then (1 : Int32) else 0)) = 1) ∧ P (if x0 = 8 then (1 : Int32) else (if x0 = 16 then (1 : Int32) else 0)) I) : mm_Mi 117 [.int x0] I P := by
  refine mm_Mi_of ?_
  show mm_W 117 0 [some (.int x0)] [] I (mm_qi 117 P)
  refine w_iload_n (n := 1) rfl rfl rfl ?_
  refine w_bipush (v := 8) (n := 3) rfl rfl rfl ?_
  have J3 : ∀ (w3_0 : Int32), w3_0 = (if x0 = 8 then (1 : Int32) else (if x0 = 16 then (1 : Int32) else 0)) → mm_W 117 17 [some (.int x0)] [.int w3_0] I (mm_qi 117 P) := by
    intro w3_0 e3_0
    subst e3_0
    exact w_zreturn rfl rfl H
  refine w_icmp_eq (n := 6) rfl rfl ⟨fun hc => ?_, fun hc => ?_⟩
  · refine w_iconst (v := 1) (n := 13) rfl rfl rfl ?_
    refine w_goto rfl ?_
    refine w_drp mm_Qf_i (J3 _ ?_) (lb_s lb_e)
    · exact (if_pos hc).symm
  · refine w_iload_n (n := 7) rfl rfl rfl ?_
    refine w_bipush (v := 16) (n := 9) rfl rfl rfl ?_
    have J9 : ∀ (w9_0 : Int32), w9_0 = (if x0 = 16 then (1 : Int32) else 0) → mm_W 117 17 [some (.int x0)] [.int w9_0] I (mm_qi 117 P) := by
      intro w9_0 e9_0
      subst e9_0
      refine w_drp mm_Qf_i (J3 _ ?_) (lb_s lb_e)
      · exact (if_neg hc).symm
    refine w_icmp_ne (n := 12) rfl rfl ⟨fun hc => ?_, fun hc => ?_⟩
    · refine w_iconst (v := 0) (n := 17) rfl rfl rfl ?_
      refine w_drp mm_Qf_i (J9 _ ?_) (lb_s lb_e)
      · exact (if_neg hc).symm
    · refine w_iconst (v := 1) (n := 13) rfl rfl rfl ?_
      refine w_goto rfl ?_
      refine w_drp mm_Qf_i (J9 _ ?_) (lb_s lb_e)
      · exact (if_pos hc).symm
theorem e_WS_isFrame {P : Int32 → mm_I → Prop} {I : mm_I} (x0 : Int32)
  (H : (x0 < 16 →
      P 0 I) ∧
    (16 ≤ x0 →
      (64 < x0 →
        P 0 I) ∧
      (x0 ≤ 64 →
        ((if (x0 - x0 / 8 * 8) = 0 then (1 : Int32) else 0) = 0 ∨ (if (x0 - x0 / 8 * 8) = 0 then (1 : Int32) else 0) = 1) ∧ P (if (x0 - x0 / 8 * 8) = 0 then (1 : Int32) else 0) I))) : mm_Mi 118 [.int x0] I P := by
  refine mm_Mi_of ?_
  show mm_W 118 0 [some (.int x0)] [] I (mm_qi 118 P)
  refine w_iload_n (n := 1) rfl rfl rfl ?_
  refine w_bipush (v := 16) (n := 3) rfl rfl rfl ?_
  refine w_icmp_lt (n := 6) rfl rfl ⟨fun hc => ?_, fun hc => ?_⟩
  · replace H := H.1 hc
    refine w_iconst (v := 0) (n := 24) rfl rfl rfl ?_
    exact w_zreturn rfl rfl ⟨by decide, H⟩
  · replace H := H.2 hc
    refine w_iload_n (n := 7) rfl rfl rfl ?_
    refine w_bipush (v := 64) (n := 9) rfl rfl rfl ?_
    refine w_icmp_gt (n := 12) rfl rfl ⟨fun hc => ?_, fun hc => ?_⟩
    · replace H := H.1 hc
      refine w_iconst (v := 0) (n := 24) rfl rfl rfl ?_
      exact w_zreturn rfl rfl ⟨by decide, H⟩
    · replace H := H.2 hc
      refine w_iload_n (n := 13) rfl rfl rfl ?_
      refine w_bipush (v := 8) (n := 15) rfl rfl rfl ?_
      refine w_irem (n := 16) rfl rfl ⟨by decide, ?_⟩
      have J16 : ∀ (w16_0 : Int32), w16_0 = (if (x0 - x0 / 8 * 8) = 0 then (1 : Int32) else 0) → mm_W 118 24 [some (.int x0)] [.int w16_0] I (mm_qi 118 P) := by
        intro w16_0 e16_0
        subst e16_0
        exact w_zreturn rfl rfl H
      refine w_if_ne (n := 19) rfl rfl ⟨fun hc => ?_, fun hc => ?_⟩
      · refine w_iconst (v := 0) (n := 24) rfl rfl rfl ?_
        refine w_drp mm_Qf_i (J16 _ ?_) (lb_s lb_e)
        · exact (if_neg hc).symm
      · refine w_iconst (v := 1) (n := 20) rfl rfl rfl ?_
        refine w_goto rfl ?_
        refine w_drp mm_Qf_i (J16 _ ?_) (lb_s lb_e)
        · exact (if_pos hc).symm
theorem e_WS_isShift {P : Int32 → mm_I → Prop} {I : mm_I} (x0 : Int32)
  (H : ((if x0 < 0 then (0 : Int32) else (if 4 < x0 then (0 : Int32) else 1)) = 0 ∨ (if x0 < 0 then (0 : Int32) else (if 4 < x0 then (0 : Int32) else 1)) = 1) ∧ P (if x0 < 0 then (0 : Int32) else (if 4 < x0 then (0 : Int32) else 1)) I) : mm_Mi 119 [.int x0] I P := by
  refine mm_Mi_of ?_
  show mm_W 119 0 [some (.int x0)] [] I (mm_qi 119 P)
  refine w_iload_n (n := 1) rfl rfl rfl ?_
  have J1 : ∀ (w1_0 : Int32), w1_0 = (if x0 < 0 then (0 : Int32) else (if 4 < x0 then (0 : Int32) else 1)) → mm_W 119 14 [some (.int x0)] [.int w1_0] I (mm_qi 119 P) := by
    intro w1_0 e1_0
    subst e1_0
    exact w_zreturn rfl rfl H
  refine w_if_lt (n := 4) rfl rfl ⟨fun hc => ?_, fun hc => ?_⟩
  · refine w_iconst (v := 0) (n := 14) rfl rfl rfl ?_
    refine w_drp mm_Qf_i (J1 _ ?_) (lb_s lb_e)
    · exact (if_pos hc).symm
  · refine w_iload_n (n := 5) rfl rfl rfl ?_
    refine w_iconst (v := 4) (n := 6) rfl rfl rfl ?_
    have J6 : ∀ (w6_0 : Int32), w6_0 = (if 4 < x0 then (0 : Int32) else 1) → mm_W 119 14 [some (.int x0)] [.int w6_0] I (mm_qi 119 P) := by
      intro w6_0 e6_0
      subst e6_0
      refine w_drp mm_Qf_i (J1 _ ?_) (lb_s lb_e)
      · exact (if_neg (fa_nlt hc)).symm
    refine w_icmp_gt (n := 9) rfl rfl ⟨fun hc => ?_, fun hc => ?_⟩
    · refine w_iconst (v := 0) (n := 14) rfl rfl rfl ?_
      refine w_drp mm_Qf_i (J6 _ ?_) (lb_s lb_e)
      · exact (if_pos hc).symm
    · refine w_iconst (v := 1) (n := 10) rfl rfl rfl ?_
      refine w_goto rfl ?_
      refine w_drp mm_Qf_i (J6 _ ?_) (lb_s lb_e)
      · exact (if_neg (fa_nlt hc)).symm
theorem e_WS_isWeight {P : Int32 → mm_I → Prop} {I : mm_I} (x0 : Int32)
  (H : ((if x0 < (-31) then (0 : Int32) else (if 31 < x0 then (0 : Int32) else 1)) = 0 ∨ (if x0 < (-31) then (0 : Int32) else (if 31 < x0 then (0 : Int32) else 1)) = 1) ∧ P (if x0 < (-31) then (0 : Int32) else (if 31 < x0 then (0 : Int32) else 1)) I) : mm_Mi 120 [.int x0] I P := by
  refine mm_Mi_of ?_
  show mm_W 120 0 [some (.int x0)] [] I (mm_qi 120 P)
  refine w_iload_n (n := 1) rfl rfl rfl ?_
  refine w_bipush (v := (-31)) (n := 3) rfl rfl rfl ?_
  have J3 : ∀ (w3_0 : Int32), w3_0 = (if x0 < (-31) then (0 : Int32) else (if 31 < x0 then (0 : Int32) else 1)) → mm_W 120 17 [some (.int x0)] [.int w3_0] I (mm_qi 120 P) := by
    intro w3_0 e3_0
    subst e3_0
    exact w_zreturn rfl rfl H
  refine w_icmp_lt (n := 6) rfl rfl ⟨fun hc => ?_, fun hc => ?_⟩
  · refine w_iconst (v := 0) (n := 17) rfl rfl rfl ?_
    refine w_drp mm_Qf_i (J3 _ ?_) (lb_s lb_e)
    · exact (if_pos hc).symm
  · refine w_iload_n (n := 7) rfl rfl rfl ?_
    refine w_bipush (v := 31) (n := 9) rfl rfl rfl ?_
    have J9 : ∀ (w9_0 : Int32), w9_0 = (if 31 < x0 then (0 : Int32) else 1) → mm_W 120 17 [some (.int x0)] [.int w9_0] I (mm_qi 120 P) := by
      intro w9_0 e9_0
      subst e9_0
      refine w_drp mm_Qf_i (J3 _ ?_) (lb_s lb_e)
      · exact (if_neg (fa_nlt hc)).symm
    refine w_icmp_gt (n := 12) rfl rfl ⟨fun hc => ?_, fun hc => ?_⟩
    · refine w_iconst (v := 0) (n := 17) rfl rfl rfl ?_
      refine w_drp mm_Qf_i (J9 _ ?_) (lb_s lb_e)
      · exact (if_pos hc).symm
    · refine w_iconst (v := 1) (n := 13) rfl rfl rfl ?_
      refine w_goto rfl ?_
      refine w_drp mm_Qf_i (J9 _ ?_) (lb_s lb_e)
      · exact (if_neg (fa_nlt hc)).symm
theorem e_WS_floatBits {P : Int32 → mm_I → Prop} {I : mm_I} (x0 : UInt32)
  (H : (0 < (Op.cmpValue (FP.fcmp x0 FP.fconst0) .l) →
      mm_W 121 13 [none, some (.int 127), some (.float x0)] [] I (mm_qi 121 P)) ∧
    ((Op.cmpValue (FP.fcmp x0 FP.fconst0) .l) ≤ 0 →
      P 0 I)) : mm_Mi 121 [.float x0] I P := by
  refine mm_Mi_of ?_
  show mm_W 121 0 [some (.float x0), none, none] [] I (mm_qi 121 P)
  refine w_fload_n (n := 1) rfl rfl rfl ?_
  refine w_fconst0 (n := 2) rfl rfl ?_
  refine w_fcmp (n := 3) rfl rfl ?_
  refine w_if_gt (n := 6) rfl rfl ⟨fun hc => ?_, fun hc => ?_⟩
  · replace H := H.1 hc
    refine w_bipush (v := 127) (n := 10) rfl rfl rfl ?_
    refine w_istore_n (ls' := [some (.float x0), some (.int 127), none]) (n := 11) rfl rfl rfl rfl ?_
    refine w_fload_n (n := 12) rfl rfl rfl ?_
    refine w_fstore_n (ls' := [some (.float x0), some (.int 127), some (.float x0)]) (n := 13) rfl rfl rfl rfl ?_
    exact w_drp mm_Qf_i H (lb_n (lb_s (lb_s lb_e)))
  · replace H := H.2 hc
    refine w_iconst (v := 0) (n := 7) rfl rfl rfl ?_
    exact w_ireturn rfl rfl H
theorem c_WS_floatBits_13 {P : Int32 → mm_I → Prop} {I : mm_I} (x1 : Int32) (x2 : UInt32)
  (H : ((Op.cmpValue (FP.fcmp x2 FP.fconst2) .l) < 0 →
      mm_W 121 36 [none, some (.int x1), some (.float x2)] [] I (mm_qi 121 P)) ∧
    (0 ≤ (Op.cmpValue (FP.fcmp x2 FP.fconst2) .l) →
      (254 ≤ x1 →
        mm_W 121 36 [none, some (.int x1), some (.float x2)] [] I (mm_qi 121 P)) ∧
      (x1 < 254 →
        vf_n32 (FP.fdiv x2 FP.fconst2) ∧
        mm_W 121 13 [none, some (.int (x1 + 1)), some (.float (FP.fdiv x2 FP.fconst2))] [] I (mm_qi 121 P)))) : mm_W 121 13 [none, some (.int x1), some (.float x2)] [] I (mm_qi 121 P) := by
  refine w_fload_n (n := 14) rfl rfl rfl ?_
  refine w_fconst2 (n := 15) rfl rfl ?_
  refine w_fcmp (n := 16) rfl rfl ?_
  refine w_if_lt (n := 19) rfl rfl ⟨fun hc => ?_, fun hc => ?_⟩
  · replace H := H.1 hc
    exact w_drp mm_Qf_i H (lb_n (lb_s (lb_s lb_e)))
  · replace H := H.2 hc
    refine w_iload_n (n := 20) rfl rfl rfl ?_
    refine w_sipush (v := 254) (n := 23) rfl rfl rfl ?_
    refine w_icmp_ge (n := 26) rfl rfl ⟨fun hc => ?_, fun hc => ?_⟩
    · replace H := H.1 hc
      exact w_drp mm_Qf_i H (lb_n (lb_s (lb_s lb_e)))
    · replace H := H.2 hc
      refine w_fload_n (n := 27) rfl rfl rfl ?_
      refine w_fconst2 (n := 28) rfl rfl ?_
      refine w_fdiv (n := 29) rfl rfl ⟨H.1, ?_⟩
      replace H := H.2
      refine w_fstore_n (ls' := [none, some (.int x1), some (.float (FP.fdiv x2 FP.fconst2))]) (n := 30) rfl rfl rfl rfl ?_
      refine w_iinc (y := x1 + 1) (ls' := [none, some (.int (x1 + 1)), some (.float (FP.fdiv x2 FP.fconst2))]) (n := 33) rfl rfl rfl rfl rfl ?_
      refine w_goto rfl ?_
      exact w_drp mm_Qf_i H (lb_n (lb_s (lb_s lb_e)))
theorem c_WS_floatBits_36 {P : Int32 → mm_I → Prop} {I : mm_I} (x1 : Int32) (x2 : UInt32)
  (H : (0 ≤ (Op.cmpValue (FP.fcmp x2 FP.fconst1) .g) →
      vf_n32 (FP.fmul x2 1258291200) ∧
      P ((x1 <<< (23 &&& 31)) + ((FP.f2i (FP.fmul x2 1258291200)) - 8388608)) I) ∧
    ((Op.cmpValue (FP.fcmp x2 FP.fconst1) .g) < 0 →
      (x1 ≤ 1 →
        vf_n32 (FP.fmul x2 1258291200) ∧
        P ((x1 <<< (23 &&& 31)) + ((FP.f2i (FP.fmul x2 1258291200)) - 8388608)) I) ∧
      (1 < x1 →
        vf_n32 (FP.fmul x2 FP.fconst2) ∧
        mm_W 121 36 [none, some (.int (x1 + (-1))), some (.float (FP.fmul x2 FP.fconst2))] [] I (mm_qi 121 P)))) : mm_W 121 36 [none, some (.int x1), some (.float x2)] [] I (mm_qi 121 P) := by
  refine w_fload_n (n := 37) rfl rfl rfl ?_
  refine w_fconst1 (n := 38) rfl rfl ?_
  refine w_fcmp (n := 39) rfl rfl ?_
  refine w_if_ge (n := 42) rfl rfl ⟨fun hc => ?_, fun hc => ?_⟩
  · replace H := H.1 hc
    refine w_iload_n (n := 58) rfl rfl rfl ?_
    refine w_bipush (v := 23) (n := 60) rfl rfl rfl ?_
    refine w_ishl (n := 61) rfl rfl ?_
    refine w_fload_n (n := 62) rfl rfl rfl ?_
    refine w_ldc_wf (v := 1258291200) (n := 65) rfl rfl rfl ?_
    refine w_fmul (n := 66) rfl rfl ⟨H.1, ?_⟩
    replace H := H.2
    refine w_f2i (n := 67) rfl rfl ?_
    refine w_ldc_w (v := 8388608) (n := 70) rfl rfl rfl ?_
    refine w_isub (n := 71) rfl rfl ?_
    refine w_iadd (n := 72) rfl rfl ?_
    exact w_ireturn rfl rfl H
  · replace H := H.2 hc
    refine w_iload_n (n := 43) rfl rfl rfl ?_
    refine w_iconst (v := 1) (n := 44) rfl rfl rfl ?_
    refine w_icmp_le (n := 47) rfl rfl ⟨fun hc => ?_, fun hc => ?_⟩
    · replace H := H.1 hc
      refine w_iload_n (n := 58) rfl rfl rfl ?_
      refine w_bipush (v := 23) (n := 60) rfl rfl rfl ?_
      refine w_ishl (n := 61) rfl rfl ?_
      refine w_fload_n (n := 62) rfl rfl rfl ?_
      refine w_ldc_wf (v := 1258291200) (n := 65) rfl rfl rfl ?_
      refine w_fmul (n := 66) rfl rfl ⟨H.1, ?_⟩
      replace H := H.2
      refine w_f2i (n := 67) rfl rfl ?_
      refine w_ldc_w (v := 8388608) (n := 70) rfl rfl rfl ?_
      refine w_isub (n := 71) rfl rfl ?_
      refine w_iadd (n := 72) rfl rfl ?_
      exact w_ireturn rfl rfl H
    · replace H := H.2 hc
      refine w_fload_n (n := 48) rfl rfl rfl ?_
      refine w_fconst2 (n := 49) rfl rfl ?_
      refine w_fmul (n := 50) rfl rfl ⟨H.1, ?_⟩
      replace H := H.2
      refine w_fstore_n (ls' := [none, some (.int x1), some (.float (FP.fmul x2 FP.fconst2))]) (n := 51) rfl rfl rfl rfl ?_
      refine w_iinc (y := x1 + (-1)) (ls' := [none, some (.int (x1 + (-1))), some (.float (FP.fmul x2 FP.fconst2))]) (n := 54) rfl rfl rfl rfl rfl ?_
      refine w_goto rfl ?_
      exact w_drp mm_Qf_i H (lb_n (lb_s (lb_s lb_e)))
theorem e_WS_doubleBits {P : Int64 → mm_I → Prop} {I : mm_I} (x0 : UInt64)
  (H : (0 < (Op.cmpValue (FP.dcmp x0 FP.dconst0) .l) →
      mm_W 122 15 [none, none, some (.long 1023), none, some (.double x0), none] [] I (mm_ql 122 P)) ∧
    ((Op.cmpValue (FP.dcmp x0 FP.dconst0) .l) ≤ 0 →
      P 0 I)) : mm_Ml 122 [.double x0] I P := by
  refine mm_Ml_of ?_
  show mm_W 122 0 [some (.double x0), none, none, none, none, none] [] I (mm_ql 122 P)
  refine w_dload_n (n := 1) rfl rfl rfl ?_
  refine w_dconst0 (n := 2) rfl rfl ?_
  refine w_dcmp (n := 3) rfl rfl ?_
  refine w_if_gt (n := 6) rfl rfl ⟨fun hc => ?_, fun hc => ?_⟩
  · replace H := H.1 hc
    refine w_ldc2_w (v := 1023) (n := 11) rfl rfl rfl ?_
    refine w_lstore_n (ls' := [some (.double x0), none, some (.long 1023), none, none, none]) (n := 12) rfl rfl rfl rfl ?_
    refine w_dload_n (n := 13) rfl rfl rfl ?_
    refine w_dstore (ls' := [some (.double x0), none, some (.long 1023), none, some (.double x0), none]) (n := 15) rfl rfl rfl rfl ?_
    exact w_drp mm_Qf_l H (lb_n (lb_n (lb_s (lb_n (lb_s (lb_n lb_e))))))
  · replace H := H.2 hc
    refine w_lconst (v := 0) (n := 7) rfl rfl rfl ?_
    exact w_lreturn rfl rfl H
theorem c_WS_doubleBits_15 {P : Int64 → mm_I → Prop} {I : mm_I} (x2 : Int64) (x4 : UInt64)
  (H : ((Op.cmpValue (FP.dcmp x4 4611686018427387904) .l) < 0 →
      mm_W 122 47 [none, none, some (.long x2), none, some (.double x4), none] [] I (mm_ql 122 P)) ∧
    (0 ≤ (Op.cmpValue (FP.dcmp x4 4611686018427387904) .l) →
      (0 ≤ (lg_cmp x2 2046) →
        mm_W 122 47 [none, none, some (.long x2), none, some (.double x4), none] [] I (mm_ql 122 P)) ∧
      ((lg_cmp x2 2046) < 0 →
        vf_n64 (FP.ddiv x4 4611686018427387904) ∧
        mm_W 122 15 [none, none, some (.long (x2 + 1)), none, some (.double (FP.ddiv x4 4611686018427387904)), none] [] I (mm_ql 122 P)))) : mm_W 122 15 [none, none, some (.long x2), none, some (.double x4), none] [] I (mm_ql 122 P) := by
  refine w_dload (n := 17) rfl rfl rfl ?_
  refine w_ldc2_wd (v := 4611686018427387904) (n := 20) rfl rfl rfl ?_
  refine w_dcmp (n := 21) rfl rfl ?_
  refine w_if_lt (n := 24) rfl rfl ⟨fun hc => ?_, fun hc => ?_⟩
  · replace H := H.1 hc
    exact w_drp mm_Qf_l H (lb_n (lb_n (lb_s (lb_n (lb_s (lb_n lb_e))))))
  · replace H := H.2 hc
    refine w_lload_n (n := 25) rfl rfl rfl ?_
    refine w_ldc2_w (v := 2046) (n := 28) rfl rfl rfl ?_
    refine w_lcmp (n := 29) rfl rfl ?_
    refine w_if_ge (n := 32) rfl rfl ⟨fun hc => ?_, fun hc => ?_⟩
    · replace H := H.1 hc
      exact w_drp mm_Qf_l H (lb_n (lb_n (lb_s (lb_n (lb_s (lb_n lb_e))))))
    · replace H := H.2 hc
      refine w_dload (n := 34) rfl rfl rfl ?_
      refine w_ldc2_wd (v := 4611686018427387904) (n := 37) rfl rfl rfl ?_
      refine w_ddiv (n := 38) rfl rfl ⟨H.1, ?_⟩
      replace H := H.2
      refine w_dstore (ls' := [none, none, some (.long x2), none, some (.double (FP.ddiv x4 4611686018427387904)), none]) (n := 40) rfl rfl rfl rfl ?_
      refine w_lload_n (n := 41) rfl rfl rfl ?_
      refine w_lconst (v := 1) (n := 42) rfl rfl rfl ?_
      refine w_ladd (n := 43) rfl rfl ?_
      refine w_lstore_n (ls' := [none, none, some (.long (x2 + 1)), none, some (.double (FP.ddiv x4 4611686018427387904)), none]) (n := 44) rfl rfl rfl rfl ?_
      refine w_goto rfl ?_
      exact w_drp mm_Qf_l H (lb_n (lb_n (lb_s (lb_n (lb_s (lb_n lb_e))))))
theorem c_WS_doubleBits_47 {P : Int64 → mm_I → Prop} {I : mm_I} (x2 : Int64) (x4 : UInt64)
  (H : (0 ≤ (Op.cmpValue (FP.dcmp x4 FP.dconst1) .g) →
      vf_n64 (FP.dmul x4 4841369599423283200) ∧
      P ((x2 <<< ((52 : Int32).toInt64 &&& 63)) + ((FP.d2l (FP.dmul x4 4841369599423283200)) - 4503599627370496)) I) ∧
    ((Op.cmpValue (FP.dcmp x4 FP.dconst1) .g) < 0 →
      ((lg_cmp x2 1) ≤ 0 →
        vf_n64 (FP.dmul x4 4841369599423283200) ∧
        P ((x2 <<< ((52 : Int32).toInt64 &&& 63)) + ((FP.d2l (FP.dmul x4 4841369599423283200)) - 4503599627370496)) I) ∧
      (0 < (lg_cmp x2 1) →
        vf_n64 (FP.dmul x4 4611686018427387904) ∧
        mm_W 122 47 [none, none, some (.long (x2 - 1)), none, some (.double (FP.dmul x4 4611686018427387904)), none] [] I (mm_ql 122 P)))) : mm_W 122 47 [none, none, some (.long x2), none, some (.double x4), none] [] I (mm_ql 122 P) := by
  refine w_dload (n := 49) rfl rfl rfl ?_
  refine w_dconst1 (n := 50) rfl rfl ?_
  refine w_dcmp (n := 51) rfl rfl ?_
  refine w_if_ge (n := 54) rfl rfl ⟨fun hc => ?_, fun hc => ?_⟩
  · replace H := H.1 hc
    refine w_lload_n (n := 76) rfl rfl rfl ?_
    refine w_bipush (v := 52) (n := 78) rfl rfl rfl ?_
    refine w_lshl (n := 79) rfl rfl ?_
    refine w_dload (n := 81) rfl rfl rfl ?_
    refine w_ldc2_wd (v := 4841369599423283200) (n := 84) rfl rfl rfl ?_
    refine w_dmul (n := 85) rfl rfl ⟨H.1, ?_⟩
    replace H := H.2
    refine w_d2l (n := 86) rfl rfl ?_
    refine w_ldc2_w (v := 4503599627370496) (n := 89) rfl rfl rfl ?_
    refine w_lsub (n := 90) rfl rfl ?_
    refine w_ladd (n := 91) rfl rfl ?_
    exact w_lreturn rfl rfl H
  · replace H := H.2 hc
    refine w_lload_n (n := 55) rfl rfl rfl ?_
    refine w_lconst (v := 1) (n := 56) rfl rfl rfl ?_
    refine w_lcmp (n := 57) rfl rfl ?_
    refine w_if_le (n := 60) rfl rfl ⟨fun hc => ?_, fun hc => ?_⟩
    · replace H := H.1 hc
      refine w_lload_n (n := 76) rfl rfl rfl ?_
      refine w_bipush (v := 52) (n := 78) rfl rfl rfl ?_
      refine w_lshl (n := 79) rfl rfl ?_
      refine w_dload (n := 81) rfl rfl rfl ?_
      refine w_ldc2_wd (v := 4841369599423283200) (n := 84) rfl rfl rfl ?_
      refine w_dmul (n := 85) rfl rfl ⟨H.1, ?_⟩
      replace H := H.2
      refine w_d2l (n := 86) rfl rfl ?_
      refine w_ldc2_w (v := 4503599627370496) (n := 89) rfl rfl rfl ?_
      refine w_lsub (n := 90) rfl rfl ?_
      refine w_ladd (n := 91) rfl rfl ?_
      exact w_lreturn rfl rfl H
    · replace H := H.2 hc
      refine w_dload (n := 62) rfl rfl rfl ?_
      refine w_ldc2_wd (v := 4611686018427387904) (n := 65) rfl rfl rfl ?_
      refine w_dmul (n := 66) rfl rfl ⟨H.1, ?_⟩
      replace H := H.2
      refine w_dstore (ls' := [none, none, some (.long x2), none, some (.double (FP.dmul x4 4611686018427387904)), none]) (n := 68) rfl rfl rfl rfl ?_
      refine w_lload_n (n := 69) rfl rfl rfl ?_
      refine w_lconst (v := 1) (n := 70) rfl rfl rfl ?_
      refine w_lsub (n := 71) rfl rfl ?_
      refine w_lstore_n (ls' := [none, none, some (.long (x2 - 1)), none, some (.double (FP.dmul x4 4611686018427387904)), none]) (n := 72) rfl rfl rfl rfl ?_
      refine w_goto rfl ?_
      exact w_drp mm_Qf_l H (lb_n (lb_n (lb_s (lb_n (lb_s (lb_n lb_e))))))
theorem e_M_thrown {P : Int32 → mm_I → Prop} {I : mm_I}
  (H : P (I 58 16) I) : mm_Mi 124 [.ref 58] I P := by
  refine mm_Mi_of ?_
  show mm_W 124 0 [some (.ref 58)] [] I (mm_qi 124 P)
  refine w_aload_nR (x := 58) (n := 1) rfl rfl rfl ?_
  refine w_getI (n := 4) rfl rfl rfl rfl ?_
  exact w_ireturn rfl rfl H
theorem e_M_within {P : Int32 → mm_I → Prop} {I : mm_I} (x0 : Int32) (x1 : Int32) (x2 : Int32)
  (H : ((if x0 < x1 then (0 : Int32) else (if x2 < x0 then (0 : Int32) else 1)) = 0 ∨ (if x0 < x1 then (0 : Int32) else (if x2 < x0 then (0 : Int32) else 1)) = 1) ∧ P (if x0 < x1 then (0 : Int32) else (if x2 < x0 then (0 : Int32) else 1)) I) : mm_Mi 125 [.int x0, .int x1, .int x2] I P := by
  refine mm_Mi_of ?_
  show mm_W 125 0 [some (.int x0), some (.int x1), some (.int x2)] [] I (mm_qi 125 P)
  refine w_iload_n (n := 1) rfl rfl rfl ?_
  refine w_iload_n (n := 2) rfl rfl rfl ?_
  have J2 : ∀ (w2_0 : Int32), w2_0 = (if x0 < x1 then (0 : Int32) else (if x2 < x0 then (0 : Int32) else 1)) → mm_W 125 15 [some (.int x0), some (.int x1), some (.int x2)] [.int w2_0] I (mm_qi 125 P) := by
    intro w2_0 e2_0
    subst e2_0
    exact w_zreturn rfl rfl H
  refine w_icmp_lt (n := 5) rfl rfl ⟨fun hc => ?_, fun hc => ?_⟩
  · refine w_iconst (v := 0) (n := 15) rfl rfl rfl ?_
    refine w_drp mm_Qf_i (J2 _ ?_) (lb_s (lb_s (lb_s lb_e)))
    · exact (if_pos hc).symm
  · refine w_iload_n (n := 6) rfl rfl rfl ?_
    refine w_iload_n (n := 7) rfl rfl rfl ?_
    have J7 : ∀ (w7_0 : Int32), w7_0 = (if x2 < x0 then (0 : Int32) else 1) → mm_W 125 15 [some (.int x0), some (.int x1), some (.int x2)] [.int w7_0] I (mm_qi 125 P) := by
      intro w7_0 e7_0
      subst e7_0
      refine w_drp mm_Qf_i (J2 _ ?_) (lb_s (lb_s (lb_s lb_e)))
      · exact (if_neg (fa_nlt hc)).symm
    refine w_icmp_gt (n := 10) rfl rfl ⟨fun hc => ?_, fun hc => ?_⟩
    · refine w_iconst (v := 0) (n := 15) rfl rfl rfl ?_
      refine w_drp mm_Qf_i (J7 _ ?_) (lb_s (lb_s (lb_s lb_e)))
      · exact (if_pos hc).symm
    · refine w_iconst (v := 1) (n := 11) rfl rfl rfl ?_
      refine w_goto rfl ?_
      refine w_drp mm_Qf_i (J7 _ ?_) (lb_s (lb_s (lb_s lb_e)))
      · exact (if_neg (fa_nlt hc)).symm
theorem e_M_isChannel {P : Int32 → mm_I → Prop} {I : mm_I} (x1 : Int32)
  (H : mm_Mi 125 [.int x1, .int 0, .int ((I 58 4) - 1)] I (fun r8 I8 =>  -- M.within
    (r8 = 0 ∨ r8 = 1) ∧ P r8 I8)) : mm_Mi 126 [.ref 58, .int x1] I P := by
  refine mm_Mi_of ?_
  show mm_W 126 0 [some (.ref 58), some (.int x1)] [] I (mm_qi 126 P)
  refine w_iload_n (n := 1) rfl rfl rfl ?_
  refine w_iconst (v := 0) (n := 2) rfl rfl rfl ?_
  refine w_aload_nR (x := 58) (n := 3) rfl rfl rfl ?_
  refine w_getI (n := 6) rfl rfl rfl rfl ?_
  refine w_iconst (v := 1) (n := 7) rfl rfl rfl ?_
  refine w_isub (n := 8) rfl rfl ?_
  refine w_calli (as := [.int x1, .int 0, .int ((I 58 4) - 1)]) (rest := []) (n := 11) rfl rfl rfl rfl ?_
  obtain ⟨r8, I8, hI8, H⟩ := H
  refine ⟨r8, I8, hI8, ?_⟩
  exact w_zreturn rfl rfl H
theorem e_M_isFrame {P : Int32 → mm_I → Prop} {I : mm_I} (x0 : Int32)
  (H : mm_Mi 125 [.int x0, .int 16, .int 64] I (fun r5 I5 =>  -- M.within
    (r5 = 0 →
      P 0 I5) ∧
    (¬ r5 = 0 →
      ((if (x0 - x0 / 8 * 8) = 0 then (1 : Int32) else 0) = 0 ∨ (if (x0 - x0 / 8 * 8) = 0 then (1 : Int32) else 0) = 1) ∧ P (if (x0 - x0 / 8 * 8) = 0 then (1 : Int32) else 0) I5))) : mm_Mi 127 [.int x0] I P := by
  refine mm_Mi_of ?_
  show mm_W 127 0 [some (.int x0)] [] I (mm_qi 127 P)
  refine w_iload_n (n := 1) rfl rfl rfl ?_
  refine w_bipush (v := 16) (n := 3) rfl rfl rfl ?_
  refine w_bipush (v := 64) (n := 5) rfl rfl rfl ?_
  refine w_calli (as := [.int x0, .int 16, .int 64]) (rest := []) (n := 8) rfl rfl rfl rfl ?_
  obtain ⟨r5, I5, hI5, H⟩ := H
  refine ⟨r5, I5, hI5, ?_⟩
  refine w_if_eq (n := 11) rfl rfl ⟨fun hc => ?_, fun hc => ?_⟩
  · replace H := H.1 hc
    refine w_iconst (v := 0) (n := 23) rfl rfl rfl ?_
    exact w_zreturn rfl rfl ⟨by decide, H⟩
  · replace H := H.2 hc
    refine w_iload_n (n := 12) rfl rfl rfl ?_
    refine w_bipush (v := 8) (n := 14) rfl rfl rfl ?_
    refine w_irem (n := 15) rfl rfl ⟨by decide, ?_⟩
    have J15 : ∀ (w15_0 : Int32), w15_0 = (if (x0 - x0 / 8 * 8) = 0 then (1 : Int32) else 0) → mm_W 127 23 [some (.int x0)] [.int w15_0] I5 (mm_qi 127 P) := by
      intro w15_0 e15_0
      subst e15_0
      exact w_zreturn rfl rfl H
    refine w_if_ne (n := 18) rfl rfl ⟨fun hc => ?_, fun hc => ?_⟩
    · refine w_iconst (v := 0) (n := 23) rfl rfl rfl ?_
      refine w_drp mm_Qf_i (J15 _ ?_) (lb_s lb_e)
      · exact (if_neg hc).symm
    · refine w_iconst (v := 1) (n := 19) rfl rfl rfl ?_
      refine w_goto rfl ?_
      refine w_drp mm_Qf_i (J15 _ ?_) (lb_s lb_e)
      · exact (if_pos hc).symm
theorem e_M_eight {P : mm_I → Prop} {I : mm_I} (x1 : Int64)
  (H : mm_W 128 3 [some (.ref 58), some (.long x1), none, some (.int 56)] [] I (mm_qv 128 P)) : mm_Mv 128 [.ref 58, .long x1] I P := by
  refine mm_Mv_of ?_
  show mm_W 128 0 [some (.ref 58), some (.long x1), none, none] [] I (mm_qv 128 P)
  refine w_bipush (v := 56) (n := 2) rfl rfl rfl ?_
  refine w_istore_n (ls' := [some (.ref 58), some (.long x1), none, some (.int 56)]) (n := 3) rfl rfl rfl rfl ?_
  exact w_drp mm_Qf_v H (lb_s (lb_s (lb_n (lb_s lb_e))))
theorem c_M_eight_3 {P : mm_I → Prop} {I : mm_I} (x1 : Int64) (x3 : Int32)
  (H : (x3 < 0 →
      P I) ∧
    (0 ≤ x3 →
      vp_in (I 58 1) 240 ∧
      mm_W 128 3 [some (.ref 58), some (.long x1), none, some (.int (x3 + (-8)))] [] (mm_up (mm_up I 59 ((I 58 1).toNatClampNeg) (((x1 >>> (x3.toInt64 &&& 63)).toInt32) &&& 255)) 58 1 ((I 58 1) + 1)) (mm_qv 128 P))) : mm_W 128 3 [some (.ref 58), some (.long x1), none, some (.int x3)] [] I (mm_qv 128 P) := by
  refine w_iload_n (n := 4) rfl rfl rfl ?_
  refine w_if_lt (n := 7) rfl rfl ⟨fun hc => ?_, fun hc => ?_⟩
  · replace H := H.1 hc
    exact w_vreturn rfl rfl H
  · replace H := H.2 hc
    refine w_aload_nR (x := 58) (n := 8) rfl rfl rfl ?_
    refine w_getR (b := 59) (n := 11) rfl rfl rfl rfl rfl ?_
    refine w_aload_nR (x := 58) (n := 12) rfl rfl rfl ?_
    refine w_getI (n := 15) rfl rfl rfl rfl ?_
    refine w_lload_n (n := 16) rfl rfl rfl ?_
    refine w_iload_n (n := 17) rfl rfl rfl ?_
    refine w_lshr (n := 18) rfl rfl ?_
    refine w_l2i (n := 19) rfl rfl ?_
    refine w_sipush (v := 255) (n := 22) rfl rfl rfl ?_
    refine w_iand (n := 23) rfl rfl ?_
    refine w_iastore (N := 240) (j := (I 58 1).toNatClampNeg) (n := 24) rfl rfl rfl rfl rfl ⟨H.1, ?_⟩
    replace H := H.2
    refine w_aload_nR (x := 58) (n := 25) rfl rfl rfl ?_
    refine w_dup (n := 26) rfl rfl rfl ?_
    refine w_getI (n := 29) rfl rfl rfl rfl ?_
    refine w_iconst (v := 1) (n := 30) rfl rfl rfl ?_
    refine w_iadd (n := 31) rfl rfl ?_
    refine w_putI (n := 34) rfl rfl rfl rfl rfl ?_
    refine w_iinc (y := x3 + (-8)) (ls' := [some (.ref 58), some (.long x1), none, some (.int (x3 + (-8)))]) (n := 37) rfl rfl rfl rfl rfl ?_
    refine w_goto rfl ?_
    exact w_drp mm_Qf_v H (lb_s (lb_s (lb_n (lb_s lb_e))))
theorem e_M_feed {P : Int32 → mm_I → Prop} {I : mm_I} (x1 : Int64) (x3 : Int64) (x5 : Int64)
  (H : (((I 58 1) + 24) ≤ 240 →
      mm_Mv 128 [.ref 58, .long x1] (mm_up I 58 16 0) (fun I22 =>  -- M.eight
      mm_Mv 128 [.ref 58, .long x3] I22 (fun I27 =>  -- M.eight
      mm_Mv 128 [.ref 58, .long x5] I27 (fun I33 =>  -- M.eight
      P (I33 58 1) I33)))) ∧
    (240 < ((I 58 1) + 24) →
      P (-1) (mm_up I 58 16 0))) : mm_Mi 129 [.ref 58, .long x1, .long x3, .long x5] I P := by
  refine mm_Mi_of ?_
  show mm_W 129 0 [some (.ref 58), some (.long x1), none, some (.long x3), none, some (.long x5), none] [] I (mm_qi 129 P)
  refine w_aload_nR (x := 58) (n := 1) rfl rfl rfl ?_
  refine w_iconst (v := 0) (n := 2) rfl rfl rfl ?_
  refine w_putI (n := 5) rfl rfl rfl rfl rfl ?_
  refine w_aload_nR (x := 58) (n := 6) rfl rfl rfl ?_
  refine w_getI (n := 9) rfl rfl rfl rfl ?_
  refine w_bipush (v := 24) (n := 11) rfl rfl rfl ?_
  refine w_iadd (n := 12) rfl rfl ?_
  refine w_sipush (v := 240) (n := 15) rfl rfl rfl ?_
  refine w_icmp_le (n := 18) rfl rfl ⟨fun hc => ?_, fun hc => ?_⟩
  · replace H := H.1 hc
    refine w_aload_nR (x := 58) (n := 21) rfl rfl rfl ?_
    refine w_lload_n (n := 22) rfl rfl rfl ?_
    refine w_callv (as := [.ref 58, .long x1]) (rest := []) (n := 25) rfl rfl rfl rfl ?_
    obtain ⟨I22, hI22, H⟩ := H
    refine ⟨I22, hI22, ?_⟩
    refine w_aload_nR (x := 58) (n := 26) rfl rfl rfl ?_
    refine w_lload_n (n := 27) rfl rfl rfl ?_
    refine w_callv (as := [.ref 58, .long x3]) (rest := []) (n := 30) rfl rfl rfl rfl ?_
    obtain ⟨I27, hI27, H⟩ := H
    refine ⟨I27, hI27, ?_⟩
    refine w_aload_nR (x := 58) (n := 31) rfl rfl rfl ?_
    refine w_lload (n := 33) rfl rfl rfl ?_
    refine w_callv (as := [.ref 58, .long x5]) (rest := []) (n := 36) rfl rfl rfl rfl ?_
    obtain ⟨I33, hI33, H⟩ := H
    refine ⟨I33, hI33, ?_⟩
    refine w_aload_nR (x := 58) (n := 37) rfl rfl rfl ?_
    refine w_getI (n := 40) rfl rfl rfl rfl ?_
    exact w_ireturn rfl rfl H
  · replace H := H.2 hc
    refine w_iconst (v := (-1)) (n := 19) rfl rfl rfl ?_
    exact w_ireturn rfl rfl H
theorem e_M_channel {P : Int32 → mm_I → Prop} {I : mm_I} (x1 : Int32)
  (H : (x1 = 8 →
      ((I 58 4) ≤ 0 →
        (¬ (I 58 4) = 2 →
          vp_in (I 58 4) 2 ∧
          P (((I 58 4) + 1) - 1) (mm_up (mm_up (mm_up (mm_up I 58 16 0) 58 5 x1) 61 ((I 58 4).toNatClampNeg) 0) 58 4 ((I 58 4) + 1))) ∧
        ((I 58 4) = 2 →
          P (-1) (mm_up I 58 16 0))) ∧
      (0 < (I 58 4) →
        (¬ x1 = (I 58 5) →
          P (-1) (mm_up I 58 16 0)) ∧
        (x1 = (I 58 5) →
          (¬ (I 58 4) = 2 →
            vp_in (I 58 4) 2 ∧
            P (((I 58 4) + 1) - 1) (mm_up (mm_up (mm_up (mm_up I 58 16 0) 58 5 x1) 61 ((I 58 4).toNatClampNeg) 0) 58 4 ((I 58 4) + 1))) ∧
          ((I 58 4) = 2 →
            P (-1) (mm_up I 58 16 0))))) ∧
    (¬ x1 = 8 →
      (¬ x1 = 16 →
        P (-1) (mm_up I 58 16 0)) ∧
      (x1 = 16 →
        ((I 58 4) ≤ 0 →
          (¬ (I 58 4) = 2 →
            vp_in (I 58 4) 2 ∧
            P (((I 58 4) + 1) - 1) (mm_up (mm_up (mm_up (mm_up I 58 16 0) 58 5 x1) 61 ((I 58 4).toNatClampNeg) 0) 58 4 ((I 58 4) + 1))) ∧
          ((I 58 4) = 2 →
            P (-1) (mm_up I 58 16 0))) ∧
        (0 < (I 58 4) →
          (¬ x1 = (I 58 5) →
            P (-1) (mm_up I 58 16 0)) ∧
          (x1 = (I 58 5) →
            (¬ (I 58 4) = 2 →
              vp_in (I 58 4) 2 ∧
              P (((I 58 4) + 1) - 1) (mm_up (mm_up (mm_up (mm_up I 58 16 0) 58 5 x1) 61 ((I 58 4).toNatClampNeg) 0) 58 4 ((I 58 4) + 1))) ∧
            ((I 58 4) = 2 →
              P (-1) (mm_up I 58 16 0))))))) : mm_Mi 130 [.ref 58, .int x1] I P := by
  refine mm_Mi_of ?_
  show mm_W 130 0 [some (.ref 58), some (.int x1)] [] I (mm_qi 130 P)
  refine w_aload_nR (x := 58) (n := 1) rfl rfl rfl ?_
  refine w_iconst (v := 0) (n := 2) rfl rfl rfl ?_
  refine w_putI (n := 5) rfl rfl rfl rfl rfl ?_
  refine w_iload_n (n := 6) rfl rfl rfl ?_
  refine w_bipush (v := 8) (n := 8) rfl rfl rfl ?_
  refine w_icmp_eq (n := 11) rfl rfl ⟨fun hc => ?_, fun hc => ?_⟩
  · replace H := H.1 hc
    refine w_aload_nR (x := 58) (n := 18) rfl rfl rfl ?_
    refine w_getI (n := 21) rfl rfl rfl rfl ?_
    refine w_if_le (n := 24) rfl rfl ⟨fun hc => ?_, fun hc => ?_⟩
    · replace H := H.1 hc
      refine w_aload_nR (x := 58) (n := 33) rfl rfl rfl ?_
      refine w_getI (n := 36) rfl rfl rfl rfl ?_
      refine w_iconst (v := 2) (n := 37) rfl rfl rfl ?_
      refine w_icmp_ne (n := 40) rfl rfl ⟨fun hc => ?_, fun hc => ?_⟩
      · replace H := H.1 hc
        refine w_aload_nR (x := 58) (n := 43) rfl rfl rfl ?_
        refine w_iload_n (n := 44) rfl rfl rfl ?_
        refine w_putI (n := 47) rfl rfl rfl rfl rfl ?_
        refine w_aload_nR (x := 58) (n := 48) rfl rfl rfl ?_
        refine w_getR (b := 61) (n := 51) rfl rfl rfl rfl rfl ?_
        refine w_aload_nR (x := 58) (n := 52) rfl rfl rfl ?_
        refine w_getI (n := 55) rfl rfl rfl rfl ?_
        refine w_iconst (v := 0) (n := 56) rfl rfl rfl ?_
        refine w_iastore (N := 2) (j := (I 58 4).toNatClampNeg) (n := 57) rfl rfl rfl rfl rfl ⟨H.1, ?_⟩
        replace H := H.2
        refine w_aload_nR (x := 58) (n := 58) rfl rfl rfl ?_
        refine w_dup (n := 59) rfl rfl rfl ?_
        refine w_getI (n := 62) rfl rfl rfl rfl ?_
        refine w_iconst (v := 1) (n := 63) rfl rfl rfl ?_
        refine w_iadd (n := 64) rfl rfl ?_
        refine w_putI (n := 67) rfl rfl rfl rfl rfl ?_
        refine w_aload_nR (x := 58) (n := 68) rfl rfl rfl ?_
        refine w_getI (n := 71) rfl rfl rfl rfl ?_
        refine w_iconst (v := 1) (n := 72) rfl rfl rfl ?_
        refine w_isub (n := 73) rfl rfl ?_
        exact w_ireturn rfl rfl H
      · replace H := H.2 hc
        refine w_iconst (v := (-1)) (n := 41) rfl rfl rfl ?_
        exact w_ireturn rfl rfl H
    · replace H := H.2 hc
      refine w_iload_n (n := 25) rfl rfl rfl ?_
      refine w_aload_nR (x := 58) (n := 26) rfl rfl rfl ?_
      refine w_getI (n := 29) rfl rfl rfl rfl ?_
      refine w_icmp_ne (n := 32) rfl rfl ⟨fun hc => ?_, fun hc => ?_⟩
      · replace H := H.1 hc
        refine w_iconst (v := (-1)) (n := 41) rfl rfl rfl ?_
        exact w_ireturn rfl rfl H
      · replace H := H.2 hc
        refine w_aload_nR (x := 58) (n := 33) rfl rfl rfl ?_
        refine w_getI (n := 36) rfl rfl rfl rfl ?_
        refine w_iconst (v := 2) (n := 37) rfl rfl rfl ?_
        refine w_icmp_ne (n := 40) rfl rfl ⟨fun hc => ?_, fun hc => ?_⟩
        · replace H := H.1 hc
          refine w_aload_nR (x := 58) (n := 43) rfl rfl rfl ?_
          refine w_iload_n (n := 44) rfl rfl rfl ?_
          refine w_putI (n := 47) rfl rfl rfl rfl rfl ?_
          refine w_aload_nR (x := 58) (n := 48) rfl rfl rfl ?_
          refine w_getR (b := 61) (n := 51) rfl rfl rfl rfl rfl ?_
          refine w_aload_nR (x := 58) (n := 52) rfl rfl rfl ?_
          refine w_getI (n := 55) rfl rfl rfl rfl ?_
          refine w_iconst (v := 0) (n := 56) rfl rfl rfl ?_
          refine w_iastore (N := 2) (j := (I 58 4).toNatClampNeg) (n := 57) rfl rfl rfl rfl rfl ⟨H.1, ?_⟩
          replace H := H.2
          refine w_aload_nR (x := 58) (n := 58) rfl rfl rfl ?_
          refine w_dup (n := 59) rfl rfl rfl ?_
          refine w_getI (n := 62) rfl rfl rfl rfl ?_
          refine w_iconst (v := 1) (n := 63) rfl rfl rfl ?_
          refine w_iadd (n := 64) rfl rfl ?_
          refine w_putI (n := 67) rfl rfl rfl rfl rfl ?_
          refine w_aload_nR (x := 58) (n := 68) rfl rfl rfl ?_
          refine w_getI (n := 71) rfl rfl rfl rfl ?_
          refine w_iconst (v := 1) (n := 72) rfl rfl rfl ?_
          refine w_isub (n := 73) rfl rfl ?_
          exact w_ireturn rfl rfl H
        · replace H := H.2 hc
          refine w_iconst (v := (-1)) (n := 41) rfl rfl rfl ?_
          exact w_ireturn rfl rfl H
  · replace H := H.2 hc
    refine w_iload_n (n := 12) rfl rfl rfl ?_
    refine w_bipush (v := 16) (n := 14) rfl rfl rfl ?_
    refine w_icmp_ne (n := 17) rfl rfl ⟨fun hc => ?_, fun hc => ?_⟩
    · replace H := H.1 hc
      refine w_iconst (v := (-1)) (n := 41) rfl rfl rfl ?_
      exact w_ireturn rfl rfl H
    · replace H := H.2 hc
      refine w_aload_nR (x := 58) (n := 18) rfl rfl rfl ?_
      refine w_getI (n := 21) rfl rfl rfl rfl ?_
      refine w_if_le (n := 24) rfl rfl ⟨fun hc => ?_, fun hc => ?_⟩
      · replace H := H.1 hc
        refine w_aload_nR (x := 58) (n := 33) rfl rfl rfl ?_
        refine w_getI (n := 36) rfl rfl rfl rfl ?_
        refine w_iconst (v := 2) (n := 37) rfl rfl rfl ?_
        refine w_icmp_ne (n := 40) rfl rfl ⟨fun hc => ?_, fun hc => ?_⟩
        · replace H := H.1 hc
          refine w_aload_nR (x := 58) (n := 43) rfl rfl rfl ?_
          refine w_iload_n (n := 44) rfl rfl rfl ?_
          refine w_putI (n := 47) rfl rfl rfl rfl rfl ?_
          refine w_aload_nR (x := 58) (n := 48) rfl rfl rfl ?_
          refine w_getR (b := 61) (n := 51) rfl rfl rfl rfl rfl ?_
          refine w_aload_nR (x := 58) (n := 52) rfl rfl rfl ?_
          refine w_getI (n := 55) rfl rfl rfl rfl ?_
          refine w_iconst (v := 0) (n := 56) rfl rfl rfl ?_
          refine w_iastore (N := 2) (j := (I 58 4).toNatClampNeg) (n := 57) rfl rfl rfl rfl rfl ⟨H.1, ?_⟩
          replace H := H.2
          refine w_aload_nR (x := 58) (n := 58) rfl rfl rfl ?_
          refine w_dup (n := 59) rfl rfl rfl ?_
          refine w_getI (n := 62) rfl rfl rfl rfl ?_
          refine w_iconst (v := 1) (n := 63) rfl rfl rfl ?_
          refine w_iadd (n := 64) rfl rfl ?_
          refine w_putI (n := 67) rfl rfl rfl rfl rfl ?_
          refine w_aload_nR (x := 58) (n := 68) rfl rfl rfl ?_
          refine w_getI (n := 71) rfl rfl rfl rfl ?_
          refine w_iconst (v := 1) (n := 72) rfl rfl rfl ?_
          refine w_isub (n := 73) rfl rfl ?_
          exact w_ireturn rfl rfl H
        · replace H := H.2 hc
          refine w_iconst (v := (-1)) (n := 41) rfl rfl rfl ?_
          exact w_ireturn rfl rfl H
      · replace H := H.2 hc
        refine w_iload_n (n := 25) rfl rfl rfl ?_
        refine w_aload_nR (x := 58) (n := 26) rfl rfl rfl ?_
        refine w_getI (n := 29) rfl rfl rfl rfl ?_
        refine w_icmp_ne (n := 32) rfl rfl ⟨fun hc => ?_, fun hc => ?_⟩
        · replace H := H.1 hc
          refine w_iconst (v := (-1)) (n := 41) rfl rfl rfl ?_
          exact w_ireturn rfl rfl H
        · replace H := H.2 hc
          refine w_aload_nR (x := 58) (n := 33) rfl rfl rfl ?_
          refine w_getI (n := 36) rfl rfl rfl rfl ?_
          refine w_iconst (v := 2) (n := 37) rfl rfl rfl ?_
          refine w_icmp_ne (n := 40) rfl rfl ⟨fun hc => ?_, fun hc => ?_⟩
          · replace H := H.1 hc
            refine w_aload_nR (x := 58) (n := 43) rfl rfl rfl ?_
            refine w_iload_n (n := 44) rfl rfl rfl ?_
            refine w_putI (n := 47) rfl rfl rfl rfl rfl ?_
            refine w_aload_nR (x := 58) (n := 48) rfl rfl rfl ?_
            refine w_getR (b := 61) (n := 51) rfl rfl rfl rfl rfl ?_
            refine w_aload_nR (x := 58) (n := 52) rfl rfl rfl ?_
            refine w_getI (n := 55) rfl rfl rfl rfl ?_
            refine w_iconst (v := 0) (n := 56) rfl rfl rfl ?_
            refine w_iastore (N := 2) (j := (I 58 4).toNatClampNeg) (n := 57) rfl rfl rfl rfl rfl ⟨H.1, ?_⟩
            replace H := H.2
            refine w_aload_nR (x := 58) (n := 58) rfl rfl rfl ?_
            refine w_dup (n := 59) rfl rfl rfl ?_
            refine w_getI (n := 62) rfl rfl rfl rfl ?_
            refine w_iconst (v := 1) (n := 63) rfl rfl rfl ?_
            refine w_iadd (n := 64) rfl rfl ?_
            refine w_putI (n := 67) rfl rfl rfl rfl rfl ?_
            refine w_aload_nR (x := 58) (n := 68) rfl rfl rfl ?_
            refine w_getI (n := 71) rfl rfl rfl rfl ?_
            refine w_iconst (v := 1) (n := 72) rfl rfl rfl ?_
            refine w_isub (n := 73) rfl rfl ?_
            exact w_ireturn rfl rfl H
          · replace H := H.2 hc
            refine w_iconst (v := (-1)) (n := 41) rfl rfl rfl ?_
            exact w_ireturn rfl rfl H
theorem e_M_signed {P : Int32 → mm_I → Prop} {I : mm_I} (x0 : Int32) (x1 : Int32)
  (H : P (if x0 < (1 <<< ((x1 - 1) &&& 31)) then (x0 : Int32) else x0 - (1 <<< (x1 &&& 31))) I) : mm_Mi 131 [.int x0, .int x1] I P := by
  refine mm_Mi_of ?_
  show mm_W 131 0 [some (.int x0), some (.int x1)] [] I (mm_qi 131 P)
  refine w_iload_n (n := 1) rfl rfl rfl ?_
  refine w_iconst (v := 1) (n := 2) rfl rfl rfl ?_
  refine w_iload_n (n := 3) rfl rfl rfl ?_
  refine w_iconst (v := 1) (n := 4) rfl rfl rfl ?_
  refine w_isub (n := 5) rfl rfl ?_
  refine w_ishl (n := 6) rfl rfl ?_
  have J6 : ∀ (w6_0 : Int32), w6_0 = (if x0 < (1 <<< ((x1 - 1) &&& 31)) then (x0 : Int32) else x0 - (1 <<< (x1 &&& 31))) → mm_W 131 18 [some (.int x0), some (.int x1)] [.int w6_0] I (mm_qi 131 P) := by
    intro w6_0 e6_0
    subst e6_0
    exact w_ireturn rfl rfl H
  refine w_icmp_lt (n := 9) rfl rfl ⟨fun hc => ?_, fun hc => ?_⟩
  · refine w_iload_n (n := 18) rfl rfl rfl ?_
    refine w_drp mm_Qf_i (J6 _ ?_) (lb_s (lb_s lb_e))
    · exact (if_pos hc).symm
  · refine w_iload_n (n := 10) rfl rfl rfl ?_
    refine w_iconst (v := 1) (n := 11) rfl rfl rfl ?_
    refine w_iload_n (n := 12) rfl rfl rfl ?_
    refine w_ishl (n := 13) rfl rfl ?_
    refine w_isub (n := 14) rfl rfl ?_
    refine w_goto rfl ?_
    refine w_drp mm_Qf_i (J6 _ ?_) (lb_s (lb_s lb_e))
    · exact (if_neg (fa_nlt hc)).symm
theorem e_M_puts {P : mm_I → Prop} {I : mm_I} (x1 : Int32) (x2 : Int32)
  (H : vp_in x1 2 ∧
    vp_in ((256 * x1) + (I 61 x1.toNatClampNeg)) 512 ∧
    vp_in x1 2 ∧
    vp_in x1 2 ∧
    P (mm_up (mm_up I 60 (((256 * x1) + (I 61 x1.toNatClampNeg)).toNatClampNeg) x2) 61 x1.toNatClampNeg ((I 61 x1.toNatClampNeg) + 1))) : mm_Mv 132 [.ref 58, .int x1, .int x2] I P := by
  refine mm_Mv_of ?_
  show mm_W 132 0 [some (.ref 58), some (.int x1), some (.int x2)] [] I (mm_qv 132 P)
  refine w_aload_nR (x := 58) (n := 1) rfl rfl rfl ?_
  refine w_getR (b := 60) (n := 4) rfl rfl rfl rfl rfl ?_
  refine w_sipush (v := 256) (n := 7) rfl rfl rfl ?_
  refine w_iload_n (n := 8) rfl rfl rfl ?_
  refine w_imul (n := 9) rfl rfl ?_
  refine w_aload_nR (x := 58) (n := 10) rfl rfl rfl ?_
  refine w_getR (b := 61) (n := 13) rfl rfl rfl rfl rfl ?_
  refine w_iload_n (n := 14) rfl rfl rfl ?_
  refine w_iaload (N := 2) (j := x1.toNatClampNeg) (n := 15) rfl rfl rfl rfl rfl rfl ⟨H.1, ?_⟩
  replace H := H.2
  refine w_iadd (n := 16) rfl rfl ?_
  refine w_iload_n (n := 17) rfl rfl rfl ?_
  refine w_iastore (N := 512) (j := ((256 * x1) + (I 61 x1.toNatClampNeg)).toNatClampNeg) (n := 18) rfl rfl rfl rfl rfl ⟨H.1, ?_⟩
  replace H := H.2
  refine w_aload_nR (x := 58) (n := 19) rfl rfl rfl ?_
  refine w_getR (b := 61) (n := 22) rfl rfl rfl rfl rfl ?_
  refine w_iload_n (n := 23) rfl rfl rfl ?_
  refine w_dup2 (n := 24) rfl rfl rfl ?_
  refine w_iaload (N := 2) (j := x1.toNatClampNeg) (n := 25) rfl rfl rfl rfl rfl rfl ⟨H.1, ?_⟩
  replace H := H.2
  refine w_iconst (v := 1) (n := 26) rfl rfl rfl ?_
  refine w_iadd (n := 27) rfl rfl ?_
  refine w_iastore (N := 2) (j := x1.toNatClampNeg) (n := 28) rfl rfl rfl rfl rfl ⟨H.1, ?_⟩
  replace H := H.2
  exact w_vreturn rfl rfl H
