theorem e_Cutter_unsigned {P : Int32 → mm_I → Prop} {I : mm_I} (x0 : Int32)
  (H : P (if 0 ≤ x0 then (2 * x0 : Int32) else ((-2) * x0) - 1) I) : mm_Mi 1 [.int x0] I P := by
  refine mm_Mi_of ?_
  show mm_W 1 0 [some (.int x0)] [] I (mm_qi 1 P)
  refine w_iload_n (n := 1) rfl rfl rfl ?_
  have J1 : ∀ (w1_0 : Int32), w1_0 = (if 0 ≤ x0 then (2 * x0 : Int32) else ((-2) * x0) - 1) → mm_W 1 16 [some (.int x0)] [.int w1_0] I (mm_qi 1 P) := by
    intro w1_0 e1_0
    subst e1_0
    exact w_ireturn rfl rfl H
  refine w_if_ge (n := 4) rfl rfl ⟨fun hc => ?_, fun hc => ?_⟩
  · refine w_iconst (v := 2) (n := 14) rfl rfl rfl ?_
    refine w_iload_n (n := 15) rfl rfl rfl ?_
    refine w_imul (n := 16) rfl rfl ?_
    refine w_drp mm_Qf_i (J1 _ ?_) (lb_s lb_e)
    · exact (if_pos hc).symm
  · refine w_bipush (v := (-2)) (n := 6) rfl rfl rfl ?_
    refine w_iload_n (n := 7) rfl rfl rfl ?_
    refine w_imul (n := 8) rfl rfl ?_
    refine w_iconst (v := 1) (n := 9) rfl rfl rfl ?_
    refine w_isub (n := 10) rfl rfl ?_
    refine w_goto rfl ?_
    refine w_drp mm_Qf_i (J1 _ ?_) (lb_s lb_e)
    · exact (if_neg (fa_nle hc)).symm
theorem e_Cutter_load {P : mm_I → Prop} {I : mm_I} {rr : Nat} (hs0 : rr = 22 ∨ rr = 28 ∨ rr = 34 ∨ rr = 40) (x3 : Int32)
  (H : vp_in x3 8 ∧
    mm_W 2 18 [some (.ref 11), some (.ref rr), some (.ref 6), some (.int x3), some (.int (I 8 x3.toNatClampNeg)), none] [] (mm_up (mm_up I 11 1 0) 11 3 0) (mm_qv 2 P)) : mm_Mv 2 [.ref 11, .ref rr, .ref 6, .int x3] I P := by
  rcases hs0 with rfl | rfl | rfl | rfl
  · refine mm_Mv_of ?_
    show mm_W 2 0 [some (.ref 11), some (.ref 22), some (.ref 6), some (.int x3), none, none] [] I (mm_qv 2 P)
    refine w_aload_nR (x := 11) (n := 1) rfl rfl rfl ?_
    refine w_iconst (v := 0) (n := 2) rfl rfl rfl ?_
    refine w_putI (n := 5) rfl rfl rfl rfl rfl ?_
    refine w_aload_nR (x := 11) (n := 6) rfl rfl rfl ?_
    refine w_iconst (v := 0) (n := 7) rfl rfl rfl ?_
    refine w_putI (n := 10) rfl rfl rfl rfl rfl ?_
    refine w_aload_nR (x := 6) (n := 11) rfl rfl rfl ?_
    refine w_getR (b := 8) (n := 14) rfl rfl rfl rfl rfl ?_
    refine w_iload_n (n := 15) rfl rfl rfl ?_
    refine w_iaload (N := 8) (j := x3.toNatClampNeg) (n := 16) rfl rfl rfl rfl rfl rfl ⟨H.1, ?_⟩
    replace H := H.2
    refine w_istore (ls' := [some (.ref 11), some (.ref 22), some (.ref 6), some (.int x3), some (.int (I 8 x3.toNatClampNeg)), none]) (n := 18) rfl rfl rfl rfl ?_
    exact w_drp mm_Qf_v H (lb_s (lb_s (lb_s (lb_s (lb_s (lb_n lb_e))))))
  · refine mm_Mv_of ?_
    show mm_W 2 0 [some (.ref 11), some (.ref 28), some (.ref 6), some (.int x3), none, none] [] I (mm_qv 2 P)
    refine w_aload_nR (x := 11) (n := 1) rfl rfl rfl ?_
    refine w_iconst (v := 0) (n := 2) rfl rfl rfl ?_
    refine w_putI (n := 5) rfl rfl rfl rfl rfl ?_
    refine w_aload_nR (x := 11) (n := 6) rfl rfl rfl ?_
    refine w_iconst (v := 0) (n := 7) rfl rfl rfl ?_
    refine w_putI (n := 10) rfl rfl rfl rfl rfl ?_
    refine w_aload_nR (x := 6) (n := 11) rfl rfl rfl ?_
    refine w_getR (b := 8) (n := 14) rfl rfl rfl rfl rfl ?_
    refine w_iload_n (n := 15) rfl rfl rfl ?_
    refine w_iaload (N := 8) (j := x3.toNatClampNeg) (n := 16) rfl rfl rfl rfl rfl rfl ⟨H.1, ?_⟩
    replace H := H.2
    refine w_istore (ls' := [some (.ref 11), some (.ref 28), some (.ref 6), some (.int x3), some (.int (I 8 x3.toNatClampNeg)), none]) (n := 18) rfl rfl rfl rfl ?_
    exact w_drp mm_Qf_v H (lb_s (lb_s (lb_s (lb_s (lb_s (lb_n lb_e))))))
  · refine mm_Mv_of ?_
    show mm_W 2 0 [some (.ref 11), some (.ref 34), some (.ref 6), some (.int x3), none, none] [] I (mm_qv 2 P)
    refine w_aload_nR (x := 11) (n := 1) rfl rfl rfl ?_
    refine w_iconst (v := 0) (n := 2) rfl rfl rfl ?_
    refine w_putI (n := 5) rfl rfl rfl rfl rfl ?_
    refine w_aload_nR (x := 11) (n := 6) rfl rfl rfl ?_
    refine w_iconst (v := 0) (n := 7) rfl rfl rfl ?_
    refine w_putI (n := 10) rfl rfl rfl rfl rfl ?_
    refine w_aload_nR (x := 6) (n := 11) rfl rfl rfl ?_
    refine w_getR (b := 8) (n := 14) rfl rfl rfl rfl rfl ?_
    refine w_iload_n (n := 15) rfl rfl rfl ?_
    refine w_iaload (N := 8) (j := x3.toNatClampNeg) (n := 16) rfl rfl rfl rfl rfl rfl ⟨H.1, ?_⟩
    replace H := H.2
    refine w_istore (ls' := [some (.ref 11), some (.ref 34), some (.ref 6), some (.int x3), some (.int (I 8 x3.toNatClampNeg)), none]) (n := 18) rfl rfl rfl rfl ?_
    exact w_drp mm_Qf_v H (lb_s (lb_s (lb_s (lb_s (lb_s (lb_n lb_e))))))
  · refine mm_Mv_of ?_
    show mm_W 2 0 [some (.ref 11), some (.ref 40), some (.ref 6), some (.int x3), none, none] [] I (mm_qv 2 P)
    refine w_aload_nR (x := 11) (n := 1) rfl rfl rfl ?_
    refine w_iconst (v := 0) (n := 2) rfl rfl rfl ?_
    refine w_putI (n := 5) rfl rfl rfl rfl rfl ?_
    refine w_aload_nR (x := 11) (n := 6) rfl rfl rfl ?_
    refine w_iconst (v := 0) (n := 7) rfl rfl rfl ?_
    refine w_putI (n := 10) rfl rfl rfl rfl rfl ?_
    refine w_aload_nR (x := 6) (n := 11) rfl rfl rfl ?_
    refine w_getR (b := 8) (n := 14) rfl rfl rfl rfl rfl ?_
    refine w_iload_n (n := 15) rfl rfl rfl ?_
    refine w_iaload (N := 8) (j := x3.toNatClampNeg) (n := 16) rfl rfl rfl rfl rfl rfl ⟨H.1, ?_⟩
    replace H := H.2
    refine w_istore (ls' := [some (.ref 11), some (.ref 40), some (.ref 6), some (.int x3), some (.int (I 8 x3.toNatClampNeg)), none]) (n := 18) rfl rfl rfl rfl ?_
    exact w_drp mm_Qf_v H (lb_s (lb_s (lb_s (lb_s (lb_s (lb_n lb_e))))))
theorem c_Cutter_load_18 {P : mm_I → Prop} {I : mm_I} {rr : Nat} (hs0 : rr = 22 ∨ rr = 28 ∨ rr = 34 ∨ rr = 40) (x3 : Int32) (x4 : Int32)
  (H : ((I rr 1) ≤ x4 →
      P (mm_up I 11 2 ((((I 11 1) + 8) - 1) / 8))) ∧
    (x4 < (I rr 1) →
      vp_in x4 64 ∧
      mm_Mi 22 [.ref 6, .int x3, .ref (rr + 1), .int x4] I (fun r42 I42 =>  -- Pred.guess
      vp_in (I42 11 1) 64 ∧
      mm_W 2 18 [some (.ref 11), some (.ref rr), some (.ref 6), some (.int x3), some (.int (x4 + 1)), none] [] (mm_up (mm_up (mm_up I42 12 ((I42 11 1).toNatClampNeg) ((I (rr + 1) x4.toNatClampNeg) - r42)) 11 1 ((I42 11 1) + 1)) 11 3 ((I42 11 3) + (if 0 ≤ ((I (rr + 1) x4.toNatClampNeg) - r42) then ((I (rr + 1) x4.toNatClampNeg) - r42 : Int32) else -((I (rr + 1) x4.toNatClampNeg) - r42)))) (mm_qv 2 P)))) : mm_W 2 18 [some (.ref 11), some (.ref rr), some (.ref 6), some (.int x3), some (.int x4), none] [] I (mm_qv 2 P) := by
  rcases hs0 with rfl | rfl | rfl | rfl
  · refine w_iload (n := 20) rfl rfl rfl ?_
    refine w_aload_nR (x := 22) (n := 21) rfl rfl rfl ?_
    refine w_getI (n := 24) rfl rfl rfl rfl ?_
    refine w_icmp_ge (n := 27) rfl rfl ⟨fun hc => ?_, fun hc => ?_⟩
    · replace H := H.1 hc
      refine w_aload_nR (x := 11) (n := 98) rfl rfl rfl ?_
      refine w_aload_nR (x := 11) (n := 99) rfl rfl rfl ?_
      refine w_getI (n := 102) rfl rfl rfl rfl ?_
      refine w_bipush (v := 8) (n := 104) rfl rfl rfl ?_
      refine w_iadd (n := 105) rfl rfl ?_
      refine w_iconst (v := 1) (n := 106) rfl rfl rfl ?_
      refine w_isub (n := 107) rfl rfl ?_
      refine w_bipush (v := 8) (n := 109) rfl rfl rfl ?_
      refine w_idiv (n := 110) rfl rfl ⟨by decide, ?_⟩
      refine w_putI (n := 113) rfl rfl rfl rfl rfl ?_
      exact w_vreturn rfl rfl H
    · replace H := H.2 hc
      refine w_aload_nR (x := 22) (n := 28) rfl rfl rfl ?_
      refine w_getR (b := 23) (n := 31) rfl rfl rfl rfl rfl ?_
      refine w_iload (n := 33) rfl rfl rfl ?_
      refine w_iaload (N := 64) (j := x4.toNatClampNeg) (n := 34) rfl rfl rfl rfl rfl rfl ⟨H.1, ?_⟩
      replace H := H.2
      refine w_aload_nR (x := 6) (n := 35) rfl rfl rfl ?_
      refine w_iload_n (n := 36) rfl rfl rfl ?_
      refine w_aload_nR (x := 22) (n := 37) rfl rfl rfl ?_
      refine w_getR (b := 23) (n := 40) rfl rfl rfl rfl rfl ?_
      refine w_iload (n := 42) rfl rfl rfl ?_
      refine w_calli (as := [.ref 6, .int x3, .ref 23, .int x4]) (rest := [.int (I 23 x4.toNatClampNeg)]) (n := 45) rfl rfl rfl rfl ?_
      obtain ⟨r42, I42, hI42, H⟩ := H
      refine ⟨r42, I42, hI42, ?_⟩
      refine w_isub (n := 46) rfl rfl ?_
      refine w_istore (ls' := [some (.ref 11), some (.ref 22), some (.ref 6), some (.int x3), some (.int x4), some (.int ((I 23 x4.toNatClampNeg) - r42))]) (n := 48) rfl rfl rfl rfl ?_
      refine w_aload_nR (x := 11) (n := 49) rfl rfl rfl ?_
      refine w_getR (b := 12) (n := 52) rfl rfl rfl rfl rfl ?_
      refine w_aload_nR (x := 11) (n := 53) rfl rfl rfl ?_
      refine w_getI (n := 56) rfl rfl rfl rfl ?_
      refine w_iload (n := 58) rfl rfl rfl ?_
      refine w_iastore (N := 64) (j := (I42 11 1).toNatClampNeg) (n := 59) rfl rfl rfl rfl rfl ⟨H.1, ?_⟩
      replace H := H.2
      refine w_aload_nR (x := 11) (n := 60) rfl rfl rfl ?_
      refine w_dup (n := 61) rfl rfl rfl ?_
      refine w_getI (n := 64) rfl rfl rfl rfl ?_
      refine w_iconst (v := 1) (n := 65) rfl rfl rfl ?_
      refine w_iadd (n := 66) rfl rfl ?_
      refine w_putI (n := 69) rfl rfl rfl rfl rfl ?_
      refine w_aload_nR (x := 11) (n := 70) rfl rfl rfl ?_
      refine w_dup (n := 71) rfl rfl rfl ?_
      refine w_getI (n := 74) rfl rfl rfl rfl ?_
      refine w_iload (n := 76) rfl rfl rfl ?_
      have J76 : ∀ (w76_2 : Int32), w76_2 = (if 0 ≤ ((I 23 x4.toNatClampNeg) - r42) then ((I 23 x4.toNatClampNeg) - r42 : Int32) else -((I 23 x4.toNatClampNeg) - r42)) → mm_W 2 87 [some (.ref 11), some (.ref 22), some (.ref 6), some (.int x3), some (.int x4), some (.int ((I 23 x4.toNatClampNeg) - r42))] [.int w76_2, .int (I42 11 3), .ref 11] (mm_up (mm_up I42 12 ((I42 11 1).toNatClampNeg) ((I 23 x4.toNatClampNeg) - r42)) 11 1 ((I42 11 1) + 1)) (mm_qv 2 P) := by
        intro w76_2 e76_0
        subst e76_0
        refine w_iadd (n := 88) rfl rfl ?_
        refine w_putI (n := 91) rfl rfl rfl rfl rfl ?_
        refine w_iinc (y := x4 + 1) (ls' := [some (.ref 11), some (.ref 22), some (.ref 6), some (.int x3), some (.int (x4 + 1)), some (.int ((I 23 x4.toNatClampNeg) - r42))]) (n := 94) rfl rfl rfl rfl rfl ?_
        refine w_goto rfl ?_
        exact w_drp mm_Qf_v H (lb_s (lb_s (lb_s (lb_s (lb_s (lb_n lb_e))))))
      refine w_if_ge (n := 79) rfl rfl ⟨fun hc => ?_, fun hc => ?_⟩
      · refine w_iload (n := 87) rfl rfl rfl ?_
        refine w_drp mm_Qf_v (J76 _ ?_) (lb_s (lb_s (lb_s (lb_s (lb_s (lb_s lb_e))))))
        · exact (if_pos hc).symm
      · refine w_iload (n := 81) rfl rfl rfl ?_
        refine w_ineg (n := 82) rfl rfl ?_
        refine w_goto rfl ?_
        refine w_drp mm_Qf_v (J76 _ ?_) (lb_s (lb_s (lb_s (lb_s (lb_s (lb_s lb_e))))))
        · exact (if_neg (fa_nle hc)).symm
  · refine w_iload (n := 20) rfl rfl rfl ?_
    refine w_aload_nR (x := 28) (n := 21) rfl rfl rfl ?_
    refine w_getI (n := 24) rfl rfl rfl rfl ?_
    refine w_icmp_ge (n := 27) rfl rfl ⟨fun hc => ?_, fun hc => ?_⟩
    · replace H := H.1 hc
      refine w_aload_nR (x := 11) (n := 98) rfl rfl rfl ?_
      refine w_aload_nR (x := 11) (n := 99) rfl rfl rfl ?_
      refine w_getI (n := 102) rfl rfl rfl rfl ?_
      refine w_bipush (v := 8) (n := 104) rfl rfl rfl ?_
      refine w_iadd (n := 105) rfl rfl ?_
      refine w_iconst (v := 1) (n := 106) rfl rfl rfl ?_
      refine w_isub (n := 107) rfl rfl ?_
      refine w_bipush (v := 8) (n := 109) rfl rfl rfl ?_
      refine w_idiv (n := 110) rfl rfl ⟨by decide, ?_⟩
      refine w_putI (n := 113) rfl rfl rfl rfl rfl ?_
      exact w_vreturn rfl rfl H
    · replace H := H.2 hc
      refine w_aload_nR (x := 28) (n := 28) rfl rfl rfl ?_
      refine w_getR (b := 29) (n := 31) rfl rfl rfl rfl rfl ?_
      refine w_iload (n := 33) rfl rfl rfl ?_
      refine w_iaload (N := 64) (j := x4.toNatClampNeg) (n := 34) rfl rfl rfl rfl rfl rfl ⟨H.1, ?_⟩
      replace H := H.2
      refine w_aload_nR (x := 6) (n := 35) rfl rfl rfl ?_
      refine w_iload_n (n := 36) rfl rfl rfl ?_
      refine w_aload_nR (x := 28) (n := 37) rfl rfl rfl ?_
      refine w_getR (b := 29) (n := 40) rfl rfl rfl rfl rfl ?_
      refine w_iload (n := 42) rfl rfl rfl ?_
      refine w_calli (as := [.ref 6, .int x3, .ref 29, .int x4]) (rest := [.int (I 29 x4.toNatClampNeg)]) (n := 45) rfl rfl rfl rfl ?_
      obtain ⟨r42, I42, hI42, H⟩ := H
      refine ⟨r42, I42, hI42, ?_⟩
      refine w_isub (n := 46) rfl rfl ?_
      refine w_istore (ls' := [some (.ref 11), some (.ref 28), some (.ref 6), some (.int x3), some (.int x4), some (.int ((I 29 x4.toNatClampNeg) - r42))]) (n := 48) rfl rfl rfl rfl ?_
      refine w_aload_nR (x := 11) (n := 49) rfl rfl rfl ?_
      refine w_getR (b := 12) (n := 52) rfl rfl rfl rfl rfl ?_
      refine w_aload_nR (x := 11) (n := 53) rfl rfl rfl ?_
      refine w_getI (n := 56) rfl rfl rfl rfl ?_
      refine w_iload (n := 58) rfl rfl rfl ?_
      refine w_iastore (N := 64) (j := (I42 11 1).toNatClampNeg) (n := 59) rfl rfl rfl rfl rfl ⟨H.1, ?_⟩
      replace H := H.2
      refine w_aload_nR (x := 11) (n := 60) rfl rfl rfl ?_
      refine w_dup (n := 61) rfl rfl rfl ?_
      refine w_getI (n := 64) rfl rfl rfl rfl ?_
      refine w_iconst (v := 1) (n := 65) rfl rfl rfl ?_
      refine w_iadd (n := 66) rfl rfl ?_
      refine w_putI (n := 69) rfl rfl rfl rfl rfl ?_
      refine w_aload_nR (x := 11) (n := 70) rfl rfl rfl ?_
      refine w_dup (n := 71) rfl rfl rfl ?_
      refine w_getI (n := 74) rfl rfl rfl rfl ?_
      refine w_iload (n := 76) rfl rfl rfl ?_
      have J76 : ∀ (w76_2 : Int32), w76_2 = (if 0 ≤ ((I 29 x4.toNatClampNeg) - r42) then ((I 29 x4.toNatClampNeg) - r42 : Int32) else -((I 29 x4.toNatClampNeg) - r42)) → mm_W 2 87 [some (.ref 11), some (.ref 28), some (.ref 6), some (.int x3), some (.int x4), some (.int ((I 29 x4.toNatClampNeg) - r42))] [.int w76_2, .int (I42 11 3), .ref 11] (mm_up (mm_up I42 12 ((I42 11 1).toNatClampNeg) ((I 29 x4.toNatClampNeg) - r42)) 11 1 ((I42 11 1) + 1)) (mm_qv 2 P) := by
        intro w76_2 e76_0
        subst e76_0
        refine w_iadd (n := 88) rfl rfl ?_
        refine w_putI (n := 91) rfl rfl rfl rfl rfl ?_
        refine w_iinc (y := x4 + 1) (ls' := [some (.ref 11), some (.ref 28), some (.ref 6), some (.int x3), some (.int (x4 + 1)), some (.int ((I 29 x4.toNatClampNeg) - r42))]) (n := 94) rfl rfl rfl rfl rfl ?_
        refine w_goto rfl ?_
        exact w_drp mm_Qf_v H (lb_s (lb_s (lb_s (lb_s (lb_s (lb_n lb_e))))))
      refine w_if_ge (n := 79) rfl rfl ⟨fun hc => ?_, fun hc => ?_⟩
      · refine w_iload (n := 87) rfl rfl rfl ?_
        refine w_drp mm_Qf_v (J76 _ ?_) (lb_s (lb_s (lb_s (lb_s (lb_s (lb_s lb_e))))))
        · exact (if_pos hc).symm
      · refine w_iload (n := 81) rfl rfl rfl ?_
        refine w_ineg (n := 82) rfl rfl ?_
        refine w_goto rfl ?_
        refine w_drp mm_Qf_v (J76 _ ?_) (lb_s (lb_s (lb_s (lb_s (lb_s (lb_s lb_e))))))
        · exact (if_neg (fa_nle hc)).symm
  · refine w_iload (n := 20) rfl rfl rfl ?_
    refine w_aload_nR (x := 34) (n := 21) rfl rfl rfl ?_
    refine w_getI (n := 24) rfl rfl rfl rfl ?_
    refine w_icmp_ge (n := 27) rfl rfl ⟨fun hc => ?_, fun hc => ?_⟩
    · replace H := H.1 hc
      refine w_aload_nR (x := 11) (n := 98) rfl rfl rfl ?_
      refine w_aload_nR (x := 11) (n := 99) rfl rfl rfl ?_
      refine w_getI (n := 102) rfl rfl rfl rfl ?_
      refine w_bipush (v := 8) (n := 104) rfl rfl rfl ?_
      refine w_iadd (n := 105) rfl rfl ?_
      refine w_iconst (v := 1) (n := 106) rfl rfl rfl ?_
      refine w_isub (n := 107) rfl rfl ?_
      refine w_bipush (v := 8) (n := 109) rfl rfl rfl ?_
      refine w_idiv (n := 110) rfl rfl ⟨by decide, ?_⟩
      refine w_putI (n := 113) rfl rfl rfl rfl rfl ?_
      exact w_vreturn rfl rfl H
    · replace H := H.2 hc
      refine w_aload_nR (x := 34) (n := 28) rfl rfl rfl ?_
      refine w_getR (b := 35) (n := 31) rfl rfl rfl rfl rfl ?_
      refine w_iload (n := 33) rfl rfl rfl ?_
      refine w_iaload (N := 64) (j := x4.toNatClampNeg) (n := 34) rfl rfl rfl rfl rfl rfl ⟨H.1, ?_⟩
      replace H := H.2
      refine w_aload_nR (x := 6) (n := 35) rfl rfl rfl ?_
      refine w_iload_n (n := 36) rfl rfl rfl ?_
      refine w_aload_nR (x := 34) (n := 37) rfl rfl rfl ?_
      refine w_getR (b := 35) (n := 40) rfl rfl rfl rfl rfl ?_
      refine w_iload (n := 42) rfl rfl rfl ?_
      refine w_calli (as := [.ref 6, .int x3, .ref 35, .int x4]) (rest := [.int (I 35 x4.toNatClampNeg)]) (n := 45) rfl rfl rfl rfl ?_
      obtain ⟨r42, I42, hI42, H⟩ := H
      refine ⟨r42, I42, hI42, ?_⟩
      refine w_isub (n := 46) rfl rfl ?_
      refine w_istore (ls' := [some (.ref 11), some (.ref 34), some (.ref 6), some (.int x3), some (.int x4), some (.int ((I 35 x4.toNatClampNeg) - r42))]) (n := 48) rfl rfl rfl rfl ?_
      refine w_aload_nR (x := 11) (n := 49) rfl rfl rfl ?_
      refine w_getR (b := 12) (n := 52) rfl rfl rfl rfl rfl ?_
      refine w_aload_nR (x := 11) (n := 53) rfl rfl rfl ?_
      refine w_getI (n := 56) rfl rfl rfl rfl ?_
      refine w_iload (n := 58) rfl rfl rfl ?_
      refine w_iastore (N := 64) (j := (I42 11 1).toNatClampNeg) (n := 59) rfl rfl rfl rfl rfl ⟨H.1, ?_⟩
      replace H := H.2
      refine w_aload_nR (x := 11) (n := 60) rfl rfl rfl ?_
      refine w_dup (n := 61) rfl rfl rfl ?_
      refine w_getI (n := 64) rfl rfl rfl rfl ?_
      refine w_iconst (v := 1) (n := 65) rfl rfl rfl ?_
      refine w_iadd (n := 66) rfl rfl ?_
      refine w_putI (n := 69) rfl rfl rfl rfl rfl ?_
      refine w_aload_nR (x := 11) (n := 70) rfl rfl rfl ?_
      refine w_dup (n := 71) rfl rfl rfl ?_
      refine w_getI (n := 74) rfl rfl rfl rfl ?_
      refine w_iload (n := 76) rfl rfl rfl ?_
      have J76 : ∀ (w76_2 : Int32), w76_2 = (if 0 ≤ ((I 35 x4.toNatClampNeg) - r42) then ((I 35 x4.toNatClampNeg) - r42 : Int32) else -((I 35 x4.toNatClampNeg) - r42)) → mm_W 2 87 [some (.ref 11), some (.ref 34), some (.ref 6), some (.int x3), some (.int x4), some (.int ((I 35 x4.toNatClampNeg) - r42))] [.int w76_2, .int (I42 11 3), .ref 11] (mm_up (mm_up I42 12 ((I42 11 1).toNatClampNeg) ((I 35 x4.toNatClampNeg) - r42)) 11 1 ((I42 11 1) + 1)) (mm_qv 2 P) := by
        intro w76_2 e76_0
        subst e76_0
        refine w_iadd (n := 88) rfl rfl ?_
        refine w_putI (n := 91) rfl rfl rfl rfl rfl ?_
        refine w_iinc (y := x4 + 1) (ls' := [some (.ref 11), some (.ref 34), some (.ref 6), some (.int x3), some (.int (x4 + 1)), some (.int ((I 35 x4.toNatClampNeg) - r42))]) (n := 94) rfl rfl rfl rfl rfl ?_
        refine w_goto rfl ?_
        exact w_drp mm_Qf_v H (lb_s (lb_s (lb_s (lb_s (lb_s (lb_n lb_e))))))
      refine w_if_ge (n := 79) rfl rfl ⟨fun hc => ?_, fun hc => ?_⟩
      · refine w_iload (n := 87) rfl rfl rfl ?_
        refine w_drp mm_Qf_v (J76 _ ?_) (lb_s (lb_s (lb_s (lb_s (lb_s (lb_s lb_e))))))
        · exact (if_pos hc).symm
      · refine w_iload (n := 81) rfl rfl rfl ?_
        refine w_ineg (n := 82) rfl rfl ?_
        refine w_goto rfl ?_
        refine w_drp mm_Qf_v (J76 _ ?_) (lb_s (lb_s (lb_s (lb_s (lb_s (lb_s lb_e))))))
        · exact (if_neg (fa_nle hc)).symm
  · refine w_iload (n := 20) rfl rfl rfl ?_
    refine w_aload_nR (x := 40) (n := 21) rfl rfl rfl ?_
    refine w_getI (n := 24) rfl rfl rfl rfl ?_
    refine w_icmp_ge (n := 27) rfl rfl ⟨fun hc => ?_, fun hc => ?_⟩
    · replace H := H.1 hc
      refine w_aload_nR (x := 11) (n := 98) rfl rfl rfl ?_
      refine w_aload_nR (x := 11) (n := 99) rfl rfl rfl ?_
      refine w_getI (n := 102) rfl rfl rfl rfl ?_
      refine w_bipush (v := 8) (n := 104) rfl rfl rfl ?_
      refine w_iadd (n := 105) rfl rfl ?_
      refine w_iconst (v := 1) (n := 106) rfl rfl rfl ?_
      refine w_isub (n := 107) rfl rfl ?_
      refine w_bipush (v := 8) (n := 109) rfl rfl rfl ?_
      refine w_idiv (n := 110) rfl rfl ⟨by decide, ?_⟩
      refine w_putI (n := 113) rfl rfl rfl rfl rfl ?_
      exact w_vreturn rfl rfl H
    · replace H := H.2 hc
      refine w_aload_nR (x := 40) (n := 28) rfl rfl rfl ?_
      refine w_getR (b := 41) (n := 31) rfl rfl rfl rfl rfl ?_
      refine w_iload (n := 33) rfl rfl rfl ?_
      refine w_iaload (N := 64) (j := x4.toNatClampNeg) (n := 34) rfl rfl rfl rfl rfl rfl ⟨H.1, ?_⟩
      replace H := H.2
      refine w_aload_nR (x := 6) (n := 35) rfl rfl rfl ?_
      refine w_iload_n (n := 36) rfl rfl rfl ?_
      refine w_aload_nR (x := 40) (n := 37) rfl rfl rfl ?_
      refine w_getR (b := 41) (n := 40) rfl rfl rfl rfl rfl ?_
      refine w_iload (n := 42) rfl rfl rfl ?_
      refine w_calli (as := [.ref 6, .int x3, .ref 41, .int x4]) (rest := [.int (I 41 x4.toNatClampNeg)]) (n := 45) rfl rfl rfl rfl ?_
      obtain ⟨r42, I42, hI42, H⟩ := H
      refine ⟨r42, I42, hI42, ?_⟩
      refine w_isub (n := 46) rfl rfl ?_
      refine w_istore (ls' := [some (.ref 11), some (.ref 40), some (.ref 6), some (.int x3), some (.int x4), some (.int ((I 41 x4.toNatClampNeg) - r42))]) (n := 48) rfl rfl rfl rfl ?_
      refine w_aload_nR (x := 11) (n := 49) rfl rfl rfl ?_
      refine w_getR (b := 12) (n := 52) rfl rfl rfl rfl rfl ?_
      refine w_aload_nR (x := 11) (n := 53) rfl rfl rfl ?_
      refine w_getI (n := 56) rfl rfl rfl rfl ?_
      refine w_iload (n := 58) rfl rfl rfl ?_
      refine w_iastore (N := 64) (j := (I42 11 1).toNatClampNeg) (n := 59) rfl rfl rfl rfl rfl ⟨H.1, ?_⟩
      replace H := H.2
      refine w_aload_nR (x := 11) (n := 60) rfl rfl rfl ?_
      refine w_dup (n := 61) rfl rfl rfl ?_
      refine w_getI (n := 64) rfl rfl rfl rfl ?_
      refine w_iconst (v := 1) (n := 65) rfl rfl rfl ?_
      refine w_iadd (n := 66) rfl rfl ?_
      refine w_putI (n := 69) rfl rfl rfl rfl rfl ?_
      refine w_aload_nR (x := 11) (n := 70) rfl rfl rfl ?_
      refine w_dup (n := 71) rfl rfl rfl ?_
      refine w_getI (n := 74) rfl rfl rfl rfl ?_
      refine w_iload (n := 76) rfl rfl rfl ?_
      have J76 : ∀ (w76_2 : Int32), w76_2 = (if 0 ≤ ((I 41 x4.toNatClampNeg) - r42) then ((I 41 x4.toNatClampNeg) - r42 : Int32) else -((I 41 x4.toNatClampNeg) - r42)) → mm_W 2 87 [some (.ref 11), some (.ref 40), some (.ref 6), some (.int x3), some (.int x4), some (.int ((I 41 x4.toNatClampNeg) - r42))] [.int w76_2, .int (I42 11 3), .ref 11] (mm_up (mm_up I42 12 ((I42 11 1).toNatClampNeg) ((I 41 x4.toNatClampNeg) - r42)) 11 1 ((I42 11 1) + 1)) (mm_qv 2 P) := by
        intro w76_2 e76_0
        subst e76_0
        refine w_iadd (n := 88) rfl rfl ?_
        refine w_putI (n := 91) rfl rfl rfl rfl rfl ?_
        refine w_iinc (y := x4 + 1) (ls' := [some (.ref 11), some (.ref 40), some (.ref 6), some (.int x3), some (.int (x4 + 1)), some (.int ((I 41 x4.toNatClampNeg) - r42))]) (n := 94) rfl rfl rfl rfl rfl ?_
        refine w_goto rfl ?_
        exact w_drp mm_Qf_v H (lb_s (lb_s (lb_s (lb_s (lb_s (lb_n lb_e))))))
      refine w_if_ge (n := 79) rfl rfl ⟨fun hc => ?_, fun hc => ?_⟩
      · refine w_iload (n := 87) rfl rfl rfl ?_
        refine w_drp mm_Qf_v (J76 _ ?_) (lb_s (lb_s (lb_s (lb_s (lb_s (lb_s lb_e))))))
        · exact (if_pos hc).symm
      · refine w_iload (n := 81) rfl rfl rfl ?_
        refine w_ineg (n := 82) rfl rfl ?_
        refine w_goto rfl ?_
        refine w_drp mm_Qf_v (J76 _ ?_) (lb_s (lb_s (lb_s (lb_s (lb_s (lb_s lb_e))))))
        · exact (if_neg (fa_nle hc)).symm
theorem e_Cutter_meanSize {P : UInt32 → mm_I → Prop} {I : mm_I}
  (H : ((I 11 1) ≤ 0 →
      P FP.fconst0 I) ∧
    (0 < (I 11 1) →
      vf_n32 (FP.fdiv (FP.i2f (I 11 3)) (FP.i2f (I 11 1))) ∧
      P (FP.fdiv (FP.i2f (I 11 3)) (FP.i2f (I 11 1))) I)) : mm_Mf 3 [.ref 11] I P := by
  refine mm_Mf_of ?_
  show mm_W 3 0 [some (.ref 11)] [] I (mm_qf 3 P)
  refine w_aload_nR (x := 11) (n := 1) rfl rfl rfl ?_
  refine w_getI (n := 4) rfl rfl rfl rfl ?_
  refine w_if_le (n := 7) rfl rfl ⟨fun hc => ?_, fun hc => ?_⟩
  · replace H := H.1 hc
    refine w_fconst0 (n := 22) rfl rfl ?_
    exact w_freturn rfl rfl H
  · replace H := H.2 hc
    refine w_aload_nR (x := 11) (n := 8) rfl rfl rfl ?_
    refine w_getI (n := 11) rfl rfl rfl rfl ?_
    refine w_i2f (n := 12) rfl rfl ?_
    refine w_aload_nR (x := 11) (n := 13) rfl rfl rfl ?_
    refine w_getI (n := 16) rfl rfl rfl rfl ?_
    refine w_i2f (n := 17) rfl rfl ?_
    refine w_fdiv (n := 18) rfl rfl ⟨H.1, ?_⟩
    replace H := H.2
    refine w_goto rfl ?_
    exact w_freturn rfl rfl H
theorem e_Cutter_cutNowhere {P : Int32 → mm_I → Prop} {I : mm_I}
  (H : mm_Mi 5 [.ref 11] I (fun r1 I1 =>  -- Cutter.parameterOfMean
    (r1 = 15 →
      P 7 (mm_up (mm_up (mm_up I1 18 0 (I1 11 2)) 19 0 r1) 21 0 7)) ∧
    (¬ r1 = 15 →
      mm_W 4 16 [some (.ref 11), some (.int r1), some (.int 7), some (.int 0)] [] I1 (mm_qi 4 P)))) : mm_Mi 4 [.ref 11] I P := by
  refine mm_Mi_of ?_
  show mm_W 4 0 [some (.ref 11), none, none, none] [] I (mm_qi 4 P)
  refine w_aload_nR (x := 11) (n := 1) rfl rfl rfl ?_
  refine w_calli (as := [.ref 11]) (rest := []) (n := 4) rfl rfl rfl rfl ?_
  obtain ⟨r1, I1, hI1, H⟩ := H
  refine ⟨r1, I1, hI1, ?_⟩
  refine w_istore_n (ls' := [some (.ref 11), some (.int r1), none, none]) (n := 5) rfl rfl rfl rfl ?_
  refine w_bipush (v := 7) (n := 7) rfl rfl rfl ?_
  refine w_istore_n (ls' := [some (.ref 11), some (.int r1), some (.int 7), none]) (n := 8) rfl rfl rfl rfl ?_
  refine w_iload_n (n := 9) rfl rfl rfl ?_
  refine w_bipush (v := 15) (n := 11) rfl rfl rfl ?_
  refine w_icmp_eq (n := 14) rfl rfl ⟨fun hc => ?_, fun hc => ?_⟩
  · replace H := H.1 hc
    refine w_aload_nR (x := 11) (n := 49) rfl rfl rfl ?_
    refine w_getR (b := 18) (n := 52) rfl rfl rfl rfl rfl ?_
    refine w_iconst (v := 0) (n := 53) rfl rfl rfl ?_
    refine w_aload_nR (x := 11) (n := 54) rfl rfl rfl ?_
    refine w_getI (n := 57) rfl rfl rfl rfl ?_
    refine w_iastore (N := 8) (j := 0) (n := 58) rfl rfl rfl (by decide) rfl ⟨mm_vpc (by decide), ?_⟩
    refine w_aload_nR (x := 11) (n := 59) rfl rfl rfl ?_
    refine w_getR (b := 19) (n := 62) rfl rfl rfl rfl rfl ?_
    refine w_iconst (v := 0) (n := 63) rfl rfl rfl ?_
    refine w_iload_n (n := 64) rfl rfl rfl ?_
    refine w_iastore (N := 8) (j := 0) (n := 65) rfl rfl rfl (by decide) rfl ⟨mm_vpc (by decide), ?_⟩
    refine w_aload_nR (x := 11) (n := 66) rfl rfl rfl ?_
    refine w_getR (b := 21) (n := 69) rfl rfl rfl rfl rfl ?_
    refine w_iconst (v := 0) (n := 70) rfl rfl rfl ?_
    refine w_iload_n (n := 71) rfl rfl rfl ?_
    refine w_iastore (N := 8) (j := 0) (n := 72) rfl rfl rfl (by decide) rfl ⟨mm_vpc (by decide), ?_⟩
    refine w_iload_n (n := 73) rfl rfl rfl ?_
    exact w_ireturn rfl rfl H
  · replace H := H.2 hc
    refine w_iconst (v := 0) (n := 15) rfl rfl rfl ?_
    refine w_istore_n (ls' := [some (.ref 11), some (.int r1), some (.int 7), some (.int 0)]) (n := 16) rfl rfl rfl rfl ?_
    exact w_drp mm_Qf_i H (lb_s (lb_s (lb_s (lb_s lb_e))))
theorem c_Cutter_cutNowhere_16 {P : Int32 → mm_I → Prop} {I : mm_I} (x1 : Int32) (x2 : Int32) (x3 : Int32)
  (H : ((I 11 1) ≤ x3 →
      P x2 (mm_up (mm_up (mm_up I 18 0 (I 11 2)) 19 0 x1) 21 0 x2)) ∧
    (x3 < (I 11 1) →
      vp_in x3 64 ∧
      mm_Mi 1 [.int (I 12 x3.toNatClampNeg)] I (fun r31 I31 =>  -- Cutter.unsigned
      mm_W 4 16 [some (.ref 11), some (.int x1), some (.int (x2 + (((r31 >>> (x1 &&& 31)) + 1) + x1))), some (.int (x3 + 1))] [] I31 (mm_qi 4 P)))) : mm_W 4 16 [some (.ref 11), some (.int x1), some (.int x2), some (.int x3)] [] I (mm_qi 4 P) := by
  refine w_iload_n (n := 17) rfl rfl rfl ?_
  refine w_aload_nR (x := 11) (n := 18) rfl rfl rfl ?_
  refine w_getI (n := 21) rfl rfl rfl rfl ?_
  refine w_icmp_ge (n := 24) rfl rfl ⟨fun hc => ?_, fun hc => ?_⟩
  · replace H := H.1 hc
    refine w_aload_nR (x := 11) (n := 49) rfl rfl rfl ?_
    refine w_getR (b := 18) (n := 52) rfl rfl rfl rfl rfl ?_
    refine w_iconst (v := 0) (n := 53) rfl rfl rfl ?_
    refine w_aload_nR (x := 11) (n := 54) rfl rfl rfl ?_
    refine w_getI (n := 57) rfl rfl rfl rfl ?_
    refine w_iastore (N := 8) (j := 0) (n := 58) rfl rfl rfl (by decide) rfl ⟨mm_vpc (by decide), ?_⟩
    refine w_aload_nR (x := 11) (n := 59) rfl rfl rfl ?_
    refine w_getR (b := 19) (n := 62) rfl rfl rfl rfl rfl ?_
    refine w_iconst (v := 0) (n := 63) rfl rfl rfl ?_
    refine w_iload_n (n := 64) rfl rfl rfl ?_
    refine w_iastore (N := 8) (j := 0) (n := 65) rfl rfl rfl (by decide) rfl ⟨mm_vpc (by decide), ?_⟩
    refine w_aload_nR (x := 11) (n := 66) rfl rfl rfl ?_
    refine w_getR (b := 21) (n := 69) rfl rfl rfl rfl rfl ?_
    refine w_iconst (v := 0) (n := 70) rfl rfl rfl ?_
    refine w_iload_n (n := 71) rfl rfl rfl ?_
    refine w_iastore (N := 8) (j := 0) (n := 72) rfl rfl rfl (by decide) rfl ⟨mm_vpc (by decide), ?_⟩
    refine w_iload_n (n := 73) rfl rfl rfl ?_
    exact w_ireturn rfl rfl H
  · replace H := H.2 hc
    refine w_iload_n (n := 25) rfl rfl rfl ?_
    refine w_aload_nR (x := 11) (n := 26) rfl rfl rfl ?_
    refine w_getR (b := 12) (n := 29) rfl rfl rfl rfl rfl ?_
    refine w_iload_n (n := 30) rfl rfl rfl ?_
    refine w_iaload (N := 64) (j := x3.toNatClampNeg) (n := 31) rfl rfl rfl rfl rfl rfl ⟨H.1, ?_⟩
    replace H := H.2
    refine w_calli (as := [.int (I 12 x3.toNatClampNeg)]) (rest := [.int x2]) (n := 34) rfl rfl rfl rfl ?_
    obtain ⟨r31, I31, hI31, H⟩ := H
    refine ⟨r31, I31, hI31, ?_⟩
    refine w_iload_n (n := 35) rfl rfl rfl ?_
    refine w_ishr (n := 36) rfl rfl ?_
    refine w_iconst (v := 1) (n := 37) rfl rfl rfl ?_
    refine w_iadd (n := 38) rfl rfl ?_
    refine w_iload_n (n := 39) rfl rfl rfl ?_
    refine w_iadd (n := 40) rfl rfl ?_
    refine w_iadd (n := 41) rfl rfl ?_
    refine w_istore_n (ls' := [some (.ref 11), some (.int x1), some (.int (x2 + (((r31 >>> (x1 &&& 31)) + 1) + x1))), some (.int x3)]) (n := 42) rfl rfl rfl rfl ?_
    refine w_iinc (y := x3 + 1) (ls' := [some (.ref 11), some (.int x1), some (.int (x2 + (((r31 >>> (x1 &&& 31)) + 1) + x1))), some (.int (x3 + 1))]) (n := 45) rfl rfl rfl rfl rfl ?_
    refine w_goto rfl ?_
    exact w_drp mm_Qf_i H (lb_s (lb_s (lb_s (lb_s lb_e))))
theorem e_Cutter_parameterOfMean {P : Int32 → mm_I → Prop} {I : mm_I}
  (H : (¬ (I 11 3) = 0 →
      mm_Mf 3 [.ref 11] I (fun r11 I11 =>  -- Cutter.meanSize
      mm_W 5 19 [none, some (.float r11), some (.int 0), some (.float FP.fconst1)] [] I11 (mm_qi 5 P))) ∧
    ((I 11 3) = 0 →
      P 15 I)) : mm_Mi 5 [.ref 11] I P := by
  refine mm_Mi_of ?_
  show mm_W 5 0 [some (.ref 11), none, none, none] [] I (mm_qi 5 P)
  refine w_aload_nR (x := 11) (n := 1) rfl rfl rfl ?_
  refine w_getI (n := 4) rfl rfl rfl rfl ?_
  refine w_if_ne (n := 7) rfl rfl ⟨fun hc => ?_, fun hc => ?_⟩
  · replace H := H.1 hc
    refine w_aload_nR (x := 11) (n := 11) rfl rfl rfl ?_
    refine w_callf (as := [.ref 11]) (rest := []) (n := 14) rfl rfl rfl rfl ?_
    obtain ⟨r11, I11, hI11, H⟩ := H
    refine ⟨r11, I11, hI11, ?_⟩
    refine w_fstore_n (ls' := [some (.ref 11), some (.float r11), none, none]) (n := 15) rfl rfl rfl rfl ?_
    refine w_iconst (v := 0) (n := 16) rfl rfl rfl ?_
    refine w_istore_n (ls' := [some (.ref 11), some (.float r11), some (.int 0), none]) (n := 17) rfl rfl rfl rfl ?_
    refine w_fconst1 (n := 18) rfl rfl ?_
    refine w_fstore_n (ls' := [some (.ref 11), some (.float r11), some (.int 0), some (.float FP.fconst1)]) (n := 19) rfl rfl rfl rfl ?_
    exact w_drp mm_Qf_i H (lb_n (lb_s (lb_s (lb_s lb_e))))
  · replace H := H.2 hc
    refine w_bipush (v := 15) (n := 9) rfl rfl rfl ?_
    exact w_ireturn rfl rfl H
theorem c_Cutter_parameterOfMean_19 {P : Int32 → mm_I → Prop} {I : mm_I} (x1 : UInt32) (x2 : Int32) (x3 : UInt32)
  (H : (13 ≤ x2 →
      P x2 I) ∧
    (x2 < 13 →
      (0 < (Op.cmpValue (FP.fcmp x3 x1) .g) →
        P x2 I) ∧
      ((Op.cmpValue (FP.fcmp x3 x1) .g) ≤ 0 →
        vf_n32 (FP.fmul x3 FP.fconst2) ∧
        mm_W 5 19 [none, some (.float x1), some (.int (x2 + 1)), some (.float (FP.fmul x3 FP.fconst2))] [] I (mm_qi 5 P)))) : mm_W 5 19 [none, some (.float x1), some (.int x2), some (.float x3)] [] I (mm_qi 5 P) := by
  refine w_iload_n (n := 20) rfl rfl rfl ?_
  refine w_bipush (v := 13) (n := 22) rfl rfl rfl ?_
  refine w_icmp_ge (n := 25) rfl rfl ⟨fun hc => ?_, fun hc => ?_⟩
  · replace H := H.1 hc
    refine w_iload_n (n := 42) rfl rfl rfl ?_
    exact w_ireturn rfl rfl H
  · replace H := H.2 hc
    refine w_fload_n (n := 26) rfl rfl rfl ?_
    refine w_fload_n (n := 27) rfl rfl rfl ?_
    refine w_fcmp (n := 28) rfl rfl ?_
    refine w_if_gt (n := 31) rfl rfl ⟨fun hc => ?_, fun hc => ?_⟩
    · replace H := H.1 hc
      refine w_iload_n (n := 42) rfl rfl rfl ?_
      exact w_ireturn rfl rfl H
    · replace H := H.2 hc
      refine w_fload_n (n := 32) rfl rfl rfl ?_
      refine w_fconst2 (n := 33) rfl rfl ?_
      refine w_fmul (n := 34) rfl rfl ⟨H.1, ?_⟩
      replace H := H.2
      refine w_fstore_n (ls' := [none, some (.float x1), some (.int x2), some (.float (FP.fmul x3 FP.fconst2))]) (n := 35) rfl rfl rfl rfl ?_
      refine w_iinc (y := x2 + 1) (ls' := [none, some (.float x1), some (.int (x2 + 1)), some (.float (FP.fmul x3 FP.fconst2))]) (n := 38) rfl rfl rfl rfl rfl ?_
      refine w_goto rfl ?_
      exact w_drp mm_Qf_i H (lb_n (lb_s (lb_s (lb_s lb_e))))
theorem e_Cutter_cutForLeast {P : Int32 → mm_I → Prop} {I : mm_I}
  (H : mm_Mv 7 [.ref 11] I (fun I1 =>  -- Cutter.measureGroups
    vp_in (I1 11 2) 9 ∧
    vp_in (I1 11 2) 9 ∧
    mm_W 6 31 [some (.ref 11), some (.int ((I1 11 2) - 1)), none, none, none, none] [] (mm_up (mm_up I1 16 ((I1 11 2).toNatClampNeg) 0) 17 ((I1 11 2).toNatClampNeg) 0) (mm_qi 6 P))) : mm_Mi 6 [.ref 11] I P := by
  refine mm_Mi_of ?_
  show mm_W 6 0 [some (.ref 11), none, none, none, none, none] [] I (mm_qi 6 P)
  refine w_aload_nR (x := 11) (n := 1) rfl rfl rfl ?_
  refine w_callv (as := [.ref 11]) (rest := []) (n := 4) rfl rfl rfl rfl ?_
  obtain ⟨I1, hI1, H⟩ := H
  refine ⟨I1, hI1, ?_⟩
  refine w_aload_nR (x := 11) (n := 5) rfl rfl rfl ?_
  refine w_getR (b := 16) (n := 8) rfl rfl rfl rfl rfl ?_
  refine w_aload_nR (x := 11) (n := 9) rfl rfl rfl ?_
  refine w_getI (n := 12) rfl rfl rfl rfl ?_
  refine w_iconst (v := 0) (n := 13) rfl rfl rfl ?_
  refine w_iastore (N := 9) (j := (I1 11 2).toNatClampNeg) (n := 14) rfl rfl rfl rfl rfl ⟨H.1, ?_⟩
  replace H := H.2
  refine w_aload_nR (x := 11) (n := 15) rfl rfl rfl ?_
  refine w_getR (b := 17) (n := 18) rfl rfl rfl rfl rfl ?_
  refine w_aload_nR (x := 11) (n := 19) rfl rfl rfl ?_
  refine w_getI (n := 22) rfl rfl rfl rfl ?_
  refine w_iconst (v := 0) (n := 23) rfl rfl rfl ?_
  refine w_iastore (N := 9) (j := (I1 11 2).toNatClampNeg) (n := 24) rfl rfl rfl rfl rfl ⟨H.1, ?_⟩
  replace H := H.2
  refine w_aload_nR (x := 11) (n := 25) rfl rfl rfl ?_
  refine w_getI (n := 28) rfl rfl rfl rfl ?_
  refine w_iconst (v := 1) (n := 29) rfl rfl rfl ?_
  refine w_isub (n := 30) rfl rfl ?_
  refine w_istore_n (ls' := [some (.ref 11), some (.int ((I1 11 2) - 1)), none, none, none, none]) (n := 31) rfl rfl rfl rfl ?_
  exact w_drp mm_Qf_i H (lb_s (lb_s (lb_n (lb_n (lb_n (lb_n lb_e))))))
theorem c_Cutter_cutForLeast_31 {P : Int32 → mm_I → Prop} {I : mm_I} (x1 : Int32)
  (H : (x1 < 0 →
      P (I 16 0) I) ∧
    (0 ≤ x1 →
      mm_W 6 41 [some (.ref 11), some (.int x1), some (.int 1), some (.int (x1 + 1)), none, none] [] I (mm_qi 6 P))) : mm_W 6 31 [some (.ref 11), some (.int x1), none, none, none, none] [] I (mm_qi 6 P) := by
  refine w_iload_n (n := 32) rfl rfl rfl ?_
  refine w_if_lt (n := 35) rfl rfl ⟨fun hc => ?_, fun hc => ?_⟩
  · replace H := H.1 hc
    refine w_aload_nR (x := 11) (n := 197) rfl rfl rfl ?_
    refine w_getR (b := 16) (n := 200) rfl rfl rfl rfl rfl ?_
    refine w_iconst (v := 0) (n := 201) rfl rfl rfl ?_
    refine w_iaload (N := 9) (j := 0) (n := 202) rfl rfl rfl rfl (by decide) rfl ⟨mm_vpc (by decide), ?_⟩
    exact w_ireturn rfl rfl H
  · replace H := H.2 hc
    refine w_iconst (v := 1) (n := 36) rfl rfl rfl ?_
    refine w_istore_n (ls' := [some (.ref 11), some (.int x1), some (.int 1), none, none, none]) (n := 37) rfl rfl rfl rfl ?_
    refine w_iload_n (n := 38) rfl rfl rfl ?_
    refine w_iconst (v := 1) (n := 39) rfl rfl rfl ?_
    refine w_iadd (n := 40) rfl rfl ?_
    refine w_istore_n (ls' := [some (.ref 11), some (.int x1), some (.int 1), some (.int (x1 + 1)), none, none]) (n := 41) rfl rfl rfl rfl ?_
    exact w_drp mm_Qf_i H (lb_s (lb_s (lb_s (lb_s (lb_n (lb_n lb_e))))))
theorem c_Cutter_cutForLeast_41 {P : Int32 → mm_I → Prop} {I : mm_I} (x1 : Int32) (x2 : Int32) (x3 : Int32)
  (H : ((I 11 2) < x3 →
      mm_W 6 31 [some (.ref 11), some (.int (x1 + (-1))), none, none, none, none] [] I (mm_qi 6 P)) ∧
    (x3 ≤ (I 11 2) →
      vp_in (x3 - 1) 8 ∧
      mm_Mi 225 [.int x2, .int (I 14 ((x3 - 1).toNatClampNeg))] I (fun r58 I58 =>  -- Math.max
      mm_Mv 9 [.ref 11, .int x1, .int x3, .int r58] I58 (fun I66 =>  -- Cutter.findParameter
      vp_in x3 9 ∧
      vp_in x3 9 ∧
      (x3 = (x1 + 1) →
        vp_in x1 9 ∧
        vp_in x1 9 ∧
        vp_in x1 8 ∧
        vp_in x1 8 ∧
        vp_in x1 8 ∧
        vp_in x1 8 ∧
        mm_W 6 41 [some (.ref 11), some (.int x1), some (.int r58), some (.int (x3 + 1)), none, none] [] (mm_up (mm_up (mm_up (mm_up (mm_up (mm_up I66 16 x1.toNatClampNeg ((I66 11 14) + (I66 16 x3.toNatClampNeg))) 17 x1.toNatClampNeg (1 + (I66 17 x3.toNatClampNeg))) 18 x1.toNatClampNeg (x3 - x1)) 19 x1.toNatClampNeg (I66 11 13)) 20 x1.toNatClampNeg r58) 21 x1.toNatClampNeg (I66 11 14)) (mm_qi 6 P)) ∧
      (¬ x3 = (x1 + 1) →
        vp_in x1 9 ∧
        (((I66 11 14) + (I66 16 x3.toNatClampNeg)) < (I66 16 x1.toNatClampNeg) →
          vp_in x1 9 ∧
          vp_in x1 9 ∧
          vp_in x1 8 ∧
          vp_in x1 8 ∧
          vp_in x1 8 ∧
          vp_in x1 8 ∧
          mm_W 6 41 [some (.ref 11), some (.int x1), some (.int r58), some (.int (x3 + 1)), none, none] [] (mm_up (mm_up (mm_up (mm_up (mm_up (mm_up I66 16 x1.toNatClampNeg ((I66 11 14) + (I66 16 x3.toNatClampNeg))) 17 x1.toNatClampNeg (1 + (I66 17 x3.toNatClampNeg))) 18 x1.toNatClampNeg (x3 - x1)) 19 x1.toNatClampNeg (I66 11 13)) 20 x1.toNatClampNeg r58) 21 x1.toNatClampNeg (I66 11 14)) (mm_qi 6 P)) ∧
        ((I66 16 x1.toNatClampNeg) ≤ ((I66 11 14) + (I66 16 x3.toNatClampNeg)) →
          vp_in x1 9 ∧
          (¬ ((I66 11 14) + (I66 16 x3.toNatClampNeg)) = (I66 16 x1.toNatClampNeg) →
            mm_W 6 41 [some (.ref 11), some (.int x1), some (.int r58), some (.int (x3 + 1)), none, none] [] I66 (mm_qi 6 P)) ∧
          (((I66 11 14) + (I66 16 x3.toNatClampNeg)) = (I66 16 x1.toNatClampNeg) →
            vp_in x1 9 ∧
            ((I66 17 x1.toNatClampNeg) < (1 + (I66 17 x3.toNatClampNeg)) →
              mm_W 6 41 [some (.ref 11), some (.int x1), some (.int r58), some (.int (x3 + 1)), none, none] [] I66 (mm_qi 6 P)) ∧
            ((1 + (I66 17 x3.toNatClampNeg)) ≤ (I66 17 x1.toNatClampNeg) →
              vp_in x1 9 ∧
              vp_in x1 9 ∧
              vp_in x1 8 ∧
              vp_in x1 8 ∧
              vp_in x1 8 ∧
              vp_in x1 8 ∧
              mm_W 6 41 [some (.ref 11), some (.int x1), some (.int r58), some (.int (x3 + 1)), none, none] [] (mm_up (mm_up (mm_up (mm_up (mm_up (mm_up I66 16 x1.toNatClampNeg ((I66 11 14) + (I66 16 x3.toNatClampNeg))) 17 x1.toNatClampNeg (1 + (I66 17 x3.toNatClampNeg))) 18 x1.toNatClampNeg (x3 - x1)) 19 x1.toNatClampNeg (I66 11 13)) 20 x1.toNatClampNeg r58) 21 x1.toNatClampNeg (I66 11 14)) (mm_qi 6 P))))))))) : mm_W 6 41 [some (.ref 11), some (.int x1), some (.int x2), some (.int x3), none, none] [] I (mm_qi 6 P) := by
  refine w_iload_n (n := 42) rfl rfl rfl ?_
  refine w_aload_nR (x := 11) (n := 43) rfl rfl rfl ?_
  refine w_getI (n := 46) rfl rfl rfl rfl ?_
  refine w_icmp_gt (n := 49) rfl rfl ⟨fun hc => ?_, fun hc => ?_⟩
  · replace H := H.1 hc
    refine w_iinc (y := x1 + (-1)) (ls' := [some (.ref 11), some (.int (x1 + (-1))), some (.int x2), some (.int x3), none, none]) (n := 193) rfl rfl rfl rfl rfl ?_
    refine w_goto rfl ?_
    exact w_drp mm_Qf_i H (lb_s (lb_s (lb_n (lb_n (lb_n (lb_n lb_e))))))
  · replace H := H.2 hc
    refine w_iload_n (n := 50) rfl rfl rfl ?_
    refine w_aload_nR (x := 11) (n := 51) rfl rfl rfl ?_
    refine w_getR (b := 14) (n := 54) rfl rfl rfl rfl rfl ?_
    refine w_iload_n (n := 55) rfl rfl rfl ?_
    refine w_iconst (v := 1) (n := 56) rfl rfl rfl ?_
    refine w_isub (n := 57) rfl rfl ?_
    refine w_iaload (N := 8) (j := (x3 - 1).toNatClampNeg) (n := 58) rfl rfl rfl rfl rfl rfl ⟨H.1, ?_⟩
    replace H := H.2
    refine w_calli (as := [.int x2, .int (I 14 ((x3 - 1).toNatClampNeg))]) (rest := []) (n := 61) rfl rfl rfl rfl ?_
    obtain ⟨r58, I58, hI58, H⟩ := H
    refine ⟨r58, I58, hI58, ?_⟩
    refine w_istore_n (ls' := [some (.ref 11), some (.int x1), some (.int r58), some (.int x3), none, none]) (n := 62) rfl rfl rfl rfl ?_
    refine w_aload_nR (x := 11) (n := 63) rfl rfl rfl ?_
    refine w_iload_n (n := 64) rfl rfl rfl ?_
    refine w_iload_n (n := 65) rfl rfl rfl ?_
    refine w_iload_n (n := 66) rfl rfl rfl ?_
    refine w_callv (as := [.ref 11, .int x1, .int x3, .int r58]) (rest := []) (n := 69) rfl rfl rfl rfl ?_
    obtain ⟨I66, hI66, H⟩ := H
    refine ⟨I66, hI66, ?_⟩
    refine w_aload_nR (x := 11) (n := 70) rfl rfl rfl ?_
    refine w_getI (n := 73) rfl rfl rfl rfl ?_
    refine w_aload_nR (x := 11) (n := 74) rfl rfl rfl ?_
    refine w_getR (b := 16) (n := 77) rfl rfl rfl rfl rfl ?_
    refine w_iload_n (n := 78) rfl rfl rfl ?_
    refine w_iaload (N := 9) (j := x3.toNatClampNeg) (n := 79) rfl rfl rfl rfl rfl rfl ⟨H.1, ?_⟩
    replace H := H.2
    refine w_iadd (n := 80) rfl rfl ?_
    refine w_istore (ls' := [some (.ref 11), some (.int x1), some (.int r58), some (.int x3), some (.int ((I66 11 14) + (I66 16 x3.toNatClampNeg))), none]) (n := 82) rfl rfl rfl rfl ?_
    refine w_iconst (v := 1) (n := 83) rfl rfl rfl ?_
    refine w_aload_nR (x := 11) (n := 84) rfl rfl rfl ?_
    refine w_getR (b := 17) (n := 87) rfl rfl rfl rfl rfl ?_
    refine w_iload_n (n := 88) rfl rfl rfl ?_
    refine w_iaload (N := 9) (j := x3.toNatClampNeg) (n := 89) rfl rfl rfl rfl rfl rfl ⟨H.1, ?_⟩
    replace H := H.2
    refine w_iadd (n := 90) rfl rfl ?_
    refine w_istore (ls' := [some (.ref 11), some (.int x1), some (.int r58), some (.int x3), some (.int ((I66 11 14) + (I66 16 x3.toNatClampNeg))), some (.int (1 + (I66 17 x3.toNatClampNeg)))]) (n := 92) rfl rfl rfl rfl ?_
    refine w_iload_n (n := 93) rfl rfl rfl ?_
    refine w_iload_n (n := 94) rfl rfl rfl ?_
    refine w_iconst (v := 1) (n := 95) rfl rfl rfl ?_
    refine w_iadd (n := 96) rfl rfl ?_
    refine w_icmp_eq (n := 99) rfl rfl ⟨fun hc => ?_, fun hc => ?_⟩
    · replace H := H.1 hc
      refine w_aload_nR (x := 11) (n := 133) rfl rfl rfl ?_
      refine w_getR (b := 16) (n := 136) rfl rfl rfl rfl rfl ?_
      refine w_iload_n (n := 137) rfl rfl rfl ?_
      refine w_iload (n := 139) rfl rfl rfl ?_
      refine w_iastore (N := 9) (j := x1.toNatClampNeg) (n := 140) rfl rfl rfl rfl rfl ⟨H.1, ?_⟩
      replace H := H.2
      refine w_aload_nR (x := 11) (n := 141) rfl rfl rfl ?_
      refine w_getR (b := 17) (n := 144) rfl rfl rfl rfl rfl ?_
      refine w_iload_n (n := 145) rfl rfl rfl ?_
      refine w_iload (n := 147) rfl rfl rfl ?_
      refine w_iastore (N := 9) (j := x1.toNatClampNeg) (n := 148) rfl rfl rfl rfl rfl ⟨H.1, ?_⟩
      replace H := H.2
      refine w_aload_nR (x := 11) (n := 149) rfl rfl rfl ?_
      refine w_getR (b := 18) (n := 152) rfl rfl rfl rfl rfl ?_
      refine w_iload_n (n := 153) rfl rfl rfl ?_
      refine w_iload_n (n := 154) rfl rfl rfl ?_
      refine w_iload_n (n := 155) rfl rfl rfl ?_
      refine w_isub (n := 156) rfl rfl ?_
      refine w_iastore (N := 8) (j := x1.toNatClampNeg) (n := 157) rfl rfl rfl rfl rfl ⟨H.1, ?_⟩
      replace H := H.2
      refine w_aload_nR (x := 11) (n := 158) rfl rfl rfl ?_
      refine w_getR (b := 19) (n := 161) rfl rfl rfl rfl rfl ?_
      refine w_iload_n (n := 162) rfl rfl rfl ?_
      refine w_aload_nR (x := 11) (n := 163) rfl rfl rfl ?_
      refine w_getI (n := 166) rfl rfl rfl rfl ?_
      refine w_iastore (N := 8) (j := x1.toNatClampNeg) (n := 167) rfl rfl rfl rfl rfl ⟨H.1, ?_⟩
      replace H := H.2
      refine w_aload_nR (x := 11) (n := 168) rfl rfl rfl ?_
      refine w_getR (b := 20) (n := 171) rfl rfl rfl rfl rfl ?_
      refine w_iload_n (n := 172) rfl rfl rfl ?_
      refine w_iload_n (n := 173) rfl rfl rfl ?_
      refine w_iastore (N := 8) (j := x1.toNatClampNeg) (n := 174) rfl rfl rfl rfl rfl ⟨H.1, ?_⟩
      replace H := H.2
      refine w_aload_nR (x := 11) (n := 175) rfl rfl rfl ?_
      refine w_getR (b := 21) (n := 178) rfl rfl rfl rfl rfl ?_
      refine w_iload_n (n := 179) rfl rfl rfl ?_
      refine w_aload_nR (x := 11) (n := 180) rfl rfl rfl ?_
      refine w_getI (n := 183) rfl rfl rfl rfl ?_
      refine w_iastore (N := 8) (j := x1.toNatClampNeg) (n := 184) rfl rfl rfl rfl rfl ⟨H.1, ?_⟩
      replace H := H.2
      refine w_iinc (y := x3 + 1) (ls' := [some (.ref 11), some (.int x1), some (.int r58), some (.int (x3 + 1)), some (.int ((I66 11 14) + (I66 16 x3.toNatClampNeg))), some (.int (1 + (I66 17 x3.toNatClampNeg)))]) (n := 187) rfl rfl rfl rfl rfl ?_
      refine w_goto rfl ?_
      exact w_drp mm_Qf_i H (lb_s (lb_s (lb_s (lb_s (lb_n (lb_n lb_e))))))
    · replace H := H.2 hc
      refine w_iload (n := 101) rfl rfl rfl ?_
      refine w_aload_nR (x := 11) (n := 102) rfl rfl rfl ?_
      refine w_getR (b := 16) (n := 105) rfl rfl rfl rfl rfl ?_
      refine w_iload_n (n := 106) rfl rfl rfl ?_
      refine w_iaload (N := 9) (j := x1.toNatClampNeg) (n := 107) rfl rfl rfl rfl rfl rfl ⟨H.1, ?_⟩
      replace H := H.2
      refine w_icmp_lt (n := 110) rfl rfl ⟨fun hc => ?_, fun hc => ?_⟩
      · replace H := H.1 hc
        refine w_aload_nR (x := 11) (n := 133) rfl rfl rfl ?_
        refine w_getR (b := 16) (n := 136) rfl rfl rfl rfl rfl ?_
        refine w_iload_n (n := 137) rfl rfl rfl ?_
        refine w_iload (n := 139) rfl rfl rfl ?_
        refine w_iastore (N := 9) (j := x1.toNatClampNeg) (n := 140) rfl rfl rfl rfl rfl ⟨H.1, ?_⟩
        replace H := H.2
        refine w_aload_nR (x := 11) (n := 141) rfl rfl rfl ?_
        refine w_getR (b := 17) (n := 144) rfl rfl rfl rfl rfl ?_
        refine w_iload_n (n := 145) rfl rfl rfl ?_
        refine w_iload (n := 147) rfl rfl rfl ?_
        refine w_iastore (N := 9) (j := x1.toNatClampNeg) (n := 148) rfl rfl rfl rfl rfl ⟨H.1, ?_⟩
        replace H := H.2
        refine w_aload_nR (x := 11) (n := 149) rfl rfl rfl ?_
        refine w_getR (b := 18) (n := 152) rfl rfl rfl rfl rfl ?_
        refine w_iload_n (n := 153) rfl rfl rfl ?_
        refine w_iload_n (n := 154) rfl rfl rfl ?_
        refine w_iload_n (n := 155) rfl rfl rfl ?_
        refine w_isub (n := 156) rfl rfl ?_
        refine w_iastore (N := 8) (j := x1.toNatClampNeg) (n := 157) rfl rfl rfl rfl rfl ⟨H.1, ?_⟩
        replace H := H.2
        refine w_aload_nR (x := 11) (n := 158) rfl rfl rfl ?_
        refine w_getR (b := 19) (n := 161) rfl rfl rfl rfl rfl ?_
        refine w_iload_n (n := 162) rfl rfl rfl ?_
        refine w_aload_nR (x := 11) (n := 163) rfl rfl rfl ?_
        refine w_getI (n := 166) rfl rfl rfl rfl ?_
        refine w_iastore (N := 8) (j := x1.toNatClampNeg) (n := 167) rfl rfl rfl rfl rfl ⟨H.1, ?_⟩
        replace H := H.2
        refine w_aload_nR (x := 11) (n := 168) rfl rfl rfl ?_
        refine w_getR (b := 20) (n := 171) rfl rfl rfl rfl rfl ?_
        refine w_iload_n (n := 172) rfl rfl rfl ?_
        refine w_iload_n (n := 173) rfl rfl rfl ?_
        refine w_iastore (N := 8) (j := x1.toNatClampNeg) (n := 174) rfl rfl rfl rfl rfl ⟨H.1, ?_⟩
        replace H := H.2
        refine w_aload_nR (x := 11) (n := 175) rfl rfl rfl ?_
        refine w_getR (b := 21) (n := 178) rfl rfl rfl rfl rfl ?_
        refine w_iload_n (n := 179) rfl rfl rfl ?_
        refine w_aload_nR (x := 11) (n := 180) rfl rfl rfl ?_
        refine w_getI (n := 183) rfl rfl rfl rfl ?_
        refine w_iastore (N := 8) (j := x1.toNatClampNeg) (n := 184) rfl rfl rfl rfl rfl ⟨H.1, ?_⟩
        replace H := H.2
        refine w_iinc (y := x3 + 1) (ls' := [some (.ref 11), some (.int x1), some (.int r58), some (.int (x3 + 1)), some (.int ((I66 11 14) + (I66 16 x3.toNatClampNeg))), some (.int (1 + (I66 17 x3.toNatClampNeg)))]) (n := 187) rfl rfl rfl rfl rfl ?_
        refine w_goto rfl ?_
        exact w_drp mm_Qf_i H (lb_s (lb_s (lb_s (lb_s (lb_n (lb_n lb_e))))))
      · replace H := H.2 hc
        refine w_iload (n := 112) rfl rfl rfl ?_
        refine w_aload_nR (x := 11) (n := 113) rfl rfl rfl ?_
        refine w_getR (b := 16) (n := 116) rfl rfl rfl rfl rfl ?_
        refine w_iload_n (n := 117) rfl rfl rfl ?_
        refine w_iaload (N := 9) (j := x1.toNatClampNeg) (n := 118) rfl rfl rfl rfl rfl rfl ⟨H.1, ?_⟩
        replace H := H.2
        refine w_icmp_ne (n := 121) rfl rfl ⟨fun hc => ?_, fun hc => ?_⟩
        · replace H := H.1 hc
          refine w_iinc (y := x3 + 1) (ls' := [some (.ref 11), some (.int x1), some (.int r58), some (.int (x3 + 1)), some (.int ((I66 11 14) + (I66 16 x3.toNatClampNeg))), some (.int (1 + (I66 17 x3.toNatClampNeg)))]) (n := 187) rfl rfl rfl rfl rfl ?_
          refine w_goto rfl ?_
          exact w_drp mm_Qf_i H (lb_s (lb_s (lb_s (lb_s (lb_n (lb_n lb_e))))))
        · replace H := H.2 hc
          refine w_iload (n := 123) rfl rfl rfl ?_
          refine w_aload_nR (x := 11) (n := 124) rfl rfl rfl ?_
          refine w_getR (b := 17) (n := 127) rfl rfl rfl rfl rfl ?_
          refine w_iload_n (n := 128) rfl rfl rfl ?_
          refine w_iaload (N := 9) (j := x1.toNatClampNeg) (n := 129) rfl rfl rfl rfl rfl rfl ⟨H.1, ?_⟩
          replace H := H.2
          refine w_icmp_gt (n := 132) rfl rfl ⟨fun hc => ?_, fun hc => ?_⟩
          · replace H := H.1 hc
            refine w_iinc (y := x3 + 1) (ls' := [some (.ref 11), some (.int x1), some (.int r58), some (.int (x3 + 1)), some (.int ((I66 11 14) + (I66 16 x3.toNatClampNeg))), some (.int (1 + (I66 17 x3.toNatClampNeg)))]) (n := 187) rfl rfl rfl rfl rfl ?_
            refine w_goto rfl ?_
            exact w_drp mm_Qf_i H (lb_s (lb_s (lb_s (lb_s (lb_n (lb_n lb_e))))))
          · replace H := H.2 hc
            refine w_aload_nR (x := 11) (n := 133) rfl rfl rfl ?_
            refine w_getR (b := 16) (n := 136) rfl rfl rfl rfl rfl ?_
            refine w_iload_n (n := 137) rfl rfl rfl ?_
            refine w_iload (n := 139) rfl rfl rfl ?_
            refine w_iastore (N := 9) (j := x1.toNatClampNeg) (n := 140) rfl rfl rfl rfl rfl ⟨H.1, ?_⟩
            replace H := H.2
            refine w_aload_nR (x := 11) (n := 141) rfl rfl rfl ?_
            refine w_getR (b := 17) (n := 144) rfl rfl rfl rfl rfl ?_
            refine w_iload_n (n := 145) rfl rfl rfl ?_
            refine w_iload (n := 147) rfl rfl rfl ?_
            refine w_iastore (N := 9) (j := x1.toNatClampNeg) (n := 148) rfl rfl rfl rfl rfl ⟨H.1, ?_⟩
            replace H := H.2
            refine w_aload_nR (x := 11) (n := 149) rfl rfl rfl ?_
            refine w_getR (b := 18) (n := 152) rfl rfl rfl rfl rfl ?_
            refine w_iload_n (n := 153) rfl rfl rfl ?_
            refine w_iload_n (n := 154) rfl rfl rfl ?_
            refine w_iload_n (n := 155) rfl rfl rfl ?_
            refine w_isub (n := 156) rfl rfl ?_
            refine w_iastore (N := 8) (j := x1.toNatClampNeg) (n := 157) rfl rfl rfl rfl rfl ⟨H.1, ?_⟩
            replace H := H.2
            refine w_aload_nR (x := 11) (n := 158) rfl rfl rfl ?_
            refine w_getR (b := 19) (n := 161) rfl rfl rfl rfl rfl ?_
            refine w_iload_n (n := 162) rfl rfl rfl ?_
            refine w_aload_nR (x := 11) (n := 163) rfl rfl rfl ?_
            refine w_getI (n := 166) rfl rfl rfl rfl ?_
            refine w_iastore (N := 8) (j := x1.toNatClampNeg) (n := 167) rfl rfl rfl rfl rfl ⟨H.1, ?_⟩
            replace H := H.2
            refine w_aload_nR (x := 11) (n := 168) rfl rfl rfl ?_
            refine w_getR (b := 20) (n := 171) rfl rfl rfl rfl rfl ?_
            refine w_iload_n (n := 172) rfl rfl rfl ?_
            refine w_iload_n (n := 173) rfl rfl rfl ?_
            refine w_iastore (N := 8) (j := x1.toNatClampNeg) (n := 174) rfl rfl rfl rfl rfl ⟨H.1, ?_⟩
            replace H := H.2
            refine w_aload_nR (x := 11) (n := 175) rfl rfl rfl ?_
            refine w_getR (b := 21) (n := 178) rfl rfl rfl rfl rfl ?_
            refine w_iload_n (n := 179) rfl rfl rfl ?_
            refine w_aload_nR (x := 11) (n := 180) rfl rfl rfl ?_
            refine w_getI (n := 183) rfl rfl rfl rfl ?_
            refine w_iastore (N := 8) (j := x1.toNatClampNeg) (n := 184) rfl rfl rfl rfl rfl ⟨H.1, ?_⟩
            replace H := H.2
            refine w_iinc (y := x3 + 1) (ls' := [some (.ref 11), some (.int x1), some (.int r58), some (.int (x3 + 1)), some (.int ((I66 11 14) + (I66 16 x3.toNatClampNeg))), some (.int (1 + (I66 17 x3.toNatClampNeg)))]) (n := 187) rfl rfl rfl rfl rfl ?_
            refine w_goto rfl ?_
            exact w_drp mm_Qf_i H (lb_s (lb_s (lb_s (lb_s (lb_n (lb_n lb_e))))))
theorem e_Cutter_measureGroups {P : mm_I → Prop} {I : mm_I}
  (H : mm_W 7 2 [some (.ref 11), some (.int 0), none, none, none, none, none, none] [] I (mm_qv 7 P)) : mm_Mv 7 [.ref 11] I P := by
  refine mm_Mv_of ?_
  show mm_W 7 0 [some (.ref 11), none, none, none, none, none, none, none] [] I (mm_qv 7 P)
  refine w_iconst (v := 0) (n := 1) rfl rfl rfl ?_
  refine w_istore_n (ls' := [some (.ref 11), some (.int 0), none, none, none, none, none, none]) (n := 2) rfl rfl rfl rfl ?_
  exact w_drp mm_Qf_v H (lb_s (lb_s (lb_n (lb_n (lb_n (lb_n (lb_n (lb_n lb_e))))))))
theorem c_Cutter_measureGroups_2 {P : mm_I → Prop} {I : mm_I} (x1 : Int32)
  (H : ((I 11 2) ≤ x1 →
      P I) ∧
    (x1 < (I 11 2) →
      mm_W 7 23 [some (.ref 11), some (.int x1), some (.int (x1 * 14)), some (.int ((x1 * 14) + 14)), some (.int 0), none, none, none] [] I (mm_qv 7 P))) : mm_W 7 2 [some (.ref 11), some (.int x1), none, none, none, none, none, none] [] I (mm_qv 7 P) := by
  refine w_iload_n (n := 3) rfl rfl rfl ?_
  refine w_aload_nR (x := 11) (n := 4) rfl rfl rfl ?_
  refine w_getI (n := 7) rfl rfl rfl rfl ?_
  refine w_icmp_ge (n := 10) rfl rfl ⟨fun hc => ?_, fun hc => ?_⟩
  · replace H := H.1 hc
    exact w_vreturn rfl rfl H
  · replace H := H.2 hc
    refine w_iload_n (n := 11) rfl rfl rfl ?_
    refine w_bipush (v := 14) (n := 13) rfl rfl rfl ?_
    refine w_imul (n := 14) rfl rfl ?_
    refine w_istore_n (ls' := [some (.ref 11), some (.int x1), some (.int (x1 * 14)), none, none, none, none, none]) (n := 15) rfl rfl rfl rfl ?_
    refine w_iload_n (n := 16) rfl rfl rfl ?_
    refine w_bipush (v := 14) (n := 18) rfl rfl rfl ?_
    refine w_iadd (n := 19) rfl rfl ?_
    refine w_istore_n (ls' := [some (.ref 11), some (.int x1), some (.int (x1 * 14)), some (.int ((x1 * 14) + 14)), none, none, none, none]) (n := 20) rfl rfl rfl rfl ?_
    refine w_iconst (v := 0) (n := 21) rfl rfl rfl ?_
    refine w_istore (ls' := [some (.ref 11), some (.int x1), some (.int (x1 * 14)), some (.int ((x1 * 14) + 14)), some (.int 0), none, none, none]) (n := 23) rfl rfl rfl rfl ?_
    exact w_drp mm_Qf_v H (lb_s (lb_s (lb_s (lb_s (lb_s (lb_n (lb_n (lb_n lb_e))))))))
theorem c_Cutter_measureGroups_23 {P : mm_I → Prop} {I : mm_I} (x1 : Int32) (x2 : Int32) (x3 : Int32) (x4 : Int32)
  (H : (14 ≤ x4 →
      vp_in x1 9 ∧
      vp_in x1 9 ∧
      mm_Mi 226 [.int (I 11 1), .int (((mm_up I 13 x1.toNatClampNeg (x1 * 8)) 13 x1.toNatClampNeg) + 8)] (mm_up I 13 x1.toNatClampNeg (x1 * 8)) (fun r84 I84 =>  -- Math.min
      vp_in (x1 + 1) 9 ∧
      vp_in x1 9 ∧
      mm_W 7 99 [some (.ref 11), some (.int x1), none, some (.int x3), some (.int 0), some (.int ((mm_up I84 13 ((x1 + 1).toNatClampNeg) r84) 13 x1.toNatClampNeg)), none, none] [] (mm_up I84 13 ((x1 + 1).toNatClampNeg) r84) (mm_qv 7 P))) ∧
    (x4 < 14 →
      vp_in (x2 + x4) 126 ∧
      vp_in (x3 + x4) 126 ∧
      mm_W 7 23 [some (.ref 11), some (.int x1), some (.int x2), some (.int x3), some (.int (x4 + 1)), none, none, none] [] (mm_up I 15 ((x3 + x4).toNatClampNeg) (I 15 ((x2 + x4).toNatClampNeg))) (mm_qv 7 P))) : mm_W 7 23 [some (.ref 11), some (.int x1), some (.int x2), some (.int x3), some (.int x4), none, none, none] [] I (mm_qv 7 P) := by
  refine w_iload (n := 25) rfl rfl rfl ?_
  refine w_bipush (v := 14) (n := 27) rfl rfl rfl ?_
  refine w_icmp_ge (n := 30) rfl rfl ⟨fun hc => ?_, fun hc => ?_⟩
  · replace H := H.1 hc
    refine w_aload_nR (x := 11) (n := 55) rfl rfl rfl ?_
    refine w_getR (b := 13) (n := 58) rfl rfl rfl rfl rfl ?_
    refine w_iload_n (n := 59) rfl rfl rfl ?_
    refine w_iload_n (n := 60) rfl rfl rfl ?_
    refine w_bipush (v := 8) (n := 62) rfl rfl rfl ?_
    refine w_imul (n := 63) rfl rfl ?_
    refine w_iastore (N := 9) (j := x1.toNatClampNeg) (n := 64) rfl rfl rfl rfl rfl ⟨H.1, ?_⟩
    replace H := H.2
    refine w_aload_nR (x := 11) (n := 65) rfl rfl rfl ?_
    refine w_getR (b := 13) (n := 68) rfl rfl rfl rfl rfl ?_
    refine w_iload_n (n := 69) rfl rfl rfl ?_
    refine w_iconst (v := 1) (n := 70) rfl rfl rfl ?_
    refine w_iadd (n := 71) rfl rfl ?_
    refine w_aload_nR (x := 11) (n := 72) rfl rfl rfl ?_
    refine w_getI (n := 75) rfl rfl rfl rfl ?_
    refine w_aload_nR (x := 11) (n := 76) rfl rfl rfl ?_
    refine w_getR (b := 13) (n := 79) rfl rfl rfl rfl rfl ?_
    refine w_iload_n (n := 80) rfl rfl rfl ?_
    refine w_iaload (N := 9) (j := x1.toNatClampNeg) (n := 81) rfl rfl rfl rfl rfl rfl ⟨H.1, ?_⟩
    replace H := H.2
    refine w_bipush (v := 8) (n := 83) rfl rfl rfl ?_
    refine w_iadd (n := 84) rfl rfl ?_
    refine w_calli (as := [.int (I 11 1), .int (((mm_up I 13 x1.toNatClampNeg (x1 * 8)) 13 x1.toNatClampNeg) + 8)]) (rest := [.int (x1 + 1), .ref 13]) (n := 87) rfl rfl rfl rfl ?_
    obtain ⟨r84, I84, hI84, H⟩ := H
    refine ⟨r84, I84, hI84, ?_⟩
    refine w_iastore (N := 9) (j := (x1 + 1).toNatClampNeg) (n := 88) rfl rfl rfl rfl rfl ⟨H.1, ?_⟩
    replace H := H.2
    refine w_iconst (v := 0) (n := 89) rfl rfl rfl ?_
    refine w_istore (ls' := [some (.ref 11), some (.int x1), some (.int x2), some (.int x3), some (.int 0), none, none, none]) (n := 91) rfl rfl rfl rfl ?_
    refine w_aload_nR (x := 11) (n := 92) rfl rfl rfl ?_
    refine w_getR (b := 13) (n := 95) rfl rfl rfl rfl rfl ?_
    refine w_iload_n (n := 96) rfl rfl rfl ?_
    refine w_iaload (N := 9) (j := x1.toNatClampNeg) (n := 97) rfl rfl rfl rfl rfl rfl ⟨H.1, ?_⟩
    replace H := H.2
    refine w_istore (ls' := [some (.ref 11), some (.int x1), some (.int x2), some (.int x3), some (.int 0), some (.int ((mm_up I84 13 ((x1 + 1).toNatClampNeg) r84) 13 x1.toNatClampNeg)), none, none]) (n := 99) rfl rfl rfl rfl ?_
    exact w_drp mm_Qf_v H (lb_s (lb_s (lb_n (lb_s (lb_s (lb_s (lb_n (lb_n lb_e))))))))
  · replace H := H.2 hc
    refine w_aload_nR (x := 11) (n := 31) rfl rfl rfl ?_
    refine w_getR (b := 15) (n := 34) rfl rfl rfl rfl rfl ?_
    refine w_iload_n (n := 35) rfl rfl rfl ?_
    refine w_iload (n := 37) rfl rfl rfl ?_
    refine w_iadd (n := 38) rfl rfl ?_
    refine w_aload_nR (x := 11) (n := 39) rfl rfl rfl ?_
    refine w_getR (b := 15) (n := 42) rfl rfl rfl rfl rfl ?_
    refine w_iload_n (n := 43) rfl rfl rfl ?_
    refine w_iload (n := 45) rfl rfl rfl ?_
    refine w_iadd (n := 46) rfl rfl ?_
    refine w_iaload (N := 126) (j := (x2 + x4).toNatClampNeg) (n := 47) rfl rfl rfl rfl rfl rfl ⟨H.1, ?_⟩
    replace H := H.2
    refine w_iastore (N := 126) (j := (x3 + x4).toNatClampNeg) (n := 48) rfl rfl rfl rfl rfl ⟨H.1, ?_⟩
    replace H := H.2
    refine w_iinc (y := x4 + 1) (ls' := [some (.ref 11), some (.int x1), some (.int x2), some (.int x3), some (.int (x4 + 1)), none, none, none]) (n := 51) rfl rfl rfl rfl rfl ?_
    refine w_goto rfl ?_
    exact w_drp mm_Qf_v H (lb_s (lb_s (lb_s (lb_s (lb_s (lb_n (lb_n (lb_n lb_e))))))))
theorem c_Cutter_measureGroups_99 {P : mm_I → Prop} {I : mm_I} (x1 : Int32) (x3 : Int32) (x4 : Int32) (x5 : Int32)
  (H : vp_in (x1 + 1) 9 ∧
    ((I 13 ((x1 + 1).toNatClampNeg)) ≤ x5 →
      mm_Mi 8 [.int x4] I (fun r185 I185 =>  -- Cutter.widthOf
      vp_in x1 8 ∧
      mm_W 7 2 [some (.ref 11), some (.int (x1 + 1)), none, none, none, none, none, none] [] (mm_up I185 14 x1.toNatClampNeg r185) (mm_qv 7 P))) ∧
    (x5 < (I 13 ((x1 + 1).toNatClampNeg)) →
      vp_in x5 64 ∧
      mm_Mi 1 [.int (I 12 x5.toNatClampNeg)] I (fun r119 I119 =>  -- Cutter.unsigned
      mm_W 7 134 [some (.ref 11), some (.int x1), none, some (.int x3), some (.int (x4 ||| r119)), some (.int x5), some (.int r119), some (.int 0)] [] I119 (mm_qv 7 P)))) : mm_W 7 99 [some (.ref 11), some (.int x1), none, some (.int x3), some (.int x4), some (.int x5), none, none] [] I (mm_qv 7 P) := by
  refine w_iload (n := 101) rfl rfl rfl ?_
  refine w_aload_nR (x := 11) (n := 102) rfl rfl rfl ?_
  refine w_getR (b := 13) (n := 105) rfl rfl rfl rfl rfl ?_
  refine w_iload_n (n := 106) rfl rfl rfl ?_
  refine w_iconst (v := 1) (n := 107) rfl rfl rfl ?_
  refine w_iadd (n := 108) rfl rfl ?_
  refine w_iaload (N := 9) (j := (x1 + 1).toNatClampNeg) (n := 109) rfl rfl rfl rfl rfl rfl ⟨H.1, ?_⟩
  replace H := H.2
  refine w_icmp_ge (n := 112) rfl rfl ⟨fun hc => ?_, fun hc => ?_⟩
  · replace H := H.1 hc
    refine w_aload_nR (x := 11) (n := 179) rfl rfl rfl ?_
    refine w_getR (b := 14) (n := 182) rfl rfl rfl rfl rfl ?_
    refine w_iload_n (n := 183) rfl rfl rfl ?_
    refine w_iload (n := 185) rfl rfl rfl ?_
    refine w_calli (as := [.int x4]) (rest := [.int x1, .ref 14]) (n := 188) rfl rfl rfl rfl ?_
    obtain ⟨r185, I185, hI185, H⟩ := H
    refine ⟨r185, I185, hI185, ?_⟩
    refine w_iastore (N := 8) (j := x1.toNatClampNeg) (n := 189) rfl rfl rfl rfl rfl ⟨H.1, ?_⟩
    replace H := H.2
    refine w_iinc (y := x1 + 1) (ls' := [some (.ref 11), some (.int (x1 + 1)), none, some (.int x3), some (.int x4), some (.int x5), none, none]) (n := 192) rfl rfl rfl rfl rfl ?_
    refine w_goto rfl ?_
    exact w_drp mm_Qf_v H (lb_s (lb_s (lb_n (lb_n (lb_n (lb_n (lb_n (lb_n lb_e))))))))
  · replace H := H.2 hc
    refine w_aload_nR (x := 11) (n := 113) rfl rfl rfl ?_
    refine w_getR (b := 12) (n := 116) rfl rfl rfl rfl rfl ?_
    refine w_iload (n := 118) rfl rfl rfl ?_
    refine w_iaload (N := 64) (j := x5.toNatClampNeg) (n := 119) rfl rfl rfl rfl rfl rfl ⟨H.1, ?_⟩
    replace H := H.2
    refine w_calli (as := [.int (I 12 x5.toNatClampNeg)]) (rest := []) (n := 122) rfl rfl rfl rfl ?_
    obtain ⟨r119, I119, hI119, H⟩ := H
    refine ⟨r119, I119, hI119, ?_⟩
    refine w_istore (ls' := [some (.ref 11), some (.int x1), none, some (.int x3), some (.int x4), some (.int x5), some (.int r119), none]) (n := 124) rfl rfl rfl rfl ?_
    refine w_iload (n := 126) rfl rfl rfl ?_
    refine w_iload (n := 128) rfl rfl rfl ?_
    refine w_ior (n := 129) rfl rfl ?_
    refine w_istore (ls' := [some (.ref 11), some (.int x1), none, some (.int x3), some (.int (x4 ||| r119)), some (.int x5), some (.int r119), none]) (n := 131) rfl rfl rfl rfl ?_
    refine w_iconst (v := 0) (n := 132) rfl rfl rfl ?_
    refine w_istore (ls' := [some (.ref 11), some (.int x1), none, some (.int x3), some (.int (x4 ||| r119)), some (.int x5), some (.int r119), some (.int 0)]) (n := 134) rfl rfl rfl rfl ?_
    exact w_drp mm_Qf_v H (lb_s (lb_s (lb_n (lb_s (lb_s (lb_s (lb_s (lb_s lb_e))))))))
theorem c_Cutter_measureGroups_134 {P : mm_I → Prop} {I : mm_I} (x1 : Int32) (x3 : Int32) (x4 : Int32) (x5 : Int32) (x6 : Int32) (x7 : Int32)
  (H : (14 ≤ x7 →
      mm_W 7 99 [some (.ref 11), some (.int x1), none, some (.int x3), some (.int x4), some (.int (x5 + 1)), none, none] [] I (mm_qv 7 P)) ∧
    (x7 < 14 →
      ((x6 >>> (x7 &&& 31)) ≤ 0 →
        mm_W 7 99 [some (.ref 11), some (.int x1), none, some (.int x3), some (.int x4), some (.int (x5 + 1)), none, none] [] I (mm_qv 7 P)) ∧
      (0 < (x6 >>> (x7 &&& 31)) →
        vp_in (x3 + x7) 126 ∧
        vp_in (x3 + x7) 126 ∧
        mm_W 7 134 [some (.ref 11), some (.int x1), none, some (.int x3), some (.int x4), some (.int x5), some (.int x6), some (.int (x7 + 1))] [] (mm_up I 15 ((x3 + x7).toNatClampNeg) ((I 15 ((x3 + x7).toNatClampNeg)) + (x6 >>> (x7 &&& 31)))) (mm_qv 7 P)))) : mm_W 7 134 [some (.ref 11), some (.int x1), none, some (.int x3), some (.int x4), some (.int x5), some (.int x6), some (.int x7)] [] I (mm_qv 7 P) := by
  refine w_iload (n := 136) rfl rfl rfl ?_
  refine w_bipush (v := 14) (n := 138) rfl rfl rfl ?_
  refine w_icmp_ge (n := 141) rfl rfl ⟨fun hc => ?_, fun hc => ?_⟩
  · replace H := H.1 hc
    refine w_iinc (y := x5 + 1) (ls' := [some (.ref 11), some (.int x1), none, some (.int x3), some (.int x4), some (.int (x5 + 1)), some (.int x6), some (.int x7)]) (n := 175) rfl rfl rfl rfl rfl ?_
    refine w_goto rfl ?_
    exact w_drp mm_Qf_v H (lb_s (lb_s (lb_n (lb_s (lb_s (lb_s (lb_n (lb_n lb_e))))))))
  · replace H := H.2 hc
    refine w_iload (n := 143) rfl rfl rfl ?_
    refine w_iload (n := 145) rfl rfl rfl ?_
    refine w_ishr (n := 146) rfl rfl ?_
    refine w_if_le (n := 149) rfl rfl ⟨fun hc => ?_, fun hc => ?_⟩
    · replace H := H.1 hc
      refine w_iinc (y := x5 + 1) (ls' := [some (.ref 11), some (.int x1), none, some (.int x3), some (.int x4), some (.int (x5 + 1)), some (.int x6), some (.int x7)]) (n := 175) rfl rfl rfl rfl rfl ?_
      refine w_goto rfl ?_
      exact w_drp mm_Qf_v H (lb_s (lb_s (lb_n (lb_s (lb_s (lb_s (lb_n (lb_n lb_e))))))))
    · replace H := H.2 hc
      refine w_aload_nR (x := 11) (n := 150) rfl rfl rfl ?_
      refine w_getR (b := 15) (n := 153) rfl rfl rfl rfl rfl ?_
      refine w_iload_n (n := 154) rfl rfl rfl ?_
      refine w_iload (n := 156) rfl rfl rfl ?_
      refine w_iadd (n := 157) rfl rfl ?_
      refine w_dup2 (n := 158) rfl rfl rfl ?_
      refine w_iaload (N := 126) (j := (x3 + x7).toNatClampNeg) (n := 159) rfl rfl rfl rfl rfl rfl ⟨H.1, ?_⟩
      replace H := H.2
      refine w_iload (n := 161) rfl rfl rfl ?_
      refine w_iload (n := 163) rfl rfl rfl ?_
      refine w_ishr (n := 164) rfl rfl ?_
      refine w_iadd (n := 165) rfl rfl ?_
      refine w_iastore (N := 126) (j := (x3 + x7).toNatClampNeg) (n := 166) rfl rfl rfl rfl rfl ⟨H.1, ?_⟩
      replace H := H.2
      refine w_iinc (y := x7 + 1) (ls' := [some (.ref 11), some (.int x1), none, some (.int x3), some (.int x4), some (.int x5), some (.int x6), some (.int (x7 + 1))]) (n := 169) rfl rfl rfl rfl rfl ?_
      refine w_goto rfl ?_
      exact w_drp mm_Qf_v H (lb_s (lb_s (lb_n (lb_s (lb_s (lb_s (lb_s (lb_s lb_e))))))))
theorem e_Cutter_widthOf {P : Int32 → mm_I → Prop} {I : mm_I} (x0 : Int32)
  (H : mm_W 8 2 [some (.int x0), some (.int 1)] [] I (mm_qi 8 P)) : mm_Mi 8 [.int x0] I P := by
  refine mm_Mi_of ?_
  show mm_W 8 0 [some (.int x0), none] [] I (mm_qi 8 P)
  refine w_iconst (v := 1) (n := 1) rfl rfl rfl ?_
  refine w_istore_n (ls' := [some (.int x0), some (.int 1)]) (n := 2) rfl rfl rfl rfl ?_
  exact w_drp mm_Qf_i H (lb_s (lb_s lb_e))
theorem c_Cutter_widthOf_2 {P : Int32 → mm_I → Prop} {I : mm_I} (x0 : Int32) (x1 : Int32)
  (H : (31 ≤ x1 →
      P x1 I) ∧
    (x1 < 31 →
      ((x0 >>> (x1 &&& 31)) ≤ 0 →
        P x1 I) ∧
      (0 < (x0 >>> (x1 &&& 31)) →
        mm_W 8 2 [some (.int x0), some (.int (x1 + 1))] [] I (mm_qi 8 P)))) : mm_W 8 2 [some (.int x0), some (.int x1)] [] I (mm_qi 8 P) := by
  refine w_iload_n (n := 3) rfl rfl rfl ?_
  refine w_bipush (v := 31) (n := 5) rfl rfl rfl ?_
  refine w_icmp_ge (n := 8) rfl rfl ⟨fun hc => ?_, fun hc => ?_⟩
  · replace H := H.1 hc
    refine w_iload_n (n := 21) rfl rfl rfl ?_
    exact w_ireturn rfl rfl H
  · replace H := H.2 hc
    refine w_iload_n (n := 9) rfl rfl rfl ?_
    refine w_iload_n (n := 10) rfl rfl rfl ?_
    refine w_ishr (n := 11) rfl rfl ?_
    refine w_if_le (n := 14) rfl rfl ⟨fun hc => ?_, fun hc => ?_⟩
    · replace H := H.1 hc
      refine w_iload_n (n := 21) rfl rfl rfl ?_
      exact w_ireturn rfl rfl H
    · replace H := H.2 hc
      refine w_iinc (y := x1 + 1) (ls' := [some (.int x0), some (.int (x1 + 1))]) (n := 17) rfl rfl rfl rfl rfl ?_
      refine w_goto rfl ?_
      exact w_drp mm_Qf_i H (lb_s (lb_s lb_e))
theorem e_Cutter_findParameter {P : mm_I → Prop} {I : mm_I} (x1 : Int32) (x2 : Int32) (x3 : Int32)
  (H : vp_in (x2 * 14) 126 ∧
    vp_in (x1 * 14) 126 ∧
    (¬ (I 15 ((x2 * 14).toNatClampNeg)) = (I 15 ((x1 * 14).toNatClampNeg)) →
      vp_in x2 9 ∧
      vp_in x1 9 ∧
      mm_W 9 78 [some (.ref 11), none, none, none, some (.int (x1 * 14)), some (.int (x2 * 14)), some (.int ((I 13 x2.toNatClampNeg) - (I 13 x1.toNatClampNeg))), some (.int 13), none, none] [] (mm_up (mm_up I 11 13 14) 11 14 (12 + (((I 13 x2.toNatClampNeg) - (I 13 x1.toNatClampNeg)) * x3))) (mm_qv 9 P)) ∧
    ((I 15 ((x2 * 14).toNatClampNeg)) = (I 15 ((x1 * 14).toNatClampNeg)) →
      P (mm_up (mm_up I 11 13 15) 11 14 7))) : mm_Mv 9 [.ref 11, .int x1, .int x2, .int x3] I P := by
  refine mm_Mv_of ?_
  show mm_W 9 0 [some (.ref 11), some (.int x1), some (.int x2), some (.int x3), none, none, none, none, none, none] [] I (mm_qv 9 P)
  refine w_iload_n (n := 1) rfl rfl rfl ?_
  refine w_bipush (v := 14) (n := 3) rfl rfl rfl ?_
  refine w_imul (n := 4) rfl rfl ?_
  refine w_istore (ls' := [some (.ref 11), some (.int x1), some (.int x2), some (.int x3), some (.int (x1 * 14)), none, none, none, none, none]) (n := 6) rfl rfl rfl rfl ?_
  refine w_iload_n (n := 7) rfl rfl rfl ?_
  refine w_bipush (v := 14) (n := 9) rfl rfl rfl ?_
  refine w_imul (n := 10) rfl rfl ?_
  refine w_istore (ls' := [some (.ref 11), some (.int x1), some (.int x2), some (.int x3), some (.int (x1 * 14)), some (.int (x2 * 14)), none, none, none, none]) (n := 12) rfl rfl rfl rfl ?_
  refine w_aload_nR (x := 11) (n := 13) rfl rfl rfl ?_
  refine w_getR (b := 15) (n := 16) rfl rfl rfl rfl rfl ?_
  refine w_iload (n := 18) rfl rfl rfl ?_
  refine w_iaload (N := 126) (j := (x2 * 14).toNatClampNeg) (n := 19) rfl rfl rfl rfl rfl rfl ⟨H.1, ?_⟩
  replace H := H.2
  refine w_aload_nR (x := 11) (n := 20) rfl rfl rfl ?_
  refine w_getR (b := 15) (n := 23) rfl rfl rfl rfl rfl ?_
  refine w_iload (n := 25) rfl rfl rfl ?_
  refine w_iaload (N := 126) (j := (x1 * 14).toNatClampNeg) (n := 26) rfl rfl rfl rfl rfl rfl ⟨H.1, ?_⟩
  replace H := H.2
  refine w_icmp_ne (n := 29) rfl rfl ⟨fun hc => ?_, fun hc => ?_⟩
  · replace H := H.1 hc
    refine w_aload_nR (x := 11) (n := 43) rfl rfl rfl ?_
    refine w_getR (b := 13) (n := 46) rfl rfl rfl rfl rfl ?_
    refine w_iload_n (n := 47) rfl rfl rfl ?_
    refine w_iaload (N := 9) (j := x2.toNatClampNeg) (n := 48) rfl rfl rfl rfl rfl rfl ⟨H.1, ?_⟩
    replace H := H.2
    refine w_aload_nR (x := 11) (n := 49) rfl rfl rfl ?_
    refine w_getR (b := 13) (n := 52) rfl rfl rfl rfl rfl ?_
    refine w_iload_n (n := 53) rfl rfl rfl ?_
    refine w_iaload (N := 9) (j := x1.toNatClampNeg) (n := 54) rfl rfl rfl rfl rfl rfl ⟨H.1, ?_⟩
    replace H := H.2
    refine w_isub (n := 55) rfl rfl ?_
    refine w_istore (ls' := [some (.ref 11), some (.int x1), some (.int x2), some (.int x3), some (.int (x1 * 14)), some (.int (x2 * 14)), some (.int ((I 13 x2.toNatClampNeg) - (I 13 x1.toNatClampNeg))), none, none, none]) (n := 57) rfl rfl rfl rfl ?_
    refine w_aload_nR (x := 11) (n := 58) rfl rfl rfl ?_
    refine w_bipush (v := 14) (n := 60) rfl rfl rfl ?_
    refine w_putI (n := 63) rfl rfl rfl rfl rfl ?_
    refine w_aload_nR (x := 11) (n := 64) rfl rfl rfl ?_
    refine w_bipush (v := 12) (n := 66) rfl rfl rfl ?_
    refine w_iload (n := 68) rfl rfl rfl ?_
    refine w_iload_n (n := 69) rfl rfl rfl ?_
    refine w_imul (n := 70) rfl rfl ?_
    refine w_iadd (n := 71) rfl rfl ?_
    refine w_putI (n := 74) rfl rfl rfl rfl rfl ?_
    refine w_bipush (v := 13) (n := 76) rfl rfl rfl ?_
    refine w_istore (ls' := [some (.ref 11), some (.int x1), some (.int x2), some (.int x3), some (.int (x1 * 14)), some (.int (x2 * 14)), some (.int ((I 13 x2.toNatClampNeg) - (I 13 x1.toNatClampNeg))), some (.int 13), none, none]) (n := 78) rfl rfl rfl rfl ?_
    exact w_drp mm_Qf_v H (lb_s (lb_n (lb_n (lb_n (lb_s (lb_s (lb_s (lb_s (lb_n (lb_n lb_e))))))))))
  · replace H := H.2 hc
    refine w_aload_nR (x := 11) (n := 30) rfl rfl rfl ?_
    refine w_bipush (v := 15) (n := 32) rfl rfl rfl ?_
    refine w_putI (n := 35) rfl rfl rfl rfl rfl ?_
    refine w_aload_nR (x := 11) (n := 36) rfl rfl rfl ?_
    refine w_bipush (v := 7) (n := 38) rfl rfl rfl ?_
    refine w_putI (n := 41) rfl rfl rfl rfl rfl ?_
    exact w_vreturn rfl rfl H
theorem c_Cutter_findParameter_78 {P : mm_I → Prop} {I : mm_I} (x4 : Int32) (x5 : Int32) (x6 : Int32) (x7 : Int32)
  (H : (x7 < 0 →
      P I) ∧
    (0 ≤ x7 →
      vp_in (x5 + x7) 126 ∧
      vp_in (x4 + x7) 126 ∧
      ((I 11 14) < ((7 + ((I 15 ((x5 + x7).toNatClampNeg)) - (I 15 ((x4 + x7).toNatClampNeg)))) + (x6 * (1 + x7))) →
        mm_W 9 78 [some (.ref 11), none, none, none, some (.int x4), some (.int x5), some (.int x6), some (.int (x7 + (-1))), none, none] [] I (mm_qv 9 P)) ∧
      (((7 + ((I 15 ((x5 + x7).toNatClampNeg)) - (I 15 ((x4 + x7).toNatClampNeg)))) + (x6 * (1 + x7))) ≤ (I 11 14) →
        mm_W 9 78 [some (.ref 11), none, none, none, some (.int x4), some (.int x5), some (.int x6), some (.int (x7 + (-1))), none, none] [] (mm_up (mm_up I 11 13 x7) 11 14 ((7 + ((I 15 ((x5 + x7).toNatClampNeg)) - (I 15 ((x4 + x7).toNatClampNeg)))) + (x6 * (1 + x7)))) (mm_qv 9 P)))) : mm_W 9 78 [some (.ref 11), none, none, none, some (.int x4), some (.int x5), some (.int x6), some (.int x7), none, none] [] I (mm_qv 9 P) := by
  refine w_iload (n := 80) rfl rfl rfl ?_
  refine w_if_lt (n := 83) rfl rfl ⟨fun hc => ?_, fun hc => ?_⟩
  · replace H := H.1 hc
    exact w_vreturn rfl rfl H
  · replace H := H.2 hc
    refine w_aload_nR (x := 11) (n := 84) rfl rfl rfl ?_
    refine w_getR (b := 15) (n := 87) rfl rfl rfl rfl rfl ?_
    refine w_iload (n := 89) rfl rfl rfl ?_
    refine w_iload (n := 91) rfl rfl rfl ?_
    refine w_iadd (n := 92) rfl rfl ?_
    refine w_iaload (N := 126) (j := (x5 + x7).toNatClampNeg) (n := 93) rfl rfl rfl rfl rfl rfl ⟨H.1, ?_⟩
    replace H := H.2
    refine w_aload_nR (x := 11) (n := 94) rfl rfl rfl ?_
    refine w_getR (b := 15) (n := 97) rfl rfl rfl rfl rfl ?_
    refine w_iload (n := 99) rfl rfl rfl ?_
    refine w_iload (n := 101) rfl rfl rfl ?_
    refine w_iadd (n := 102) rfl rfl ?_
    refine w_iaload (N := 126) (j := (x4 + x7).toNatClampNeg) (n := 103) rfl rfl rfl rfl rfl rfl ⟨H.1, ?_⟩
    replace H := H.2
    refine w_isub (n := 104) rfl rfl ?_
    refine w_istore (ls' := [some (.ref 11), none, none, none, some (.int x4), some (.int x5), some (.int x6), some (.int x7), some (.int ((I 15 ((x5 + x7).toNatClampNeg)) - (I 15 ((x4 + x7).toNatClampNeg)))), none]) (n := 106) rfl rfl rfl rfl ?_
    refine w_bipush (v := 7) (n := 108) rfl rfl rfl ?_
    refine w_iload (n := 110) rfl rfl rfl ?_
    refine w_iadd (n := 111) rfl rfl ?_
    refine w_iload (n := 113) rfl rfl rfl ?_
    refine w_iconst (v := 1) (n := 114) rfl rfl rfl ?_
    refine w_iload (n := 116) rfl rfl rfl ?_
    refine w_iadd (n := 117) rfl rfl ?_
    refine w_imul (n := 118) rfl rfl ?_
    refine w_iadd (n := 119) rfl rfl ?_
    refine w_istore (ls' := [some (.ref 11), none, none, none, some (.int x4), some (.int x5), some (.int x6), some (.int x7), some (.int ((I 15 ((x5 + x7).toNatClampNeg)) - (I 15 ((x4 + x7).toNatClampNeg)))), some (.int ((7 + ((I 15 ((x5 + x7).toNatClampNeg)) - (I 15 ((x4 + x7).toNatClampNeg)))) + (x6 * (1 + x7))))]) (n := 121) rfl rfl rfl rfl ?_
    refine w_iload (n := 123) rfl rfl rfl ?_
    refine w_aload_nR (x := 11) (n := 124) rfl rfl rfl ?_
    refine w_getI (n := 127) rfl rfl rfl rfl ?_
    refine w_icmp_gt (n := 130) rfl rfl ⟨fun hc => ?_, fun hc => ?_⟩
    · replace H := H.1 hc
      refine w_iinc (y := x7 + (-1)) (ls' := [some (.ref 11), none, none, none, some (.int x4), some (.int x5), some (.int x6), some (.int (x7 + (-1))), some (.int ((I 15 ((x5 + x7).toNatClampNeg)) - (I 15 ((x4 + x7).toNatClampNeg)))), some (.int ((7 + ((I 15 ((x5 + x7).toNatClampNeg)) - (I 15 ((x4 + x7).toNatClampNeg)))) + (x6 * (1 + x7))))]) (n := 145) rfl rfl rfl rfl rfl ?_
      refine w_goto rfl ?_
      exact w_drp mm_Qf_v H (lb_s (lb_n (lb_n (lb_n (lb_s (lb_s (lb_s (lb_s (lb_n (lb_n lb_e))))))))))
    · replace H := H.2 hc
      refine w_aload_nR (x := 11) (n := 131) rfl rfl rfl ?_
      refine w_iload (n := 133) rfl rfl rfl ?_
      refine w_putI (n := 136) rfl rfl rfl rfl rfl ?_
      refine w_aload_nR (x := 11) (n := 137) rfl rfl rfl ?_
      refine w_iload (n := 139) rfl rfl rfl ?_
      refine w_putI (n := 142) rfl rfl rfl rfl rfl ?_
      refine w_iinc (y := x7 + (-1)) (ls' := [some (.ref 11), none, none, none, some (.int x4), some (.int x5), some (.int x6), some (.int (x7 + (-1))), some (.int ((I 15 ((x5 + x7).toNatClampNeg)) - (I 15 ((x4 + x7).toNatClampNeg)))), some (.int ((7 + ((I 15 ((x5 + x7).toNatClampNeg)) - (I 15 ((x4 + x7).toNatClampNeg)))) + (x6 * (1 + x7))))]) (n := 145) rfl rfl rfl rfl rfl ?_
      refine w_goto rfl ?_
      exact w_drp mm_Qf_v H (lb_s (lb_n (lb_n (lb_n (lb_s (lb_s (lb_s (lb_s (lb_n (lb_n lb_e))))))))))
theorem e_Plan_make {P : mm_I → Prop} {I : mm_I} (x3 : Int32) (x4 : Int32) (x5 : Int32) (x6 : Int32)
  (H : mm_Mi 226 [.int x3, .int 64] I (fun r10 I10 =>  -- Math.min
    mm_Mi 226 [.int r10, .int ((I10 5 0) - (x4 * x3))] I10 (fun r22 I22 =>  -- Math.min
    mm_Mi 225 [.int 0, .int r22] I22 (fun r25 I25 =>  -- Math.max
    mm_Mv 40 [.ref 22, .int r25, .int (I25 3 3)] I25 (fun I40 =>  -- Row.start
    mm_W 11 46 [some (.ref 10), some (.ref 3), some (.ref 6), none, none, some (.int x5), some (.int x6), some (.int (x4 * x3)), some (.int r25), some (.int 0)] [] I40 (mm_qv 11 P)))))) : mm_Mv 11 [.ref 10, .ref 3, .ref 6, .int x3, .int x4, .int x5, .int x6] I P := by
  refine mm_Mv_of ?_
  show mm_W 11 0 [some (.ref 10), some (.ref 3), some (.ref 6), some (.int x3), some (.int x4), some (.int x5), some (.int x6), none, none, none] [] I (mm_qv 11 P)
  refine w_iload (n := 2) rfl rfl rfl ?_
  refine w_iload_n (n := 3) rfl rfl rfl ?_
  refine w_imul (n := 4) rfl rfl ?_
  refine w_istore (ls' := [some (.ref 10), some (.ref 3), some (.ref 6), some (.int x3), some (.int x4), some (.int x5), some (.int x6), some (.int (x4 * x3)), none, none]) (n := 6) rfl rfl rfl rfl ?_
  refine w_iconst (v := 0) (n := 7) rfl rfl rfl ?_
  refine w_iload_n (n := 8) rfl rfl rfl ?_
  refine w_bipush (v := 64) (n := 10) rfl rfl rfl ?_
  refine w_calli (as := [.int x3, .int 64]) (rest := [.int 0]) (n := 13) rfl rfl rfl rfl ?_
  obtain ⟨r10, I10, hI10, H⟩ := H
  refine ⟨r10, I10, hI10, ?_⟩
  refine w_aload_nR (x := 3) (n := 14) rfl rfl rfl ?_
  refine w_getR (b := 5) (n := 17) rfl rfl rfl rfl rfl ?_
  refine w_iconst (v := 0) (n := 18) rfl rfl rfl ?_
  refine w_iaload (N := 2) (j := 0) (n := 19) rfl rfl rfl rfl (by decide) rfl ⟨mm_vpc (by decide), ?_⟩
  refine w_iload (n := 21) rfl rfl rfl ?_
  refine w_isub (n := 22) rfl rfl ?_
  refine w_calli (as := [.int r10, .int ((I10 5 0) - (x4 * x3))]) (rest := [.int 0]) (n := 25) rfl rfl rfl rfl ?_
  obtain ⟨r22, I22, hI22, H⟩ := H
  refine ⟨r22, I22, hI22, ?_⟩
  refine w_calli (as := [.int 0, .int r22]) (rest := []) (n := 28) rfl rfl rfl rfl ?_
  obtain ⟨r25, I25, hI25, H⟩ := H
  refine ⟨r25, I25, hI25, ?_⟩
  refine w_istore (ls' := [some (.ref 10), some (.ref 3), some (.ref 6), some (.int x3), some (.int x4), some (.int x5), some (.int x6), some (.int (x4 * x3)), some (.int r25), none]) (n := 30) rfl rfl rfl rfl ?_
  refine w_aload_nR (x := 10) (n := 31) rfl rfl rfl ?_
  refine w_getR (b := 22) (n := 34) rfl rfl rfl rfl rfl ?_
  refine w_iload (n := 36) rfl rfl rfl ?_
  refine w_aload_nR (x := 3) (n := 37) rfl rfl rfl ?_
  refine w_getI (n := 40) rfl rfl rfl rfl ?_
  refine w_callv (as := [.ref 22, .int r25, .int (I25 3 3)]) (rest := []) (n := 43) rfl rfl rfl rfl ?_
  obtain ⟨I40, hI40, H⟩ := H
  refine ⟨I40, hI40, ?_⟩
  refine w_iconst (v := 0) (n := 44) rfl rfl rfl ?_
  refine w_istore (ls' := [some (.ref 10), some (.ref 3), some (.ref 6), some (.int x3), some (.int x4), some (.int x5), some (.int x6), some (.int (x4 * x3)), some (.int r25), some (.int 0)]) (n := 46) rfl rfl rfl rfl ?_
  exact w_drp mm_Qf_v H (lb_s (lb_s (lb_s (lb_n (lb_n (lb_s (lb_s (lb_s (lb_s (lb_s lb_e))))))))))
theorem c_Plan_make_46 {P : mm_I → Prop} {I : mm_I} (x5 : Int32) (x6 : Int32) (x7 : Int32) (x8 : Int32) (x9 : Int32)
  (H : (x8 ≤ x9 →
      mm_Mv 41 [.ref 22, .ref 6, .ref 11, .int x5, .int x6] I (fun I92 =>  -- Row.choose
      ((if (I92 3 2) = 2 then (1 : Int32) else 0) = 0 ∨ (if (I92 3 2) = 2 then (1 : Int32) else 0) = 1) ∧
      ((if (I92 3 2) = 2 then (1 : Int32) else 0) = 0 →
        P (mm_up (mm_up I92 10 5 (if (I92 3 2) = 2 then (1 : Int32) else 0)) 10 6 0)) ∧
      (¬ (if (I92 3 2) = 2 then (1 : Int32) else 0) = 0 →
        mm_Mv 12 [.ref 10, .ref 3, .int x7, .int x8] (mm_up (mm_up I92 10 5 (if (I92 3 2) = 2 then (1 : Int32) else 0)) 10 6 0) (fun I130 =>  -- Plan.joinRows
        mm_Mv 41 [.ref 28, .ref 6, .ref 11, .int x5, .int x6] I130 (fun I146 =>  -- Row.choose
        mm_Mv 41 [.ref 34, .ref 6, .ref 11, .int x5, .int x6] I146 (fun I162 =>  -- Row.choose
        mm_Mv 41 [.ref 40, .ref 6, .ref 11, .int x5, .int x6] I162 (fun I178 =>  -- Row.choose
        mm_Mv 13 [.ref 10] I178 (fun I182 =>  -- Plan.chooseWay
        P I182)))))))) ∧
    (x9 < x8 →
      mm_Mi 49 [.ref 3, .int 0, .int (x7 + x9)] I (fun r69 I69 =>  -- Sound.valueAt
      vp_in x9 64 ∧
      mm_W 11 46 [some (.ref 10), some (.ref 3), some (.ref 6), none, none, some (.int x5), some (.int x6), some (.int x7), some (.int x8), some (.int (x9 + 1))] [] (mm_up I69 23 x9.toNatClampNeg r69) (mm_qv 11 P)))) : mm_W 11 46 [some (.ref 10), some (.ref 3), some (.ref 6), none, none, some (.int x5), some (.int x6), some (.int x7), some (.int x8), some (.int x9)] [] I (mm_qv 11 P) := by
  refine w_iload (n := 48) rfl rfl rfl ?_
  refine w_iload (n := 50) rfl rfl rfl ?_
  refine w_icmp_ge (n := 53) rfl rfl ⟨fun hc => ?_, fun hc => ?_⟩
  · replace H := H.1 hc
    refine w_aload_nR (x := 10) (n := 80) rfl rfl rfl ?_
    refine w_getR (b := 22) (n := 83) rfl rfl rfl rfl rfl ?_
    refine w_aload_nR (x := 6) (n := 84) rfl rfl rfl ?_
    refine w_aload_nR (x := 10) (n := 85) rfl rfl rfl ?_
    refine w_getR (b := 11) (n := 88) rfl rfl rfl rfl rfl ?_
    refine w_iload (n := 90) rfl rfl rfl ?_
    refine w_iload (n := 92) rfl rfl rfl ?_
    refine w_callv (as := [.ref 22, .ref 6, .ref 11, .int x5, .int x6]) (rest := []) (n := 95) rfl rfl rfl rfl ?_
    obtain ⟨I92, hI92, H⟩ := H
    refine ⟨I92, hI92, ?_⟩
    refine w_aload_nR (x := 10) (n := 96) rfl rfl rfl ?_
    refine w_aload_nR (x := 3) (n := 97) rfl rfl rfl ?_
    refine w_getI (n := 100) rfl rfl rfl rfl ?_
    refine w_iconst (v := 2) (n := 101) rfl rfl rfl ?_
    have J101 : ∀ (w101_1 : Int32), w101_1 = (if (I92 3 2) = 2 then (1 : Int32) else 0) → mm_W 11 109 [some (.ref 10), some (.ref 3), some (.ref 6), none, none, some (.int x5), some (.int x6), some (.int x7), some (.int x8), some (.int x9)] [.int w101_1, .ref 10] I92 (mm_qv 11 P) := by
      intro w101_1 e101_0
      subst e101_0
      refine w_putZ (n := 112) rfl rfl rfl rfl rfl rfl ⟨H.1, ?_⟩
      replace H := H.2
      refine w_aload_nR (x := 10) (n := 113) rfl rfl rfl ?_
      refine w_iconst (v := 0) (n := 114) rfl rfl rfl ?_
      refine w_putI (n := 117) rfl rfl rfl rfl rfl ?_
      refine w_aload_nR (x := 10) (n := 118) rfl rfl rfl ?_
      refine w_getI (n := 121) rfl rfl rfl rfl ?_
      refine w_if_eq (n := 124) rfl rfl ⟨fun hc => ?_, fun hc => ?_⟩
      · replace H := H.1 hc
        exact w_vreturn rfl rfl H
      · replace H := H.2 hc
        refine w_aload_nR (x := 10) (n := 125) rfl rfl rfl ?_
        refine w_aload_nR (x := 3) (n := 126) rfl rfl rfl ?_
        refine w_iload (n := 128) rfl rfl rfl ?_
        refine w_iload (n := 130) rfl rfl rfl ?_
        refine w_callv (as := [.ref 10, .ref 3, .int x7, .int x8]) (rest := []) (n := 133) rfl rfl rfl rfl ?_
        obtain ⟨I130, hI130, H⟩ := H
        refine ⟨I130, hI130, ?_⟩
        refine w_aload_nR (x := 10) (n := 134) rfl rfl rfl ?_
        refine w_getR (b := 28) (n := 137) rfl rfl rfl rfl rfl ?_
        refine w_aload_nR (x := 6) (n := 138) rfl rfl rfl ?_
        refine w_aload_nR (x := 10) (n := 139) rfl rfl rfl ?_
        refine w_getR (b := 11) (n := 142) rfl rfl rfl rfl rfl ?_
        refine w_iload (n := 144) rfl rfl rfl ?_
        refine w_iload (n := 146) rfl rfl rfl ?_
        refine w_callv (as := [.ref 28, .ref 6, .ref 11, .int x5, .int x6]) (rest := []) (n := 149) rfl rfl rfl rfl ?_
        obtain ⟨I146, hI146, H⟩ := H
        refine ⟨I146, hI146, ?_⟩
        refine w_aload_nR (x := 10) (n := 150) rfl rfl rfl ?_
        refine w_getR (b := 34) (n := 153) rfl rfl rfl rfl rfl ?_
        refine w_aload_nR (x := 6) (n := 154) rfl rfl rfl ?_
        refine w_aload_nR (x := 10) (n := 155) rfl rfl rfl ?_
        refine w_getR (b := 11) (n := 158) rfl rfl rfl rfl rfl ?_
        refine w_iload (n := 160) rfl rfl rfl ?_
        refine w_iload (n := 162) rfl rfl rfl ?_
        refine w_callv (as := [.ref 34, .ref 6, .ref 11, .int x5, .int x6]) (rest := []) (n := 165) rfl rfl rfl rfl ?_
        obtain ⟨I162, hI162, H⟩ := H
        refine ⟨I162, hI162, ?_⟩
        refine w_aload_nR (x := 10) (n := 166) rfl rfl rfl ?_
        refine w_getR (b := 40) (n := 169) rfl rfl rfl rfl rfl ?_
        refine w_aload_nR (x := 6) (n := 170) rfl rfl rfl ?_
        refine w_aload_nR (x := 10) (n := 171) rfl rfl rfl ?_
        refine w_getR (b := 11) (n := 174) rfl rfl rfl rfl rfl ?_
        refine w_iload (n := 176) rfl rfl rfl ?_
        refine w_iload (n := 178) rfl rfl rfl ?_
        refine w_callv (as := [.ref 40, .ref 6, .ref 11, .int x5, .int x6]) (rest := []) (n := 181) rfl rfl rfl rfl ?_
        obtain ⟨I178, hI178, H⟩ := H
        refine ⟨I178, hI178, ?_⟩
        refine w_aload_nR (x := 10) (n := 182) rfl rfl rfl ?_
        refine w_callv (as := [.ref 10]) (rest := []) (n := 185) rfl rfl rfl rfl ?_
        obtain ⟨I182, hI182, H⟩ := H
        refine ⟨I182, hI182, ?_⟩
        exact w_vreturn rfl rfl H
    refine w_icmp_ne (n := 104) rfl rfl ⟨fun hc => ?_, fun hc => ?_⟩
    · refine w_iconst (v := 0) (n := 109) rfl rfl rfl ?_
      refine w_drp mm_Qf_v (J101 _ ?_) (lb_s (lb_s (lb_s (lb_n (lb_n (lb_s (lb_s (lb_s (lb_s (lb_s lb_e))))))))))
      · exact (if_neg hc).symm
    · refine w_iconst (v := 1) (n := 105) rfl rfl rfl ?_
      refine w_goto rfl ?_
      refine w_drp mm_Qf_v (J101 _ ?_) (lb_s (lb_s (lb_s (lb_n (lb_n (lb_s (lb_s (lb_s (lb_s (lb_s lb_e))))))))))
      · exact (if_pos hc).symm
  · replace H := H.2 hc
    refine w_aload_nR (x := 10) (n := 54) rfl rfl rfl ?_
    refine w_getR (b := 22) (n := 57) rfl rfl rfl rfl rfl ?_
    refine w_getR (b := 23) (n := 60) rfl rfl rfl rfl rfl ?_
    refine w_iload (n := 62) rfl rfl rfl ?_
    refine w_aload_nR (x := 3) (n := 63) rfl rfl rfl ?_
    refine w_iconst (v := 0) (n := 64) rfl rfl rfl ?_
    refine w_iload (n := 66) rfl rfl rfl ?_
    refine w_iload (n := 68) rfl rfl rfl ?_
    refine w_iadd (n := 69) rfl rfl ?_
    refine w_calli (as := [.ref 3, .int 0, .int (x7 + x9)]) (rest := [.int x9, .ref 23]) (n := 72) rfl rfl rfl rfl ?_
    obtain ⟨r69, I69, hI69, H⟩ := H
    refine ⟨r69, I69, hI69, ?_⟩
    refine w_iastore (N := 64) (j := x9.toNatClampNeg) (n := 73) rfl rfl rfl rfl rfl ⟨H.1, ?_⟩
    replace H := H.2
    refine w_iinc (y := x9 + 1) (ls' := [some (.ref 10), some (.ref 3), some (.ref 6), none, none, some (.int x5), some (.int x6), some (.int x7), some (.int x8), some (.int (x9 + 1))]) (n := 76) rfl rfl rfl rfl rfl ?_
    refine w_goto rfl ?_
    exact w_drp mm_Qf_v H (lb_s (lb_s (lb_s (lb_n (lb_n (lb_s (lb_s (lb_s (lb_s (lb_s lb_e))))))))))
theorem e_Plan_joinRows {P : mm_I → Prop} {I : mm_I} (x2 : Int32) (x3 : Int32)
  (H : mm_Mv 40 [.ref 28, .int x3, .int (I 3 3)] I (fun I9 =>  -- Row.start
    mm_Mv 40 [.ref 34, .int x3, .int ((I9 3 3) + 1)] I9 (fun I23 =>  -- Row.start
    mm_Mv 40 [.ref 40, .int x3, .int (I23 3 3)] I23 (fun I35 =>  -- Row.start
    mm_W 12 41 [some (.ref 10), some (.ref 3), some (.int x2), some (.int x3), some (.int 0), none, none] [] I35 (mm_qv 12 P))))) : mm_Mv 12 [.ref 10, .ref 3, .int x2, .int x3] I P := by
  refine mm_Mv_of ?_
  show mm_W 12 0 [some (.ref 10), some (.ref 3), some (.int x2), some (.int x3), none, none, none] [] I (mm_qv 12 P)
  refine w_aload_nR (x := 10) (n := 1) rfl rfl rfl ?_
  refine w_getR (b := 28) (n := 4) rfl rfl rfl rfl rfl ?_
  refine w_iload_n (n := 5) rfl rfl rfl ?_
  refine w_aload_nR (x := 3) (n := 6) rfl rfl rfl ?_
  refine w_getI (n := 9) rfl rfl rfl rfl ?_
  refine w_callv (as := [.ref 28, .int x3, .int (I 3 3)]) (rest := []) (n := 12) rfl rfl rfl rfl ?_
  obtain ⟨I9, hI9, H⟩ := H
  refine ⟨I9, hI9, ?_⟩
  refine w_aload_nR (x := 10) (n := 13) rfl rfl rfl ?_
  refine w_getR (b := 34) (n := 16) rfl rfl rfl rfl rfl ?_
  refine w_iload_n (n := 17) rfl rfl rfl ?_
  refine w_aload_nR (x := 3) (n := 18) rfl rfl rfl ?_
  refine w_getI (n := 21) rfl rfl rfl rfl ?_
  refine w_iconst (v := 1) (n := 22) rfl rfl rfl ?_
  refine w_iadd (n := 23) rfl rfl ?_
  refine w_callv (as := [.ref 34, .int x3, .int ((I9 3 3) + 1)]) (rest := []) (n := 26) rfl rfl rfl rfl ?_
  obtain ⟨I23, hI23, H⟩ := H
  refine ⟨I23, hI23, ?_⟩
  refine w_aload_nR (x := 10) (n := 27) rfl rfl rfl ?_
  refine w_getR (b := 40) (n := 30) rfl rfl rfl rfl rfl ?_
  refine w_iload_n (n := 31) rfl rfl rfl ?_
  refine w_aload_nR (x := 3) (n := 32) rfl rfl rfl ?_
  refine w_getI (n := 35) rfl rfl rfl rfl ?_
  refine w_callv (as := [.ref 40, .int x3, .int (I23 3 3)]) (rest := []) (n := 38) rfl rfl rfl rfl ?_
  obtain ⟨I35, hI35, H⟩ := H
  refine ⟨I35, hI35, ?_⟩
  refine w_iconst (v := 0) (n := 39) rfl rfl rfl ?_
  refine w_istore (ls' := [some (.ref 10), some (.ref 3), some (.int x2), some (.int x3), some (.int 0), none, none]) (n := 41) rfl rfl rfl rfl ?_
  exact w_drp mm_Qf_v H (lb_s (lb_s (lb_s (lb_s (lb_s (lb_n (lb_n lb_e)))))))
theorem c_Plan_joinRows_41 {P : mm_I → Prop} {I : mm_I} (x2 : Int32) (x3 : Int32) (x4 : Int32)
  (H : (x3 ≤ x4 →
      P I) ∧
    (x4 < x3 →
      vp_in x4 64 ∧
      mm_Mi 49 [.ref 3, .int 1, .int (x2 + x4)] I (fun r65 I65 =>  -- Sound.valueAt
      vp_in x4 64 ∧
      vp_in x4 64 ∧
      vp_in x4 64 ∧
      mm_W 12 41 [some (.ref 10), some (.ref 3), some (.int x2), some (.int x3), some (.int (x4 + 1)), none, none] [] (mm_up (mm_up (mm_up I65 29 x4.toNatClampNeg r65) 35 x4.toNatClampNeg ((I 23 x4.toNatClampNeg) - r65)) 41 x4.toNatClampNeg (((I 23 x4.toNatClampNeg) + r65) >>> (1 &&& 31))) (mm_qv 12 P)))) : mm_W 12 41 [some (.ref 10), some (.ref 3), some (.int x2), some (.int x3), some (.int x4), none, none] [] I (mm_qv 12 P) := by
  refine w_iload (n := 43) rfl rfl rfl ?_
  refine w_iload_n (n := 44) rfl rfl rfl ?_
  refine w_icmp_ge (n := 47) rfl rfl ⟨fun hc => ?_, fun hc => ?_⟩
  · replace H := H.1 hc
    exact w_vreturn rfl rfl H
  · replace H := H.2 hc
    refine w_aload_nR (x := 10) (n := 48) rfl rfl rfl ?_
    refine w_getR (b := 22) (n := 51) rfl rfl rfl rfl rfl ?_
    refine w_getR (b := 23) (n := 54) rfl rfl rfl rfl rfl ?_
    refine w_iload (n := 56) rfl rfl rfl ?_
    refine w_iaload (N := 64) (j := x4.toNatClampNeg) (n := 57) rfl rfl rfl rfl rfl rfl ⟨H.1, ?_⟩
    replace H := H.2
    refine w_istore (ls' := [some (.ref 10), some (.ref 3), some (.int x2), some (.int x3), some (.int x4), some (.int (I 23 x4.toNatClampNeg)), none]) (n := 59) rfl rfl rfl rfl ?_
    refine w_aload_nR (x := 3) (n := 60) rfl rfl rfl ?_
    refine w_iconst (v := 1) (n := 61) rfl rfl rfl ?_
    refine w_iload_n (n := 62) rfl rfl rfl ?_
    refine w_iload (n := 64) rfl rfl rfl ?_
    refine w_iadd (n := 65) rfl rfl ?_
    refine w_calli (as := [.ref 3, .int 1, .int (x2 + x4)]) (rest := []) (n := 68) rfl rfl rfl rfl ?_
    obtain ⟨r65, I65, hI65, H⟩ := H
    refine ⟨r65, I65, hI65, ?_⟩
    refine w_istore (ls' := [some (.ref 10), some (.ref 3), some (.int x2), some (.int x3), some (.int x4), some (.int (I 23 x4.toNatClampNeg)), some (.int r65)]) (n := 70) rfl rfl rfl rfl ?_
    refine w_aload_nR (x := 10) (n := 71) rfl rfl rfl ?_
    refine w_getR (b := 28) (n := 74) rfl rfl rfl rfl rfl ?_
    refine w_getR (b := 29) (n := 77) rfl rfl rfl rfl rfl ?_
    refine w_iload (n := 79) rfl rfl rfl ?_
    refine w_iload (n := 81) rfl rfl rfl ?_
    refine w_iastore (N := 64) (j := x4.toNatClampNeg) (n := 82) rfl rfl rfl rfl rfl ⟨H.1, ?_⟩
    replace H := H.2
    refine w_aload_nR (x := 10) (n := 83) rfl rfl rfl ?_
    refine w_getR (b := 34) (n := 86) rfl rfl rfl rfl rfl ?_
    refine w_getR (b := 35) (n := 89) rfl rfl rfl rfl rfl ?_
    refine w_iload (n := 91) rfl rfl rfl ?_
    refine w_iload (n := 93) rfl rfl rfl ?_
    refine w_iload (n := 95) rfl rfl rfl ?_
    refine w_isub (n := 96) rfl rfl ?_
    refine w_iastore (N := 64) (j := x4.toNatClampNeg) (n := 97) rfl rfl rfl rfl rfl ⟨H.1, ?_⟩
    replace H := H.2
    refine w_aload_nR (x := 10) (n := 98) rfl rfl rfl ?_
    refine w_getR (b := 40) (n := 101) rfl rfl rfl rfl rfl ?_
    refine w_getR (b := 41) (n := 104) rfl rfl rfl rfl rfl ?_
    refine w_iload (n := 106) rfl rfl rfl ?_
    refine w_iload (n := 108) rfl rfl rfl ?_
    refine w_iload (n := 110) rfl rfl rfl ?_
    refine w_iadd (n := 111) rfl rfl ?_
    refine w_iconst (v := 1) (n := 112) rfl rfl rfl ?_
    refine w_ishr (n := 113) rfl rfl ?_
    refine w_iastore (N := 64) (j := x4.toNatClampNeg) (n := 114) rfl rfl rfl rfl rfl ⟨H.1, ?_⟩
    replace H := H.2
    refine w_iinc (y := x4 + 1) (ls' := [some (.ref 10), some (.ref 3), some (.int x2), some (.int x3), some (.int (x4 + 1)), some (.int (I 23 x4.toNatClampNeg)), some (.int r65)]) (n := 117) rfl rfl rfl rfl rfl ?_
    refine w_goto rfl ?_
    exact w_drp mm_Qf_v H (lb_s (lb_s (lb_s (lb_s (lb_s (lb_n (lb_n lb_e)))))))
theorem e_Plan_chooseWay {P : mm_I → Prop} {I : mm_I}
  (H : mm_W 13 2 [some (.ref 10), some (.int 1)] [] I (mm_qv 13 P)) : mm_Mv 13 [.ref 10] I P := by
  refine mm_Mv_of ?_
  show mm_W 13 0 [some (.ref 10), none] [] I (mm_qv 13 P)
  refine w_iconst (v := 1) (n := 1) rfl rfl rfl ?_
  refine w_istore_n (ls' := [some (.ref 10), some (.int 1)]) (n := 2) rfl rfl rfl rfl ?_
  exact w_drp mm_Qf_v H (lb_s (lb_s lb_e))
theorem c_Plan_chooseWay_2 {P : mm_I → Prop} {I : mm_I} (x1 : Int32)
  (H : (4 ≤ x1 →
      P I) ∧
    (x1 < 4 →
      mm_Mi 16 [.ref 10, .int x1] I (fun r9 I9 =>  -- Plan.rowBits
      mm_Mi 16 [.ref 10, .int (I9 10 6)] I9 (fun r17 I17 =>  -- Plan.rowBits
      (r17 ≤ r9 →
        mm_W 13 2 [some (.ref 10), some (.int (x1 + 1))] [] I17 (mm_qv 13 P)) ∧
      (r9 < r17 →
        mm_W 13 2 [some (.ref 10), some (.int (x1 + 1))] [] (mm_up I17 10 6 x1) (mm_qv 13 P)))))) : mm_W 13 2 [some (.ref 10), some (.int x1)] [] I (mm_qv 13 P) := by
  refine w_iload_n (n := 3) rfl rfl rfl ?_
  refine w_iconst (v := 4) (n := 4) rfl rfl rfl ?_
  refine w_icmp_ge (n := 7) rfl rfl ⟨fun hc => ?_, fun hc => ?_⟩
  · replace H := H.1 hc
    exact w_vreturn rfl rfl H
  · replace H := H.2 hc
    refine w_aload_nR (x := 10) (n := 8) rfl rfl rfl ?_
    refine w_iload_n (n := 9) rfl rfl rfl ?_
    refine w_calli (as := [.ref 10, .int x1]) (rest := []) (n := 12) rfl rfl rfl rfl ?_
    obtain ⟨r9, I9, hI9, H⟩ := H
    refine ⟨r9, I9, hI9, ?_⟩
    refine w_aload_nR (x := 10) (n := 13) rfl rfl rfl ?_
    refine w_aload_nR (x := 10) (n := 14) rfl rfl rfl ?_
    refine w_getI (n := 17) rfl rfl rfl rfl ?_
    refine w_calli (as := [.ref 10, .int (I9 10 6)]) (rest := [.int r9]) (n := 20) rfl rfl rfl rfl ?_
    obtain ⟨r17, I17, hI17, H⟩ := H
    refine ⟨r17, I17, hI17, ?_⟩
    refine w_icmp_ge (n := 23) rfl rfl ⟨fun hc => ?_, fun hc => ?_⟩
    · replace H := H.1 hc
      refine w_iinc (y := x1 + 1) (ls' := [some (.ref 10), some (.int (x1 + 1))]) (n := 31) rfl rfl rfl rfl rfl ?_
      refine w_goto rfl ?_
      exact w_drp mm_Qf_v H (lb_s (lb_s lb_e))
    · replace H := H.2 hc
      refine w_aload_nR (x := 10) (n := 24) rfl rfl rfl ?_
      refine w_iload_n (n := 25) rfl rfl rfl ?_
      refine w_putI (n := 28) rfl rfl rfl rfl rfl ?_
      refine w_iinc (y := x1 + 1) (ls' := [some (.ref 10), some (.int (x1 + 1))]) (n := 31) rfl rfl rfl rfl rfl ?_
      refine w_goto rfl ?_
      exact w_drp mm_Qf_v H (lb_s (lb_s lb_e))
theorem e_Plan_firstRow {P : Option Nat → mm_I → Prop} {I : mm_I} (x1 : Int32)
  (H : (¬ x1 = 2 →
      (¬ x1 = 3 →
        P (some 22) I) ∧
      (x1 = 3 →
        P (some 40) I)) ∧
    (x1 = 2 →
      P (some 34) I)) : mm_Mr 14 [.ref 10, .int x1] I P := by
  refine mm_Mr_of ?_
  show mm_W 14 0 [some (.ref 10), some (.int x1)] [] I (mm_qr 14 P)
  refine w_iload_n (n := 1) rfl rfl rfl ?_
  refine w_iconst (v := 2) (n := 2) rfl rfl rfl ?_
  refine w_icmp_ne (n := 5) rfl rfl ⟨fun hc => ?_, fun hc => ?_⟩
  · replace H := H.1 hc
    refine w_iload_n (n := 13) rfl rfl rfl ?_
    refine w_iconst (v := 3) (n := 14) rfl rfl rfl ?_
    refine w_icmp_ne (n := 17) rfl rfl ⟨fun hc => ?_, fun hc => ?_⟩
    · replace H := H.1 hc
      refine w_aload_nR (x := 10) (n := 25) rfl rfl rfl ?_
      refine w_getR (b := 22) (n := 28) rfl rfl rfl rfl rfl ?_
      exact w_areturn (x := (some 22)) rfl rfl H
    · replace H := H.2 hc
      refine w_aload_nR (x := 10) (n := 18) rfl rfl rfl ?_
      refine w_getR (b := 40) (n := 21) rfl rfl rfl rfl rfl ?_
      refine w_goto rfl ?_
      exact w_areturn (x := (some 40)) rfl rfl H
  · replace H := H.2 hc
    refine w_aload_nR (x := 10) (n := 6) rfl rfl rfl ?_
    refine w_getR (b := 34) (n := 9) rfl rfl rfl rfl rfl ?_
    refine w_goto rfl ?_
    exact w_areturn (x := (some 34)) rfl rfl H
theorem e_Plan_secondRow {P : Option Nat → mm_I → Prop} {I : mm_I} (x1 : Int32)
  (H : (x1 = 0 →
      P (some 28) I) ∧
    (¬ x1 = 0 →
      (¬ x1 = 2 →
        P (some 34) I) ∧
      (x1 = 2 →
        P (some 28) I))) : mm_Mr 15 [.ref 10, .int x1] I P := by
  refine mm_Mr_of ?_
  show mm_W 15 0 [some (.ref 10), some (.int x1)] [] I (mm_qr 15 P)
  refine w_iload_n (n := 1) rfl rfl rfl ?_
  refine w_if_eq (n := 4) rfl rfl ⟨fun hc => ?_, fun hc => ?_⟩
  · replace H := H.1 hc
    refine w_aload_nR (x := 10) (n := 10) rfl rfl rfl ?_
    refine w_getR (b := 28) (n := 13) rfl rfl rfl rfl rfl ?_
    refine w_goto rfl ?_
    exact w_areturn (x := (some 28)) rfl rfl H
  · replace H := H.2 hc
    refine w_iload_n (n := 5) rfl rfl rfl ?_
    refine w_iconst (v := 2) (n := 6) rfl rfl rfl ?_
    refine w_icmp_ne (n := 9) rfl rfl ⟨fun hc => ?_, fun hc => ?_⟩
    · replace H := H.1 hc
      refine w_aload_nR (x := 10) (n := 17) rfl rfl rfl ?_
      refine w_getR (b := 34) (n := 20) rfl rfl rfl rfl rfl ?_
      exact w_areturn (x := (some 34)) rfl rfl H
    · replace H := H.2 hc
      refine w_aload_nR (x := 10) (n := 10) rfl rfl rfl ?_
      refine w_getR (b := 28) (n := 13) rfl rfl rfl rfl rfl ?_
      refine w_goto rfl ?_
      exact w_areturn (x := (some 28)) rfl rfl H
theorem e_Plan_rowBits {P : Int32 → mm_I → Prop} {I : mm_I} (x1 : Int32)
  (H : mm_Mr 14 [.ref 10, .int x1] I (fun r2 I2 =>  -- Plan.firstRow
    ∃ aa2, r2 = some aa2 ∧ (aa2 = 22 ∨ aa2 = 28 ∨ aa2 = 34 ∨ aa2 = 40) ∧
    ((I2 10 5) = 0 →
      P (I2 aa2 4) I2) ∧
    (¬ (I2 10 5) = 0 →
      mm_Mr 15 [.ref 10, .int x1] I2 (fun r19 I19 =>  -- Plan.secondRow
      ∃ aa19, r19 = some aa19 ∧ (aa19 = 22 ∨ aa19 = 28 ∨ aa19 = 34 ∨ aa19 = 40) ∧
      P ((I2 aa2 4) + (I19 aa19 4)) I19)))) : mm_Mi 16 [.ref 10, .int x1] I P := by
  refine mm_Mi_of ?_
  show mm_W 16 0 [some (.ref 10), some (.int x1), none] [] I (mm_qi 16 P)
  refine w_aload_nR (x := 10) (n := 1) rfl rfl rfl ?_
  refine w_iload_n (n := 2) rfl rfl rfl ?_
  refine w_callr (as := [.ref 10, .int x1]) (rest := []) (n := 5) rfl rfl rfl rfl ?_
  obtain ⟨r2, I2, hI2, H⟩ := H
  refine ⟨r2, I2, hI2, ?_⟩
  obtain ⟨aa2, rfl, haa2, H⟩ := H
  rcases haa2 with rfl | rfl | rfl | rfl
  · refine w_getI (n := 8) rfl rfl rfl rfl ?_
    refine w_istore_n (ls' := [some (.ref 10), some (.int x1), some (.int (I2 22 4))]) (n := 9) rfl rfl rfl rfl ?_
    refine w_aload_nR (x := 10) (n := 10) rfl rfl rfl ?_
    refine w_getI (n := 13) rfl rfl rfl rfl ?_
    refine w_if_eq (n := 16) rfl rfl ⟨fun hc => ?_, fun hc => ?_⟩
    · replace H := H.1 hc
      refine w_iload_n (n := 30) rfl rfl rfl ?_
      exact w_ireturn rfl rfl H
    · replace H := H.2 hc
      refine w_iload_n (n := 17) rfl rfl rfl ?_
      refine w_aload_nR (x := 10) (n := 18) rfl rfl rfl ?_
      refine w_iload_n (n := 19) rfl rfl rfl ?_
      refine w_callr (as := [.ref 10, .int x1]) (rest := [.int (I2 22 4)]) (n := 22) rfl rfl rfl rfl ?_
      obtain ⟨r19, I19, hI19, H⟩ := H
      refine ⟨r19, I19, hI19, ?_⟩
      obtain ⟨aa19, rfl, haa19, H⟩ := H
      rcases haa19 with rfl | rfl | rfl | rfl
      · refine w_getI (n := 25) rfl rfl rfl rfl ?_
        refine w_iadd (n := 26) rfl rfl ?_
        refine w_goto rfl ?_
        exact w_ireturn rfl rfl H
      · refine w_getI (n := 25) rfl rfl rfl rfl ?_
        refine w_iadd (n := 26) rfl rfl ?_
        refine w_goto rfl ?_
        exact w_ireturn rfl rfl H
      · refine w_getI (n := 25) rfl rfl rfl rfl ?_
        refine w_iadd (n := 26) rfl rfl ?_
        refine w_goto rfl ?_
        exact w_ireturn rfl rfl H
      · refine w_getI (n := 25) rfl rfl rfl rfl ?_
        refine w_iadd (n := 26) rfl rfl ?_
        refine w_goto rfl ?_
        exact w_ireturn rfl rfl H
  · refine w_getI (n := 8) rfl rfl rfl rfl ?_
    refine w_istore_n (ls' := [some (.ref 10), some (.int x1), some (.int (I2 28 4))]) (n := 9) rfl rfl rfl rfl ?_
    refine w_aload_nR (x := 10) (n := 10) rfl rfl rfl ?_
    refine w_getI (n := 13) rfl rfl rfl rfl ?_
    refine w_if_eq (n := 16) rfl rfl ⟨fun hc => ?_, fun hc => ?_⟩
    · replace H := H.1 hc
      refine w_iload_n (n := 30) rfl rfl rfl ?_
      exact w_ireturn rfl rfl H
    · replace H := H.2 hc
      refine w_iload_n (n := 17) rfl rfl rfl ?_
      refine w_aload_nR (x := 10) (n := 18) rfl rfl rfl ?_
      refine w_iload_n (n := 19) rfl rfl rfl ?_
      refine w_callr (as := [.ref 10, .int x1]) (rest := [.int (I2 28 4)]) (n := 22) rfl rfl rfl rfl ?_
      obtain ⟨r19, I19, hI19, H⟩ := H
      refine ⟨r19, I19, hI19, ?_⟩
      obtain ⟨aa19, rfl, haa19, H⟩ := H
      rcases haa19 with rfl | rfl | rfl | rfl
      · refine w_getI (n := 25) rfl rfl rfl rfl ?_
        refine w_iadd (n := 26) rfl rfl ?_
        refine w_goto rfl ?_
        exact w_ireturn rfl rfl H
      · refine w_getI (n := 25) rfl rfl rfl rfl ?_
        refine w_iadd (n := 26) rfl rfl ?_
        refine w_goto rfl ?_
        exact w_ireturn rfl rfl H
      · refine w_getI (n := 25) rfl rfl rfl rfl ?_
        refine w_iadd (n := 26) rfl rfl ?_
        refine w_goto rfl ?_
        exact w_ireturn rfl rfl H
      · refine w_getI (n := 25) rfl rfl rfl rfl ?_
        refine w_iadd (n := 26) rfl rfl ?_
        refine w_goto rfl ?_
        exact w_ireturn rfl rfl H
  · refine w_getI (n := 8) rfl rfl rfl rfl ?_
    refine w_istore_n (ls' := [some (.ref 10), some (.int x1), some (.int (I2 34 4))]) (n := 9) rfl rfl rfl rfl ?_
    refine w_aload_nR (x := 10) (n := 10) rfl rfl rfl ?_
    refine w_getI (n := 13) rfl rfl rfl rfl ?_
    refine w_if_eq (n := 16) rfl rfl ⟨fun hc => ?_, fun hc => ?_⟩
    · replace H := H.1 hc
      refine w_iload_n (n := 30) rfl rfl rfl ?_
      exact w_ireturn rfl rfl H
    · replace H := H.2 hc
      refine w_iload_n (n := 17) rfl rfl rfl ?_
      refine w_aload_nR (x := 10) (n := 18) rfl rfl rfl ?_
      refine w_iload_n (n := 19) rfl rfl rfl ?_
      refine w_callr (as := [.ref 10, .int x1]) (rest := [.int (I2 34 4)]) (n := 22) rfl rfl rfl rfl ?_
      obtain ⟨r19, I19, hI19, H⟩ := H
      refine ⟨r19, I19, hI19, ?_⟩
      obtain ⟨aa19, rfl, haa19, H⟩ := H
      rcases haa19 with rfl | rfl | rfl | rfl
      · refine w_getI (n := 25) rfl rfl rfl rfl ?_
        refine w_iadd (n := 26) rfl rfl ?_
        refine w_goto rfl ?_
        exact w_ireturn rfl rfl H
      · refine w_getI (n := 25) rfl rfl rfl rfl ?_
        refine w_iadd (n := 26) rfl rfl ?_
        refine w_goto rfl ?_
        exact w_ireturn rfl rfl H
      · refine w_getI (n := 25) rfl rfl rfl rfl ?_
        refine w_iadd (n := 26) rfl rfl ?_
        refine w_goto rfl ?_
        exact w_ireturn rfl rfl H
      · refine w_getI (n := 25) rfl rfl rfl rfl ?_
        refine w_iadd (n := 26) rfl rfl ?_
        refine w_goto rfl ?_
        exact w_ireturn rfl rfl H
  · refine w_getI (n := 8) rfl rfl rfl rfl ?_
    refine w_istore_n (ls' := [some (.ref 10), some (.int x1), some (.int (I2 40 4))]) (n := 9) rfl rfl rfl rfl ?_
    refine w_aload_nR (x := 10) (n := 10) rfl rfl rfl ?_
    refine w_getI (n := 13) rfl rfl rfl rfl ?_
    refine w_if_eq (n := 16) rfl rfl ⟨fun hc => ?_, fun hc => ?_⟩
    · replace H := H.1 hc
      refine w_iload_n (n := 30) rfl rfl rfl ?_
      exact w_ireturn rfl rfl H
    · replace H := H.2 hc
      refine w_iload_n (n := 17) rfl rfl rfl ?_
      refine w_aload_nR (x := 10) (n := 18) rfl rfl rfl ?_
      refine w_iload_n (n := 19) rfl rfl rfl ?_
      refine w_callr (as := [.ref 10, .int x1]) (rest := [.int (I2 40 4)]) (n := 22) rfl rfl rfl rfl ?_
      obtain ⟨r19, I19, hI19, H⟩ := H
      refine ⟨r19, I19, hI19, ?_⟩
      obtain ⟨aa19, rfl, haa19, H⟩ := H
      rcases haa19 with rfl | rfl | rfl | rfl
      · refine w_getI (n := 25) rfl rfl rfl rfl ?_
        refine w_iadd (n := 26) rfl rfl ?_
        refine w_goto rfl ?_
        exact w_ireturn rfl rfl H
      · refine w_getI (n := 25) rfl rfl rfl rfl ?_
        refine w_iadd (n := 26) rfl rfl ?_
        refine w_goto rfl ?_
        exact w_ireturn rfl rfl H
      · refine w_getI (n := 25) rfl rfl rfl rfl ?_
        refine w_iadd (n := 26) rfl rfl ?_
        refine w_goto rfl ?_
        exact w_ireturn rfl rfl H
      · refine w_getI (n := 25) rfl rfl rfl rfl ?_
        refine w_iadd (n := 26) rfl rfl ?_
        refine w_goto rfl ?_
        exact w_ireturn rfl rfl H
theorem e_Plan_allBits {P : Int32 → mm_I → Prop} {I : mm_I}
  (H : ((I 10 5) = 0 →
      mm_Mi 16 [.ref 10, .int (I 10 6)] I (fun r25 I25 =>  -- Plan.rowBits
      P r25 I25)) ∧
    (¬ (I 10 5) = 0 →
      mm_Mi 16 [.ref 10, .int (I 10 6)] I (fun r13 I13 =>  -- Plan.rowBits
      P (2 + r13) I13))) : mm_Mi 17 [.ref 10] I P := by
  refine mm_Mi_of ?_
  show mm_W 17 0 [some (.ref 10)] [] I (mm_qi 17 P)
  refine w_aload_nR (x := 10) (n := 1) rfl rfl rfl ?_
  refine w_getI (n := 4) rfl rfl rfl rfl ?_
  refine w_if_eq (n := 7) rfl rfl ⟨fun hc => ?_, fun hc => ?_⟩
  · replace H := H.1 hc
    refine w_aload_nR (x := 10) (n := 21) rfl rfl rfl ?_
    refine w_aload_nR (x := 10) (n := 22) rfl rfl rfl ?_
    refine w_getI (n := 25) rfl rfl rfl rfl ?_
    refine w_calli (as := [.ref 10, .int (I 10 6)]) (rest := []) (n := 28) rfl rfl rfl rfl ?_
    obtain ⟨r25, I25, hI25, H⟩ := H
    refine ⟨r25, I25, hI25, ?_⟩
    exact w_ireturn rfl rfl H
  · replace H := H.2 hc
    refine w_iconst (v := 2) (n := 8) rfl rfl rfl ?_
    refine w_aload_nR (x := 10) (n := 9) rfl rfl rfl ?_
    refine w_aload_nR (x := 10) (n := 10) rfl rfl rfl ?_
    refine w_getI (n := 13) rfl rfl rfl rfl ?_
    refine w_calli (as := [.ref 10, .int (I 10 6)]) (rest := [.int 2]) (n := 16) rfl rfl rfl rfl ?_
    obtain ⟨r13, I13, hI13, H⟩ := H
    refine ⟨r13, I13, hI13, ?_⟩
    refine w_iadd (n := 17) rfl rfl ?_
    refine w_goto rfl ?_
    exact w_ireturn rfl rfl H
theorem e_Pred_forget {P : mm_I → Prop} {I : mm_I} {dd : Nat} (hs0 : dd = 6 ∨ dd = 49)
  (H : mm_W 19 2 [some (.ref dd), some (.int 5)] [] I (mm_qv 19 P)) : mm_Mv 19 [.ref dd] I P := by
  rcases hs0 with rfl | rfl
  · refine mm_Mv_of ?_
    show mm_W 19 0 [some (.ref 6), none] [] I (mm_qv 19 P)
    refine w_iconst (v := 5) (n := 1) rfl rfl rfl ?_
    refine w_istore_n (ls' := [some (.ref 6), some (.int 5)]) (n := 2) rfl rfl rfl rfl ?_
    exact w_drp mm_Qf_v H (lb_s (lb_s lb_e))
  · refine mm_Mv_of ?_
    show mm_W 19 0 [some (.ref 49), none] [] I (mm_qv 19 P)
    refine w_iconst (v := 5) (n := 1) rfl rfl rfl ?_
    refine w_istore_n (ls' := [some (.ref 49), some (.int 5)]) (n := 2) rfl rfl rfl rfl ?_
    exact w_drp mm_Qf_v H (lb_s (lb_s lb_e))
theorem c_Pred_forget_2 {P : mm_I → Prop} {I : mm_I} {dd : Nat} (hs0 : dd = 6 ∨ dd = 49) (x1 : Int32)
  (H : (8 ≤ x1 →
      P I) ∧
    (x1 < 8 →
      mm_Mv 20 [.ref dd, .int x1, .int 0, .int 0, .int 0, .int 0] I (fun I14 =>  -- Pred.tell
      mm_W 19 2 [some (.ref dd), some (.int (x1 + 1))] [] I14 (mm_qv 19 P)))) : mm_W 19 2 [some (.ref dd), some (.int x1)] [] I (mm_qv 19 P) := by
  rcases hs0 with rfl | rfl
  · refine w_iload_n (n := 3) rfl rfl rfl ?_
    refine w_bipush (v := 8) (n := 5) rfl rfl rfl ?_
    refine w_icmp_ge (n := 8) rfl rfl ⟨fun hc => ?_, fun hc => ?_⟩
    · replace H := H.1 hc
      exact w_vreturn rfl rfl H
    · replace H := H.2 hc
      refine w_aload_nR (x := 6) (n := 9) rfl rfl rfl ?_
      refine w_iload_n (n := 10) rfl rfl rfl ?_
      refine w_iconst (v := 0) (n := 11) rfl rfl rfl ?_
      refine w_iconst (v := 0) (n := 12) rfl rfl rfl ?_
      refine w_iconst (v := 0) (n := 13) rfl rfl rfl ?_
      refine w_iconst (v := 0) (n := 14) rfl rfl rfl ?_
      refine w_callv (as := [.ref 6, .int x1, .int 0, .int 0, .int 0, .int 0]) (rest := []) (n := 17) rfl rfl rfl rfl ?_
      obtain ⟨I14, hI14, H⟩ := H
      refine ⟨I14, hI14, ?_⟩
      refine w_iinc (y := x1 + 1) (ls' := [some (.ref 6), some (.int (x1 + 1))]) (n := 20) rfl rfl rfl rfl rfl ?_
      refine w_goto rfl ?_
      exact w_drp mm_Qf_v H (lb_s (lb_s lb_e))
  · refine w_iload_n (n := 3) rfl rfl rfl ?_
    refine w_bipush (v := 8) (n := 5) rfl rfl rfl ?_
    refine w_icmp_ge (n := 8) rfl rfl ⟨fun hc => ?_, fun hc => ?_⟩
    · replace H := H.1 hc
      exact w_vreturn rfl rfl H
    · replace H := H.2 hc
      refine w_aload_nR (x := 49) (n := 9) rfl rfl rfl ?_
      refine w_iload_n (n := 10) rfl rfl rfl ?_
      refine w_iconst (v := 0) (n := 11) rfl rfl rfl ?_
      refine w_iconst (v := 0) (n := 12) rfl rfl rfl ?_
      refine w_iconst (v := 0) (n := 13) rfl rfl rfl ?_
      refine w_iconst (v := 0) (n := 14) rfl rfl rfl ?_
      refine w_callv (as := [.ref 49, .int x1, .int 0, .int 0, .int 0, .int 0]) (rest := []) (n := 17) rfl rfl rfl rfl ?_
      obtain ⟨I14, hI14, H⟩ := H
      refine ⟨I14, hI14, ?_⟩
      refine w_iinc (y := x1 + 1) (ls' := [some (.ref 49), some (.int (x1 + 1))]) (n := 20) rfl rfl rfl rfl rfl ?_
      refine w_goto rfl ?_
      exact w_drp mm_Qf_v H (lb_s (lb_s lb_e))
