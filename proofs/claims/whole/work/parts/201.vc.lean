theorem e_Pred_tell {P : mm_I → Prop} {I : mm_I} {dd : Nat} (hs0 : dd = 6 ∨ dd = 49) (x1 : Int32) (x2 : Int32) (x3 : Int32) (x4 : Int32) (x5 : Int32)
  (H : (x1 < 5 →
      P I) ∧
    (5 ≤ x1 →
      (x1 < 8 →
        vp_in (x1 * 4) 32 ∧
        vp_in ((x1 * 4) + 1) 32 ∧
        vp_in ((x1 * 4) + 2) 32 ∧
        vp_in x1 8 ∧
        vp_in x1 8 ∧
        P (mm_up (mm_up (mm_up (mm_up (mm_up I (dd + 1) ((x1 * 4).toNatClampNeg) x2) (dd + 1) (((x1 * 4) + 1).toNatClampNeg) x3) (dd + 1) (((x1 * 4) + 2).toNatClampNeg) x4) (dd + 3) x1.toNatClampNeg x5) (dd + 2) x1.toNatClampNeg (if x4 = 0 then ((if x3 = 0 then ((if x2 = 0 then (0 : Int32) else 1) : Int32) else 2) : Int32) else 3))) ∧
      (8 ≤ x1 →
        P I))) : mm_Mv 20 [.ref dd, .int x1, .int x2, .int x3, .int x4, .int x5] I P := by
  rcases hs0 with rfl | rfl
  · refine mm_Mv_of ?_
    show mm_W 20 0 [some (.ref 6), some (.int x1), some (.int x2), some (.int x3), some (.int x4), some (.int x5)] [] I (mm_qv 20 P)
    refine w_iload_n (n := 1) rfl rfl rfl ?_
    refine w_iconst (v := 5) (n := 2) rfl rfl rfl ?_
    refine w_icmp_lt (n := 5) rfl rfl ⟨fun hc => ?_, fun hc => ?_⟩
    · replace H := H.1 hc
      exact w_vreturn rfl rfl H
    · replace H := H.2 hc
      refine w_iload_n (n := 6) rfl rfl rfl ?_
      refine w_bipush (v := 8) (n := 8) rfl rfl rfl ?_
      refine w_icmp_lt (n := 11) rfl rfl ⟨fun hc => ?_, fun hc => ?_⟩
      · replace H := H.1 hc
        refine w_aload_nR (x := 6) (n := 13) rfl rfl rfl ?_
        refine w_getR (b := 7) (n := 16) rfl rfl rfl rfl rfl ?_
        refine w_iload_n (n := 17) rfl rfl rfl ?_
        refine w_iconst (v := 4) (n := 18) rfl rfl rfl ?_
        refine w_imul (n := 19) rfl rfl ?_
        refine w_iload_n (n := 20) rfl rfl rfl ?_
        refine w_iastore (N := 32) (j := (x1 * 4).toNatClampNeg) (n := 21) rfl rfl rfl rfl rfl ⟨H.1, ?_⟩
        replace H := H.2
        refine w_aload_nR (x := 6) (n := 22) rfl rfl rfl ?_
        refine w_getR (b := 7) (n := 25) rfl rfl rfl rfl rfl ?_
        refine w_iload_n (n := 26) rfl rfl rfl ?_
        refine w_iconst (v := 4) (n := 27) rfl rfl rfl ?_
        refine w_imul (n := 28) rfl rfl ?_
        refine w_iconst (v := 1) (n := 29) rfl rfl rfl ?_
        refine w_iadd (n := 30) rfl rfl ?_
        refine w_iload_n (n := 31) rfl rfl rfl ?_
        refine w_iastore (N := 32) (j := ((x1 * 4) + 1).toNatClampNeg) (n := 32) rfl rfl rfl rfl rfl ⟨H.1, ?_⟩
        replace H := H.2
        refine w_aload_nR (x := 6) (n := 33) rfl rfl rfl ?_
        refine w_getR (b := 7) (n := 36) rfl rfl rfl rfl rfl ?_
        refine w_iload_n (n := 37) rfl rfl rfl ?_
        refine w_iconst (v := 4) (n := 38) rfl rfl rfl ?_
        refine w_imul (n := 39) rfl rfl ?_
        refine w_iconst (v := 2) (n := 40) rfl rfl rfl ?_
        refine w_iadd (n := 41) rfl rfl ?_
        refine w_iload (n := 43) rfl rfl rfl ?_
        refine w_iastore (N := 32) (j := ((x1 * 4) + 2).toNatClampNeg) (n := 44) rfl rfl rfl rfl rfl ⟨H.1, ?_⟩
        replace H := H.2
        refine w_aload_nR (x := 6) (n := 45) rfl rfl rfl ?_
        refine w_getR (b := 9) (n := 48) rfl rfl rfl rfl rfl ?_
        refine w_iload_n (n := 49) rfl rfl rfl ?_
        refine w_iload (n := 51) rfl rfl rfl ?_
        refine w_iastore (N := 8) (j := x1.toNatClampNeg) (n := 52) rfl rfl rfl rfl rfl ⟨H.1, ?_⟩
        replace H := H.2
        refine w_aload_nR (x := 6) (n := 53) rfl rfl rfl ?_
        refine w_getR (b := 8) (n := 56) rfl rfl rfl rfl rfl ?_
        refine w_iload_n (n := 57) rfl rfl rfl ?_
        refine w_iload (n := 59) rfl rfl rfl ?_
        have J59 : ∀ (w59_2 : Int32), w59_2 = (if x4 = 0 then ((if x3 = 0 then ((if x2 = 0 then (0 : Int32) else 1) : Int32) else 2) : Int32) else 3) → mm_W 20 83 [some (.ref 6), some (.int x1), some (.int x2), some (.int x3), some (.int x4), some (.int x5)] [.int w59_2, .int x1, .ref 8] (mm_up (mm_up (mm_up (mm_up I 7 ((x1 * 4).toNatClampNeg) x2) 7 (((x1 * 4) + 1).toNatClampNeg) x3) 7 (((x1 * 4) + 2).toNatClampNeg) x4) 9 x1.toNatClampNeg x5) (mm_qv 20 P) := by
          intro w59_2 e59_0
          subst e59_0
          refine w_iastore (N := 8) (j := x1.toNatClampNeg) (n := 84) rfl rfl rfl rfl rfl ⟨H.1, ?_⟩
          replace H := H.2
          exact w_vreturn rfl rfl H
        refine w_if_eq (n := 62) rfl rfl ⟨fun hc => ?_, fun hc => ?_⟩
        · refine w_iload_n (n := 67) rfl rfl rfl ?_
          have J67 : ∀ (w67_2 : Int32), w67_2 = (if x3 = 0 then ((if x2 = 0 then (0 : Int32) else 1) : Int32) else 2) → mm_W 20 83 [some (.ref 6), some (.int x1), some (.int x2), some (.int x3), some (.int x4), some (.int x5)] [.int w67_2, .int x1, .ref 8] (mm_up (mm_up (mm_up (mm_up I 7 ((x1 * 4).toNatClampNeg) x2) 7 (((x1 * 4) + 1).toNatClampNeg) x3) 7 (((x1 * 4) + 2).toNatClampNeg) x4) 9 x1.toNatClampNeg x5) (mm_qv 20 P) := by
            intro w67_2 e67_0
            subst e67_0
            refine w_drp mm_Qf_v (J59 _ ?_) (lb_s (lb_s (lb_s (lb_s (lb_s (lb_s lb_e))))))
            · exact (if_pos hc).symm
          refine w_if_eq (n := 70) rfl rfl ⟨fun hc => ?_, fun hc => ?_⟩
          · refine w_iload_n (n := 75) rfl rfl rfl ?_
            have J75 : ∀ (w75_2 : Int32), w75_2 = (if x2 = 0 then (0 : Int32) else 1) → mm_W 20 83 [some (.ref 6), some (.int x1), some (.int x2), some (.int x3), some (.int x4), some (.int x5)] [.int w75_2, .int x1, .ref 8] (mm_up (mm_up (mm_up (mm_up I 7 ((x1 * 4).toNatClampNeg) x2) 7 (((x1 * 4) + 1).toNatClampNeg) x3) 7 (((x1 * 4) + 2).toNatClampNeg) x4) 9 x1.toNatClampNeg x5) (mm_qv 20 P) := by
              intro w75_2 e75_0
              subst e75_0
              refine w_drp mm_Qf_v (J67 _ ?_) (lb_s (lb_s (lb_s (lb_s (lb_s (lb_s lb_e))))))
              · exact (if_pos hc).symm
            refine w_if_eq (n := 78) rfl rfl ⟨fun hc => ?_, fun hc => ?_⟩
            · refine w_iconst (v := 0) (n := 83) rfl rfl rfl ?_
              refine w_drp mm_Qf_v (J75 _ ?_) (lb_s (lb_s (lb_s (lb_s (lb_s (lb_s lb_e))))))
              · exact (if_pos hc).symm
            · refine w_iconst (v := 1) (n := 79) rfl rfl rfl ?_
              refine w_goto rfl ?_
              refine w_drp mm_Qf_v (J75 _ ?_) (lb_s (lb_s (lb_s (lb_s (lb_s (lb_s lb_e))))))
              · exact (if_neg hc).symm
          · refine w_iconst (v := 2) (n := 71) rfl rfl rfl ?_
            refine w_goto rfl ?_
            refine w_drp mm_Qf_v (J67 _ ?_) (lb_s (lb_s (lb_s (lb_s (lb_s (lb_s lb_e))))))
            · exact (if_neg hc).symm
        · refine w_iconst (v := 3) (n := 63) rfl rfl rfl ?_
          refine w_goto rfl ?_
          refine w_drp mm_Qf_v (J59 _ ?_) (lb_s (lb_s (lb_s (lb_s (lb_s (lb_s lb_e))))))
          · exact (if_neg hc).symm
      · replace H := H.2 hc
        exact w_vreturn rfl rfl H
  · refine mm_Mv_of ?_
    show mm_W 20 0 [some (.ref 49), some (.int x1), some (.int x2), some (.int x3), some (.int x4), some (.int x5)] [] I (mm_qv 20 P)
    refine w_iload_n (n := 1) rfl rfl rfl ?_
    refine w_iconst (v := 5) (n := 2) rfl rfl rfl ?_
    refine w_icmp_lt (n := 5) rfl rfl ⟨fun hc => ?_, fun hc => ?_⟩
    · replace H := H.1 hc
      exact w_vreturn rfl rfl H
    · replace H := H.2 hc
      refine w_iload_n (n := 6) rfl rfl rfl ?_
      refine w_bipush (v := 8) (n := 8) rfl rfl rfl ?_
      refine w_icmp_lt (n := 11) rfl rfl ⟨fun hc => ?_, fun hc => ?_⟩
      · replace H := H.1 hc
        refine w_aload_nR (x := 49) (n := 13) rfl rfl rfl ?_
        refine w_getR (b := 50) (n := 16) rfl rfl rfl rfl rfl ?_
        refine w_iload_n (n := 17) rfl rfl rfl ?_
        refine w_iconst (v := 4) (n := 18) rfl rfl rfl ?_
        refine w_imul (n := 19) rfl rfl ?_
        refine w_iload_n (n := 20) rfl rfl rfl ?_
        refine w_iastore (N := 32) (j := (x1 * 4).toNatClampNeg) (n := 21) rfl rfl rfl rfl rfl ⟨H.1, ?_⟩
        replace H := H.2
        refine w_aload_nR (x := 49) (n := 22) rfl rfl rfl ?_
        refine w_getR (b := 50) (n := 25) rfl rfl rfl rfl rfl ?_
        refine w_iload_n (n := 26) rfl rfl rfl ?_
        refine w_iconst (v := 4) (n := 27) rfl rfl rfl ?_
        refine w_imul (n := 28) rfl rfl ?_
        refine w_iconst (v := 1) (n := 29) rfl rfl rfl ?_
        refine w_iadd (n := 30) rfl rfl ?_
        refine w_iload_n (n := 31) rfl rfl rfl ?_
        refine w_iastore (N := 32) (j := ((x1 * 4) + 1).toNatClampNeg) (n := 32) rfl rfl rfl rfl rfl ⟨H.1, ?_⟩
        replace H := H.2
        refine w_aload_nR (x := 49) (n := 33) rfl rfl rfl ?_
        refine w_getR (b := 50) (n := 36) rfl rfl rfl rfl rfl ?_
        refine w_iload_n (n := 37) rfl rfl rfl ?_
        refine w_iconst (v := 4) (n := 38) rfl rfl rfl ?_
        refine w_imul (n := 39) rfl rfl ?_
        refine w_iconst (v := 2) (n := 40) rfl rfl rfl ?_
        refine w_iadd (n := 41) rfl rfl ?_
        refine w_iload (n := 43) rfl rfl rfl ?_
        refine w_iastore (N := 32) (j := ((x1 * 4) + 2).toNatClampNeg) (n := 44) rfl rfl rfl rfl rfl ⟨H.1, ?_⟩
        replace H := H.2
        refine w_aload_nR (x := 49) (n := 45) rfl rfl rfl ?_
        refine w_getR (b := 52) (n := 48) rfl rfl rfl rfl rfl ?_
        refine w_iload_n (n := 49) rfl rfl rfl ?_
        refine w_iload (n := 51) rfl rfl rfl ?_
        refine w_iastore (N := 8) (j := x1.toNatClampNeg) (n := 52) rfl rfl rfl rfl rfl ⟨H.1, ?_⟩
        replace H := H.2
        refine w_aload_nR (x := 49) (n := 53) rfl rfl rfl ?_
        refine w_getR (b := 51) (n := 56) rfl rfl rfl rfl rfl ?_
        refine w_iload_n (n := 57) rfl rfl rfl ?_
        refine w_iload (n := 59) rfl rfl rfl ?_
        have J59 : ∀ (w59_2 : Int32), w59_2 = (if x4 = 0 then ((if x3 = 0 then ((if x2 = 0 then (0 : Int32) else 1) : Int32) else 2) : Int32) else 3) → mm_W 20 83 [some (.ref 49), some (.int x1), some (.int x2), some (.int x3), some (.int x4), some (.int x5)] [.int w59_2, .int x1, .ref 51] (mm_up (mm_up (mm_up (mm_up I 50 ((x1 * 4).toNatClampNeg) x2) 50 (((x1 * 4) + 1).toNatClampNeg) x3) 50 (((x1 * 4) + 2).toNatClampNeg) x4) 52 x1.toNatClampNeg x5) (mm_qv 20 P) := by
          intro w59_2 e59_0
          subst e59_0
          refine w_iastore (N := 8) (j := x1.toNatClampNeg) (n := 84) rfl rfl rfl rfl rfl ⟨H.1, ?_⟩
          replace H := H.2
          exact w_vreturn rfl rfl H
        refine w_if_eq (n := 62) rfl rfl ⟨fun hc => ?_, fun hc => ?_⟩
        · refine w_iload_n (n := 67) rfl rfl rfl ?_
          have J67 : ∀ (w67_2 : Int32), w67_2 = (if x3 = 0 then ((if x2 = 0 then (0 : Int32) else 1) : Int32) else 2) → mm_W 20 83 [some (.ref 49), some (.int x1), some (.int x2), some (.int x3), some (.int x4), some (.int x5)] [.int w67_2, .int x1, .ref 51] (mm_up (mm_up (mm_up (mm_up I 50 ((x1 * 4).toNatClampNeg) x2) 50 (((x1 * 4) + 1).toNatClampNeg) x3) 50 (((x1 * 4) + 2).toNatClampNeg) x4) 52 x1.toNatClampNeg x5) (mm_qv 20 P) := by
            intro w67_2 e67_0
            subst e67_0
            refine w_drp mm_Qf_v (J59 _ ?_) (lb_s (lb_s (lb_s (lb_s (lb_s (lb_s lb_e))))))
            · exact (if_pos hc).symm
          refine w_if_eq (n := 70) rfl rfl ⟨fun hc => ?_, fun hc => ?_⟩
          · refine w_iload_n (n := 75) rfl rfl rfl ?_
            have J75 : ∀ (w75_2 : Int32), w75_2 = (if x2 = 0 then (0 : Int32) else 1) → mm_W 20 83 [some (.ref 49), some (.int x1), some (.int x2), some (.int x3), some (.int x4), some (.int x5)] [.int w75_2, .int x1, .ref 51] (mm_up (mm_up (mm_up (mm_up I 50 ((x1 * 4).toNatClampNeg) x2) 50 (((x1 * 4) + 1).toNatClampNeg) x3) 50 (((x1 * 4) + 2).toNatClampNeg) x4) 52 x1.toNatClampNeg x5) (mm_qv 20 P) := by
              intro w75_2 e75_0
              subst e75_0
              refine w_drp mm_Qf_v (J67 _ ?_) (lb_s (lb_s (lb_s (lb_s (lb_s (lb_s lb_e))))))
              · exact (if_pos hc).symm
            refine w_if_eq (n := 78) rfl rfl ⟨fun hc => ?_, fun hc => ?_⟩
            · refine w_iconst (v := 0) (n := 83) rfl rfl rfl ?_
              refine w_drp mm_Qf_v (J75 _ ?_) (lb_s (lb_s (lb_s (lb_s (lb_s (lb_s lb_e))))))
              · exact (if_pos hc).symm
            · refine w_iconst (v := 1) (n := 79) rfl rfl rfl ?_
              refine w_goto rfl ?_
              refine w_drp mm_Qf_v (J75 _ ?_) (lb_s (lb_s (lb_s (lb_s (lb_s (lb_s lb_e))))))
              · exact (if_neg hc).symm
          · refine w_iconst (v := 2) (n := 71) rfl rfl rfl ?_
            refine w_goto rfl ?_
            refine w_drp mm_Qf_v (J67 _ ?_) (lb_s (lb_s (lb_s (lb_s (lb_s (lb_s lb_e))))))
            · exact (if_neg hc).symm
        · refine w_iconst (v := 3) (n := 63) rfl rfl rfl ?_
          refine w_goto rfl ?_
          refine w_drp mm_Qf_v (J59 _ ?_) (lb_s (lb_s (lb_s (lb_s (lb_s (lb_s lb_e))))))
          · exact (if_neg hc).symm
      · replace H := H.2 hc
        exact w_vreturn rfl rfl H
theorem e_Pred_weightAt {P : Int32 → mm_I → Prop} {I : mm_I} {dd : Nat} (hs0 : dd = 6 ∨ dd = 49) (x1 : Int32) (x2 : Int32)
  (H : vp_in ((x1 * 4) + x2) 32 ∧
    P (I (dd + 1) (((x1 * 4) + x2).toNatClampNeg)) I) : mm_Mi 21 [.ref dd, .int x1, .int x2] I P := by
  rcases hs0 with rfl | rfl
  · refine mm_Mi_of ?_
    show mm_W 21 0 [some (.ref 6), some (.int x1), some (.int x2)] [] I (mm_qi 21 P)
    refine w_aload_nR (x := 6) (n := 1) rfl rfl rfl ?_
    refine w_getR (b := 7) (n := 4) rfl rfl rfl rfl rfl ?_
    refine w_iload_n (n := 5) rfl rfl rfl ?_
    refine w_iconst (v := 4) (n := 6) rfl rfl rfl ?_
    refine w_imul (n := 7) rfl rfl ?_
    refine w_iload_n (n := 8) rfl rfl rfl ?_
    refine w_iadd (n := 9) rfl rfl ?_
    refine w_iaload (N := 32) (j := ((x1 * 4) + x2).toNatClampNeg) (n := 10) rfl rfl rfl rfl rfl rfl ⟨H.1, ?_⟩
    replace H := H.2
    exact w_ireturn rfl rfl H
  · refine mm_Mi_of ?_
    show mm_W 21 0 [some (.ref 49), some (.int x1), some (.int x2)] [] I (mm_qi 21 P)
    refine w_aload_nR (x := 49) (n := 1) rfl rfl rfl ?_
    refine w_getR (b := 50) (n := 4) rfl rfl rfl rfl rfl ?_
    refine w_iload_n (n := 5) rfl rfl rfl ?_
    refine w_iconst (v := 4) (n := 6) rfl rfl rfl ?_
    refine w_imul (n := 7) rfl rfl ?_
    refine w_iload_n (n := 8) rfl rfl rfl ?_
    refine w_iadd (n := 9) rfl rfl ?_
    refine w_iaload (N := 32) (j := ((x1 * 4) + x2).toNatClampNeg) (n := 10) rfl rfl rfl rfl rfl rfl ⟨H.1, ?_⟩
    replace H := H.2
    exact w_ireturn rfl rfl H
theorem e_Pred_guess {P : Int32 → mm_I → Prop} {I : mm_I} {dd vv : Nat} (hs0 : (dd = 6 ∧ vv = 23) ∨ (dd = 6 ∧ vv = 29) ∨ (dd = 6 ∧ vv = 35) ∨ (dd = 6 ∧ vv = 41) ∨ (dd = 49 ∧ vv = 53) ∨ (dd = 49 ∧ vv = 54)) (x1 : Int32) (x3 : Int32)
  (H : vp_in x1 8 ∧
    mm_W 22 14 [some (.ref dd), some (.int x1), some (.ref vv), some (.int x3), some (.int 0), some (.int (I (dd + 2) x1.toNatClampNeg)), some (.int 1)] [] I (mm_qi 22 P)) : mm_Mi 22 [.ref dd, .int x1, .ref vv, .int x3] I P := by
  rcases hs0 with ⟨rfl, rfl⟩ | ⟨rfl, rfl⟩ | ⟨rfl, rfl⟩ | ⟨rfl, rfl⟩ | ⟨rfl, rfl⟩ | ⟨rfl, rfl⟩
  · refine mm_Mi_of ?_
    show mm_W 22 0 [some (.ref 6), some (.int x1), some (.ref 23), some (.int x3), none, none, none] [] I (mm_qi 22 P)
    refine w_iconst (v := 0) (n := 1) rfl rfl rfl ?_
    refine w_istore (ls' := [some (.ref 6), some (.int x1), some (.ref 23), some (.int x3), some (.int 0), none, none]) (n := 3) rfl rfl rfl rfl ?_
    refine w_aload_nR (x := 6) (n := 4) rfl rfl rfl ?_
    refine w_getR (b := 8) (n := 7) rfl rfl rfl rfl rfl ?_
    refine w_iload_n (n := 8) rfl rfl rfl ?_
    refine w_iaload (N := 8) (j := x1.toNatClampNeg) (n := 9) rfl rfl rfl rfl rfl rfl ⟨H.1, ?_⟩
    replace H := H.2
    refine w_istore (ls' := [some (.ref 6), some (.int x1), some (.ref 23), some (.int x3), some (.int 0), some (.int (I 8 x1.toNatClampNeg)), none]) (n := 11) rfl rfl rfl rfl ?_
    refine w_iconst (v := 1) (n := 12) rfl rfl rfl ?_
    refine w_istore (ls' := [some (.ref 6), some (.int x1), some (.ref 23), some (.int x3), some (.int 0), some (.int (I 8 x1.toNatClampNeg)), some (.int 1)]) (n := 14) rfl rfl rfl rfl ?_
    exact w_drp mm_Qf_i H (lb_s (lb_s (lb_s (lb_s (lb_s (lb_s (lb_s lb_e)))))))
  · refine mm_Mi_of ?_
    show mm_W 22 0 [some (.ref 6), some (.int x1), some (.ref 29), some (.int x3), none, none, none] [] I (mm_qi 22 P)
    refine w_iconst (v := 0) (n := 1) rfl rfl rfl ?_
    refine w_istore (ls' := [some (.ref 6), some (.int x1), some (.ref 29), some (.int x3), some (.int 0), none, none]) (n := 3) rfl rfl rfl rfl ?_
    refine w_aload_nR (x := 6) (n := 4) rfl rfl rfl ?_
    refine w_getR (b := 8) (n := 7) rfl rfl rfl rfl rfl ?_
    refine w_iload_n (n := 8) rfl rfl rfl ?_
    refine w_iaload (N := 8) (j := x1.toNatClampNeg) (n := 9) rfl rfl rfl rfl rfl rfl ⟨H.1, ?_⟩
    replace H := H.2
    refine w_istore (ls' := [some (.ref 6), some (.int x1), some (.ref 29), some (.int x3), some (.int 0), some (.int (I 8 x1.toNatClampNeg)), none]) (n := 11) rfl rfl rfl rfl ?_
    refine w_iconst (v := 1) (n := 12) rfl rfl rfl ?_
    refine w_istore (ls' := [some (.ref 6), some (.int x1), some (.ref 29), some (.int x3), some (.int 0), some (.int (I 8 x1.toNatClampNeg)), some (.int 1)]) (n := 14) rfl rfl rfl rfl ?_
    exact w_drp mm_Qf_i H (lb_s (lb_s (lb_s (lb_s (lb_s (lb_s (lb_s lb_e)))))))
  · refine mm_Mi_of ?_
    show mm_W 22 0 [some (.ref 6), some (.int x1), some (.ref 35), some (.int x3), none, none, none] [] I (mm_qi 22 P)
    refine w_iconst (v := 0) (n := 1) rfl rfl rfl ?_
    refine w_istore (ls' := [some (.ref 6), some (.int x1), some (.ref 35), some (.int x3), some (.int 0), none, none]) (n := 3) rfl rfl rfl rfl ?_
    refine w_aload_nR (x := 6) (n := 4) rfl rfl rfl ?_
    refine w_getR (b := 8) (n := 7) rfl rfl rfl rfl rfl ?_
    refine w_iload_n (n := 8) rfl rfl rfl ?_
    refine w_iaload (N := 8) (j := x1.toNatClampNeg) (n := 9) rfl rfl rfl rfl rfl rfl ⟨H.1, ?_⟩
    replace H := H.2
    refine w_istore (ls' := [some (.ref 6), some (.int x1), some (.ref 35), some (.int x3), some (.int 0), some (.int (I 8 x1.toNatClampNeg)), none]) (n := 11) rfl rfl rfl rfl ?_
    refine w_iconst (v := 1) (n := 12) rfl rfl rfl ?_
    refine w_istore (ls' := [some (.ref 6), some (.int x1), some (.ref 35), some (.int x3), some (.int 0), some (.int (I 8 x1.toNatClampNeg)), some (.int 1)]) (n := 14) rfl rfl rfl rfl ?_
    exact w_drp mm_Qf_i H (lb_s (lb_s (lb_s (lb_s (lb_s (lb_s (lb_s lb_e)))))))
  · refine mm_Mi_of ?_
    show mm_W 22 0 [some (.ref 6), some (.int x1), some (.ref 41), some (.int x3), none, none, none] [] I (mm_qi 22 P)
    refine w_iconst (v := 0) (n := 1) rfl rfl rfl ?_
    refine w_istore (ls' := [some (.ref 6), some (.int x1), some (.ref 41), some (.int x3), some (.int 0), none, none]) (n := 3) rfl rfl rfl rfl ?_
    refine w_aload_nR (x := 6) (n := 4) rfl rfl rfl ?_
    refine w_getR (b := 8) (n := 7) rfl rfl rfl rfl rfl ?_
    refine w_iload_n (n := 8) rfl rfl rfl ?_
    refine w_iaload (N := 8) (j := x1.toNatClampNeg) (n := 9) rfl rfl rfl rfl rfl rfl ⟨H.1, ?_⟩
    replace H := H.2
    refine w_istore (ls' := [some (.ref 6), some (.int x1), some (.ref 41), some (.int x3), some (.int 0), some (.int (I 8 x1.toNatClampNeg)), none]) (n := 11) rfl rfl rfl rfl ?_
    refine w_iconst (v := 1) (n := 12) rfl rfl rfl ?_
    refine w_istore (ls' := [some (.ref 6), some (.int x1), some (.ref 41), some (.int x3), some (.int 0), some (.int (I 8 x1.toNatClampNeg)), some (.int 1)]) (n := 14) rfl rfl rfl rfl ?_
    exact w_drp mm_Qf_i H (lb_s (lb_s (lb_s (lb_s (lb_s (lb_s (lb_s lb_e)))))))
  · refine mm_Mi_of ?_
    show mm_W 22 0 [some (.ref 49), some (.int x1), some (.ref 53), some (.int x3), none, none, none] [] I (mm_qi 22 P)
    refine w_iconst (v := 0) (n := 1) rfl rfl rfl ?_
    refine w_istore (ls' := [some (.ref 49), some (.int x1), some (.ref 53), some (.int x3), some (.int 0), none, none]) (n := 3) rfl rfl rfl rfl ?_
    refine w_aload_nR (x := 49) (n := 4) rfl rfl rfl ?_
    refine w_getR (b := 51) (n := 7) rfl rfl rfl rfl rfl ?_
    refine w_iload_n (n := 8) rfl rfl rfl ?_
    refine w_iaload (N := 8) (j := x1.toNatClampNeg) (n := 9) rfl rfl rfl rfl rfl rfl ⟨H.1, ?_⟩
    replace H := H.2
    refine w_istore (ls' := [some (.ref 49), some (.int x1), some (.ref 53), some (.int x3), some (.int 0), some (.int (I 51 x1.toNatClampNeg)), none]) (n := 11) rfl rfl rfl rfl ?_
    refine w_iconst (v := 1) (n := 12) rfl rfl rfl ?_
    refine w_istore (ls' := [some (.ref 49), some (.int x1), some (.ref 53), some (.int x3), some (.int 0), some (.int (I 51 x1.toNatClampNeg)), some (.int 1)]) (n := 14) rfl rfl rfl rfl ?_
    exact w_drp mm_Qf_i H (lb_s (lb_s (lb_s (lb_s (lb_s (lb_s (lb_s lb_e)))))))
  · refine mm_Mi_of ?_
    show mm_W 22 0 [some (.ref 49), some (.int x1), some (.ref 54), some (.int x3), none, none, none] [] I (mm_qi 22 P)
    refine w_iconst (v := 0) (n := 1) rfl rfl rfl ?_
    refine w_istore (ls' := [some (.ref 49), some (.int x1), some (.ref 54), some (.int x3), some (.int 0), none, none]) (n := 3) rfl rfl rfl rfl ?_
    refine w_aload_nR (x := 49) (n := 4) rfl rfl rfl ?_
    refine w_getR (b := 51) (n := 7) rfl rfl rfl rfl rfl ?_
    refine w_iload_n (n := 8) rfl rfl rfl ?_
    refine w_iaload (N := 8) (j := x1.toNatClampNeg) (n := 9) rfl rfl rfl rfl rfl rfl ⟨H.1, ?_⟩
    replace H := H.2
    refine w_istore (ls' := [some (.ref 49), some (.int x1), some (.ref 54), some (.int x3), some (.int 0), some (.int (I 51 x1.toNatClampNeg)), none]) (n := 11) rfl rfl rfl rfl ?_
    refine w_iconst (v := 1) (n := 12) rfl rfl rfl ?_
    refine w_istore (ls' := [some (.ref 49), some (.int x1), some (.ref 54), some (.int x3), some (.int 0), some (.int (I 51 x1.toNatClampNeg)), some (.int 1)]) (n := 14) rfl rfl rfl rfl ?_
    exact w_drp mm_Qf_i H (lb_s (lb_s (lb_s (lb_s (lb_s (lb_s (lb_s lb_e)))))))
theorem c_Pred_guess_14 {P : Int32 → mm_I → Prop} {I : mm_I} {dd vv : Nat} (hs0 : (dd = 6 ∧ vv = 23) ∨ (dd = 6 ∧ vv = 29) ∨ (dd = 6 ∧ vv = 35) ∨ (dd = 6 ∧ vv = 41) ∨ (dd = 49 ∧ vv = 53) ∨ (dd = 49 ∧ vv = 54)) (x1 : Int32) (x3 : Int32) (x4 : Int32) (x5 : Int32) (x6 : Int32)
  (H : (x5 < x6 →
      vp_in x1 8 ∧
      P (x4 >>> ((I (dd + 3) x1.toNatClampNeg) &&& 31)) I) ∧
    (x6 ≤ x5 →
      (x3 < x6 →
        vp_in x1 8 ∧
        P (x4 >>> ((I (dd + 3) x1.toNatClampNeg) &&& 31)) I) ∧
      (x6 ≤ x3 →
        vp_in (((x1 * 4) + x6) - 1) 32 ∧
        vp_in (x3 - x6) 64 ∧
        mm_W 22 14 [some (.ref dd), some (.int x1), some (.ref vv), some (.int x3), some (.int (x4 + ((I (dd + 1) ((((x1 * 4) + x6) - 1).toNatClampNeg)) * (I vv ((x3 - x6).toNatClampNeg))))), some (.int x5), some (.int (x6 + 1))] [] I (mm_qi 22 P)))) : mm_W 22 14 [some (.ref dd), some (.int x1), some (.ref vv), some (.int x3), some (.int x4), some (.int x5), some (.int x6)] [] I (mm_qi 22 P) := by
  rcases hs0 with ⟨rfl, rfl⟩ | ⟨rfl, rfl⟩ | ⟨rfl, rfl⟩ | ⟨rfl, rfl⟩ | ⟨rfl, rfl⟩ | ⟨rfl, rfl⟩
  · refine w_iload (n := 16) rfl rfl rfl ?_
    refine w_iload (n := 18) rfl rfl rfl ?_
    refine w_icmp_gt (n := 21) rfl rfl ⟨fun hc => ?_, fun hc => ?_⟩
    · replace H := H.1 hc
      refine w_iload (n := 60) rfl rfl rfl ?_
      refine w_aload_nR (x := 6) (n := 61) rfl rfl rfl ?_
      refine w_getR (b := 9) (n := 64) rfl rfl rfl rfl rfl ?_
      refine w_iload_n (n := 65) rfl rfl rfl ?_
      refine w_iaload (N := 8) (j := x1.toNatClampNeg) (n := 66) rfl rfl rfl rfl rfl rfl ⟨H.1, ?_⟩
      replace H := H.2
      refine w_ishr (n := 67) rfl rfl ?_
      exact w_ireturn rfl rfl H
    · replace H := H.2 hc
      refine w_iload (n := 23) rfl rfl rfl ?_
      refine w_iload_n (n := 24) rfl rfl rfl ?_
      refine w_icmp_gt (n := 27) rfl rfl ⟨fun hc => ?_, fun hc => ?_⟩
      · replace H := H.1 hc
        refine w_iload (n := 60) rfl rfl rfl ?_
        refine w_aload_nR (x := 6) (n := 61) rfl rfl rfl ?_
        refine w_getR (b := 9) (n := 64) rfl rfl rfl rfl rfl ?_
        refine w_iload_n (n := 65) rfl rfl rfl ?_
        refine w_iaload (N := 8) (j := x1.toNatClampNeg) (n := 66) rfl rfl rfl rfl rfl rfl ⟨H.1, ?_⟩
        replace H := H.2
        refine w_ishr (n := 67) rfl rfl ?_
        exact w_ireturn rfl rfl H
      · replace H := H.2 hc
        refine w_iload (n := 29) rfl rfl rfl ?_
        refine w_aload_nR (x := 6) (n := 30) rfl rfl rfl ?_
        refine w_getR (b := 7) (n := 33) rfl rfl rfl rfl rfl ?_
        refine w_iload_n (n := 34) rfl rfl rfl ?_
        refine w_iconst (v := 4) (n := 35) rfl rfl rfl ?_
        refine w_imul (n := 36) rfl rfl ?_
        refine w_iload (n := 38) rfl rfl rfl ?_
        refine w_iadd (n := 39) rfl rfl ?_
        refine w_iconst (v := 1) (n := 40) rfl rfl rfl ?_
        refine w_isub (n := 41) rfl rfl ?_
        refine w_iaload (N := 32) (j := (((x1 * 4) + x6) - 1).toNatClampNeg) (n := 42) rfl rfl rfl rfl rfl rfl ⟨H.1, ?_⟩
        replace H := H.2
        refine w_aload_nR (x := 23) (n := 43) rfl rfl rfl ?_
        refine w_iload_n (n := 44) rfl rfl rfl ?_
        refine w_iload (n := 46) rfl rfl rfl ?_
        refine w_isub (n := 47) rfl rfl ?_
        refine w_iaload (N := 64) (j := (x3 - x6).toNatClampNeg) (n := 48) rfl rfl rfl rfl rfl rfl ⟨H.1, ?_⟩
        replace H := H.2
        refine w_imul (n := 49) rfl rfl ?_
        refine w_iadd (n := 50) rfl rfl ?_
        refine w_istore (ls' := [some (.ref 6), some (.int x1), some (.ref 23), some (.int x3), some (.int (x4 + ((I 7 ((((x1 * 4) + x6) - 1).toNatClampNeg)) * (I 23 ((x3 - x6).toNatClampNeg))))), some (.int x5), some (.int x6)]) (n := 52) rfl rfl rfl rfl ?_
        refine w_iinc (y := x6 + 1) (ls' := [some (.ref 6), some (.int x1), some (.ref 23), some (.int x3), some (.int (x4 + ((I 7 ((((x1 * 4) + x6) - 1).toNatClampNeg)) * (I 23 ((x3 - x6).toNatClampNeg))))), some (.int x5), some (.int (x6 + 1))]) (n := 55) rfl rfl rfl rfl rfl ?_
        refine w_goto rfl ?_
        exact w_drp mm_Qf_i H (lb_s (lb_s (lb_s (lb_s (lb_s (lb_s (lb_s lb_e)))))))
  · refine w_iload (n := 16) rfl rfl rfl ?_
    refine w_iload (n := 18) rfl rfl rfl ?_
    refine w_icmp_gt (n := 21) rfl rfl ⟨fun hc => ?_, fun hc => ?_⟩
    · replace H := H.1 hc
      refine w_iload (n := 60) rfl rfl rfl ?_
      refine w_aload_nR (x := 6) (n := 61) rfl rfl rfl ?_
      refine w_getR (b := 9) (n := 64) rfl rfl rfl rfl rfl ?_
      refine w_iload_n (n := 65) rfl rfl rfl ?_
      refine w_iaload (N := 8) (j := x1.toNatClampNeg) (n := 66) rfl rfl rfl rfl rfl rfl ⟨H.1, ?_⟩
      replace H := H.2
      refine w_ishr (n := 67) rfl rfl ?_
      exact w_ireturn rfl rfl H
    · replace H := H.2 hc
      refine w_iload (n := 23) rfl rfl rfl ?_
      refine w_iload_n (n := 24) rfl rfl rfl ?_
      refine w_icmp_gt (n := 27) rfl rfl ⟨fun hc => ?_, fun hc => ?_⟩
      · replace H := H.1 hc
        refine w_iload (n := 60) rfl rfl rfl ?_
        refine w_aload_nR (x := 6) (n := 61) rfl rfl rfl ?_
        refine w_getR (b := 9) (n := 64) rfl rfl rfl rfl rfl ?_
        refine w_iload_n (n := 65) rfl rfl rfl ?_
        refine w_iaload (N := 8) (j := x1.toNatClampNeg) (n := 66) rfl rfl rfl rfl rfl rfl ⟨H.1, ?_⟩
        replace H := H.2
        refine w_ishr (n := 67) rfl rfl ?_
        exact w_ireturn rfl rfl H
      · replace H := H.2 hc
        refine w_iload (n := 29) rfl rfl rfl ?_
        refine w_aload_nR (x := 6) (n := 30) rfl rfl rfl ?_
        refine w_getR (b := 7) (n := 33) rfl rfl rfl rfl rfl ?_
        refine w_iload_n (n := 34) rfl rfl rfl ?_
        refine w_iconst (v := 4) (n := 35) rfl rfl rfl ?_
        refine w_imul (n := 36) rfl rfl ?_
        refine w_iload (n := 38) rfl rfl rfl ?_
        refine w_iadd (n := 39) rfl rfl ?_
        refine w_iconst (v := 1) (n := 40) rfl rfl rfl ?_
        refine w_isub (n := 41) rfl rfl ?_
        refine w_iaload (N := 32) (j := (((x1 * 4) + x6) - 1).toNatClampNeg) (n := 42) rfl rfl rfl rfl rfl rfl ⟨H.1, ?_⟩
        replace H := H.2
        refine w_aload_nR (x := 29) (n := 43) rfl rfl rfl ?_
        refine w_iload_n (n := 44) rfl rfl rfl ?_
        refine w_iload (n := 46) rfl rfl rfl ?_
        refine w_isub (n := 47) rfl rfl ?_
        refine w_iaload (N := 64) (j := (x3 - x6).toNatClampNeg) (n := 48) rfl rfl rfl rfl rfl rfl ⟨H.1, ?_⟩
        replace H := H.2
        refine w_imul (n := 49) rfl rfl ?_
        refine w_iadd (n := 50) rfl rfl ?_
        refine w_istore (ls' := [some (.ref 6), some (.int x1), some (.ref 29), some (.int x3), some (.int (x4 + ((I 7 ((((x1 * 4) + x6) - 1).toNatClampNeg)) * (I 29 ((x3 - x6).toNatClampNeg))))), some (.int x5), some (.int x6)]) (n := 52) rfl rfl rfl rfl ?_
        refine w_iinc (y := x6 + 1) (ls' := [some (.ref 6), some (.int x1), some (.ref 29), some (.int x3), some (.int (x4 + ((I 7 ((((x1 * 4) + x6) - 1).toNatClampNeg)) * (I 29 ((x3 - x6).toNatClampNeg))))), some (.int x5), some (.int (x6 + 1))]) (n := 55) rfl rfl rfl rfl rfl ?_
        refine w_goto rfl ?_
        exact w_drp mm_Qf_i H (lb_s (lb_s (lb_s (lb_s (lb_s (lb_s (lb_s lb_e)))))))
  · refine w_iload (n := 16) rfl rfl rfl ?_
    refine w_iload (n := 18) rfl rfl rfl ?_
    refine w_icmp_gt (n := 21) rfl rfl ⟨fun hc => ?_, fun hc => ?_⟩
    · replace H := H.1 hc
      refine w_iload (n := 60) rfl rfl rfl ?_
      refine w_aload_nR (x := 6) (n := 61) rfl rfl rfl ?_
      refine w_getR (b := 9) (n := 64) rfl rfl rfl rfl rfl ?_
      refine w_iload_n (n := 65) rfl rfl rfl ?_
      refine w_iaload (N := 8) (j := x1.toNatClampNeg) (n := 66) rfl rfl rfl rfl rfl rfl ⟨H.1, ?_⟩
      replace H := H.2
      refine w_ishr (n := 67) rfl rfl ?_
      exact w_ireturn rfl rfl H
    · replace H := H.2 hc
      refine w_iload (n := 23) rfl rfl rfl ?_
      refine w_iload_n (n := 24) rfl rfl rfl ?_
      refine w_icmp_gt (n := 27) rfl rfl ⟨fun hc => ?_, fun hc => ?_⟩
      · replace H := H.1 hc
        refine w_iload (n := 60) rfl rfl rfl ?_
        refine w_aload_nR (x := 6) (n := 61) rfl rfl rfl ?_
        refine w_getR (b := 9) (n := 64) rfl rfl rfl rfl rfl ?_
        refine w_iload_n (n := 65) rfl rfl rfl ?_
        refine w_iaload (N := 8) (j := x1.toNatClampNeg) (n := 66) rfl rfl rfl rfl rfl rfl ⟨H.1, ?_⟩
        replace H := H.2
        refine w_ishr (n := 67) rfl rfl ?_
        exact w_ireturn rfl rfl H
      · replace H := H.2 hc
        refine w_iload (n := 29) rfl rfl rfl ?_
        refine w_aload_nR (x := 6) (n := 30) rfl rfl rfl ?_
        refine w_getR (b := 7) (n := 33) rfl rfl rfl rfl rfl ?_
        refine w_iload_n (n := 34) rfl rfl rfl ?_
        refine w_iconst (v := 4) (n := 35) rfl rfl rfl ?_
        refine w_imul (n := 36) rfl rfl ?_
        refine w_iload (n := 38) rfl rfl rfl ?_
        refine w_iadd (n := 39) rfl rfl ?_
        refine w_iconst (v := 1) (n := 40) rfl rfl rfl ?_
        refine w_isub (n := 41) rfl rfl ?_
        refine w_iaload (N := 32) (j := (((x1 * 4) + x6) - 1).toNatClampNeg) (n := 42) rfl rfl rfl rfl rfl rfl ⟨H.1, ?_⟩
        replace H := H.2
        refine w_aload_nR (x := 35) (n := 43) rfl rfl rfl ?_
        refine w_iload_n (n := 44) rfl rfl rfl ?_
        refine w_iload (n := 46) rfl rfl rfl ?_
        refine w_isub (n := 47) rfl rfl ?_
        refine w_iaload (N := 64) (j := (x3 - x6).toNatClampNeg) (n := 48) rfl rfl rfl rfl rfl rfl ⟨H.1, ?_⟩
        replace H := H.2
        refine w_imul (n := 49) rfl rfl ?_
        refine w_iadd (n := 50) rfl rfl ?_
        refine w_istore (ls' := [some (.ref 6), some (.int x1), some (.ref 35), some (.int x3), some (.int (x4 + ((I 7 ((((x1 * 4) + x6) - 1).toNatClampNeg)) * (I 35 ((x3 - x6).toNatClampNeg))))), some (.int x5), some (.int x6)]) (n := 52) rfl rfl rfl rfl ?_
        refine w_iinc (y := x6 + 1) (ls' := [some (.ref 6), some (.int x1), some (.ref 35), some (.int x3), some (.int (x4 + ((I 7 ((((x1 * 4) + x6) - 1).toNatClampNeg)) * (I 35 ((x3 - x6).toNatClampNeg))))), some (.int x5), some (.int (x6 + 1))]) (n := 55) rfl rfl rfl rfl rfl ?_
        refine w_goto rfl ?_
        exact w_drp mm_Qf_i H (lb_s (lb_s (lb_s (lb_s (lb_s (lb_s (lb_s lb_e)))))))
  · refine w_iload (n := 16) rfl rfl rfl ?_
    refine w_iload (n := 18) rfl rfl rfl ?_
    refine w_icmp_gt (n := 21) rfl rfl ⟨fun hc => ?_, fun hc => ?_⟩
    · replace H := H.1 hc
      refine w_iload (n := 60) rfl rfl rfl ?_
      refine w_aload_nR (x := 6) (n := 61) rfl rfl rfl ?_
      refine w_getR (b := 9) (n := 64) rfl rfl rfl rfl rfl ?_
      refine w_iload_n (n := 65) rfl rfl rfl ?_
      refine w_iaload (N := 8) (j := x1.toNatClampNeg) (n := 66) rfl rfl rfl rfl rfl rfl ⟨H.1, ?_⟩
      replace H := H.2
      refine w_ishr (n := 67) rfl rfl ?_
      exact w_ireturn rfl rfl H
    · replace H := H.2 hc
      refine w_iload (n := 23) rfl rfl rfl ?_
      refine w_iload_n (n := 24) rfl rfl rfl ?_
      refine w_icmp_gt (n := 27) rfl rfl ⟨fun hc => ?_, fun hc => ?_⟩
      · replace H := H.1 hc
        refine w_iload (n := 60) rfl rfl rfl ?_
        refine w_aload_nR (x := 6) (n := 61) rfl rfl rfl ?_
        refine w_getR (b := 9) (n := 64) rfl rfl rfl rfl rfl ?_
        refine w_iload_n (n := 65) rfl rfl rfl ?_
        refine w_iaload (N := 8) (j := x1.toNatClampNeg) (n := 66) rfl rfl rfl rfl rfl rfl ⟨H.1, ?_⟩
        replace H := H.2
        refine w_ishr (n := 67) rfl rfl ?_
        exact w_ireturn rfl rfl H
      · replace H := H.2 hc
        refine w_iload (n := 29) rfl rfl rfl ?_
        refine w_aload_nR (x := 6) (n := 30) rfl rfl rfl ?_
        refine w_getR (b := 7) (n := 33) rfl rfl rfl rfl rfl ?_
        refine w_iload_n (n := 34) rfl rfl rfl ?_
        refine w_iconst (v := 4) (n := 35) rfl rfl rfl ?_
        refine w_imul (n := 36) rfl rfl ?_
        refine w_iload (n := 38) rfl rfl rfl ?_
        refine w_iadd (n := 39) rfl rfl ?_
        refine w_iconst (v := 1) (n := 40) rfl rfl rfl ?_
        refine w_isub (n := 41) rfl rfl ?_
        refine w_iaload (N := 32) (j := (((x1 * 4) + x6) - 1).toNatClampNeg) (n := 42) rfl rfl rfl rfl rfl rfl ⟨H.1, ?_⟩
        replace H := H.2
        refine w_aload_nR (x := 41) (n := 43) rfl rfl rfl ?_
        refine w_iload_n (n := 44) rfl rfl rfl ?_
        refine w_iload (n := 46) rfl rfl rfl ?_
        refine w_isub (n := 47) rfl rfl ?_
        refine w_iaload (N := 64) (j := (x3 - x6).toNatClampNeg) (n := 48) rfl rfl rfl rfl rfl rfl ⟨H.1, ?_⟩
        replace H := H.2
        refine w_imul (n := 49) rfl rfl ?_
        refine w_iadd (n := 50) rfl rfl ?_
        refine w_istore (ls' := [some (.ref 6), some (.int x1), some (.ref 41), some (.int x3), some (.int (x4 + ((I 7 ((((x1 * 4) + x6) - 1).toNatClampNeg)) * (I 41 ((x3 - x6).toNatClampNeg))))), some (.int x5), some (.int x6)]) (n := 52) rfl rfl rfl rfl ?_
        refine w_iinc (y := x6 + 1) (ls' := [some (.ref 6), some (.int x1), some (.ref 41), some (.int x3), some (.int (x4 + ((I 7 ((((x1 * 4) + x6) - 1).toNatClampNeg)) * (I 41 ((x3 - x6).toNatClampNeg))))), some (.int x5), some (.int (x6 + 1))]) (n := 55) rfl rfl rfl rfl rfl ?_
        refine w_goto rfl ?_
        exact w_drp mm_Qf_i H (lb_s (lb_s (lb_s (lb_s (lb_s (lb_s (lb_s lb_e)))))))
  · refine w_iload (n := 16) rfl rfl rfl ?_
    refine w_iload (n := 18) rfl rfl rfl ?_
    refine w_icmp_gt (n := 21) rfl rfl ⟨fun hc => ?_, fun hc => ?_⟩
    · replace H := H.1 hc
      refine w_iload (n := 60) rfl rfl rfl ?_
      refine w_aload_nR (x := 49) (n := 61) rfl rfl rfl ?_
      refine w_getR (b := 52) (n := 64) rfl rfl rfl rfl rfl ?_
      refine w_iload_n (n := 65) rfl rfl rfl ?_
      refine w_iaload (N := 8) (j := x1.toNatClampNeg) (n := 66) rfl rfl rfl rfl rfl rfl ⟨H.1, ?_⟩
      replace H := H.2
      refine w_ishr (n := 67) rfl rfl ?_
      exact w_ireturn rfl rfl H
    · replace H := H.2 hc
      refine w_iload (n := 23) rfl rfl rfl ?_
      refine w_iload_n (n := 24) rfl rfl rfl ?_
      refine w_icmp_gt (n := 27) rfl rfl ⟨fun hc => ?_, fun hc => ?_⟩
      · replace H := H.1 hc
        refine w_iload (n := 60) rfl rfl rfl ?_
        refine w_aload_nR (x := 49) (n := 61) rfl rfl rfl ?_
        refine w_getR (b := 52) (n := 64) rfl rfl rfl rfl rfl ?_
        refine w_iload_n (n := 65) rfl rfl rfl ?_
        refine w_iaload (N := 8) (j := x1.toNatClampNeg) (n := 66) rfl rfl rfl rfl rfl rfl ⟨H.1, ?_⟩
        replace H := H.2
        refine w_ishr (n := 67) rfl rfl ?_
        exact w_ireturn rfl rfl H
      · replace H := H.2 hc
        refine w_iload (n := 29) rfl rfl rfl ?_
        refine w_aload_nR (x := 49) (n := 30) rfl rfl rfl ?_
        refine w_getR (b := 50) (n := 33) rfl rfl rfl rfl rfl ?_
        refine w_iload_n (n := 34) rfl rfl rfl ?_
        refine w_iconst (v := 4) (n := 35) rfl rfl rfl ?_
        refine w_imul (n := 36) rfl rfl ?_
        refine w_iload (n := 38) rfl rfl rfl ?_
        refine w_iadd (n := 39) rfl rfl ?_
        refine w_iconst (v := 1) (n := 40) rfl rfl rfl ?_
        refine w_isub (n := 41) rfl rfl ?_
        refine w_iaload (N := 32) (j := (((x1 * 4) + x6) - 1).toNatClampNeg) (n := 42) rfl rfl rfl rfl rfl rfl ⟨H.1, ?_⟩
        replace H := H.2
        refine w_aload_nR (x := 53) (n := 43) rfl rfl rfl ?_
        refine w_iload_n (n := 44) rfl rfl rfl ?_
        refine w_iload (n := 46) rfl rfl rfl ?_
        refine w_isub (n := 47) rfl rfl ?_
        refine w_iaload (N := 64) (j := (x3 - x6).toNatClampNeg) (n := 48) rfl rfl rfl rfl rfl rfl ⟨H.1, ?_⟩
        replace H := H.2
        refine w_imul (n := 49) rfl rfl ?_
        refine w_iadd (n := 50) rfl rfl ?_
        refine w_istore (ls' := [some (.ref 49), some (.int x1), some (.ref 53), some (.int x3), some (.int (x4 + ((I 50 ((((x1 * 4) + x6) - 1).toNatClampNeg)) * (I 53 ((x3 - x6).toNatClampNeg))))), some (.int x5), some (.int x6)]) (n := 52) rfl rfl rfl rfl ?_
        refine w_iinc (y := x6 + 1) (ls' := [some (.ref 49), some (.int x1), some (.ref 53), some (.int x3), some (.int (x4 + ((I 50 ((((x1 * 4) + x6) - 1).toNatClampNeg)) * (I 53 ((x3 - x6).toNatClampNeg))))), some (.int x5), some (.int (x6 + 1))]) (n := 55) rfl rfl rfl rfl rfl ?_
        refine w_goto rfl ?_
        exact w_drp mm_Qf_i H (lb_s (lb_s (lb_s (lb_s (lb_s (lb_s (lb_s lb_e)))))))
  · refine w_iload (n := 16) rfl rfl rfl ?_
    refine w_iload (n := 18) rfl rfl rfl ?_
    refine w_icmp_gt (n := 21) rfl rfl ⟨fun hc => ?_, fun hc => ?_⟩
    · replace H := H.1 hc
      refine w_iload (n := 60) rfl rfl rfl ?_
      refine w_aload_nR (x := 49) (n := 61) rfl rfl rfl ?_
      refine w_getR (b := 52) (n := 64) rfl rfl rfl rfl rfl ?_
      refine w_iload_n (n := 65) rfl rfl rfl ?_
      refine w_iaload (N := 8) (j := x1.toNatClampNeg) (n := 66) rfl rfl rfl rfl rfl rfl ⟨H.1, ?_⟩
      replace H := H.2
      refine w_ishr (n := 67) rfl rfl ?_
      exact w_ireturn rfl rfl H
    · replace H := H.2 hc
      refine w_iload (n := 23) rfl rfl rfl ?_
      refine w_iload_n (n := 24) rfl rfl rfl ?_
      refine w_icmp_gt (n := 27) rfl rfl ⟨fun hc => ?_, fun hc => ?_⟩
      · replace H := H.1 hc
        refine w_iload (n := 60) rfl rfl rfl ?_
        refine w_aload_nR (x := 49) (n := 61) rfl rfl rfl ?_
        refine w_getR (b := 52) (n := 64) rfl rfl rfl rfl rfl ?_
        refine w_iload_n (n := 65) rfl rfl rfl ?_
        refine w_iaload (N := 8) (j := x1.toNatClampNeg) (n := 66) rfl rfl rfl rfl rfl rfl ⟨H.1, ?_⟩
        replace H := H.2
        refine w_ishr (n := 67) rfl rfl ?_
        exact w_ireturn rfl rfl H
      · replace H := H.2 hc
        refine w_iload (n := 29) rfl rfl rfl ?_
        refine w_aload_nR (x := 49) (n := 30) rfl rfl rfl ?_
        refine w_getR (b := 50) (n := 33) rfl rfl rfl rfl rfl ?_
        refine w_iload_n (n := 34) rfl rfl rfl ?_
        refine w_iconst (v := 4) (n := 35) rfl rfl rfl ?_
        refine w_imul (n := 36) rfl rfl ?_
        refine w_iload (n := 38) rfl rfl rfl ?_
        refine w_iadd (n := 39) rfl rfl ?_
        refine w_iconst (v := 1) (n := 40) rfl rfl rfl ?_
        refine w_isub (n := 41) rfl rfl ?_
        refine w_iaload (N := 32) (j := (((x1 * 4) + x6) - 1).toNatClampNeg) (n := 42) rfl rfl rfl rfl rfl rfl ⟨H.1, ?_⟩
        replace H := H.2
        refine w_aload_nR (x := 54) (n := 43) rfl rfl rfl ?_
        refine w_iload_n (n := 44) rfl rfl rfl ?_
        refine w_iload (n := 46) rfl rfl rfl ?_
        refine w_isub (n := 47) rfl rfl ?_
        refine w_iaload (N := 64) (j := (x3 - x6).toNatClampNeg) (n := 48) rfl rfl rfl rfl rfl rfl ⟨H.1, ?_⟩
        replace H := H.2
        refine w_imul (n := 49) rfl rfl ?_
        refine w_iadd (n := 50) rfl rfl ?_
        refine w_istore (ls' := [some (.ref 49), some (.int x1), some (.ref 54), some (.int x3), some (.int (x4 + ((I 50 ((((x1 * 4) + x6) - 1).toNatClampNeg)) * (I 54 ((x3 - x6).toNatClampNeg))))), some (.int x5), some (.int x6)]) (n := 52) rfl rfl rfl rfl ?_
        refine w_iinc (y := x6 + 1) (ls' := [some (.ref 49), some (.int x1), some (.ref 54), some (.int x3), some (.int (x4 + ((I 50 ((((x1 * 4) + x6) - 1).toNatClampNeg)) * (I 54 ((x3 - x6).toNatClampNeg))))), some (.int x5), some (.int (x6 + 1))]) (n := 55) rfl rfl rfl rfl rfl ?_
        refine w_goto rfl ?_
        exact w_drp mm_Qf_i H (lb_s (lb_s (lb_s (lb_s (lb_s (lb_s (lb_s lb_e)))))))
theorem e_Reader_readHead {P : Int32 → mm_I → Prop} {I : mm_I}
  (H : (21 ≤ (I 47 1) →
      (¬ (I 48 0) = 83 →
        P 2 I) ∧
      ((I 48 0) = 83 →
        ((I 48 1) = 80 →
          ((I 48 2) < 1 →
            mm_W 24 131 [some (.ref 46), some (.ref 48), some (.int 0), some (.int 5), none] [] (mm_up (mm_up (mm_up (mm_up I 46 2 (I 48 2)) 46 3 (I 48 3)) 46 4 (I 48 4)) 46 5 (((I 48 5) * 256) + (I 48 6))) (mm_qi 24 P)) ∧
          (1 ≤ (I 48 2) →
            (2 < (I 48 2) →
              mm_W 24 131 [some (.ref 46), some (.ref 48), some (.int 0), some (.int 5), none] [] (mm_up (mm_up (mm_up (mm_up I 46 2 (I 48 2)) 46 3 (I 48 3)) 46 4 (I 48 4)) 46 5 (((I 48 5) * 256) + (I 48 6))) (mm_qi 24 P)) ∧
            ((I 48 2) ≤ 2 →
              mm_Mi 117 [.int (I 48 3)] (mm_up (mm_up (mm_up (mm_up I 46 2 (I 48 2)) 46 3 (I 48 3)) 46 4 (I 48 4)) 46 5 (((I 48 5) * 256) + (I 48 6))) (fun r97 I97 =>  -- WS.isWidth
              (r97 = 0 →
                mm_W 24 131 [some (.ref 46), some (.ref 48), some (.int 0), some (.int 5), none] [] I97 (mm_qi 24 P)) ∧
              (¬ r97 = 0 →
                mm_Mi 118 [.int (I97 46 4)] I97 (fun r107 I107 =>  -- WS.isFrame
                mm_W 24 131 [some (.ref 46), some (.ref 48), some (.int (if r107 = 0 then (0 : Int32) else (if 256 < (I107 46 5) then (0 : Int32) else 1))), some (.int 5), none] [] I107 (mm_qi 24 P))))))) ∧
        (¬ (I 48 1) = 80 →
          P 2 I))) ∧
    ((I 47 1) < 21 →
      P 1 I)) : mm_Mi 24 [.ref 46] I P := by
  refine mm_Mi_of ?_
  show mm_W 24 0 [some (.ref 46), none, none, none, none] [] I (mm_qi 24 P)
  refine w_aload_nR (x := 46) (n := 1) rfl rfl rfl ?_
  refine w_getR (b := 47) (n := 4) rfl rfl rfl rfl rfl ?_
  refine w_getI (n := 7) rfl rfl rfl rfl ?_
  refine w_bipush (v := 21) (n := 9) rfl rfl rfl ?_
  refine w_icmp_ge (n := 12) rfl rfl ⟨fun hc => ?_, fun hc => ?_⟩
  · replace H := H.1 hc
    refine w_aload_nR (x := 46) (n := 15) rfl rfl rfl ?_
    refine w_getR (b := 47) (n := 18) rfl rfl rfl rfl rfl ?_
    refine w_getR (b := 48) (n := 21) rfl rfl rfl rfl rfl ?_
    refine w_astore_n (ls' := [some (.ref 46), some (.ref 48), none, none, none]) (x := some 48) (n := 22) rfl rfl rfl rfl ?_
    refine w_aload_nR (x := 48) (n := 23) rfl rfl rfl ?_
    refine w_iconst (v := 0) (n := 24) rfl rfl rfl ?_
    refine w_iaload (N := 4000) (j := 0) (n := 25) rfl rfl rfl rfl (by decide) rfl ⟨mm_vpc (by decide), ?_⟩
    refine w_bipush (v := 83) (n := 27) rfl rfl rfl ?_
    refine w_icmp_ne (n := 30) rfl rfl ⟨fun hc => ?_, fun hc => ?_⟩
    · replace H := H.1 hc
      refine w_iconst (v := 2) (n := 39) rfl rfl rfl ?_
      exact w_ireturn rfl rfl H
    · replace H := H.2 hc
      refine w_aload_nR (x := 48) (n := 31) rfl rfl rfl ?_
      refine w_iconst (v := 1) (n := 32) rfl rfl rfl ?_
      refine w_iaload (N := 4000) (j := 1) (n := 33) rfl rfl rfl rfl (by decide) rfl ⟨mm_vpc (by decide), ?_⟩
      refine w_bipush (v := 80) (n := 35) rfl rfl rfl ?_
      refine w_icmp_eq (n := 38) rfl rfl ⟨fun hc => ?_, fun hc => ?_⟩
      · replace H := H.1 hc
        refine w_aload_nR (x := 46) (n := 41) rfl rfl rfl ?_
        refine w_aload_nR (x := 48) (n := 42) rfl rfl rfl ?_
        refine w_iconst (v := 2) (n := 43) rfl rfl rfl ?_
        refine w_iaload (N := 4000) (j := 2) (n := 44) rfl rfl rfl rfl (by decide) rfl ⟨mm_vpc (by decide), ?_⟩
        refine w_putI (n := 47) rfl rfl rfl rfl rfl ?_
        refine w_aload_nR (x := 46) (n := 48) rfl rfl rfl ?_
        refine w_aload_nR (x := 48) (n := 49) rfl rfl rfl ?_
        refine w_iconst (v := 3) (n := 50) rfl rfl rfl ?_
        refine w_iaload (N := 4000) (j := 3) (n := 51) rfl rfl rfl rfl (by decide) rfl ⟨mm_vpc (by decide), ?_⟩
        refine w_putI (n := 54) rfl rfl rfl rfl rfl ?_
        refine w_aload_nR (x := 46) (n := 55) rfl rfl rfl ?_
        refine w_aload_nR (x := 48) (n := 56) rfl rfl rfl ?_
        refine w_iconst (v := 4) (n := 57) rfl rfl rfl ?_
        refine w_iaload (N := 4000) (j := 4) (n := 58) rfl rfl rfl rfl (by decide) rfl ⟨mm_vpc (by decide), ?_⟩
        refine w_putI (n := 61) rfl rfl rfl rfl rfl ?_
        refine w_aload_nR (x := 46) (n := 62) rfl rfl rfl ?_
        refine w_aload_nR (x := 48) (n := 63) rfl rfl rfl ?_
        refine w_iconst (v := 5) (n := 64) rfl rfl rfl ?_
        refine w_iaload (N := 4000) (j := 5) (n := 65) rfl rfl rfl rfl (by decide) rfl ⟨mm_vpc (by decide), ?_⟩
        refine w_sipush (v := 256) (n := 68) rfl rfl rfl ?_
        refine w_imul (n := 69) rfl rfl ?_
        refine w_aload_nR (x := 48) (n := 70) rfl rfl rfl ?_
        refine w_bipush (v := 6) (n := 72) rfl rfl rfl ?_
        refine w_iaload (N := 4000) (j := 6) (n := 73) rfl rfl rfl rfl (by decide) rfl ⟨mm_vpc (by decide), ?_⟩
        refine w_iadd (n := 74) rfl rfl ?_
        refine w_putI (n := 77) rfl rfl rfl rfl rfl ?_
        refine w_aload_nR (x := 46) (n := 78) rfl rfl rfl ?_
        refine w_getI (n := 81) rfl rfl rfl rfl ?_
        refine w_iconst (v := 1) (n := 82) rfl rfl rfl ?_
        refine w_icmp_lt (n := 85) rfl rfl ⟨fun hc => ?_, fun hc => ?_⟩
        · replace H := H.1 hc
          refine w_iconst (v := 0) (n := 128) rfl rfl rfl ?_
          refine w_istore_n (ls' := [some (.ref 46), some (.ref 48), some (.int 0), none, none]) (n := 129) rfl rfl rfl rfl ?_
          refine w_iconst (v := 5) (n := 130) rfl rfl rfl ?_
          refine w_istore_n (ls' := [some (.ref 46), some (.ref 48), some (.int 0), some (.int 5), none]) (n := 131) rfl rfl rfl rfl ?_
          exact w_drp mm_Qf_i H (lb_s (lb_s (lb_s (lb_s (lb_n lb_e)))))
        · replace H := H.2 hc
          refine w_aload_nR (x := 46) (n := 86) rfl rfl rfl ?_
          refine w_getI (n := 89) rfl rfl rfl rfl ?_
          refine w_iconst (v := 2) (n := 90) rfl rfl rfl ?_
          refine w_icmp_gt (n := 93) rfl rfl ⟨fun hc => ?_, fun hc => ?_⟩
          · replace H := H.1 hc
            refine w_iconst (v := 0) (n := 128) rfl rfl rfl ?_
            refine w_istore_n (ls' := [some (.ref 46), some (.ref 48), some (.int 0), none, none]) (n := 129) rfl rfl rfl rfl ?_
            refine w_iconst (v := 5) (n := 130) rfl rfl rfl ?_
            refine w_istore_n (ls' := [some (.ref 46), some (.ref 48), some (.int 0), some (.int 5), none]) (n := 131) rfl rfl rfl rfl ?_
            exact w_drp mm_Qf_i H (lb_s (lb_s (lb_s (lb_s (lb_n lb_e)))))
          · replace H := H.2 hc
            refine w_aload_nR (x := 46) (n := 94) rfl rfl rfl ?_
            refine w_getI (n := 97) rfl rfl rfl rfl ?_
            refine w_calli (as := [.int (I 48 3)]) (rest := []) (n := 100) rfl rfl rfl rfl ?_
            obtain ⟨r97, I97, hI97, H⟩ := H
            refine ⟨r97, I97, hI97, ?_⟩
            refine w_if_eq (n := 103) rfl rfl ⟨fun hc => ?_, fun hc => ?_⟩
            · replace H := H.1 hc
              refine w_iconst (v := 0) (n := 128) rfl rfl rfl ?_
              refine w_istore_n (ls' := [some (.ref 46), some (.ref 48), some (.int 0), none, none]) (n := 129) rfl rfl rfl rfl ?_
              refine w_iconst (v := 5) (n := 130) rfl rfl rfl ?_
              refine w_istore_n (ls' := [some (.ref 46), some (.ref 48), some (.int 0), some (.int 5), none]) (n := 131) rfl rfl rfl rfl ?_
              exact w_drp mm_Qf_i H (lb_s (lb_s (lb_s (lb_s (lb_n lb_e)))))
            · replace H := H.2 hc
              refine w_aload_nR (x := 46) (n := 104) rfl rfl rfl ?_
              refine w_getI (n := 107) rfl rfl rfl rfl ?_
              refine w_calli (as := [.int (I97 46 4)]) (rest := []) (n := 110) rfl rfl rfl rfl ?_
              obtain ⟨r107, I107, hI107, H⟩ := H
              refine ⟨r107, I107, hI107, ?_⟩
              have J110 : ∀ (w110_0 : Int32), w110_0 = (if r107 = 0 then (0 : Int32) else (if 256 < (I107 46 5) then (0 : Int32) else 1)) → mm_W 24 128 [some (.ref 46), some (.ref 48), none, none, none] [.int w110_0] I107 (mm_qi 24 P) := by
                intro w110_0 e110_0
                subst e110_0
                refine w_istore_n (ls' := [some (.ref 46), some (.ref 48), some (.int (if r107 = 0 then (0 : Int32) else (if 256 < (I107 46 5) then (0 : Int32) else 1))), none, none]) (n := 129) rfl rfl rfl rfl ?_
                refine w_iconst (v := 5) (n := 130) rfl rfl rfl ?_
                refine w_istore_n (ls' := [some (.ref 46), some (.ref 48), some (.int (if r107 = 0 then (0 : Int32) else (if 256 < (I107 46 5) then (0 : Int32) else 1))), some (.int 5), none]) (n := 131) rfl rfl rfl rfl ?_
                exact w_drp mm_Qf_i H (lb_s (lb_s (lb_s (lb_s (lb_n lb_e)))))
              refine w_if_eq (n := 113) rfl rfl ⟨fun hc => ?_, fun hc => ?_⟩
              · refine w_iconst (v := 0) (n := 128) rfl rfl rfl ?_
                refine w_drp mm_Qf_i (J110 _ ?_) (lb_s (lb_s (lb_n (lb_n (lb_n lb_e)))))
                · exact (if_pos hc).symm
              · refine w_aload_nR (x := 46) (n := 114) rfl rfl rfl ?_
                refine w_getI (n := 117) rfl rfl rfl rfl ?_
                refine w_sipush (v := 256) (n := 120) rfl rfl rfl ?_
                have J120 : ∀ (w120_0 : Int32), w120_0 = (if 256 < (I107 46 5) then (0 : Int32) else 1) → mm_W 24 128 [some (.ref 46), some (.ref 48), none, none, none] [.int w120_0] I107 (mm_qi 24 P) := by
                  intro w120_0 e120_0
                  subst e120_0
                  refine w_drp mm_Qf_i (J110 _ ?_) (lb_s (lb_s (lb_n (lb_n (lb_n lb_e)))))
                  · exact (if_neg hc).symm
                refine w_icmp_gt (n := 123) rfl rfl ⟨fun hc => ?_, fun hc => ?_⟩
                · refine w_iconst (v := 0) (n := 128) rfl rfl rfl ?_
                  refine w_drp mm_Qf_i (J120 _ ?_) (lb_s (lb_s (lb_n (lb_n (lb_n lb_e)))))
                  · exact (if_pos hc).symm
                · refine w_iconst (v := 1) (n := 124) rfl rfl rfl ?_
                  refine w_goto rfl ?_
                  refine w_drp mm_Qf_i (J120 _ ?_) (lb_s (lb_s (lb_n (lb_n (lb_n lb_e)))))
                  · exact (if_neg (fa_nlt hc)).symm
      · replace H := H.2 hc
        refine w_iconst (v := 2) (n := 39) rfl rfl rfl ?_
        exact w_ireturn rfl rfl H
  · replace H := H.2 hc
    refine w_iconst (v := 1) (n := 13) rfl rfl rfl ?_
    exact w_ireturn rfl rfl H
theorem c_Reader_readHead_131 {P : Int32 → mm_I → Prop} {I : mm_I} (x2 : Int32) (x3 : Int32)
  (H : (8 ≤ x3 →
      (¬ x2 = 0 →
        mm_Mi 63 [.ref 47, .int 0, .int 19] I (fun r221 I221 =>  -- Store.hasCheck
        P (if r221 = 0 then (4 : Int32) else 0) I221)) ∧
      (x2 = 0 →
        P 3 I)) ∧
    (x3 < 8 →
      (x2 = 0 →
        vp_in (7 + ((x3 - 5) * 4)) 4000 ∧
        vp_in ((7 + ((x3 - 5) * 4)) + 1) 4000 ∧
        vp_in ((7 + ((x3 - 5) * 4)) + 2) 4000 ∧
        vp_in ((7 + ((x3 - 5) * 4)) + 3) 4000 ∧
        mm_Mv 20 [.ref 49, .int x3, .int ((I 48 ((7 + ((x3 - 5) * 4)).toNatClampNeg)).toInt8.toInt32), .int ((I 48 (((7 + ((x3 - 5) * 4)) + 1).toNatClampNeg)).toInt8.toInt32), .int ((I 48 (((7 + ((x3 - 5) * 4)) + 2).toNatClampNeg)).toInt8.toInt32), .int (I 48 (((7 + ((x3 - 5) * 4)) + 3).toNatClampNeg))] I (fun I199 =>  -- Pred.tell
        mm_W 24 131 [some (.ref 46), some (.ref 48), some (.int 0), some (.int (x3 + 1)), none] [] I199 (mm_qi 24 P))) ∧
      (¬ x2 = 0 →
        vp_in ((7 + ((x3 - 5) * 4)) + 3) 4000 ∧
        mm_Mi 119 [.int (I 48 (((7 + ((x3 - 5) * 4)) + 3).toNatClampNeg))] I (fun r157 I157 =>  -- WS.isShift
        vp_in (7 + ((x3 - 5) * 4)) 4000 ∧
        vp_in ((7 + ((x3 - 5) * 4)) + 1) 4000 ∧
        vp_in ((7 + ((x3 - 5) * 4)) + 2) 4000 ∧
        vp_in ((7 + ((x3 - 5) * 4)) + 3) 4000 ∧
        mm_Mv 20 [.ref 49, .int x3, .int ((I157 48 ((7 + ((x3 - 5) * 4)).toNatClampNeg)).toInt8.toInt32), .int ((I157 48 (((7 + ((x3 - 5) * 4)) + 1).toNatClampNeg)).toInt8.toInt32), .int ((I157 48 (((7 + ((x3 - 5) * 4)) + 2).toNatClampNeg)).toInt8.toInt32), .int (I157 48 (((7 + ((x3 - 5) * 4)) + 3).toNatClampNeg))] I157 (fun I199 =>  -- Pred.tell
        mm_W 24 131 [some (.ref 46), some (.ref 48), some (.int (if r157 = 0 then (0 : Int32) else 1)), some (.int (x3 + 1)), none] [] I199 (mm_qi 24 P)))))) : mm_W 24 131 [some (.ref 46), some (.ref 48), some (.int x2), some (.int x3), none] [] I (mm_qi 24 P) := by
  refine w_iload_n (n := 132) rfl rfl rfl ?_
  refine w_bipush (v := 8) (n := 134) rfl rfl rfl ?_
  refine w_icmp_ge (n := 137) rfl rfl ⟨fun hc => ?_, fun hc => ?_⟩
  · replace H := H.1 hc
    refine w_iload_n (n := 209) rfl rfl rfl ?_
    refine w_if_ne (n := 212) rfl rfl ⟨fun hc => ?_, fun hc => ?_⟩
    · replace H := H.1 hc
      refine w_aload_nR (x := 46) (n := 215) rfl rfl rfl ?_
      refine w_getR (b := 47) (n := 218) rfl rfl rfl rfl rfl ?_
      refine w_iconst (v := 0) (n := 219) rfl rfl rfl ?_
      refine w_bipush (v := 19) (n := 221) rfl rfl rfl ?_
      refine w_calli (as := [.ref 47, .int 0, .int 19]) (rest := []) (n := 224) rfl rfl rfl rfl ?_
      obtain ⟨r221, I221, hI221, H⟩ := H
      refine ⟨r221, I221, hI221, ?_⟩
      have J224 : ∀ (w224_0 : Int32), w224_0 = (if r221 = 0 then (4 : Int32) else 0) → mm_W 24 232 [some (.ref 46), some (.ref 48), some (.int x2), some (.int x3), none] [.int w224_0] I221 (mm_qi 24 P) := by
        intro w224_0 e224_0
        subst e224_0
        exact w_ireturn rfl rfl H
      refine w_if_eq (n := 227) rfl rfl ⟨fun hc => ?_, fun hc => ?_⟩
      · refine w_iconst (v := 4) (n := 232) rfl rfl rfl ?_
        refine w_drp mm_Qf_i (J224 _ ?_) (lb_s (lb_s (lb_s (lb_s (lb_n lb_e)))))
        · exact (if_pos hc).symm
      · refine w_iconst (v := 0) (n := 228) rfl rfl rfl ?_
        refine w_goto rfl ?_
        refine w_drp mm_Qf_i (J224 _ ?_) (lb_s (lb_s (lb_s (lb_s (lb_n lb_e)))))
        · exact (if_neg hc).symm
    · replace H := H.2 hc
      refine w_iconst (v := 3) (n := 213) rfl rfl rfl ?_
      exact w_ireturn rfl rfl H
  · replace H := H.2 hc
    refine w_bipush (v := 7) (n := 139) rfl rfl rfl ?_
    refine w_iload_n (n := 140) rfl rfl rfl ?_
    refine w_iconst (v := 5) (n := 141) rfl rfl rfl ?_
    refine w_isub (n := 142) rfl rfl ?_
    refine w_iconst (v := 4) (n := 143) rfl rfl rfl ?_
    refine w_imul (n := 144) rfl rfl ?_
    refine w_iadd (n := 145) rfl rfl ?_
    refine w_istore (ls' := [some (.ref 46), some (.ref 48), some (.int x2), some (.int x3), some (.int (7 + ((x3 - 5) * 4)))]) (n := 147) rfl rfl rfl rfl ?_
    refine w_iload_n (n := 148) rfl rfl rfl ?_
    refine w_if_eq (n := 151) rfl rfl ⟨fun hc => ?_, fun hc => ?_⟩
    · replace H := H.1 hc
      refine w_iconst (v := 0) (n := 168) rfl rfl rfl ?_
      refine w_istore_n (ls' := [some (.ref 46), some (.ref 48), some (.int 0), some (.int x3), some (.int (7 + ((x3 - 5) * 4)))]) (n := 169) rfl rfl rfl rfl ?_
      refine w_aload_nR (x := 46) (n := 170) rfl rfl rfl ?_
      refine w_getR (b := 49) (n := 173) rfl rfl rfl rfl rfl ?_
      refine w_iload_n (n := 174) rfl rfl rfl ?_
      refine w_aload_nR (x := 48) (n := 175) rfl rfl rfl ?_
      refine w_iload (n := 177) rfl rfl rfl ?_
      refine w_iaload (N := 4000) (j := (7 + ((x3 - 5) * 4)).toNatClampNeg) (n := 178) rfl rfl rfl rfl rfl rfl ⟨H.1, ?_⟩
      replace H := H.2
      refine w_i2b (n := 179) rfl rfl ?_
      refine w_aload_nR (x := 48) (n := 180) rfl rfl rfl ?_
      refine w_iload (n := 182) rfl rfl rfl ?_
      refine w_iconst (v := 1) (n := 183) rfl rfl rfl ?_
      refine w_iadd (n := 184) rfl rfl ?_
      refine w_iaload (N := 4000) (j := ((7 + ((x3 - 5) * 4)) + 1).toNatClampNeg) (n := 185) rfl rfl rfl rfl rfl rfl ⟨H.1, ?_⟩
      replace H := H.2
      refine w_i2b (n := 186) rfl rfl ?_
      refine w_aload_nR (x := 48) (n := 187) rfl rfl rfl ?_
      refine w_iload (n := 189) rfl rfl rfl ?_
      refine w_iconst (v := 2) (n := 190) rfl rfl rfl ?_
      refine w_iadd (n := 191) rfl rfl ?_
      refine w_iaload (N := 4000) (j := ((7 + ((x3 - 5) * 4)) + 2).toNatClampNeg) (n := 192) rfl rfl rfl rfl rfl rfl ⟨H.1, ?_⟩
      replace H := H.2
      refine w_i2b (n := 193) rfl rfl ?_
      refine w_aload_nR (x := 48) (n := 194) rfl rfl rfl ?_
      refine w_iload (n := 196) rfl rfl rfl ?_
      refine w_iconst (v := 3) (n := 197) rfl rfl rfl ?_
      refine w_iadd (n := 198) rfl rfl ?_
      refine w_iaload (N := 4000) (j := ((7 + ((x3 - 5) * 4)) + 3).toNatClampNeg) (n := 199) rfl rfl rfl rfl rfl rfl ⟨H.1, ?_⟩
      replace H := H.2
      refine w_callv (as := [.ref 49, .int x3, .int ((I 48 ((7 + ((x3 - 5) * 4)).toNatClampNeg)).toInt8.toInt32), .int ((I 48 (((7 + ((x3 - 5) * 4)) + 1).toNatClampNeg)).toInt8.toInt32), .int ((I 48 (((7 + ((x3 - 5) * 4)) + 2).toNatClampNeg)).toInt8.toInt32), .int (I 48 (((7 + ((x3 - 5) * 4)) + 3).toNatClampNeg))]) (rest := []) (n := 202) rfl rfl rfl rfl ?_
      obtain ⟨I199, hI199, H⟩ := H
      refine ⟨I199, hI199, ?_⟩
      refine w_iinc (y := x3 + 1) (ls' := [some (.ref 46), some (.ref 48), some (.int 0), some (.int (x3 + 1)), some (.int (7 + ((x3 - 5) * 4)))]) (n := 205) rfl rfl rfl rfl rfl ?_
      refine w_goto rfl ?_
      exact w_drp mm_Qf_i H (lb_s (lb_s (lb_s (lb_s (lb_n lb_e)))))
    · replace H := H.2 hc
      refine w_aload_nR (x := 48) (n := 152) rfl rfl rfl ?_
      refine w_iload (n := 154) rfl rfl rfl ?_
      refine w_iconst (v := 3) (n := 155) rfl rfl rfl ?_
      refine w_iadd (n := 156) rfl rfl ?_
      refine w_iaload (N := 4000) (j := ((7 + ((x3 - 5) * 4)) + 3).toNatClampNeg) (n := 157) rfl rfl rfl rfl rfl rfl ⟨H.1, ?_⟩
      replace H := H.2
      refine w_calli (as := [.int (I 48 (((7 + ((x3 - 5) * 4)) + 3).toNatClampNeg))]) (rest := []) (n := 160) rfl rfl rfl rfl ?_
      obtain ⟨r157, I157, hI157, H⟩ := H
      refine ⟨r157, I157, hI157, ?_⟩
      have J160 : ∀ (w160_0 : Int32), w160_0 = (if r157 = 0 then (0 : Int32) else 1) → mm_W 24 168 [some (.ref 46), some (.ref 48), some (.int x2), some (.int x3), some (.int (7 + ((x3 - 5) * 4)))] [.int w160_0] I157 (mm_qi 24 P) := by
        intro w160_0 e160_0
        subst e160_0
        refine w_istore_n (ls' := [some (.ref 46), some (.ref 48), some (.int (if r157 = 0 then (0 : Int32) else 1)), some (.int x3), some (.int (7 + ((x3 - 5) * 4)))]) (n := 169) rfl rfl rfl rfl ?_
        refine w_aload_nR (x := 46) (n := 170) rfl rfl rfl ?_
        refine w_getR (b := 49) (n := 173) rfl rfl rfl rfl rfl ?_
        refine w_iload_n (n := 174) rfl rfl rfl ?_
        refine w_aload_nR (x := 48) (n := 175) rfl rfl rfl ?_
        refine w_iload (n := 177) rfl rfl rfl ?_
        refine w_iaload (N := 4000) (j := (7 + ((x3 - 5) * 4)).toNatClampNeg) (n := 178) rfl rfl rfl rfl rfl rfl ⟨H.1, ?_⟩
        replace H := H.2
        refine w_i2b (n := 179) rfl rfl ?_
        refine w_aload_nR (x := 48) (n := 180) rfl rfl rfl ?_
        refine w_iload (n := 182) rfl rfl rfl ?_
        refine w_iconst (v := 1) (n := 183) rfl rfl rfl ?_
        refine w_iadd (n := 184) rfl rfl ?_
        refine w_iaload (N := 4000) (j := ((7 + ((x3 - 5) * 4)) + 1).toNatClampNeg) (n := 185) rfl rfl rfl rfl rfl rfl ⟨H.1, ?_⟩
        replace H := H.2
        refine w_i2b (n := 186) rfl rfl ?_
        refine w_aload_nR (x := 48) (n := 187) rfl rfl rfl ?_
        refine w_iload (n := 189) rfl rfl rfl ?_
        refine w_iconst (v := 2) (n := 190) rfl rfl rfl ?_
        refine w_iadd (n := 191) rfl rfl ?_
        refine w_iaload (N := 4000) (j := ((7 + ((x3 - 5) * 4)) + 2).toNatClampNeg) (n := 192) rfl rfl rfl rfl rfl rfl ⟨H.1, ?_⟩
        replace H := H.2
        refine w_i2b (n := 193) rfl rfl ?_
        refine w_aload_nR (x := 48) (n := 194) rfl rfl rfl ?_
        refine w_iload (n := 196) rfl rfl rfl ?_
        refine w_iconst (v := 3) (n := 197) rfl rfl rfl ?_
        refine w_iadd (n := 198) rfl rfl ?_
        refine w_iaload (N := 4000) (j := ((7 + ((x3 - 5) * 4)) + 3).toNatClampNeg) (n := 199) rfl rfl rfl rfl rfl rfl ⟨H.1, ?_⟩
        replace H := H.2
        refine w_callv (as := [.ref 49, .int x3, .int ((I157 48 ((7 + ((x3 - 5) * 4)).toNatClampNeg)).toInt8.toInt32), .int ((I157 48 (((7 + ((x3 - 5) * 4)) + 1).toNatClampNeg)).toInt8.toInt32), .int ((I157 48 (((7 + ((x3 - 5) * 4)) + 2).toNatClampNeg)).toInt8.toInt32), .int (I157 48 (((7 + ((x3 - 5) * 4)) + 3).toNatClampNeg))]) (rest := []) (n := 202) rfl rfl rfl rfl ?_
        obtain ⟨I199, hI199, H⟩ := H
        refine ⟨I199, hI199, ?_⟩
        refine w_iinc (y := x3 + 1) (ls' := [some (.ref 46), some (.ref 48), some (.int (if r157 = 0 then (0 : Int32) else 1)), some (.int (x3 + 1)), some (.int (7 + ((x3 - 5) * 4)))]) (n := 205) rfl rfl rfl rfl rfl ?_
        refine w_goto rfl ?_
        exact w_drp mm_Qf_i H (lb_s (lb_s (lb_s (lb_s (lb_n lb_e)))))
      refine w_if_eq (n := 163) rfl rfl ⟨fun hc => ?_, fun hc => ?_⟩
      · refine w_iconst (v := 0) (n := 168) rfl rfl rfl ?_
        refine w_drp mm_Qf_i (J160 _ ?_) (lb_s (lb_s (lb_s (lb_s (lb_s lb_e)))))
        · exact (if_pos hc).symm
      · refine w_iconst (v := 1) (n := 164) rfl rfl rfl ?_
        refine w_goto rfl ?_
        refine w_drp mm_Qf_i (J160 _ ?_) (lb_s (lb_s (lb_s (lb_s (lb_s lb_e)))))
        · exact (if_neg hc).symm
theorem e_Reader_frames {P : Int32 → mm_I → Prop} {I : mm_I}
  (H : ((I 46 4) ≤ 0 →
      P 0 I) ∧
    (0 < (I 46 4) →
      ¬ (I 46 4) = 0 ∧
      P ((((I 46 5) + (I 46 4)) - 1) / (I 46 4)) I)) : mm_Mi 25 [.ref 46] I P := by
  refine mm_Mi_of ?_
  show mm_W 25 0 [some (.ref 46)] [] I (mm_qi 25 P)
  refine w_aload_nR (x := 46) (n := 1) rfl rfl rfl ?_
  refine w_getI (n := 4) rfl rfl rfl rfl ?_
  refine w_if_le (n := 7) rfl rfl ⟨fun hc => ?_, fun hc => ?_⟩
  · replace H := H.1 hc
    refine w_iconst (v := 0) (n := 27) rfl rfl rfl ?_
    exact w_ireturn rfl rfl H
  · replace H := H.2 hc
    refine w_aload_nR (x := 46) (n := 8) rfl rfl rfl ?_
    refine w_getI (n := 11) rfl rfl rfl rfl ?_
    refine w_aload_nR (x := 46) (n := 12) rfl rfl rfl ?_
    refine w_getI (n := 15) rfl rfl rfl rfl ?_
    refine w_iadd (n := 16) rfl rfl ?_
    refine w_iconst (v := 1) (n := 17) rfl rfl rfl ?_
    refine w_isub (n := 18) rfl rfl ?_
    refine w_aload_nR (x := 46) (n := 19) rfl rfl rfl ?_
    refine w_getI (n := 22) rfl rfl rfl rfl ?_
    refine w_idiv (n := 23) rfl rfl ⟨H.1, ?_⟩
    replace H := H.2
    refine w_goto rfl ?_
    exact w_ireturn rfl rfl H
theorem e_Reader_numberAt {P : Int32 → mm_I → Prop} {I : mm_I} (x1 : Int32)
  (H : mm_Mi 57 [.ref 47, .int x1] I (fun r5 I5 =>  -- Store.has
    (r5 = 0 →
      P (-1) I5) ∧
    (¬ r5 = 0 →
      mm_Mi 57 [.ref 47, .int (x1 + 1)] I5 (fun r18 I18 =>  -- Store.has
      (r18 = 0 →
        P (-1) I18) ∧
      (¬ r18 = 0 →
        vp_in x1 4000 ∧
        ((I18 48 x1.toNatClampNeg) = 165 →
          vp_in (x1 + 1) 4000 ∧
          mm_Mi 25 [.ref 46] I18 (fun r55 I55 =>  -- Reader.frames
          P (if r55 ≤ (I18 48 ((x1 + 1).toNatClampNeg)) then ((-1) : Int32) else (I18 48 ((x1 + 1).toNatClampNeg))) I55)) ∧
        (¬ (I18 48 x1.toNatClampNeg) = 165 →
          P (-1) I18)))))) : mm_Mi 26 [.ref 46, .int x1] I P := by
  refine mm_Mi_of ?_
  show mm_W 26 0 [some (.ref 46), some (.int x1), none] [] I (mm_qi 26 P)
  refine w_aload_nR (x := 46) (n := 1) rfl rfl rfl ?_
  refine w_getR (b := 47) (n := 4) rfl rfl rfl rfl rfl ?_
  refine w_iload_n (n := 5) rfl rfl rfl ?_
  refine w_calli (as := [.ref 47, .int x1]) (rest := []) (n := 8) rfl rfl rfl rfl ?_
  obtain ⟨r5, I5, hI5, H⟩ := H
  refine ⟨r5, I5, hI5, ?_⟩
  refine w_if_eq (n := 11) rfl rfl ⟨fun hc => ?_, fun hc => ?_⟩
  · replace H := H.1 hc
    refine w_iconst (v := (-1)) (n := 40) rfl rfl rfl ?_
    exact w_ireturn rfl rfl H
  · replace H := H.2 hc
    refine w_aload_nR (x := 46) (n := 12) rfl rfl rfl ?_
    refine w_getR (b := 47) (n := 15) rfl rfl rfl rfl rfl ?_
    refine w_iload_n (n := 16) rfl rfl rfl ?_
    refine w_iconst (v := 1) (n := 17) rfl rfl rfl ?_
    refine w_iadd (n := 18) rfl rfl ?_
    refine w_calli (as := [.ref 47, .int (x1 + 1)]) (rest := []) (n := 21) rfl rfl rfl rfl ?_
    obtain ⟨r18, I18, hI18, H⟩ := H
    refine ⟨r18, I18, hI18, ?_⟩
    refine w_if_eq (n := 24) rfl rfl ⟨fun hc => ?_, fun hc => ?_⟩
    · replace H := H.1 hc
      refine w_iconst (v := (-1)) (n := 40) rfl rfl rfl ?_
      exact w_ireturn rfl rfl H
    · replace H := H.2 hc
      refine w_aload_nR (x := 46) (n := 25) rfl rfl rfl ?_
      refine w_getR (b := 47) (n := 28) rfl rfl rfl rfl rfl ?_
      refine w_getR (b := 48) (n := 31) rfl rfl rfl rfl rfl ?_
      refine w_iload_n (n := 32) rfl rfl rfl ?_
      refine w_iaload (N := 4000) (j := x1.toNatClampNeg) (n := 33) rfl rfl rfl rfl rfl rfl ⟨H.1, ?_⟩
      replace H := H.2
      refine w_sipush (v := 165) (n := 36) rfl rfl rfl ?_
      refine w_icmp_eq (n := 39) rfl rfl ⟨fun hc => ?_, fun hc => ?_⟩
      · replace H := H.1 hc
        refine w_aload_nR (x := 46) (n := 42) rfl rfl rfl ?_
        refine w_getR (b := 47) (n := 45) rfl rfl rfl rfl rfl ?_
        refine w_getR (b := 48) (n := 48) rfl rfl rfl rfl rfl ?_
        refine w_iload_n (n := 49) rfl rfl rfl ?_
        refine w_iconst (v := 1) (n := 50) rfl rfl rfl ?_
        refine w_iadd (n := 51) rfl rfl ?_
        refine w_iaload (N := 4000) (j := (x1 + 1).toNatClampNeg) (n := 52) rfl rfl rfl rfl rfl rfl ⟨H.1, ?_⟩
        replace H := H.2
        refine w_istore_n (ls' := [some (.ref 46), some (.int x1), some (.int (I18 48 ((x1 + 1).toNatClampNeg)))]) (n := 53) rfl rfl rfl rfl ?_
        refine w_iload_n (n := 54) rfl rfl rfl ?_
        refine w_aload_nR (x := 46) (n := 55) rfl rfl rfl ?_
        refine w_calli (as := [.ref 46]) (rest := [.int (I18 48 ((x1 + 1).toNatClampNeg))]) (n := 58) rfl rfl rfl rfl ?_
        obtain ⟨r55, I55, hI55, H⟩ := H
        refine ⟨r55, I55, hI55, ?_⟩
        have J58 : ∀ (w58_0 : Int32), w58_0 = (if r55 ≤ (I18 48 ((x1 + 1).toNatClampNeg)) then ((-1) : Int32) else (I18 48 ((x1 + 1).toNatClampNeg))) → mm_W 26 66 [some (.ref 46), some (.int x1), some (.int (I18 48 ((x1 + 1).toNatClampNeg)))] [.int w58_0] I55 (mm_qi 26 P) := by
          intro w58_0 e58_0
          subst e58_0
          exact w_ireturn rfl rfl H
        refine w_icmp_ge (n := 61) rfl rfl ⟨fun hc => ?_, fun hc => ?_⟩
        · refine w_iconst (v := (-1)) (n := 66) rfl rfl rfl ?_
          refine w_drp mm_Qf_i (J58 _ ?_) (lb_s (lb_s (lb_s lb_e)))
          · exact (if_pos hc).symm
        · refine w_iload_n (n := 62) rfl rfl rfl ?_
          refine w_goto rfl ?_
          refine w_drp mm_Qf_i (J58 _ ?_) (lb_s (lb_s (lb_s lb_e)))
          · exact (if_neg (fa_nle hc)).symm
      · replace H := H.2 hc
        refine w_iconst (v := (-1)) (n := 40) rfl rfl rfl ?_
        exact w_ireturn rfl rfl H
theorem e_Reader_lengthAt {P : Int32 → mm_I → Prop} {I : mm_I} (x1 : Int32)
  (H : mm_Mi 26 [.ref 46, .int x1] I (fun r2 I2 =>  -- Reader.numberAt
    (¬ r2 = (-1) →
      mm_Mi 226 [.int (I2 46 4), .int ((I2 46 5) - (r2 * (I2 46 4)))] I2 (fun r28 I28 =>  -- Math.min
      (¬ (I28 46 2) = 2 →
        mm_Mv 31 [.ref 46, .ref 53, .int r28, .int (I28 46 3)] (mm_up (mm_up I28 46 6 ((x1 + 2) * 8)) 46 7 0) (fun I91 =>  -- Reader.readRow
        (¬ (I91 46 2) = 2 →
          (¬ (I91 46 7) = 0 →
            P (-1) I91) ∧
          ((I91 46 7) = 0 →
            mm_Mi 63 [.ref 47, .int x1, .int (((I91 46 6) + 7) / 8)] I91 (fun r162 I162 =>  -- Store.hasCheck
            (¬ r162 = 0 →
              mm_Mv 34 [.ref 46, .int 0, .int r28] I162 (fun I174 =>  -- Reader.part
              mm_Mi 35 [.ref 46, .ref 53, .int r28] I174 (fun r183 I183 =>  -- Reader.isOfWidth
              (r183 = 0 →
                P (-1) I183) ∧
              (¬ r183 = 0 →
                (¬ (I183 46 2) = 2 →
                  P (((((I91 46 6) + 7) / 8) + 2) - x1) I183) ∧
                ((I183 46 2) = 2 →
                  mm_Mi 35 [.ref 46, .ref 54, .int r28] I183 (fun r203 I203 =>  -- Reader.isOfWidth
                  (¬ r203 = 0 →
                    P (((((I91 46 6) + 7) / 8) + 2) - x1) I203) ∧
                  (r203 = 0 →
                    P (-1) I203))))))) ∧
            (r162 = 0 →
              P (-1) I162)))) ∧
        ((I91 46 2) = 2 →
          mm_Mv 31 [.ref 46, .ref 54, .int r28, .int (I91 46 3)] I91 (fun I133 =>  -- Reader.readRow
          (¬ (I133 46 7) = 0 →
            P (-1) I133) ∧
          ((I133 46 7) = 0 →
            mm_Mi 63 [.ref 47, .int x1, .int (((I133 46 6) + 7) / 8)] I133 (fun r162 I162 =>  -- Store.hasCheck
            (¬ r162 = 0 →
              mm_Mv 34 [.ref 46, .int 0, .int r28] I162 (fun I174 =>  -- Reader.part
              mm_Mi 35 [.ref 46, .ref 53, .int r28] I174 (fun r183 I183 =>  -- Reader.isOfWidth
              (r183 = 0 →
                P (-1) I183) ∧
              (¬ r183 = 0 →
                (¬ (I183 46 2) = 2 →
                  P (((((I133 46 6) + 7) / 8) + 2) - x1) I183) ∧
                ((I183 46 2) = 2 →
                  mm_Mi 35 [.ref 46, .ref 54, .int r28] I183 (fun r203 I203 =>  -- Reader.isOfWidth
                  (¬ r203 = 0 →
                    P (((((I133 46 6) + 7) / 8) + 2) - x1) I203) ∧
                  (r203 = 0 →
                    P (-1) I203))))))) ∧
            (r162 = 0 →
              P (-1) I162))))))) ∧
      ((I28 46 2) = 2 →
        mm_Mi 28 [.ref 46, .int 2] (mm_up (mm_up I28 46 6 ((x1 + 2) * 8)) 46 7 0) (fun r57 I57 =>  -- Reader.readBits
        mm_Mv 31 [.ref 46, .ref 53, .int r28, .int (if r57 = 2 then ((I57 46 3) + 1 : Int32) else (I57 46 3))] I57 (fun I91 =>  -- Reader.readRow
        (¬ (I91 46 2) = 2 →
          (¬ (I91 46 7) = 0 →
            P (-1) I91) ∧
          ((I91 46 7) = 0 →
            mm_Mi 63 [.ref 47, .int x1, .int (((I91 46 6) + 7) / 8)] I91 (fun r162 I162 =>  -- Store.hasCheck
            (¬ r162 = 0 →
              mm_Mv 34 [.ref 46, .int r57, .int r28] I162 (fun I174 =>  -- Reader.part
              mm_Mi 35 [.ref 46, .ref 53, .int r28] I174 (fun r183 I183 =>  -- Reader.isOfWidth
              (r183 = 0 →
                P (-1) I183) ∧
              (¬ r183 = 0 →
                (¬ (I183 46 2) = 2 →
                  P (((((I91 46 6) + 7) / 8) + 2) - x1) I183) ∧
                ((I183 46 2) = 2 →
                  mm_Mi 35 [.ref 46, .ref 54, .int r28] I183 (fun r203 I203 =>  -- Reader.isOfWidth
                  (¬ r203 = 0 →
                    P (((((I91 46 6) + 7) / 8) + 2) - x1) I203) ∧
                  (r203 = 0 →
                    P (-1) I203))))))) ∧
            (r162 = 0 →
              P (-1) I162)))) ∧
        ((I91 46 2) = 2 →
          mm_Mv 31 [.ref 46, .ref 54, .int r28, .int (if r57 = 1 then ((I91 46 3) + 1 : Int32) else (if r57 = 3 then ((I91 46 3) + 1 : Int32) else (I91 46 3)))] I91 (fun I133 =>  -- Reader.readRow
          (¬ (I133 46 7) = 0 →
            P (-1) I133) ∧
          ((I133 46 7) = 0 →
            mm_Mi 63 [.ref 47, .int x1, .int (((I133 46 6) + 7) / 8)] I133 (fun r162 I162 =>  -- Store.hasCheck
            (¬ r162 = 0 →
              mm_Mv 34 [.ref 46, .int r57, .int r28] I162 (fun I174 =>  -- Reader.part
              mm_Mi 35 [.ref 46, .ref 53, .int r28] I174 (fun r183 I183 =>  -- Reader.isOfWidth
              (r183 = 0 →
                P (-1) I183) ∧
              (¬ r183 = 0 →
                (¬ (I183 46 2) = 2 →
                  P (((((I133 46 6) + 7) / 8) + 2) - x1) I183) ∧
                ((I183 46 2) = 2 →
                  mm_Mi 35 [.ref 46, .ref 54, .int r28] I183 (fun r203 I203 =>  -- Reader.isOfWidth
                  (¬ r203 = 0 →
                    P (((((I133 46 6) + 7) / 8) + 2) - x1) I203) ∧
                  (r203 = 0 →
                    P (-1) I203))))))) ∧
            (r162 = 0 →
              P (-1) I162)))))))))) ∧
    (r2 = (-1) →
      P (-1) I2))) : mm_Mi 27 [.ref 46, .int x1] I P := by
  refine mm_Mi_of ?_
  show mm_W 27 0 [some (.ref 46), some (.int x1), none, none, none, none] [] I (mm_qi 27 P)
  refine w_aload_nR (x := 46) (n := 1) rfl rfl rfl ?_
  refine w_iload_n (n := 2) rfl rfl rfl ?_
  refine w_calli (as := [.ref 46, .int x1]) (rest := []) (n := 5) rfl rfl rfl rfl ?_
  obtain ⟨r2, I2, hI2, H⟩ := H
  refine ⟨r2, I2, hI2, ?_⟩
  refine w_istore_n (ls' := [some (.ref 46), some (.int x1), some (.int r2), none, none, none]) (n := 6) rfl rfl rfl rfl ?_
  refine w_iload_n (n := 7) rfl rfl rfl ?_
  refine w_iconst (v := (-1)) (n := 8) rfl rfl rfl ?_
  refine w_icmp_ne (n := 11) rfl rfl ⟨fun hc => ?_, fun hc => ?_⟩
  · replace H := H.1 hc
    refine w_aload_nR (x := 46) (n := 14) rfl rfl rfl ?_
    refine w_getI (n := 17) rfl rfl rfl rfl ?_
    refine w_aload_nR (x := 46) (n := 18) rfl rfl rfl ?_
    refine w_getI (n := 21) rfl rfl rfl rfl ?_
    refine w_iload_n (n := 22) rfl rfl rfl ?_
    refine w_aload_nR (x := 46) (n := 23) rfl rfl rfl ?_
    refine w_getI (n := 26) rfl rfl rfl rfl ?_
    refine w_imul (n := 27) rfl rfl ?_
    refine w_isub (n := 28) rfl rfl ?_
    refine w_calli (as := [.int (I2 46 4), .int ((I2 46 5) - (r2 * (I2 46 4)))]) (rest := []) (n := 31) rfl rfl rfl rfl ?_
    obtain ⟨r28, I28, hI28, H⟩ := H
    refine ⟨r28, I28, hI28, ?_⟩
    refine w_istore_n (ls' := [some (.ref 46), some (.int x1), some (.int r2), some (.int r28), none, none]) (n := 32) rfl rfl rfl rfl ?_
    refine w_aload_nR (x := 46) (n := 33) rfl rfl rfl ?_
    refine w_iload_n (n := 34) rfl rfl rfl ?_
    refine w_iconst (v := 2) (n := 35) rfl rfl rfl ?_
    refine w_iadd (n := 36) rfl rfl ?_
    refine w_bipush (v := 8) (n := 38) rfl rfl rfl ?_
    refine w_imul (n := 39) rfl rfl ?_
    refine w_putI (n := 42) rfl rfl rfl rfl rfl ?_
    refine w_aload_nR (x := 46) (n := 43) rfl rfl rfl ?_
    refine w_iconst (v := 0) (n := 44) rfl rfl rfl ?_
    refine w_putZ (n := 47) rfl rfl rfl rfl rfl rfl ⟨by decide, ?_⟩
    refine w_aload_nR (x := 46) (n := 48) rfl rfl rfl ?_
    refine w_getI (n := 51) rfl rfl rfl rfl ?_
    refine w_iconst (v := 2) (n := 52) rfl rfl rfl ?_
    refine w_icmp_ne (n := 55) rfl rfl ⟨fun hc => ?_, fun hc => ?_⟩
    · replace H := H.1 hc
      refine w_iconst (v := 0) (n := 64) rfl rfl rfl ?_
      refine w_istore (ls' := [some (.ref 46), some (.int x1), some (.int r2), some (.int r28), some (.int 0), none]) (n := 66) rfl rfl rfl rfl ?_
      refine w_aload_nR (x := 46) (n := 67) rfl rfl rfl ?_
      refine w_aload_nR (x := 46) (n := 68) rfl rfl rfl ?_
      refine w_getR (b := 53) (n := 71) rfl rfl rfl rfl rfl ?_
      refine w_iload_n (n := 72) rfl rfl rfl ?_
      refine w_iload (n := 74) rfl rfl rfl ?_
      refine w_iconst (v := 2) (n := 75) rfl rfl rfl ?_
      refine w_icmp_ne (n := 78) rfl rfl ⟨fun _ => ?_, fun hc => absurd hc (show ¬ ((0 : Int32) = (2 : Int32)) by decide)⟩
      refine w_aload_nR (x := 46) (n := 88) rfl rfl rfl ?_
      refine w_getI (n := 91) rfl rfl rfl rfl ?_
      refine w_callv (as := [.ref 46, .ref 53, .int r28, .int (I28 46 3)]) (rest := []) (n := 94) rfl rfl rfl rfl ?_
      obtain ⟨I91, hI91, H⟩ := H
      refine ⟨I91, hI91, ?_⟩
      refine w_aload_nR (x := 46) (n := 95) rfl rfl rfl ?_
      refine w_getI (n := 98) rfl rfl rfl rfl ?_
      refine w_iconst (v := 2) (n := 99) rfl rfl rfl ?_
      refine w_icmp_ne (n := 102) rfl rfl ⟨fun hc => ?_, fun hc => ?_⟩
      · replace H := H.1 hc
        refine w_aload_nR (x := 46) (n := 137) rfl rfl rfl ?_
        refine w_getI (n := 140) rfl rfl rfl rfl ?_
        refine w_bipush (v := 7) (n := 142) rfl rfl rfl ?_
        refine w_iadd (n := 143) rfl rfl ?_
        refine w_bipush (v := 8) (n := 145) rfl rfl rfl ?_
        refine w_idiv (n := 146) rfl rfl ⟨by decide, ?_⟩
        refine w_istore (ls' := [some (.ref 46), some (.int x1), some (.int r2), some (.int r28), some (.int 0), some (.int (((I91 46 6) + 7) / 8))]) (n := 148) rfl rfl rfl rfl ?_
        refine w_aload_nR (x := 46) (n := 149) rfl rfl rfl ?_
        refine w_getI (n := 152) rfl rfl rfl rfl ?_
        refine w_if_ne (n := 155) rfl rfl ⟨fun hc => ?_, fun hc => ?_⟩
        · replace H := H.1 hc
          refine w_iconst (v := (-1)) (n := 169) rfl rfl rfl ?_
          exact w_ireturn rfl rfl H
        · replace H := H.2 hc
          refine w_aload_nR (x := 46) (n := 156) rfl rfl rfl ?_
          refine w_getR (b := 47) (n := 159) rfl rfl rfl rfl rfl ?_
          refine w_iload_n (n := 160) rfl rfl rfl ?_
          refine w_iload (n := 162) rfl rfl rfl ?_
          refine w_calli (as := [.ref 47, .int x1, .int (((I91 46 6) + 7) / 8)]) (rest := []) (n := 165) rfl rfl rfl rfl ?_
          obtain ⟨r162, I162, hI162, H⟩ := H
          refine ⟨r162, I162, hI162, ?_⟩
          refine w_if_ne (n := 168) rfl rfl ⟨fun hc => ?_, fun hc => ?_⟩
          · replace H := H.1 hc
            refine w_aload_nR (x := 46) (n := 171) rfl rfl rfl ?_
            refine w_iload (n := 173) rfl rfl rfl ?_
            refine w_iload_n (n := 174) rfl rfl rfl ?_
            refine w_callv (as := [.ref 46, .int 0, .int r28]) (rest := []) (n := 177) rfl rfl rfl rfl ?_
            obtain ⟨I174, hI174, H⟩ := H
            refine ⟨I174, hI174, ?_⟩
            refine w_aload_nR (x := 46) (n := 178) rfl rfl rfl ?_
            refine w_aload_nR (x := 46) (n := 179) rfl rfl rfl ?_
            refine w_getR (b := 53) (n := 182) rfl rfl rfl rfl rfl ?_
            refine w_iload_n (n := 183) rfl rfl rfl ?_
            refine w_calli (as := [.ref 46, .ref 53, .int r28]) (rest := []) (n := 186) rfl rfl rfl rfl ?_
            obtain ⟨r183, I183, hI183, H⟩ := H
            refine ⟨r183, I183, hI183, ?_⟩
            refine w_if_eq (n := 189) rfl rfl ⟨fun hc => ?_, fun hc => ?_⟩
            · replace H := H.1 hc
              refine w_iconst (v := (-1)) (n := 210) rfl rfl rfl ?_
              exact w_ireturn rfl rfl H
            · replace H := H.2 hc
              refine w_aload_nR (x := 46) (n := 190) rfl rfl rfl ?_
              refine w_getI (n := 193) rfl rfl rfl rfl ?_
              refine w_iconst (v := 2) (n := 194) rfl rfl rfl ?_
              refine w_icmp_ne (n := 197) rfl rfl ⟨fun hc => ?_, fun hc => ?_⟩
              · replace H := H.1 hc
                refine w_iload (n := 213) rfl rfl rfl ?_
                refine w_iconst (v := 2) (n := 214) rfl rfl rfl ?_
                refine w_iadd (n := 215) rfl rfl ?_
                refine w_iload_n (n := 216) rfl rfl rfl ?_
                refine w_isub (n := 217) rfl rfl ?_
                exact w_ireturn rfl rfl H
              · replace H := H.2 hc
                refine w_aload_nR (x := 46) (n := 198) rfl rfl rfl ?_
                refine w_aload_nR (x := 46) (n := 199) rfl rfl rfl ?_
                refine w_getR (b := 54) (n := 202) rfl rfl rfl rfl rfl ?_
                refine w_iload_n (n := 203) rfl rfl rfl ?_
                refine w_calli (as := [.ref 46, .ref 54, .int r28]) (rest := []) (n := 206) rfl rfl rfl rfl ?_
                obtain ⟨r203, I203, hI203, H⟩ := H
                refine ⟨r203, I203, hI203, ?_⟩
                refine w_if_ne (n := 209) rfl rfl ⟨fun hc => ?_, fun hc => ?_⟩
                · replace H := H.1 hc
                  refine w_iload (n := 213) rfl rfl rfl ?_
                  refine w_iconst (v := 2) (n := 214) rfl rfl rfl ?_
                  refine w_iadd (n := 215) rfl rfl ?_
                  refine w_iload_n (n := 216) rfl rfl rfl ?_
                  refine w_isub (n := 217) rfl rfl ?_
                  exact w_ireturn rfl rfl H
                · replace H := H.2 hc
                  refine w_iconst (v := (-1)) (n := 210) rfl rfl rfl ?_
                  exact w_ireturn rfl rfl H
          · replace H := H.2 hc
            refine w_iconst (v := (-1)) (n := 169) rfl rfl rfl ?_
            exact w_ireturn rfl rfl H
      · replace H := H.2 hc
        refine w_aload_nR (x := 46) (n := 103) rfl rfl rfl ?_
        refine w_aload_nR (x := 46) (n := 104) rfl rfl rfl ?_
        refine w_getR (b := 54) (n := 107) rfl rfl rfl rfl rfl ?_
        refine w_iload_n (n := 108) rfl rfl rfl ?_
        refine w_iload (n := 110) rfl rfl rfl ?_
        refine w_iconst (v := 1) (n := 111) rfl rfl rfl ?_
        refine w_icmp_eq (n := 114) rfl rfl ⟨fun hc => absurd hc (show ¬ ((0 : Int32) = (1 : Int32)) by decide), fun _ => ?_⟩
        refine w_iload (n := 116) rfl rfl rfl ?_
        refine w_iconst (v := 3) (n := 117) rfl rfl rfl ?_
        refine w_icmp_ne (n := 120) rfl rfl ⟨fun _ => ?_, fun hc => absurd hc (show ¬ ((0 : Int32) = (3 : Int32)) by decide)⟩
        refine w_aload_nR (x := 46) (n := 130) rfl rfl rfl ?_
        refine w_getI (n := 133) rfl rfl rfl rfl ?_
        refine w_callv (as := [.ref 46, .ref 54, .int r28, .int (I91 46 3)]) (rest := []) (n := 136) rfl rfl rfl rfl ?_
        obtain ⟨I133, hI133, H⟩ := H
        refine ⟨I133, hI133, ?_⟩
        refine w_aload_nR (x := 46) (n := 137) rfl rfl rfl ?_
        refine w_getI (n := 140) rfl rfl rfl rfl ?_
        refine w_bipush (v := 7) (n := 142) rfl rfl rfl ?_
        refine w_iadd (n := 143) rfl rfl ?_
        refine w_bipush (v := 8) (n := 145) rfl rfl rfl ?_
        refine w_idiv (n := 146) rfl rfl ⟨by decide, ?_⟩
        refine w_istore (ls' := [some (.ref 46), some (.int x1), some (.int r2), some (.int r28), some (.int 0), some (.int (((I133 46 6) + 7) / 8))]) (n := 148) rfl rfl rfl rfl ?_
        refine w_aload_nR (x := 46) (n := 149) rfl rfl rfl ?_
        refine w_getI (n := 152) rfl rfl rfl rfl ?_
        refine w_if_ne (n := 155) rfl rfl ⟨fun hc => ?_, fun hc => ?_⟩
        · replace H := H.1 hc
          refine w_iconst (v := (-1)) (n := 169) rfl rfl rfl ?_
          exact w_ireturn rfl rfl H
        · replace H := H.2 hc
          refine w_aload_nR (x := 46) (n := 156) rfl rfl rfl ?_
          refine w_getR (b := 47) (n := 159) rfl rfl rfl rfl rfl ?_
          refine w_iload_n (n := 160) rfl rfl rfl ?_
          refine w_iload (n := 162) rfl rfl rfl ?_
          refine w_calli (as := [.ref 47, .int x1, .int (((I133 46 6) + 7) / 8)]) (rest := []) (n := 165) rfl rfl rfl rfl ?_
          obtain ⟨r162, I162, hI162, H⟩ := H
          refine ⟨r162, I162, hI162, ?_⟩
          refine w_if_ne (n := 168) rfl rfl ⟨fun hc => ?_, fun hc => ?_⟩
          · replace H := H.1 hc
            refine w_aload_nR (x := 46) (n := 171) rfl rfl rfl ?_
            refine w_iload (n := 173) rfl rfl rfl ?_
            refine w_iload_n (n := 174) rfl rfl rfl ?_
            refine w_callv (as := [.ref 46, .int 0, .int r28]) (rest := []) (n := 177) rfl rfl rfl rfl ?_
            obtain ⟨I174, hI174, H⟩ := H
            refine ⟨I174, hI174, ?_⟩
            refine w_aload_nR (x := 46) (n := 178) rfl rfl rfl ?_
            refine w_aload_nR (x := 46) (n := 179) rfl rfl rfl ?_
            refine w_getR (b := 53) (n := 182) rfl rfl rfl rfl rfl ?_
            refine w_iload_n (n := 183) rfl rfl rfl ?_
            refine w_calli (as := [.ref 46, .ref 53, .int r28]) (rest := []) (n := 186) rfl rfl rfl rfl ?_
            obtain ⟨r183, I183, hI183, H⟩ := H
            refine ⟨r183, I183, hI183, ?_⟩
            refine w_if_eq (n := 189) rfl rfl ⟨fun hc => ?_, fun hc => ?_⟩
            · replace H := H.1 hc
              refine w_iconst (v := (-1)) (n := 210) rfl rfl rfl ?_
              exact w_ireturn rfl rfl H
            · replace H := H.2 hc
              refine w_aload_nR (x := 46) (n := 190) rfl rfl rfl ?_
              refine w_getI (n := 193) rfl rfl rfl rfl ?_
              refine w_iconst (v := 2) (n := 194) rfl rfl rfl ?_
              refine w_icmp_ne (n := 197) rfl rfl ⟨fun hc => ?_, fun hc => ?_⟩
              · replace H := H.1 hc
                refine w_iload (n := 213) rfl rfl rfl ?_
                refine w_iconst (v := 2) (n := 214) rfl rfl rfl ?_
                refine w_iadd (n := 215) rfl rfl ?_
                refine w_iload_n (n := 216) rfl rfl rfl ?_
                refine w_isub (n := 217) rfl rfl ?_
                exact w_ireturn rfl rfl H
              · replace H := H.2 hc
                refine w_aload_nR (x := 46) (n := 198) rfl rfl rfl ?_
                refine w_aload_nR (x := 46) (n := 199) rfl rfl rfl ?_
                refine w_getR (b := 54) (n := 202) rfl rfl rfl rfl rfl ?_
                refine w_iload_n (n := 203) rfl rfl rfl ?_
                refine w_calli (as := [.ref 46, .ref 54, .int r28]) (rest := []) (n := 206) rfl rfl rfl rfl ?_
                obtain ⟨r203, I203, hI203, H⟩ := H
                refine ⟨r203, I203, hI203, ?_⟩
                refine w_if_ne (n := 209) rfl rfl ⟨fun hc => ?_, fun hc => ?_⟩
                · replace H := H.1 hc
                  refine w_iload (n := 213) rfl rfl rfl ?_
                  refine w_iconst (v := 2) (n := 214) rfl rfl rfl ?_
                  refine w_iadd (n := 215) rfl rfl ?_
                  refine w_iload_n (n := 216) rfl rfl rfl ?_
                  refine w_isub (n := 217) rfl rfl ?_
                  exact w_ireturn rfl rfl H
                · replace H := H.2 hc
                  refine w_iconst (v := (-1)) (n := 210) rfl rfl rfl ?_
                  exact w_ireturn rfl rfl H
          · replace H := H.2 hc
            refine w_iconst (v := (-1)) (n := 169) rfl rfl rfl ?_
            exact w_ireturn rfl rfl H
    · replace H := H.2 hc
      refine w_aload_nR (x := 46) (n := 56) rfl rfl rfl ?_
      refine w_iconst (v := 2) (n := 57) rfl rfl rfl ?_
      refine w_calli (as := [.ref 46, .int 2]) (rest := []) (n := 60) rfl rfl rfl rfl ?_
      obtain ⟨r57, I57, hI57, H⟩ := H
      refine ⟨r57, I57, hI57, ?_⟩
      refine w_goto rfl ?_
      refine w_istore (ls' := [some (.ref 46), some (.int x1), some (.int r2), some (.int r28), some (.int r57), none]) (n := 66) rfl rfl rfl rfl ?_
      refine w_aload_nR (x := 46) (n := 67) rfl rfl rfl ?_
      refine w_aload_nR (x := 46) (n := 68) rfl rfl rfl ?_
      refine w_getR (b := 53) (n := 71) rfl rfl rfl rfl rfl ?_
      refine w_iload_n (n := 72) rfl rfl rfl ?_
      refine w_iload (n := 74) rfl rfl rfl ?_
      refine w_iconst (v := 2) (n := 75) rfl rfl rfl ?_
      have J75 : ∀ (w75_3 : Int32), w75_3 = (if r57 = 2 then ((I57 46 3) + 1 : Int32) else (I57 46 3)) → mm_W 27 91 [some (.ref 46), some (.int x1), some (.int r2), some (.int r28), some (.int r57), none] [.int w75_3, .int r28, .ref 53, .ref 46] I57 (mm_qi 27 P) := by
        intro w75_3 e75_0
        subst e75_0
        refine w_callv (as := [.ref 46, .ref 53, .int r28, .int (if r57 = 2 then ((I57 46 3) + 1 : Int32) else (I57 46 3))]) (rest := []) (n := 94) rfl rfl rfl rfl ?_
        obtain ⟨I91, hI91, H⟩ := H
        refine ⟨I91, hI91, ?_⟩
        refine w_aload_nR (x := 46) (n := 95) rfl rfl rfl ?_
        refine w_getI (n := 98) rfl rfl rfl rfl ?_
        refine w_iconst (v := 2) (n := 99) rfl rfl rfl ?_
        refine w_icmp_ne (n := 102) rfl rfl ⟨fun hc => ?_, fun hc => ?_⟩
        · replace H := H.1 hc
          refine w_aload_nR (x := 46) (n := 137) rfl rfl rfl ?_
          refine w_getI (n := 140) rfl rfl rfl rfl ?_
          refine w_bipush (v := 7) (n := 142) rfl rfl rfl ?_
          refine w_iadd (n := 143) rfl rfl ?_
          refine w_bipush (v := 8) (n := 145) rfl rfl rfl ?_
          refine w_idiv (n := 146) rfl rfl ⟨by decide, ?_⟩
          refine w_istore (ls' := [some (.ref 46), some (.int x1), some (.int r2), some (.int r28), some (.int r57), some (.int (((I91 46 6) + 7) / 8))]) (n := 148) rfl rfl rfl rfl ?_
          refine w_aload_nR (x := 46) (n := 149) rfl rfl rfl ?_
          refine w_getI (n := 152) rfl rfl rfl rfl ?_
          refine w_if_ne (n := 155) rfl rfl ⟨fun hc => ?_, fun hc => ?_⟩
          · replace H := H.1 hc
            refine w_iconst (v := (-1)) (n := 169) rfl rfl rfl ?_
            exact w_ireturn rfl rfl H
          · replace H := H.2 hc
            refine w_aload_nR (x := 46) (n := 156) rfl rfl rfl ?_
            refine w_getR (b := 47) (n := 159) rfl rfl rfl rfl rfl ?_
            refine w_iload_n (n := 160) rfl rfl rfl ?_
            refine w_iload (n := 162) rfl rfl rfl ?_
            refine w_calli (as := [.ref 47, .int x1, .int (((I91 46 6) + 7) / 8)]) (rest := []) (n := 165) rfl rfl rfl rfl ?_
            obtain ⟨r162, I162, hI162, H⟩ := H
            refine ⟨r162, I162, hI162, ?_⟩
            refine w_if_ne (n := 168) rfl rfl ⟨fun hc => ?_, fun hc => ?_⟩
            · replace H := H.1 hc
              refine w_aload_nR (x := 46) (n := 171) rfl rfl rfl ?_
              refine w_iload (n := 173) rfl rfl rfl ?_
              refine w_iload_n (n := 174) rfl rfl rfl ?_
              refine w_callv (as := [.ref 46, .int r57, .int r28]) (rest := []) (n := 177) rfl rfl rfl rfl ?_
              obtain ⟨I174, hI174, H⟩ := H
              refine ⟨I174, hI174, ?_⟩
              refine w_aload_nR (x := 46) (n := 178) rfl rfl rfl ?_
              refine w_aload_nR (x := 46) (n := 179) rfl rfl rfl ?_
              refine w_getR (b := 53) (n := 182) rfl rfl rfl rfl rfl ?_
              refine w_iload_n (n := 183) rfl rfl rfl ?_
              refine w_calli (as := [.ref 46, .ref 53, .int r28]) (rest := []) (n := 186) rfl rfl rfl rfl ?_
              obtain ⟨r183, I183, hI183, H⟩ := H
              refine ⟨r183, I183, hI183, ?_⟩
              refine w_if_eq (n := 189) rfl rfl ⟨fun hc => ?_, fun hc => ?_⟩
              · replace H := H.1 hc
                refine w_iconst (v := (-1)) (n := 210) rfl rfl rfl ?_
                exact w_ireturn rfl rfl H
              · replace H := H.2 hc
                refine w_aload_nR (x := 46) (n := 190) rfl rfl rfl ?_
                refine w_getI (n := 193) rfl rfl rfl rfl ?_
                refine w_iconst (v := 2) (n := 194) rfl rfl rfl ?_
                refine w_icmp_ne (n := 197) rfl rfl ⟨fun hc => ?_, fun hc => ?_⟩
                · replace H := H.1 hc
                  refine w_iload (n := 213) rfl rfl rfl ?_
                  refine w_iconst (v := 2) (n := 214) rfl rfl rfl ?_
                  refine w_iadd (n := 215) rfl rfl ?_
                  refine w_iload_n (n := 216) rfl rfl rfl ?_
                  refine w_isub (n := 217) rfl rfl ?_
                  exact w_ireturn rfl rfl H
                · replace H := H.2 hc
                  refine w_aload_nR (x := 46) (n := 198) rfl rfl rfl ?_
                  refine w_aload_nR (x := 46) (n := 199) rfl rfl rfl ?_
                  refine w_getR (b := 54) (n := 202) rfl rfl rfl rfl rfl ?_
                  refine w_iload_n (n := 203) rfl rfl rfl ?_
                  refine w_calli (as := [.ref 46, .ref 54, .int r28]) (rest := []) (n := 206) rfl rfl rfl rfl ?_
                  obtain ⟨r203, I203, hI203, H⟩ := H
                  refine ⟨r203, I203, hI203, ?_⟩
                  refine w_if_ne (n := 209) rfl rfl ⟨fun hc => ?_, fun hc => ?_⟩
                  · replace H := H.1 hc
                    refine w_iload (n := 213) rfl rfl rfl ?_
                    refine w_iconst (v := 2) (n := 214) rfl rfl rfl ?_
                    refine w_iadd (n := 215) rfl rfl ?_
                    refine w_iload_n (n := 216) rfl rfl rfl ?_
                    refine w_isub (n := 217) rfl rfl ?_
                    exact w_ireturn rfl rfl H
                  · replace H := H.2 hc
                    refine w_iconst (v := (-1)) (n := 210) rfl rfl rfl ?_
                    exact w_ireturn rfl rfl H
            · replace H := H.2 hc
              refine w_iconst (v := (-1)) (n := 169) rfl rfl rfl ?_
              exact w_ireturn rfl rfl H
        · replace H := H.2 hc
          refine w_aload_nR (x := 46) (n := 103) rfl rfl rfl ?_
          refine w_aload_nR (x := 46) (n := 104) rfl rfl rfl ?_
          refine w_getR (b := 54) (n := 107) rfl rfl rfl rfl rfl ?_
          refine w_iload_n (n := 108) rfl rfl rfl ?_
          refine w_iload (n := 110) rfl rfl rfl ?_
          refine w_iconst (v := 1) (n := 111) rfl rfl rfl ?_
          have J111 : ∀ (w111_3 : Int32), w111_3 = (if r57 = 1 then ((I91 46 3) + 1 : Int32) else (if r57 = 3 then ((I91 46 3) + 1 : Int32) else (I91 46 3))) → mm_W 27 133 [some (.ref 46), some (.int x1), some (.int r2), some (.int r28), some (.int r57), none] [.int w111_3, .int r28, .ref 54, .ref 46] I91 (mm_qi 27 P) := by
            intro w111_3 e111_0
            subst e111_0
            refine w_callv (as := [.ref 46, .ref 54, .int r28, .int (if r57 = 1 then ((I91 46 3) + 1 : Int32) else (if r57 = 3 then ((I91 46 3) + 1 : Int32) else (I91 46 3)))]) (rest := []) (n := 136) rfl rfl rfl rfl ?_
            obtain ⟨I133, hI133, H⟩ := H
            refine ⟨I133, hI133, ?_⟩
            refine w_aload_nR (x := 46) (n := 137) rfl rfl rfl ?_
            refine w_getI (n := 140) rfl rfl rfl rfl ?_
            refine w_bipush (v := 7) (n := 142) rfl rfl rfl ?_
            refine w_iadd (n := 143) rfl rfl ?_
            refine w_bipush (v := 8) (n := 145) rfl rfl rfl ?_
            refine w_idiv (n := 146) rfl rfl ⟨by decide, ?_⟩
            refine w_istore (ls' := [some (.ref 46), some (.int x1), some (.int r2), some (.int r28), some (.int r57), some (.int (((I133 46 6) + 7) / 8))]) (n := 148) rfl rfl rfl rfl ?_
            refine w_aload_nR (x := 46) (n := 149) rfl rfl rfl ?_
            refine w_getI (n := 152) rfl rfl rfl rfl ?_
            refine w_if_ne (n := 155) rfl rfl ⟨fun hc => ?_, fun hc => ?_⟩
            · replace H := H.1 hc
              refine w_iconst (v := (-1)) (n := 169) rfl rfl rfl ?_
              exact w_ireturn rfl rfl H
            · replace H := H.2 hc
              refine w_aload_nR (x := 46) (n := 156) rfl rfl rfl ?_
              refine w_getR (b := 47) (n := 159) rfl rfl rfl rfl rfl ?_
              refine w_iload_n (n := 160) rfl rfl rfl ?_
              refine w_iload (n := 162) rfl rfl rfl ?_
              refine w_calli (as := [.ref 47, .int x1, .int (((I133 46 6) + 7) / 8)]) (rest := []) (n := 165) rfl rfl rfl rfl ?_
              obtain ⟨r162, I162, hI162, H⟩ := H
              refine ⟨r162, I162, hI162, ?_⟩
              refine w_if_ne (n := 168) rfl rfl ⟨fun hc => ?_, fun hc => ?_⟩
              · replace H := H.1 hc
                refine w_aload_nR (x := 46) (n := 171) rfl rfl rfl ?_
                refine w_iload (n := 173) rfl rfl rfl ?_
                refine w_iload_n (n := 174) rfl rfl rfl ?_
                refine w_callv (as := [.ref 46, .int r57, .int r28]) (rest := []) (n := 177) rfl rfl rfl rfl ?_
                obtain ⟨I174, hI174, H⟩ := H
                refine ⟨I174, hI174, ?_⟩
                refine w_aload_nR (x := 46) (n := 178) rfl rfl rfl ?_
                refine w_aload_nR (x := 46) (n := 179) rfl rfl rfl ?_
                refine w_getR (b := 53) (n := 182) rfl rfl rfl rfl rfl ?_
                refine w_iload_n (n := 183) rfl rfl rfl ?_
                refine w_calli (as := [.ref 46, .ref 53, .int r28]) (rest := []) (n := 186) rfl rfl rfl rfl ?_
                obtain ⟨r183, I183, hI183, H⟩ := H
                refine ⟨r183, I183, hI183, ?_⟩
                refine w_if_eq (n := 189) rfl rfl ⟨fun hc => ?_, fun hc => ?_⟩
                · replace H := H.1 hc
                  refine w_iconst (v := (-1)) (n := 210) rfl rfl rfl ?_
                  exact w_ireturn rfl rfl H
                · replace H := H.2 hc
                  refine w_aload_nR (x := 46) (n := 190) rfl rfl rfl ?_
                  refine w_getI (n := 193) rfl rfl rfl rfl ?_
                  refine w_iconst (v := 2) (n := 194) rfl rfl rfl ?_
                  refine w_icmp_ne (n := 197) rfl rfl ⟨fun hc => ?_, fun hc => ?_⟩
                  · replace H := H.1 hc
                    refine w_iload (n := 213) rfl rfl rfl ?_
                    refine w_iconst (v := 2) (n := 214) rfl rfl rfl ?_
                    refine w_iadd (n := 215) rfl rfl ?_
                    refine w_iload_n (n := 216) rfl rfl rfl ?_
                    refine w_isub (n := 217) rfl rfl ?_
                    exact w_ireturn rfl rfl H
                  · replace H := H.2 hc
                    refine w_aload_nR (x := 46) (n := 198) rfl rfl rfl ?_
                    refine w_aload_nR (x := 46) (n := 199) rfl rfl rfl ?_
                    refine w_getR (b := 54) (n := 202) rfl rfl rfl rfl rfl ?_
                    refine w_iload_n (n := 203) rfl rfl rfl ?_
                    refine w_calli (as := [.ref 46, .ref 54, .int r28]) (rest := []) (n := 206) rfl rfl rfl rfl ?_
                    obtain ⟨r203, I203, hI203, H⟩ := H
                    refine ⟨r203, I203, hI203, ?_⟩
                    refine w_if_ne (n := 209) rfl rfl ⟨fun hc => ?_, fun hc => ?_⟩
                    · replace H := H.1 hc
                      refine w_iload (n := 213) rfl rfl rfl ?_
                      refine w_iconst (v := 2) (n := 214) rfl rfl rfl ?_
                      refine w_iadd (n := 215) rfl rfl ?_
                      refine w_iload_n (n := 216) rfl rfl rfl ?_
                      refine w_isub (n := 217) rfl rfl ?_
                      exact w_ireturn rfl rfl H
                    · replace H := H.2 hc
                      refine w_iconst (v := (-1)) (n := 210) rfl rfl rfl ?_
                      exact w_ireturn rfl rfl H
              · replace H := H.2 hc
                refine w_iconst (v := (-1)) (n := 169) rfl rfl rfl ?_
                exact w_ireturn rfl rfl H
          refine w_icmp_eq (n := 114) rfl rfl ⟨fun hc => ?_, fun hc => ?_⟩
          · refine w_aload_nR (x := 46) (n := 121) rfl rfl rfl ?_
            refine w_getI (n := 124) rfl rfl rfl rfl ?_
            refine w_iconst (v := 1) (n := 125) rfl rfl rfl ?_
            refine w_iadd (n := 126) rfl rfl ?_
            refine w_goto rfl ?_
            refine w_drp mm_Qf_i (J111 _ ?_) (lb_s (lb_s (lb_s (lb_s (lb_s (lb_n lb_e))))))
            · exact (if_pos hc).symm
          · refine w_iload (n := 116) rfl rfl rfl ?_
            refine w_iconst (v := 3) (n := 117) rfl rfl rfl ?_
            have J117 : ∀ (w117_3 : Int32), w117_3 = (if r57 = 3 then ((I91 46 3) + 1 : Int32) else (I91 46 3)) → mm_W 27 133 [some (.ref 46), some (.int x1), some (.int r2), some (.int r28), some (.int r57), none] [.int w117_3, .int r28, .ref 54, .ref 46] I91 (mm_qi 27 P) := by
              intro w117_3 e117_0
              subst e117_0
              refine w_drp mm_Qf_i (J111 _ ?_) (lb_s (lb_s (lb_s (lb_s (lb_s (lb_n lb_e))))))
              · exact (if_neg hc).symm
            refine w_icmp_ne (n := 120) rfl rfl ⟨fun hc => ?_, fun hc => ?_⟩
            · refine w_aload_nR (x := 46) (n := 130) rfl rfl rfl ?_
              refine w_getI (n := 133) rfl rfl rfl rfl ?_
              refine w_drp mm_Qf_i (J117 _ ?_) (lb_s (lb_s (lb_s (lb_s (lb_s (lb_n lb_e))))))
              · exact (if_neg hc).symm
            · refine w_aload_nR (x := 46) (n := 121) rfl rfl rfl ?_
              refine w_getI (n := 124) rfl rfl rfl rfl ?_
              refine w_iconst (v := 1) (n := 125) rfl rfl rfl ?_
              refine w_iadd (n := 126) rfl rfl ?_
              refine w_goto rfl ?_
              refine w_drp mm_Qf_i (J117 _ ?_) (lb_s (lb_s (lb_s (lb_s (lb_s (lb_n lb_e))))))
              · exact (if_pos hc).symm
      refine w_icmp_ne (n := 78) rfl rfl ⟨fun hc => ?_, fun hc => ?_⟩
      · refine w_aload_nR (x := 46) (n := 88) rfl rfl rfl ?_
        refine w_getI (n := 91) rfl rfl rfl rfl ?_
        refine w_drp mm_Qf_i (J75 _ ?_) (lb_s (lb_s (lb_s (lb_s (lb_s (lb_n lb_e))))))
        · exact (if_neg hc).symm
      · refine w_aload_nR (x := 46) (n := 79) rfl rfl rfl ?_
        refine w_getI (n := 82) rfl rfl rfl rfl ?_
        refine w_iconst (v := 1) (n := 83) rfl rfl rfl ?_
        refine w_iadd (n := 84) rfl rfl ?_
        refine w_goto rfl ?_
        refine w_drp mm_Qf_i (J75 _ ?_) (lb_s (lb_s (lb_s (lb_s (lb_s (lb_n lb_e))))))
        · exact (if_pos hc).symm
  · replace H := H.2 hc
    refine w_iconst (v := (-1)) (n := 12) rfl rfl rfl ?_
    exact w_ireturn rfl rfl H
theorem e_Reader_readBits {P : Int32 → mm_I → Prop} {I : mm_I} (x1 : Int32)
  (H : (¬ (I 46 7) = 0 →
      P 0 (mm_up I 46 7 1)) ∧
    ((I 46 7) = 0 →
      (x1 ≤ (((I 47 1) * 8) - (I 46 6)) →
        mm_W 28 37 [some (.ref 46), some (.int x1), some (.int 0), some (.int 0)] [] I (mm_qi 28 P)) ∧
      ((((I 47 1) * 8) - (I 46 6)) < x1 →
        P 0 (mm_up I 46 7 1)))) : mm_Mi 28 [.ref 46, .int x1] I P := by
  refine mm_Mi_of ?_
  show mm_W 28 0 [some (.ref 46), some (.int x1), none, none] [] I (mm_qi 28 P)
  refine w_aload_nR (x := 46) (n := 1) rfl rfl rfl ?_
  refine w_getI (n := 4) rfl rfl rfl rfl ?_
  refine w_if_ne (n := 7) rfl rfl ⟨fun hc => ?_, fun hc => ?_⟩
  · replace H := H.1 hc
    refine w_aload_nR (x := 46) (n := 27) rfl rfl rfl ?_
    refine w_iconst (v := 1) (n := 28) rfl rfl rfl ?_
    refine w_putZ (n := 31) rfl rfl rfl rfl rfl rfl ⟨by decide, ?_⟩
    refine w_iconst (v := 0) (n := 32) rfl rfl rfl ?_
    exact w_ireturn rfl rfl H
  · replace H := H.2 hc
    refine w_iload_n (n := 8) rfl rfl rfl ?_
    refine w_aload_nR (x := 46) (n := 9) rfl rfl rfl ?_
    refine w_getR (b := 47) (n := 12) rfl rfl rfl rfl rfl ?_
    refine w_getI (n := 15) rfl rfl rfl rfl ?_
    refine w_bipush (v := 8) (n := 17) rfl rfl rfl ?_
    refine w_imul (n := 18) rfl rfl ?_
    refine w_aload_nR (x := 46) (n := 19) rfl rfl rfl ?_
    refine w_getI (n := 22) rfl rfl rfl rfl ?_
    refine w_isub (n := 23) rfl rfl ?_
    refine w_icmp_le (n := 26) rfl rfl ⟨fun hc => ?_, fun hc => ?_⟩
    · replace H := H.1 hc
      refine w_iconst (v := 0) (n := 34) rfl rfl rfl ?_
      refine w_istore_n (ls' := [some (.ref 46), some (.int x1), some (.int 0), none]) (n := 35) rfl rfl rfl rfl ?_
      refine w_iconst (v := 0) (n := 36) rfl rfl rfl ?_
      refine w_istore_n (ls' := [some (.ref 46), some (.int x1), some (.int 0), some (.int 0)]) (n := 37) rfl rfl rfl rfl ?_
      exact w_drp mm_Qf_i H (lb_s (lb_s (lb_s (lb_s lb_e))))
    · replace H := H.2 hc
      refine w_aload_nR (x := 46) (n := 27) rfl rfl rfl ?_
      refine w_iconst (v := 1) (n := 28) rfl rfl rfl ?_
      refine w_putZ (n := 31) rfl rfl rfl rfl rfl rfl ⟨by decide, ?_⟩
      refine w_iconst (v := 0) (n := 32) rfl rfl rfl ?_
      exact w_ireturn rfl rfl H
theorem c_Reader_readBits_37 {P : Int32 → mm_I → Prop} {I : mm_I} (x1 : Int32) (x2 : Int32) (x3 : Int32)
  (H : (x1 ≤ x3 →
      P x2 I) ∧
    (x3 < x1 →
      vp_in ((I 46 6) >>> (3 &&& 31)) 4000 ∧
      mm_W 28 37 [some (.ref 46), some (.int x1), some (.int ((x2 <<< (1 &&& 31)) ||| (((I 48 (((I 46 6) >>> (3 &&& 31)).toNatClampNeg)) >>> ((7 - ((I 46 6) &&& 7)) &&& 31)) &&& 1))), some (.int (x3 + 1))] [] (mm_up I 46 6 ((I 46 6) + 1)) (mm_qi 28 P))) : mm_W 28 37 [some (.ref 46), some (.int x1), some (.int x2), some (.int x3)] [] I (mm_qi 28 P) := by
  refine w_iload_n (n := 38) rfl rfl rfl ?_
  refine w_iload_n (n := 39) rfl rfl rfl ?_
  refine w_icmp_ge (n := 42) rfl rfl ⟨fun hc => ?_, fun hc => ?_⟩
  · replace H := H.1 hc
    refine w_iload_n (n := 91) rfl rfl rfl ?_
    exact w_ireturn rfl rfl H
  · replace H := H.2 hc
    refine w_iload_n (n := 43) rfl rfl rfl ?_
    refine w_iconst (v := 1) (n := 44) rfl rfl rfl ?_
    refine w_ishl (n := 45) rfl rfl ?_
    refine w_aload_nR (x := 46) (n := 46) rfl rfl rfl ?_
    refine w_getR (b := 47) (n := 49) rfl rfl rfl rfl rfl ?_
    refine w_getR (b := 48) (n := 52) rfl rfl rfl rfl rfl ?_
    refine w_aload_nR (x := 46) (n := 53) rfl rfl rfl ?_
    refine w_getI (n := 56) rfl rfl rfl rfl ?_
    refine w_iconst (v := 3) (n := 57) rfl rfl rfl ?_
    refine w_ishr (n := 58) rfl rfl ?_
    refine w_iaload (N := 4000) (j := ((I 46 6) >>> (3 &&& 31)).toNatClampNeg) (n := 59) rfl rfl rfl rfl rfl rfl ⟨H.1, ?_⟩
    replace H := H.2
    refine w_bipush (v := 7) (n := 61) rfl rfl rfl ?_
    refine w_aload_nR (x := 46) (n := 62) rfl rfl rfl ?_
    refine w_getI (n := 65) rfl rfl rfl rfl ?_
    refine w_bipush (v := 7) (n := 67) rfl rfl rfl ?_
    refine w_iand (n := 68) rfl rfl ?_
    refine w_isub (n := 69) rfl rfl ?_
    refine w_ishr (n := 70) rfl rfl ?_
    refine w_iconst (v := 1) (n := 71) rfl rfl rfl ?_
    refine w_iand (n := 72) rfl rfl ?_
    refine w_ior (n := 73) rfl rfl ?_
    refine w_istore_n (ls' := [some (.ref 46), some (.int x1), some (.int ((x2 <<< (1 &&& 31)) ||| (((I 48 (((I 46 6) >>> (3 &&& 31)).toNatClampNeg)) >>> ((7 - ((I 46 6) &&& 7)) &&& 31)) &&& 1))), some (.int x3)]) (n := 74) rfl rfl rfl rfl ?_
    refine w_aload_nR (x := 46) (n := 75) rfl rfl rfl ?_
    refine w_dup (n := 76) rfl rfl rfl ?_
    refine w_getI (n := 79) rfl rfl rfl rfl ?_
    refine w_iconst (v := 1) (n := 80) rfl rfl rfl ?_
    refine w_iadd (n := 81) rfl rfl ?_
    refine w_putI (n := 84) rfl rfl rfl rfl rfl ?_
    refine w_iinc (y := x3 + 1) (ls' := [some (.ref 46), some (.int x1), some (.int ((x2 <<< (1 &&& 31)) ||| (((I 48 (((I 46 6) >>> (3 &&& 31)).toNatClampNeg)) >>> ((7 - ((I 46 6) &&& 7)) &&& 31)) &&& 1))), some (.int (x3 + 1))]) (n := 87) rfl rfl rfl rfl rfl ?_
    refine w_goto rfl ?_
    exact w_drp mm_Qf_i H (lb_s (lb_s (lb_s (lb_s lb_e))))
theorem e_Reader_readSigned {P : Int32 → mm_I → Prop} {I : mm_I} (x1 : Int32)
  (H : mm_Mi 28 [.ref 46, .int x1] I (fun r2 I2 =>  -- Reader.readBits
    P (if 1 ≤ x1 then ((r2 <<< ((32 - x1) &&& 31)) >>> ((32 - x1) &&& 31) : Int32) else 0) I2)) : mm_Mi 29 [.ref 46, .int x1] I P := by
  refine mm_Mi_of ?_
  show mm_W 29 0 [some (.ref 46), some (.int x1), none] [] I (mm_qi 29 P)
  refine w_aload_nR (x := 46) (n := 1) rfl rfl rfl ?_
  refine w_iload_n (n := 2) rfl rfl rfl ?_
  refine w_calli (as := [.ref 46, .int x1]) (rest := []) (n := 5) rfl rfl rfl rfl ?_
  obtain ⟨r2, I2, hI2, H⟩ := H
  refine ⟨r2, I2, hI2, ?_⟩
  refine w_istore_n (ls' := [some (.ref 46), some (.int x1), some (.int r2)]) (n := 6) rfl rfl rfl rfl ?_
  refine w_iload_n (n := 7) rfl rfl rfl ?_
  refine w_iconst (v := 1) (n := 8) rfl rfl rfl ?_
  have J8 : ∀ (w8_0 : Int32), w8_0 = (if 1 ≤ x1 then ((r2 <<< ((32 - x1) &&& 31)) >>> ((32 - x1) &&& 31) : Int32) else 0) → mm_W 29 26 [some (.ref 46), some (.int x1), some (.int r2)] [.int w8_0] I2 (mm_qi 29 P) := by
    intro w8_0 e8_0
    subst e8_0
    exact w_ireturn rfl rfl H
  refine w_icmp_ge (n := 11) rfl rfl ⟨fun hc => ?_, fun hc => ?_⟩
  · refine w_iload_n (n := 16) rfl rfl rfl ?_
    refine w_bipush (v := 32) (n := 18) rfl rfl rfl ?_
    refine w_iload_n (n := 19) rfl rfl rfl ?_
    refine w_isub (n := 20) rfl rfl ?_
    refine w_ishl (n := 21) rfl rfl ?_
    refine w_bipush (v := 32) (n := 23) rfl rfl rfl ?_
    refine w_iload_n (n := 24) rfl rfl rfl ?_
    refine w_isub (n := 25) rfl rfl ?_
    refine w_ishr (n := 26) rfl rfl ?_
    refine w_drp mm_Qf_i (J8 _ ?_) (lb_s (lb_s (lb_s lb_e)))
    · exact (if_pos hc).symm
  · refine w_iconst (v := 0) (n := 12) rfl rfl rfl ?_
    refine w_goto rfl ?_
    refine w_drp mm_Qf_i (J8 _ ?_) (lb_s (lb_s (lb_s lb_e)))
    · exact (if_neg (fa_nle hc)).symm
