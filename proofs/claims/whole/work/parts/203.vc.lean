theorem e_Row_choose {P : mm_I → Prop} {I : mm_I} {rr : Nat} (hs0 : rr = 22 ∨ rr = 28 ∨ rr = 34 ∨ rr = 40) (x3 : Int32) (x4 : Int32)
  (H : mm_Mi 42 [.ref rr] (mm_up I rr 5 0) (fun r6 I6 =>  -- Row.isStill
    (r6 = 0 →
      mm_W 41 39 [some (.ref rr), some (.ref 6), some (.ref 11), some (.int x3), some (.int x4), some (.int 0), some (.int 2147483647), some (.int 0), none] [] I6 (mm_qv 41 P)) ∧
    (¬ r6 = 0 →
      P (mm_up (mm_up I6 rr 3 8) rr 4 (4 + (I6 rr 2)))))) : mm_Mv 41 [.ref rr, .ref 6, .ref 11, .int x3, .int x4] I P := by
  rcases hs0 with rfl | rfl | rfl | rfl
  · refine mm_Mv_of ?_
    show mm_W 41 0 [some (.ref 22), some (.ref 6), some (.ref 11), some (.int x3), some (.int x4), none, none, none, none] [] I (mm_qv 41 P)
    refine w_aload_nR (x := 22) (n := 1) rfl rfl rfl ?_
    refine w_iconst (v := 0) (n := 2) rfl rfl rfl ?_
    refine w_putI (n := 5) rfl rfl rfl rfl rfl ?_
    refine w_aload_nR (x := 22) (n := 6) rfl rfl rfl ?_
    refine w_calli (as := [.ref 22]) (rest := []) (n := 9) rfl rfl rfl rfl ?_
    obtain ⟨r6, I6, hI6, H⟩ := H
    refine ⟨r6, I6, hI6, ?_⟩
    refine w_if_eq (n := 12) rfl rfl ⟨fun hc => ?_, fun hc => ?_⟩
    · replace H := H.1 hc
      refine w_iconst (v := 0) (n := 30) rfl rfl rfl ?_
      refine w_istore (ls' := [some (.ref 22), some (.ref 6), some (.ref 11), some (.int x3), some (.int x4), some (.int 0), none, none, none]) (n := 32) rfl rfl rfl rfl ?_
      refine w_ldc (v := 2147483647) (n := 34) rfl rfl rfl ?_
      refine w_istore (ls' := [some (.ref 22), some (.ref 6), some (.ref 11), some (.int x3), some (.int x4), some (.int 0), some (.int 2147483647), none, none]) (n := 36) rfl rfl rfl rfl ?_
      refine w_iconst (v := 0) (n := 37) rfl rfl rfl ?_
      refine w_istore (ls' := [some (.ref 22), some (.ref 6), some (.ref 11), some (.int x3), some (.int x4), some (.int 0), some (.int 2147483647), some (.int 0), none]) (n := 39) rfl rfl rfl rfl ?_
      exact w_drp mm_Qf_v H (lb_s (lb_s (lb_s (lb_s (lb_s (lb_s (lb_s (lb_s (lb_n lb_e)))))))))
    · replace H := H.2 hc
      refine w_aload_nR (x := 22) (n := 13) rfl rfl rfl ?_
      refine w_bipush (v := 8) (n := 15) rfl rfl rfl ?_
      refine w_putI (n := 18) rfl rfl rfl rfl rfl ?_
      refine w_aload_nR (x := 22) (n := 19) rfl rfl rfl ?_
      refine w_iconst (v := 4) (n := 20) rfl rfl rfl ?_
      refine w_aload_nR (x := 22) (n := 21) rfl rfl rfl ?_
      refine w_getI (n := 24) rfl rfl rfl rfl ?_
      refine w_iadd (n := 25) rfl rfl ?_
      refine w_putI (n := 28) rfl rfl rfl rfl rfl ?_
      exact w_vreturn rfl rfl H
  · refine mm_Mv_of ?_
    show mm_W 41 0 [some (.ref 28), some (.ref 6), some (.ref 11), some (.int x3), some (.int x4), none, none, none, none] [] I (mm_qv 41 P)
    refine w_aload_nR (x := 28) (n := 1) rfl rfl rfl ?_
    refine w_iconst (v := 0) (n := 2) rfl rfl rfl ?_
    refine w_putI (n := 5) rfl rfl rfl rfl rfl ?_
    refine w_aload_nR (x := 28) (n := 6) rfl rfl rfl ?_
    refine w_calli (as := [.ref 28]) (rest := []) (n := 9) rfl rfl rfl rfl ?_
    obtain ⟨r6, I6, hI6, H⟩ := H
    refine ⟨r6, I6, hI6, ?_⟩
    refine w_if_eq (n := 12) rfl rfl ⟨fun hc => ?_, fun hc => ?_⟩
    · replace H := H.1 hc
      refine w_iconst (v := 0) (n := 30) rfl rfl rfl ?_
      refine w_istore (ls' := [some (.ref 28), some (.ref 6), some (.ref 11), some (.int x3), some (.int x4), some (.int 0), none, none, none]) (n := 32) rfl rfl rfl rfl ?_
      refine w_ldc (v := 2147483647) (n := 34) rfl rfl rfl ?_
      refine w_istore (ls' := [some (.ref 28), some (.ref 6), some (.ref 11), some (.int x3), some (.int x4), some (.int 0), some (.int 2147483647), none, none]) (n := 36) rfl rfl rfl rfl ?_
      refine w_iconst (v := 0) (n := 37) rfl rfl rfl ?_
      refine w_istore (ls' := [some (.ref 28), some (.ref 6), some (.ref 11), some (.int x3), some (.int x4), some (.int 0), some (.int 2147483647), some (.int 0), none]) (n := 39) rfl rfl rfl rfl ?_
      exact w_drp mm_Qf_v H (lb_s (lb_s (lb_s (lb_s (lb_s (lb_s (lb_s (lb_s (lb_n lb_e)))))))))
    · replace H := H.2 hc
      refine w_aload_nR (x := 28) (n := 13) rfl rfl rfl ?_
      refine w_bipush (v := 8) (n := 15) rfl rfl rfl ?_
      refine w_putI (n := 18) rfl rfl rfl rfl rfl ?_
      refine w_aload_nR (x := 28) (n := 19) rfl rfl rfl ?_
      refine w_iconst (v := 4) (n := 20) rfl rfl rfl ?_
      refine w_aload_nR (x := 28) (n := 21) rfl rfl rfl ?_
      refine w_getI (n := 24) rfl rfl rfl rfl ?_
      refine w_iadd (n := 25) rfl rfl ?_
      refine w_putI (n := 28) rfl rfl rfl rfl rfl ?_
      exact w_vreturn rfl rfl H
  · refine mm_Mv_of ?_
    show mm_W 41 0 [some (.ref 34), some (.ref 6), some (.ref 11), some (.int x3), some (.int x4), none, none, none, none] [] I (mm_qv 41 P)
    refine w_aload_nR (x := 34) (n := 1) rfl rfl rfl ?_
    refine w_iconst (v := 0) (n := 2) rfl rfl rfl ?_
    refine w_putI (n := 5) rfl rfl rfl rfl rfl ?_
    refine w_aload_nR (x := 34) (n := 6) rfl rfl rfl ?_
    refine w_calli (as := [.ref 34]) (rest := []) (n := 9) rfl rfl rfl rfl ?_
    obtain ⟨r6, I6, hI6, H⟩ := H
    refine ⟨r6, I6, hI6, ?_⟩
    refine w_if_eq (n := 12) rfl rfl ⟨fun hc => ?_, fun hc => ?_⟩
    · replace H := H.1 hc
      refine w_iconst (v := 0) (n := 30) rfl rfl rfl ?_
      refine w_istore (ls' := [some (.ref 34), some (.ref 6), some (.ref 11), some (.int x3), some (.int x4), some (.int 0), none, none, none]) (n := 32) rfl rfl rfl rfl ?_
      refine w_ldc (v := 2147483647) (n := 34) rfl rfl rfl ?_
      refine w_istore (ls' := [some (.ref 34), some (.ref 6), some (.ref 11), some (.int x3), some (.int x4), some (.int 0), some (.int 2147483647), none, none]) (n := 36) rfl rfl rfl rfl ?_
      refine w_iconst (v := 0) (n := 37) rfl rfl rfl ?_
      refine w_istore (ls' := [some (.ref 34), some (.ref 6), some (.ref 11), some (.int x3), some (.int x4), some (.int 0), some (.int 2147483647), some (.int 0), none]) (n := 39) rfl rfl rfl rfl ?_
      exact w_drp mm_Qf_v H (lb_s (lb_s (lb_s (lb_s (lb_s (lb_s (lb_s (lb_s (lb_n lb_e)))))))))
    · replace H := H.2 hc
      refine w_aload_nR (x := 34) (n := 13) rfl rfl rfl ?_
      refine w_bipush (v := 8) (n := 15) rfl rfl rfl ?_
      refine w_putI (n := 18) rfl rfl rfl rfl rfl ?_
      refine w_aload_nR (x := 34) (n := 19) rfl rfl rfl ?_
      refine w_iconst (v := 4) (n := 20) rfl rfl rfl ?_
      refine w_aload_nR (x := 34) (n := 21) rfl rfl rfl ?_
      refine w_getI (n := 24) rfl rfl rfl rfl ?_
      refine w_iadd (n := 25) rfl rfl ?_
      refine w_putI (n := 28) rfl rfl rfl rfl rfl ?_
      exact w_vreturn rfl rfl H
  · refine mm_Mv_of ?_
    show mm_W 41 0 [some (.ref 40), some (.ref 6), some (.ref 11), some (.int x3), some (.int x4), none, none, none, none] [] I (mm_qv 41 P)
    refine w_aload_nR (x := 40) (n := 1) rfl rfl rfl ?_
    refine w_iconst (v := 0) (n := 2) rfl rfl rfl ?_
    refine w_putI (n := 5) rfl rfl rfl rfl rfl ?_
    refine w_aload_nR (x := 40) (n := 6) rfl rfl rfl ?_
    refine w_calli (as := [.ref 40]) (rest := []) (n := 9) rfl rfl rfl rfl ?_
    obtain ⟨r6, I6, hI6, H⟩ := H
    refine ⟨r6, I6, hI6, ?_⟩
    refine w_if_eq (n := 12) rfl rfl ⟨fun hc => ?_, fun hc => ?_⟩
    · replace H := H.1 hc
      refine w_iconst (v := 0) (n := 30) rfl rfl rfl ?_
      refine w_istore (ls' := [some (.ref 40), some (.ref 6), some (.ref 11), some (.int x3), some (.int x4), some (.int 0), none, none, none]) (n := 32) rfl rfl rfl rfl ?_
      refine w_ldc (v := 2147483647) (n := 34) rfl rfl rfl ?_
      refine w_istore (ls' := [some (.ref 40), some (.ref 6), some (.ref 11), some (.int x3), some (.int x4), some (.int 0), some (.int 2147483647), none, none]) (n := 36) rfl rfl rfl rfl ?_
      refine w_iconst (v := 0) (n := 37) rfl rfl rfl ?_
      refine w_istore (ls' := [some (.ref 40), some (.ref 6), some (.ref 11), some (.int x3), some (.int x4), some (.int 0), some (.int 2147483647), some (.int 0), none]) (n := 39) rfl rfl rfl rfl ?_
      exact w_drp mm_Qf_v H (lb_s (lb_s (lb_s (lb_s (lb_s (lb_s (lb_s (lb_s (lb_n lb_e)))))))))
    · replace H := H.2 hc
      refine w_aload_nR (x := 40) (n := 13) rfl rfl rfl ?_
      refine w_bipush (v := 8) (n := 15) rfl rfl rfl ?_
      refine w_putI (n := 18) rfl rfl rfl rfl rfl ?_
      refine w_aload_nR (x := 40) (n := 19) rfl rfl rfl ?_
      refine w_iconst (v := 4) (n := 20) rfl rfl rfl ?_
      refine w_aload_nR (x := 40) (n := 21) rfl rfl rfl ?_
      refine w_getI (n := 24) rfl rfl rfl rfl ?_
      refine w_iadd (n := 25) rfl rfl ?_
      refine w_putI (n := 28) rfl rfl rfl rfl rfl ?_
      exact w_vreturn rfl rfl H
theorem c_Row_choose_39 {P : mm_I → Prop} {I : mm_I} {rr : Nat} (hs0 : rr = 22 ∨ rr = 28 ∨ rr = 34 ∨ rr = 40) (x3 : Int32) (x4 : Int32) (x5 : Int32) (x6 : Int32) (x7 : Int32)
  (H : (8 ≤ x7 →
      mm_Mv 2 [.ref 11, .ref rr, .ref 6, .int x5] (mm_up I rr 3 x5) (fun I139 =>  -- Cutter.load
      vp_in x5 8 ∧
      mm_Mi 43 [.ref rr, .int (I139 8 x5.toNatClampNeg)] I139 (fun r151 I151 =>  -- Row.firstBits
      (¬ x3 = 0 →
        mm_Mi 6 [.ref 11] I151 (fun r166 I166 =>  -- Cutter.cutForLeast
        ((r151 + r166) ≤ (4 + ((I166 rr 1) * (I166 rr 2))) →
          mm_Mv 44 [.ref rr, .ref 11] (mm_up I166 rr 4 (r151 + r166)) (fun I217 =>  -- Row.keepRuns
          P I217)) ∧
        ((4 + ((I166 rr 1) * (I166 rr 2))) < (r151 + r166) →
          P (mm_up (mm_up (mm_up I166 rr 4 (r151 + r166)) rr 3 9) rr 4 (4 + ((I166 rr 1) * (I166 rr 2))))))) ∧
      (x3 = 0 →
        mm_Mi 4 [.ref 11] I151 (fun r159 I159 =>  -- Cutter.cutNowhere
        ((r151 + r159) ≤ (4 + ((I159 rr 1) * (I159 rr 2))) →
          mm_Mv 44 [.ref rr, .ref 11] (mm_up I159 rr 4 (r151 + r159)) (fun I217 =>  -- Row.keepRuns
          P I217)) ∧
        ((4 + ((I159 rr 1) * (I159 rr 2))) < (r151 + r159) →
          P (mm_up (mm_up (mm_up I159 rr 4 (r151 + r159)) rr 3 9) rr 4 (4 + ((I159 rr 1) * (I159 rr 2)))))))))) ∧
    (x7 < 8 →
      (((x4 >>> (x7 &&& 31)) &&& 1) = 0 →
        mm_W 41 39 [some (.ref rr), some (.ref 6), some (.ref 11), some (.int x3), some (.int x4), some (.int x5), some (.int x6), some (.int (x7 + 1)), none] [] I (mm_qv 41 P)) ∧
      (¬ ((x4 >>> (x7 &&& 31)) &&& 1) = 0 →
        vp_in x7 8 ∧
        ((I rr 1) ≤ (I 8 x7.toNatClampNeg) →
          mm_W 41 39 [some (.ref rr), some (.ref 6), some (.ref 11), some (.int x3), some (.int x4), some (.int x5), some (.int x6), some (.int (x7 + 1)), none] [] I (mm_qv 41 P)) ∧
        ((I 8 x7.toNatClampNeg) < (I rr 1) →
          mm_Mv 2 [.ref 11, .ref rr, .ref 6, .int x7] I (fun I75 =>  -- Cutter.load
          (¬ x3 = 0 →
            vp_in x7 8 ∧
            mm_Mi 43 [.ref rr, .int (I75 8 x7.toNatClampNeg)] I75 (fun r97 I97 =>  -- Row.firstBits
            mm_Mi 6 [.ref 11] I97 (fun r101 I101 =>  -- Cutter.cutForLeast
            mm_W 41 39 [some (.ref rr), some (.ref 6), some (.ref 11), some (.int x3), some (.int x4), some (.int (if x6 ≤ (r97 + r101) then (x5 : Int32) else x7)), some (.int (if x6 ≤ (r97 + r101) then (x6 : Int32) else r97 + r101)), some (.int (x7 + 1)), none] [] I101 (mm_qv 41 P)))) ∧
          (x3 = 0 →
            mm_W 41 39 [some (.ref rr), some (.ref 6), some (.ref 11), some (.int x3), some (.int x4), some (.int (if x6 ≤ (I75 11 3) then (x5 : Int32) else x7)), some (.int (if x6 ≤ (I75 11 3) then (x6 : Int32) else (I75 11 3))), some (.int (x7 + 1)), none] [] I75 (mm_qv 41 P))))))) : mm_W 41 39 [some (.ref rr), some (.ref 6), some (.ref 11), some (.int x3), some (.int x4), some (.int x5), some (.int x6), some (.int x7), none] [] I (mm_qv 41 P) := by
  rcases hs0 with rfl | rfl | rfl | rfl
  · refine w_iload (n := 41) rfl rfl rfl ?_
    refine w_bipush (v := 8) (n := 43) rfl rfl rfl ?_
    refine w_icmp_ge (n := 46) rfl rfl ⟨fun hc => ?_, fun hc => ?_⟩
    · replace H := H.1 hc
      refine w_aload_nR (x := 22) (n := 129) rfl rfl rfl ?_
      refine w_iload (n := 131) rfl rfl rfl ?_
      refine w_putI (n := 134) rfl rfl rfl rfl rfl ?_
      refine w_aload_nR (x := 11) (n := 135) rfl rfl rfl ?_
      refine w_aload_nR (x := 22) (n := 136) rfl rfl rfl ?_
      refine w_aload_nR (x := 6) (n := 137) rfl rfl rfl ?_
      refine w_iload (n := 139) rfl rfl rfl ?_
      refine w_callv (as := [.ref 11, .ref 22, .ref 6, .int x5]) (rest := []) (n := 142) rfl rfl rfl rfl ?_
      obtain ⟨I139, hI139, H⟩ := H
      refine ⟨I139, hI139, ?_⟩
      refine w_aload_nR (x := 22) (n := 143) rfl rfl rfl ?_
      refine w_aload_nR (x := 22) (n := 144) rfl rfl rfl ?_
      refine w_aload_nR (x := 6) (n := 145) rfl rfl rfl ?_
      refine w_getR (b := 8) (n := 148) rfl rfl rfl rfl rfl ?_
      refine w_iload (n := 150) rfl rfl rfl ?_
      refine w_iaload (N := 8) (j := x5.toNatClampNeg) (n := 151) rfl rfl rfl rfl rfl rfl ⟨H.1, ?_⟩
      replace H := H.2
      refine w_calli (as := [.ref 22, .int (I139 8 x5.toNatClampNeg)]) (rest := [.ref 22]) (n := 154) rfl rfl rfl rfl ?_
      obtain ⟨r151, I151, hI151, H⟩ := H
      refine ⟨r151, I151, hI151, ?_⟩
      refine w_iload_n (n := 155) rfl rfl rfl ?_
      refine w_if_ne (n := 158) rfl rfl ⟨fun hc => ?_, fun hc => ?_⟩
      · replace H := H.1 hc
        refine w_aload_nR (x := 11) (n := 166) rfl rfl rfl ?_
        refine w_calli (as := [.ref 11]) (rest := [.int r151, .ref 22]) (n := 169) rfl rfl rfl rfl ?_
        obtain ⟨r166, I166, hI166, H⟩ := H
        refine ⟨r166, I166, hI166, ?_⟩
        refine w_iadd (n := 170) rfl rfl ?_
        refine w_putI (n := 173) rfl rfl rfl rfl rfl ?_
        refine w_aload_nR (x := 22) (n := 174) rfl rfl rfl ?_
        refine w_getI (n := 177) rfl rfl rfl rfl ?_
        refine w_iconst (v := 4) (n := 178) rfl rfl rfl ?_
        refine w_aload_nR (x := 22) (n := 179) rfl rfl rfl ?_
        refine w_getI (n := 182) rfl rfl rfl rfl ?_
        refine w_aload_nR (x := 22) (n := 183) rfl rfl rfl ?_
        refine w_getI (n := 186) rfl rfl rfl rfl ?_
        refine w_imul (n := 187) rfl rfl ?_
        refine w_iadd (n := 188) rfl rfl ?_
        refine w_icmp_le (n := 191) rfl rfl ⟨fun hc => ?_, fun hc => ?_⟩
        · replace H := H.1 hc
          refine w_aload_nR (x := 22) (n := 216) rfl rfl rfl ?_
          refine w_aload_nR (x := 11) (n := 217) rfl rfl rfl ?_
          refine w_callv (as := [.ref 22, .ref 11]) (rest := []) (n := 220) rfl rfl rfl rfl ?_
          obtain ⟨I217, hI217, H⟩ := H
          refine ⟨I217, hI217, ?_⟩
          exact w_vreturn rfl rfl H
        · replace H := H.2 hc
          refine w_aload_nR (x := 22) (n := 192) rfl rfl rfl ?_
          refine w_bipush (v := 9) (n := 194) rfl rfl rfl ?_
          refine w_putI (n := 197) rfl rfl rfl rfl rfl ?_
          refine w_aload_nR (x := 22) (n := 198) rfl rfl rfl ?_
          refine w_iconst (v := 4) (n := 199) rfl rfl rfl ?_
          refine w_aload_nR (x := 22) (n := 200) rfl rfl rfl ?_
          refine w_getI (n := 203) rfl rfl rfl rfl ?_
          refine w_aload_nR (x := 22) (n := 204) rfl rfl rfl ?_
          refine w_getI (n := 207) rfl rfl rfl rfl ?_
          refine w_imul (n := 208) rfl rfl ?_
          refine w_iadd (n := 209) rfl rfl ?_
          refine w_putI (n := 212) rfl rfl rfl rfl rfl ?_
          refine w_goto rfl ?_
          exact w_vreturn rfl rfl H
      · replace H := H.2 hc
        refine w_aload_nR (x := 11) (n := 159) rfl rfl rfl ?_
        refine w_calli (as := [.ref 11]) (rest := [.int r151, .ref 22]) (n := 162) rfl rfl rfl rfl ?_
        obtain ⟨r159, I159, hI159, H⟩ := H
        refine ⟨r159, I159, hI159, ?_⟩
        refine w_goto rfl ?_
        refine w_iadd (n := 170) rfl rfl ?_
        refine w_putI (n := 173) rfl rfl rfl rfl rfl ?_
        refine w_aload_nR (x := 22) (n := 174) rfl rfl rfl ?_
        refine w_getI (n := 177) rfl rfl rfl rfl ?_
        refine w_iconst (v := 4) (n := 178) rfl rfl rfl ?_
        refine w_aload_nR (x := 22) (n := 179) rfl rfl rfl ?_
        refine w_getI (n := 182) rfl rfl rfl rfl ?_
        refine w_aload_nR (x := 22) (n := 183) rfl rfl rfl ?_
        refine w_getI (n := 186) rfl rfl rfl rfl ?_
        refine w_imul (n := 187) rfl rfl ?_
        refine w_iadd (n := 188) rfl rfl ?_
        refine w_icmp_le (n := 191) rfl rfl ⟨fun hc => ?_, fun hc => ?_⟩
        · replace H := H.1 hc
          refine w_aload_nR (x := 22) (n := 216) rfl rfl rfl ?_
          refine w_aload_nR (x := 11) (n := 217) rfl rfl rfl ?_
          refine w_callv (as := [.ref 22, .ref 11]) (rest := []) (n := 220) rfl rfl rfl rfl ?_
          obtain ⟨I217, hI217, H⟩ := H
          refine ⟨I217, hI217, ?_⟩
          exact w_vreturn rfl rfl H
        · replace H := H.2 hc
          refine w_aload_nR (x := 22) (n := 192) rfl rfl rfl ?_
          refine w_bipush (v := 9) (n := 194) rfl rfl rfl ?_
          refine w_putI (n := 197) rfl rfl rfl rfl rfl ?_
          refine w_aload_nR (x := 22) (n := 198) rfl rfl rfl ?_
          refine w_iconst (v := 4) (n := 199) rfl rfl rfl ?_
          refine w_aload_nR (x := 22) (n := 200) rfl rfl rfl ?_
          refine w_getI (n := 203) rfl rfl rfl rfl ?_
          refine w_aload_nR (x := 22) (n := 204) rfl rfl rfl ?_
          refine w_getI (n := 207) rfl rfl rfl rfl ?_
          refine w_imul (n := 208) rfl rfl ?_
          refine w_iadd (n := 209) rfl rfl ?_
          refine w_putI (n := 212) rfl rfl rfl rfl rfl ?_
          refine w_goto rfl ?_
          exact w_vreturn rfl rfl H
    · replace H := H.2 hc
      refine w_iload (n := 48) rfl rfl rfl ?_
      refine w_iload (n := 50) rfl rfl rfl ?_
      refine w_ishr (n := 51) rfl rfl ?_
      refine w_iconst (v := 1) (n := 52) rfl rfl rfl ?_
      refine w_iand (n := 53) rfl rfl ?_
      refine w_if_eq (n := 56) rfl rfl ⟨fun hc => ?_, fun hc => ?_⟩
      · replace H := H.1 hc
        refine w_iinc (y := x7 + 1) (ls' := [some (.ref 22), some (.ref 6), some (.ref 11), some (.int x3), some (.int x4), some (.int x5), some (.int x6), some (.int (x7 + 1)), none]) (n := 125) rfl rfl rfl rfl rfl ?_
        refine w_goto rfl ?_
        exact w_drp mm_Qf_v H (lb_s (lb_s (lb_s (lb_s (lb_s (lb_s (lb_s (lb_s (lb_n lb_e)))))))))
      · replace H := H.2 hc
        refine w_aload_nR (x := 6) (n := 57) rfl rfl rfl ?_
        refine w_getR (b := 8) (n := 60) rfl rfl rfl rfl rfl ?_
        refine w_iload (n := 62) rfl rfl rfl ?_
        refine w_iaload (N := 8) (j := x7.toNatClampNeg) (n := 63) rfl rfl rfl rfl rfl rfl ⟨H.1, ?_⟩
        replace H := H.2
        refine w_aload_nR (x := 22) (n := 64) rfl rfl rfl ?_
        refine w_getI (n := 67) rfl rfl rfl rfl ?_
        refine w_icmp_ge (n := 70) rfl rfl ⟨fun hc => ?_, fun hc => ?_⟩
        · replace H := H.1 hc
          refine w_iinc (y := x7 + 1) (ls' := [some (.ref 22), some (.ref 6), some (.ref 11), some (.int x3), some (.int x4), some (.int x5), some (.int x6), some (.int (x7 + 1)), none]) (n := 125) rfl rfl rfl rfl rfl ?_
          refine w_goto rfl ?_
          exact w_drp mm_Qf_v H (lb_s (lb_s (lb_s (lb_s (lb_s (lb_s (lb_s (lb_s (lb_n lb_e)))))))))
        · replace H := H.2 hc
          refine w_aload_nR (x := 11) (n := 71) rfl rfl rfl ?_
          refine w_aload_nR (x := 22) (n := 72) rfl rfl rfl ?_
          refine w_aload_nR (x := 6) (n := 73) rfl rfl rfl ?_
          refine w_iload (n := 75) rfl rfl rfl ?_
          refine w_callv (as := [.ref 11, .ref 22, .ref 6, .int x7]) (rest := []) (n := 78) rfl rfl rfl rfl ?_
          obtain ⟨I75, hI75, H⟩ := H
          refine ⟨I75, hI75, ?_⟩
          refine w_iload_n (n := 79) rfl rfl rfl ?_
          refine w_if_ne (n := 82) rfl rfl ⟨fun hc => ?_, fun hc => ?_⟩
          · replace H := H.1 hc
            refine w_aload_nR (x := 22) (n := 90) rfl rfl rfl ?_
            refine w_aload_nR (x := 6) (n := 91) rfl rfl rfl ?_
            refine w_getR (b := 8) (n := 94) rfl rfl rfl rfl rfl ?_
            refine w_iload (n := 96) rfl rfl rfl ?_
            refine w_iaload (N := 8) (j := x7.toNatClampNeg) (n := 97) rfl rfl rfl rfl rfl rfl ⟨H.1, ?_⟩
            replace H := H.2
            refine w_calli (as := [.ref 22, .int (I75 8 x7.toNatClampNeg)]) (rest := []) (n := 100) rfl rfl rfl rfl ?_
            obtain ⟨r97, I97, hI97, H⟩ := H
            refine ⟨r97, I97, hI97, ?_⟩
            refine w_aload_nR (x := 11) (n := 101) rfl rfl rfl ?_
            refine w_calli (as := [.ref 11]) (rest := [.int r97]) (n := 104) rfl rfl rfl rfl ?_
            obtain ⟨r101, I101, hI101, H⟩ := H
            refine ⟨r101, I101, hI101, ?_⟩
            refine w_iadd (n := 105) rfl rfl ?_
            refine w_istore (ls' := [some (.ref 22), some (.ref 6), some (.ref 11), some (.int x3), some (.int x4), some (.int x5), some (.int x6), some (.int x7), some (.int (r97 + r101))]) (n := 107) rfl rfl rfl rfl ?_
            refine w_iload (n := 109) rfl rfl rfl ?_
            refine w_iload (n := 111) rfl rfl rfl ?_
            have J111 : ∀ (y111_5 : Int32) (y111_6 : Int32), y111_5 = (if x6 ≤ (r97 + r101) then (x5 : Int32) else x7) → y111_6 = (if x6 ≤ (r97 + r101) then (x6 : Int32) else r97 + r101) → mm_W 41 122 [some (.ref 22), some (.ref 6), some (.ref 11), some (.int x3), some (.int x4), some (.int y111_5), some (.int y111_6), some (.int x7), some (.int (r97 + r101))] [] I101 (mm_qv 41 P) := by
              intro y111_5 y111_6 e111_0 e111_1
              subst e111_0
              subst e111_1
              refine w_iinc (y := x7 + 1) (ls' := [some (.ref 22), some (.ref 6), some (.ref 11), some (.int x3), some (.int x4), some (.int (if x6 ≤ (r97 + r101) then (x5 : Int32) else x7)), some (.int (if x6 ≤ (r97 + r101) then (x6 : Int32) else r97 + r101)), some (.int (x7 + 1)), some (.int (r97 + r101))]) (n := 125) rfl rfl rfl rfl rfl ?_
              refine w_goto rfl ?_
              exact w_drp mm_Qf_v H (lb_s (lb_s (lb_s (lb_s (lb_s (lb_s (lb_s (lb_s (lb_n lb_e)))))))))
            refine w_icmp_ge (n := 114) rfl rfl ⟨fun hc => ?_, fun hc => ?_⟩
            · refine w_drp mm_Qf_v (J111 _ _ ?_ ?_) (lb_s (lb_s (lb_s (lb_s (lb_s (lb_s (lb_s (lb_s (lb_s lb_e)))))))))
              · exact (if_pos hc).symm
              · exact (if_pos hc).symm
            · refine w_iload (n := 116) rfl rfl rfl ?_
              refine w_istore (ls' := [some (.ref 22), some (.ref 6), some (.ref 11), some (.int x3), some (.int x4), some (.int x5), some (.int (r97 + r101)), some (.int x7), some (.int (r97 + r101))]) (n := 118) rfl rfl rfl rfl ?_
              refine w_iload (n := 120) rfl rfl rfl ?_
              refine w_istore (ls' := [some (.ref 22), some (.ref 6), some (.ref 11), some (.int x3), some (.int x4), some (.int x7), some (.int (r97 + r101)), some (.int x7), some (.int (r97 + r101))]) (n := 122) rfl rfl rfl rfl ?_
              refine w_drp mm_Qf_v (J111 _ _ ?_ ?_) (lb_s (lb_s (lb_s (lb_s (lb_s (lb_s (lb_s (lb_s (lb_s lb_e)))))))))
              · exact (if_neg (fa_nle hc)).symm
              · exact (if_neg (fa_nle hc)).symm
          · replace H := H.2 hc
            refine w_aload_nR (x := 11) (n := 83) rfl rfl rfl ?_
            refine w_getI (n := 86) rfl rfl rfl rfl ?_
            refine w_goto rfl ?_
            refine w_istore (ls' := [some (.ref 22), some (.ref 6), some (.ref 11), some (.int x3), some (.int x4), some (.int x5), some (.int x6), some (.int x7), some (.int (I75 11 3))]) (n := 107) rfl rfl rfl rfl ?_
            refine w_iload (n := 109) rfl rfl rfl ?_
            refine w_iload (n := 111) rfl rfl rfl ?_
            have J111 : ∀ (y111_5 : Int32) (y111_6 : Int32), y111_5 = (if x6 ≤ (I75 11 3) then (x5 : Int32) else x7) → y111_6 = (if x6 ≤ (I75 11 3) then (x6 : Int32) else (I75 11 3)) → mm_W 41 122 [some (.ref 22), some (.ref 6), some (.ref 11), some (.int x3), some (.int x4), some (.int y111_5), some (.int y111_6), some (.int x7), some (.int (I75 11 3))] [] I75 (mm_qv 41 P) := by
              intro y111_5 y111_6 e111_0 e111_1
              subst e111_0
              subst e111_1
              refine w_iinc (y := x7 + 1) (ls' := [some (.ref 22), some (.ref 6), some (.ref 11), some (.int x3), some (.int x4), some (.int (if x6 ≤ (I75 11 3) then (x5 : Int32) else x7)), some (.int (if x6 ≤ (I75 11 3) then (x6 : Int32) else (I75 11 3))), some (.int (x7 + 1)), some (.int (I75 11 3))]) (n := 125) rfl rfl rfl rfl rfl ?_
              refine w_goto rfl ?_
              exact w_drp mm_Qf_v H (lb_s (lb_s (lb_s (lb_s (lb_s (lb_s (lb_s (lb_s (lb_n lb_e)))))))))
            refine w_icmp_ge (n := 114) rfl rfl ⟨fun hc => ?_, fun hc => ?_⟩
            · refine w_drp mm_Qf_v (J111 _ _ ?_ ?_) (lb_s (lb_s (lb_s (lb_s (lb_s (lb_s (lb_s (lb_s (lb_s lb_e)))))))))
              · exact (if_pos hc).symm
              · exact (if_pos hc).symm
            · refine w_iload (n := 116) rfl rfl rfl ?_
              refine w_istore (ls' := [some (.ref 22), some (.ref 6), some (.ref 11), some (.int x3), some (.int x4), some (.int x5), some (.int (I75 11 3)), some (.int x7), some (.int (I75 11 3))]) (n := 118) rfl rfl rfl rfl ?_
              refine w_iload (n := 120) rfl rfl rfl ?_
              refine w_istore (ls' := [some (.ref 22), some (.ref 6), some (.ref 11), some (.int x3), some (.int x4), some (.int x7), some (.int (I75 11 3)), some (.int x7), some (.int (I75 11 3))]) (n := 122) rfl rfl rfl rfl ?_
              refine w_drp mm_Qf_v (J111 _ _ ?_ ?_) (lb_s (lb_s (lb_s (lb_s (lb_s (lb_s (lb_s (lb_s (lb_s lb_e)))))))))
              · exact (if_neg (fa_nle hc)).symm
              · exact (if_neg (fa_nle hc)).symm
  · refine w_iload (n := 41) rfl rfl rfl ?_
    refine w_bipush (v := 8) (n := 43) rfl rfl rfl ?_
    refine w_icmp_ge (n := 46) rfl rfl ⟨fun hc => ?_, fun hc => ?_⟩
    · replace H := H.1 hc
      refine w_aload_nR (x := 28) (n := 129) rfl rfl rfl ?_
      refine w_iload (n := 131) rfl rfl rfl ?_
      refine w_putI (n := 134) rfl rfl rfl rfl rfl ?_
      refine w_aload_nR (x := 11) (n := 135) rfl rfl rfl ?_
      refine w_aload_nR (x := 28) (n := 136) rfl rfl rfl ?_
      refine w_aload_nR (x := 6) (n := 137) rfl rfl rfl ?_
      refine w_iload (n := 139) rfl rfl rfl ?_
      refine w_callv (as := [.ref 11, .ref 28, .ref 6, .int x5]) (rest := []) (n := 142) rfl rfl rfl rfl ?_
      obtain ⟨I139, hI139, H⟩ := H
      refine ⟨I139, hI139, ?_⟩
      refine w_aload_nR (x := 28) (n := 143) rfl rfl rfl ?_
      refine w_aload_nR (x := 28) (n := 144) rfl rfl rfl ?_
      refine w_aload_nR (x := 6) (n := 145) rfl rfl rfl ?_
      refine w_getR (b := 8) (n := 148) rfl rfl rfl rfl rfl ?_
      refine w_iload (n := 150) rfl rfl rfl ?_
      refine w_iaload (N := 8) (j := x5.toNatClampNeg) (n := 151) rfl rfl rfl rfl rfl rfl ⟨H.1, ?_⟩
      replace H := H.2
      refine w_calli (as := [.ref 28, .int (I139 8 x5.toNatClampNeg)]) (rest := [.ref 28]) (n := 154) rfl rfl rfl rfl ?_
      obtain ⟨r151, I151, hI151, H⟩ := H
      refine ⟨r151, I151, hI151, ?_⟩
      refine w_iload_n (n := 155) rfl rfl rfl ?_
      refine w_if_ne (n := 158) rfl rfl ⟨fun hc => ?_, fun hc => ?_⟩
      · replace H := H.1 hc
        refine w_aload_nR (x := 11) (n := 166) rfl rfl rfl ?_
        refine w_calli (as := [.ref 11]) (rest := [.int r151, .ref 28]) (n := 169) rfl rfl rfl rfl ?_
        obtain ⟨r166, I166, hI166, H⟩ := H
        refine ⟨r166, I166, hI166, ?_⟩
        refine w_iadd (n := 170) rfl rfl ?_
        refine w_putI (n := 173) rfl rfl rfl rfl rfl ?_
        refine w_aload_nR (x := 28) (n := 174) rfl rfl rfl ?_
        refine w_getI (n := 177) rfl rfl rfl rfl ?_
        refine w_iconst (v := 4) (n := 178) rfl rfl rfl ?_
        refine w_aload_nR (x := 28) (n := 179) rfl rfl rfl ?_
        refine w_getI (n := 182) rfl rfl rfl rfl ?_
        refine w_aload_nR (x := 28) (n := 183) rfl rfl rfl ?_
        refine w_getI (n := 186) rfl rfl rfl rfl ?_
        refine w_imul (n := 187) rfl rfl ?_
        refine w_iadd (n := 188) rfl rfl ?_
        refine w_icmp_le (n := 191) rfl rfl ⟨fun hc => ?_, fun hc => ?_⟩
        · replace H := H.1 hc
          refine w_aload_nR (x := 28) (n := 216) rfl rfl rfl ?_
          refine w_aload_nR (x := 11) (n := 217) rfl rfl rfl ?_
          refine w_callv (as := [.ref 28, .ref 11]) (rest := []) (n := 220) rfl rfl rfl rfl ?_
          obtain ⟨I217, hI217, H⟩ := H
          refine ⟨I217, hI217, ?_⟩
          exact w_vreturn rfl rfl H
        · replace H := H.2 hc
          refine w_aload_nR (x := 28) (n := 192) rfl rfl rfl ?_
          refine w_bipush (v := 9) (n := 194) rfl rfl rfl ?_
          refine w_putI (n := 197) rfl rfl rfl rfl rfl ?_
          refine w_aload_nR (x := 28) (n := 198) rfl rfl rfl ?_
          refine w_iconst (v := 4) (n := 199) rfl rfl rfl ?_
          refine w_aload_nR (x := 28) (n := 200) rfl rfl rfl ?_
          refine w_getI (n := 203) rfl rfl rfl rfl ?_
          refine w_aload_nR (x := 28) (n := 204) rfl rfl rfl ?_
          refine w_getI (n := 207) rfl rfl rfl rfl ?_
          refine w_imul (n := 208) rfl rfl ?_
          refine w_iadd (n := 209) rfl rfl ?_
          refine w_putI (n := 212) rfl rfl rfl rfl rfl ?_
          refine w_goto rfl ?_
          exact w_vreturn rfl rfl H
      · replace H := H.2 hc
        refine w_aload_nR (x := 11) (n := 159) rfl rfl rfl ?_
        refine w_calli (as := [.ref 11]) (rest := [.int r151, .ref 28]) (n := 162) rfl rfl rfl rfl ?_
        obtain ⟨r159, I159, hI159, H⟩ := H
        refine ⟨r159, I159, hI159, ?_⟩
        refine w_goto rfl ?_
        refine w_iadd (n := 170) rfl rfl ?_
        refine w_putI (n := 173) rfl rfl rfl rfl rfl ?_
        refine w_aload_nR (x := 28) (n := 174) rfl rfl rfl ?_
        refine w_getI (n := 177) rfl rfl rfl rfl ?_
        refine w_iconst (v := 4) (n := 178) rfl rfl rfl ?_
        refine w_aload_nR (x := 28) (n := 179) rfl rfl rfl ?_
        refine w_getI (n := 182) rfl rfl rfl rfl ?_
        refine w_aload_nR (x := 28) (n := 183) rfl rfl rfl ?_
        refine w_getI (n := 186) rfl rfl rfl rfl ?_
        refine w_imul (n := 187) rfl rfl ?_
        refine w_iadd (n := 188) rfl rfl ?_
        refine w_icmp_le (n := 191) rfl rfl ⟨fun hc => ?_, fun hc => ?_⟩
        · replace H := H.1 hc
          refine w_aload_nR (x := 28) (n := 216) rfl rfl rfl ?_
          refine w_aload_nR (x := 11) (n := 217) rfl rfl rfl ?_
          refine w_callv (as := [.ref 28, .ref 11]) (rest := []) (n := 220) rfl rfl rfl rfl ?_
          obtain ⟨I217, hI217, H⟩ := H
          refine ⟨I217, hI217, ?_⟩
          exact w_vreturn rfl rfl H
        · replace H := H.2 hc
          refine w_aload_nR (x := 28) (n := 192) rfl rfl rfl ?_
          refine w_bipush (v := 9) (n := 194) rfl rfl rfl ?_
          refine w_putI (n := 197) rfl rfl rfl rfl rfl ?_
          refine w_aload_nR (x := 28) (n := 198) rfl rfl rfl ?_
          refine w_iconst (v := 4) (n := 199) rfl rfl rfl ?_
          refine w_aload_nR (x := 28) (n := 200) rfl rfl rfl ?_
          refine w_getI (n := 203) rfl rfl rfl rfl ?_
          refine w_aload_nR (x := 28) (n := 204) rfl rfl rfl ?_
          refine w_getI (n := 207) rfl rfl rfl rfl ?_
          refine w_imul (n := 208) rfl rfl ?_
          refine w_iadd (n := 209) rfl rfl ?_
          refine w_putI (n := 212) rfl rfl rfl rfl rfl ?_
          refine w_goto rfl ?_
          exact w_vreturn rfl rfl H
    · replace H := H.2 hc
      refine w_iload (n := 48) rfl rfl rfl ?_
      refine w_iload (n := 50) rfl rfl rfl ?_
      refine w_ishr (n := 51) rfl rfl ?_
      refine w_iconst (v := 1) (n := 52) rfl rfl rfl ?_
      refine w_iand (n := 53) rfl rfl ?_
      refine w_if_eq (n := 56) rfl rfl ⟨fun hc => ?_, fun hc => ?_⟩
      · replace H := H.1 hc
        refine w_iinc (y := x7 + 1) (ls' := [some (.ref 28), some (.ref 6), some (.ref 11), some (.int x3), some (.int x4), some (.int x5), some (.int x6), some (.int (x7 + 1)), none]) (n := 125) rfl rfl rfl rfl rfl ?_
        refine w_goto rfl ?_
        exact w_drp mm_Qf_v H (lb_s (lb_s (lb_s (lb_s (lb_s (lb_s (lb_s (lb_s (lb_n lb_e)))))))))
      · replace H := H.2 hc
        refine w_aload_nR (x := 6) (n := 57) rfl rfl rfl ?_
        refine w_getR (b := 8) (n := 60) rfl rfl rfl rfl rfl ?_
        refine w_iload (n := 62) rfl rfl rfl ?_
        refine w_iaload (N := 8) (j := x7.toNatClampNeg) (n := 63) rfl rfl rfl rfl rfl rfl ⟨H.1, ?_⟩
        replace H := H.2
        refine w_aload_nR (x := 28) (n := 64) rfl rfl rfl ?_
        refine w_getI (n := 67) rfl rfl rfl rfl ?_
        refine w_icmp_ge (n := 70) rfl rfl ⟨fun hc => ?_, fun hc => ?_⟩
        · replace H := H.1 hc
          refine w_iinc (y := x7 + 1) (ls' := [some (.ref 28), some (.ref 6), some (.ref 11), some (.int x3), some (.int x4), some (.int x5), some (.int x6), some (.int (x7 + 1)), none]) (n := 125) rfl rfl rfl rfl rfl ?_
          refine w_goto rfl ?_
          exact w_drp mm_Qf_v H (lb_s (lb_s (lb_s (lb_s (lb_s (lb_s (lb_s (lb_s (lb_n lb_e)))))))))
        · replace H := H.2 hc
          refine w_aload_nR (x := 11) (n := 71) rfl rfl rfl ?_
          refine w_aload_nR (x := 28) (n := 72) rfl rfl rfl ?_
          refine w_aload_nR (x := 6) (n := 73) rfl rfl rfl ?_
          refine w_iload (n := 75) rfl rfl rfl ?_
          refine w_callv (as := [.ref 11, .ref 28, .ref 6, .int x7]) (rest := []) (n := 78) rfl rfl rfl rfl ?_
          obtain ⟨I75, hI75, H⟩ := H
          refine ⟨I75, hI75, ?_⟩
          refine w_iload_n (n := 79) rfl rfl rfl ?_
          refine w_if_ne (n := 82) rfl rfl ⟨fun hc => ?_, fun hc => ?_⟩
          · replace H := H.1 hc
            refine w_aload_nR (x := 28) (n := 90) rfl rfl rfl ?_
            refine w_aload_nR (x := 6) (n := 91) rfl rfl rfl ?_
            refine w_getR (b := 8) (n := 94) rfl rfl rfl rfl rfl ?_
            refine w_iload (n := 96) rfl rfl rfl ?_
            refine w_iaload (N := 8) (j := x7.toNatClampNeg) (n := 97) rfl rfl rfl rfl rfl rfl ⟨H.1, ?_⟩
            replace H := H.2
            refine w_calli (as := [.ref 28, .int (I75 8 x7.toNatClampNeg)]) (rest := []) (n := 100) rfl rfl rfl rfl ?_
            obtain ⟨r97, I97, hI97, H⟩ := H
            refine ⟨r97, I97, hI97, ?_⟩
            refine w_aload_nR (x := 11) (n := 101) rfl rfl rfl ?_
            refine w_calli (as := [.ref 11]) (rest := [.int r97]) (n := 104) rfl rfl rfl rfl ?_
            obtain ⟨r101, I101, hI101, H⟩ := H
            refine ⟨r101, I101, hI101, ?_⟩
            refine w_iadd (n := 105) rfl rfl ?_
            refine w_istore (ls' := [some (.ref 28), some (.ref 6), some (.ref 11), some (.int x3), some (.int x4), some (.int x5), some (.int x6), some (.int x7), some (.int (r97 + r101))]) (n := 107) rfl rfl rfl rfl ?_
            refine w_iload (n := 109) rfl rfl rfl ?_
            refine w_iload (n := 111) rfl rfl rfl ?_
            have J111 : ∀ (y111_5 : Int32) (y111_6 : Int32), y111_5 = (if x6 ≤ (r97 + r101) then (x5 : Int32) else x7) → y111_6 = (if x6 ≤ (r97 + r101) then (x6 : Int32) else r97 + r101) → mm_W 41 122 [some (.ref 28), some (.ref 6), some (.ref 11), some (.int x3), some (.int x4), some (.int y111_5), some (.int y111_6), some (.int x7), some (.int (r97 + r101))] [] I101 (mm_qv 41 P) := by
              intro y111_5 y111_6 e111_0 e111_1
              subst e111_0
              subst e111_1
              refine w_iinc (y := x7 + 1) (ls' := [some (.ref 28), some (.ref 6), some (.ref 11), some (.int x3), some (.int x4), some (.int (if x6 ≤ (r97 + r101) then (x5 : Int32) else x7)), some (.int (if x6 ≤ (r97 + r101) then (x6 : Int32) else r97 + r101)), some (.int (x7 + 1)), some (.int (r97 + r101))]) (n := 125) rfl rfl rfl rfl rfl ?_
              refine w_goto rfl ?_
              exact w_drp mm_Qf_v H (lb_s (lb_s (lb_s (lb_s (lb_s (lb_s (lb_s (lb_s (lb_n lb_e)))))))))
            refine w_icmp_ge (n := 114) rfl rfl ⟨fun hc => ?_, fun hc => ?_⟩
            · refine w_drp mm_Qf_v (J111 _ _ ?_ ?_) (lb_s (lb_s (lb_s (lb_s (lb_s (lb_s (lb_s (lb_s (lb_s lb_e)))))))))
              · exact (if_pos hc).symm
              · exact (if_pos hc).symm
            · refine w_iload (n := 116) rfl rfl rfl ?_
              refine w_istore (ls' := [some (.ref 28), some (.ref 6), some (.ref 11), some (.int x3), some (.int x4), some (.int x5), some (.int (r97 + r101)), some (.int x7), some (.int (r97 + r101))]) (n := 118) rfl rfl rfl rfl ?_
              refine w_iload (n := 120) rfl rfl rfl ?_
              refine w_istore (ls' := [some (.ref 28), some (.ref 6), some (.ref 11), some (.int x3), some (.int x4), some (.int x7), some (.int (r97 + r101)), some (.int x7), some (.int (r97 + r101))]) (n := 122) rfl rfl rfl rfl ?_
              refine w_drp mm_Qf_v (J111 _ _ ?_ ?_) (lb_s (lb_s (lb_s (lb_s (lb_s (lb_s (lb_s (lb_s (lb_s lb_e)))))))))
              · exact (if_neg (fa_nle hc)).symm
              · exact (if_neg (fa_nle hc)).symm
          · replace H := H.2 hc
            refine w_aload_nR (x := 11) (n := 83) rfl rfl rfl ?_
            refine w_getI (n := 86) rfl rfl rfl rfl ?_
            refine w_goto rfl ?_
            refine w_istore (ls' := [some (.ref 28), some (.ref 6), some (.ref 11), some (.int x3), some (.int x4), some (.int x5), some (.int x6), some (.int x7), some (.int (I75 11 3))]) (n := 107) rfl rfl rfl rfl ?_
            refine w_iload (n := 109) rfl rfl rfl ?_
            refine w_iload (n := 111) rfl rfl rfl ?_
            have J111 : ∀ (y111_5 : Int32) (y111_6 : Int32), y111_5 = (if x6 ≤ (I75 11 3) then (x5 : Int32) else x7) → y111_6 = (if x6 ≤ (I75 11 3) then (x6 : Int32) else (I75 11 3)) → mm_W 41 122 [some (.ref 28), some (.ref 6), some (.ref 11), some (.int x3), some (.int x4), some (.int y111_5), some (.int y111_6), some (.int x7), some (.int (I75 11 3))] [] I75 (mm_qv 41 P) := by
              intro y111_5 y111_6 e111_0 e111_1
              subst e111_0
              subst e111_1
              refine w_iinc (y := x7 + 1) (ls' := [some (.ref 28), some (.ref 6), some (.ref 11), some (.int x3), some (.int x4), some (.int (if x6 ≤ (I75 11 3) then (x5 : Int32) else x7)), some (.int (if x6 ≤ (I75 11 3) then (x6 : Int32) else (I75 11 3))), some (.int (x7 + 1)), some (.int (I75 11 3))]) (n := 125) rfl rfl rfl rfl rfl ?_
              refine w_goto rfl ?_
              exact w_drp mm_Qf_v H (lb_s (lb_s (lb_s (lb_s (lb_s (lb_s (lb_s (lb_s (lb_n lb_e)))))))))
            refine w_icmp_ge (n := 114) rfl rfl ⟨fun hc => ?_, fun hc => ?_⟩
            · refine w_drp mm_Qf_v (J111 _ _ ?_ ?_) (lb_s (lb_s (lb_s (lb_s (lb_s (lb_s (lb_s (lb_s (lb_s lb_e)))))))))
              · exact (if_pos hc).symm
              · exact (if_pos hc).symm
            · refine w_iload (n := 116) rfl rfl rfl ?_
              refine w_istore (ls' := [some (.ref 28), some (.ref 6), some (.ref 11), some (.int x3), some (.int x4), some (.int x5), some (.int (I75 11 3)), some (.int x7), some (.int (I75 11 3))]) (n := 118) rfl rfl rfl rfl ?_
              refine w_iload (n := 120) rfl rfl rfl ?_
              refine w_istore (ls' := [some (.ref 28), some (.ref 6), some (.ref 11), some (.int x3), some (.int x4), some (.int x7), some (.int (I75 11 3)), some (.int x7), some (.int (I75 11 3))]) (n := 122) rfl rfl rfl rfl ?_
              refine w_drp mm_Qf_v (J111 _ _ ?_ ?_) (lb_s (lb_s (lb_s (lb_s (lb_s (lb_s (lb_s (lb_s (lb_s lb_e)))))))))
              · exact (if_neg (fa_nle hc)).symm
              · exact (if_neg (fa_nle hc)).symm
  · refine w_iload (n := 41) rfl rfl rfl ?_
    refine w_bipush (v := 8) (n := 43) rfl rfl rfl ?_
    refine w_icmp_ge (n := 46) rfl rfl ⟨fun hc => ?_, fun hc => ?_⟩
    · replace H := H.1 hc
      refine w_aload_nR (x := 34) (n := 129) rfl rfl rfl ?_
      refine w_iload (n := 131) rfl rfl rfl ?_
      refine w_putI (n := 134) rfl rfl rfl rfl rfl ?_
      refine w_aload_nR (x := 11) (n := 135) rfl rfl rfl ?_
      refine w_aload_nR (x := 34) (n := 136) rfl rfl rfl ?_
      refine w_aload_nR (x := 6) (n := 137) rfl rfl rfl ?_
      refine w_iload (n := 139) rfl rfl rfl ?_
      refine w_callv (as := [.ref 11, .ref 34, .ref 6, .int x5]) (rest := []) (n := 142) rfl rfl rfl rfl ?_
      obtain ⟨I139, hI139, H⟩ := H
      refine ⟨I139, hI139, ?_⟩
      refine w_aload_nR (x := 34) (n := 143) rfl rfl rfl ?_
      refine w_aload_nR (x := 34) (n := 144) rfl rfl rfl ?_
      refine w_aload_nR (x := 6) (n := 145) rfl rfl rfl ?_
      refine w_getR (b := 8) (n := 148) rfl rfl rfl rfl rfl ?_
      refine w_iload (n := 150) rfl rfl rfl ?_
      refine w_iaload (N := 8) (j := x5.toNatClampNeg) (n := 151) rfl rfl rfl rfl rfl rfl ⟨H.1, ?_⟩
      replace H := H.2
      refine w_calli (as := [.ref 34, .int (I139 8 x5.toNatClampNeg)]) (rest := [.ref 34]) (n := 154) rfl rfl rfl rfl ?_
      obtain ⟨r151, I151, hI151, H⟩ := H
      refine ⟨r151, I151, hI151, ?_⟩
      refine w_iload_n (n := 155) rfl rfl rfl ?_
      refine w_if_ne (n := 158) rfl rfl ⟨fun hc => ?_, fun hc => ?_⟩
      · replace H := H.1 hc
        refine w_aload_nR (x := 11) (n := 166) rfl rfl rfl ?_
        refine w_calli (as := [.ref 11]) (rest := [.int r151, .ref 34]) (n := 169) rfl rfl rfl rfl ?_
        obtain ⟨r166, I166, hI166, H⟩ := H
        refine ⟨r166, I166, hI166, ?_⟩
        refine w_iadd (n := 170) rfl rfl ?_
        refine w_putI (n := 173) rfl rfl rfl rfl rfl ?_
        refine w_aload_nR (x := 34) (n := 174) rfl rfl rfl ?_
        refine w_getI (n := 177) rfl rfl rfl rfl ?_
        refine w_iconst (v := 4) (n := 178) rfl rfl rfl ?_
        refine w_aload_nR (x := 34) (n := 179) rfl rfl rfl ?_
        refine w_getI (n := 182) rfl rfl rfl rfl ?_
        refine w_aload_nR (x := 34) (n := 183) rfl rfl rfl ?_
        refine w_getI (n := 186) rfl rfl rfl rfl ?_
        refine w_imul (n := 187) rfl rfl ?_
        refine w_iadd (n := 188) rfl rfl ?_
        refine w_icmp_le (n := 191) rfl rfl ⟨fun hc => ?_, fun hc => ?_⟩
        · replace H := H.1 hc
          refine w_aload_nR (x := 34) (n := 216) rfl rfl rfl ?_
          refine w_aload_nR (x := 11) (n := 217) rfl rfl rfl ?_
          refine w_callv (as := [.ref 34, .ref 11]) (rest := []) (n := 220) rfl rfl rfl rfl ?_
          obtain ⟨I217, hI217, H⟩ := H
          refine ⟨I217, hI217, ?_⟩
          exact w_vreturn rfl rfl H
        · replace H := H.2 hc
          refine w_aload_nR (x := 34) (n := 192) rfl rfl rfl ?_
          refine w_bipush (v := 9) (n := 194) rfl rfl rfl ?_
          refine w_putI (n := 197) rfl rfl rfl rfl rfl ?_
          refine w_aload_nR (x := 34) (n := 198) rfl rfl rfl ?_
          refine w_iconst (v := 4) (n := 199) rfl rfl rfl ?_
          refine w_aload_nR (x := 34) (n := 200) rfl rfl rfl ?_
          refine w_getI (n := 203) rfl rfl rfl rfl ?_
          refine w_aload_nR (x := 34) (n := 204) rfl rfl rfl ?_
          refine w_getI (n := 207) rfl rfl rfl rfl ?_
          refine w_imul (n := 208) rfl rfl ?_
          refine w_iadd (n := 209) rfl rfl ?_
          refine w_putI (n := 212) rfl rfl rfl rfl rfl ?_
          refine w_goto rfl ?_
          exact w_vreturn rfl rfl H
      · replace H := H.2 hc
        refine w_aload_nR (x := 11) (n := 159) rfl rfl rfl ?_
        refine w_calli (as := [.ref 11]) (rest := [.int r151, .ref 34]) (n := 162) rfl rfl rfl rfl ?_
        obtain ⟨r159, I159, hI159, H⟩ := H
        refine ⟨r159, I159, hI159, ?_⟩
        refine w_goto rfl ?_
        refine w_iadd (n := 170) rfl rfl ?_
        refine w_putI (n := 173) rfl rfl rfl rfl rfl ?_
        refine w_aload_nR (x := 34) (n := 174) rfl rfl rfl ?_
        refine w_getI (n := 177) rfl rfl rfl rfl ?_
        refine w_iconst (v := 4) (n := 178) rfl rfl rfl ?_
        refine w_aload_nR (x := 34) (n := 179) rfl rfl rfl ?_
        refine w_getI (n := 182) rfl rfl rfl rfl ?_
        refine w_aload_nR (x := 34) (n := 183) rfl rfl rfl ?_
        refine w_getI (n := 186) rfl rfl rfl rfl ?_
        refine w_imul (n := 187) rfl rfl ?_
        refine w_iadd (n := 188) rfl rfl ?_
        refine w_icmp_le (n := 191) rfl rfl ⟨fun hc => ?_, fun hc => ?_⟩
        · replace H := H.1 hc
          refine w_aload_nR (x := 34) (n := 216) rfl rfl rfl ?_
          refine w_aload_nR (x := 11) (n := 217) rfl rfl rfl ?_
          refine w_callv (as := [.ref 34, .ref 11]) (rest := []) (n := 220) rfl rfl rfl rfl ?_
          obtain ⟨I217, hI217, H⟩ := H
          refine ⟨I217, hI217, ?_⟩
          exact w_vreturn rfl rfl H
        · replace H := H.2 hc
          refine w_aload_nR (x := 34) (n := 192) rfl rfl rfl ?_
          refine w_bipush (v := 9) (n := 194) rfl rfl rfl ?_
          refine w_putI (n := 197) rfl rfl rfl rfl rfl ?_
          refine w_aload_nR (x := 34) (n := 198) rfl rfl rfl ?_
          refine w_iconst (v := 4) (n := 199) rfl rfl rfl ?_
          refine w_aload_nR (x := 34) (n := 200) rfl rfl rfl ?_
          refine w_getI (n := 203) rfl rfl rfl rfl ?_
          refine w_aload_nR (x := 34) (n := 204) rfl rfl rfl ?_
          refine w_getI (n := 207) rfl rfl rfl rfl ?_
          refine w_imul (n := 208) rfl rfl ?_
          refine w_iadd (n := 209) rfl rfl ?_
          refine w_putI (n := 212) rfl rfl rfl rfl rfl ?_
          refine w_goto rfl ?_
          exact w_vreturn rfl rfl H
    · replace H := H.2 hc
      refine w_iload (n := 48) rfl rfl rfl ?_
      refine w_iload (n := 50) rfl rfl rfl ?_
      refine w_ishr (n := 51) rfl rfl ?_
      refine w_iconst (v := 1) (n := 52) rfl rfl rfl ?_
      refine w_iand (n := 53) rfl rfl ?_
      refine w_if_eq (n := 56) rfl rfl ⟨fun hc => ?_, fun hc => ?_⟩
      · replace H := H.1 hc
        refine w_iinc (y := x7 + 1) (ls' := [some (.ref 34), some (.ref 6), some (.ref 11), some (.int x3), some (.int x4), some (.int x5), some (.int x6), some (.int (x7 + 1)), none]) (n := 125) rfl rfl rfl rfl rfl ?_
        refine w_goto rfl ?_
        exact w_drp mm_Qf_v H (lb_s (lb_s (lb_s (lb_s (lb_s (lb_s (lb_s (lb_s (lb_n lb_e)))))))))
      · replace H := H.2 hc
        refine w_aload_nR (x := 6) (n := 57) rfl rfl rfl ?_
        refine w_getR (b := 8) (n := 60) rfl rfl rfl rfl rfl ?_
        refine w_iload (n := 62) rfl rfl rfl ?_
        refine w_iaload (N := 8) (j := x7.toNatClampNeg) (n := 63) rfl rfl rfl rfl rfl rfl ⟨H.1, ?_⟩
        replace H := H.2
        refine w_aload_nR (x := 34) (n := 64) rfl rfl rfl ?_
        refine w_getI (n := 67) rfl rfl rfl rfl ?_
        refine w_icmp_ge (n := 70) rfl rfl ⟨fun hc => ?_, fun hc => ?_⟩
        · replace H := H.1 hc
          refine w_iinc (y := x7 + 1) (ls' := [some (.ref 34), some (.ref 6), some (.ref 11), some (.int x3), some (.int x4), some (.int x5), some (.int x6), some (.int (x7 + 1)), none]) (n := 125) rfl rfl rfl rfl rfl ?_
          refine w_goto rfl ?_
          exact w_drp mm_Qf_v H (lb_s (lb_s (lb_s (lb_s (lb_s (lb_s (lb_s (lb_s (lb_n lb_e)))))))))
        · replace H := H.2 hc
          refine w_aload_nR (x := 11) (n := 71) rfl rfl rfl ?_
          refine w_aload_nR (x := 34) (n := 72) rfl rfl rfl ?_
          refine w_aload_nR (x := 6) (n := 73) rfl rfl rfl ?_
          refine w_iload (n := 75) rfl rfl rfl ?_
          refine w_callv (as := [.ref 11, .ref 34, .ref 6, .int x7]) (rest := []) (n := 78) rfl rfl rfl rfl ?_
          obtain ⟨I75, hI75, H⟩ := H
          refine ⟨I75, hI75, ?_⟩
          refine w_iload_n (n := 79) rfl rfl rfl ?_
          refine w_if_ne (n := 82) rfl rfl ⟨fun hc => ?_, fun hc => ?_⟩
          · replace H := H.1 hc
            refine w_aload_nR (x := 34) (n := 90) rfl rfl rfl ?_
            refine w_aload_nR (x := 6) (n := 91) rfl rfl rfl ?_
            refine w_getR (b := 8) (n := 94) rfl rfl rfl rfl rfl ?_
            refine w_iload (n := 96) rfl rfl rfl ?_
            refine w_iaload (N := 8) (j := x7.toNatClampNeg) (n := 97) rfl rfl rfl rfl rfl rfl ⟨H.1, ?_⟩
            replace H := H.2
            refine w_calli (as := [.ref 34, .int (I75 8 x7.toNatClampNeg)]) (rest := []) (n := 100) rfl rfl rfl rfl ?_
            obtain ⟨r97, I97, hI97, H⟩ := H
            refine ⟨r97, I97, hI97, ?_⟩
            refine w_aload_nR (x := 11) (n := 101) rfl rfl rfl ?_
            refine w_calli (as := [.ref 11]) (rest := [.int r97]) (n := 104) rfl rfl rfl rfl ?_
            obtain ⟨r101, I101, hI101, H⟩ := H
            refine ⟨r101, I101, hI101, ?_⟩
            refine w_iadd (n := 105) rfl rfl ?_
            refine w_istore (ls' := [some (.ref 34), some (.ref 6), some (.ref 11), some (.int x3), some (.int x4), some (.int x5), some (.int x6), some (.int x7), some (.int (r97 + r101))]) (n := 107) rfl rfl rfl rfl ?_
            refine w_iload (n := 109) rfl rfl rfl ?_
            refine w_iload (n := 111) rfl rfl rfl ?_
            have J111 : ∀ (y111_5 : Int32) (y111_6 : Int32), y111_5 = (if x6 ≤ (r97 + r101) then (x5 : Int32) else x7) → y111_6 = (if x6 ≤ (r97 + r101) then (x6 : Int32) else r97 + r101) → mm_W 41 122 [some (.ref 34), some (.ref 6), some (.ref 11), some (.int x3), some (.int x4), some (.int y111_5), some (.int y111_6), some (.int x7), some (.int (r97 + r101))] [] I101 (mm_qv 41 P) := by
              intro y111_5 y111_6 e111_0 e111_1
              subst e111_0
              subst e111_1
              refine w_iinc (y := x7 + 1) (ls' := [some (.ref 34), some (.ref 6), some (.ref 11), some (.int x3), some (.int x4), some (.int (if x6 ≤ (r97 + r101) then (x5 : Int32) else x7)), some (.int (if x6 ≤ (r97 + r101) then (x6 : Int32) else r97 + r101)), some (.int (x7 + 1)), some (.int (r97 + r101))]) (n := 125) rfl rfl rfl rfl rfl ?_
              refine w_goto rfl ?_
              exact w_drp mm_Qf_v H (lb_s (lb_s (lb_s (lb_s (lb_s (lb_s (lb_s (lb_s (lb_n lb_e)))))))))
            refine w_icmp_ge (n := 114) rfl rfl ⟨fun hc => ?_, fun hc => ?_⟩
            · refine w_drp mm_Qf_v (J111 _ _ ?_ ?_) (lb_s (lb_s (lb_s (lb_s (lb_s (lb_s (lb_s (lb_s (lb_s lb_e)))))))))
              · exact (if_pos hc).symm
              · exact (if_pos hc).symm
            · refine w_iload (n := 116) rfl rfl rfl ?_
              refine w_istore (ls' := [some (.ref 34), some (.ref 6), some (.ref 11), some (.int x3), some (.int x4), some (.int x5), some (.int (r97 + r101)), some (.int x7), some (.int (r97 + r101))]) (n := 118) rfl rfl rfl rfl ?_
              refine w_iload (n := 120) rfl rfl rfl ?_
              refine w_istore (ls' := [some (.ref 34), some (.ref 6), some (.ref 11), some (.int x3), some (.int x4), some (.int x7), some (.int (r97 + r101)), some (.int x7), some (.int (r97 + r101))]) (n := 122) rfl rfl rfl rfl ?_
              refine w_drp mm_Qf_v (J111 _ _ ?_ ?_) (lb_s (lb_s (lb_s (lb_s (lb_s (lb_s (lb_s (lb_s (lb_s lb_e)))))))))
              · exact (if_neg (fa_nle hc)).symm
              · exact (if_neg (fa_nle hc)).symm
          · replace H := H.2 hc
            refine w_aload_nR (x := 11) (n := 83) rfl rfl rfl ?_
            refine w_getI (n := 86) rfl rfl rfl rfl ?_
            refine w_goto rfl ?_
            refine w_istore (ls' := [some (.ref 34), some (.ref 6), some (.ref 11), some (.int x3), some (.int x4), some (.int x5), some (.int x6), some (.int x7), some (.int (I75 11 3))]) (n := 107) rfl rfl rfl rfl ?_
            refine w_iload (n := 109) rfl rfl rfl ?_
            refine w_iload (n := 111) rfl rfl rfl ?_
            have J111 : ∀ (y111_5 : Int32) (y111_6 : Int32), y111_5 = (if x6 ≤ (I75 11 3) then (x5 : Int32) else x7) → y111_6 = (if x6 ≤ (I75 11 3) then (x6 : Int32) else (I75 11 3)) → mm_W 41 122 [some (.ref 34), some (.ref 6), some (.ref 11), some (.int x3), some (.int x4), some (.int y111_5), some (.int y111_6), some (.int x7), some (.int (I75 11 3))] [] I75 (mm_qv 41 P) := by
              intro y111_5 y111_6 e111_0 e111_1
              subst e111_0
              subst e111_1
              refine w_iinc (y := x7 + 1) (ls' := [some (.ref 34), some (.ref 6), some (.ref 11), some (.int x3), some (.int x4), some (.int (if x6 ≤ (I75 11 3) then (x5 : Int32) else x7)), some (.int (if x6 ≤ (I75 11 3) then (x6 : Int32) else (I75 11 3))), some (.int (x7 + 1)), some (.int (I75 11 3))]) (n := 125) rfl rfl rfl rfl rfl ?_
              refine w_goto rfl ?_
              exact w_drp mm_Qf_v H (lb_s (lb_s (lb_s (lb_s (lb_s (lb_s (lb_s (lb_s (lb_n lb_e)))))))))
            refine w_icmp_ge (n := 114) rfl rfl ⟨fun hc => ?_, fun hc => ?_⟩
            · refine w_drp mm_Qf_v (J111 _ _ ?_ ?_) (lb_s (lb_s (lb_s (lb_s (lb_s (lb_s (lb_s (lb_s (lb_s lb_e)))))))))
              · exact (if_pos hc).symm
              · exact (if_pos hc).symm
            · refine w_iload (n := 116) rfl rfl rfl ?_
              refine w_istore (ls' := [some (.ref 34), some (.ref 6), some (.ref 11), some (.int x3), some (.int x4), some (.int x5), some (.int (I75 11 3)), some (.int x7), some (.int (I75 11 3))]) (n := 118) rfl rfl rfl rfl ?_
              refine w_iload (n := 120) rfl rfl rfl ?_
              refine w_istore (ls' := [some (.ref 34), some (.ref 6), some (.ref 11), some (.int x3), some (.int x4), some (.int x7), some (.int (I75 11 3)), some (.int x7), some (.int (I75 11 3))]) (n := 122) rfl rfl rfl rfl ?_
              refine w_drp mm_Qf_v (J111 _ _ ?_ ?_) (lb_s (lb_s (lb_s (lb_s (lb_s (lb_s (lb_s (lb_s (lb_s lb_e)))))))))
              · exact (if_neg (fa_nle hc)).symm
              · exact (if_neg (fa_nle hc)).symm
  · refine w_iload (n := 41) rfl rfl rfl ?_
    refine w_bipush (v := 8) (n := 43) rfl rfl rfl ?_
    refine w_icmp_ge (n := 46) rfl rfl ⟨fun hc => ?_, fun hc => ?_⟩
    · replace H := H.1 hc
      refine w_aload_nR (x := 40) (n := 129) rfl rfl rfl ?_
      refine w_iload (n := 131) rfl rfl rfl ?_
      refine w_putI (n := 134) rfl rfl rfl rfl rfl ?_
      refine w_aload_nR (x := 11) (n := 135) rfl rfl rfl ?_
      refine w_aload_nR (x := 40) (n := 136) rfl rfl rfl ?_
      refine w_aload_nR (x := 6) (n := 137) rfl rfl rfl ?_
      refine w_iload (n := 139) rfl rfl rfl ?_
      refine w_callv (as := [.ref 11, .ref 40, .ref 6, .int x5]) (rest := []) (n := 142) rfl rfl rfl rfl ?_
      obtain ⟨I139, hI139, H⟩ := H
      refine ⟨I139, hI139, ?_⟩
      refine w_aload_nR (x := 40) (n := 143) rfl rfl rfl ?_
      refine w_aload_nR (x := 40) (n := 144) rfl rfl rfl ?_
      refine w_aload_nR (x := 6) (n := 145) rfl rfl rfl ?_
      refine w_getR (b := 8) (n := 148) rfl rfl rfl rfl rfl ?_
      refine w_iload (n := 150) rfl rfl rfl ?_
      refine w_iaload (N := 8) (j := x5.toNatClampNeg) (n := 151) rfl rfl rfl rfl rfl rfl ⟨H.1, ?_⟩
      replace H := H.2
      refine w_calli (as := [.ref 40, .int (I139 8 x5.toNatClampNeg)]) (rest := [.ref 40]) (n := 154) rfl rfl rfl rfl ?_
      obtain ⟨r151, I151, hI151, H⟩ := H
      refine ⟨r151, I151, hI151, ?_⟩
      refine w_iload_n (n := 155) rfl rfl rfl ?_
      refine w_if_ne (n := 158) rfl rfl ⟨fun hc => ?_, fun hc => ?_⟩
      · replace H := H.1 hc
        refine w_aload_nR (x := 11) (n := 166) rfl rfl rfl ?_
        refine w_calli (as := [.ref 11]) (rest := [.int r151, .ref 40]) (n := 169) rfl rfl rfl rfl ?_
        obtain ⟨r166, I166, hI166, H⟩ := H
        refine ⟨r166, I166, hI166, ?_⟩
        refine w_iadd (n := 170) rfl rfl ?_
        refine w_putI (n := 173) rfl rfl rfl rfl rfl ?_
        refine w_aload_nR (x := 40) (n := 174) rfl rfl rfl ?_
        refine w_getI (n := 177) rfl rfl rfl rfl ?_
        refine w_iconst (v := 4) (n := 178) rfl rfl rfl ?_
        refine w_aload_nR (x := 40) (n := 179) rfl rfl rfl ?_
        refine w_getI (n := 182) rfl rfl rfl rfl ?_
        refine w_aload_nR (x := 40) (n := 183) rfl rfl rfl ?_
        refine w_getI (n := 186) rfl rfl rfl rfl ?_
        refine w_imul (n := 187) rfl rfl ?_
        refine w_iadd (n := 188) rfl rfl ?_
        refine w_icmp_le (n := 191) rfl rfl ⟨fun hc => ?_, fun hc => ?_⟩
        · replace H := H.1 hc
          refine w_aload_nR (x := 40) (n := 216) rfl rfl rfl ?_
          refine w_aload_nR (x := 11) (n := 217) rfl rfl rfl ?_
          refine w_callv (as := [.ref 40, .ref 11]) (rest := []) (n := 220) rfl rfl rfl rfl ?_
          obtain ⟨I217, hI217, H⟩ := H
          refine ⟨I217, hI217, ?_⟩
          exact w_vreturn rfl rfl H
        · replace H := H.2 hc
          refine w_aload_nR (x := 40) (n := 192) rfl rfl rfl ?_
          refine w_bipush (v := 9) (n := 194) rfl rfl rfl ?_
          refine w_putI (n := 197) rfl rfl rfl rfl rfl ?_
          refine w_aload_nR (x := 40) (n := 198) rfl rfl rfl ?_
          refine w_iconst (v := 4) (n := 199) rfl rfl rfl ?_
          refine w_aload_nR (x := 40) (n := 200) rfl rfl rfl ?_
          refine w_getI (n := 203) rfl rfl rfl rfl ?_
          refine w_aload_nR (x := 40) (n := 204) rfl rfl rfl ?_
          refine w_getI (n := 207) rfl rfl rfl rfl ?_
          refine w_imul (n := 208) rfl rfl ?_
          refine w_iadd (n := 209) rfl rfl ?_
          refine w_putI (n := 212) rfl rfl rfl rfl rfl ?_
          refine w_goto rfl ?_
          exact w_vreturn rfl rfl H
      · replace H := H.2 hc
        refine w_aload_nR (x := 11) (n := 159) rfl rfl rfl ?_
        refine w_calli (as := [.ref 11]) (rest := [.int r151, .ref 40]) (n := 162) rfl rfl rfl rfl ?_
        obtain ⟨r159, I159, hI159, H⟩ := H
        refine ⟨r159, I159, hI159, ?_⟩
        refine w_goto rfl ?_
        refine w_iadd (n := 170) rfl rfl ?_
        refine w_putI (n := 173) rfl rfl rfl rfl rfl ?_
        refine w_aload_nR (x := 40) (n := 174) rfl rfl rfl ?_
        refine w_getI (n := 177) rfl rfl rfl rfl ?_
        refine w_iconst (v := 4) (n := 178) rfl rfl rfl ?_
        refine w_aload_nR (x := 40) (n := 179) rfl rfl rfl ?_
        refine w_getI (n := 182) rfl rfl rfl rfl ?_
        refine w_aload_nR (x := 40) (n := 183) rfl rfl rfl ?_
        refine w_getI (n := 186) rfl rfl rfl rfl ?_
        refine w_imul (n := 187) rfl rfl ?_
        refine w_iadd (n := 188) rfl rfl ?_
        refine w_icmp_le (n := 191) rfl rfl ⟨fun hc => ?_, fun hc => ?_⟩
        · replace H := H.1 hc
          refine w_aload_nR (x := 40) (n := 216) rfl rfl rfl ?_
          refine w_aload_nR (x := 11) (n := 217) rfl rfl rfl ?_
          refine w_callv (as := [.ref 40, .ref 11]) (rest := []) (n := 220) rfl rfl rfl rfl ?_
          obtain ⟨I217, hI217, H⟩ := H
          refine ⟨I217, hI217, ?_⟩
          exact w_vreturn rfl rfl H
        · replace H := H.2 hc
          refine w_aload_nR (x := 40) (n := 192) rfl rfl rfl ?_
          refine w_bipush (v := 9) (n := 194) rfl rfl rfl ?_
          refine w_putI (n := 197) rfl rfl rfl rfl rfl ?_
          refine w_aload_nR (x := 40) (n := 198) rfl rfl rfl ?_
          refine w_iconst (v := 4) (n := 199) rfl rfl rfl ?_
          refine w_aload_nR (x := 40) (n := 200) rfl rfl rfl ?_
          refine w_getI (n := 203) rfl rfl rfl rfl ?_
          refine w_aload_nR (x := 40) (n := 204) rfl rfl rfl ?_
          refine w_getI (n := 207) rfl rfl rfl rfl ?_
          refine w_imul (n := 208) rfl rfl ?_
          refine w_iadd (n := 209) rfl rfl ?_
          refine w_putI (n := 212) rfl rfl rfl rfl rfl ?_
          refine w_goto rfl ?_
          exact w_vreturn rfl rfl H
    · replace H := H.2 hc
      refine w_iload (n := 48) rfl rfl rfl ?_
      refine w_iload (n := 50) rfl rfl rfl ?_
      refine w_ishr (n := 51) rfl rfl ?_
      refine w_iconst (v := 1) (n := 52) rfl rfl rfl ?_
      refine w_iand (n := 53) rfl rfl ?_
      refine w_if_eq (n := 56) rfl rfl ⟨fun hc => ?_, fun hc => ?_⟩
      · replace H := H.1 hc
        refine w_iinc (y := x7 + 1) (ls' := [some (.ref 40), some (.ref 6), some (.ref 11), some (.int x3), some (.int x4), some (.int x5), some (.int x6), some (.int (x7 + 1)), none]) (n := 125) rfl rfl rfl rfl rfl ?_
        refine w_goto rfl ?_
        exact w_drp mm_Qf_v H (lb_s (lb_s (lb_s (lb_s (lb_s (lb_s (lb_s (lb_s (lb_n lb_e)))))))))
      · replace H := H.2 hc
        refine w_aload_nR (x := 6) (n := 57) rfl rfl rfl ?_
        refine w_getR (b := 8) (n := 60) rfl rfl rfl rfl rfl ?_
        refine w_iload (n := 62) rfl rfl rfl ?_
        refine w_iaload (N := 8) (j := x7.toNatClampNeg) (n := 63) rfl rfl rfl rfl rfl rfl ⟨H.1, ?_⟩
        replace H := H.2
        refine w_aload_nR (x := 40) (n := 64) rfl rfl rfl ?_
        refine w_getI (n := 67) rfl rfl rfl rfl ?_
        refine w_icmp_ge (n := 70) rfl rfl ⟨fun hc => ?_, fun hc => ?_⟩
        · replace H := H.1 hc
          refine w_iinc (y := x7 + 1) (ls' := [some (.ref 40), some (.ref 6), some (.ref 11), some (.int x3), some (.int x4), some (.int x5), some (.int x6), some (.int (x7 + 1)), none]) (n := 125) rfl rfl rfl rfl rfl ?_
          refine w_goto rfl ?_
          exact w_drp mm_Qf_v H (lb_s (lb_s (lb_s (lb_s (lb_s (lb_s (lb_s (lb_s (lb_n lb_e)))))))))
        · replace H := H.2 hc
          refine w_aload_nR (x := 11) (n := 71) rfl rfl rfl ?_
          refine w_aload_nR (x := 40) (n := 72) rfl rfl rfl ?_
          refine w_aload_nR (x := 6) (n := 73) rfl rfl rfl ?_
          refine w_iload (n := 75) rfl rfl rfl ?_
          refine w_callv (as := [.ref 11, .ref 40, .ref 6, .int x7]) (rest := []) (n := 78) rfl rfl rfl rfl ?_
          obtain ⟨I75, hI75, H⟩ := H
          refine ⟨I75, hI75, ?_⟩
          refine w_iload_n (n := 79) rfl rfl rfl ?_
          refine w_if_ne (n := 82) rfl rfl ⟨fun hc => ?_, fun hc => ?_⟩
          · replace H := H.1 hc
            refine w_aload_nR (x := 40) (n := 90) rfl rfl rfl ?_
            refine w_aload_nR (x := 6) (n := 91) rfl rfl rfl ?_
            refine w_getR (b := 8) (n := 94) rfl rfl rfl rfl rfl ?_
            refine w_iload (n := 96) rfl rfl rfl ?_
            refine w_iaload (N := 8) (j := x7.toNatClampNeg) (n := 97) rfl rfl rfl rfl rfl rfl ⟨H.1, ?_⟩
            replace H := H.2
            refine w_calli (as := [.ref 40, .int (I75 8 x7.toNatClampNeg)]) (rest := []) (n := 100) rfl rfl rfl rfl ?_
            obtain ⟨r97, I97, hI97, H⟩ := H
            refine ⟨r97, I97, hI97, ?_⟩
            refine w_aload_nR (x := 11) (n := 101) rfl rfl rfl ?_
            refine w_calli (as := [.ref 11]) (rest := [.int r97]) (n := 104) rfl rfl rfl rfl ?_
            obtain ⟨r101, I101, hI101, H⟩ := H
            refine ⟨r101, I101, hI101, ?_⟩
            refine w_iadd (n := 105) rfl rfl ?_
            refine w_istore (ls' := [some (.ref 40), some (.ref 6), some (.ref 11), some (.int x3), some (.int x4), some (.int x5), some (.int x6), some (.int x7), some (.int (r97 + r101))]) (n := 107) rfl rfl rfl rfl ?_
            refine w_iload (n := 109) rfl rfl rfl ?_
            refine w_iload (n := 111) rfl rfl rfl ?_
            have J111 : ∀ (y111_5 : Int32) (y111_6 : Int32), y111_5 = (if x6 ≤ (r97 + r101) then (x5 : Int32) else x7) → y111_6 = (if x6 ≤ (r97 + r101) then (x6 : Int32) else r97 + r101) → mm_W 41 122 [some (.ref 40), some (.ref 6), some (.ref 11), some (.int x3), some (.int x4), some (.int y111_5), some (.int y111_6), some (.int x7), some (.int (r97 + r101))] [] I101 (mm_qv 41 P) := by
              intro y111_5 y111_6 e111_0 e111_1
              subst e111_0
              subst e111_1
              refine w_iinc (y := x7 + 1) (ls' := [some (.ref 40), some (.ref 6), some (.ref 11), some (.int x3), some (.int x4), some (.int (if x6 ≤ (r97 + r101) then (x5 : Int32) else x7)), some (.int (if x6 ≤ (r97 + r101) then (x6 : Int32) else r97 + r101)), some (.int (x7 + 1)), some (.int (r97 + r101))]) (n := 125) rfl rfl rfl rfl rfl ?_
              refine w_goto rfl ?_
              exact w_drp mm_Qf_v H (lb_s (lb_s (lb_s (lb_s (lb_s (lb_s (lb_s (lb_s (lb_n lb_e)))))))))
            refine w_icmp_ge (n := 114) rfl rfl ⟨fun hc => ?_, fun hc => ?_⟩
            · refine w_drp mm_Qf_v (J111 _ _ ?_ ?_) (lb_s (lb_s (lb_s (lb_s (lb_s (lb_s (lb_s (lb_s (lb_s lb_e)))))))))
              · exact (if_pos hc).symm
              · exact (if_pos hc).symm
            · refine w_iload (n := 116) rfl rfl rfl ?_
              refine w_istore (ls' := [some (.ref 40), some (.ref 6), some (.ref 11), some (.int x3), some (.int x4), some (.int x5), some (.int (r97 + r101)), some (.int x7), some (.int (r97 + r101))]) (n := 118) rfl rfl rfl rfl ?_
              refine w_iload (n := 120) rfl rfl rfl ?_
              refine w_istore (ls' := [some (.ref 40), some (.ref 6), some (.ref 11), some (.int x3), some (.int x4), some (.int x7), some (.int (r97 + r101)), some (.int x7), some (.int (r97 + r101))]) (n := 122) rfl rfl rfl rfl ?_
              refine w_drp mm_Qf_v (J111 _ _ ?_ ?_) (lb_s (lb_s (lb_s (lb_s (lb_s (lb_s (lb_s (lb_s (lb_s lb_e)))))))))
              · exact (if_neg (fa_nle hc)).symm
              · exact (if_neg (fa_nle hc)).symm
          · replace H := H.2 hc
            refine w_aload_nR (x := 11) (n := 83) rfl rfl rfl ?_
            refine w_getI (n := 86) rfl rfl rfl rfl ?_
            refine w_goto rfl ?_
            refine w_istore (ls' := [some (.ref 40), some (.ref 6), some (.ref 11), some (.int x3), some (.int x4), some (.int x5), some (.int x6), some (.int x7), some (.int (I75 11 3))]) (n := 107) rfl rfl rfl rfl ?_
            refine w_iload (n := 109) rfl rfl rfl ?_
            refine w_iload (n := 111) rfl rfl rfl ?_
            have J111 : ∀ (y111_5 : Int32) (y111_6 : Int32), y111_5 = (if x6 ≤ (I75 11 3) then (x5 : Int32) else x7) → y111_6 = (if x6 ≤ (I75 11 3) then (x6 : Int32) else (I75 11 3)) → mm_W 41 122 [some (.ref 40), some (.ref 6), some (.ref 11), some (.int x3), some (.int x4), some (.int y111_5), some (.int y111_6), some (.int x7), some (.int (I75 11 3))] [] I75 (mm_qv 41 P) := by
              intro y111_5 y111_6 e111_0 e111_1
              subst e111_0
              subst e111_1
              refine w_iinc (y := x7 + 1) (ls' := [some (.ref 40), some (.ref 6), some (.ref 11), some (.int x3), some (.int x4), some (.int (if x6 ≤ (I75 11 3) then (x5 : Int32) else x7)), some (.int (if x6 ≤ (I75 11 3) then (x6 : Int32) else (I75 11 3))), some (.int (x7 + 1)), some (.int (I75 11 3))]) (n := 125) rfl rfl rfl rfl rfl ?_
              refine w_goto rfl ?_
              exact w_drp mm_Qf_v H (lb_s (lb_s (lb_s (lb_s (lb_s (lb_s (lb_s (lb_s (lb_n lb_e)))))))))
            refine w_icmp_ge (n := 114) rfl rfl ⟨fun hc => ?_, fun hc => ?_⟩
            · refine w_drp mm_Qf_v (J111 _ _ ?_ ?_) (lb_s (lb_s (lb_s (lb_s (lb_s (lb_s (lb_s (lb_s (lb_s lb_e)))))))))
              · exact (if_pos hc).symm
              · exact (if_pos hc).symm
            · refine w_iload (n := 116) rfl rfl rfl ?_
              refine w_istore (ls' := [some (.ref 40), some (.ref 6), some (.ref 11), some (.int x3), some (.int x4), some (.int x5), some (.int (I75 11 3)), some (.int x7), some (.int (I75 11 3))]) (n := 118) rfl rfl rfl rfl ?_
              refine w_iload (n := 120) rfl rfl rfl ?_
              refine w_istore (ls' := [some (.ref 40), some (.ref 6), some (.ref 11), some (.int x3), some (.int x4), some (.int x7), some (.int (I75 11 3)), some (.int x7), some (.int (I75 11 3))]) (n := 122) rfl rfl rfl rfl ?_
              refine w_drp mm_Qf_v (J111 _ _ ?_ ?_) (lb_s (lb_s (lb_s (lb_s (lb_s (lb_s (lb_s (lb_s (lb_s lb_e)))))))))
              · exact (if_neg (fa_nle hc)).symm
              · exact (if_neg (fa_nle hc)).symm
theorem e_Row_isStill {P : Int32 → mm_I → Prop} {I : mm_I} {rr : Nat} (hs0 : rr = 22 ∨ rr = 28 ∨ rr = 34 ∨ rr = 40)
  (H : mm_W 42 2 [some (.ref rr), some (.int 1)] [] I (mm_qi 42 P)) : mm_Mi 42 [.ref rr] I P := by
  rcases hs0 with rfl | rfl | rfl | rfl
  · refine mm_Mi_of ?_
    show mm_W 42 0 [some (.ref 22), none] [] I (mm_qi 42 P)
    refine w_iconst (v := 1) (n := 1) rfl rfl rfl ?_
    refine w_istore_n (ls' := [some (.ref 22), some (.int 1)]) (n := 2) rfl rfl rfl rfl ?_
    exact w_drp mm_Qf_i H (lb_s (lb_s lb_e))
  · refine mm_Mi_of ?_
    show mm_W 42 0 [some (.ref 28), none] [] I (mm_qi 42 P)
    refine w_iconst (v := 1) (n := 1) rfl rfl rfl ?_
    refine w_istore_n (ls' := [some (.ref 28), some (.int 1)]) (n := 2) rfl rfl rfl rfl ?_
    exact w_drp mm_Qf_i H (lb_s (lb_s lb_e))
  · refine mm_Mi_of ?_
    show mm_W 42 0 [some (.ref 34), none] [] I (mm_qi 42 P)
    refine w_iconst (v := 1) (n := 1) rfl rfl rfl ?_
    refine w_istore_n (ls' := [some (.ref 34), some (.int 1)]) (n := 2) rfl rfl rfl rfl ?_
    exact w_drp mm_Qf_i H (lb_s (lb_s lb_e))
  · refine mm_Mi_of ?_
    show mm_W 42 0 [some (.ref 40), none] [] I (mm_qi 42 P)
    refine w_iconst (v := 1) (n := 1) rfl rfl rfl ?_
    refine w_istore_n (ls' := [some (.ref 40), some (.int 1)]) (n := 2) rfl rfl rfl rfl ?_
    exact w_drp mm_Qf_i H (lb_s (lb_s lb_e))
theorem c_Row_isStill_2 {P : Int32 → mm_I → Prop} {I : mm_I} {rr : Nat} (hs0 : rr = 22 ∨ rr = 28 ∨ rr = 34 ∨ rr = 40) (x1 : Int32)
  (H : ((I rr 1) ≤ x1 →
      P 1 I) ∧
    (x1 < (I rr 1) →
      vp_in x1 64 ∧
      ((I (rr + 1) x1.toNatClampNeg) = (I (rr + 1) 0) →
        mm_W 42 2 [some (.ref rr), some (.int (x1 + 1))] [] I (mm_qi 42 P)) ∧
      (¬ (I (rr + 1) x1.toNatClampNeg) = (I (rr + 1) 0) →
        P 0 I))) : mm_W 42 2 [some (.ref rr), some (.int x1)] [] I (mm_qi 42 P) := by
  rcases hs0 with rfl | rfl | rfl | rfl
  · refine w_iload_n (n := 3) rfl rfl rfl ?_
    refine w_aload_nR (x := 22) (n := 4) rfl rfl rfl ?_
    refine w_getI (n := 7) rfl rfl rfl rfl ?_
    refine w_icmp_ge (n := 10) rfl rfl ⟨fun hc => ?_, fun hc => ?_⟩
    · replace H := H.1 hc
      refine w_iconst (v := 1) (n := 34) rfl rfl rfl ?_
      exact w_zreturn rfl rfl ⟨by decide, H⟩
    · replace H := H.2 hc
      refine w_aload_nR (x := 22) (n := 11) rfl rfl rfl ?_
      refine w_getR (b := 23) (n := 14) rfl rfl rfl rfl rfl ?_
      refine w_iload_n (n := 15) rfl rfl rfl ?_
      refine w_iaload (N := 64) (j := x1.toNatClampNeg) (n := 16) rfl rfl rfl rfl rfl rfl ⟨H.1, ?_⟩
      replace H := H.2
      refine w_aload_nR (x := 22) (n := 17) rfl rfl rfl ?_
      refine w_getR (b := 23) (n := 20) rfl rfl rfl rfl rfl ?_
      refine w_iconst (v := 0) (n := 21) rfl rfl rfl ?_
      refine w_iaload (N := 64) (j := 0) (n := 22) rfl rfl rfl rfl (by decide) rfl ⟨mm_vpc (by decide), ?_⟩
      refine w_icmp_eq (n := 25) rfl rfl ⟨fun hc => ?_, fun hc => ?_⟩
      · replace H := H.1 hc
        refine w_iinc (y := x1 + 1) (ls' := [some (.ref 22), some (.int (x1 + 1))]) (n := 30) rfl rfl rfl rfl rfl ?_
        refine w_goto rfl ?_
        exact w_drp mm_Qf_i H (lb_s (lb_s lb_e))
      · replace H := H.2 hc
        refine w_iconst (v := 0) (n := 26) rfl rfl rfl ?_
        exact w_zreturn rfl rfl ⟨by decide, H⟩
  · refine w_iload_n (n := 3) rfl rfl rfl ?_
    refine w_aload_nR (x := 28) (n := 4) rfl rfl rfl ?_
    refine w_getI (n := 7) rfl rfl rfl rfl ?_
    refine w_icmp_ge (n := 10) rfl rfl ⟨fun hc => ?_, fun hc => ?_⟩
    · replace H := H.1 hc
      refine w_iconst (v := 1) (n := 34) rfl rfl rfl ?_
      exact w_zreturn rfl rfl ⟨by decide, H⟩
    · replace H := H.2 hc
      refine w_aload_nR (x := 28) (n := 11) rfl rfl rfl ?_
      refine w_getR (b := 29) (n := 14) rfl rfl rfl rfl rfl ?_
      refine w_iload_n (n := 15) rfl rfl rfl ?_
      refine w_iaload (N := 64) (j := x1.toNatClampNeg) (n := 16) rfl rfl rfl rfl rfl rfl ⟨H.1, ?_⟩
      replace H := H.2
      refine w_aload_nR (x := 28) (n := 17) rfl rfl rfl ?_
      refine w_getR (b := 29) (n := 20) rfl rfl rfl rfl rfl ?_
      refine w_iconst (v := 0) (n := 21) rfl rfl rfl ?_
      refine w_iaload (N := 64) (j := 0) (n := 22) rfl rfl rfl rfl (by decide) rfl ⟨mm_vpc (by decide), ?_⟩
      refine w_icmp_eq (n := 25) rfl rfl ⟨fun hc => ?_, fun hc => ?_⟩
      · replace H := H.1 hc
        refine w_iinc (y := x1 + 1) (ls' := [some (.ref 28), some (.int (x1 + 1))]) (n := 30) rfl rfl rfl rfl rfl ?_
        refine w_goto rfl ?_
        exact w_drp mm_Qf_i H (lb_s (lb_s lb_e))
      · replace H := H.2 hc
        refine w_iconst (v := 0) (n := 26) rfl rfl rfl ?_
        exact w_zreturn rfl rfl ⟨by decide, H⟩
  · refine w_iload_n (n := 3) rfl rfl rfl ?_
    refine w_aload_nR (x := 34) (n := 4) rfl rfl rfl ?_
    refine w_getI (n := 7) rfl rfl rfl rfl ?_
    refine w_icmp_ge (n := 10) rfl rfl ⟨fun hc => ?_, fun hc => ?_⟩
    · replace H := H.1 hc
      refine w_iconst (v := 1) (n := 34) rfl rfl rfl ?_
      exact w_zreturn rfl rfl ⟨by decide, H⟩
    · replace H := H.2 hc
      refine w_aload_nR (x := 34) (n := 11) rfl rfl rfl ?_
      refine w_getR (b := 35) (n := 14) rfl rfl rfl rfl rfl ?_
      refine w_iload_n (n := 15) rfl rfl rfl ?_
      refine w_iaload (N := 64) (j := x1.toNatClampNeg) (n := 16) rfl rfl rfl rfl rfl rfl ⟨H.1, ?_⟩
      replace H := H.2
      refine w_aload_nR (x := 34) (n := 17) rfl rfl rfl ?_
      refine w_getR (b := 35) (n := 20) rfl rfl rfl rfl rfl ?_
      refine w_iconst (v := 0) (n := 21) rfl rfl rfl ?_
      refine w_iaload (N := 64) (j := 0) (n := 22) rfl rfl rfl rfl (by decide) rfl ⟨mm_vpc (by decide), ?_⟩
      refine w_icmp_eq (n := 25) rfl rfl ⟨fun hc => ?_, fun hc => ?_⟩
      · replace H := H.1 hc
        refine w_iinc (y := x1 + 1) (ls' := [some (.ref 34), some (.int (x1 + 1))]) (n := 30) rfl rfl rfl rfl rfl ?_
        refine w_goto rfl ?_
        exact w_drp mm_Qf_i H (lb_s (lb_s lb_e))
      · replace H := H.2 hc
        refine w_iconst (v := 0) (n := 26) rfl rfl rfl ?_
        exact w_zreturn rfl rfl ⟨by decide, H⟩
  · refine w_iload_n (n := 3) rfl rfl rfl ?_
    refine w_aload_nR (x := 40) (n := 4) rfl rfl rfl ?_
    refine w_getI (n := 7) rfl rfl rfl rfl ?_
    refine w_icmp_ge (n := 10) rfl rfl ⟨fun hc => ?_, fun hc => ?_⟩
    · replace H := H.1 hc
      refine w_iconst (v := 1) (n := 34) rfl rfl rfl ?_
      exact w_zreturn rfl rfl ⟨by decide, H⟩
    · replace H := H.2 hc
      refine w_aload_nR (x := 40) (n := 11) rfl rfl rfl ?_
      refine w_getR (b := 41) (n := 14) rfl rfl rfl rfl rfl ?_
      refine w_iload_n (n := 15) rfl rfl rfl ?_
      refine w_iaload (N := 64) (j := x1.toNatClampNeg) (n := 16) rfl rfl rfl rfl rfl rfl ⟨H.1, ?_⟩
      replace H := H.2
      refine w_aload_nR (x := 40) (n := 17) rfl rfl rfl ?_
      refine w_getR (b := 41) (n := 20) rfl rfl rfl rfl rfl ?_
      refine w_iconst (v := 0) (n := 21) rfl rfl rfl ?_
      refine w_iaload (N := 64) (j := 0) (n := 22) rfl rfl rfl rfl (by decide) rfl ⟨mm_vpc (by decide), ?_⟩
      refine w_icmp_eq (n := 25) rfl rfl ⟨fun hc => ?_, fun hc => ?_⟩
      · replace H := H.1 hc
        refine w_iinc (y := x1 + 1) (ls' := [some (.ref 40), some (.int (x1 + 1))]) (n := 30) rfl rfl rfl rfl rfl ?_
        refine w_goto rfl ?_
        exact w_drp mm_Qf_i H (lb_s (lb_s lb_e))
      · replace H := H.2 hc
        refine w_iconst (v := 0) (n := 26) rfl rfl rfl ?_
        exact w_zreturn rfl rfl ⟨by decide, H⟩
theorem e_Row_firstBits {P : Int32 → mm_I → Prop} {I : mm_I} {rr : Nat} (hs0 : rr = 22 ∨ rr = 28 ∨ rr = 34 ∨ rr = 40) (x1 : Int32)
  (H : P (4 + (x1 * (I rr 2))) I) : mm_Mi 43 [.ref rr, .int x1] I P := by
  rcases hs0 with rfl | rfl | rfl | rfl
  · refine mm_Mi_of ?_
    show mm_W 43 0 [some (.ref 22), some (.int x1)] [] I (mm_qi 43 P)
    refine w_iconst (v := 4) (n := 1) rfl rfl rfl ?_
    refine w_iload_n (n := 2) rfl rfl rfl ?_
    refine w_aload_nR (x := 22) (n := 3) rfl rfl rfl ?_
    refine w_getI (n := 6) rfl rfl rfl rfl ?_
    refine w_imul (n := 7) rfl rfl ?_
    refine w_iadd (n := 8) rfl rfl ?_
    exact w_ireturn rfl rfl H
  · refine mm_Mi_of ?_
    show mm_W 43 0 [some (.ref 28), some (.int x1)] [] I (mm_qi 43 P)
    refine w_iconst (v := 4) (n := 1) rfl rfl rfl ?_
    refine w_iload_n (n := 2) rfl rfl rfl ?_
    refine w_aload_nR (x := 28) (n := 3) rfl rfl rfl ?_
    refine w_getI (n := 6) rfl rfl rfl rfl ?_
    refine w_imul (n := 7) rfl rfl ?_
    refine w_iadd (n := 8) rfl rfl ?_
    exact w_ireturn rfl rfl H
  · refine mm_Mi_of ?_
    show mm_W 43 0 [some (.ref 34), some (.int x1)] [] I (mm_qi 43 P)
    refine w_iconst (v := 4) (n := 1) rfl rfl rfl ?_
    refine w_iload_n (n := 2) rfl rfl rfl ?_
    refine w_aload_nR (x := 34) (n := 3) rfl rfl rfl ?_
    refine w_getI (n := 6) rfl rfl rfl rfl ?_
    refine w_imul (n := 7) rfl rfl ?_
    refine w_iadd (n := 8) rfl rfl ?_
    exact w_ireturn rfl rfl H
  · refine mm_Mi_of ?_
    show mm_W 43 0 [some (.ref 40), some (.int x1)] [] I (mm_qi 43 P)
    refine w_iconst (v := 4) (n := 1) rfl rfl rfl ?_
    refine w_iload_n (n := 2) rfl rfl rfl ?_
    refine w_aload_nR (x := 40) (n := 3) rfl rfl rfl ?_
    refine w_getI (n := 6) rfl rfl rfl rfl ?_
    refine w_imul (n := 7) rfl rfl ?_
    refine w_iadd (n := 8) rfl rfl ?_
    exact w_ireturn rfl rfl H
theorem e_Row_keepRuns {P : mm_I → Prop} {I : mm_I} {rr : Nat} (hs0 : rr = 22 ∨ rr = 28 ∨ rr = 34 ∨ rr = 40)
  (H : mm_W 44 4 [some (.ref rr), some (.ref 11), some (.int 0), some (.int 0)] [] I (mm_qv 44 P)) : mm_Mv 44 [.ref rr, .ref 11] I P := by
  rcases hs0 with rfl | rfl | rfl | rfl
  · refine mm_Mv_of ?_
    show mm_W 44 0 [some (.ref 22), some (.ref 11), none, none] [] I (mm_qv 44 P)
    refine w_iconst (v := 0) (n := 1) rfl rfl rfl ?_
    refine w_istore_n (ls' := [some (.ref 22), some (.ref 11), some (.int 0), none]) (n := 2) rfl rfl rfl rfl ?_
    refine w_iconst (v := 0) (n := 3) rfl rfl rfl ?_
    refine w_istore_n (ls' := [some (.ref 22), some (.ref 11), some (.int 0), some (.int 0)]) (n := 4) rfl rfl rfl rfl ?_
    exact w_drp mm_Qf_v H (lb_s (lb_s (lb_s (lb_s lb_e))))
  · refine mm_Mv_of ?_
    show mm_W 44 0 [some (.ref 28), some (.ref 11), none, none] [] I (mm_qv 44 P)
    refine w_iconst (v := 0) (n := 1) rfl rfl rfl ?_
    refine w_istore_n (ls' := [some (.ref 28), some (.ref 11), some (.int 0), none]) (n := 2) rfl rfl rfl rfl ?_
    refine w_iconst (v := 0) (n := 3) rfl rfl rfl ?_
    refine w_istore_n (ls' := [some (.ref 28), some (.ref 11), some (.int 0), some (.int 0)]) (n := 4) rfl rfl rfl rfl ?_
    exact w_drp mm_Qf_v H (lb_s (lb_s (lb_s (lb_s lb_e))))
  · refine mm_Mv_of ?_
    show mm_W 44 0 [some (.ref 34), some (.ref 11), none, none] [] I (mm_qv 44 P)
    refine w_iconst (v := 0) (n := 1) rfl rfl rfl ?_
    refine w_istore_n (ls' := [some (.ref 34), some (.ref 11), some (.int 0), none]) (n := 2) rfl rfl rfl rfl ?_
    refine w_iconst (v := 0) (n := 3) rfl rfl rfl ?_
    refine w_istore_n (ls' := [some (.ref 34), some (.ref 11), some (.int 0), some (.int 0)]) (n := 4) rfl rfl rfl rfl ?_
    exact w_drp mm_Qf_v H (lb_s (lb_s (lb_s (lb_s lb_e))))
  · refine mm_Mv_of ?_
    show mm_W 44 0 [some (.ref 40), some (.ref 11), none, none] [] I (mm_qv 44 P)
    refine w_iconst (v := 0) (n := 1) rfl rfl rfl ?_
    refine w_istore_n (ls' := [some (.ref 40), some (.ref 11), some (.int 0), none]) (n := 2) rfl rfl rfl rfl ?_
    refine w_iconst (v := 0) (n := 3) rfl rfl rfl ?_
    refine w_istore_n (ls' := [some (.ref 40), some (.ref 11), some (.int 0), some (.int 0)]) (n := 4) rfl rfl rfl rfl ?_
    exact w_drp mm_Qf_v H (lb_s (lb_s (lb_s (lb_s lb_e))))
theorem c_Row_keepRuns_4 {P : mm_I → Prop} {I : mm_I} {rr : Nat} (hs0 : rr = 22 ∨ rr = 28 ∨ rr = 34 ∨ rr = 40) (x2 : Int32) (x3 : Int32)
  (H : (8 ≤ x3 →
      P I) ∧
    (x3 < 8 →
      ((I 11 2) ≤ x2 →
        P I) ∧
      (x2 < (I 11 2) →
        vp_in x2 8 ∧
        vp_in x3 8 ∧
        vp_in x2 8 ∧
        vp_in x3 8 ∧
        vp_in x2 8 ∧
        vp_in x3 8 ∧
        vp_in x2 8 ∧
        vp_in x3 8 ∧
        vp_in x2 8 ∧
        mm_W 44 4 [some (.ref rr), some (.ref 11), some (.int (x2 + (I 18 x2.toNatClampNeg))), some (.int (x3 + 1))] [] (mm_up (mm_up (mm_up (mm_up (mm_up I (rr + 2) x3.toNatClampNeg (I 18 x2.toNatClampNeg)) (rr + 3) x3.toNatClampNeg (I 19 x2.toNatClampNeg)) (rr + 4) x3.toNatClampNeg (I 20 x2.toNatClampNeg)) (rr + 5) x3.toNatClampNeg (I 21 x2.toNatClampNeg)) rr 5 (x3 + 1)) (mm_qv 44 P)))) : mm_W 44 4 [some (.ref rr), some (.ref 11), some (.int x2), some (.int x3)] [] I (mm_qv 44 P) := by
  rcases hs0 with rfl | rfl | rfl | rfl
  · refine w_iload_n (n := 5) rfl rfl rfl ?_
    refine w_bipush (v := 8) (n := 7) rfl rfl rfl ?_
    refine w_icmp_ge (n := 10) rfl rfl ⟨fun hc => ?_, fun hc => ?_⟩
    · replace H := H.1 hc
      exact w_vreturn rfl rfl H
    · replace H := H.2 hc
      refine w_iload_n (n := 11) rfl rfl rfl ?_
      refine w_aload_nR (x := 11) (n := 12) rfl rfl rfl ?_
      refine w_getI (n := 15) rfl rfl rfl rfl ?_
      refine w_icmp_ge (n := 18) rfl rfl ⟨fun hc => ?_, fun hc => ?_⟩
      · replace H := H.1 hc
        exact w_vreturn rfl rfl H
      · replace H := H.2 hc
        refine w_aload_nR (x := 22) (n := 19) rfl rfl rfl ?_
        refine w_getR (b := 24) (n := 22) rfl rfl rfl rfl rfl ?_
        refine w_iload_n (n := 23) rfl rfl rfl ?_
        refine w_aload_nR (x := 11) (n := 24) rfl rfl rfl ?_
        refine w_getR (b := 18) (n := 27) rfl rfl rfl rfl rfl ?_
        refine w_iload_n (n := 28) rfl rfl rfl ?_
        refine w_iaload (N := 8) (j := x2.toNatClampNeg) (n := 29) rfl rfl rfl rfl rfl rfl ⟨H.1, ?_⟩
        replace H := H.2
        refine w_iastore (N := 8) (j := x3.toNatClampNeg) (n := 30) rfl rfl rfl rfl rfl ⟨H.1, ?_⟩
        replace H := H.2
        refine w_aload_nR (x := 22) (n := 31) rfl rfl rfl ?_
        refine w_getR (b := 25) (n := 34) rfl rfl rfl rfl rfl ?_
        refine w_iload_n (n := 35) rfl rfl rfl ?_
        refine w_aload_nR (x := 11) (n := 36) rfl rfl rfl ?_
        refine w_getR (b := 19) (n := 39) rfl rfl rfl rfl rfl ?_
        refine w_iload_n (n := 40) rfl rfl rfl ?_
        refine w_iaload (N := 8) (j := x2.toNatClampNeg) (n := 41) rfl rfl rfl rfl rfl rfl ⟨H.1, ?_⟩
        replace H := H.2
        refine w_iastore (N := 8) (j := x3.toNatClampNeg) (n := 42) rfl rfl rfl rfl rfl ⟨H.1, ?_⟩
        replace H := H.2
        refine w_aload_nR (x := 22) (n := 43) rfl rfl rfl ?_
        refine w_getR (b := 26) (n := 46) rfl rfl rfl rfl rfl ?_
        refine w_iload_n (n := 47) rfl rfl rfl ?_
        refine w_aload_nR (x := 11) (n := 48) rfl rfl rfl ?_
        refine w_getR (b := 20) (n := 51) rfl rfl rfl rfl rfl ?_
        refine w_iload_n (n := 52) rfl rfl rfl ?_
        refine w_iaload (N := 8) (j := x2.toNatClampNeg) (n := 53) rfl rfl rfl rfl rfl rfl ⟨H.1, ?_⟩
        replace H := H.2
        refine w_iastore (N := 8) (j := x3.toNatClampNeg) (n := 54) rfl rfl rfl rfl rfl ⟨H.1, ?_⟩
        replace H := H.2
        refine w_aload_nR (x := 22) (n := 55) rfl rfl rfl ?_
        refine w_getR (b := 27) (n := 58) rfl rfl rfl rfl rfl ?_
        refine w_iload_n (n := 59) rfl rfl rfl ?_
        refine w_aload_nR (x := 11) (n := 60) rfl rfl rfl ?_
        refine w_getR (b := 21) (n := 63) rfl rfl rfl rfl rfl ?_
        refine w_iload_n (n := 64) rfl rfl rfl ?_
        refine w_iaload (N := 8) (j := x2.toNatClampNeg) (n := 65) rfl rfl rfl rfl rfl rfl ⟨H.1, ?_⟩
        replace H := H.2
        refine w_iastore (N := 8) (j := x3.toNatClampNeg) (n := 66) rfl rfl rfl rfl rfl ⟨H.1, ?_⟩
        replace H := H.2
        refine w_iload_n (n := 67) rfl rfl rfl ?_
        refine w_aload_nR (x := 11) (n := 68) rfl rfl rfl ?_
        refine w_getR (b := 18) (n := 71) rfl rfl rfl rfl rfl ?_
        refine w_iload_n (n := 72) rfl rfl rfl ?_
        refine w_iaload (N := 8) (j := x2.toNatClampNeg) (n := 73) rfl rfl rfl rfl rfl rfl ⟨H.1, ?_⟩
        replace H := H.2
        refine w_iadd (n := 74) rfl rfl ?_
        refine w_istore_n (ls' := [some (.ref 22), some (.ref 11), some (.int (x2 + (I 18 x2.toNatClampNeg))), some (.int x3)]) (n := 75) rfl rfl rfl rfl ?_
        refine w_aload_nR (x := 22) (n := 76) rfl rfl rfl ?_
        refine w_iload_n (n := 77) rfl rfl rfl ?_
        refine w_iconst (v := 1) (n := 78) rfl rfl rfl ?_
        refine w_iadd (n := 79) rfl rfl ?_
        refine w_putI (n := 82) rfl rfl rfl rfl rfl ?_
        refine w_iinc (y := x3 + 1) (ls' := [some (.ref 22), some (.ref 11), some (.int (x2 + (I 18 x2.toNatClampNeg))), some (.int (x3 + 1))]) (n := 85) rfl rfl rfl rfl rfl ?_
        refine w_goto rfl ?_
        exact w_drp mm_Qf_v H (lb_s (lb_s (lb_s (lb_s lb_e))))
  · refine w_iload_n (n := 5) rfl rfl rfl ?_
    refine w_bipush (v := 8) (n := 7) rfl rfl rfl ?_
    refine w_icmp_ge (n := 10) rfl rfl ⟨fun hc => ?_, fun hc => ?_⟩
    · replace H := H.1 hc
      exact w_vreturn rfl rfl H
    · replace H := H.2 hc
      refine w_iload_n (n := 11) rfl rfl rfl ?_
      refine w_aload_nR (x := 11) (n := 12) rfl rfl rfl ?_
      refine w_getI (n := 15) rfl rfl rfl rfl ?_
      refine w_icmp_ge (n := 18) rfl rfl ⟨fun hc => ?_, fun hc => ?_⟩
      · replace H := H.1 hc
        exact w_vreturn rfl rfl H
      · replace H := H.2 hc
        refine w_aload_nR (x := 28) (n := 19) rfl rfl rfl ?_
        refine w_getR (b := 30) (n := 22) rfl rfl rfl rfl rfl ?_
        refine w_iload_n (n := 23) rfl rfl rfl ?_
        refine w_aload_nR (x := 11) (n := 24) rfl rfl rfl ?_
        refine w_getR (b := 18) (n := 27) rfl rfl rfl rfl rfl ?_
        refine w_iload_n (n := 28) rfl rfl rfl ?_
        refine w_iaload (N := 8) (j := x2.toNatClampNeg) (n := 29) rfl rfl rfl rfl rfl rfl ⟨H.1, ?_⟩
        replace H := H.2
        refine w_iastore (N := 8) (j := x3.toNatClampNeg) (n := 30) rfl rfl rfl rfl rfl ⟨H.1, ?_⟩
        replace H := H.2
        refine w_aload_nR (x := 28) (n := 31) rfl rfl rfl ?_
        refine w_getR (b := 31) (n := 34) rfl rfl rfl rfl rfl ?_
        refine w_iload_n (n := 35) rfl rfl rfl ?_
        refine w_aload_nR (x := 11) (n := 36) rfl rfl rfl ?_
        refine w_getR (b := 19) (n := 39) rfl rfl rfl rfl rfl ?_
        refine w_iload_n (n := 40) rfl rfl rfl ?_
        refine w_iaload (N := 8) (j := x2.toNatClampNeg) (n := 41) rfl rfl rfl rfl rfl rfl ⟨H.1, ?_⟩
        replace H := H.2
        refine w_iastore (N := 8) (j := x3.toNatClampNeg) (n := 42) rfl rfl rfl rfl rfl ⟨H.1, ?_⟩
        replace H := H.2
        refine w_aload_nR (x := 28) (n := 43) rfl rfl rfl ?_
        refine w_getR (b := 32) (n := 46) rfl rfl rfl rfl rfl ?_
        refine w_iload_n (n := 47) rfl rfl rfl ?_
        refine w_aload_nR (x := 11) (n := 48) rfl rfl rfl ?_
        refine w_getR (b := 20) (n := 51) rfl rfl rfl rfl rfl ?_
        refine w_iload_n (n := 52) rfl rfl rfl ?_
        refine w_iaload (N := 8) (j := x2.toNatClampNeg) (n := 53) rfl rfl rfl rfl rfl rfl ⟨H.1, ?_⟩
        replace H := H.2
        refine w_iastore (N := 8) (j := x3.toNatClampNeg) (n := 54) rfl rfl rfl rfl rfl ⟨H.1, ?_⟩
        replace H := H.2
        refine w_aload_nR (x := 28) (n := 55) rfl rfl rfl ?_
        refine w_getR (b := 33) (n := 58) rfl rfl rfl rfl rfl ?_
        refine w_iload_n (n := 59) rfl rfl rfl ?_
        refine w_aload_nR (x := 11) (n := 60) rfl rfl rfl ?_
        refine w_getR (b := 21) (n := 63) rfl rfl rfl rfl rfl ?_
        refine w_iload_n (n := 64) rfl rfl rfl ?_
        refine w_iaload (N := 8) (j := x2.toNatClampNeg) (n := 65) rfl rfl rfl rfl rfl rfl ⟨H.1, ?_⟩
        replace H := H.2
        refine w_iastore (N := 8) (j := x3.toNatClampNeg) (n := 66) rfl rfl rfl rfl rfl ⟨H.1, ?_⟩
        replace H := H.2
        refine w_iload_n (n := 67) rfl rfl rfl ?_
        refine w_aload_nR (x := 11) (n := 68) rfl rfl rfl ?_
        refine w_getR (b := 18) (n := 71) rfl rfl rfl rfl rfl ?_
        refine w_iload_n (n := 72) rfl rfl rfl ?_
        refine w_iaload (N := 8) (j := x2.toNatClampNeg) (n := 73) rfl rfl rfl rfl rfl rfl ⟨H.1, ?_⟩
        replace H := H.2
        refine w_iadd (n := 74) rfl rfl ?_
        refine w_istore_n (ls' := [some (.ref 28), some (.ref 11), some (.int (x2 + (I 18 x2.toNatClampNeg))), some (.int x3)]) (n := 75) rfl rfl rfl rfl ?_
        refine w_aload_nR (x := 28) (n := 76) rfl rfl rfl ?_
        refine w_iload_n (n := 77) rfl rfl rfl ?_
        refine w_iconst (v := 1) (n := 78) rfl rfl rfl ?_
        refine w_iadd (n := 79) rfl rfl ?_
        refine w_putI (n := 82) rfl rfl rfl rfl rfl ?_
        refine w_iinc (y := x3 + 1) (ls' := [some (.ref 28), some (.ref 11), some (.int (x2 + (I 18 x2.toNatClampNeg))), some (.int (x3 + 1))]) (n := 85) rfl rfl rfl rfl rfl ?_
        refine w_goto rfl ?_
        exact w_drp mm_Qf_v H (lb_s (lb_s (lb_s (lb_s lb_e))))
  · refine w_iload_n (n := 5) rfl rfl rfl ?_
    refine w_bipush (v := 8) (n := 7) rfl rfl rfl ?_
    refine w_icmp_ge (n := 10) rfl rfl ⟨fun hc => ?_, fun hc => ?_⟩
    · replace H := H.1 hc
      exact w_vreturn rfl rfl H
    · replace H := H.2 hc
      refine w_iload_n (n := 11) rfl rfl rfl ?_
      refine w_aload_nR (x := 11) (n := 12) rfl rfl rfl ?_
      refine w_getI (n := 15) rfl rfl rfl rfl ?_
      refine w_icmp_ge (n := 18) rfl rfl ⟨fun hc => ?_, fun hc => ?_⟩
      · replace H := H.1 hc
        exact w_vreturn rfl rfl H
      · replace H := H.2 hc
        refine w_aload_nR (x := 34) (n := 19) rfl rfl rfl ?_
        refine w_getR (b := 36) (n := 22) rfl rfl rfl rfl rfl ?_
        refine w_iload_n (n := 23) rfl rfl rfl ?_
        refine w_aload_nR (x := 11) (n := 24) rfl rfl rfl ?_
        refine w_getR (b := 18) (n := 27) rfl rfl rfl rfl rfl ?_
        refine w_iload_n (n := 28) rfl rfl rfl ?_
        refine w_iaload (N := 8) (j := x2.toNatClampNeg) (n := 29) rfl rfl rfl rfl rfl rfl ⟨H.1, ?_⟩
        replace H := H.2
        refine w_iastore (N := 8) (j := x3.toNatClampNeg) (n := 30) rfl rfl rfl rfl rfl ⟨H.1, ?_⟩
        replace H := H.2
        refine w_aload_nR (x := 34) (n := 31) rfl rfl rfl ?_
        refine w_getR (b := 37) (n := 34) rfl rfl rfl rfl rfl ?_
        refine w_iload_n (n := 35) rfl rfl rfl ?_
        refine w_aload_nR (x := 11) (n := 36) rfl rfl rfl ?_
        refine w_getR (b := 19) (n := 39) rfl rfl rfl rfl rfl ?_
        refine w_iload_n (n := 40) rfl rfl rfl ?_
        refine w_iaload (N := 8) (j := x2.toNatClampNeg) (n := 41) rfl rfl rfl rfl rfl rfl ⟨H.1, ?_⟩
        replace H := H.2
        refine w_iastore (N := 8) (j := x3.toNatClampNeg) (n := 42) rfl rfl rfl rfl rfl ⟨H.1, ?_⟩
        replace H := H.2
        refine w_aload_nR (x := 34) (n := 43) rfl rfl rfl ?_
        refine w_getR (b := 38) (n := 46) rfl rfl rfl rfl rfl ?_
        refine w_iload_n (n := 47) rfl rfl rfl ?_
        refine w_aload_nR (x := 11) (n := 48) rfl rfl rfl ?_
        refine w_getR (b := 20) (n := 51) rfl rfl rfl rfl rfl ?_
        refine w_iload_n (n := 52) rfl rfl rfl ?_
        refine w_iaload (N := 8) (j := x2.toNatClampNeg) (n := 53) rfl rfl rfl rfl rfl rfl ⟨H.1, ?_⟩
        replace H := H.2
        refine w_iastore (N := 8) (j := x3.toNatClampNeg) (n := 54) rfl rfl rfl rfl rfl ⟨H.1, ?_⟩
        replace H := H.2
        refine w_aload_nR (x := 34) (n := 55) rfl rfl rfl ?_
        refine w_getR (b := 39) (n := 58) rfl rfl rfl rfl rfl ?_
        refine w_iload_n (n := 59) rfl rfl rfl ?_
        refine w_aload_nR (x := 11) (n := 60) rfl rfl rfl ?_
        refine w_getR (b := 21) (n := 63) rfl rfl rfl rfl rfl ?_
        refine w_iload_n (n := 64) rfl rfl rfl ?_
        refine w_iaload (N := 8) (j := x2.toNatClampNeg) (n := 65) rfl rfl rfl rfl rfl rfl ⟨H.1, ?_⟩
        replace H := H.2
        refine w_iastore (N := 8) (j := x3.toNatClampNeg) (n := 66) rfl rfl rfl rfl rfl ⟨H.1, ?_⟩
        replace H := H.2
        refine w_iload_n (n := 67) rfl rfl rfl ?_
        refine w_aload_nR (x := 11) (n := 68) rfl rfl rfl ?_
        refine w_getR (b := 18) (n := 71) rfl rfl rfl rfl rfl ?_
        refine w_iload_n (n := 72) rfl rfl rfl ?_
        refine w_iaload (N := 8) (j := x2.toNatClampNeg) (n := 73) rfl rfl rfl rfl rfl rfl ⟨H.1, ?_⟩
        replace H := H.2
        refine w_iadd (n := 74) rfl rfl ?_
        refine w_istore_n (ls' := [some (.ref 34), some (.ref 11), some (.int (x2 + (I 18 x2.toNatClampNeg))), some (.int x3)]) (n := 75) rfl rfl rfl rfl ?_
        refine w_aload_nR (x := 34) (n := 76) rfl rfl rfl ?_
        refine w_iload_n (n := 77) rfl rfl rfl ?_
        refine w_iconst (v := 1) (n := 78) rfl rfl rfl ?_
        refine w_iadd (n := 79) rfl rfl ?_
        refine w_putI (n := 82) rfl rfl rfl rfl rfl ?_
        refine w_iinc (y := x3 + 1) (ls' := [some (.ref 34), some (.ref 11), some (.int (x2 + (I 18 x2.toNatClampNeg))), some (.int (x3 + 1))]) (n := 85) rfl rfl rfl rfl rfl ?_
        refine w_goto rfl ?_
        exact w_drp mm_Qf_v H (lb_s (lb_s (lb_s (lb_s lb_e))))
  · refine w_iload_n (n := 5) rfl rfl rfl ?_
    refine w_bipush (v := 8) (n := 7) rfl rfl rfl ?_
    refine w_icmp_ge (n := 10) rfl rfl ⟨fun hc => ?_, fun hc => ?_⟩
    · replace H := H.1 hc
      exact w_vreturn rfl rfl H
    · replace H := H.2 hc
      refine w_iload_n (n := 11) rfl rfl rfl ?_
      refine w_aload_nR (x := 11) (n := 12) rfl rfl rfl ?_
      refine w_getI (n := 15) rfl rfl rfl rfl ?_
      refine w_icmp_ge (n := 18) rfl rfl ⟨fun hc => ?_, fun hc => ?_⟩
      · replace H := H.1 hc
        exact w_vreturn rfl rfl H
      · replace H := H.2 hc
        refine w_aload_nR (x := 40) (n := 19) rfl rfl rfl ?_
        refine w_getR (b := 42) (n := 22) rfl rfl rfl rfl rfl ?_
        refine w_iload_n (n := 23) rfl rfl rfl ?_
        refine w_aload_nR (x := 11) (n := 24) rfl rfl rfl ?_
        refine w_getR (b := 18) (n := 27) rfl rfl rfl rfl rfl ?_
        refine w_iload_n (n := 28) rfl rfl rfl ?_
        refine w_iaload (N := 8) (j := x2.toNatClampNeg) (n := 29) rfl rfl rfl rfl rfl rfl ⟨H.1, ?_⟩
        replace H := H.2
        refine w_iastore (N := 8) (j := x3.toNatClampNeg) (n := 30) rfl rfl rfl rfl rfl ⟨H.1, ?_⟩
        replace H := H.2
        refine w_aload_nR (x := 40) (n := 31) rfl rfl rfl ?_
        refine w_getR (b := 43) (n := 34) rfl rfl rfl rfl rfl ?_
        refine w_iload_n (n := 35) rfl rfl rfl ?_
        refine w_aload_nR (x := 11) (n := 36) rfl rfl rfl ?_
        refine w_getR (b := 19) (n := 39) rfl rfl rfl rfl rfl ?_
        refine w_iload_n (n := 40) rfl rfl rfl ?_
        refine w_iaload (N := 8) (j := x2.toNatClampNeg) (n := 41) rfl rfl rfl rfl rfl rfl ⟨H.1, ?_⟩
        replace H := H.2
        refine w_iastore (N := 8) (j := x3.toNatClampNeg) (n := 42) rfl rfl rfl rfl rfl ⟨H.1, ?_⟩
        replace H := H.2
        refine w_aload_nR (x := 40) (n := 43) rfl rfl rfl ?_
        refine w_getR (b := 44) (n := 46) rfl rfl rfl rfl rfl ?_
        refine w_iload_n (n := 47) rfl rfl rfl ?_
        refine w_aload_nR (x := 11) (n := 48) rfl rfl rfl ?_
        refine w_getR (b := 20) (n := 51) rfl rfl rfl rfl rfl ?_
        refine w_iload_n (n := 52) rfl rfl rfl ?_
        refine w_iaload (N := 8) (j := x2.toNatClampNeg) (n := 53) rfl rfl rfl rfl rfl rfl ⟨H.1, ?_⟩
        replace H := H.2
        refine w_iastore (N := 8) (j := x3.toNatClampNeg) (n := 54) rfl rfl rfl rfl rfl ⟨H.1, ?_⟩
        replace H := H.2
        refine w_aload_nR (x := 40) (n := 55) rfl rfl rfl ?_
        refine w_getR (b := 45) (n := 58) rfl rfl rfl rfl rfl ?_
        refine w_iload_n (n := 59) rfl rfl rfl ?_
        refine w_aload_nR (x := 11) (n := 60) rfl rfl rfl ?_
        refine w_getR (b := 21) (n := 63) rfl rfl rfl rfl rfl ?_
        refine w_iload_n (n := 64) rfl rfl rfl ?_
        refine w_iaload (N := 8) (j := x2.toNatClampNeg) (n := 65) rfl rfl rfl rfl rfl rfl ⟨H.1, ?_⟩
        replace H := H.2
        refine w_iastore (N := 8) (j := x3.toNatClampNeg) (n := 66) rfl rfl rfl rfl rfl ⟨H.1, ?_⟩
        replace H := H.2
        refine w_iload_n (n := 67) rfl rfl rfl ?_
        refine w_aload_nR (x := 11) (n := 68) rfl rfl rfl ?_
        refine w_getR (b := 18) (n := 71) rfl rfl rfl rfl rfl ?_
        refine w_iload_n (n := 72) rfl rfl rfl ?_
        refine w_iaload (N := 8) (j := x2.toNatClampNeg) (n := 73) rfl rfl rfl rfl rfl rfl ⟨H.1, ?_⟩
        replace H := H.2
        refine w_iadd (n := 74) rfl rfl ?_
        refine w_istore_n (ls' := [some (.ref 40), some (.ref 11), some (.int (x2 + (I 18 x2.toNatClampNeg))), some (.int x3)]) (n := 75) rfl rfl rfl rfl ?_
        refine w_aload_nR (x := 40) (n := 76) rfl rfl rfl ?_
        refine w_iload_n (n := 77) rfl rfl rfl ?_
        refine w_iconst (v := 1) (n := 78) rfl rfl rfl ?_
        refine w_iadd (n := 79) rfl rfl ?_
        refine w_putI (n := 82) rfl rfl rfl rfl rfl ?_
        refine w_iinc (y := x3 + 1) (ls' := [some (.ref 40), some (.ref 11), some (.int (x2 + (I 18 x2.toNatClampNeg))), some (.int (x3 + 1))]) (n := 85) rfl rfl rfl rfl rfl ?_
        refine w_goto rfl ?_
        exact w_drp mm_Qf_v H (lb_s (lb_s (lb_s (lb_s lb_e))))
theorem e_Sound_forget {P : mm_I → Prop} {I : mm_I}
  (H : mm_W 46 2 [some (.ref 3), some (.int 0)] [] I (mm_qv 46 P)) : mm_Mv 46 [.ref 3] I P := by
  refine mm_Mv_of ?_
  show mm_W 46 0 [some (.ref 3), none] [] I (mm_qv 46 P)
  refine w_iconst (v := 0) (n := 1) rfl rfl rfl ?_
  refine w_istore_n (ls' := [some (.ref 3), some (.int 0)]) (n := 2) rfl rfl rfl rfl ?_
  exact w_drp mm_Qf_v H (lb_s (lb_s lb_e))
theorem c_Sound_forget_2 {P : mm_I → Prop} {I : mm_I} (x1 : Int32)
  (H : (2 ≤ x1 →
      P (mm_up (mm_up (mm_up I 3 2 0) 3 3 0) 3 4 1)) ∧
    (x1 < 2 →
      vp_in x1 2 ∧
      mm_W 46 2 [some (.ref 3), some (.int (x1 + 1))] [] (mm_up I 5 x1.toNatClampNeg 0) (mm_qv 46 P))) : mm_W 46 2 [some (.ref 3), some (.int x1)] [] I (mm_qv 46 P) := by
  refine w_iload_n (n := 3) rfl rfl rfl ?_
  refine w_aload_nR (x := 3) (n := 4) rfl rfl rfl ?_
  refine w_getR (b := 5) (n := 7) rfl rfl rfl rfl rfl ?_
  refine w_alen (N := 2) (v := 2) (n := 8) rfl rfl rfl rfl rfl ?_
  refine w_icmp_ge (n := 11) rfl rfl ⟨fun hc => ?_, fun hc => ?_⟩
  · replace H := H.1 hc
    refine w_aload_nR (x := 3) (n := 25) rfl rfl rfl ?_
    refine w_iconst (v := 0) (n := 26) rfl rfl rfl ?_
    refine w_putI (n := 29) rfl rfl rfl rfl rfl ?_
    refine w_aload_nR (x := 3) (n := 30) rfl rfl rfl ?_
    refine w_iconst (v := 0) (n := 31) rfl rfl rfl ?_
    refine w_putI (n := 34) rfl rfl rfl rfl rfl ?_
    refine w_aload_nR (x := 3) (n := 35) rfl rfl rfl ?_
    refine w_iconst (v := 1) (n := 36) rfl rfl rfl ?_
    refine w_putI (n := 39) rfl rfl rfl rfl rfl ?_
    exact w_vreturn rfl rfl H
  · replace H := H.2 hc
    refine w_aload_nR (x := 3) (n := 12) rfl rfl rfl ?_
    refine w_getR (b := 5) (n := 15) rfl rfl rfl rfl rfl ?_
    refine w_iload_n (n := 16) rfl rfl rfl ?_
    refine w_iconst (v := 0) (n := 17) rfl rfl rfl ?_
    refine w_iastore (N := 2) (j := x1.toNatClampNeg) (n := 18) rfl rfl rfl rfl rfl ⟨H.1, ?_⟩
    replace H := H.2
    refine w_iinc (y := x1 + 1) (ls' := [some (.ref 3), some (.int (x1 + 1))]) (n := 21) rfl rfl rfl rfl rfl ?_
    refine w_goto rfl ?_
    exact w_drp mm_Qf_v H (lb_s (lb_s lb_e))
theorem e_Sound_has {P : Int32 → mm_I → Prop} {I : mm_I} (x1 : Int32)
  (H : ((if x1 < 0 then (0 : Int32) else (if (I 3 2) ≤ x1 then (0 : Int32) else (if 2 ≤ x1 then (0 : Int32) else 1))) = 0 ∨ (if x1 < 0 then (0 : Int32) else (if (I 3 2) ≤ x1 then (0 : Int32) else (if 2 ≤ x1 then (0 : Int32) else 1))) = 1) ∧ P (if x1 < 0 then (0 : Int32) else (if (I 3 2) ≤ x1 then (0 : Int32) else (if 2 ≤ x1 then (0 : Int32) else 1))) I) : mm_Mi 47 [.ref 3, .int x1] I P := by
  refine mm_Mi_of ?_
  show mm_W 47 0 [some (.ref 3), some (.int x1)] [] I (mm_qi 47 P)
  refine w_iload_n (n := 1) rfl rfl rfl ?_
  have J1 : ∀ (w1_0 : Int32), w1_0 = (if x1 < 0 then (0 : Int32) else (if (I 3 2) ≤ x1 then (0 : Int32) else (if 2 ≤ x1 then (0 : Int32) else 1))) → mm_W 47 26 [some (.ref 3), some (.int x1)] [.int w1_0] I (mm_qi 47 P) := by
    intro w1_0 e1_0
    subst e1_0
    exact w_zreturn rfl rfl H
  refine w_if_lt (n := 4) rfl rfl ⟨fun hc => ?_, fun hc => ?_⟩
  · refine w_iconst (v := 0) (n := 26) rfl rfl rfl ?_
    refine w_drp mm_Qf_i (J1 _ ?_) (lb_s (lb_s lb_e))
    · exact (if_pos hc).symm
  · refine w_iload_n (n := 5) rfl rfl rfl ?_
    refine w_aload_nR (x := 3) (n := 6) rfl rfl rfl ?_
    refine w_getI (n := 9) rfl rfl rfl rfl ?_
    have J9 : ∀ (w9_0 : Int32), w9_0 = (if (I 3 2) ≤ x1 then (0 : Int32) else (if 2 ≤ x1 then (0 : Int32) else 1)) → mm_W 47 26 [some (.ref 3), some (.int x1)] [.int w9_0] I (mm_qi 47 P) := by
      intro w9_0 e9_0
      subst e9_0
      refine w_drp mm_Qf_i (J1 _ ?_) (lb_s (lb_s lb_e))
      · exact (if_neg (fa_nlt hc)).symm
    refine w_icmp_ge (n := 12) rfl rfl ⟨fun hc => ?_, fun hc => ?_⟩
    · refine w_iconst (v := 0) (n := 26) rfl rfl rfl ?_
      refine w_drp mm_Qf_i (J9 _ ?_) (lb_s (lb_s lb_e))
      · exact (if_pos hc).symm
    · refine w_iload_n (n := 13) rfl rfl rfl ?_
      refine w_aload_nR (x := 3) (n := 14) rfl rfl rfl ?_
      refine w_getR (b := 5) (n := 17) rfl rfl rfl rfl rfl ?_
      refine w_alen (N := 2) (v := 2) (n := 18) rfl rfl rfl rfl rfl ?_
      have J18 : ∀ (w18_0 : Int32), w18_0 = (if 2 ≤ x1 then (0 : Int32) else 1) → mm_W 47 26 [some (.ref 3), some (.int x1)] [.int w18_0] I (mm_qi 47 P) := by
        intro w18_0 e18_0
        subst e18_0
        refine w_drp mm_Qf_i (J9 _ ?_) (lb_s (lb_s lb_e))
        · exact (if_neg (fa_nle hc)).symm
      refine w_icmp_ge (n := 21) rfl rfl ⟨fun hc => ?_, fun hc => ?_⟩
      · refine w_iconst (v := 0) (n := 26) rfl rfl rfl ?_
        refine w_drp mm_Qf_i (J18 _ ?_) (lb_s (lb_s lb_e))
        · exact (if_pos hc).symm
      · refine w_iconst (v := 1) (n := 22) rfl rfl rfl ?_
        refine w_goto rfl ?_
        refine w_drp mm_Qf_i (J18 _ ?_) (lb_s (lb_s lb_e))
        · exact (if_neg (fa_nle hc)).symm
theorem e_Sound_holdsPlace {P : Int32 → mm_I → Prop} {I : mm_I} (x1 : Int32) (x2 : Int32)
  (H : mm_Mi 47 [.ref 3, .int x1] I (fun r2 I2 =>  -- Sound.has
    (¬ r2 = 0 →
      (0 ≤ x2 →
        vp_in x1 2 ∧
        True) ∧
      True) ∧
    ((if r2 = 0 then (0 : Int32) else (if x2 < 0 then (0 : Int32) else (if (I2 5 x1.toNatClampNeg) ≤ x2 then (0 : Int32) else 1))) = 0 ∨ (if r2 = 0 then (0 : Int32) else (if x2 < 0 then (0 : Int32) else (if (I2 5 x1.toNatClampNeg) ≤ x2 then (0 : Int32) else 1))) = 1) ∧ P (if r2 = 0 then (0 : Int32) else (if x2 < 0 then (0 : Int32) else (if (I2 5 x1.toNatClampNeg) ≤ x2 then (0 : Int32) else 1))) I2)) : mm_Mi 48 [.ref 3, .int x1, .int x2] I P := by
  refine mm_Mi_of ?_
  show mm_W 48 0 [some (.ref 3), some (.int x1), some (.int x2)] [] I (mm_qi 48 P)
  refine w_aload_nR (x := 3) (n := 1) rfl rfl rfl ?_
  refine w_iload_n (n := 2) rfl rfl rfl ?_
  refine w_calli (as := [.ref 3, .int x1]) (rest := []) (n := 5) rfl rfl rfl rfl ?_
  obtain ⟨r2, I2, hI2, H⟩ := H
  refine ⟨r2, I2, hI2, ?_⟩
  obtain ⟨K2, H⟩ := H
  have J5 : ∀ (w5_0 : Int32), w5_0 = (if r2 = 0 then (0 : Int32) else (if x2 < 0 then (0 : Int32) else (if (I2 5 x1.toNatClampNeg) ≤ x2 then (0 : Int32) else 1))) → mm_W 48 27 [some (.ref 3), some (.int x1), some (.int x2)] [.int w5_0] I2 (mm_qi 48 P) := by
    intro w5_0 e5_0
    subst e5_0
    exact w_zreturn rfl rfl H
  refine w_if_eq (n := 8) rfl rfl ⟨fun hc => ?_, fun hc => ?_⟩
  · refine w_iconst (v := 0) (n := 27) rfl rfl rfl ?_
    refine w_drp mm_Qf_i (J5 _ ?_) (lb_s (lb_s (lb_s lb_e)))
    · exact (if_pos hc).symm
  · have H := K2 hc
    refine w_iload_n (n := 9) rfl rfl rfl ?_
    obtain ⟨K2, H⟩ := H
    have J9 : ∀ (w9_0 : Int32), w9_0 = (if x2 < 0 then (0 : Int32) else (if (I2 5 x1.toNatClampNeg) ≤ x2 then (0 : Int32) else 1)) → mm_W 48 27 [some (.ref 3), some (.int x1), some (.int x2)] [.int w9_0] I2 (mm_qi 48 P) := by
      intro w9_0 e9_0
      subst e9_0
      refine w_drp mm_Qf_i (J5 _ ?_) (lb_s (lb_s (lb_s lb_e)))
      · exact (if_neg hc).symm
    refine w_if_lt (n := 12) rfl rfl ⟨fun hc => ?_, fun hc => ?_⟩
    · refine w_iconst (v := 0) (n := 27) rfl rfl rfl ?_
      refine w_drp mm_Qf_i (J9 _ ?_) (lb_s (lb_s (lb_s lb_e)))
      · exact (if_pos hc).symm
    · have H := K2 hc
      refine w_iload_n (n := 13) rfl rfl rfl ?_
      refine w_aload_nR (x := 3) (n := 14) rfl rfl rfl ?_
      refine w_getR (b := 5) (n := 17) rfl rfl rfl rfl rfl ?_
      refine w_iload_n (n := 18) rfl rfl rfl ?_
      refine w_iaload (N := 2) (j := x1.toNatClampNeg) (n := 19) rfl rfl rfl rfl rfl rfl ⟨H.1, ?_⟩
      replace H := H.2
      have J19 : ∀ (w19_0 : Int32), w19_0 = (if (I2 5 x1.toNatClampNeg) ≤ x2 then (0 : Int32) else 1) → mm_W 48 27 [some (.ref 3), some (.int x1), some (.int x2)] [.int w19_0] I2 (mm_qi 48 P) := by
        intro w19_0 e19_0
        subst e19_0
        refine w_drp mm_Qf_i (J9 _ ?_) (lb_s (lb_s (lb_s lb_e)))
        · exact (if_neg (fa_nlt hc)).symm
      refine w_icmp_ge (n := 22) rfl rfl ⟨fun hc => ?_, fun hc => ?_⟩
      · refine w_iconst (v := 0) (n := 27) rfl rfl rfl ?_
        refine w_drp mm_Qf_i (J19 _ ?_) (lb_s (lb_s (lb_s lb_e)))
        · exact (if_pos hc).symm
      · refine w_iconst (v := 1) (n := 23) rfl rfl rfl ?_
        refine w_goto rfl ?_
        refine w_drp mm_Qf_i (J19 _ ?_) (lb_s (lb_s (lb_s lb_e)))
        · exact (if_neg (fa_nle hc)).symm
theorem e_Sound_valueAt {P : Int32 → mm_I → Prop} {I : mm_I} (x1 : Int32) (x2 : Int32)
  (H : vp_in ((x1 * 256) + x2) 512 ∧
    P (I 4 (((x1 * 256) + x2).toNatClampNeg)) I) : mm_Mi 49 [.ref 3, .int x1, .int x2] I P := by
  refine mm_Mi_of ?_
  show mm_W 49 0 [some (.ref 3), some (.int x1), some (.int x2)] [] I (mm_qi 49 P)
  refine w_aload_nR (x := 3) (n := 1) rfl rfl rfl ?_
  refine w_getR (b := 4) (n := 4) rfl rfl rfl rfl rfl ?_
  refine w_iload_n (n := 5) rfl rfl rfl ?_
  refine w_sipush (v := 256) (n := 8) rfl rfl rfl ?_
  refine w_imul (n := 9) rfl rfl ?_
  refine w_iload_n (n := 10) rfl rfl rfl ?_
  refine w_iadd (n := 11) rfl rfl ?_
  refine w_iaload (N := 512) (j := ((x1 * 256) + x2).toNatClampNeg) (n := 12) rfl rfl rfl rfl rfl rfl ⟨H.1, ?_⟩
  replace H := H.2
  exact w_ireturn rfl rfl H
theorem e_Sound_orZero {P : Int32 → mm_I → Prop} {I : mm_I} (x1 : Int32) (x2 : Int32)
  (H : mm_Mi 48 [.ref 3, .int x1, .int x2] I (fun r3 I3 =>  -- Sound.holdsPlace
    (r3 = 0 →
      P 0 I3) ∧
    (¬ r3 = 0 →
      mm_Mi 49 [.ref 3, .int x1, .int x2] I3 (fun r12 I12 =>  -- Sound.valueAt
      P r12 I12)))) : mm_Mi 50 [.ref 3, .int x1, .int x2] I P := by
  refine mm_Mi_of ?_
  show mm_W 50 0 [some (.ref 3), some (.int x1), some (.int x2)] [] I (mm_qi 50 P)
  refine w_aload_nR (x := 3) (n := 1) rfl rfl rfl ?_
  refine w_iload_n (n := 2) rfl rfl rfl ?_
  refine w_iload_n (n := 3) rfl rfl rfl ?_
  refine w_calli (as := [.ref 3, .int x1, .int x2]) (rest := []) (n := 6) rfl rfl rfl rfl ?_
  obtain ⟨r3, I3, hI3, H⟩ := H
  refine ⟨r3, I3, hI3, ?_⟩
  refine w_if_eq (n := 9) rfl rfl ⟨fun hc => ?_, fun hc => ?_⟩
  · replace H := H.1 hc
    refine w_iconst (v := 0) (n := 19) rfl rfl rfl ?_
    exact w_ireturn rfl rfl H
  · replace H := H.2 hc
    refine w_aload_nR (x := 3) (n := 10) rfl rfl rfl ?_
    refine w_iload_n (n := 11) rfl rfl rfl ?_
    refine w_iload_n (n := 12) rfl rfl rfl ?_
    refine w_calli (as := [.ref 3, .int x1, .int x2]) (rest := []) (n := 15) rfl rfl rfl rfl ?_
    obtain ⟨r12, I12, hI12, H⟩ := H
    refine ⟨r12, I12, hI12, ?_⟩
    refine w_goto rfl ?_
    exact w_ireturn rfl rfl H
theorem e_Sound_put {P : mm_I → Prop} {I : mm_I} (x1 : Int32) (x2 : Int32)
  (H : mm_Mi 47 [.ref 3, .int x1] I (fun r2 I2 =>  -- Sound.has
    (r2 = 0 →
      P I2) ∧
    (¬ r2 = 0 →
      vp_in x1 2 ∧
      (256 ≤ (I2 5 x1.toNatClampNeg) →
        P I2) ∧
      ((I2 5 x1.toNatClampNeg) < 256 →
        vp_in x1 2 ∧
        vp_in ((x1 * 256) + (I2 5 x1.toNatClampNeg)) 512 ∧
        vp_in x1 2 ∧
        vp_in x1 2 ∧
        P (mm_up (mm_up I2 4 (((x1 * 256) + (I2 5 x1.toNatClampNeg)).toNatClampNeg) x2) 5 x1.toNatClampNeg ((I2 5 x1.toNatClampNeg) + 1)))))) : mm_Mv 51 [.ref 3, .int x1, .int x2] I P := by
  refine mm_Mv_of ?_
  show mm_W 51 0 [some (.ref 3), some (.int x1), some (.int x2)] [] I (mm_qv 51 P)
  refine w_aload_nR (x := 3) (n := 1) rfl rfl rfl ?_
  refine w_iload_n (n := 2) rfl rfl rfl ?_
  refine w_calli (as := [.ref 3, .int x1]) (rest := []) (n := 5) rfl rfl rfl rfl ?_
  obtain ⟨r2, I2, hI2, H⟩ := H
  refine ⟨r2, I2, hI2, ?_⟩
  refine w_if_eq (n := 8) rfl rfl ⟨fun hc => ?_, fun hc => ?_⟩
  · replace H := H.1 hc
    exact w_vreturn rfl rfl H
  · replace H := H.2 hc
    refine w_aload_nR (x := 3) (n := 9) rfl rfl rfl ?_
    refine w_getR (b := 5) (n := 12) rfl rfl rfl rfl rfl ?_
    refine w_iload_n (n := 13) rfl rfl rfl ?_
    refine w_iaload (N := 2) (j := x1.toNatClampNeg) (n := 14) rfl rfl rfl rfl rfl rfl ⟨H.1, ?_⟩
    replace H := H.2
    refine w_sipush (v := 256) (n := 17) rfl rfl rfl ?_
    refine w_icmp_ge (n := 20) rfl rfl ⟨fun hc => ?_, fun hc => ?_⟩
    · replace H := H.1 hc
      exact w_vreturn rfl rfl H
    · replace H := H.2 hc
      refine w_aload_nR (x := 3) (n := 21) rfl rfl rfl ?_
      refine w_getR (b := 4) (n := 24) rfl rfl rfl rfl rfl ?_
      refine w_iload_n (n := 25) rfl rfl rfl ?_
      refine w_sipush (v := 256) (n := 28) rfl rfl rfl ?_
      refine w_imul (n := 29) rfl rfl ?_
      refine w_aload_nR (x := 3) (n := 30) rfl rfl rfl ?_
      refine w_getR (b := 5) (n := 33) rfl rfl rfl rfl rfl ?_
      refine w_iload_n (n := 34) rfl rfl rfl ?_
      refine w_iaload (N := 2) (j := x1.toNatClampNeg) (n := 35) rfl rfl rfl rfl rfl rfl ⟨H.1, ?_⟩
      replace H := H.2
      refine w_iadd (n := 36) rfl rfl ?_
      refine w_iload_n (n := 37) rfl rfl rfl ?_
      refine w_iastore (N := 512) (j := ((x1 * 256) + (I2 5 x1.toNatClampNeg)).toNatClampNeg) (n := 38) rfl rfl rfl rfl rfl ⟨H.1, ?_⟩
      replace H := H.2
      refine w_aload_nR (x := 3) (n := 39) rfl rfl rfl ?_
      refine w_getR (b := 5) (n := 42) rfl rfl rfl rfl rfl ?_
      refine w_iload_n (n := 43) rfl rfl rfl ?_
      refine w_dup2 (n := 44) rfl rfl rfl ?_
      refine w_iaload (N := 2) (j := x1.toNatClampNeg) (n := 45) rfl rfl rfl rfl rfl rfl ⟨H.1, ?_⟩
      replace H := H.2
      refine w_iconst (v := 1) (n := 46) rfl rfl rfl ?_
      refine w_iadd (n := 47) rfl rfl ?_
      refine w_iastore (N := 2) (j := x1.toNatClampNeg) (n := 48) rfl rfl rfl rfl rfl ⟨H.1, ?_⟩
      replace H := H.2
      exact w_vreturn rfl rfl H
