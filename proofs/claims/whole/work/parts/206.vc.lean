theorem e_WS_writeFrame {P : mm_I → Prop} {I : mm_I} (x1 : Int32)
  (H : mm_Mv 58 [.ref 47, .int 165] I (fun I15 =>  -- Store.putByte
    mm_Mv 58 [.ref 47, .int x1] I15 (fun I23 =>  -- Store.putByte
    (¬ (I23 3 2) = 2 →
      mm_Mr 14 [.ref 10, .int (I23 10 6)] I23 (fun r64 I64 =>  -- Plan.firstRow
      ∃ aa64, r64 = some aa64 ∧ (aa64 = 22 ∨ aa64 = 28 ∨ aa64 = 34 ∨ aa64 = 40) ∧
      mm_Mv 98 [.ref 0, .ref aa64] I64 (fun I67 =>  -- WS.writeRow
      (¬ (I67 3 2) = 2 →
        mm_Mv 60 [.ref 47] I67 (fun I103 =>  -- Store.endBits
        mm_Mv 61 [.ref 47, .int (I 47 1)] I103 (fun I111 =>  -- Store.putCheck
        P I111))) ∧
      ((I67 3 2) = 2 →
        mm_Mr 15 [.ref 10, .int (I67 10 6)] I67 (fun r93 I93 =>  -- Plan.secondRow
        ∃ aa93, r93 = some aa93 ∧ (aa93 = 22 ∨ aa93 = 28 ∨ aa93 = 34 ∨ aa93 = 40) ∧
        mm_Mv 98 [.ref 0, .ref aa93] I93 (fun I96 =>  -- WS.writeRow
        mm_Mv 60 [.ref 47] I96 (fun I103 =>  -- Store.endBits
        mm_Mv 61 [.ref 47, .int (I 47 1)] I103 (fun I111 =>  -- Store.putCheck
        P I111)))))))) ∧
    ((I23 3 2) = 2 →
      mm_Mv 59 [.ref 47, .int (I23 10 6), .int 2] I23 (fun I49 =>  -- Store.putBits
      mm_Mr 14 [.ref 10, .int (I49 10 6)] I49 (fun r64 I64 =>  -- Plan.firstRow
      ∃ aa64, r64 = some aa64 ∧ (aa64 = 22 ∨ aa64 = 28 ∨ aa64 = 34 ∨ aa64 = 40) ∧
      mm_Mv 98 [.ref 0, .ref aa64] I64 (fun I67 =>  -- WS.writeRow
      (¬ (I67 3 2) = 2 →
        mm_Mv 60 [.ref 47] I67 (fun I103 =>  -- Store.endBits
        mm_Mv 61 [.ref 47, .int (I 47 1)] I103 (fun I111 =>  -- Store.putCheck
        P I111))) ∧
      ((I67 3 2) = 2 →
        mm_Mr 15 [.ref 10, .int (I67 10 6)] I67 (fun r93 I93 =>  -- Plan.secondRow
        ∃ aa93, r93 = some aa93 ∧ (aa93 = 22 ∨ aa93 = 28 ∨ aa93 = 34 ∨ aa93 = 40) ∧
        mm_Mv 98 [.ref 0, .ref aa93] I93 (fun I96 =>  -- WS.writeRow
        mm_Mv 60 [.ref 47] I96 (fun I103 =>  -- Store.endBits
        mm_Mv 61 [.ref 47, .int (I 47 1)] I103 (fun I111 =>  -- Store.putCheck
        P I111)))))))))))) : mm_Mv 97 [.ref 0, .int x1] I P := by
  refine mm_Mv_of ?_
  show mm_W 97 0 [some (.ref 0), some (.int x1), none] [] I (mm_qv 97 P)
  refine w_aload_nR (x := 0) (n := 1) rfl rfl rfl ?_
  refine w_getR (b := 47) (n := 4) rfl rfl rfl rfl rfl ?_
  refine w_getI (n := 7) rfl rfl rfl rfl ?_
  refine w_istore_n (ls' := [some (.ref 0), some (.int x1), some (.int (I 47 1))]) (n := 8) rfl rfl rfl rfl ?_
  refine w_aload_nR (x := 0) (n := 9) rfl rfl rfl ?_
  refine w_getR (b := 47) (n := 12) rfl rfl rfl rfl rfl ?_
  refine w_sipush (v := 165) (n := 15) rfl rfl rfl ?_
  refine w_callv (as := [.ref 47, .int 165]) (rest := []) (n := 18) rfl rfl rfl rfl ?_
  obtain ⟨I15, hI15, H⟩ := H
  refine ⟨I15, hI15, ?_⟩
  refine w_aload_nR (x := 0) (n := 19) rfl rfl rfl ?_
  refine w_getR (b := 47) (n := 22) rfl rfl rfl rfl rfl ?_
  refine w_iload_n (n := 23) rfl rfl rfl ?_
  refine w_callv (as := [.ref 47, .int x1]) (rest := []) (n := 26) rfl rfl rfl rfl ?_
  obtain ⟨I23, hI23, H⟩ := H
  refine ⟨I23, hI23, ?_⟩
  refine w_aload_nR (x := 0) (n := 27) rfl rfl rfl ?_
  refine w_getR (b := 3) (n := 30) rfl rfl rfl rfl rfl ?_
  refine w_getI (n := 33) rfl rfl rfl rfl ?_
  refine w_iconst (v := 2) (n := 34) rfl rfl rfl ?_
  refine w_icmp_ne (n := 37) rfl rfl ⟨fun hc => ?_, fun hc => ?_⟩
  · replace H := H.1 hc
    refine w_aload_nR (x := 0) (n := 53) rfl rfl rfl ?_
    refine w_aload_nR (x := 0) (n := 54) rfl rfl rfl ?_
    refine w_getR (b := 10) (n := 57) rfl rfl rfl rfl rfl ?_
    refine w_aload_nR (x := 0) (n := 58) rfl rfl rfl ?_
    refine w_getR (b := 10) (n := 61) rfl rfl rfl rfl rfl ?_
    refine w_getI (n := 64) rfl rfl rfl rfl ?_
    refine w_callr (as := [.ref 10, .int (I23 10 6)]) (rest := [.ref 0]) (n := 67) rfl rfl rfl rfl ?_
    obtain ⟨r64, I64, hI64, H⟩ := H
    refine ⟨r64, I64, hI64, ?_⟩
    obtain ⟨aa64, rfl, haa64, H⟩ := H
    rcases haa64 with rfl | rfl | rfl | rfl
    · refine w_callv (as := [.ref 0, .ref 22]) (rest := []) (n := 70) rfl rfl rfl rfl ?_
      obtain ⟨I67, hI67, H⟩ := H
      refine ⟨I67, hI67, ?_⟩
      refine w_aload_nR (x := 0) (n := 71) rfl rfl rfl ?_
      refine w_getR (b := 3) (n := 74) rfl rfl rfl rfl rfl ?_
      refine w_getI (n := 77) rfl rfl rfl rfl ?_
      refine w_iconst (v := 2) (n := 78) rfl rfl rfl ?_
      refine w_icmp_ne (n := 81) rfl rfl ⟨fun hc => ?_, fun hc => ?_⟩
      · replace H := H.1 hc
        refine w_aload_nR (x := 0) (n := 100) rfl rfl rfl ?_
        refine w_getR (b := 47) (n := 103) rfl rfl rfl rfl rfl ?_
        refine w_callv (as := [.ref 47]) (rest := []) (n := 106) rfl rfl rfl rfl ?_
        obtain ⟨I103, hI103, H⟩ := H
        refine ⟨I103, hI103, ?_⟩
        refine w_aload_nR (x := 0) (n := 107) rfl rfl rfl ?_
        refine w_getR (b := 47) (n := 110) rfl rfl rfl rfl rfl ?_
        refine w_iload_n (n := 111) rfl rfl rfl ?_
        refine w_callv (as := [.ref 47, .int (I 47 1)]) (rest := []) (n := 114) rfl rfl rfl rfl ?_
        obtain ⟨I111, hI111, H⟩ := H
        refine ⟨I111, hI111, ?_⟩
        exact w_vreturn rfl rfl H
      · replace H := H.2 hc
        refine w_aload_nR (x := 0) (n := 82) rfl rfl rfl ?_
        refine w_aload_nR (x := 0) (n := 83) rfl rfl rfl ?_
        refine w_getR (b := 10) (n := 86) rfl rfl rfl rfl rfl ?_
        refine w_aload_nR (x := 0) (n := 87) rfl rfl rfl ?_
        refine w_getR (b := 10) (n := 90) rfl rfl rfl rfl rfl ?_
        refine w_getI (n := 93) rfl rfl rfl rfl ?_
        refine w_callr (as := [.ref 10, .int (I67 10 6)]) (rest := [.ref 0]) (n := 96) rfl rfl rfl rfl ?_
        obtain ⟨r93, I93, hI93, H⟩ := H
        refine ⟨r93, I93, hI93, ?_⟩
        obtain ⟨aa93, rfl, haa93, H⟩ := H
        rcases haa93 with rfl | rfl | rfl | rfl
        · refine w_callv (as := [.ref 0, .ref 22]) (rest := []) (n := 99) rfl rfl rfl rfl ?_
          obtain ⟨I96, hI96, H⟩ := H
          refine ⟨I96, hI96, ?_⟩
          refine w_aload_nR (x := 0) (n := 100) rfl rfl rfl ?_
          refine w_getR (b := 47) (n := 103) rfl rfl rfl rfl rfl ?_
          refine w_callv (as := [.ref 47]) (rest := []) (n := 106) rfl rfl rfl rfl ?_
          obtain ⟨I103, hI103, H⟩ := H
          refine ⟨I103, hI103, ?_⟩
          refine w_aload_nR (x := 0) (n := 107) rfl rfl rfl ?_
          refine w_getR (b := 47) (n := 110) rfl rfl rfl rfl rfl ?_
          refine w_iload_n (n := 111) rfl rfl rfl ?_
          refine w_callv (as := [.ref 47, .int (I 47 1)]) (rest := []) (n := 114) rfl rfl rfl rfl ?_
          obtain ⟨I111, hI111, H⟩ := H
          refine ⟨I111, hI111, ?_⟩
          exact w_vreturn rfl rfl H
        · refine w_callv (as := [.ref 0, .ref 28]) (rest := []) (n := 99) rfl rfl rfl rfl ?_
          obtain ⟨I96, hI96, H⟩ := H
          refine ⟨I96, hI96, ?_⟩
          refine w_aload_nR (x := 0) (n := 100) rfl rfl rfl ?_
          refine w_getR (b := 47) (n := 103) rfl rfl rfl rfl rfl ?_
          refine w_callv (as := [.ref 47]) (rest := []) (n := 106) rfl rfl rfl rfl ?_
          obtain ⟨I103, hI103, H⟩ := H
          refine ⟨I103, hI103, ?_⟩
          refine w_aload_nR (x := 0) (n := 107) rfl rfl rfl ?_
          refine w_getR (b := 47) (n := 110) rfl rfl rfl rfl rfl ?_
          refine w_iload_n (n := 111) rfl rfl rfl ?_
          refine w_callv (as := [.ref 47, .int (I 47 1)]) (rest := []) (n := 114) rfl rfl rfl rfl ?_
          obtain ⟨I111, hI111, H⟩ := H
          refine ⟨I111, hI111, ?_⟩
          exact w_vreturn rfl rfl H
        · refine w_callv (as := [.ref 0, .ref 34]) (rest := []) (n := 99) rfl rfl rfl rfl ?_
          obtain ⟨I96, hI96, H⟩ := H
          refine ⟨I96, hI96, ?_⟩
          refine w_aload_nR (x := 0) (n := 100) rfl rfl rfl ?_
          refine w_getR (b := 47) (n := 103) rfl rfl rfl rfl rfl ?_
          refine w_callv (as := [.ref 47]) (rest := []) (n := 106) rfl rfl rfl rfl ?_
          obtain ⟨I103, hI103, H⟩ := H
          refine ⟨I103, hI103, ?_⟩
          refine w_aload_nR (x := 0) (n := 107) rfl rfl rfl ?_
          refine w_getR (b := 47) (n := 110) rfl rfl rfl rfl rfl ?_
          refine w_iload_n (n := 111) rfl rfl rfl ?_
          refine w_callv (as := [.ref 47, .int (I 47 1)]) (rest := []) (n := 114) rfl rfl rfl rfl ?_
          obtain ⟨I111, hI111, H⟩ := H
          refine ⟨I111, hI111, ?_⟩
          exact w_vreturn rfl rfl H
        · refine w_callv (as := [.ref 0, .ref 40]) (rest := []) (n := 99) rfl rfl rfl rfl ?_
          obtain ⟨I96, hI96, H⟩ := H
          refine ⟨I96, hI96, ?_⟩
          refine w_aload_nR (x := 0) (n := 100) rfl rfl rfl ?_
          refine w_getR (b := 47) (n := 103) rfl rfl rfl rfl rfl ?_
          refine w_callv (as := [.ref 47]) (rest := []) (n := 106) rfl rfl rfl rfl ?_
          obtain ⟨I103, hI103, H⟩ := H
          refine ⟨I103, hI103, ?_⟩
          refine w_aload_nR (x := 0) (n := 107) rfl rfl rfl ?_
          refine w_getR (b := 47) (n := 110) rfl rfl rfl rfl rfl ?_
          refine w_iload_n (n := 111) rfl rfl rfl ?_
          refine w_callv (as := [.ref 47, .int (I 47 1)]) (rest := []) (n := 114) rfl rfl rfl rfl ?_
          obtain ⟨I111, hI111, H⟩ := H
          refine ⟨I111, hI111, ?_⟩
          exact w_vreturn rfl rfl H
    · refine w_callv (as := [.ref 0, .ref 28]) (rest := []) (n := 70) rfl rfl rfl rfl ?_
      obtain ⟨I67, hI67, H⟩ := H
      refine ⟨I67, hI67, ?_⟩
      refine w_aload_nR (x := 0) (n := 71) rfl rfl rfl ?_
      refine w_getR (b := 3) (n := 74) rfl rfl rfl rfl rfl ?_
      refine w_getI (n := 77) rfl rfl rfl rfl ?_
      refine w_iconst (v := 2) (n := 78) rfl rfl rfl ?_
      refine w_icmp_ne (n := 81) rfl rfl ⟨fun hc => ?_, fun hc => ?_⟩
      · replace H := H.1 hc
        refine w_aload_nR (x := 0) (n := 100) rfl rfl rfl ?_
        refine w_getR (b := 47) (n := 103) rfl rfl rfl rfl rfl ?_
        refine w_callv (as := [.ref 47]) (rest := []) (n := 106) rfl rfl rfl rfl ?_
        obtain ⟨I103, hI103, H⟩ := H
        refine ⟨I103, hI103, ?_⟩
        refine w_aload_nR (x := 0) (n := 107) rfl rfl rfl ?_
        refine w_getR (b := 47) (n := 110) rfl rfl rfl rfl rfl ?_
        refine w_iload_n (n := 111) rfl rfl rfl ?_
        refine w_callv (as := [.ref 47, .int (I 47 1)]) (rest := []) (n := 114) rfl rfl rfl rfl ?_
        obtain ⟨I111, hI111, H⟩ := H
        refine ⟨I111, hI111, ?_⟩
        exact w_vreturn rfl rfl H
      · replace H := H.2 hc
        refine w_aload_nR (x := 0) (n := 82) rfl rfl rfl ?_
        refine w_aload_nR (x := 0) (n := 83) rfl rfl rfl ?_
        refine w_getR (b := 10) (n := 86) rfl rfl rfl rfl rfl ?_
        refine w_aload_nR (x := 0) (n := 87) rfl rfl rfl ?_
        refine w_getR (b := 10) (n := 90) rfl rfl rfl rfl rfl ?_
        refine w_getI (n := 93) rfl rfl rfl rfl ?_
        refine w_callr (as := [.ref 10, .int (I67 10 6)]) (rest := [.ref 0]) (n := 96) rfl rfl rfl rfl ?_
        obtain ⟨r93, I93, hI93, H⟩ := H
        refine ⟨r93, I93, hI93, ?_⟩
        obtain ⟨aa93, rfl, haa93, H⟩ := H
        rcases haa93 with rfl | rfl | rfl | rfl
        · refine w_callv (as := [.ref 0, .ref 22]) (rest := []) (n := 99) rfl rfl rfl rfl ?_
          obtain ⟨I96, hI96, H⟩ := H
          refine ⟨I96, hI96, ?_⟩
          refine w_aload_nR (x := 0) (n := 100) rfl rfl rfl ?_
          refine w_getR (b := 47) (n := 103) rfl rfl rfl rfl rfl ?_
          refine w_callv (as := [.ref 47]) (rest := []) (n := 106) rfl rfl rfl rfl ?_
          obtain ⟨I103, hI103, H⟩ := H
          refine ⟨I103, hI103, ?_⟩
          refine w_aload_nR (x := 0) (n := 107) rfl rfl rfl ?_
          refine w_getR (b := 47) (n := 110) rfl rfl rfl rfl rfl ?_
          refine w_iload_n (n := 111) rfl rfl rfl ?_
          refine w_callv (as := [.ref 47, .int (I 47 1)]) (rest := []) (n := 114) rfl rfl rfl rfl ?_
          obtain ⟨I111, hI111, H⟩ := H
          refine ⟨I111, hI111, ?_⟩
          exact w_vreturn rfl rfl H
        · refine w_callv (as := [.ref 0, .ref 28]) (rest := []) (n := 99) rfl rfl rfl rfl ?_
          obtain ⟨I96, hI96, H⟩ := H
          refine ⟨I96, hI96, ?_⟩
          refine w_aload_nR (x := 0) (n := 100) rfl rfl rfl ?_
          refine w_getR (b := 47) (n := 103) rfl rfl rfl rfl rfl ?_
          refine w_callv (as := [.ref 47]) (rest := []) (n := 106) rfl rfl rfl rfl ?_
          obtain ⟨I103, hI103, H⟩ := H
          refine ⟨I103, hI103, ?_⟩
          refine w_aload_nR (x := 0) (n := 107) rfl rfl rfl ?_
          refine w_getR (b := 47) (n := 110) rfl rfl rfl rfl rfl ?_
          refine w_iload_n (n := 111) rfl rfl rfl ?_
          refine w_callv (as := [.ref 47, .int (I 47 1)]) (rest := []) (n := 114) rfl rfl rfl rfl ?_
          obtain ⟨I111, hI111, H⟩ := H
          refine ⟨I111, hI111, ?_⟩
          exact w_vreturn rfl rfl H
        · refine w_callv (as := [.ref 0, .ref 34]) (rest := []) (n := 99) rfl rfl rfl rfl ?_
          obtain ⟨I96, hI96, H⟩ := H
          refine ⟨I96, hI96, ?_⟩
          refine w_aload_nR (x := 0) (n := 100) rfl rfl rfl ?_
          refine w_getR (b := 47) (n := 103) rfl rfl rfl rfl rfl ?_
          refine w_callv (as := [.ref 47]) (rest := []) (n := 106) rfl rfl rfl rfl ?_
          obtain ⟨I103, hI103, H⟩ := H
          refine ⟨I103, hI103, ?_⟩
          refine w_aload_nR (x := 0) (n := 107) rfl rfl rfl ?_
          refine w_getR (b := 47) (n := 110) rfl rfl rfl rfl rfl ?_
          refine w_iload_n (n := 111) rfl rfl rfl ?_
          refine w_callv (as := [.ref 47, .int (I 47 1)]) (rest := []) (n := 114) rfl rfl rfl rfl ?_
          obtain ⟨I111, hI111, H⟩ := H
          refine ⟨I111, hI111, ?_⟩
          exact w_vreturn rfl rfl H
        · refine w_callv (as := [.ref 0, .ref 40]) (rest := []) (n := 99) rfl rfl rfl rfl ?_
          obtain ⟨I96, hI96, H⟩ := H
          refine ⟨I96, hI96, ?_⟩
          refine w_aload_nR (x := 0) (n := 100) rfl rfl rfl ?_
          refine w_getR (b := 47) (n := 103) rfl rfl rfl rfl rfl ?_
          refine w_callv (as := [.ref 47]) (rest := []) (n := 106) rfl rfl rfl rfl ?_
          obtain ⟨I103, hI103, H⟩ := H
          refine ⟨I103, hI103, ?_⟩
          refine w_aload_nR (x := 0) (n := 107) rfl rfl rfl ?_
          refine w_getR (b := 47) (n := 110) rfl rfl rfl rfl rfl ?_
          refine w_iload_n (n := 111) rfl rfl rfl ?_
          refine w_callv (as := [.ref 47, .int (I 47 1)]) (rest := []) (n := 114) rfl rfl rfl rfl ?_
          obtain ⟨I111, hI111, H⟩ := H
          refine ⟨I111, hI111, ?_⟩
          exact w_vreturn rfl rfl H
    · refine w_callv (as := [.ref 0, .ref 34]) (rest := []) (n := 70) rfl rfl rfl rfl ?_
      obtain ⟨I67, hI67, H⟩ := H
      refine ⟨I67, hI67, ?_⟩
      refine w_aload_nR (x := 0) (n := 71) rfl rfl rfl ?_
      refine w_getR (b := 3) (n := 74) rfl rfl rfl rfl rfl ?_
      refine w_getI (n := 77) rfl rfl rfl rfl ?_
      refine w_iconst (v := 2) (n := 78) rfl rfl rfl ?_
      refine w_icmp_ne (n := 81) rfl rfl ⟨fun hc => ?_, fun hc => ?_⟩
      · replace H := H.1 hc
        refine w_aload_nR (x := 0) (n := 100) rfl rfl rfl ?_
        refine w_getR (b := 47) (n := 103) rfl rfl rfl rfl rfl ?_
        refine w_callv (as := [.ref 47]) (rest := []) (n := 106) rfl rfl rfl rfl ?_
        obtain ⟨I103, hI103, H⟩ := H
        refine ⟨I103, hI103, ?_⟩
        refine w_aload_nR (x := 0) (n := 107) rfl rfl rfl ?_
        refine w_getR (b := 47) (n := 110) rfl rfl rfl rfl rfl ?_
        refine w_iload_n (n := 111) rfl rfl rfl ?_
        refine w_callv (as := [.ref 47, .int (I 47 1)]) (rest := []) (n := 114) rfl rfl rfl rfl ?_
        obtain ⟨I111, hI111, H⟩ := H
        refine ⟨I111, hI111, ?_⟩
        exact w_vreturn rfl rfl H
      · replace H := H.2 hc
        refine w_aload_nR (x := 0) (n := 82) rfl rfl rfl ?_
        refine w_aload_nR (x := 0) (n := 83) rfl rfl rfl ?_
        refine w_getR (b := 10) (n := 86) rfl rfl rfl rfl rfl ?_
        refine w_aload_nR (x := 0) (n := 87) rfl rfl rfl ?_
        refine w_getR (b := 10) (n := 90) rfl rfl rfl rfl rfl ?_
        refine w_getI (n := 93) rfl rfl rfl rfl ?_
        refine w_callr (as := [.ref 10, .int (I67 10 6)]) (rest := [.ref 0]) (n := 96) rfl rfl rfl rfl ?_
        obtain ⟨r93, I93, hI93, H⟩ := H
        refine ⟨r93, I93, hI93, ?_⟩
        obtain ⟨aa93, rfl, haa93, H⟩ := H
        rcases haa93 with rfl | rfl | rfl | rfl
        · refine w_callv (as := [.ref 0, .ref 22]) (rest := []) (n := 99) rfl rfl rfl rfl ?_
          obtain ⟨I96, hI96, H⟩ := H
          refine ⟨I96, hI96, ?_⟩
          refine w_aload_nR (x := 0) (n := 100) rfl rfl rfl ?_
          refine w_getR (b := 47) (n := 103) rfl rfl rfl rfl rfl ?_
          refine w_callv (as := [.ref 47]) (rest := []) (n := 106) rfl rfl rfl rfl ?_
          obtain ⟨I103, hI103, H⟩ := H
          refine ⟨I103, hI103, ?_⟩
          refine w_aload_nR (x := 0) (n := 107) rfl rfl rfl ?_
          refine w_getR (b := 47) (n := 110) rfl rfl rfl rfl rfl ?_
          refine w_iload_n (n := 111) rfl rfl rfl ?_
          refine w_callv (as := [.ref 47, .int (I 47 1)]) (rest := []) (n := 114) rfl rfl rfl rfl ?_
          obtain ⟨I111, hI111, H⟩ := H
          refine ⟨I111, hI111, ?_⟩
          exact w_vreturn rfl rfl H
        · refine w_callv (as := [.ref 0, .ref 28]) (rest := []) (n := 99) rfl rfl rfl rfl ?_
          obtain ⟨I96, hI96, H⟩ := H
          refine ⟨I96, hI96, ?_⟩
          refine w_aload_nR (x := 0) (n := 100) rfl rfl rfl ?_
          refine w_getR (b := 47) (n := 103) rfl rfl rfl rfl rfl ?_
          refine w_callv (as := [.ref 47]) (rest := []) (n := 106) rfl rfl rfl rfl ?_
          obtain ⟨I103, hI103, H⟩ := H
          refine ⟨I103, hI103, ?_⟩
          refine w_aload_nR (x := 0) (n := 107) rfl rfl rfl ?_
          refine w_getR (b := 47) (n := 110) rfl rfl rfl rfl rfl ?_
          refine w_iload_n (n := 111) rfl rfl rfl ?_
          refine w_callv (as := [.ref 47, .int (I 47 1)]) (rest := []) (n := 114) rfl rfl rfl rfl ?_
          obtain ⟨I111, hI111, H⟩ := H
          refine ⟨I111, hI111, ?_⟩
          exact w_vreturn rfl rfl H
        · refine w_callv (as := [.ref 0, .ref 34]) (rest := []) (n := 99) rfl rfl rfl rfl ?_
          obtain ⟨I96, hI96, H⟩ := H
          refine ⟨I96, hI96, ?_⟩
          refine w_aload_nR (x := 0) (n := 100) rfl rfl rfl ?_
          refine w_getR (b := 47) (n := 103) rfl rfl rfl rfl rfl ?_
          refine w_callv (as := [.ref 47]) (rest := []) (n := 106) rfl rfl rfl rfl ?_
          obtain ⟨I103, hI103, H⟩ := H
          refine ⟨I103, hI103, ?_⟩
          refine w_aload_nR (x := 0) (n := 107) rfl rfl rfl ?_
          refine w_getR (b := 47) (n := 110) rfl rfl rfl rfl rfl ?_
          refine w_iload_n (n := 111) rfl rfl rfl ?_
          refine w_callv (as := [.ref 47, .int (I 47 1)]) (rest := []) (n := 114) rfl rfl rfl rfl ?_
          obtain ⟨I111, hI111, H⟩ := H
          refine ⟨I111, hI111, ?_⟩
          exact w_vreturn rfl rfl H
        · refine w_callv (as := [.ref 0, .ref 40]) (rest := []) (n := 99) rfl rfl rfl rfl ?_
          obtain ⟨I96, hI96, H⟩ := H
          refine ⟨I96, hI96, ?_⟩
          refine w_aload_nR (x := 0) (n := 100) rfl rfl rfl ?_
          refine w_getR (b := 47) (n := 103) rfl rfl rfl rfl rfl ?_
          refine w_callv (as := [.ref 47]) (rest := []) (n := 106) rfl rfl rfl rfl ?_
          obtain ⟨I103, hI103, H⟩ := H
          refine ⟨I103, hI103, ?_⟩
          refine w_aload_nR (x := 0) (n := 107) rfl rfl rfl ?_
          refine w_getR (b := 47) (n := 110) rfl rfl rfl rfl rfl ?_
          refine w_iload_n (n := 111) rfl rfl rfl ?_
          refine w_callv (as := [.ref 47, .int (I 47 1)]) (rest := []) (n := 114) rfl rfl rfl rfl ?_
          obtain ⟨I111, hI111, H⟩ := H
          refine ⟨I111, hI111, ?_⟩
          exact w_vreturn rfl rfl H
    · refine w_callv (as := [.ref 0, .ref 40]) (rest := []) (n := 70) rfl rfl rfl rfl ?_
      obtain ⟨I67, hI67, H⟩ := H
      refine ⟨I67, hI67, ?_⟩
      refine w_aload_nR (x := 0) (n := 71) rfl rfl rfl ?_
      refine w_getR (b := 3) (n := 74) rfl rfl rfl rfl rfl ?_
      refine w_getI (n := 77) rfl rfl rfl rfl ?_
      refine w_iconst (v := 2) (n := 78) rfl rfl rfl ?_
      refine w_icmp_ne (n := 81) rfl rfl ⟨fun hc => ?_, fun hc => ?_⟩
      · replace H := H.1 hc
        refine w_aload_nR (x := 0) (n := 100) rfl rfl rfl ?_
        refine w_getR (b := 47) (n := 103) rfl rfl rfl rfl rfl ?_
        refine w_callv (as := [.ref 47]) (rest := []) (n := 106) rfl rfl rfl rfl ?_
        obtain ⟨I103, hI103, H⟩ := H
        refine ⟨I103, hI103, ?_⟩
        refine w_aload_nR (x := 0) (n := 107) rfl rfl rfl ?_
        refine w_getR (b := 47) (n := 110) rfl rfl rfl rfl rfl ?_
        refine w_iload_n (n := 111) rfl rfl rfl ?_
        refine w_callv (as := [.ref 47, .int (I 47 1)]) (rest := []) (n := 114) rfl rfl rfl rfl ?_
        obtain ⟨I111, hI111, H⟩ := H
        refine ⟨I111, hI111, ?_⟩
        exact w_vreturn rfl rfl H
      · replace H := H.2 hc
        refine w_aload_nR (x := 0) (n := 82) rfl rfl rfl ?_
        refine w_aload_nR (x := 0) (n := 83) rfl rfl rfl ?_
        refine w_getR (b := 10) (n := 86) rfl rfl rfl rfl rfl ?_
        refine w_aload_nR (x := 0) (n := 87) rfl rfl rfl ?_
        refine w_getR (b := 10) (n := 90) rfl rfl rfl rfl rfl ?_
        refine w_getI (n := 93) rfl rfl rfl rfl ?_
        refine w_callr (as := [.ref 10, .int (I67 10 6)]) (rest := [.ref 0]) (n := 96) rfl rfl rfl rfl ?_
        obtain ⟨r93, I93, hI93, H⟩ := H
        refine ⟨r93, I93, hI93, ?_⟩
        obtain ⟨aa93, rfl, haa93, H⟩ := H
        rcases haa93 with rfl | rfl | rfl | rfl
        · refine w_callv (as := [.ref 0, .ref 22]) (rest := []) (n := 99) rfl rfl rfl rfl ?_
          obtain ⟨I96, hI96, H⟩ := H
          refine ⟨I96, hI96, ?_⟩
          refine w_aload_nR (x := 0) (n := 100) rfl rfl rfl ?_
          refine w_getR (b := 47) (n := 103) rfl rfl rfl rfl rfl ?_
          refine w_callv (as := [.ref 47]) (rest := []) (n := 106) rfl rfl rfl rfl ?_
          obtain ⟨I103, hI103, H⟩ := H
          refine ⟨I103, hI103, ?_⟩
          refine w_aload_nR (x := 0) (n := 107) rfl rfl rfl ?_
          refine w_getR (b := 47) (n := 110) rfl rfl rfl rfl rfl ?_
          refine w_iload_n (n := 111) rfl rfl rfl ?_
          refine w_callv (as := [.ref 47, .int (I 47 1)]) (rest := []) (n := 114) rfl rfl rfl rfl ?_
          obtain ⟨I111, hI111, H⟩ := H
          refine ⟨I111, hI111, ?_⟩
          exact w_vreturn rfl rfl H
        · refine w_callv (as := [.ref 0, .ref 28]) (rest := []) (n := 99) rfl rfl rfl rfl ?_
          obtain ⟨I96, hI96, H⟩ := H
          refine ⟨I96, hI96, ?_⟩
          refine w_aload_nR (x := 0) (n := 100) rfl rfl rfl ?_
          refine w_getR (b := 47) (n := 103) rfl rfl rfl rfl rfl ?_
          refine w_callv (as := [.ref 47]) (rest := []) (n := 106) rfl rfl rfl rfl ?_
          obtain ⟨I103, hI103, H⟩ := H
          refine ⟨I103, hI103, ?_⟩
          refine w_aload_nR (x := 0) (n := 107) rfl rfl rfl ?_
          refine w_getR (b := 47) (n := 110) rfl rfl rfl rfl rfl ?_
          refine w_iload_n (n := 111) rfl rfl rfl ?_
          refine w_callv (as := [.ref 47, .int (I 47 1)]) (rest := []) (n := 114) rfl rfl rfl rfl ?_
          obtain ⟨I111, hI111, H⟩ := H
          refine ⟨I111, hI111, ?_⟩
          exact w_vreturn rfl rfl H
        · refine w_callv (as := [.ref 0, .ref 34]) (rest := []) (n := 99) rfl rfl rfl rfl ?_
          obtain ⟨I96, hI96, H⟩ := H
          refine ⟨I96, hI96, ?_⟩
          refine w_aload_nR (x := 0) (n := 100) rfl rfl rfl ?_
          refine w_getR (b := 47) (n := 103) rfl rfl rfl rfl rfl ?_
          refine w_callv (as := [.ref 47]) (rest := []) (n := 106) rfl rfl rfl rfl ?_
          obtain ⟨I103, hI103, H⟩ := H
          refine ⟨I103, hI103, ?_⟩
          refine w_aload_nR (x := 0) (n := 107) rfl rfl rfl ?_
          refine w_getR (b := 47) (n := 110) rfl rfl rfl rfl rfl ?_
          refine w_iload_n (n := 111) rfl rfl rfl ?_
          refine w_callv (as := [.ref 47, .int (I 47 1)]) (rest := []) (n := 114) rfl rfl rfl rfl ?_
          obtain ⟨I111, hI111, H⟩ := H
          refine ⟨I111, hI111, ?_⟩
          exact w_vreturn rfl rfl H
        · refine w_callv (as := [.ref 0, .ref 40]) (rest := []) (n := 99) rfl rfl rfl rfl ?_
          obtain ⟨I96, hI96, H⟩ := H
          refine ⟨I96, hI96, ?_⟩
          refine w_aload_nR (x := 0) (n := 100) rfl rfl rfl ?_
          refine w_getR (b := 47) (n := 103) rfl rfl rfl rfl rfl ?_
          refine w_callv (as := [.ref 47]) (rest := []) (n := 106) rfl rfl rfl rfl ?_
          obtain ⟨I103, hI103, H⟩ := H
          refine ⟨I103, hI103, ?_⟩
          refine w_aload_nR (x := 0) (n := 107) rfl rfl rfl ?_
          refine w_getR (b := 47) (n := 110) rfl rfl rfl rfl rfl ?_
          refine w_iload_n (n := 111) rfl rfl rfl ?_
          refine w_callv (as := [.ref 47, .int (I 47 1)]) (rest := []) (n := 114) rfl rfl rfl rfl ?_
          obtain ⟨I111, hI111, H⟩ := H
          refine ⟨I111, hI111, ?_⟩
          exact w_vreturn rfl rfl H
  · replace H := H.2 hc
    refine w_aload_nR (x := 0) (n := 38) rfl rfl rfl ?_
    refine w_getR (b := 47) (n := 41) rfl rfl rfl rfl rfl ?_
    refine w_aload_nR (x := 0) (n := 42) rfl rfl rfl ?_
    refine w_getR (b := 10) (n := 45) rfl rfl rfl rfl rfl ?_
    refine w_getI (n := 48) rfl rfl rfl rfl ?_
    refine w_iconst (v := 2) (n := 49) rfl rfl rfl ?_
    refine w_callv (as := [.ref 47, .int (I23 10 6), .int 2]) (rest := []) (n := 52) rfl rfl rfl rfl ?_
    obtain ⟨I49, hI49, H⟩ := H
    refine ⟨I49, hI49, ?_⟩
    refine w_aload_nR (x := 0) (n := 53) rfl rfl rfl ?_
    refine w_aload_nR (x := 0) (n := 54) rfl rfl rfl ?_
    refine w_getR (b := 10) (n := 57) rfl rfl rfl rfl rfl ?_
    refine w_aload_nR (x := 0) (n := 58) rfl rfl rfl ?_
    refine w_getR (b := 10) (n := 61) rfl rfl rfl rfl rfl ?_
    refine w_getI (n := 64) rfl rfl rfl rfl ?_
    refine w_callr (as := [.ref 10, .int (I49 10 6)]) (rest := [.ref 0]) (n := 67) rfl rfl rfl rfl ?_
    obtain ⟨r64, I64, hI64, H⟩ := H
    refine ⟨r64, I64, hI64, ?_⟩
    obtain ⟨aa64, rfl, haa64, H⟩ := H
    rcases haa64 with rfl | rfl | rfl | rfl
    · refine w_callv (as := [.ref 0, .ref 22]) (rest := []) (n := 70) rfl rfl rfl rfl ?_
      obtain ⟨I67, hI67, H⟩ := H
      refine ⟨I67, hI67, ?_⟩
      refine w_aload_nR (x := 0) (n := 71) rfl rfl rfl ?_
      refine w_getR (b := 3) (n := 74) rfl rfl rfl rfl rfl ?_
      refine w_getI (n := 77) rfl rfl rfl rfl ?_
      refine w_iconst (v := 2) (n := 78) rfl rfl rfl ?_
      refine w_icmp_ne (n := 81) rfl rfl ⟨fun hc => ?_, fun hc => ?_⟩
      · replace H := H.1 hc
        refine w_aload_nR (x := 0) (n := 100) rfl rfl rfl ?_
        refine w_getR (b := 47) (n := 103) rfl rfl rfl rfl rfl ?_
        refine w_callv (as := [.ref 47]) (rest := []) (n := 106) rfl rfl rfl rfl ?_
        obtain ⟨I103, hI103, H⟩ := H
        refine ⟨I103, hI103, ?_⟩
        refine w_aload_nR (x := 0) (n := 107) rfl rfl rfl ?_
        refine w_getR (b := 47) (n := 110) rfl rfl rfl rfl rfl ?_
        refine w_iload_n (n := 111) rfl rfl rfl ?_
        refine w_callv (as := [.ref 47, .int (I 47 1)]) (rest := []) (n := 114) rfl rfl rfl rfl ?_
        obtain ⟨I111, hI111, H⟩ := H
        refine ⟨I111, hI111, ?_⟩
        exact w_vreturn rfl rfl H
      · replace H := H.2 hc
        refine w_aload_nR (x := 0) (n := 82) rfl rfl rfl ?_
        refine w_aload_nR (x := 0) (n := 83) rfl rfl rfl ?_
        refine w_getR (b := 10) (n := 86) rfl rfl rfl rfl rfl ?_
        refine w_aload_nR (x := 0) (n := 87) rfl rfl rfl ?_
        refine w_getR (b := 10) (n := 90) rfl rfl rfl rfl rfl ?_
        refine w_getI (n := 93) rfl rfl rfl rfl ?_
        refine w_callr (as := [.ref 10, .int (I67 10 6)]) (rest := [.ref 0]) (n := 96) rfl rfl rfl rfl ?_
        obtain ⟨r93, I93, hI93, H⟩ := H
        refine ⟨r93, I93, hI93, ?_⟩
        obtain ⟨aa93, rfl, haa93, H⟩ := H
        rcases haa93 with rfl | rfl | rfl | rfl
        · refine w_callv (as := [.ref 0, .ref 22]) (rest := []) (n := 99) rfl rfl rfl rfl ?_
          obtain ⟨I96, hI96, H⟩ := H
          refine ⟨I96, hI96, ?_⟩
          refine w_aload_nR (x := 0) (n := 100) rfl rfl rfl ?_
          refine w_getR (b := 47) (n := 103) rfl rfl rfl rfl rfl ?_
          refine w_callv (as := [.ref 47]) (rest := []) (n := 106) rfl rfl rfl rfl ?_
          obtain ⟨I103, hI103, H⟩ := H
          refine ⟨I103, hI103, ?_⟩
          refine w_aload_nR (x := 0) (n := 107) rfl rfl rfl ?_
          refine w_getR (b := 47) (n := 110) rfl rfl rfl rfl rfl ?_
          refine w_iload_n (n := 111) rfl rfl rfl ?_
          refine w_callv (as := [.ref 47, .int (I 47 1)]) (rest := []) (n := 114) rfl rfl rfl rfl ?_
          obtain ⟨I111, hI111, H⟩ := H
          refine ⟨I111, hI111, ?_⟩
          exact w_vreturn rfl rfl H
        · refine w_callv (as := [.ref 0, .ref 28]) (rest := []) (n := 99) rfl rfl rfl rfl ?_
          obtain ⟨I96, hI96, H⟩ := H
          refine ⟨I96, hI96, ?_⟩
          refine w_aload_nR (x := 0) (n := 100) rfl rfl rfl ?_
          refine w_getR (b := 47) (n := 103) rfl rfl rfl rfl rfl ?_
          refine w_callv (as := [.ref 47]) (rest := []) (n := 106) rfl rfl rfl rfl ?_
          obtain ⟨I103, hI103, H⟩ := H
          refine ⟨I103, hI103, ?_⟩
          refine w_aload_nR (x := 0) (n := 107) rfl rfl rfl ?_
          refine w_getR (b := 47) (n := 110) rfl rfl rfl rfl rfl ?_
          refine w_iload_n (n := 111) rfl rfl rfl ?_
          refine w_callv (as := [.ref 47, .int (I 47 1)]) (rest := []) (n := 114) rfl rfl rfl rfl ?_
          obtain ⟨I111, hI111, H⟩ := H
          refine ⟨I111, hI111, ?_⟩
          exact w_vreturn rfl rfl H
        · refine w_callv (as := [.ref 0, .ref 34]) (rest := []) (n := 99) rfl rfl rfl rfl ?_
          obtain ⟨I96, hI96, H⟩ := H
          refine ⟨I96, hI96, ?_⟩
          refine w_aload_nR (x := 0) (n := 100) rfl rfl rfl ?_
          refine w_getR (b := 47) (n := 103) rfl rfl rfl rfl rfl ?_
          refine w_callv (as := [.ref 47]) (rest := []) (n := 106) rfl rfl rfl rfl ?_
          obtain ⟨I103, hI103, H⟩ := H
          refine ⟨I103, hI103, ?_⟩
          refine w_aload_nR (x := 0) (n := 107) rfl rfl rfl ?_
          refine w_getR (b := 47) (n := 110) rfl rfl rfl rfl rfl ?_
          refine w_iload_n (n := 111) rfl rfl rfl ?_
          refine w_callv (as := [.ref 47, .int (I 47 1)]) (rest := []) (n := 114) rfl rfl rfl rfl ?_
          obtain ⟨I111, hI111, H⟩ := H
          refine ⟨I111, hI111, ?_⟩
          exact w_vreturn rfl rfl H
        · refine w_callv (as := [.ref 0, .ref 40]) (rest := []) (n := 99) rfl rfl rfl rfl ?_
          obtain ⟨I96, hI96, H⟩ := H
          refine ⟨I96, hI96, ?_⟩
          refine w_aload_nR (x := 0) (n := 100) rfl rfl rfl ?_
          refine w_getR (b := 47) (n := 103) rfl rfl rfl rfl rfl ?_
          refine w_callv (as := [.ref 47]) (rest := []) (n := 106) rfl rfl rfl rfl ?_
          obtain ⟨I103, hI103, H⟩ := H
          refine ⟨I103, hI103, ?_⟩
          refine w_aload_nR (x := 0) (n := 107) rfl rfl rfl ?_
          refine w_getR (b := 47) (n := 110) rfl rfl rfl rfl rfl ?_
          refine w_iload_n (n := 111) rfl rfl rfl ?_
          refine w_callv (as := [.ref 47, .int (I 47 1)]) (rest := []) (n := 114) rfl rfl rfl rfl ?_
          obtain ⟨I111, hI111, H⟩ := H
          refine ⟨I111, hI111, ?_⟩
          exact w_vreturn rfl rfl H
    · refine w_callv (as := [.ref 0, .ref 28]) (rest := []) (n := 70) rfl rfl rfl rfl ?_
      obtain ⟨I67, hI67, H⟩ := H
      refine ⟨I67, hI67, ?_⟩
      refine w_aload_nR (x := 0) (n := 71) rfl rfl rfl ?_
      refine w_getR (b := 3) (n := 74) rfl rfl rfl rfl rfl ?_
      refine w_getI (n := 77) rfl rfl rfl rfl ?_
      refine w_iconst (v := 2) (n := 78) rfl rfl rfl ?_
      refine w_icmp_ne (n := 81) rfl rfl ⟨fun hc => ?_, fun hc => ?_⟩
      · replace H := H.1 hc
        refine w_aload_nR (x := 0) (n := 100) rfl rfl rfl ?_
        refine w_getR (b := 47) (n := 103) rfl rfl rfl rfl rfl ?_
        refine w_callv (as := [.ref 47]) (rest := []) (n := 106) rfl rfl rfl rfl ?_
        obtain ⟨I103, hI103, H⟩ := H
        refine ⟨I103, hI103, ?_⟩
        refine w_aload_nR (x := 0) (n := 107) rfl rfl rfl ?_
        refine w_getR (b := 47) (n := 110) rfl rfl rfl rfl rfl ?_
        refine w_iload_n (n := 111) rfl rfl rfl ?_
        refine w_callv (as := [.ref 47, .int (I 47 1)]) (rest := []) (n := 114) rfl rfl rfl rfl ?_
        obtain ⟨I111, hI111, H⟩ := H
        refine ⟨I111, hI111, ?_⟩
        exact w_vreturn rfl rfl H
      · replace H := H.2 hc
        refine w_aload_nR (x := 0) (n := 82) rfl rfl rfl ?_
        refine w_aload_nR (x := 0) (n := 83) rfl rfl rfl ?_
        refine w_getR (b := 10) (n := 86) rfl rfl rfl rfl rfl ?_
        refine w_aload_nR (x := 0) (n := 87) rfl rfl rfl ?_
        refine w_getR (b := 10) (n := 90) rfl rfl rfl rfl rfl ?_
        refine w_getI (n := 93) rfl rfl rfl rfl ?_
        refine w_callr (as := [.ref 10, .int (I67 10 6)]) (rest := [.ref 0]) (n := 96) rfl rfl rfl rfl ?_
        obtain ⟨r93, I93, hI93, H⟩ := H
        refine ⟨r93, I93, hI93, ?_⟩
        obtain ⟨aa93, rfl, haa93, H⟩ := H
        rcases haa93 with rfl | rfl | rfl | rfl
        · refine w_callv (as := [.ref 0, .ref 22]) (rest := []) (n := 99) rfl rfl rfl rfl ?_
          obtain ⟨I96, hI96, H⟩ := H
          refine ⟨I96, hI96, ?_⟩
          refine w_aload_nR (x := 0) (n := 100) rfl rfl rfl ?_
          refine w_getR (b := 47) (n := 103) rfl rfl rfl rfl rfl ?_
          refine w_callv (as := [.ref 47]) (rest := []) (n := 106) rfl rfl rfl rfl ?_
          obtain ⟨I103, hI103, H⟩ := H
          refine ⟨I103, hI103, ?_⟩
          refine w_aload_nR (x := 0) (n := 107) rfl rfl rfl ?_
          refine w_getR (b := 47) (n := 110) rfl rfl rfl rfl rfl ?_
          refine w_iload_n (n := 111) rfl rfl rfl ?_
          refine w_callv (as := [.ref 47, .int (I 47 1)]) (rest := []) (n := 114) rfl rfl rfl rfl ?_
          obtain ⟨I111, hI111, H⟩ := H
          refine ⟨I111, hI111, ?_⟩
          exact w_vreturn rfl rfl H
        · refine w_callv (as := [.ref 0, .ref 28]) (rest := []) (n := 99) rfl rfl rfl rfl ?_
          obtain ⟨I96, hI96, H⟩ := H
          refine ⟨I96, hI96, ?_⟩
          refine w_aload_nR (x := 0) (n := 100) rfl rfl rfl ?_
          refine w_getR (b := 47) (n := 103) rfl rfl rfl rfl rfl ?_
          refine w_callv (as := [.ref 47]) (rest := []) (n := 106) rfl rfl rfl rfl ?_
          obtain ⟨I103, hI103, H⟩ := H
          refine ⟨I103, hI103, ?_⟩
          refine w_aload_nR (x := 0) (n := 107) rfl rfl rfl ?_
          refine w_getR (b := 47) (n := 110) rfl rfl rfl rfl rfl ?_
          refine w_iload_n (n := 111) rfl rfl rfl ?_
          refine w_callv (as := [.ref 47, .int (I 47 1)]) (rest := []) (n := 114) rfl rfl rfl rfl ?_
          obtain ⟨I111, hI111, H⟩ := H
          refine ⟨I111, hI111, ?_⟩
          exact w_vreturn rfl rfl H
        · refine w_callv (as := [.ref 0, .ref 34]) (rest := []) (n := 99) rfl rfl rfl rfl ?_
          obtain ⟨I96, hI96, H⟩ := H
          refine ⟨I96, hI96, ?_⟩
          refine w_aload_nR (x := 0) (n := 100) rfl rfl rfl ?_
          refine w_getR (b := 47) (n := 103) rfl rfl rfl rfl rfl ?_
          refine w_callv (as := [.ref 47]) (rest := []) (n := 106) rfl rfl rfl rfl ?_
          obtain ⟨I103, hI103, H⟩ := H
          refine ⟨I103, hI103, ?_⟩
          refine w_aload_nR (x := 0) (n := 107) rfl rfl rfl ?_
          refine w_getR (b := 47) (n := 110) rfl rfl rfl rfl rfl ?_
          refine w_iload_n (n := 111) rfl rfl rfl ?_
          refine w_callv (as := [.ref 47, .int (I 47 1)]) (rest := []) (n := 114) rfl rfl rfl rfl ?_
          obtain ⟨I111, hI111, H⟩ := H
          refine ⟨I111, hI111, ?_⟩
          exact w_vreturn rfl rfl H
        · refine w_callv (as := [.ref 0, .ref 40]) (rest := []) (n := 99) rfl rfl rfl rfl ?_
          obtain ⟨I96, hI96, H⟩ := H
          refine ⟨I96, hI96, ?_⟩
          refine w_aload_nR (x := 0) (n := 100) rfl rfl rfl ?_
          refine w_getR (b := 47) (n := 103) rfl rfl rfl rfl rfl ?_
          refine w_callv (as := [.ref 47]) (rest := []) (n := 106) rfl rfl rfl rfl ?_
          obtain ⟨I103, hI103, H⟩ := H
          refine ⟨I103, hI103, ?_⟩
          refine w_aload_nR (x := 0) (n := 107) rfl rfl rfl ?_
          refine w_getR (b := 47) (n := 110) rfl rfl rfl rfl rfl ?_
          refine w_iload_n (n := 111) rfl rfl rfl ?_
          refine w_callv (as := [.ref 47, .int (I 47 1)]) (rest := []) (n := 114) rfl rfl rfl rfl ?_
          obtain ⟨I111, hI111, H⟩ := H
          refine ⟨I111, hI111, ?_⟩
          exact w_vreturn rfl rfl H
    · refine w_callv (as := [.ref 0, .ref 34]) (rest := []) (n := 70) rfl rfl rfl rfl ?_
      obtain ⟨I67, hI67, H⟩ := H
      refine ⟨I67, hI67, ?_⟩
      refine w_aload_nR (x := 0) (n := 71) rfl rfl rfl ?_
      refine w_getR (b := 3) (n := 74) rfl rfl rfl rfl rfl ?_
      refine w_getI (n := 77) rfl rfl rfl rfl ?_
      refine w_iconst (v := 2) (n := 78) rfl rfl rfl ?_
      refine w_icmp_ne (n := 81) rfl rfl ⟨fun hc => ?_, fun hc => ?_⟩
      · replace H := H.1 hc
        refine w_aload_nR (x := 0) (n := 100) rfl rfl rfl ?_
        refine w_getR (b := 47) (n := 103) rfl rfl rfl rfl rfl ?_
        refine w_callv (as := [.ref 47]) (rest := []) (n := 106) rfl rfl rfl rfl ?_
        obtain ⟨I103, hI103, H⟩ := H
        refine ⟨I103, hI103, ?_⟩
        refine w_aload_nR (x := 0) (n := 107) rfl rfl rfl ?_
        refine w_getR (b := 47) (n := 110) rfl rfl rfl rfl rfl ?_
        refine w_iload_n (n := 111) rfl rfl rfl ?_
        refine w_callv (as := [.ref 47, .int (I 47 1)]) (rest := []) (n := 114) rfl rfl rfl rfl ?_
        obtain ⟨I111, hI111, H⟩ := H
        refine ⟨I111, hI111, ?_⟩
        exact w_vreturn rfl rfl H
      · replace H := H.2 hc
        refine w_aload_nR (x := 0) (n := 82) rfl rfl rfl ?_
        refine w_aload_nR (x := 0) (n := 83) rfl rfl rfl ?_
        refine w_getR (b := 10) (n := 86) rfl rfl rfl rfl rfl ?_
        refine w_aload_nR (x := 0) (n := 87) rfl rfl rfl ?_
        refine w_getR (b := 10) (n := 90) rfl rfl rfl rfl rfl ?_
        refine w_getI (n := 93) rfl rfl rfl rfl ?_
        refine w_callr (as := [.ref 10, .int (I67 10 6)]) (rest := [.ref 0]) (n := 96) rfl rfl rfl rfl ?_
        obtain ⟨r93, I93, hI93, H⟩ := H
        refine ⟨r93, I93, hI93, ?_⟩
        obtain ⟨aa93, rfl, haa93, H⟩ := H
        rcases haa93 with rfl | rfl | rfl | rfl
        · refine w_callv (as := [.ref 0, .ref 22]) (rest := []) (n := 99) rfl rfl rfl rfl ?_
          obtain ⟨I96, hI96, H⟩ := H
          refine ⟨I96, hI96, ?_⟩
          refine w_aload_nR (x := 0) (n := 100) rfl rfl rfl ?_
          refine w_getR (b := 47) (n := 103) rfl rfl rfl rfl rfl ?_
          refine w_callv (as := [.ref 47]) (rest := []) (n := 106) rfl rfl rfl rfl ?_
          obtain ⟨I103, hI103, H⟩ := H
          refine ⟨I103, hI103, ?_⟩
          refine w_aload_nR (x := 0) (n := 107) rfl rfl rfl ?_
          refine w_getR (b := 47) (n := 110) rfl rfl rfl rfl rfl ?_
          refine w_iload_n (n := 111) rfl rfl rfl ?_
          refine w_callv (as := [.ref 47, .int (I 47 1)]) (rest := []) (n := 114) rfl rfl rfl rfl ?_
          obtain ⟨I111, hI111, H⟩ := H
          refine ⟨I111, hI111, ?_⟩
          exact w_vreturn rfl rfl H
        · refine w_callv (as := [.ref 0, .ref 28]) (rest := []) (n := 99) rfl rfl rfl rfl ?_
          obtain ⟨I96, hI96, H⟩ := H
          refine ⟨I96, hI96, ?_⟩
          refine w_aload_nR (x := 0) (n := 100) rfl rfl rfl ?_
          refine w_getR (b := 47) (n := 103) rfl rfl rfl rfl rfl ?_
          refine w_callv (as := [.ref 47]) (rest := []) (n := 106) rfl rfl rfl rfl ?_
          obtain ⟨I103, hI103, H⟩ := H
          refine ⟨I103, hI103, ?_⟩
          refine w_aload_nR (x := 0) (n := 107) rfl rfl rfl ?_
          refine w_getR (b := 47) (n := 110) rfl rfl rfl rfl rfl ?_
          refine w_iload_n (n := 111) rfl rfl rfl ?_
          refine w_callv (as := [.ref 47, .int (I 47 1)]) (rest := []) (n := 114) rfl rfl rfl rfl ?_
          obtain ⟨I111, hI111, H⟩ := H
          refine ⟨I111, hI111, ?_⟩
          exact w_vreturn rfl rfl H
        · refine w_callv (as := [.ref 0, .ref 34]) (rest := []) (n := 99) rfl rfl rfl rfl ?_
          obtain ⟨I96, hI96, H⟩ := H
          refine ⟨I96, hI96, ?_⟩
          refine w_aload_nR (x := 0) (n := 100) rfl rfl rfl ?_
          refine w_getR (b := 47) (n := 103) rfl rfl rfl rfl rfl ?_
          refine w_callv (as := [.ref 47]) (rest := []) (n := 106) rfl rfl rfl rfl ?_
          obtain ⟨I103, hI103, H⟩ := H
          refine ⟨I103, hI103, ?_⟩
          refine w_aload_nR (x := 0) (n := 107) rfl rfl rfl ?_
          refine w_getR (b := 47) (n := 110) rfl rfl rfl rfl rfl ?_
          refine w_iload_n (n := 111) rfl rfl rfl ?_
          refine w_callv (as := [.ref 47, .int (I 47 1)]) (rest := []) (n := 114) rfl rfl rfl rfl ?_
          obtain ⟨I111, hI111, H⟩ := H
          refine ⟨I111, hI111, ?_⟩
          exact w_vreturn rfl rfl H
        · refine w_callv (as := [.ref 0, .ref 40]) (rest := []) (n := 99) rfl rfl rfl rfl ?_
          obtain ⟨I96, hI96, H⟩ := H
          refine ⟨I96, hI96, ?_⟩
          refine w_aload_nR (x := 0) (n := 100) rfl rfl rfl ?_
          refine w_getR (b := 47) (n := 103) rfl rfl rfl rfl rfl ?_
          refine w_callv (as := [.ref 47]) (rest := []) (n := 106) rfl rfl rfl rfl ?_
          obtain ⟨I103, hI103, H⟩ := H
          refine ⟨I103, hI103, ?_⟩
          refine w_aload_nR (x := 0) (n := 107) rfl rfl rfl ?_
          refine w_getR (b := 47) (n := 110) rfl rfl rfl rfl rfl ?_
          refine w_iload_n (n := 111) rfl rfl rfl ?_
          refine w_callv (as := [.ref 47, .int (I 47 1)]) (rest := []) (n := 114) rfl rfl rfl rfl ?_
          obtain ⟨I111, hI111, H⟩ := H
          refine ⟨I111, hI111, ?_⟩
          exact w_vreturn rfl rfl H
    · refine w_callv (as := [.ref 0, .ref 40]) (rest := []) (n := 70) rfl rfl rfl rfl ?_
      obtain ⟨I67, hI67, H⟩ := H
      refine ⟨I67, hI67, ?_⟩
      refine w_aload_nR (x := 0) (n := 71) rfl rfl rfl ?_
      refine w_getR (b := 3) (n := 74) rfl rfl rfl rfl rfl ?_
      refine w_getI (n := 77) rfl rfl rfl rfl ?_
      refine w_iconst (v := 2) (n := 78) rfl rfl rfl ?_
      refine w_icmp_ne (n := 81) rfl rfl ⟨fun hc => ?_, fun hc => ?_⟩
      · replace H := H.1 hc
        refine w_aload_nR (x := 0) (n := 100) rfl rfl rfl ?_
        refine w_getR (b := 47) (n := 103) rfl rfl rfl rfl rfl ?_
        refine w_callv (as := [.ref 47]) (rest := []) (n := 106) rfl rfl rfl rfl ?_
        obtain ⟨I103, hI103, H⟩ := H
        refine ⟨I103, hI103, ?_⟩
        refine w_aload_nR (x := 0) (n := 107) rfl rfl rfl ?_
        refine w_getR (b := 47) (n := 110) rfl rfl rfl rfl rfl ?_
        refine w_iload_n (n := 111) rfl rfl rfl ?_
        refine w_callv (as := [.ref 47, .int (I 47 1)]) (rest := []) (n := 114) rfl rfl rfl rfl ?_
        obtain ⟨I111, hI111, H⟩ := H
        refine ⟨I111, hI111, ?_⟩
        exact w_vreturn rfl rfl H
      · replace H := H.2 hc
        refine w_aload_nR (x := 0) (n := 82) rfl rfl rfl ?_
        refine w_aload_nR (x := 0) (n := 83) rfl rfl rfl ?_
        refine w_getR (b := 10) (n := 86) rfl rfl rfl rfl rfl ?_
        refine w_aload_nR (x := 0) (n := 87) rfl rfl rfl ?_
        refine w_getR (b := 10) (n := 90) rfl rfl rfl rfl rfl ?_
        refine w_getI (n := 93) rfl rfl rfl rfl ?_
        refine w_callr (as := [.ref 10, .int (I67 10 6)]) (rest := [.ref 0]) (n := 96) rfl rfl rfl rfl ?_
        obtain ⟨r93, I93, hI93, H⟩ := H
        refine ⟨r93, I93, hI93, ?_⟩
        obtain ⟨aa93, rfl, haa93, H⟩ := H
        rcases haa93 with rfl | rfl | rfl | rfl
        · refine w_callv (as := [.ref 0, .ref 22]) (rest := []) (n := 99) rfl rfl rfl rfl ?_
          obtain ⟨I96, hI96, H⟩ := H
          refine ⟨I96, hI96, ?_⟩
          refine w_aload_nR (x := 0) (n := 100) rfl rfl rfl ?_
          refine w_getR (b := 47) (n := 103) rfl rfl rfl rfl rfl ?_
          refine w_callv (as := [.ref 47]) (rest := []) (n := 106) rfl rfl rfl rfl ?_
          obtain ⟨I103, hI103, H⟩ := H
          refine ⟨I103, hI103, ?_⟩
          refine w_aload_nR (x := 0) (n := 107) rfl rfl rfl ?_
          refine w_getR (b := 47) (n := 110) rfl rfl rfl rfl rfl ?_
          refine w_iload_n (n := 111) rfl rfl rfl ?_
          refine w_callv (as := [.ref 47, .int (I 47 1)]) (rest := []) (n := 114) rfl rfl rfl rfl ?_
          obtain ⟨I111, hI111, H⟩ := H
          refine ⟨I111, hI111, ?_⟩
          exact w_vreturn rfl rfl H
        · refine w_callv (as := [.ref 0, .ref 28]) (rest := []) (n := 99) rfl rfl rfl rfl ?_
          obtain ⟨I96, hI96, H⟩ := H
          refine ⟨I96, hI96, ?_⟩
          refine w_aload_nR (x := 0) (n := 100) rfl rfl rfl ?_
          refine w_getR (b := 47) (n := 103) rfl rfl rfl rfl rfl ?_
          refine w_callv (as := [.ref 47]) (rest := []) (n := 106) rfl rfl rfl rfl ?_
          obtain ⟨I103, hI103, H⟩ := H
          refine ⟨I103, hI103, ?_⟩
          refine w_aload_nR (x := 0) (n := 107) rfl rfl rfl ?_
          refine w_getR (b := 47) (n := 110) rfl rfl rfl rfl rfl ?_
          refine w_iload_n (n := 111) rfl rfl rfl ?_
          refine w_callv (as := [.ref 47, .int (I 47 1)]) (rest := []) (n := 114) rfl rfl rfl rfl ?_
          obtain ⟨I111, hI111, H⟩ := H
          refine ⟨I111, hI111, ?_⟩
          exact w_vreturn rfl rfl H
        · refine w_callv (as := [.ref 0, .ref 34]) (rest := []) (n := 99) rfl rfl rfl rfl ?_
          obtain ⟨I96, hI96, H⟩ := H
          refine ⟨I96, hI96, ?_⟩
          refine w_aload_nR (x := 0) (n := 100) rfl rfl rfl ?_
          refine w_getR (b := 47) (n := 103) rfl rfl rfl rfl rfl ?_
          refine w_callv (as := [.ref 47]) (rest := []) (n := 106) rfl rfl rfl rfl ?_
          obtain ⟨I103, hI103, H⟩ := H
          refine ⟨I103, hI103, ?_⟩
          refine w_aload_nR (x := 0) (n := 107) rfl rfl rfl ?_
          refine w_getR (b := 47) (n := 110) rfl rfl rfl rfl rfl ?_
          refine w_iload_n (n := 111) rfl rfl rfl ?_
          refine w_callv (as := [.ref 47, .int (I 47 1)]) (rest := []) (n := 114) rfl rfl rfl rfl ?_
          obtain ⟨I111, hI111, H⟩ := H
          refine ⟨I111, hI111, ?_⟩
          exact w_vreturn rfl rfl H
        · refine w_callv (as := [.ref 0, .ref 40]) (rest := []) (n := 99) rfl rfl rfl rfl ?_
          obtain ⟨I96, hI96, H⟩ := H
          refine ⟨I96, hI96, ?_⟩
          refine w_aload_nR (x := 0) (n := 100) rfl rfl rfl ?_
          refine w_getR (b := 47) (n := 103) rfl rfl rfl rfl rfl ?_
          refine w_callv (as := [.ref 47]) (rest := []) (n := 106) rfl rfl rfl rfl ?_
          obtain ⟨I103, hI103, H⟩ := H
          refine ⟨I103, hI103, ?_⟩
          refine w_aload_nR (x := 0) (n := 107) rfl rfl rfl ?_
          refine w_getR (b := 47) (n := 110) rfl rfl rfl rfl rfl ?_
          refine w_iload_n (n := 111) rfl rfl rfl ?_
          refine w_callv (as := [.ref 47, .int (I 47 1)]) (rest := []) (n := 114) rfl rfl rfl rfl ?_
          obtain ⟨I111, hI111, H⟩ := H
          refine ⟨I111, hI111, ?_⟩
          exact w_vreturn rfl rfl H
theorem e_WS_writeRow {P : mm_I → Prop} {I : mm_I} {rr : Nat} (hs0 : rr = 22 ∨ rr = 28 ∨ rr = 34 ∨ rr = 40)
  (H : mm_Mv 59 [.ref 47, .int (I rr 3), .int 4] I (fun I9 =>  -- Store.putBits
    (¬ (I9 rr 3) = 8 →
      ((I9 rr 3) < 8 →
        vp_in (I9 rr 3) 8 ∧
        True) ∧
      True) ∧
    mm_W 98 55 [some (.ref 0), some (.ref rr), some (.int (if (I9 rr 3) = 8 then (1 : Int32) else (if 8 ≤ (I9 rr 3) then ((I9 rr 1) : Int32) else (I9 8 ((I9 rr 3).toNatClampNeg))))), some (.int 0)] [] I9 (mm_qv 98 P))) : mm_Mv 98 [.ref 0, .ref rr] I P := by
  rcases hs0 with rfl | rfl | rfl | rfl
  · refine mm_Mv_of ?_
    show mm_W 98 0 [some (.ref 0), some (.ref 22), none, none] [] I (mm_qv 98 P)
    refine w_aload_nR (x := 0) (n := 1) rfl rfl rfl ?_
    refine w_getR (b := 47) (n := 4) rfl rfl rfl rfl rfl ?_
    refine w_aload_nR (x := 22) (n := 5) rfl rfl rfl ?_
    refine w_getI (n := 8) rfl rfl rfl rfl ?_
    refine w_iconst (v := 4) (n := 9) rfl rfl rfl ?_
    refine w_callv (as := [.ref 47, .int (I 22 3), .int 4]) (rest := []) (n := 12) rfl rfl rfl rfl ?_
    obtain ⟨I9, hI9, H⟩ := H
    refine ⟨I9, hI9, ?_⟩
    refine w_aload_nR (x := 22) (n := 13) rfl rfl rfl ?_
    refine w_getI (n := 16) rfl rfl rfl rfl ?_
    refine w_istore_n (ls' := [some (.ref 0), some (.ref 22), some (.int (I9 22 1)), none]) (n := 17) rfl rfl rfl rfl ?_
    refine w_aload_nR (x := 22) (n := 18) rfl rfl rfl ?_
    refine w_getI (n := 21) rfl rfl rfl rfl ?_
    refine w_bipush (v := 8) (n := 23) rfl rfl rfl ?_
    obtain ⟨K1, H⟩ := H
    have J23 : ∀ (y23_2 : Int32), y23_2 = (if (I9 22 3) = 8 then (1 : Int32) else (if 8 ≤ (I9 22 3) then ((I9 22 1) : Int32) else (I9 8 ((I9 22 3).toNatClampNeg)))) → mm_W 98 53 [some (.ref 0), some (.ref 22), some (.int y23_2), none] [] I9 (mm_qv 98 P) := by
      intro y23_2 e23_0
      subst e23_0
      refine w_iconst (v := 0) (n := 54) rfl rfl rfl ?_
      refine w_istore_n (ls' := [some (.ref 0), some (.ref 22), some (.int (if (I9 22 3) = 8 then (1 : Int32) else (if 8 ≤ (I9 22 3) then ((I9 22 1) : Int32) else (I9 8 ((I9 22 3).toNatClampNeg))))), some (.int 0)]) (n := 55) rfl rfl rfl rfl ?_
      exact w_drp mm_Qf_v H (lb_s (lb_s (lb_s (lb_s lb_e))))
    refine w_icmp_ne (n := 26) rfl rfl ⟨fun hc => ?_, fun hc => ?_⟩
    · have H := K1 hc
      refine w_aload_nR (x := 22) (n := 32) rfl rfl rfl ?_
      refine w_getI (n := 35) rfl rfl rfl rfl ?_
      refine w_bipush (v := 8) (n := 37) rfl rfl rfl ?_
      obtain ⟨K2, H⟩ := H
      have J37 : ∀ (y37_2 : Int32), y37_2 = (if 8 ≤ (I9 22 3) then ((I9 22 1) : Int32) else (I9 8 ((I9 22 3).toNatClampNeg))) → mm_W 98 53 [some (.ref 0), some (.ref 22), some (.int y37_2), none] [] I9 (mm_qv 98 P) := by
        intro y37_2 e37_0
        subst e37_0
        refine w_drp mm_Qf_v (J23 _ ?_) (lb_s (lb_s (lb_s (lb_n lb_e))))
        · exact (if_neg hc).symm
      refine w_icmp_ge (n := 40) rfl rfl ⟨fun hc => ?_, fun hc => ?_⟩
      · refine w_drp mm_Qf_v (J37 _ ?_) (lb_s (lb_s (lb_s (lb_n lb_e))))
        · exact (if_pos hc).symm
      · have H := K2 hc
        refine w_aload_nR (x := 0) (n := 41) rfl rfl rfl ?_
        refine w_getR (b := 6) (n := 44) rfl rfl rfl rfl rfl ?_
        refine w_getR (b := 8) (n := 47) rfl rfl rfl rfl rfl ?_
        refine w_aload_nR (x := 22) (n := 48) rfl rfl rfl ?_
        refine w_getI (n := 51) rfl rfl rfl rfl ?_
        refine w_iaload (N := 8) (j := (I9 22 3).toNatClampNeg) (n := 52) rfl rfl rfl rfl rfl rfl ⟨H.1, ?_⟩
        replace H := H.2
        refine w_istore_n (ls' := [some (.ref 0), some (.ref 22), some (.int (I9 8 ((I9 22 3).toNatClampNeg))), none]) (n := 53) rfl rfl rfl rfl ?_
        refine w_drp mm_Qf_v (J37 _ ?_) (lb_s (lb_s (lb_s (lb_n lb_e))))
        · exact (if_neg (fa_nle hc)).symm
    · refine w_iconst (v := 1) (n := 27) rfl rfl rfl ?_
      refine w_istore_n (ls' := [some (.ref 0), some (.ref 22), some (.int 1), none]) (n := 28) rfl rfl rfl rfl ?_
      refine w_goto rfl ?_
      refine w_drp mm_Qf_v (J23 _ ?_) (lb_s (lb_s (lb_s (lb_n lb_e))))
      · exact (if_pos hc).symm
  · refine mm_Mv_of ?_
    show mm_W 98 0 [some (.ref 0), some (.ref 28), none, none] [] I (mm_qv 98 P)
    refine w_aload_nR (x := 0) (n := 1) rfl rfl rfl ?_
    refine w_getR (b := 47) (n := 4) rfl rfl rfl rfl rfl ?_
    refine w_aload_nR (x := 28) (n := 5) rfl rfl rfl ?_
    refine w_getI (n := 8) rfl rfl rfl rfl ?_
    refine w_iconst (v := 4) (n := 9) rfl rfl rfl ?_
    refine w_callv (as := [.ref 47, .int (I 28 3), .int 4]) (rest := []) (n := 12) rfl rfl rfl rfl ?_
    obtain ⟨I9, hI9, H⟩ := H
    refine ⟨I9, hI9, ?_⟩
    refine w_aload_nR (x := 28) (n := 13) rfl rfl rfl ?_
    refine w_getI (n := 16) rfl rfl rfl rfl ?_
    refine w_istore_n (ls' := [some (.ref 0), some (.ref 28), some (.int (I9 28 1)), none]) (n := 17) rfl rfl rfl rfl ?_
    refine w_aload_nR (x := 28) (n := 18) rfl rfl rfl ?_
    refine w_getI (n := 21) rfl rfl rfl rfl ?_
    refine w_bipush (v := 8) (n := 23) rfl rfl rfl ?_
    obtain ⟨K1, H⟩ := H
    have J23 : ∀ (y23_2 : Int32), y23_2 = (if (I9 28 3) = 8 then (1 : Int32) else (if 8 ≤ (I9 28 3) then ((I9 28 1) : Int32) else (I9 8 ((I9 28 3).toNatClampNeg)))) → mm_W 98 53 [some (.ref 0), some (.ref 28), some (.int y23_2), none] [] I9 (mm_qv 98 P) := by
      intro y23_2 e23_0
      subst e23_0
      refine w_iconst (v := 0) (n := 54) rfl rfl rfl ?_
      refine w_istore_n (ls' := [some (.ref 0), some (.ref 28), some (.int (if (I9 28 3) = 8 then (1 : Int32) else (if 8 ≤ (I9 28 3) then ((I9 28 1) : Int32) else (I9 8 ((I9 28 3).toNatClampNeg))))), some (.int 0)]) (n := 55) rfl rfl rfl rfl ?_
      exact w_drp mm_Qf_v H (lb_s (lb_s (lb_s (lb_s lb_e))))
    refine w_icmp_ne (n := 26) rfl rfl ⟨fun hc => ?_, fun hc => ?_⟩
    · have H := K1 hc
      refine w_aload_nR (x := 28) (n := 32) rfl rfl rfl ?_
      refine w_getI (n := 35) rfl rfl rfl rfl ?_
      refine w_bipush (v := 8) (n := 37) rfl rfl rfl ?_
      obtain ⟨K2, H⟩ := H
      have J37 : ∀ (y37_2 : Int32), y37_2 = (if 8 ≤ (I9 28 3) then ((I9 28 1) : Int32) else (I9 8 ((I9 28 3).toNatClampNeg))) → mm_W 98 53 [some (.ref 0), some (.ref 28), some (.int y37_2), none] [] I9 (mm_qv 98 P) := by
        intro y37_2 e37_0
        subst e37_0
        refine w_drp mm_Qf_v (J23 _ ?_) (lb_s (lb_s (lb_s (lb_n lb_e))))
        · exact (if_neg hc).symm
      refine w_icmp_ge (n := 40) rfl rfl ⟨fun hc => ?_, fun hc => ?_⟩
      · refine w_drp mm_Qf_v (J37 _ ?_) (lb_s (lb_s (lb_s (lb_n lb_e))))
        · exact (if_pos hc).symm
      · have H := K2 hc
        refine w_aload_nR (x := 0) (n := 41) rfl rfl rfl ?_
        refine w_getR (b := 6) (n := 44) rfl rfl rfl rfl rfl ?_
        refine w_getR (b := 8) (n := 47) rfl rfl rfl rfl rfl ?_
        refine w_aload_nR (x := 28) (n := 48) rfl rfl rfl ?_
        refine w_getI (n := 51) rfl rfl rfl rfl ?_
        refine w_iaload (N := 8) (j := (I9 28 3).toNatClampNeg) (n := 52) rfl rfl rfl rfl rfl rfl ⟨H.1, ?_⟩
        replace H := H.2
        refine w_istore_n (ls' := [some (.ref 0), some (.ref 28), some (.int (I9 8 ((I9 28 3).toNatClampNeg))), none]) (n := 53) rfl rfl rfl rfl ?_
        refine w_drp mm_Qf_v (J37 _ ?_) (lb_s (lb_s (lb_s (lb_n lb_e))))
        · exact (if_neg (fa_nle hc)).symm
    · refine w_iconst (v := 1) (n := 27) rfl rfl rfl ?_
      refine w_istore_n (ls' := [some (.ref 0), some (.ref 28), some (.int 1), none]) (n := 28) rfl rfl rfl rfl ?_
      refine w_goto rfl ?_
      refine w_drp mm_Qf_v (J23 _ ?_) (lb_s (lb_s (lb_s (lb_n lb_e))))
      · exact (if_pos hc).symm
  · refine mm_Mv_of ?_
    show mm_W 98 0 [some (.ref 0), some (.ref 34), none, none] [] I (mm_qv 98 P)
    refine w_aload_nR (x := 0) (n := 1) rfl rfl rfl ?_
    refine w_getR (b := 47) (n := 4) rfl rfl rfl rfl rfl ?_
    refine w_aload_nR (x := 34) (n := 5) rfl rfl rfl ?_
    refine w_getI (n := 8) rfl rfl rfl rfl ?_
    refine w_iconst (v := 4) (n := 9) rfl rfl rfl ?_
    refine w_callv (as := [.ref 47, .int (I 34 3), .int 4]) (rest := []) (n := 12) rfl rfl rfl rfl ?_
    obtain ⟨I9, hI9, H⟩ := H
    refine ⟨I9, hI9, ?_⟩
    refine w_aload_nR (x := 34) (n := 13) rfl rfl rfl ?_
    refine w_getI (n := 16) rfl rfl rfl rfl ?_
    refine w_istore_n (ls' := [some (.ref 0), some (.ref 34), some (.int (I9 34 1)), none]) (n := 17) rfl rfl rfl rfl ?_
    refine w_aload_nR (x := 34) (n := 18) rfl rfl rfl ?_
    refine w_getI (n := 21) rfl rfl rfl rfl ?_
    refine w_bipush (v := 8) (n := 23) rfl rfl rfl ?_
    obtain ⟨K1, H⟩ := H
    have J23 : ∀ (y23_2 : Int32), y23_2 = (if (I9 34 3) = 8 then (1 : Int32) else (if 8 ≤ (I9 34 3) then ((I9 34 1) : Int32) else (I9 8 ((I9 34 3).toNatClampNeg)))) → mm_W 98 53 [some (.ref 0), some (.ref 34), some (.int y23_2), none] [] I9 (mm_qv 98 P) := by
      intro y23_2 e23_0
      subst e23_0
      refine w_iconst (v := 0) (n := 54) rfl rfl rfl ?_
      refine w_istore_n (ls' := [some (.ref 0), some (.ref 34), some (.int (if (I9 34 3) = 8 then (1 : Int32) else (if 8 ≤ (I9 34 3) then ((I9 34 1) : Int32) else (I9 8 ((I9 34 3).toNatClampNeg))))), some (.int 0)]) (n := 55) rfl rfl rfl rfl ?_
      exact w_drp mm_Qf_v H (lb_s (lb_s (lb_s (lb_s lb_e))))
    refine w_icmp_ne (n := 26) rfl rfl ⟨fun hc => ?_, fun hc => ?_⟩
    · have H := K1 hc
      refine w_aload_nR (x := 34) (n := 32) rfl rfl rfl ?_
      refine w_getI (n := 35) rfl rfl rfl rfl ?_
      refine w_bipush (v := 8) (n := 37) rfl rfl rfl ?_
      obtain ⟨K2, H⟩ := H
      have J37 : ∀ (y37_2 : Int32), y37_2 = (if 8 ≤ (I9 34 3) then ((I9 34 1) : Int32) else (I9 8 ((I9 34 3).toNatClampNeg))) → mm_W 98 53 [some (.ref 0), some (.ref 34), some (.int y37_2), none] [] I9 (mm_qv 98 P) := by
        intro y37_2 e37_0
        subst e37_0
        refine w_drp mm_Qf_v (J23 _ ?_) (lb_s (lb_s (lb_s (lb_n lb_e))))
        · exact (if_neg hc).symm
      refine w_icmp_ge (n := 40) rfl rfl ⟨fun hc => ?_, fun hc => ?_⟩
      · refine w_drp mm_Qf_v (J37 _ ?_) (lb_s (lb_s (lb_s (lb_n lb_e))))
        · exact (if_pos hc).symm
      · have H := K2 hc
        refine w_aload_nR (x := 0) (n := 41) rfl rfl rfl ?_
        refine w_getR (b := 6) (n := 44) rfl rfl rfl rfl rfl ?_
        refine w_getR (b := 8) (n := 47) rfl rfl rfl rfl rfl ?_
        refine w_aload_nR (x := 34) (n := 48) rfl rfl rfl ?_
        refine w_getI (n := 51) rfl rfl rfl rfl ?_
        refine w_iaload (N := 8) (j := (I9 34 3).toNatClampNeg) (n := 52) rfl rfl rfl rfl rfl rfl ⟨H.1, ?_⟩
        replace H := H.2
        refine w_istore_n (ls' := [some (.ref 0), some (.ref 34), some (.int (I9 8 ((I9 34 3).toNatClampNeg))), none]) (n := 53) rfl rfl rfl rfl ?_
        refine w_drp mm_Qf_v (J37 _ ?_) (lb_s (lb_s (lb_s (lb_n lb_e))))
        · exact (if_neg (fa_nle hc)).symm
    · refine w_iconst (v := 1) (n := 27) rfl rfl rfl ?_
      refine w_istore_n (ls' := [some (.ref 0), some (.ref 34), some (.int 1), none]) (n := 28) rfl rfl rfl rfl ?_
      refine w_goto rfl ?_
      refine w_drp mm_Qf_v (J23 _ ?_) (lb_s (lb_s (lb_s (lb_n lb_e))))
      · exact (if_pos hc).symm
  · refine mm_Mv_of ?_
    show mm_W 98 0 [some (.ref 0), some (.ref 40), none, none] [] I (mm_qv 98 P)
    refine w_aload_nR (x := 0) (n := 1) rfl rfl rfl ?_
    refine w_getR (b := 47) (n := 4) rfl rfl rfl rfl rfl ?_
    refine w_aload_nR (x := 40) (n := 5) rfl rfl rfl ?_
    refine w_getI (n := 8) rfl rfl rfl rfl ?_
    refine w_iconst (v := 4) (n := 9) rfl rfl rfl ?_
    refine w_callv (as := [.ref 47, .int (I 40 3), .int 4]) (rest := []) (n := 12) rfl rfl rfl rfl ?_
    obtain ⟨I9, hI9, H⟩ := H
    refine ⟨I9, hI9, ?_⟩
    refine w_aload_nR (x := 40) (n := 13) rfl rfl rfl ?_
    refine w_getI (n := 16) rfl rfl rfl rfl ?_
    refine w_istore_n (ls' := [some (.ref 0), some (.ref 40), some (.int (I9 40 1)), none]) (n := 17) rfl rfl rfl rfl ?_
    refine w_aload_nR (x := 40) (n := 18) rfl rfl rfl ?_
    refine w_getI (n := 21) rfl rfl rfl rfl ?_
    refine w_bipush (v := 8) (n := 23) rfl rfl rfl ?_
    obtain ⟨K1, H⟩ := H
    have J23 : ∀ (y23_2 : Int32), y23_2 = (if (I9 40 3) = 8 then (1 : Int32) else (if 8 ≤ (I9 40 3) then ((I9 40 1) : Int32) else (I9 8 ((I9 40 3).toNatClampNeg)))) → mm_W 98 53 [some (.ref 0), some (.ref 40), some (.int y23_2), none] [] I9 (mm_qv 98 P) := by
      intro y23_2 e23_0
      subst e23_0
      refine w_iconst (v := 0) (n := 54) rfl rfl rfl ?_
      refine w_istore_n (ls' := [some (.ref 0), some (.ref 40), some (.int (if (I9 40 3) = 8 then (1 : Int32) else (if 8 ≤ (I9 40 3) then ((I9 40 1) : Int32) else (I9 8 ((I9 40 3).toNatClampNeg))))), some (.int 0)]) (n := 55) rfl rfl rfl rfl ?_
      exact w_drp mm_Qf_v H (lb_s (lb_s (lb_s (lb_s lb_e))))
    refine w_icmp_ne (n := 26) rfl rfl ⟨fun hc => ?_, fun hc => ?_⟩
    · have H := K1 hc
      refine w_aload_nR (x := 40) (n := 32) rfl rfl rfl ?_
      refine w_getI (n := 35) rfl rfl rfl rfl ?_
      refine w_bipush (v := 8) (n := 37) rfl rfl rfl ?_
      obtain ⟨K2, H⟩ := H
      have J37 : ∀ (y37_2 : Int32), y37_2 = (if 8 ≤ (I9 40 3) then ((I9 40 1) : Int32) else (I9 8 ((I9 40 3).toNatClampNeg))) → mm_W 98 53 [some (.ref 0), some (.ref 40), some (.int y37_2), none] [] I9 (mm_qv 98 P) := by
        intro y37_2 e37_0
        subst e37_0
        refine w_drp mm_Qf_v (J23 _ ?_) (lb_s (lb_s (lb_s (lb_n lb_e))))
        · exact (if_neg hc).symm
      refine w_icmp_ge (n := 40) rfl rfl ⟨fun hc => ?_, fun hc => ?_⟩
      · refine w_drp mm_Qf_v (J37 _ ?_) (lb_s (lb_s (lb_s (lb_n lb_e))))
        · exact (if_pos hc).symm
      · have H := K2 hc
        refine w_aload_nR (x := 0) (n := 41) rfl rfl rfl ?_
        refine w_getR (b := 6) (n := 44) rfl rfl rfl rfl rfl ?_
        refine w_getR (b := 8) (n := 47) rfl rfl rfl rfl rfl ?_
        refine w_aload_nR (x := 40) (n := 48) rfl rfl rfl ?_
        refine w_getI (n := 51) rfl rfl rfl rfl ?_
        refine w_iaload (N := 8) (j := (I9 40 3).toNatClampNeg) (n := 52) rfl rfl rfl rfl rfl rfl ⟨H.1, ?_⟩
        replace H := H.2
        refine w_istore_n (ls' := [some (.ref 0), some (.ref 40), some (.int (I9 8 ((I9 40 3).toNatClampNeg))), none]) (n := 53) rfl rfl rfl rfl ?_
        refine w_drp mm_Qf_v (J37 _ ?_) (lb_s (lb_s (lb_s (lb_n lb_e))))
        · exact (if_neg (fa_nle hc)).symm
    · refine w_iconst (v := 1) (n := 27) rfl rfl rfl ?_
      refine w_istore_n (ls' := [some (.ref 0), some (.ref 40), some (.int 1), none]) (n := 28) rfl rfl rfl rfl ?_
      refine w_goto rfl ?_
      refine w_drp mm_Qf_v (J23 _ ?_) (lb_s (lb_s (lb_s (lb_n lb_e))))
      · exact (if_pos hc).symm
theorem c_WS_writeRow_55 {P : mm_I → Prop} {I : mm_I} {rr : Nat} (hs0 : rr = 22 ∨ rr = 28 ∨ rr = 34 ∨ rr = 40) (x2 : Int32) (x3 : Int32)
  (H : (x2 ≤ x3 →
      (8 ≤ (I rr 3) →
        P I) ∧
      ((I rr 3) < 8 →
        mm_Mv 99 [.ref 0, .ref rr] I (fun I94 =>  -- WS.writeRuns
        P I94))) ∧
    (x3 < x2 →
      vp_in x3 64 ∧
      mm_Mv 59 [.ref 47, .int (I (rr + 1) x3.toNatClampNeg), .int (I rr 2)] I (fun I74 =>  -- Store.putBits
      mm_W 98 55 [some (.ref 0), some (.ref rr), some (.int x2), some (.int (x3 + 1))] [] I74 (mm_qv 98 P)))) : mm_W 98 55 [some (.ref 0), some (.ref rr), some (.int x2), some (.int x3)] [] I (mm_qv 98 P) := by
  rcases hs0 with rfl | rfl | rfl | rfl
  · refine w_iload_n (n := 56) rfl rfl rfl ?_
    refine w_iload_n (n := 57) rfl rfl rfl ?_
    refine w_icmp_ge (n := 60) rfl rfl ⟨fun hc => ?_, fun hc => ?_⟩
    · replace H := H.1 hc
      refine w_aload_nR (x := 22) (n := 84) rfl rfl rfl ?_
      refine w_getI (n := 87) rfl rfl rfl rfl ?_
      refine w_bipush (v := 8) (n := 89) rfl rfl rfl ?_
      refine w_icmp_ge (n := 92) rfl rfl ⟨fun hc => ?_, fun hc => ?_⟩
      · replace H := H.1 hc
        exact w_vreturn rfl rfl H
      · replace H := H.2 hc
        refine w_aload_nR (x := 0) (n := 93) rfl rfl rfl ?_
        refine w_aload_nR (x := 22) (n := 94) rfl rfl rfl ?_
        refine w_callv (as := [.ref 0, .ref 22]) (rest := []) (n := 97) rfl rfl rfl rfl ?_
        obtain ⟨I94, hI94, H⟩ := H
        refine ⟨I94, hI94, ?_⟩
        exact w_vreturn rfl rfl H
    · replace H := H.2 hc
      refine w_aload_nR (x := 0) (n := 61) rfl rfl rfl ?_
      refine w_getR (b := 47) (n := 64) rfl rfl rfl rfl rfl ?_
      refine w_aload_nR (x := 22) (n := 65) rfl rfl rfl ?_
      refine w_getR (b := 23) (n := 68) rfl rfl rfl rfl rfl ?_
      refine w_iload_n (n := 69) rfl rfl rfl ?_
      refine w_iaload (N := 64) (j := x3.toNatClampNeg) (n := 70) rfl rfl rfl rfl rfl rfl ⟨H.1, ?_⟩
      replace H := H.2
      refine w_aload_nR (x := 22) (n := 71) rfl rfl rfl ?_
      refine w_getI (n := 74) rfl rfl rfl rfl ?_
      refine w_callv (as := [.ref 47, .int (I 23 x3.toNatClampNeg), .int (I 22 2)]) (rest := []) (n := 77) rfl rfl rfl rfl ?_
      obtain ⟨I74, hI74, H⟩ := H
      refine ⟨I74, hI74, ?_⟩
      refine w_iinc (y := x3 + 1) (ls' := [some (.ref 0), some (.ref 22), some (.int x2), some (.int (x3 + 1))]) (n := 80) rfl rfl rfl rfl rfl ?_
      refine w_goto rfl ?_
      exact w_drp mm_Qf_v H (lb_s (lb_s (lb_s (lb_s lb_e))))
  · refine w_iload_n (n := 56) rfl rfl rfl ?_
    refine w_iload_n (n := 57) rfl rfl rfl ?_
    refine w_icmp_ge (n := 60) rfl rfl ⟨fun hc => ?_, fun hc => ?_⟩
    · replace H := H.1 hc
      refine w_aload_nR (x := 28) (n := 84) rfl rfl rfl ?_
      refine w_getI (n := 87) rfl rfl rfl rfl ?_
      refine w_bipush (v := 8) (n := 89) rfl rfl rfl ?_
      refine w_icmp_ge (n := 92) rfl rfl ⟨fun hc => ?_, fun hc => ?_⟩
      · replace H := H.1 hc
        exact w_vreturn rfl rfl H
      · replace H := H.2 hc
        refine w_aload_nR (x := 0) (n := 93) rfl rfl rfl ?_
        refine w_aload_nR (x := 28) (n := 94) rfl rfl rfl ?_
        refine w_callv (as := [.ref 0, .ref 28]) (rest := []) (n := 97) rfl rfl rfl rfl ?_
        obtain ⟨I94, hI94, H⟩ := H
        refine ⟨I94, hI94, ?_⟩
        exact w_vreturn rfl rfl H
    · replace H := H.2 hc
      refine w_aload_nR (x := 0) (n := 61) rfl rfl rfl ?_
      refine w_getR (b := 47) (n := 64) rfl rfl rfl rfl rfl ?_
      refine w_aload_nR (x := 28) (n := 65) rfl rfl rfl ?_
      refine w_getR (b := 29) (n := 68) rfl rfl rfl rfl rfl ?_
      refine w_iload_n (n := 69) rfl rfl rfl ?_
      refine w_iaload (N := 64) (j := x3.toNatClampNeg) (n := 70) rfl rfl rfl rfl rfl rfl ⟨H.1, ?_⟩
      replace H := H.2
      refine w_aload_nR (x := 28) (n := 71) rfl rfl rfl ?_
      refine w_getI (n := 74) rfl rfl rfl rfl ?_
      refine w_callv (as := [.ref 47, .int (I 29 x3.toNatClampNeg), .int (I 28 2)]) (rest := []) (n := 77) rfl rfl rfl rfl ?_
      obtain ⟨I74, hI74, H⟩ := H
      refine ⟨I74, hI74, ?_⟩
      refine w_iinc (y := x3 + 1) (ls' := [some (.ref 0), some (.ref 28), some (.int x2), some (.int (x3 + 1))]) (n := 80) rfl rfl rfl rfl rfl ?_
      refine w_goto rfl ?_
      exact w_drp mm_Qf_v H (lb_s (lb_s (lb_s (lb_s lb_e))))
  · refine w_iload_n (n := 56) rfl rfl rfl ?_
    refine w_iload_n (n := 57) rfl rfl rfl ?_
    refine w_icmp_ge (n := 60) rfl rfl ⟨fun hc => ?_, fun hc => ?_⟩
    · replace H := H.1 hc
      refine w_aload_nR (x := 34) (n := 84) rfl rfl rfl ?_
      refine w_getI (n := 87) rfl rfl rfl rfl ?_
      refine w_bipush (v := 8) (n := 89) rfl rfl rfl ?_
      refine w_icmp_ge (n := 92) rfl rfl ⟨fun hc => ?_, fun hc => ?_⟩
      · replace H := H.1 hc
        exact w_vreturn rfl rfl H
      · replace H := H.2 hc
        refine w_aload_nR (x := 0) (n := 93) rfl rfl rfl ?_
        refine w_aload_nR (x := 34) (n := 94) rfl rfl rfl ?_
        refine w_callv (as := [.ref 0, .ref 34]) (rest := []) (n := 97) rfl rfl rfl rfl ?_
        obtain ⟨I94, hI94, H⟩ := H
        refine ⟨I94, hI94, ?_⟩
        exact w_vreturn rfl rfl H
    · replace H := H.2 hc
      refine w_aload_nR (x := 0) (n := 61) rfl rfl rfl ?_
      refine w_getR (b := 47) (n := 64) rfl rfl rfl rfl rfl ?_
      refine w_aload_nR (x := 34) (n := 65) rfl rfl rfl ?_
      refine w_getR (b := 35) (n := 68) rfl rfl rfl rfl rfl ?_
      refine w_iload_n (n := 69) rfl rfl rfl ?_
      refine w_iaload (N := 64) (j := x3.toNatClampNeg) (n := 70) rfl rfl rfl rfl rfl rfl ⟨H.1, ?_⟩
      replace H := H.2
      refine w_aload_nR (x := 34) (n := 71) rfl rfl rfl ?_
      refine w_getI (n := 74) rfl rfl rfl rfl ?_
      refine w_callv (as := [.ref 47, .int (I 35 x3.toNatClampNeg), .int (I 34 2)]) (rest := []) (n := 77) rfl rfl rfl rfl ?_
      obtain ⟨I74, hI74, H⟩ := H
      refine ⟨I74, hI74, ?_⟩
      refine w_iinc (y := x3 + 1) (ls' := [some (.ref 0), some (.ref 34), some (.int x2), some (.int (x3 + 1))]) (n := 80) rfl rfl rfl rfl rfl ?_
      refine w_goto rfl ?_
      exact w_drp mm_Qf_v H (lb_s (lb_s (lb_s (lb_s lb_e))))
  · refine w_iload_n (n := 56) rfl rfl rfl ?_
    refine w_iload_n (n := 57) rfl rfl rfl ?_
    refine w_icmp_ge (n := 60) rfl rfl ⟨fun hc => ?_, fun hc => ?_⟩
    · replace H := H.1 hc
      refine w_aload_nR (x := 40) (n := 84) rfl rfl rfl ?_
      refine w_getI (n := 87) rfl rfl rfl rfl ?_
      refine w_bipush (v := 8) (n := 89) rfl rfl rfl ?_
      refine w_icmp_ge (n := 92) rfl rfl ⟨fun hc => ?_, fun hc => ?_⟩
      · replace H := H.1 hc
        exact w_vreturn rfl rfl H
      · replace H := H.2 hc
        refine w_aload_nR (x := 0) (n := 93) rfl rfl rfl ?_
        refine w_aload_nR (x := 40) (n := 94) rfl rfl rfl ?_
        refine w_callv (as := [.ref 0, .ref 40]) (rest := []) (n := 97) rfl rfl rfl rfl ?_
        obtain ⟨I94, hI94, H⟩ := H
        refine ⟨I94, hI94, ?_⟩
        exact w_vreturn rfl rfl H
    · replace H := H.2 hc
      refine w_aload_nR (x := 0) (n := 61) rfl rfl rfl ?_
      refine w_getR (b := 47) (n := 64) rfl rfl rfl rfl rfl ?_
      refine w_aload_nR (x := 40) (n := 65) rfl rfl rfl ?_
      refine w_getR (b := 41) (n := 68) rfl rfl rfl rfl rfl ?_
      refine w_iload_n (n := 69) rfl rfl rfl ?_
      refine w_iaload (N := 64) (j := x3.toNatClampNeg) (n := 70) rfl rfl rfl rfl rfl rfl ⟨H.1, ?_⟩
      replace H := H.2
      refine w_aload_nR (x := 40) (n := 71) rfl rfl rfl ?_
      refine w_getI (n := 74) rfl rfl rfl rfl ?_
      refine w_callv (as := [.ref 47, .int (I 41 x3.toNatClampNeg), .int (I 40 2)]) (rest := []) (n := 77) rfl rfl rfl rfl ?_
      obtain ⟨I74, hI74, H⟩ := H
      refine ⟨I74, hI74, ?_⟩
      refine w_iinc (y := x3 + 1) (ls' := [some (.ref 0), some (.ref 40), some (.int x2), some (.int (x3 + 1))]) (n := 80) rfl rfl rfl rfl rfl ?_
      refine w_goto rfl ?_
      exact w_drp mm_Qf_v H (lb_s (lb_s (lb_s (lb_s lb_e))))
theorem e_WS_writeRuns {P : mm_I → Prop} {I : mm_I} {rr : Nat} (hs0 : rr = 22 ∨ rr = 28 ∨ rr = 34 ∨ rr = 40)
  (H : mm_Mv 2 [.ref 11, .ref rr, .ref 6, .int (I rr 3)] I (fun I13 =>  -- Cutter.load
    mm_W 99 20 [some (.ref 0), some (.ref rr), some (.int 0), some (.int 0), none, none] [] I13 (mm_qv 99 P))) : mm_Mv 99 [.ref 0, .ref rr] I P := by
  rcases hs0 with rfl | rfl | rfl | rfl
  · refine mm_Mv_of ?_
    show mm_W 99 0 [some (.ref 0), some (.ref 22), none, none, none, none] [] I (mm_qv 99 P)
    refine w_aload_nR (x := 0) (n := 1) rfl rfl rfl ?_
    refine w_getR (b := 11) (n := 4) rfl rfl rfl rfl rfl ?_
    refine w_aload_nR (x := 22) (n := 5) rfl rfl rfl ?_
    refine w_aload_nR (x := 0) (n := 6) rfl rfl rfl ?_
    refine w_getR (b := 6) (n := 9) rfl rfl rfl rfl rfl ?_
    refine w_aload_nR (x := 22) (n := 10) rfl rfl rfl ?_
    refine w_getI (n := 13) rfl rfl rfl rfl ?_
    refine w_callv (as := [.ref 11, .ref 22, .ref 6, .int (I 22 3)]) (rest := []) (n := 16) rfl rfl rfl rfl ?_
    obtain ⟨I13, hI13, H⟩ := H
    refine ⟨I13, hI13, ?_⟩
    refine w_iconst (v := 0) (n := 17) rfl rfl rfl ?_
    refine w_istore_n (ls' := [some (.ref 0), some (.ref 22), some (.int 0), none, none, none]) (n := 18) rfl rfl rfl rfl ?_
    refine w_iconst (v := 0) (n := 19) rfl rfl rfl ?_
    refine w_istore_n (ls' := [some (.ref 0), some (.ref 22), some (.int 0), some (.int 0), none, none]) (n := 20) rfl rfl rfl rfl ?_
    exact w_drp mm_Qf_v H (lb_s (lb_s (lb_s (lb_s (lb_n (lb_n lb_e))))))
  · refine mm_Mv_of ?_
    show mm_W 99 0 [some (.ref 0), some (.ref 28), none, none, none, none] [] I (mm_qv 99 P)
    refine w_aload_nR (x := 0) (n := 1) rfl rfl rfl ?_
    refine w_getR (b := 11) (n := 4) rfl rfl rfl rfl rfl ?_
    refine w_aload_nR (x := 28) (n := 5) rfl rfl rfl ?_
    refine w_aload_nR (x := 0) (n := 6) rfl rfl rfl ?_
    refine w_getR (b := 6) (n := 9) rfl rfl rfl rfl rfl ?_
    refine w_aload_nR (x := 28) (n := 10) rfl rfl rfl ?_
    refine w_getI (n := 13) rfl rfl rfl rfl ?_
    refine w_callv (as := [.ref 11, .ref 28, .ref 6, .int (I 28 3)]) (rest := []) (n := 16) rfl rfl rfl rfl ?_
    obtain ⟨I13, hI13, H⟩ := H
    refine ⟨I13, hI13, ?_⟩
    refine w_iconst (v := 0) (n := 17) rfl rfl rfl ?_
    refine w_istore_n (ls' := [some (.ref 0), some (.ref 28), some (.int 0), none, none, none]) (n := 18) rfl rfl rfl rfl ?_
    refine w_iconst (v := 0) (n := 19) rfl rfl rfl ?_
    refine w_istore_n (ls' := [some (.ref 0), some (.ref 28), some (.int 0), some (.int 0), none, none]) (n := 20) rfl rfl rfl rfl ?_
    exact w_drp mm_Qf_v H (lb_s (lb_s (lb_s (lb_s (lb_n (lb_n lb_e))))))
  · refine mm_Mv_of ?_
    show mm_W 99 0 [some (.ref 0), some (.ref 34), none, none, none, none] [] I (mm_qv 99 P)
    refine w_aload_nR (x := 0) (n := 1) rfl rfl rfl ?_
    refine w_getR (b := 11) (n := 4) rfl rfl rfl rfl rfl ?_
    refine w_aload_nR (x := 34) (n := 5) rfl rfl rfl ?_
    refine w_aload_nR (x := 0) (n := 6) rfl rfl rfl ?_
    refine w_getR (b := 6) (n := 9) rfl rfl rfl rfl rfl ?_
    refine w_aload_nR (x := 34) (n := 10) rfl rfl rfl ?_
    refine w_getI (n := 13) rfl rfl rfl rfl ?_
    refine w_callv (as := [.ref 11, .ref 34, .ref 6, .int (I 34 3)]) (rest := []) (n := 16) rfl rfl rfl rfl ?_
    obtain ⟨I13, hI13, H⟩ := H
    refine ⟨I13, hI13, ?_⟩
    refine w_iconst (v := 0) (n := 17) rfl rfl rfl ?_
    refine w_istore_n (ls' := [some (.ref 0), some (.ref 34), some (.int 0), none, none, none]) (n := 18) rfl rfl rfl rfl ?_
    refine w_iconst (v := 0) (n := 19) rfl rfl rfl ?_
    refine w_istore_n (ls' := [some (.ref 0), some (.ref 34), some (.int 0), some (.int 0), none, none]) (n := 20) rfl rfl rfl rfl ?_
    exact w_drp mm_Qf_v H (lb_s (lb_s (lb_s (lb_s (lb_n (lb_n lb_e))))))
  · refine mm_Mv_of ?_
    show mm_W 99 0 [some (.ref 0), some (.ref 40), none, none, none, none] [] I (mm_qv 99 P)
    refine w_aload_nR (x := 0) (n := 1) rfl rfl rfl ?_
    refine w_getR (b := 11) (n := 4) rfl rfl rfl rfl rfl ?_
    refine w_aload_nR (x := 40) (n := 5) rfl rfl rfl ?_
    refine w_aload_nR (x := 0) (n := 6) rfl rfl rfl ?_
    refine w_getR (b := 6) (n := 9) rfl rfl rfl rfl rfl ?_
    refine w_aload_nR (x := 40) (n := 10) rfl rfl rfl ?_
    refine w_getI (n := 13) rfl rfl rfl rfl ?_
    refine w_callv (as := [.ref 11, .ref 40, .ref 6, .int (I 40 3)]) (rest := []) (n := 16) rfl rfl rfl rfl ?_
    obtain ⟨I13, hI13, H⟩ := H
    refine ⟨I13, hI13, ?_⟩
    refine w_iconst (v := 0) (n := 17) rfl rfl rfl ?_
    refine w_istore_n (ls' := [some (.ref 0), some (.ref 40), some (.int 0), none, none, none]) (n := 18) rfl rfl rfl rfl ?_
    refine w_iconst (v := 0) (n := 19) rfl rfl rfl ?_
    refine w_istore_n (ls' := [some (.ref 0), some (.ref 40), some (.int 0), some (.int 0), none, none]) (n := 20) rfl rfl rfl rfl ?_
    exact w_drp mm_Qf_v H (lb_s (lb_s (lb_s (lb_s (lb_n (lb_n lb_e))))))
theorem c_WS_writeRuns_20 {P : mm_I → Prop} {I : mm_I} {rr : Nat} (hs0 : rr = 22 ∨ rr = 28 ∨ rr = 34 ∨ rr = 40) (x2 : Int32) (x3 : Int32)
  (H : ((I rr 5) ≤ x3 →
      P I) ∧
    (x3 < (I rr 5) →
      vp_in x3 8 ∧
      mm_Mi 226 [.int (I 11 1), .int (x2 + ((I (rr + 2) x3.toNatClampNeg) * 8))] I (fun r46 I46 =>  -- Math.min
      vp_in x3 8 ∧
      vp_in x3 8 ∧
      mm_Mv 59 [.ref 47, .int ((I46 (rr + 2) x3.toNatClampNeg) - 1), .int 3] I46 (fun I72 =>  -- Store.putBits
      mm_Mv 59 [.ref 47, .int (I46 (rr + 3) x3.toNatClampNeg), .int 4] I72 (fun I82 =>  -- Store.putBits
      (¬ (I46 (rr + 3) x3.toNatClampNeg) = 14 →
        (14 ≤ (I46 (rr + 3) x3.toNatClampNeg) →
          mm_W 99 20 [some (.ref 0), some (.ref rr), some (.int r46), some (.int (x3 + 1)), none, none] [] I82 (mm_qv 99 P)) ∧
        ((I46 (rr + 3) x3.toNatClampNeg) < 14 →
          mm_Mv 101 [.ref 0, .int x2, .int r46, .int (I46 (rr + 3) x3.toNatClampNeg)] I82 (fun I135 =>  -- WS.writeSplit
          mm_W 99 20 [some (.ref 0), some (.ref rr), some (.int r46), some (.int (x3 + 1)), none, none] [] I135 (mm_qv 99 P)))) ∧
      ((I46 (rr + 3) x3.toNatClampNeg) = 14 →
        vp_in x3 8 ∧
        mm_Mv 59 [.ref 47, .int (I82 (rr + 4) x3.toNatClampNeg), .int 5] I82 (fun I103 =>  -- Store.putBits
        vp_in x3 8 ∧
        mm_Mv 100 [.ref 0, .int x2, .int r46, .int (I103 (rr + 4) x3.toNatClampNeg)] I103 (fun I116 =>  -- WS.writeFixed
        mm_W 99 20 [some (.ref 0), some (.ref rr), some (.int r46), some (.int (x3 + 1)), none, none] [] I116 (mm_qv 99 P))))))))) : mm_W 99 20 [some (.ref 0), some (.ref rr), some (.int x2), some (.int x3), none, none] [] I (mm_qv 99 P) := by
  rcases hs0 with rfl | rfl | rfl | rfl
  · refine w_iload_n (n := 21) rfl rfl rfl ?_
    refine w_aload_nR (x := 22) (n := 22) rfl rfl rfl ?_
    refine w_getI (n := 25) rfl rfl rfl rfl ?_
    refine w_icmp_ge (n := 28) rfl rfl ⟨fun hc => ?_, fun hc => ?_⟩
    · replace H := H.1 hc
      exact w_vreturn rfl rfl H
    · replace H := H.2 hc
      refine w_aload_nR (x := 0) (n := 29) rfl rfl rfl ?_
      refine w_getR (b := 11) (n := 32) rfl rfl rfl rfl rfl ?_
      refine w_getI (n := 35) rfl rfl rfl rfl ?_
      refine w_iload_n (n := 36) rfl rfl rfl ?_
      refine w_aload_nR (x := 22) (n := 37) rfl rfl rfl ?_
      refine w_getR (b := 24) (n := 40) rfl rfl rfl rfl rfl ?_
      refine w_iload_n (n := 41) rfl rfl rfl ?_
      refine w_iaload (N := 8) (j := x3.toNatClampNeg) (n := 42) rfl rfl rfl rfl rfl rfl ⟨H.1, ?_⟩
      replace H := H.2
      refine w_bipush (v := 8) (n := 44) rfl rfl rfl ?_
      refine w_imul (n := 45) rfl rfl ?_
      refine w_iadd (n := 46) rfl rfl ?_
      refine w_calli (as := [.int (I 11 1), .int (x2 + ((I 24 x3.toNatClampNeg) * 8))]) (rest := []) (n := 49) rfl rfl rfl rfl ?_
      obtain ⟨r46, I46, hI46, H⟩ := H
      refine ⟨r46, I46, hI46, ?_⟩
      refine w_istore (ls' := [some (.ref 0), some (.ref 22), some (.int x2), some (.int x3), some (.int r46), none]) (n := 51) rfl rfl rfl rfl ?_
      refine w_aload_nR (x := 22) (n := 52) rfl rfl rfl ?_
      refine w_getR (b := 25) (n := 55) rfl rfl rfl rfl rfl ?_
      refine w_iload_n (n := 56) rfl rfl rfl ?_
      refine w_iaload (N := 8) (j := x3.toNatClampNeg) (n := 57) rfl rfl rfl rfl rfl rfl ⟨H.1, ?_⟩
      replace H := H.2
      refine w_istore (ls' := [some (.ref 0), some (.ref 22), some (.int x2), some (.int x3), some (.int r46), some (.int (I46 25 x3.toNatClampNeg))]) (n := 59) rfl rfl rfl rfl ?_
      refine w_aload_nR (x := 0) (n := 60) rfl rfl rfl ?_
      refine w_getR (b := 47) (n := 63) rfl rfl rfl rfl rfl ?_
      refine w_aload_nR (x := 22) (n := 64) rfl rfl rfl ?_
      refine w_getR (b := 24) (n := 67) rfl rfl rfl rfl rfl ?_
      refine w_iload_n (n := 68) rfl rfl rfl ?_
      refine w_iaload (N := 8) (j := x3.toNatClampNeg) (n := 69) rfl rfl rfl rfl rfl rfl ⟨H.1, ?_⟩
      replace H := H.2
      refine w_iconst (v := 1) (n := 70) rfl rfl rfl ?_
      refine w_isub (n := 71) rfl rfl ?_
      refine w_iconst (v := 3) (n := 72) rfl rfl rfl ?_
      refine w_callv (as := [.ref 47, .int ((I46 24 x3.toNatClampNeg) - 1), .int 3]) (rest := []) (n := 75) rfl rfl rfl rfl ?_
      obtain ⟨I72, hI72, H⟩ := H
      refine ⟨I72, hI72, ?_⟩
      refine w_aload_nR (x := 0) (n := 76) rfl rfl rfl ?_
      refine w_getR (b := 47) (n := 79) rfl rfl rfl rfl rfl ?_
      refine w_iload (n := 81) rfl rfl rfl ?_
      refine w_iconst (v := 4) (n := 82) rfl rfl rfl ?_
      refine w_callv (as := [.ref 47, .int (I46 25 x3.toNatClampNeg), .int 4]) (rest := []) (n := 85) rfl rfl rfl rfl ?_
      obtain ⟨I82, hI82, H⟩ := H
      refine ⟨I82, hI82, ?_⟩
      refine w_iload (n := 87) rfl rfl rfl ?_
      refine w_bipush (v := 14) (n := 89) rfl rfl rfl ?_
      refine w_icmp_ne (n := 92) rfl rfl ⟨fun hc => ?_, fun hc => ?_⟩
      · replace H := H.1 hc
        refine w_iload (n := 124) rfl rfl rfl ?_
        refine w_bipush (v := 14) (n := 126) rfl rfl rfl ?_
        refine w_icmp_ge (n := 129) rfl rfl ⟨fun hc => ?_, fun hc => ?_⟩
        · replace H := H.1 hc
          refine w_iload (n := 140) rfl rfl rfl ?_
          refine w_istore_n (ls' := [some (.ref 0), some (.ref 22), some (.int r46), some (.int x3), some (.int r46), some (.int (I46 25 x3.toNatClampNeg))]) (n := 141) rfl rfl rfl rfl ?_
          refine w_iinc (y := x3 + 1) (ls' := [some (.ref 0), some (.ref 22), some (.int r46), some (.int (x3 + 1)), some (.int r46), some (.int (I46 25 x3.toNatClampNeg))]) (n := 144) rfl rfl rfl rfl rfl ?_
          refine w_goto rfl ?_
          exact w_drp mm_Qf_v H (lb_s (lb_s (lb_s (lb_s (lb_n (lb_n lb_e))))))
        · replace H := H.2 hc
          refine w_aload_nR (x := 0) (n := 130) rfl rfl rfl ?_
          refine w_iload_n (n := 131) rfl rfl rfl ?_
          refine w_iload (n := 133) rfl rfl rfl ?_
          refine w_iload (n := 135) rfl rfl rfl ?_
          refine w_callv (as := [.ref 0, .int x2, .int r46, .int (I46 25 x3.toNatClampNeg)]) (rest := []) (n := 138) rfl rfl rfl rfl ?_
          obtain ⟨I135, hI135, H⟩ := H
          refine ⟨I135, hI135, ?_⟩
          refine w_iload (n := 140) rfl rfl rfl ?_
          refine w_istore_n (ls' := [some (.ref 0), some (.ref 22), some (.int r46), some (.int x3), some (.int r46), some (.int (I46 25 x3.toNatClampNeg))]) (n := 141) rfl rfl rfl rfl ?_
          refine w_iinc (y := x3 + 1) (ls' := [some (.ref 0), some (.ref 22), some (.int r46), some (.int (x3 + 1)), some (.int r46), some (.int (I46 25 x3.toNatClampNeg))]) (n := 144) rfl rfl rfl rfl rfl ?_
          refine w_goto rfl ?_
          exact w_drp mm_Qf_v H (lb_s (lb_s (lb_s (lb_s (lb_n (lb_n lb_e))))))
      · replace H := H.2 hc
        refine w_aload_nR (x := 0) (n := 93) rfl rfl rfl ?_
        refine w_getR (b := 47) (n := 96) rfl rfl rfl rfl rfl ?_
        refine w_aload_nR (x := 22) (n := 97) rfl rfl rfl ?_
        refine w_getR (b := 26) (n := 100) rfl rfl rfl rfl rfl ?_
        refine w_iload_n (n := 101) rfl rfl rfl ?_
        refine w_iaload (N := 8) (j := x3.toNatClampNeg) (n := 102) rfl rfl rfl rfl rfl rfl ⟨H.1, ?_⟩
        replace H := H.2
        refine w_iconst (v := 5) (n := 103) rfl rfl rfl ?_
        refine w_callv (as := [.ref 47, .int (I82 26 x3.toNatClampNeg), .int 5]) (rest := []) (n := 106) rfl rfl rfl rfl ?_
        obtain ⟨I103, hI103, H⟩ := H
        refine ⟨I103, hI103, ?_⟩
        refine w_aload_nR (x := 0) (n := 107) rfl rfl rfl ?_
        refine w_iload_n (n := 108) rfl rfl rfl ?_
        refine w_iload (n := 110) rfl rfl rfl ?_
        refine w_aload_nR (x := 22) (n := 111) rfl rfl rfl ?_
        refine w_getR (b := 26) (n := 114) rfl rfl rfl rfl rfl ?_
        refine w_iload_n (n := 115) rfl rfl rfl ?_
        refine w_iaload (N := 8) (j := x3.toNatClampNeg) (n := 116) rfl rfl rfl rfl rfl rfl ⟨H.1, ?_⟩
        replace H := H.2
        refine w_callv (as := [.ref 0, .int x2, .int r46, .int (I103 26 x3.toNatClampNeg)]) (rest := []) (n := 119) rfl rfl rfl rfl ?_
        obtain ⟨I116, hI116, H⟩ := H
        refine ⟨I116, hI116, ?_⟩
        refine w_goto rfl ?_
        refine w_iload (n := 140) rfl rfl rfl ?_
        refine w_istore_n (ls' := [some (.ref 0), some (.ref 22), some (.int r46), some (.int x3), some (.int r46), some (.int (I46 25 x3.toNatClampNeg))]) (n := 141) rfl rfl rfl rfl ?_
        refine w_iinc (y := x3 + 1) (ls' := [some (.ref 0), some (.ref 22), some (.int r46), some (.int (x3 + 1)), some (.int r46), some (.int (I46 25 x3.toNatClampNeg))]) (n := 144) rfl rfl rfl rfl rfl ?_
        refine w_goto rfl ?_
        exact w_drp mm_Qf_v H (lb_s (lb_s (lb_s (lb_s (lb_n (lb_n lb_e))))))
  · refine w_iload_n (n := 21) rfl rfl rfl ?_
    refine w_aload_nR (x := 28) (n := 22) rfl rfl rfl ?_
    refine w_getI (n := 25) rfl rfl rfl rfl ?_
    refine w_icmp_ge (n := 28) rfl rfl ⟨fun hc => ?_, fun hc => ?_⟩
    · replace H := H.1 hc
      exact w_vreturn rfl rfl H
    · replace H := H.2 hc
      refine w_aload_nR (x := 0) (n := 29) rfl rfl rfl ?_
      refine w_getR (b := 11) (n := 32) rfl rfl rfl rfl rfl ?_
      refine w_getI (n := 35) rfl rfl rfl rfl ?_
      refine w_iload_n (n := 36) rfl rfl rfl ?_
      refine w_aload_nR (x := 28) (n := 37) rfl rfl rfl ?_
      refine w_getR (b := 30) (n := 40) rfl rfl rfl rfl rfl ?_
      refine w_iload_n (n := 41) rfl rfl rfl ?_
      refine w_iaload (N := 8) (j := x3.toNatClampNeg) (n := 42) rfl rfl rfl rfl rfl rfl ⟨H.1, ?_⟩
      replace H := H.2
      refine w_bipush (v := 8) (n := 44) rfl rfl rfl ?_
      refine w_imul (n := 45) rfl rfl ?_
      refine w_iadd (n := 46) rfl rfl ?_
      refine w_calli (as := [.int (I 11 1), .int (x2 + ((I 30 x3.toNatClampNeg) * 8))]) (rest := []) (n := 49) rfl rfl rfl rfl ?_
      obtain ⟨r46, I46, hI46, H⟩ := H
      refine ⟨r46, I46, hI46, ?_⟩
      refine w_istore (ls' := [some (.ref 0), some (.ref 28), some (.int x2), some (.int x3), some (.int r46), none]) (n := 51) rfl rfl rfl rfl ?_
      refine w_aload_nR (x := 28) (n := 52) rfl rfl rfl ?_
      refine w_getR (b := 31) (n := 55) rfl rfl rfl rfl rfl ?_
      refine w_iload_n (n := 56) rfl rfl rfl ?_
      refine w_iaload (N := 8) (j := x3.toNatClampNeg) (n := 57) rfl rfl rfl rfl rfl rfl ⟨H.1, ?_⟩
      replace H := H.2
      refine w_istore (ls' := [some (.ref 0), some (.ref 28), some (.int x2), some (.int x3), some (.int r46), some (.int (I46 31 x3.toNatClampNeg))]) (n := 59) rfl rfl rfl rfl ?_
      refine w_aload_nR (x := 0) (n := 60) rfl rfl rfl ?_
      refine w_getR (b := 47) (n := 63) rfl rfl rfl rfl rfl ?_
      refine w_aload_nR (x := 28) (n := 64) rfl rfl rfl ?_
      refine w_getR (b := 30) (n := 67) rfl rfl rfl rfl rfl ?_
      refine w_iload_n (n := 68) rfl rfl rfl ?_
      refine w_iaload (N := 8) (j := x3.toNatClampNeg) (n := 69) rfl rfl rfl rfl rfl rfl ⟨H.1, ?_⟩
      replace H := H.2
      refine w_iconst (v := 1) (n := 70) rfl rfl rfl ?_
      refine w_isub (n := 71) rfl rfl ?_
      refine w_iconst (v := 3) (n := 72) rfl rfl rfl ?_
      refine w_callv (as := [.ref 47, .int ((I46 30 x3.toNatClampNeg) - 1), .int 3]) (rest := []) (n := 75) rfl rfl rfl rfl ?_
      obtain ⟨I72, hI72, H⟩ := H
      refine ⟨I72, hI72, ?_⟩
      refine w_aload_nR (x := 0) (n := 76) rfl rfl rfl ?_
      refine w_getR (b := 47) (n := 79) rfl rfl rfl rfl rfl ?_
      refine w_iload (n := 81) rfl rfl rfl ?_
      refine w_iconst (v := 4) (n := 82) rfl rfl rfl ?_
      refine w_callv (as := [.ref 47, .int (I46 31 x3.toNatClampNeg), .int 4]) (rest := []) (n := 85) rfl rfl rfl rfl ?_
      obtain ⟨I82, hI82, H⟩ := H
      refine ⟨I82, hI82, ?_⟩
      refine w_iload (n := 87) rfl rfl rfl ?_
      refine w_bipush (v := 14) (n := 89) rfl rfl rfl ?_
      refine w_icmp_ne (n := 92) rfl rfl ⟨fun hc => ?_, fun hc => ?_⟩
      · replace H := H.1 hc
        refine w_iload (n := 124) rfl rfl rfl ?_
        refine w_bipush (v := 14) (n := 126) rfl rfl rfl ?_
        refine w_icmp_ge (n := 129) rfl rfl ⟨fun hc => ?_, fun hc => ?_⟩
        · replace H := H.1 hc
          refine w_iload (n := 140) rfl rfl rfl ?_
          refine w_istore_n (ls' := [some (.ref 0), some (.ref 28), some (.int r46), some (.int x3), some (.int r46), some (.int (I46 31 x3.toNatClampNeg))]) (n := 141) rfl rfl rfl rfl ?_
          refine w_iinc (y := x3 + 1) (ls' := [some (.ref 0), some (.ref 28), some (.int r46), some (.int (x3 + 1)), some (.int r46), some (.int (I46 31 x3.toNatClampNeg))]) (n := 144) rfl rfl rfl rfl rfl ?_
          refine w_goto rfl ?_
          exact w_drp mm_Qf_v H (lb_s (lb_s (lb_s (lb_s (lb_n (lb_n lb_e))))))
        · replace H := H.2 hc
          refine w_aload_nR (x := 0) (n := 130) rfl rfl rfl ?_
          refine w_iload_n (n := 131) rfl rfl rfl ?_
          refine w_iload (n := 133) rfl rfl rfl ?_
          refine w_iload (n := 135) rfl rfl rfl ?_
          refine w_callv (as := [.ref 0, .int x2, .int r46, .int (I46 31 x3.toNatClampNeg)]) (rest := []) (n := 138) rfl rfl rfl rfl ?_
          obtain ⟨I135, hI135, H⟩ := H
          refine ⟨I135, hI135, ?_⟩
          refine w_iload (n := 140) rfl rfl rfl ?_
          refine w_istore_n (ls' := [some (.ref 0), some (.ref 28), some (.int r46), some (.int x3), some (.int r46), some (.int (I46 31 x3.toNatClampNeg))]) (n := 141) rfl rfl rfl rfl ?_
          refine w_iinc (y := x3 + 1) (ls' := [some (.ref 0), some (.ref 28), some (.int r46), some (.int (x3 + 1)), some (.int r46), some (.int (I46 31 x3.toNatClampNeg))]) (n := 144) rfl rfl rfl rfl rfl ?_
          refine w_goto rfl ?_
          exact w_drp mm_Qf_v H (lb_s (lb_s (lb_s (lb_s (lb_n (lb_n lb_e))))))
      · replace H := H.2 hc
        refine w_aload_nR (x := 0) (n := 93) rfl rfl rfl ?_
        refine w_getR (b := 47) (n := 96) rfl rfl rfl rfl rfl ?_
        refine w_aload_nR (x := 28) (n := 97) rfl rfl rfl ?_
        refine w_getR (b := 32) (n := 100) rfl rfl rfl rfl rfl ?_
        refine w_iload_n (n := 101) rfl rfl rfl ?_
        refine w_iaload (N := 8) (j := x3.toNatClampNeg) (n := 102) rfl rfl rfl rfl rfl rfl ⟨H.1, ?_⟩
        replace H := H.2
        refine w_iconst (v := 5) (n := 103) rfl rfl rfl ?_
        refine w_callv (as := [.ref 47, .int (I82 32 x3.toNatClampNeg), .int 5]) (rest := []) (n := 106) rfl rfl rfl rfl ?_
        obtain ⟨I103, hI103, H⟩ := H
        refine ⟨I103, hI103, ?_⟩
        refine w_aload_nR (x := 0) (n := 107) rfl rfl rfl ?_
        refine w_iload_n (n := 108) rfl rfl rfl ?_
        refine w_iload (n := 110) rfl rfl rfl ?_
        refine w_aload_nR (x := 28) (n := 111) rfl rfl rfl ?_
        refine w_getR (b := 32) (n := 114) rfl rfl rfl rfl rfl ?_
        refine w_iload_n (n := 115) rfl rfl rfl ?_
        refine w_iaload (N := 8) (j := x3.toNatClampNeg) (n := 116) rfl rfl rfl rfl rfl rfl ⟨H.1, ?_⟩
        replace H := H.2
        refine w_callv (as := [.ref 0, .int x2, .int r46, .int (I103 32 x3.toNatClampNeg)]) (rest := []) (n := 119) rfl rfl rfl rfl ?_
        obtain ⟨I116, hI116, H⟩ := H
        refine ⟨I116, hI116, ?_⟩
        refine w_goto rfl ?_
        refine w_iload (n := 140) rfl rfl rfl ?_
        refine w_istore_n (ls' := [some (.ref 0), some (.ref 28), some (.int r46), some (.int x3), some (.int r46), some (.int (I46 31 x3.toNatClampNeg))]) (n := 141) rfl rfl rfl rfl ?_
        refine w_iinc (y := x3 + 1) (ls' := [some (.ref 0), some (.ref 28), some (.int r46), some (.int (x3 + 1)), some (.int r46), some (.int (I46 31 x3.toNatClampNeg))]) (n := 144) rfl rfl rfl rfl rfl ?_
        refine w_goto rfl ?_
        exact w_drp mm_Qf_v H (lb_s (lb_s (lb_s (lb_s (lb_n (lb_n lb_e))))))
  · refine w_iload_n (n := 21) rfl rfl rfl ?_
    refine w_aload_nR (x := 34) (n := 22) rfl rfl rfl ?_
    refine w_getI (n := 25) rfl rfl rfl rfl ?_
    refine w_icmp_ge (n := 28) rfl rfl ⟨fun hc => ?_, fun hc => ?_⟩
    · replace H := H.1 hc
      exact w_vreturn rfl rfl H
    · replace H := H.2 hc
      refine w_aload_nR (x := 0) (n := 29) rfl rfl rfl ?_
      refine w_getR (b := 11) (n := 32) rfl rfl rfl rfl rfl ?_
      refine w_getI (n := 35) rfl rfl rfl rfl ?_
      refine w_iload_n (n := 36) rfl rfl rfl ?_
      refine w_aload_nR (x := 34) (n := 37) rfl rfl rfl ?_
      refine w_getR (b := 36) (n := 40) rfl rfl rfl rfl rfl ?_
      refine w_iload_n (n := 41) rfl rfl rfl ?_
      refine w_iaload (N := 8) (j := x3.toNatClampNeg) (n := 42) rfl rfl rfl rfl rfl rfl ⟨H.1, ?_⟩
      replace H := H.2
      refine w_bipush (v := 8) (n := 44) rfl rfl rfl ?_
      refine w_imul (n := 45) rfl rfl ?_
      refine w_iadd (n := 46) rfl rfl ?_
      refine w_calli (as := [.int (I 11 1), .int (x2 + ((I 36 x3.toNatClampNeg) * 8))]) (rest := []) (n := 49) rfl rfl rfl rfl ?_
      obtain ⟨r46, I46, hI46, H⟩ := H
      refine ⟨r46, I46, hI46, ?_⟩
      refine w_istore (ls' := [some (.ref 0), some (.ref 34), some (.int x2), some (.int x3), some (.int r46), none]) (n := 51) rfl rfl rfl rfl ?_
      refine w_aload_nR (x := 34) (n := 52) rfl rfl rfl ?_
      refine w_getR (b := 37) (n := 55) rfl rfl rfl rfl rfl ?_
      refine w_iload_n (n := 56) rfl rfl rfl ?_
      refine w_iaload (N := 8) (j := x3.toNatClampNeg) (n := 57) rfl rfl rfl rfl rfl rfl ⟨H.1, ?_⟩
      replace H := H.2
      refine w_istore (ls' := [some (.ref 0), some (.ref 34), some (.int x2), some (.int x3), some (.int r46), some (.int (I46 37 x3.toNatClampNeg))]) (n := 59) rfl rfl rfl rfl ?_
      refine w_aload_nR (x := 0) (n := 60) rfl rfl rfl ?_
      refine w_getR (b := 47) (n := 63) rfl rfl rfl rfl rfl ?_
      refine w_aload_nR (x := 34) (n := 64) rfl rfl rfl ?_
      refine w_getR (b := 36) (n := 67) rfl rfl rfl rfl rfl ?_
      refine w_iload_n (n := 68) rfl rfl rfl ?_
      refine w_iaload (N := 8) (j := x3.toNatClampNeg) (n := 69) rfl rfl rfl rfl rfl rfl ⟨H.1, ?_⟩
      replace H := H.2
      refine w_iconst (v := 1) (n := 70) rfl rfl rfl ?_
      refine w_isub (n := 71) rfl rfl ?_
      refine w_iconst (v := 3) (n := 72) rfl rfl rfl ?_
      refine w_callv (as := [.ref 47, .int ((I46 36 x3.toNatClampNeg) - 1), .int 3]) (rest := []) (n := 75) rfl rfl rfl rfl ?_
      obtain ⟨I72, hI72, H⟩ := H
      refine ⟨I72, hI72, ?_⟩
      refine w_aload_nR (x := 0) (n := 76) rfl rfl rfl ?_
      refine w_getR (b := 47) (n := 79) rfl rfl rfl rfl rfl ?_
      refine w_iload (n := 81) rfl rfl rfl ?_
      refine w_iconst (v := 4) (n := 82) rfl rfl rfl ?_
      refine w_callv (as := [.ref 47, .int (I46 37 x3.toNatClampNeg), .int 4]) (rest := []) (n := 85) rfl rfl rfl rfl ?_
      obtain ⟨I82, hI82, H⟩ := H
      refine ⟨I82, hI82, ?_⟩
      refine w_iload (n := 87) rfl rfl rfl ?_
      refine w_bipush (v := 14) (n := 89) rfl rfl rfl ?_
      refine w_icmp_ne (n := 92) rfl rfl ⟨fun hc => ?_, fun hc => ?_⟩
      · replace H := H.1 hc
        refine w_iload (n := 124) rfl rfl rfl ?_
        refine w_bipush (v := 14) (n := 126) rfl rfl rfl ?_
        refine w_icmp_ge (n := 129) rfl rfl ⟨fun hc => ?_, fun hc => ?_⟩
        · replace H := H.1 hc
          refine w_iload (n := 140) rfl rfl rfl ?_
          refine w_istore_n (ls' := [some (.ref 0), some (.ref 34), some (.int r46), some (.int x3), some (.int r46), some (.int (I46 37 x3.toNatClampNeg))]) (n := 141) rfl rfl rfl rfl ?_
          refine w_iinc (y := x3 + 1) (ls' := [some (.ref 0), some (.ref 34), some (.int r46), some (.int (x3 + 1)), some (.int r46), some (.int (I46 37 x3.toNatClampNeg))]) (n := 144) rfl rfl rfl rfl rfl ?_
          refine w_goto rfl ?_
          exact w_drp mm_Qf_v H (lb_s (lb_s (lb_s (lb_s (lb_n (lb_n lb_e))))))
        · replace H := H.2 hc
          refine w_aload_nR (x := 0) (n := 130) rfl rfl rfl ?_
          refine w_iload_n (n := 131) rfl rfl rfl ?_
          refine w_iload (n := 133) rfl rfl rfl ?_
          refine w_iload (n := 135) rfl rfl rfl ?_
          refine w_callv (as := [.ref 0, .int x2, .int r46, .int (I46 37 x3.toNatClampNeg)]) (rest := []) (n := 138) rfl rfl rfl rfl ?_
          obtain ⟨I135, hI135, H⟩ := H
          refine ⟨I135, hI135, ?_⟩
          refine w_iload (n := 140) rfl rfl rfl ?_
          refine w_istore_n (ls' := [some (.ref 0), some (.ref 34), some (.int r46), some (.int x3), some (.int r46), some (.int (I46 37 x3.toNatClampNeg))]) (n := 141) rfl rfl rfl rfl ?_
          refine w_iinc (y := x3 + 1) (ls' := [some (.ref 0), some (.ref 34), some (.int r46), some (.int (x3 + 1)), some (.int r46), some (.int (I46 37 x3.toNatClampNeg))]) (n := 144) rfl rfl rfl rfl rfl ?_
          refine w_goto rfl ?_
          exact w_drp mm_Qf_v H (lb_s (lb_s (lb_s (lb_s (lb_n (lb_n lb_e))))))
      · replace H := H.2 hc
        refine w_aload_nR (x := 0) (n := 93) rfl rfl rfl ?_
        refine w_getR (b := 47) (n := 96) rfl rfl rfl rfl rfl ?_
        refine w_aload_nR (x := 34) (n := 97) rfl rfl rfl ?_
        refine w_getR (b := 38) (n := 100) rfl rfl rfl rfl rfl ?_
        refine w_iload_n (n := 101) rfl rfl rfl ?_
        refine w_iaload (N := 8) (j := x3.toNatClampNeg) (n := 102) rfl rfl rfl rfl rfl rfl ⟨H.1, ?_⟩
        replace H := H.2
        refine w_iconst (v := 5) (n := 103) rfl rfl rfl ?_
        refine w_callv (as := [.ref 47, .int (I82 38 x3.toNatClampNeg), .int 5]) (rest := []) (n := 106) rfl rfl rfl rfl ?_
        obtain ⟨I103, hI103, H⟩ := H
        refine ⟨I103, hI103, ?_⟩
        refine w_aload_nR (x := 0) (n := 107) rfl rfl rfl ?_
        refine w_iload_n (n := 108) rfl rfl rfl ?_
        refine w_iload (n := 110) rfl rfl rfl ?_
        refine w_aload_nR (x := 34) (n := 111) rfl rfl rfl ?_
        refine w_getR (b := 38) (n := 114) rfl rfl rfl rfl rfl ?_
        refine w_iload_n (n := 115) rfl rfl rfl ?_
        refine w_iaload (N := 8) (j := x3.toNatClampNeg) (n := 116) rfl rfl rfl rfl rfl rfl ⟨H.1, ?_⟩
        replace H := H.2
        refine w_callv (as := [.ref 0, .int x2, .int r46, .int (I103 38 x3.toNatClampNeg)]) (rest := []) (n := 119) rfl rfl rfl rfl ?_
        obtain ⟨I116, hI116, H⟩ := H
        refine ⟨I116, hI116, ?_⟩
        refine w_goto rfl ?_
        refine w_iload (n := 140) rfl rfl rfl ?_
        refine w_istore_n (ls' := [some (.ref 0), some (.ref 34), some (.int r46), some (.int x3), some (.int r46), some (.int (I46 37 x3.toNatClampNeg))]) (n := 141) rfl rfl rfl rfl ?_
        refine w_iinc (y := x3 + 1) (ls' := [some (.ref 0), some (.ref 34), some (.int r46), some (.int (x3 + 1)), some (.int r46), some (.int (I46 37 x3.toNatClampNeg))]) (n := 144) rfl rfl rfl rfl rfl ?_
        refine w_goto rfl ?_
        exact w_drp mm_Qf_v H (lb_s (lb_s (lb_s (lb_s (lb_n (lb_n lb_e))))))
  · refine w_iload_n (n := 21) rfl rfl rfl ?_
    refine w_aload_nR (x := 40) (n := 22) rfl rfl rfl ?_
    refine w_getI (n := 25) rfl rfl rfl rfl ?_
    refine w_icmp_ge (n := 28) rfl rfl ⟨fun hc => ?_, fun hc => ?_⟩
    · replace H := H.1 hc
      exact w_vreturn rfl rfl H
    · replace H := H.2 hc
      refine w_aload_nR (x := 0) (n := 29) rfl rfl rfl ?_
      refine w_getR (b := 11) (n := 32) rfl rfl rfl rfl rfl ?_
      refine w_getI (n := 35) rfl rfl rfl rfl ?_
      refine w_iload_n (n := 36) rfl rfl rfl ?_
      refine w_aload_nR (x := 40) (n := 37) rfl rfl rfl ?_
      refine w_getR (b := 42) (n := 40) rfl rfl rfl rfl rfl ?_
      refine w_iload_n (n := 41) rfl rfl rfl ?_
      refine w_iaload (N := 8) (j := x3.toNatClampNeg) (n := 42) rfl rfl rfl rfl rfl rfl ⟨H.1, ?_⟩
      replace H := H.2
      refine w_bipush (v := 8) (n := 44) rfl rfl rfl ?_
      refine w_imul (n := 45) rfl rfl ?_
      refine w_iadd (n := 46) rfl rfl ?_
      refine w_calli (as := [.int (I 11 1), .int (x2 + ((I 42 x3.toNatClampNeg) * 8))]) (rest := []) (n := 49) rfl rfl rfl rfl ?_
      obtain ⟨r46, I46, hI46, H⟩ := H
      refine ⟨r46, I46, hI46, ?_⟩
      refine w_istore (ls' := [some (.ref 0), some (.ref 40), some (.int x2), some (.int x3), some (.int r46), none]) (n := 51) rfl rfl rfl rfl ?_
      refine w_aload_nR (x := 40) (n := 52) rfl rfl rfl ?_
      refine w_getR (b := 43) (n := 55) rfl rfl rfl rfl rfl ?_
      refine w_iload_n (n := 56) rfl rfl rfl ?_
      refine w_iaload (N := 8) (j := x3.toNatClampNeg) (n := 57) rfl rfl rfl rfl rfl rfl ⟨H.1, ?_⟩
      replace H := H.2
      refine w_istore (ls' := [some (.ref 0), some (.ref 40), some (.int x2), some (.int x3), some (.int r46), some (.int (I46 43 x3.toNatClampNeg))]) (n := 59) rfl rfl rfl rfl ?_
      refine w_aload_nR (x := 0) (n := 60) rfl rfl rfl ?_
      refine w_getR (b := 47) (n := 63) rfl rfl rfl rfl rfl ?_
      refine w_aload_nR (x := 40) (n := 64) rfl rfl rfl ?_
      refine w_getR (b := 42) (n := 67) rfl rfl rfl rfl rfl ?_
      refine w_iload_n (n := 68) rfl rfl rfl ?_
      refine w_iaload (N := 8) (j := x3.toNatClampNeg) (n := 69) rfl rfl rfl rfl rfl rfl ⟨H.1, ?_⟩
      replace H := H.2
      refine w_iconst (v := 1) (n := 70) rfl rfl rfl ?_
      refine w_isub (n := 71) rfl rfl ?_
      refine w_iconst (v := 3) (n := 72) rfl rfl rfl ?_
      refine w_callv (as := [.ref 47, .int ((I46 42 x3.toNatClampNeg) - 1), .int 3]) (rest := []) (n := 75) rfl rfl rfl rfl ?_
      obtain ⟨I72, hI72, H⟩ := H
      refine ⟨I72, hI72, ?_⟩
      refine w_aload_nR (x := 0) (n := 76) rfl rfl rfl ?_
      refine w_getR (b := 47) (n := 79) rfl rfl rfl rfl rfl ?_
      refine w_iload (n := 81) rfl rfl rfl ?_
      refine w_iconst (v := 4) (n := 82) rfl rfl rfl ?_
      refine w_callv (as := [.ref 47, .int (I46 43 x3.toNatClampNeg), .int 4]) (rest := []) (n := 85) rfl rfl rfl rfl ?_
      obtain ⟨I82, hI82, H⟩ := H
      refine ⟨I82, hI82, ?_⟩
      refine w_iload (n := 87) rfl rfl rfl ?_
      refine w_bipush (v := 14) (n := 89) rfl rfl rfl ?_
      refine w_icmp_ne (n := 92) rfl rfl ⟨fun hc => ?_, fun hc => ?_⟩
      · replace H := H.1 hc
        refine w_iload (n := 124) rfl rfl rfl ?_
        refine w_bipush (v := 14) (n := 126) rfl rfl rfl ?_
        refine w_icmp_ge (n := 129) rfl rfl ⟨fun hc => ?_, fun hc => ?_⟩
        · replace H := H.1 hc
          refine w_iload (n := 140) rfl rfl rfl ?_
          refine w_istore_n (ls' := [some (.ref 0), some (.ref 40), some (.int r46), some (.int x3), some (.int r46), some (.int (I46 43 x3.toNatClampNeg))]) (n := 141) rfl rfl rfl rfl ?_
          refine w_iinc (y := x3 + 1) (ls' := [some (.ref 0), some (.ref 40), some (.int r46), some (.int (x3 + 1)), some (.int r46), some (.int (I46 43 x3.toNatClampNeg))]) (n := 144) rfl rfl rfl rfl rfl ?_
          refine w_goto rfl ?_
          exact w_drp mm_Qf_v H (lb_s (lb_s (lb_s (lb_s (lb_n (lb_n lb_e))))))
        · replace H := H.2 hc
          refine w_aload_nR (x := 0) (n := 130) rfl rfl rfl ?_
          refine w_iload_n (n := 131) rfl rfl rfl ?_
          refine w_iload (n := 133) rfl rfl rfl ?_
          refine w_iload (n := 135) rfl rfl rfl ?_
          refine w_callv (as := [.ref 0, .int x2, .int r46, .int (I46 43 x3.toNatClampNeg)]) (rest := []) (n := 138) rfl rfl rfl rfl ?_
          obtain ⟨I135, hI135, H⟩ := H
          refine ⟨I135, hI135, ?_⟩
          refine w_iload (n := 140) rfl rfl rfl ?_
          refine w_istore_n (ls' := [some (.ref 0), some (.ref 40), some (.int r46), some (.int x3), some (.int r46), some (.int (I46 43 x3.toNatClampNeg))]) (n := 141) rfl rfl rfl rfl ?_
          refine w_iinc (y := x3 + 1) (ls' := [some (.ref 0), some (.ref 40), some (.int r46), some (.int (x3 + 1)), some (.int r46), some (.int (I46 43 x3.toNatClampNeg))]) (n := 144) rfl rfl rfl rfl rfl ?_
          refine w_goto rfl ?_
          exact w_drp mm_Qf_v H (lb_s (lb_s (lb_s (lb_s (lb_n (lb_n lb_e))))))
      · replace H := H.2 hc
        refine w_aload_nR (x := 0) (n := 93) rfl rfl rfl ?_
        refine w_getR (b := 47) (n := 96) rfl rfl rfl rfl rfl ?_
        refine w_aload_nR (x := 40) (n := 97) rfl rfl rfl ?_
        refine w_getR (b := 44) (n := 100) rfl rfl rfl rfl rfl ?_
        refine w_iload_n (n := 101) rfl rfl rfl ?_
        refine w_iaload (N := 8) (j := x3.toNatClampNeg) (n := 102) rfl rfl rfl rfl rfl rfl ⟨H.1, ?_⟩
        replace H := H.2
        refine w_iconst (v := 5) (n := 103) rfl rfl rfl ?_
        refine w_callv (as := [.ref 47, .int (I82 44 x3.toNatClampNeg), .int 5]) (rest := []) (n := 106) rfl rfl rfl rfl ?_
        obtain ⟨I103, hI103, H⟩ := H
        refine ⟨I103, hI103, ?_⟩
        refine w_aload_nR (x := 0) (n := 107) rfl rfl rfl ?_
        refine w_iload_n (n := 108) rfl rfl rfl ?_
        refine w_iload (n := 110) rfl rfl rfl ?_
        refine w_aload_nR (x := 40) (n := 111) rfl rfl rfl ?_
        refine w_getR (b := 44) (n := 114) rfl rfl rfl rfl rfl ?_
        refine w_iload_n (n := 115) rfl rfl rfl ?_
        refine w_iaload (N := 8) (j := x3.toNatClampNeg) (n := 116) rfl rfl rfl rfl rfl rfl ⟨H.1, ?_⟩
        replace H := H.2
        refine w_callv (as := [.ref 0, .int x2, .int r46, .int (I103 44 x3.toNatClampNeg)]) (rest := []) (n := 119) rfl rfl rfl rfl ?_
        obtain ⟨I116, hI116, H⟩ := H
        refine ⟨I116, hI116, ?_⟩
        refine w_goto rfl ?_
        refine w_iload (n := 140) rfl rfl rfl ?_
        refine w_istore_n (ls' := [some (.ref 0), some (.ref 40), some (.int r46), some (.int x3), some (.int r46), some (.int (I46 43 x3.toNatClampNeg))]) (n := 141) rfl rfl rfl rfl ?_
        refine w_iinc (y := x3 + 1) (ls' := [some (.ref 0), some (.ref 40), some (.int r46), some (.int (x3 + 1)), some (.int r46), some (.int (I46 43 x3.toNatClampNeg))]) (n := 144) rfl rfl rfl rfl rfl ?_
        refine w_goto rfl ?_
        exact w_drp mm_Qf_v H (lb_s (lb_s (lb_s (lb_s (lb_n (lb_n lb_e))))))
theorem e_WS_writeFixed {P : mm_I → Prop} {I : mm_I} (x1 : Int32) (x2 : Int32) (x3 : Int32)
  (H : mm_W 100 3 [some (.ref 0), none, some (.int x2), some (.int x3), some (.int x1)] [] I (mm_qv 100 P)) : mm_Mv 100 [.ref 0, .int x1, .int x2, .int x3] I P := by
  refine mm_Mv_of ?_
  show mm_W 100 0 [some (.ref 0), some (.int x1), some (.int x2), some (.int x3), none] [] I (mm_qv 100 P)
  refine w_iload_n (n := 1) rfl rfl rfl ?_
  refine w_istore (ls' := [some (.ref 0), some (.int x1), some (.int x2), some (.int x3), some (.int x1)]) (n := 3) rfl rfl rfl rfl ?_
  exact w_drp mm_Qf_v H (lb_s (lb_n (lb_s (lb_s (lb_s lb_e)))))
theorem c_WS_writeFixed_3 {P : mm_I → Prop} {I : mm_I} (x2 : Int32) (x3 : Int32) (x4 : Int32)
  (H : (x2 ≤ x4 →
      P I) ∧
    (x4 < x2 →
      vp_in x4 64 ∧
      mm_Mv 59 [.ref 47, .int (I 12 x4.toNatClampNeg), .int x3] I (fun I24 =>  -- Store.putBits
      mm_W 100 3 [some (.ref 0), none, some (.int x2), some (.int x3), some (.int (x4 + 1))] [] I24 (mm_qv 100 P)))) : mm_W 100 3 [some (.ref 0), none, some (.int x2), some (.int x3), some (.int x4)] [] I (mm_qv 100 P) := by
  refine w_iload (n := 5) rfl rfl rfl ?_
  refine w_iload_n (n := 6) rfl rfl rfl ?_
  refine w_icmp_ge (n := 9) rfl rfl ⟨fun hc => ?_, fun hc => ?_⟩
  · replace H := H.1 hc
    exact w_vreturn rfl rfl H
  · replace H := H.2 hc
    refine w_aload_nR (x := 0) (n := 10) rfl rfl rfl ?_
    refine w_getR (b := 47) (n := 13) rfl rfl rfl rfl rfl ?_
    refine w_aload_nR (x := 0) (n := 14) rfl rfl rfl ?_
    refine w_getR (b := 11) (n := 17) rfl rfl rfl rfl rfl ?_
    refine w_getR (b := 12) (n := 20) rfl rfl rfl rfl rfl ?_
    refine w_iload (n := 22) rfl rfl rfl ?_
    refine w_iaload (N := 64) (j := x4.toNatClampNeg) (n := 23) rfl rfl rfl rfl rfl rfl ⟨H.1, ?_⟩
    replace H := H.2
    refine w_iload_n (n := 24) rfl rfl rfl ?_
    refine w_callv (as := [.ref 47, .int (I 12 x4.toNatClampNeg), .int x3]) (rest := []) (n := 27) rfl rfl rfl rfl ?_
    obtain ⟨I24, hI24, H⟩ := H
    refine ⟨I24, hI24, ?_⟩
    refine w_iinc (y := x4 + 1) (ls' := [some (.ref 0), none, some (.int x2), some (.int x3), some (.int (x4 + 1))]) (n := 30) rfl rfl rfl rfl rfl ?_
    refine w_goto rfl ?_
    exact w_drp mm_Qf_v H (lb_s (lb_n (lb_s (lb_s (lb_s lb_e)))))
