theorem e_WS_run {P : Int32 → mm_I → Prop} {I : mm_I} (x1 : Int32) (x2 : Int32) (x3 : Int32) (x4 : Int32)
  (H : mm_Mr 88 [.ref 0, .int x1, .int x2] I (fun r3 I3 =>  -- WS.plannedRow
    (r3 = none →
      P (-1) I3) ∧
    (∀ aa10, r3 = some aa10 → (aa10 = 22 ∨ aa10 = 28 ∨ aa10 = 34 ∨ aa10 = 40) ∧
      (x3 < 0 →
        P (-1) I3) ∧
      (0 ≤ x3 →
        (x3 < (I3 aa10 5) →
          (x4 = 0 →
            vp_in x3 8 ∧
            P (I3 (aa10 + 2) x3.toNatClampNeg) I3) ∧
          (x4 = 1 →
            vp_in x3 8 ∧
            P (I3 (aa10 + 3) x3.toNatClampNeg) I3) ∧
          (x4 = 2 →
            vp_in x3 8 ∧
            P (I3 (aa10 + 5) x3.toNatClampNeg) I3) ∧
          (¬ x4 = 0 → ¬ x4 = 1 → ¬ x4 = 2 →
            P (-1) I3)) ∧
        ((I3 aa10 5) ≤ x3 →
          P (-1) I3))))) : mm_Mi 83 [.ref 0, .int x1, .int x2, .int x3, .int x4] I P := by
  refine mm_Mi_of ?_
  show mm_W 83 0 [some (.ref 0), some (.int x1), some (.int x2), some (.int x3), some (.int x4), none] [] I (mm_qi 83 P)
  refine w_aload_nR (x := 0) (n := 1) rfl rfl rfl ?_
  refine w_iload_n (n := 2) rfl rfl rfl ?_
  refine w_iload_n (n := 3) rfl rfl rfl ?_
  refine w_callr (as := [.ref 0, .int x1, .int x2]) (rest := []) (n := 6) rfl rfl rfl rfl ?_
  obtain ⟨r3, I3, hI3, H⟩ := H
  refine ⟨r3, I3, hI3, ?_⟩
  refine w_astore (ls' := [some (.ref 0), some (.int x1), some (.int x2), some (.int x3), some (.int x4), some (va_rf r3)]) (x := r3) (n := 8) rfl rfl rfl rfl ?_
  refine w_aload (x := r3) (n := 10) rfl rfl rfl ?_
  refine w_ifnull (n := 13) rfl rfl ⟨fun hc => ?_, fun aa10 hc => ?_⟩
  · replace H := H.1 hc
    subst hc
    refine w_iconst (v := (-1)) (n := 27) rfl rfl rfl ?_
    exact w_ireturn rfl rfl H
  · have H9 := H.2 aa10 hc
    clear H
    subst hc
    obtain ⟨haa10, H⟩ := H9
    rcases haa10 with rfl | rfl | rfl | rfl
    · refine w_iload_n (n := 14) rfl rfl rfl ?_
      refine w_if_lt (n := 17) rfl rfl ⟨fun hc => ?_, fun hc => ?_⟩
      · replace H := H.1 hc
        refine w_iconst (v := (-1)) (n := 27) rfl rfl rfl ?_
        exact w_ireturn rfl rfl H
      · replace H := H.2 hc
        refine w_iload_n (n := 18) rfl rfl rfl ?_
        refine w_aloadR (x := 22) (n := 20) rfl rfl rfl ?_
        refine w_getI (n := 23) rfl rfl rfl rfl ?_
        refine w_icmp_lt (n := 26) rfl rfl ⟨fun hc => ?_, fun hc => ?_⟩
        · replace H := H.1 hc
          refine w_iload (n := 30) rfl rfl rfl ?_
          by_cases h30_0 : x4 = 0
          · replace H := H.1 h30_0
            refine w_switch (tg := 56) rfl (by rw [h30_0]; rfl) ?_
            refine w_aloadR (x := 22) (n := 58) rfl rfl rfl ?_
            refine w_getR (b := 24) (n := 61) rfl rfl rfl rfl rfl ?_
            refine w_iload_n (n := 62) rfl rfl rfl ?_
            refine w_iaload (N := 8) (j := x3.toNatClampNeg) (n := 63) rfl rfl rfl rfl rfl rfl ⟨H.1, ?_⟩
            replace H := H.2
            exact w_ireturn rfl rfl H
          by_cases h30_1 : x4 = 1
          · replace H := H.2.1 h30_1
            refine w_switch (tg := 64) rfl (by rw [h30_1]; rfl) ?_
            refine w_aloadR (x := 22) (n := 66) rfl rfl rfl ?_
            refine w_getR (b := 25) (n := 69) rfl rfl rfl rfl rfl ?_
            refine w_iload_n (n := 70) rfl rfl rfl ?_
            refine w_iaload (N := 8) (j := x3.toNatClampNeg) (n := 71) rfl rfl rfl rfl rfl rfl ⟨H.1, ?_⟩
            replace H := H.2
            exact w_ireturn rfl rfl H
          by_cases h30_2 : x4 = 2
          · replace H := H.2.2.1 h30_2
            refine w_switch (tg := 72) rfl (by rw [h30_2]; rfl) ?_
            refine w_aloadR (x := 22) (n := 74) rfl rfl rfl ?_
            refine w_getR (b := 27) (n := 77) rfl rfl rfl rfl rfl ?_
            refine w_iload_n (n := 78) rfl rfl rfl ?_
            refine w_iaload (N := 8) (j := x3.toNatClampNeg) (n := 79) rfl rfl rfl rfl rfl rfl ⟨H.1, ?_⟩
            replace H := H.2
            exact w_ireturn rfl rfl H
          replace H := H.2.2.2 h30_0 h30_1 h30_2
          refine w_switch (tg := 80) rfl (mm_sw_def (fun z z1 z2 ze => ?_) rfl) ?_
          · rcases (show z = 0 ∨ z = 1 ∨ z = 2 by omega) with rfl | rfl | rfl
            · exact h30_0 (Int32.toInt_inj.mp (by rw [ze]; rfl))
            · exact h30_1 (Int32.toInt_inj.mp (by rw [ze]; rfl))
            · exact h30_2 (Int32.toInt_inj.mp (by rw [ze]; rfl))
          refine w_iconst (v := (-1)) (n := 81) rfl rfl rfl ?_
          exact w_ireturn rfl rfl H
        · replace H := H.2 hc
          refine w_iconst (v := (-1)) (n := 27) rfl rfl rfl ?_
          exact w_ireturn rfl rfl H
    · refine w_iload_n (n := 14) rfl rfl rfl ?_
      refine w_if_lt (n := 17) rfl rfl ⟨fun hc => ?_, fun hc => ?_⟩
      · replace H := H.1 hc
        refine w_iconst (v := (-1)) (n := 27) rfl rfl rfl ?_
        exact w_ireturn rfl rfl H
      · replace H := H.2 hc
        refine w_iload_n (n := 18) rfl rfl rfl ?_
        refine w_aloadR (x := 28) (n := 20) rfl rfl rfl ?_
        refine w_getI (n := 23) rfl rfl rfl rfl ?_
        refine w_icmp_lt (n := 26) rfl rfl ⟨fun hc => ?_, fun hc => ?_⟩
        · replace H := H.1 hc
          refine w_iload (n := 30) rfl rfl rfl ?_
          by_cases h30_0 : x4 = 0
          · replace H := H.1 h30_0
            refine w_switch (tg := 56) rfl (by rw [h30_0]; rfl) ?_
            refine w_aloadR (x := 28) (n := 58) rfl rfl rfl ?_
            refine w_getR (b := 30) (n := 61) rfl rfl rfl rfl rfl ?_
            refine w_iload_n (n := 62) rfl rfl rfl ?_
            refine w_iaload (N := 8) (j := x3.toNatClampNeg) (n := 63) rfl rfl rfl rfl rfl rfl ⟨H.1, ?_⟩
            replace H := H.2
            exact w_ireturn rfl rfl H
          by_cases h30_1 : x4 = 1
          · replace H := H.2.1 h30_1
            refine w_switch (tg := 64) rfl (by rw [h30_1]; rfl) ?_
            refine w_aloadR (x := 28) (n := 66) rfl rfl rfl ?_
            refine w_getR (b := 31) (n := 69) rfl rfl rfl rfl rfl ?_
            refine w_iload_n (n := 70) rfl rfl rfl ?_
            refine w_iaload (N := 8) (j := x3.toNatClampNeg) (n := 71) rfl rfl rfl rfl rfl rfl ⟨H.1, ?_⟩
            replace H := H.2
            exact w_ireturn rfl rfl H
          by_cases h30_2 : x4 = 2
          · replace H := H.2.2.1 h30_2
            refine w_switch (tg := 72) rfl (by rw [h30_2]; rfl) ?_
            refine w_aloadR (x := 28) (n := 74) rfl rfl rfl ?_
            refine w_getR (b := 33) (n := 77) rfl rfl rfl rfl rfl ?_
            refine w_iload_n (n := 78) rfl rfl rfl ?_
            refine w_iaload (N := 8) (j := x3.toNatClampNeg) (n := 79) rfl rfl rfl rfl rfl rfl ⟨H.1, ?_⟩
            replace H := H.2
            exact w_ireturn rfl rfl H
          replace H := H.2.2.2 h30_0 h30_1 h30_2
          refine w_switch (tg := 80) rfl (mm_sw_def (fun z z1 z2 ze => ?_) rfl) ?_
          · rcases (show z = 0 ∨ z = 1 ∨ z = 2 by omega) with rfl | rfl | rfl
            · exact h30_0 (Int32.toInt_inj.mp (by rw [ze]; rfl))
            · exact h30_1 (Int32.toInt_inj.mp (by rw [ze]; rfl))
            · exact h30_2 (Int32.toInt_inj.mp (by rw [ze]; rfl))
          refine w_iconst (v := (-1)) (n := 81) rfl rfl rfl ?_
          exact w_ireturn rfl rfl H
        · replace H := H.2 hc
          refine w_iconst (v := (-1)) (n := 27) rfl rfl rfl ?_
          exact w_ireturn rfl rfl H
    · refine w_iload_n (n := 14) rfl rfl rfl ?_
      refine w_if_lt (n := 17) rfl rfl ⟨fun hc => ?_, fun hc => ?_⟩
      · replace H := H.1 hc
        refine w_iconst (v := (-1)) (n := 27) rfl rfl rfl ?_
        exact w_ireturn rfl rfl H
      · replace H := H.2 hc
        refine w_iload_n (n := 18) rfl rfl rfl ?_
        refine w_aloadR (x := 34) (n := 20) rfl rfl rfl ?_
        refine w_getI (n := 23) rfl rfl rfl rfl ?_
        refine w_icmp_lt (n := 26) rfl rfl ⟨fun hc => ?_, fun hc => ?_⟩
        · replace H := H.1 hc
          refine w_iload (n := 30) rfl rfl rfl ?_
          by_cases h30_0 : x4 = 0
          · replace H := H.1 h30_0
            refine w_switch (tg := 56) rfl (by rw [h30_0]; rfl) ?_
            refine w_aloadR (x := 34) (n := 58) rfl rfl rfl ?_
            refine w_getR (b := 36) (n := 61) rfl rfl rfl rfl rfl ?_
            refine w_iload_n (n := 62) rfl rfl rfl ?_
            refine w_iaload (N := 8) (j := x3.toNatClampNeg) (n := 63) rfl rfl rfl rfl rfl rfl ⟨H.1, ?_⟩
            replace H := H.2
            exact w_ireturn rfl rfl H
          by_cases h30_1 : x4 = 1
          · replace H := H.2.1 h30_1
            refine w_switch (tg := 64) rfl (by rw [h30_1]; rfl) ?_
            refine w_aloadR (x := 34) (n := 66) rfl rfl rfl ?_
            refine w_getR (b := 37) (n := 69) rfl rfl rfl rfl rfl ?_
            refine w_iload_n (n := 70) rfl rfl rfl ?_
            refine w_iaload (N := 8) (j := x3.toNatClampNeg) (n := 71) rfl rfl rfl rfl rfl rfl ⟨H.1, ?_⟩
            replace H := H.2
            exact w_ireturn rfl rfl H
          by_cases h30_2 : x4 = 2
          · replace H := H.2.2.1 h30_2
            refine w_switch (tg := 72) rfl (by rw [h30_2]; rfl) ?_
            refine w_aloadR (x := 34) (n := 74) rfl rfl rfl ?_
            refine w_getR (b := 39) (n := 77) rfl rfl rfl rfl rfl ?_
            refine w_iload_n (n := 78) rfl rfl rfl ?_
            refine w_iaload (N := 8) (j := x3.toNatClampNeg) (n := 79) rfl rfl rfl rfl rfl rfl ⟨H.1, ?_⟩
            replace H := H.2
            exact w_ireturn rfl rfl H
          replace H := H.2.2.2 h30_0 h30_1 h30_2
          refine w_switch (tg := 80) rfl (mm_sw_def (fun z z1 z2 ze => ?_) rfl) ?_
          · rcases (show z = 0 ∨ z = 1 ∨ z = 2 by omega) with rfl | rfl | rfl
            · exact h30_0 (Int32.toInt_inj.mp (by rw [ze]; rfl))
            · exact h30_1 (Int32.toInt_inj.mp (by rw [ze]; rfl))
            · exact h30_2 (Int32.toInt_inj.mp (by rw [ze]; rfl))
          refine w_iconst (v := (-1)) (n := 81) rfl rfl rfl ?_
          exact w_ireturn rfl rfl H
        · replace H := H.2 hc
          refine w_iconst (v := (-1)) (n := 27) rfl rfl rfl ?_
          exact w_ireturn rfl rfl H
    · refine w_iload_n (n := 14) rfl rfl rfl ?_
      refine w_if_lt (n := 17) rfl rfl ⟨fun hc => ?_, fun hc => ?_⟩
      · replace H := H.1 hc
        refine w_iconst (v := (-1)) (n := 27) rfl rfl rfl ?_
        exact w_ireturn rfl rfl H
      · replace H := H.2 hc
        refine w_iload_n (n := 18) rfl rfl rfl ?_
        refine w_aloadR (x := 40) (n := 20) rfl rfl rfl ?_
        refine w_getI (n := 23) rfl rfl rfl rfl ?_
        refine w_icmp_lt (n := 26) rfl rfl ⟨fun hc => ?_, fun hc => ?_⟩
        · replace H := H.1 hc
          refine w_iload (n := 30) rfl rfl rfl ?_
          by_cases h30_0 : x4 = 0
          · replace H := H.1 h30_0
            refine w_switch (tg := 56) rfl (by rw [h30_0]; rfl) ?_
            refine w_aloadR (x := 40) (n := 58) rfl rfl rfl ?_
            refine w_getR (b := 42) (n := 61) rfl rfl rfl rfl rfl ?_
            refine w_iload_n (n := 62) rfl rfl rfl ?_
            refine w_iaload (N := 8) (j := x3.toNatClampNeg) (n := 63) rfl rfl rfl rfl rfl rfl ⟨H.1, ?_⟩
            replace H := H.2
            exact w_ireturn rfl rfl H
          by_cases h30_1 : x4 = 1
          · replace H := H.2.1 h30_1
            refine w_switch (tg := 64) rfl (by rw [h30_1]; rfl) ?_
            refine w_aloadR (x := 40) (n := 66) rfl rfl rfl ?_
            refine w_getR (b := 43) (n := 69) rfl rfl rfl rfl rfl ?_
            refine w_iload_n (n := 70) rfl rfl rfl ?_
            refine w_iaload (N := 8) (j := x3.toNatClampNeg) (n := 71) rfl rfl rfl rfl rfl rfl ⟨H.1, ?_⟩
            replace H := H.2
            exact w_ireturn rfl rfl H
          by_cases h30_2 : x4 = 2
          · replace H := H.2.2.1 h30_2
            refine w_switch (tg := 72) rfl (by rw [h30_2]; rfl) ?_
            refine w_aloadR (x := 40) (n := 74) rfl rfl rfl ?_
            refine w_getR (b := 45) (n := 77) rfl rfl rfl rfl rfl ?_
            refine w_iload_n (n := 78) rfl rfl rfl ?_
            refine w_iaload (N := 8) (j := x3.toNatClampNeg) (n := 79) rfl rfl rfl rfl rfl rfl ⟨H.1, ?_⟩
            replace H := H.2
            exact w_ireturn rfl rfl H
          replace H := H.2.2.2 h30_0 h30_1 h30_2
          refine w_switch (tg := 80) rfl (mm_sw_def (fun z z1 z2 ze => ?_) rfl) ?_
          · rcases (show z = 0 ∨ z = 1 ∨ z = 2 by omega) with rfl | rfl | rfl
            · exact h30_0 (Int32.toInt_inj.mp (by rw [ze]; rfl))
            · exact h30_1 (Int32.toInt_inj.mp (by rw [ze]; rfl))
            · exact h30_2 (Int32.toInt_inj.mp (by rw [ze]; rfl))
          refine w_iconst (v := (-1)) (n := 81) rfl rfl rfl ?_
          exact w_ireturn rfl rfl H
        · replace H := H.2 hc
          refine w_iconst (v := (-1)) (n := 27) rfl rfl rfl ?_
          exact w_ireturn rfl rfl H
theorem e_WS_residual {Q : mm_S → Prop} (hQ : mm_Qf Q) {I : mm_I} (x1 : Int32) (x2 : Int32) (x3 : Int32) (x4 : Int32)
  (H : mm_Mr 88 [.ref 0, .int x1, .int x2] I (fun r3 I3 =>  -- WS.plannedRow
    (r3 = none →
      Q (38, [some (.ref 0), some (.int x1), some (.int x2), some (.int x3), some (.int x4), some (va_rf none), none], [], (mm_lay, I3))) ∧
    (∀ aa10, r3 = some aa10 → (aa10 = 22 ∨ aa10 = 28 ∨ aa10 = 34 ∨ aa10 = 40) ∧
      mm_Mi 89 [.ref 0, .ref aa10, .int x3] I3 (fun r17 I17 =>  -- WS.canTry
      (r17 = 0 →
        Q (38, [some (.ref 0), some (.int x1), some (.int x2), some (.int x3), some (.int x4), some (.ref aa10), none], [], (mm_lay, I17))) ∧
      (¬ r17 = 0 →
        (x4 < 0 →
          Q (38, [some (.ref 0), some (.int x1), some (.int x2), some (.int x3), some (.int x4), some (.ref aa10), none], [], (mm_lay, I17))) ∧
        (0 ≤ x4 →
          (x4 < (I17 aa10 1) →
            vp_in x4 64 ∧
            vp_in x3 8 ∧
            ((I17 8 x3.toNatClampNeg) ≤ x4 →
              mm_Mi 22 [.ref 6, .int x3, .ref (aa10 + 1), .int x4] I17 (fun r87 I87 =>  -- Pred.guess
              Q (91, [some (.ref 0), some (.int x1), some (.int x2), some (.int x3), some (.int x4), some (.ref aa10), some (.int (I17 (aa10 + 1) x4.toNatClampNeg))], [.int ((I17 (aa10 + 1) x4.toNatClampNeg) - r87)], (mm_lay, I87)))) ∧
            (x4 < (I17 8 x3.toNatClampNeg) →
              Q (72, [some (.ref 0), some (.int x1), some (.int x2), some (.int x3), some (.int x4), some (.ref aa10), some (.int (I17 (aa10 + 1) x4.toNatClampNeg))], [.int (I17 (aa10 + 1) x4.toNatClampNeg)], (mm_lay, I17)))) ∧
          ((I17 aa10 1) ≤ x4 →
            Q (38, [some (.ref 0), some (.int x1), some (.int x2), some (.int x3), some (.int x4), some (.ref aa10), none], [], (mm_lay, I17))))))))) : mm_W 84 0 (mm_ent (mm_mL 84) [.ref 0, .int x1, .int x2, .int x3, .int x4]) [] I Q := by
  show mm_W 84 0 [some (.ref 0), some (.int x1), some (.int x2), some (.int x3), some (.int x4), none, none] [] I Q
  refine w_aload_nR (x := 0) (n := 1) rfl rfl rfl ?_
  refine w_iload_n (n := 2) rfl rfl rfl ?_
  refine w_iload_n (n := 3) rfl rfl rfl ?_
  refine w_callr (as := [.ref 0, .int x1, .int x2]) (rest := []) (n := 6) rfl rfl rfl rfl ?_
  obtain ⟨r3, I3, hI3, H⟩ := H
  refine ⟨r3, I3, hI3, ?_⟩
  refine w_astore (ls' := [some (.ref 0), some (.int x1), some (.int x2), some (.int x3), some (.int x4), some (va_rf r3), none]) (x := r3) (n := 8) rfl rfl rfl rfl ?_
  refine w_aload (x := r3) (n := 10) rfl rfl rfl ?_
  refine w_ifnull (n := 13) rfl rfl ⟨fun hc => ?_, fun aa10 hc => ?_⟩
  · replace H := H.1 hc
    subst hc
    exact mm_W.end rfl rfl H
  · have H9 := H.2 aa10 hc
    clear H
    subst hc
    obtain ⟨haa10, H⟩ := H9
    rcases haa10 with rfl | rfl | rfl | rfl
    · refine w_aload_nR (x := 0) (n := 14) rfl rfl rfl ?_
      refine w_aloadR (x := 22) (n := 16) rfl rfl rfl ?_
      refine w_iload_n (n := 17) rfl rfl rfl ?_
      refine w_calli (as := [.ref 0, .ref 22, .int x3]) (rest := []) (n := 20) rfl rfl rfl rfl ?_
      obtain ⟨r17, I17, hI17, H⟩ := H
      refine ⟨r17, I17, hI17, ?_⟩
      refine w_if_eq (n := 23) rfl rfl ⟨fun hc => ?_, fun hc => ?_⟩
      · replace H := H.1 hc
        exact mm_W.end rfl rfl H
      · replace H := H.2 hc
        refine w_iload (n := 25) rfl rfl rfl ?_
        refine w_if_lt (n := 28) rfl rfl ⟨fun hc => ?_, fun hc => ?_⟩
        · replace H := H.1 hc
          exact mm_W.end rfl rfl H
        · replace H := H.2 hc
          refine w_iload (n := 30) rfl rfl rfl ?_
          refine w_aloadR (x := 22) (n := 32) rfl rfl rfl ?_
          refine w_getI (n := 35) rfl rfl rfl rfl ?_
          refine w_icmp_lt (n := 38) rfl rfl ⟨fun hc => ?_, fun hc => ?_⟩
          · replace H := H.1 hc
            refine w_aloadR (x := 22) (n := 48) rfl rfl rfl ?_
            refine w_getR (b := 23) (n := 51) rfl rfl rfl rfl rfl ?_
            refine w_iload (n := 53) rfl rfl rfl ?_
            refine w_iaload (N := 64) (j := x4.toNatClampNeg) (n := 54) rfl rfl rfl rfl rfl rfl ⟨H.1, ?_⟩
            replace H := H.2
            refine w_istore (ls' := [some (.ref 0), some (.int x1), some (.int x2), some (.int x3), some (.int x4), some (.ref 22), some (.int (I17 23 x4.toNatClampNeg))]) (n := 56) rfl rfl rfl rfl ?_
            refine w_iload (n := 58) rfl rfl rfl ?_
            refine w_aload_nR (x := 0) (n := 59) rfl rfl rfl ?_
            refine w_getR (b := 6) (n := 62) rfl rfl rfl rfl rfl ?_
            refine w_getR (b := 8) (n := 65) rfl rfl rfl rfl rfl ?_
            refine w_iload_n (n := 66) rfl rfl rfl ?_
            refine w_iaload (N := 8) (j := x3.toNatClampNeg) (n := 67) rfl rfl rfl rfl rfl rfl ⟨H.1, ?_⟩
            replace H := H.2
            refine w_icmp_ge (n := 70) rfl rfl ⟨fun hc => ?_, fun hc => ?_⟩
            · replace H := H.1 hc
              refine w_iload (n := 75) rfl rfl rfl ?_
              refine w_aload_nR (x := 0) (n := 76) rfl rfl rfl ?_
              refine w_getR (b := 6) (n := 79) rfl rfl rfl rfl rfl ?_
              refine w_iload_n (n := 80) rfl rfl rfl ?_
              refine w_aloadR (x := 22) (n := 82) rfl rfl rfl ?_
              refine w_getR (b := 23) (n := 85) rfl rfl rfl rfl rfl ?_
              refine w_iload (n := 87) rfl rfl rfl ?_
              refine w_calli (as := [.ref 6, .int x3, .ref 23, .int x4]) (rest := [.int (I17 23 x4.toNatClampNeg)]) (n := 90) rfl rfl rfl rfl ?_
              obtain ⟨r87, I87, hI87, H⟩ := H
              refine ⟨r87, I87, hI87, ?_⟩
              refine w_isub (n := 91) rfl rfl ?_
              exact mm_W.end rfl rfl H
            · replace H := H.2 hc
              refine w_iload (n := 72) rfl rfl rfl ?_
              exact mm_W.end rfl rfl H
          · replace H := H.2 hc
            exact mm_W.end rfl rfl H
    · refine w_aload_nR (x := 0) (n := 14) rfl rfl rfl ?_
      refine w_aloadR (x := 28) (n := 16) rfl rfl rfl ?_
      refine w_iload_n (n := 17) rfl rfl rfl ?_
      refine w_calli (as := [.ref 0, .ref 28, .int x3]) (rest := []) (n := 20) rfl rfl rfl rfl ?_
      obtain ⟨r17, I17, hI17, H⟩ := H
      refine ⟨r17, I17, hI17, ?_⟩
      refine w_if_eq (n := 23) rfl rfl ⟨fun hc => ?_, fun hc => ?_⟩
      · replace H := H.1 hc
        exact mm_W.end rfl rfl H
      · replace H := H.2 hc
        refine w_iload (n := 25) rfl rfl rfl ?_
        refine w_if_lt (n := 28) rfl rfl ⟨fun hc => ?_, fun hc => ?_⟩
        · replace H := H.1 hc
          exact mm_W.end rfl rfl H
        · replace H := H.2 hc
          refine w_iload (n := 30) rfl rfl rfl ?_
          refine w_aloadR (x := 28) (n := 32) rfl rfl rfl ?_
          refine w_getI (n := 35) rfl rfl rfl rfl ?_
          refine w_icmp_lt (n := 38) rfl rfl ⟨fun hc => ?_, fun hc => ?_⟩
          · replace H := H.1 hc
            refine w_aloadR (x := 28) (n := 48) rfl rfl rfl ?_
            refine w_getR (b := 29) (n := 51) rfl rfl rfl rfl rfl ?_
            refine w_iload (n := 53) rfl rfl rfl ?_
            refine w_iaload (N := 64) (j := x4.toNatClampNeg) (n := 54) rfl rfl rfl rfl rfl rfl ⟨H.1, ?_⟩
            replace H := H.2
            refine w_istore (ls' := [some (.ref 0), some (.int x1), some (.int x2), some (.int x3), some (.int x4), some (.ref 28), some (.int (I17 29 x4.toNatClampNeg))]) (n := 56) rfl rfl rfl rfl ?_
            refine w_iload (n := 58) rfl rfl rfl ?_
            refine w_aload_nR (x := 0) (n := 59) rfl rfl rfl ?_
            refine w_getR (b := 6) (n := 62) rfl rfl rfl rfl rfl ?_
            refine w_getR (b := 8) (n := 65) rfl rfl rfl rfl rfl ?_
            refine w_iload_n (n := 66) rfl rfl rfl ?_
            refine w_iaload (N := 8) (j := x3.toNatClampNeg) (n := 67) rfl rfl rfl rfl rfl rfl ⟨H.1, ?_⟩
            replace H := H.2
            refine w_icmp_ge (n := 70) rfl rfl ⟨fun hc => ?_, fun hc => ?_⟩
            · replace H := H.1 hc
              refine w_iload (n := 75) rfl rfl rfl ?_
              refine w_aload_nR (x := 0) (n := 76) rfl rfl rfl ?_
              refine w_getR (b := 6) (n := 79) rfl rfl rfl rfl rfl ?_
              refine w_iload_n (n := 80) rfl rfl rfl ?_
              refine w_aloadR (x := 28) (n := 82) rfl rfl rfl ?_
              refine w_getR (b := 29) (n := 85) rfl rfl rfl rfl rfl ?_
              refine w_iload (n := 87) rfl rfl rfl ?_
              refine w_calli (as := [.ref 6, .int x3, .ref 29, .int x4]) (rest := [.int (I17 29 x4.toNatClampNeg)]) (n := 90) rfl rfl rfl rfl ?_
              obtain ⟨r87, I87, hI87, H⟩ := H
              refine ⟨r87, I87, hI87, ?_⟩
              refine w_isub (n := 91) rfl rfl ?_
              exact mm_W.end rfl rfl H
            · replace H := H.2 hc
              refine w_iload (n := 72) rfl rfl rfl ?_
              exact mm_W.end rfl rfl H
          · replace H := H.2 hc
            exact mm_W.end rfl rfl H
    · refine w_aload_nR (x := 0) (n := 14) rfl rfl rfl ?_
      refine w_aloadR (x := 34) (n := 16) rfl rfl rfl ?_
      refine w_iload_n (n := 17) rfl rfl rfl ?_
      refine w_calli (as := [.ref 0, .ref 34, .int x3]) (rest := []) (n := 20) rfl rfl rfl rfl ?_
      obtain ⟨r17, I17, hI17, H⟩ := H
      refine ⟨r17, I17, hI17, ?_⟩
      refine w_if_eq (n := 23) rfl rfl ⟨fun hc => ?_, fun hc => ?_⟩
      · replace H := H.1 hc
        exact mm_W.end rfl rfl H
      · replace H := H.2 hc
        refine w_iload (n := 25) rfl rfl rfl ?_
        refine w_if_lt (n := 28) rfl rfl ⟨fun hc => ?_, fun hc => ?_⟩
        · replace H := H.1 hc
          exact mm_W.end rfl rfl H
        · replace H := H.2 hc
          refine w_iload (n := 30) rfl rfl rfl ?_
          refine w_aloadR (x := 34) (n := 32) rfl rfl rfl ?_
          refine w_getI (n := 35) rfl rfl rfl rfl ?_
          refine w_icmp_lt (n := 38) rfl rfl ⟨fun hc => ?_, fun hc => ?_⟩
          · replace H := H.1 hc
            refine w_aloadR (x := 34) (n := 48) rfl rfl rfl ?_
            refine w_getR (b := 35) (n := 51) rfl rfl rfl rfl rfl ?_
            refine w_iload (n := 53) rfl rfl rfl ?_
            refine w_iaload (N := 64) (j := x4.toNatClampNeg) (n := 54) rfl rfl rfl rfl rfl rfl ⟨H.1, ?_⟩
            replace H := H.2
            refine w_istore (ls' := [some (.ref 0), some (.int x1), some (.int x2), some (.int x3), some (.int x4), some (.ref 34), some (.int (I17 35 x4.toNatClampNeg))]) (n := 56) rfl rfl rfl rfl ?_
            refine w_iload (n := 58) rfl rfl rfl ?_
            refine w_aload_nR (x := 0) (n := 59) rfl rfl rfl ?_
            refine w_getR (b := 6) (n := 62) rfl rfl rfl rfl rfl ?_
            refine w_getR (b := 8) (n := 65) rfl rfl rfl rfl rfl ?_
            refine w_iload_n (n := 66) rfl rfl rfl ?_
            refine w_iaload (N := 8) (j := x3.toNatClampNeg) (n := 67) rfl rfl rfl rfl rfl rfl ⟨H.1, ?_⟩
            replace H := H.2
            refine w_icmp_ge (n := 70) rfl rfl ⟨fun hc => ?_, fun hc => ?_⟩
            · replace H := H.1 hc
              refine w_iload (n := 75) rfl rfl rfl ?_
              refine w_aload_nR (x := 0) (n := 76) rfl rfl rfl ?_
              refine w_getR (b := 6) (n := 79) rfl rfl rfl rfl rfl ?_
              refine w_iload_n (n := 80) rfl rfl rfl ?_
              refine w_aloadR (x := 34) (n := 82) rfl rfl rfl ?_
              refine w_getR (b := 35) (n := 85) rfl rfl rfl rfl rfl ?_
              refine w_iload (n := 87) rfl rfl rfl ?_
              refine w_calli (as := [.ref 6, .int x3, .ref 35, .int x4]) (rest := [.int (I17 35 x4.toNatClampNeg)]) (n := 90) rfl rfl rfl rfl ?_
              obtain ⟨r87, I87, hI87, H⟩ := H
              refine ⟨r87, I87, hI87, ?_⟩
              refine w_isub (n := 91) rfl rfl ?_
              exact mm_W.end rfl rfl H
            · replace H := H.2 hc
              refine w_iload (n := 72) rfl rfl rfl ?_
              exact mm_W.end rfl rfl H
          · replace H := H.2 hc
            exact mm_W.end rfl rfl H
    · refine w_aload_nR (x := 0) (n := 14) rfl rfl rfl ?_
      refine w_aloadR (x := 40) (n := 16) rfl rfl rfl ?_
      refine w_iload_n (n := 17) rfl rfl rfl ?_
      refine w_calli (as := [.ref 0, .ref 40, .int x3]) (rest := []) (n := 20) rfl rfl rfl rfl ?_
      obtain ⟨r17, I17, hI17, H⟩ := H
      refine ⟨r17, I17, hI17, ?_⟩
      refine w_if_eq (n := 23) rfl rfl ⟨fun hc => ?_, fun hc => ?_⟩
      · replace H := H.1 hc
        exact mm_W.end rfl rfl H
      · replace H := H.2 hc
        refine w_iload (n := 25) rfl rfl rfl ?_
        refine w_if_lt (n := 28) rfl rfl ⟨fun hc => ?_, fun hc => ?_⟩
        · replace H := H.1 hc
          exact mm_W.end rfl rfl H
        · replace H := H.2 hc
          refine w_iload (n := 30) rfl rfl rfl ?_
          refine w_aloadR (x := 40) (n := 32) rfl rfl rfl ?_
          refine w_getI (n := 35) rfl rfl rfl rfl ?_
          refine w_icmp_lt (n := 38) rfl rfl ⟨fun hc => ?_, fun hc => ?_⟩
          · replace H := H.1 hc
            refine w_aloadR (x := 40) (n := 48) rfl rfl rfl ?_
            refine w_getR (b := 41) (n := 51) rfl rfl rfl rfl rfl ?_
            refine w_iload (n := 53) rfl rfl rfl ?_
            refine w_iaload (N := 64) (j := x4.toNatClampNeg) (n := 54) rfl rfl rfl rfl rfl rfl ⟨H.1, ?_⟩
            replace H := H.2
            refine w_istore (ls' := [some (.ref 0), some (.int x1), some (.int x2), some (.int x3), some (.int x4), some (.ref 40), some (.int (I17 41 x4.toNatClampNeg))]) (n := 56) rfl rfl rfl rfl ?_
            refine w_iload (n := 58) rfl rfl rfl ?_
            refine w_aload_nR (x := 0) (n := 59) rfl rfl rfl ?_
            refine w_getR (b := 6) (n := 62) rfl rfl rfl rfl rfl ?_
            refine w_getR (b := 8) (n := 65) rfl rfl rfl rfl rfl ?_
            refine w_iload_n (n := 66) rfl rfl rfl ?_
            refine w_iaload (N := 8) (j := x3.toNatClampNeg) (n := 67) rfl rfl rfl rfl rfl rfl ⟨H.1, ?_⟩
            replace H := H.2
            refine w_icmp_ge (n := 70) rfl rfl ⟨fun hc => ?_, fun hc => ?_⟩
            · replace H := H.1 hc
              refine w_iload (n := 75) rfl rfl rfl ?_
              refine w_aload_nR (x := 0) (n := 76) rfl rfl rfl ?_
              refine w_getR (b := 6) (n := 79) rfl rfl rfl rfl rfl ?_
              refine w_iload_n (n := 80) rfl rfl rfl ?_
              refine w_aloadR (x := 40) (n := 82) rfl rfl rfl ?_
              refine w_getR (b := 41) (n := 85) rfl rfl rfl rfl rfl ?_
              refine w_iload (n := 87) rfl rfl rfl ?_
              refine w_calli (as := [.ref 6, .int x3, .ref 41, .int x4]) (rest := [.int (I17 41 x4.toNatClampNeg)]) (n := 90) rfl rfl rfl rfl ?_
              obtain ⟨r87, I87, hI87, H⟩ := H
              refine ⟨r87, I87, hI87, ?_⟩
              refine w_isub (n := 91) rfl rfl ?_
              exact mm_W.end rfl rfl H
            · replace H := H.2 hc
              refine w_iload (n := 72) rfl rfl rfl ?_
              exact mm_W.end rfl rfl H
          · replace H := H.2 hc
            exact mm_W.end rfl rfl H
theorem e_WS_tried {P : Int32 → mm_I → Prop} {I : mm_I} (x1 : Int32) (x2 : Int32) (x3 : Int32)
  (H : mm_Mr 88 [.ref 0, .int x1, .int x2] I (fun r3 I3 =>  -- WS.plannedRow
    (r3 = none →
      P (-1) I3) ∧
    (∀ aa10, r3 = some aa10 → (aa10 = 22 ∨ aa10 = 28 ∨ aa10 = 34 ∨ aa10 = 40) ∧
      mm_Mi 89 [.ref 0, .ref aa10, .int x3] I3 (fun r17 I17 =>  -- WS.canTry
      (¬ r17 = 0 →
        mm_Mv 2 [.ref 11, .ref aa10, .ref 6, .int x3] I17 (fun I36 =>  -- Cutter.load
        vp_in x3 8 ∧
        mm_Mi 43 [.ref aa10, .int (I36 8 x3.toNatClampNeg)] I36 (fun r50 I50 =>  -- Row.firstBits
        (¬ (I50 0 8) = 0 →
          mm_Mi 6 [.ref 11] I50 (fun r74 I74 =>  -- Cutter.cutForLeast
          P (r50 + r74) I74)) ∧
        ((I50 0 8) = 0 →
          mm_Mi 4 [.ref 11] I50 (fun r64 I64 =>  -- Cutter.cutNowhere
          P (r50 + r64) I64))))) ∧
      (r17 = 0 →
        P (-1) I17))))) : mm_Mi 85 [.ref 0, .int x1, .int x2, .int x3] I P := by
  refine mm_Mi_of ?_
  show mm_W 85 0 [some (.ref 0), some (.int x1), some (.int x2), some (.int x3), none] [] I (mm_qi 85 P)
  refine w_aload_nR (x := 0) (n := 1) rfl rfl rfl ?_
  refine w_iload_n (n := 2) rfl rfl rfl ?_
  refine w_iload_n (n := 3) rfl rfl rfl ?_
  refine w_callr (as := [.ref 0, .int x1, .int x2]) (rest := []) (n := 6) rfl rfl rfl rfl ?_
  obtain ⟨r3, I3, hI3, H⟩ := H
  refine ⟨r3, I3, hI3, ?_⟩
  refine w_astore (ls' := [some (.ref 0), some (.int x1), some (.int x2), some (.int x3), some (va_rf r3)]) (x := r3) (n := 8) rfl rfl rfl rfl ?_
  refine w_aload (x := r3) (n := 10) rfl rfl rfl ?_
  refine w_ifnull (n := 13) rfl rfl ⟨fun hc => ?_, fun aa10 hc => ?_⟩
  · replace H := H.1 hc
    subst hc
    refine w_iconst (v := (-1)) (n := 24) rfl rfl rfl ?_
    exact w_ireturn rfl rfl H
  · have H9 := H.2 aa10 hc
    clear H
    subst hc
    obtain ⟨haa10, H⟩ := H9
    rcases haa10 with rfl | rfl | rfl | rfl
    · refine w_aload_nR (x := 0) (n := 14) rfl rfl rfl ?_
      refine w_aloadR (x := 22) (n := 16) rfl rfl rfl ?_
      refine w_iload_n (n := 17) rfl rfl rfl ?_
      refine w_calli (as := [.ref 0, .ref 22, .int x3]) (rest := []) (n := 20) rfl rfl rfl rfl ?_
      obtain ⟨r17, I17, hI17, H⟩ := H
      refine ⟨r17, I17, hI17, ?_⟩
      refine w_if_ne (n := 23) rfl rfl ⟨fun hc => ?_, fun hc => ?_⟩
      · replace H := H.1 hc
        refine w_aload_nR (x := 0) (n := 26) rfl rfl rfl ?_
        refine w_getR (b := 11) (n := 29) rfl rfl rfl rfl rfl ?_
        refine w_aloadR (x := 22) (n := 31) rfl rfl rfl ?_
        refine w_aload_nR (x := 0) (n := 32) rfl rfl rfl ?_
        refine w_getR (b := 6) (n := 35) rfl rfl rfl rfl rfl ?_
        refine w_iload_n (n := 36) rfl rfl rfl ?_
        refine w_callv (as := [.ref 11, .ref 22, .ref 6, .int x3]) (rest := []) (n := 39) rfl rfl rfl rfl ?_
        obtain ⟨I36, hI36, H⟩ := H
        refine ⟨I36, hI36, ?_⟩
        refine w_aloadR (x := 22) (n := 41) rfl rfl rfl ?_
        refine w_aload_nR (x := 0) (n := 42) rfl rfl rfl ?_
        refine w_getR (b := 6) (n := 45) rfl rfl rfl rfl rfl ?_
        refine w_getR (b := 8) (n := 48) rfl rfl rfl rfl rfl ?_
        refine w_iload_n (n := 49) rfl rfl rfl ?_
        refine w_iaload (N := 8) (j := x3.toNatClampNeg) (n := 50) rfl rfl rfl rfl rfl rfl ⟨H.1, ?_⟩
        replace H := H.2
        refine w_calli (as := [.ref 22, .int (I36 8 x3.toNatClampNeg)]) (rest := []) (n := 53) rfl rfl rfl rfl ?_
        obtain ⟨r50, I50, hI50, H⟩ := H
        refine ⟨r50, I50, hI50, ?_⟩
        refine w_aload_nR (x := 0) (n := 54) rfl rfl rfl ?_
        refine w_getI (n := 57) rfl rfl rfl rfl ?_
        refine w_if_ne (n := 60) rfl rfl ⟨fun hc => ?_, fun hc => ?_⟩
        · replace H := H.1 hc
          refine w_aload_nR (x := 0) (n := 71) rfl rfl rfl ?_
          refine w_getR (b := 11) (n := 74) rfl rfl rfl rfl rfl ?_
          refine w_calli (as := [.ref 11]) (rest := [.int r50]) (n := 77) rfl rfl rfl rfl ?_
          obtain ⟨r74, I74, hI74, H⟩ := H
          refine ⟨r74, I74, hI74, ?_⟩
          refine w_iadd (n := 78) rfl rfl ?_
          exact w_ireturn rfl rfl H
        · replace H := H.2 hc
          refine w_aload_nR (x := 0) (n := 61) rfl rfl rfl ?_
          refine w_getR (b := 11) (n := 64) rfl rfl rfl rfl rfl ?_
          refine w_calli (as := [.ref 11]) (rest := [.int r50]) (n := 67) rfl rfl rfl rfl ?_
          obtain ⟨r64, I64, hI64, H⟩ := H
          refine ⟨r64, I64, hI64, ?_⟩
          refine w_goto rfl ?_
          refine w_iadd (n := 78) rfl rfl ?_
          exact w_ireturn rfl rfl H
      · replace H := H.2 hc
        refine w_iconst (v := (-1)) (n := 24) rfl rfl rfl ?_
        exact w_ireturn rfl rfl H
    · refine w_aload_nR (x := 0) (n := 14) rfl rfl rfl ?_
      refine w_aloadR (x := 28) (n := 16) rfl rfl rfl ?_
      refine w_iload_n (n := 17) rfl rfl rfl ?_
      refine w_calli (as := [.ref 0, .ref 28, .int x3]) (rest := []) (n := 20) rfl rfl rfl rfl ?_
      obtain ⟨r17, I17, hI17, H⟩ := H
      refine ⟨r17, I17, hI17, ?_⟩
      refine w_if_ne (n := 23) rfl rfl ⟨fun hc => ?_, fun hc => ?_⟩
      · replace H := H.1 hc
        refine w_aload_nR (x := 0) (n := 26) rfl rfl rfl ?_
        refine w_getR (b := 11) (n := 29) rfl rfl rfl rfl rfl ?_
        refine w_aloadR (x := 28) (n := 31) rfl rfl rfl ?_
        refine w_aload_nR (x := 0) (n := 32) rfl rfl rfl ?_
        refine w_getR (b := 6) (n := 35) rfl rfl rfl rfl rfl ?_
        refine w_iload_n (n := 36) rfl rfl rfl ?_
        refine w_callv (as := [.ref 11, .ref 28, .ref 6, .int x3]) (rest := []) (n := 39) rfl rfl rfl rfl ?_
        obtain ⟨I36, hI36, H⟩ := H
        refine ⟨I36, hI36, ?_⟩
        refine w_aloadR (x := 28) (n := 41) rfl rfl rfl ?_
        refine w_aload_nR (x := 0) (n := 42) rfl rfl rfl ?_
        refine w_getR (b := 6) (n := 45) rfl rfl rfl rfl rfl ?_
        refine w_getR (b := 8) (n := 48) rfl rfl rfl rfl rfl ?_
        refine w_iload_n (n := 49) rfl rfl rfl ?_
        refine w_iaload (N := 8) (j := x3.toNatClampNeg) (n := 50) rfl rfl rfl rfl rfl rfl ⟨H.1, ?_⟩
        replace H := H.2
        refine w_calli (as := [.ref 28, .int (I36 8 x3.toNatClampNeg)]) (rest := []) (n := 53) rfl rfl rfl rfl ?_
        obtain ⟨r50, I50, hI50, H⟩ := H
        refine ⟨r50, I50, hI50, ?_⟩
        refine w_aload_nR (x := 0) (n := 54) rfl rfl rfl ?_
        refine w_getI (n := 57) rfl rfl rfl rfl ?_
        refine w_if_ne (n := 60) rfl rfl ⟨fun hc => ?_, fun hc => ?_⟩
        · replace H := H.1 hc
          refine w_aload_nR (x := 0) (n := 71) rfl rfl rfl ?_
          refine w_getR (b := 11) (n := 74) rfl rfl rfl rfl rfl ?_
          refine w_calli (as := [.ref 11]) (rest := [.int r50]) (n := 77) rfl rfl rfl rfl ?_
          obtain ⟨r74, I74, hI74, H⟩ := H
          refine ⟨r74, I74, hI74, ?_⟩
          refine w_iadd (n := 78) rfl rfl ?_
          exact w_ireturn rfl rfl H
        · replace H := H.2 hc
          refine w_aload_nR (x := 0) (n := 61) rfl rfl rfl ?_
          refine w_getR (b := 11) (n := 64) rfl rfl rfl rfl rfl ?_
          refine w_calli (as := [.ref 11]) (rest := [.int r50]) (n := 67) rfl rfl rfl rfl ?_
          obtain ⟨r64, I64, hI64, H⟩ := H
          refine ⟨r64, I64, hI64, ?_⟩
          refine w_goto rfl ?_
          refine w_iadd (n := 78) rfl rfl ?_
          exact w_ireturn rfl rfl H
      · replace H := H.2 hc
        refine w_iconst (v := (-1)) (n := 24) rfl rfl rfl ?_
        exact w_ireturn rfl rfl H
    · refine w_aload_nR (x := 0) (n := 14) rfl rfl rfl ?_
      refine w_aloadR (x := 34) (n := 16) rfl rfl rfl ?_
      refine w_iload_n (n := 17) rfl rfl rfl ?_
      refine w_calli (as := [.ref 0, .ref 34, .int x3]) (rest := []) (n := 20) rfl rfl rfl rfl ?_
      obtain ⟨r17, I17, hI17, H⟩ := H
      refine ⟨r17, I17, hI17, ?_⟩
      refine w_if_ne (n := 23) rfl rfl ⟨fun hc => ?_, fun hc => ?_⟩
      · replace H := H.1 hc
        refine w_aload_nR (x := 0) (n := 26) rfl rfl rfl ?_
        refine w_getR (b := 11) (n := 29) rfl rfl rfl rfl rfl ?_
        refine w_aloadR (x := 34) (n := 31) rfl rfl rfl ?_
        refine w_aload_nR (x := 0) (n := 32) rfl rfl rfl ?_
        refine w_getR (b := 6) (n := 35) rfl rfl rfl rfl rfl ?_
        refine w_iload_n (n := 36) rfl rfl rfl ?_
        refine w_callv (as := [.ref 11, .ref 34, .ref 6, .int x3]) (rest := []) (n := 39) rfl rfl rfl rfl ?_
        obtain ⟨I36, hI36, H⟩ := H
        refine ⟨I36, hI36, ?_⟩
        refine w_aloadR (x := 34) (n := 41) rfl rfl rfl ?_
        refine w_aload_nR (x := 0) (n := 42) rfl rfl rfl ?_
        refine w_getR (b := 6) (n := 45) rfl rfl rfl rfl rfl ?_
        refine w_getR (b := 8) (n := 48) rfl rfl rfl rfl rfl ?_
        refine w_iload_n (n := 49) rfl rfl rfl ?_
        refine w_iaload (N := 8) (j := x3.toNatClampNeg) (n := 50) rfl rfl rfl rfl rfl rfl ⟨H.1, ?_⟩
        replace H := H.2
        refine w_calli (as := [.ref 34, .int (I36 8 x3.toNatClampNeg)]) (rest := []) (n := 53) rfl rfl rfl rfl ?_
        obtain ⟨r50, I50, hI50, H⟩ := H
        refine ⟨r50, I50, hI50, ?_⟩
        refine w_aload_nR (x := 0) (n := 54) rfl rfl rfl ?_
        refine w_getI (n := 57) rfl rfl rfl rfl ?_
        refine w_if_ne (n := 60) rfl rfl ⟨fun hc => ?_, fun hc => ?_⟩
        · replace H := H.1 hc
          refine w_aload_nR (x := 0) (n := 71) rfl rfl rfl ?_
          refine w_getR (b := 11) (n := 74) rfl rfl rfl rfl rfl ?_
          refine w_calli (as := [.ref 11]) (rest := [.int r50]) (n := 77) rfl rfl rfl rfl ?_
          obtain ⟨r74, I74, hI74, H⟩ := H
          refine ⟨r74, I74, hI74, ?_⟩
          refine w_iadd (n := 78) rfl rfl ?_
          exact w_ireturn rfl rfl H
        · replace H := H.2 hc
          refine w_aload_nR (x := 0) (n := 61) rfl rfl rfl ?_
          refine w_getR (b := 11) (n := 64) rfl rfl rfl rfl rfl ?_
          refine w_calli (as := [.ref 11]) (rest := [.int r50]) (n := 67) rfl rfl rfl rfl ?_
          obtain ⟨r64, I64, hI64, H⟩ := H
          refine ⟨r64, I64, hI64, ?_⟩
          refine w_goto rfl ?_
          refine w_iadd (n := 78) rfl rfl ?_
          exact w_ireturn rfl rfl H
      · replace H := H.2 hc
        refine w_iconst (v := (-1)) (n := 24) rfl rfl rfl ?_
        exact w_ireturn rfl rfl H
    · refine w_aload_nR (x := 0) (n := 14) rfl rfl rfl ?_
      refine w_aloadR (x := 40) (n := 16) rfl rfl rfl ?_
      refine w_iload_n (n := 17) rfl rfl rfl ?_
      refine w_calli (as := [.ref 0, .ref 40, .int x3]) (rest := []) (n := 20) rfl rfl rfl rfl ?_
      obtain ⟨r17, I17, hI17, H⟩ := H
      refine ⟨r17, I17, hI17, ?_⟩
      refine w_if_ne (n := 23) rfl rfl ⟨fun hc => ?_, fun hc => ?_⟩
      · replace H := H.1 hc
        refine w_aload_nR (x := 0) (n := 26) rfl rfl rfl ?_
        refine w_getR (b := 11) (n := 29) rfl rfl rfl rfl rfl ?_
        refine w_aloadR (x := 40) (n := 31) rfl rfl rfl ?_
        refine w_aload_nR (x := 0) (n := 32) rfl rfl rfl ?_
        refine w_getR (b := 6) (n := 35) rfl rfl rfl rfl rfl ?_
        refine w_iload_n (n := 36) rfl rfl rfl ?_
        refine w_callv (as := [.ref 11, .ref 40, .ref 6, .int x3]) (rest := []) (n := 39) rfl rfl rfl rfl ?_
        obtain ⟨I36, hI36, H⟩ := H
        refine ⟨I36, hI36, ?_⟩
        refine w_aloadR (x := 40) (n := 41) rfl rfl rfl ?_
        refine w_aload_nR (x := 0) (n := 42) rfl rfl rfl ?_
        refine w_getR (b := 6) (n := 45) rfl rfl rfl rfl rfl ?_
        refine w_getR (b := 8) (n := 48) rfl rfl rfl rfl rfl ?_
        refine w_iload_n (n := 49) rfl rfl rfl ?_
        refine w_iaload (N := 8) (j := x3.toNatClampNeg) (n := 50) rfl rfl rfl rfl rfl rfl ⟨H.1, ?_⟩
        replace H := H.2
        refine w_calli (as := [.ref 40, .int (I36 8 x3.toNatClampNeg)]) (rest := []) (n := 53) rfl rfl rfl rfl ?_
        obtain ⟨r50, I50, hI50, H⟩ := H
        refine ⟨r50, I50, hI50, ?_⟩
        refine w_aload_nR (x := 0) (n := 54) rfl rfl rfl ?_
        refine w_getI (n := 57) rfl rfl rfl rfl ?_
        refine w_if_ne (n := 60) rfl rfl ⟨fun hc => ?_, fun hc => ?_⟩
        · replace H := H.1 hc
          refine w_aload_nR (x := 0) (n := 71) rfl rfl rfl ?_
          refine w_getR (b := 11) (n := 74) rfl rfl rfl rfl rfl ?_
          refine w_calli (as := [.ref 11]) (rest := [.int r50]) (n := 77) rfl rfl rfl rfl ?_
          obtain ⟨r74, I74, hI74, H⟩ := H
          refine ⟨r74, I74, hI74, ?_⟩
          refine w_iadd (n := 78) rfl rfl ?_
          exact w_ireturn rfl rfl H
        · replace H := H.2 hc
          refine w_aload_nR (x := 0) (n := 61) rfl rfl rfl ?_
          refine w_getR (b := 11) (n := 64) rfl rfl rfl rfl rfl ?_
          refine w_calli (as := [.ref 11]) (rest := [.int r50]) (n := 67) rfl rfl rfl rfl ?_
          obtain ⟨r64, I64, hI64, H⟩ := H
          refine ⟨r64, I64, hI64, ?_⟩
          refine w_goto rfl ?_
          refine w_iadd (n := 78) rfl rfl ?_
          exact w_ireturn rfl rfl H
      · replace H := H.2 hc
        refine w_iconst (v := (-1)) (n := 24) rfl rfl rfl ?_
        exact w_ireturn rfl rfl H
theorem e_WS_mean {P : Int32 → mm_I → Prop} {I : mm_I} (x1 : Int32) (x2 : Int32) (x3 : Int32)
  (H : mm_Mr 88 [.ref 0, .int x1, .int x2] I (fun r3 I3 =>  -- WS.plannedRow
    (r3 = none →
      P (-1) I3) ∧
    (∀ aa10, r3 = some aa10 → (aa10 = 22 ∨ aa10 = 28 ∨ aa10 = 34 ∨ aa10 = 40) ∧
      mm_Mi 89 [.ref 0, .ref aa10, .int x3] I3 (fun r17 I17 =>  -- WS.canTry
      (¬ r17 = 0 →
        mm_Mv 2 [.ref 11, .ref aa10, .ref 6, .int x3] I17 (fun I36 =>  -- Cutter.load
        mm_Mf 3 [.ref 11] I36 (fun r43 I43 =>  -- Cutter.meanSize
        mm_Mi 121 [.float r43] I43 (fun r46 I46 =>  -- WS.floatBits
        P r46 I46)))) ∧
      (r17 = 0 →
        P (-1) I17))))) : mm_Mi 86 [.ref 0, .int x1, .int x2, .int x3] I P := by
  refine mm_Mi_of ?_
  show mm_W 86 0 [some (.ref 0), some (.int x1), some (.int x2), some (.int x3), none] [] I (mm_qi 86 P)
  refine w_aload_nR (x := 0) (n := 1) rfl rfl rfl ?_
  refine w_iload_n (n := 2) rfl rfl rfl ?_
  refine w_iload_n (n := 3) rfl rfl rfl ?_
  refine w_callr (as := [.ref 0, .int x1, .int x2]) (rest := []) (n := 6) rfl rfl rfl rfl ?_
  obtain ⟨r3, I3, hI3, H⟩ := H
  refine ⟨r3, I3, hI3, ?_⟩
  refine w_astore (ls' := [some (.ref 0), some (.int x1), some (.int x2), some (.int x3), some (va_rf r3)]) (x := r3) (n := 8) rfl rfl rfl rfl ?_
  refine w_aload (x := r3) (n := 10) rfl rfl rfl ?_
  refine w_ifnull (n := 13) rfl rfl ⟨fun hc => ?_, fun aa10 hc => ?_⟩
  · replace H := H.1 hc
    subst hc
    refine w_iconst (v := (-1)) (n := 24) rfl rfl rfl ?_
    exact w_ireturn rfl rfl H
  · have H9 := H.2 aa10 hc
    clear H
    subst hc
    obtain ⟨haa10, H⟩ := H9
    rcases haa10 with rfl | rfl | rfl | rfl
    · refine w_aload_nR (x := 0) (n := 14) rfl rfl rfl ?_
      refine w_aloadR (x := 22) (n := 16) rfl rfl rfl ?_
      refine w_iload_n (n := 17) rfl rfl rfl ?_
      refine w_calli (as := [.ref 0, .ref 22, .int x3]) (rest := []) (n := 20) rfl rfl rfl rfl ?_
      obtain ⟨r17, I17, hI17, H⟩ := H
      refine ⟨r17, I17, hI17, ?_⟩
      refine w_if_ne (n := 23) rfl rfl ⟨fun hc => ?_, fun hc => ?_⟩
      · replace H := H.1 hc
        refine w_aload_nR (x := 0) (n := 26) rfl rfl rfl ?_
        refine w_getR (b := 11) (n := 29) rfl rfl rfl rfl rfl ?_
        refine w_aloadR (x := 22) (n := 31) rfl rfl rfl ?_
        refine w_aload_nR (x := 0) (n := 32) rfl rfl rfl ?_
        refine w_getR (b := 6) (n := 35) rfl rfl rfl rfl rfl ?_
        refine w_iload_n (n := 36) rfl rfl rfl ?_
        refine w_callv (as := [.ref 11, .ref 22, .ref 6, .int x3]) (rest := []) (n := 39) rfl rfl rfl rfl ?_
        obtain ⟨I36, hI36, H⟩ := H
        refine ⟨I36, hI36, ?_⟩
        refine w_aload_nR (x := 0) (n := 40) rfl rfl rfl ?_
        refine w_getR (b := 11) (n := 43) rfl rfl rfl rfl rfl ?_
        refine w_callf (as := [.ref 11]) (rest := []) (n := 46) rfl rfl rfl rfl ?_
        obtain ⟨r43, I43, hI43, H⟩ := H
        refine ⟨r43, I43, hI43, ?_⟩
        refine w_calli (as := [.float r43]) (rest := []) (n := 49) rfl rfl rfl rfl ?_
        obtain ⟨r46, I46, hI46, H⟩ := H
        refine ⟨r46, I46, hI46, ?_⟩
        exact w_ireturn rfl rfl H
      · replace H := H.2 hc
        refine w_iconst (v := (-1)) (n := 24) rfl rfl rfl ?_
        exact w_ireturn rfl rfl H
    · refine w_aload_nR (x := 0) (n := 14) rfl rfl rfl ?_
      refine w_aloadR (x := 28) (n := 16) rfl rfl rfl ?_
      refine w_iload_n (n := 17) rfl rfl rfl ?_
      refine w_calli (as := [.ref 0, .ref 28, .int x3]) (rest := []) (n := 20) rfl rfl rfl rfl ?_
      obtain ⟨r17, I17, hI17, H⟩ := H
      refine ⟨r17, I17, hI17, ?_⟩
      refine w_if_ne (n := 23) rfl rfl ⟨fun hc => ?_, fun hc => ?_⟩
      · replace H := H.1 hc
        refine w_aload_nR (x := 0) (n := 26) rfl rfl rfl ?_
        refine w_getR (b := 11) (n := 29) rfl rfl rfl rfl rfl ?_
        refine w_aloadR (x := 28) (n := 31) rfl rfl rfl ?_
        refine w_aload_nR (x := 0) (n := 32) rfl rfl rfl ?_
        refine w_getR (b := 6) (n := 35) rfl rfl rfl rfl rfl ?_
        refine w_iload_n (n := 36) rfl rfl rfl ?_
        refine w_callv (as := [.ref 11, .ref 28, .ref 6, .int x3]) (rest := []) (n := 39) rfl rfl rfl rfl ?_
        obtain ⟨I36, hI36, H⟩ := H
        refine ⟨I36, hI36, ?_⟩
        refine w_aload_nR (x := 0) (n := 40) rfl rfl rfl ?_
        refine w_getR (b := 11) (n := 43) rfl rfl rfl rfl rfl ?_
        refine w_callf (as := [.ref 11]) (rest := []) (n := 46) rfl rfl rfl rfl ?_
        obtain ⟨r43, I43, hI43, H⟩ := H
        refine ⟨r43, I43, hI43, ?_⟩
        refine w_calli (as := [.float r43]) (rest := []) (n := 49) rfl rfl rfl rfl ?_
        obtain ⟨r46, I46, hI46, H⟩ := H
        refine ⟨r46, I46, hI46, ?_⟩
        exact w_ireturn rfl rfl H
      · replace H := H.2 hc
        refine w_iconst (v := (-1)) (n := 24) rfl rfl rfl ?_
        exact w_ireturn rfl rfl H
    · refine w_aload_nR (x := 0) (n := 14) rfl rfl rfl ?_
      refine w_aloadR (x := 34) (n := 16) rfl rfl rfl ?_
      refine w_iload_n (n := 17) rfl rfl rfl ?_
      refine w_calli (as := [.ref 0, .ref 34, .int x3]) (rest := []) (n := 20) rfl rfl rfl rfl ?_
      obtain ⟨r17, I17, hI17, H⟩ := H
      refine ⟨r17, I17, hI17, ?_⟩
      refine w_if_ne (n := 23) rfl rfl ⟨fun hc => ?_, fun hc => ?_⟩
      · replace H := H.1 hc
        refine w_aload_nR (x := 0) (n := 26) rfl rfl rfl ?_
        refine w_getR (b := 11) (n := 29) rfl rfl rfl rfl rfl ?_
        refine w_aloadR (x := 34) (n := 31) rfl rfl rfl ?_
        refine w_aload_nR (x := 0) (n := 32) rfl rfl rfl ?_
        refine w_getR (b := 6) (n := 35) rfl rfl rfl rfl rfl ?_
        refine w_iload_n (n := 36) rfl rfl rfl ?_
        refine w_callv (as := [.ref 11, .ref 34, .ref 6, .int x3]) (rest := []) (n := 39) rfl rfl rfl rfl ?_
        obtain ⟨I36, hI36, H⟩ := H
        refine ⟨I36, hI36, ?_⟩
        refine w_aload_nR (x := 0) (n := 40) rfl rfl rfl ?_
        refine w_getR (b := 11) (n := 43) rfl rfl rfl rfl rfl ?_
        refine w_callf (as := [.ref 11]) (rest := []) (n := 46) rfl rfl rfl rfl ?_
        obtain ⟨r43, I43, hI43, H⟩ := H
        refine ⟨r43, I43, hI43, ?_⟩
        refine w_calli (as := [.float r43]) (rest := []) (n := 49) rfl rfl rfl rfl ?_
        obtain ⟨r46, I46, hI46, H⟩ := H
        refine ⟨r46, I46, hI46, ?_⟩
        exact w_ireturn rfl rfl H
      · replace H := H.2 hc
        refine w_iconst (v := (-1)) (n := 24) rfl rfl rfl ?_
        exact w_ireturn rfl rfl H
    · refine w_aload_nR (x := 0) (n := 14) rfl rfl rfl ?_
      refine w_aloadR (x := 40) (n := 16) rfl rfl rfl ?_
      refine w_iload_n (n := 17) rfl rfl rfl ?_
      refine w_calli (as := [.ref 0, .ref 40, .int x3]) (rest := []) (n := 20) rfl rfl rfl rfl ?_
      obtain ⟨r17, I17, hI17, H⟩ := H
      refine ⟨r17, I17, hI17, ?_⟩
      refine w_if_ne (n := 23) rfl rfl ⟨fun hc => ?_, fun hc => ?_⟩
      · replace H := H.1 hc
        refine w_aload_nR (x := 0) (n := 26) rfl rfl rfl ?_
        refine w_getR (b := 11) (n := 29) rfl rfl rfl rfl rfl ?_
        refine w_aloadR (x := 40) (n := 31) rfl rfl rfl ?_
        refine w_aload_nR (x := 0) (n := 32) rfl rfl rfl ?_
        refine w_getR (b := 6) (n := 35) rfl rfl rfl rfl rfl ?_
        refine w_iload_n (n := 36) rfl rfl rfl ?_
        refine w_callv (as := [.ref 11, .ref 40, .ref 6, .int x3]) (rest := []) (n := 39) rfl rfl rfl rfl ?_
        obtain ⟨I36, hI36, H⟩ := H
        refine ⟨I36, hI36, ?_⟩
        refine w_aload_nR (x := 0) (n := 40) rfl rfl rfl ?_
        refine w_getR (b := 11) (n := 43) rfl rfl rfl rfl rfl ?_
        refine w_callf (as := [.ref 11]) (rest := []) (n := 46) rfl rfl rfl rfl ?_
        obtain ⟨r43, I43, hI43, H⟩ := H
        refine ⟨r43, I43, hI43, ?_⟩
        refine w_calli (as := [.float r43]) (rest := []) (n := 49) rfl rfl rfl rfl ?_
        obtain ⟨r46, I46, hI46, H⟩ := H
        refine ⟨r46, I46, hI46, ?_⟩
        exact w_ireturn rfl rfl H
      · replace H := H.2 hc
        refine w_iconst (v := (-1)) (n := 24) rfl rfl rfl ?_
        exact w_ireturn rfl rfl H
theorem e_WS_hasFrame {P : Int32 → mm_I → Prop} {I : mm_I} (x1 : Int32)
  (H : (x1 < 0 →
      P 0 I) ∧
    (0 ≤ x1 →
      mm_Mi 55 [.ref 3, .int (I 0 7)] I (fun r13 I13 =>  -- Sound.frames
      ((if r13 ≤ x1 then (0 : Int32) else 1) = 0 ∨ (if r13 ≤ x1 then (0 : Int32) else 1) = 1) ∧ P (if r13 ≤ x1 then (0 : Int32) else 1) I13))) : mm_Mi 87 [.ref 0, .int x1] I P := by
  refine mm_Mi_of ?_
  show mm_W 87 0 [some (.ref 0), some (.int x1)] [] I (mm_qi 87 P)
  refine w_iload_n (n := 1) rfl rfl rfl ?_
  refine w_if_lt (n := 4) rfl rfl ⟨fun hc => ?_, fun hc => ?_⟩
  · replace H := H.1 hc
    refine w_iconst (v := 0) (n := 24) rfl rfl rfl ?_
    exact w_zreturn rfl rfl ⟨by decide, H⟩
  · replace H := H.2 hc
    refine w_iload_n (n := 5) rfl rfl rfl ?_
    refine w_aload_nR (x := 0) (n := 6) rfl rfl rfl ?_
    refine w_getR (b := 3) (n := 9) rfl rfl rfl rfl rfl ?_
    refine w_aload_nR (x := 0) (n := 10) rfl rfl rfl ?_
    refine w_getI (n := 13) rfl rfl rfl rfl ?_
    refine w_calli (as := [.ref 3, .int (I 0 7)]) (rest := [.int x1]) (n := 16) rfl rfl rfl rfl ?_
    obtain ⟨r13, I13, hI13, H⟩ := H
    refine ⟨r13, I13, hI13, ?_⟩
    have J16 : ∀ (w16_0 : Int32), w16_0 = (if r13 ≤ x1 then (0 : Int32) else 1) → mm_W 87 24 [some (.ref 0), some (.int x1)] [.int w16_0] I13 (mm_qi 87 P) := by
      intro w16_0 e16_0
      subst e16_0
      exact w_zreturn rfl rfl H
    refine w_icmp_ge (n := 19) rfl rfl ⟨fun hc => ?_, fun hc => ?_⟩
    · refine w_iconst (v := 0) (n := 24) rfl rfl rfl ?_
      refine w_drp mm_Qf_i (J16 _ ?_) (lb_s (lb_s lb_e))
      · exact (if_pos hc).symm
    · refine w_iconst (v := 1) (n := 20) rfl rfl rfl ?_
      refine w_goto rfl ?_
      refine w_drp mm_Qf_i (J16 _ ?_) (lb_s (lb_s lb_e))
      · exact (if_neg (fa_nle hc)).symm
theorem e_WS_plannedRow {P : Option Nat → mm_I → Prop} {I : mm_I} (x1 : Int32) (x2 : Int32)
  (H : (x2 < 0 →
      P none I) ∧
    (0 ≤ x2 →
      ((I 3 2) ≤ x2 →
        P none I) ∧
      (x2 < (I 3 2) →
        mm_Mi 87 [.ref 0, .int x1] I (fun r17 I17 =>  -- WS.hasFrame
        (¬ r17 = 0 →
          mm_Mv 11 [.ref 10, .ref 3, .ref 6, .int (I17 0 7), .int x1, .int (I17 0 8), .int (I17 0 9)] I17 (fun I50 =>  -- Plan.make
          (¬ x2 = 0 →
            mm_Mr 15 [.ref 10, .int (I50 10 6)] I50 (fun r85 I85 =>  -- Plan.secondRow
            ∃ aa85, r85 = some aa85 ∧ (aa85 = 22 ∨ aa85 = 28 ∨ aa85 = 34 ∨ aa85 = 40) ∧
            P (some aa85) I85)) ∧
          (x2 = 0 →
            mm_Mr 14 [.ref 10, .int (I50 10 6)] I50 (fun r68 I68 =>  -- Plan.firstRow
            ∃ aa68, r68 = some aa68 ∧ (aa68 = 22 ∨ aa68 = 28 ∨ aa68 = 34 ∨ aa68 = 40) ∧
            P (some aa68) I68)))) ∧
        (r17 = 0 →
          P none I17))))) : mm_Mr 88 [.ref 0, .int x1, .int x2] I P := by
  refine mm_Mr_of ?_
  show mm_W 88 0 [some (.ref 0), some (.int x1), some (.int x2)] [] I (mm_qr 88 P)
  refine w_iload_n (n := 1) rfl rfl rfl ?_
  refine w_if_lt (n := 4) rfl rfl ⟨fun hc => ?_, fun hc => ?_⟩
  · replace H := H.1 hc
    refine w_null (n := 24) rfl rfl ?_
    exact w_areturn (x := none) rfl rfl H
  · replace H := H.2 hc
    refine w_iload_n (n := 5) rfl rfl rfl ?_
    refine w_aload_nR (x := 0) (n := 6) rfl rfl rfl ?_
    refine w_getR (b := 3) (n := 9) rfl rfl rfl rfl rfl ?_
    refine w_getI (n := 12) rfl rfl rfl rfl ?_
    refine w_icmp_ge (n := 15) rfl rfl ⟨fun hc => ?_, fun hc => ?_⟩
    · replace H := H.1 hc
      refine w_null (n := 24) rfl rfl ?_
      exact w_areturn (x := none) rfl rfl H
    · replace H := H.2 hc
      refine w_aload_nR (x := 0) (n := 16) rfl rfl rfl ?_
      refine w_iload_n (n := 17) rfl rfl rfl ?_
      refine w_calli (as := [.ref 0, .int x1]) (rest := []) (n := 20) rfl rfl rfl rfl ?_
      obtain ⟨r17, I17, hI17, H⟩ := H
      refine ⟨r17, I17, hI17, ?_⟩
      refine w_if_ne (n := 23) rfl rfl ⟨fun hc => ?_, fun hc => ?_⟩
      · replace H := H.1 hc
        refine w_aload_nR (x := 0) (n := 26) rfl rfl rfl ?_
        refine w_getR (b := 10) (n := 29) rfl rfl rfl rfl rfl ?_
        refine w_aload_nR (x := 0) (n := 30) rfl rfl rfl ?_
        refine w_getR (b := 3) (n := 33) rfl rfl rfl rfl rfl ?_
        refine w_aload_nR (x := 0) (n := 34) rfl rfl rfl ?_
        refine w_getR (b := 6) (n := 37) rfl rfl rfl rfl rfl ?_
        refine w_aload_nR (x := 0) (n := 38) rfl rfl rfl ?_
        refine w_getI (n := 41) rfl rfl rfl rfl ?_
        refine w_iload_n (n := 42) rfl rfl rfl ?_
        refine w_aload_nR (x := 0) (n := 43) rfl rfl rfl ?_
        refine w_getI (n := 46) rfl rfl rfl rfl ?_
        refine w_aload_nR (x := 0) (n := 47) rfl rfl rfl ?_
        refine w_getI (n := 50) rfl rfl rfl rfl ?_
        refine w_callv (as := [.ref 10, .ref 3, .ref 6, .int (I17 0 7), .int x1, .int (I17 0 8), .int (I17 0 9)]) (rest := []) (n := 53) rfl rfl rfl rfl ?_
        obtain ⟨I50, hI50, H⟩ := H
        refine ⟨I50, hI50, ?_⟩
        refine w_iload_n (n := 54) rfl rfl rfl ?_
        refine w_if_ne (n := 57) rfl rfl ⟨fun hc => ?_, fun hc => ?_⟩
        · replace H := H.1 hc
          refine w_aload_nR (x := 0) (n := 75) rfl rfl rfl ?_
          refine w_getR (b := 10) (n := 78) rfl rfl rfl rfl rfl ?_
          refine w_aload_nR (x := 0) (n := 79) rfl rfl rfl ?_
          refine w_getR (b := 10) (n := 82) rfl rfl rfl rfl rfl ?_
          refine w_getI (n := 85) rfl rfl rfl rfl ?_
          refine w_callr (as := [.ref 10, .int (I50 10 6)]) (rest := []) (n := 88) rfl rfl rfl rfl ?_
          obtain ⟨r85, I85, hI85, H⟩ := H
          refine ⟨r85, I85, hI85, ?_⟩
          obtain ⟨aa85, rfl, haa85, H⟩ := H
          rcases haa85 with rfl | rfl | rfl | rfl
          · exact w_areturn (x := (some 22)) rfl rfl H
          · exact w_areturn (x := (some 28)) rfl rfl H
          · exact w_areturn (x := (some 34)) rfl rfl H
          · exact w_areturn (x := (some 40)) rfl rfl H
        · replace H := H.2 hc
          refine w_aload_nR (x := 0) (n := 58) rfl rfl rfl ?_
          refine w_getR (b := 10) (n := 61) rfl rfl rfl rfl rfl ?_
          refine w_aload_nR (x := 0) (n := 62) rfl rfl rfl ?_
          refine w_getR (b := 10) (n := 65) rfl rfl rfl rfl rfl ?_
          refine w_getI (n := 68) rfl rfl rfl rfl ?_
          refine w_callr (as := [.ref 10, .int (I50 10 6)]) (rest := []) (n := 71) rfl rfl rfl rfl ?_
          obtain ⟨r68, I68, hI68, H⟩ := H
          refine ⟨r68, I68, hI68, ?_⟩
          obtain ⟨aa68, rfl, haa68, H⟩ := H
          rcases haa68 with rfl | rfl | rfl | rfl
          · refine w_goto rfl ?_
            exact w_areturn (x := (some 22)) rfl rfl H
          · refine w_goto rfl ?_
            exact w_areturn (x := (some 28)) rfl rfl H
          · refine w_goto rfl ?_
            exact w_areturn (x := (some 34)) rfl rfl H
          · refine w_goto rfl ?_
            exact w_areturn (x := (some 40)) rfl rfl H
      · replace H := H.2 hc
        refine w_null (n := 24) rfl rfl ?_
        exact w_areturn (x := none) rfl rfl H
theorem e_WS_canTry {P : Int32 → mm_I → Prop} {I : mm_I} {rr : Nat} (hs0 : rr = 22 ∨ rr = 28 ∨ rr = 34 ∨ rr = 40) (x2 : Int32)
  (H : (0 ≤ x2 →
      (x2 < 8 →
        vp_in x2 8 ∧
        True) ∧
      True) ∧
    ((if x2 < 0 then (0 : Int32) else (if 8 ≤ x2 then (0 : Int32) else (if (I rr 1) ≤ (I 8 x2.toNatClampNeg) then (0 : Int32) else 1))) = 0 ∨ (if x2 < 0 then (0 : Int32) else (if 8 ≤ x2 then (0 : Int32) else (if (I rr 1) ≤ (I 8 x2.toNatClampNeg) then (0 : Int32) else 1))) = 1) ∧ P (if x2 < 0 then (0 : Int32) else (if 8 ≤ x2 then (0 : Int32) else (if (I rr 1) ≤ (I 8 x2.toNatClampNeg) then (0 : Int32) else 1))) I) : mm_Mi 89 [.ref 0, .ref rr, .int x2] I P := by
  rcases hs0 with rfl | rfl | rfl | rfl
  · refine mm_Mi_of ?_
    show mm_W 89 0 [some (.ref 0), some (.ref 22), some (.int x2)] [] I (mm_qi 89 P)
    refine w_iload_n (n := 1) rfl rfl rfl ?_
    obtain ⟨K2, H⟩ := H
    have J1 : ∀ (w1_0 : Int32), w1_0 = (if x2 < 0 then (0 : Int32) else (if 8 ≤ x2 then (0 : Int32) else (if (I 22 1) ≤ (I 8 x2.toNatClampNeg) then (0 : Int32) else 1))) → mm_W 89 31 [some (.ref 0), some (.ref 22), some (.int x2)] [.int w1_0] I (mm_qi 89 P) := by
      intro w1_0 e1_0
      subst e1_0
      exact w_zreturn rfl rfl H
    refine w_if_lt (n := 4) rfl rfl ⟨fun hc => ?_, fun hc => ?_⟩
    · refine w_iconst (v := 0) (n := 31) rfl rfl rfl ?_
      refine w_drp mm_Qf_i (J1 _ ?_) (lb_s (lb_s (lb_s lb_e)))
      · exact (if_pos hc).symm
    · have H := K2 hc
      refine w_iload_n (n := 5) rfl rfl rfl ?_
      refine w_bipush (v := 8) (n := 7) rfl rfl rfl ?_
      obtain ⟨K2, H⟩ := H
      have J7 : ∀ (w7_0 : Int32), w7_0 = (if 8 ≤ x2 then (0 : Int32) else (if (I 22 1) ≤ (I 8 x2.toNatClampNeg) then (0 : Int32) else 1)) → mm_W 89 31 [some (.ref 0), some (.ref 22), some (.int x2)] [.int w7_0] I (mm_qi 89 P) := by
        intro w7_0 e7_0
        subst e7_0
        refine w_drp mm_Qf_i (J1 _ ?_) (lb_s (lb_s (lb_s lb_e)))
        · exact (if_neg (fa_nlt hc)).symm
      refine w_icmp_ge (n := 10) rfl rfl ⟨fun hc => ?_, fun hc => ?_⟩
      · refine w_iconst (v := 0) (n := 31) rfl rfl rfl ?_
        refine w_drp mm_Qf_i (J7 _ ?_) (lb_s (lb_s (lb_s lb_e)))
        · exact (if_pos hc).symm
      · have H := K2 hc
        refine w_aload_nR (x := 0) (n := 11) rfl rfl rfl ?_
        refine w_getR (b := 6) (n := 14) rfl rfl rfl rfl rfl ?_
        refine w_getR (b := 8) (n := 17) rfl rfl rfl rfl rfl ?_
        refine w_iload_n (n := 18) rfl rfl rfl ?_
        refine w_iaload (N := 8) (j := x2.toNatClampNeg) (n := 19) rfl rfl rfl rfl rfl rfl ⟨H.1, ?_⟩
        replace H := H.2
        refine w_aload_nR (x := 22) (n := 20) rfl rfl rfl ?_
        refine w_getI (n := 23) rfl rfl rfl rfl ?_
        have J23 : ∀ (w23_0 : Int32), w23_0 = (if (I 22 1) ≤ (I 8 x2.toNatClampNeg) then (0 : Int32) else 1) → mm_W 89 31 [some (.ref 0), some (.ref 22), some (.int x2)] [.int w23_0] I (mm_qi 89 P) := by
          intro w23_0 e23_0
          subst e23_0
          refine w_drp mm_Qf_i (J7 _ ?_) (lb_s (lb_s (lb_s lb_e)))
          · exact (if_neg (fa_nle hc)).symm
        refine w_icmp_ge (n := 26) rfl rfl ⟨fun hc => ?_, fun hc => ?_⟩
        · refine w_iconst (v := 0) (n := 31) rfl rfl rfl ?_
          refine w_drp mm_Qf_i (J23 _ ?_) (lb_s (lb_s (lb_s lb_e)))
          · exact (if_pos hc).symm
        · refine w_iconst (v := 1) (n := 27) rfl rfl rfl ?_
          refine w_goto rfl ?_
          refine w_drp mm_Qf_i (J23 _ ?_) (lb_s (lb_s (lb_s lb_e)))
          · exact (if_neg (fa_nle hc)).symm
  · refine mm_Mi_of ?_
    show mm_W 89 0 [some (.ref 0), some (.ref 28), some (.int x2)] [] I (mm_qi 89 P)
    refine w_iload_n (n := 1) rfl rfl rfl ?_
    obtain ⟨K2, H⟩ := H
    have J1 : ∀ (w1_0 : Int32), w1_0 = (if x2 < 0 then (0 : Int32) else (if 8 ≤ x2 then (0 : Int32) else (if (I 28 1) ≤ (I 8 x2.toNatClampNeg) then (0 : Int32) else 1))) → mm_W 89 31 [some (.ref 0), some (.ref 28), some (.int x2)] [.int w1_0] I (mm_qi 89 P) := by
      intro w1_0 e1_0
      subst e1_0
      exact w_zreturn rfl rfl H
    refine w_if_lt (n := 4) rfl rfl ⟨fun hc => ?_, fun hc => ?_⟩
    · refine w_iconst (v := 0) (n := 31) rfl rfl rfl ?_
      refine w_drp mm_Qf_i (J1 _ ?_) (lb_s (lb_s (lb_s lb_e)))
      · exact (if_pos hc).symm
    · have H := K2 hc
      refine w_iload_n (n := 5) rfl rfl rfl ?_
      refine w_bipush (v := 8) (n := 7) rfl rfl rfl ?_
      obtain ⟨K2, H⟩ := H
      have J7 : ∀ (w7_0 : Int32), w7_0 = (if 8 ≤ x2 then (0 : Int32) else (if (I 28 1) ≤ (I 8 x2.toNatClampNeg) then (0 : Int32) else 1)) → mm_W 89 31 [some (.ref 0), some (.ref 28), some (.int x2)] [.int w7_0] I (mm_qi 89 P) := by
        intro w7_0 e7_0
        subst e7_0
        refine w_drp mm_Qf_i (J1 _ ?_) (lb_s (lb_s (lb_s lb_e)))
        · exact (if_neg (fa_nlt hc)).symm
      refine w_icmp_ge (n := 10) rfl rfl ⟨fun hc => ?_, fun hc => ?_⟩
      · refine w_iconst (v := 0) (n := 31) rfl rfl rfl ?_
        refine w_drp mm_Qf_i (J7 _ ?_) (lb_s (lb_s (lb_s lb_e)))
        · exact (if_pos hc).symm
      · have H := K2 hc
        refine w_aload_nR (x := 0) (n := 11) rfl rfl rfl ?_
        refine w_getR (b := 6) (n := 14) rfl rfl rfl rfl rfl ?_
        refine w_getR (b := 8) (n := 17) rfl rfl rfl rfl rfl ?_
        refine w_iload_n (n := 18) rfl rfl rfl ?_
        refine w_iaload (N := 8) (j := x2.toNatClampNeg) (n := 19) rfl rfl rfl rfl rfl rfl ⟨H.1, ?_⟩
        replace H := H.2
        refine w_aload_nR (x := 28) (n := 20) rfl rfl rfl ?_
        refine w_getI (n := 23) rfl rfl rfl rfl ?_
        have J23 : ∀ (w23_0 : Int32), w23_0 = (if (I 28 1) ≤ (I 8 x2.toNatClampNeg) then (0 : Int32) else 1) → mm_W 89 31 [some (.ref 0), some (.ref 28), some (.int x2)] [.int w23_0] I (mm_qi 89 P) := by
          intro w23_0 e23_0
          subst e23_0
          refine w_drp mm_Qf_i (J7 _ ?_) (lb_s (lb_s (lb_s lb_e)))
          · exact (if_neg (fa_nle hc)).symm
        refine w_icmp_ge (n := 26) rfl rfl ⟨fun hc => ?_, fun hc => ?_⟩
        · refine w_iconst (v := 0) (n := 31) rfl rfl rfl ?_
          refine w_drp mm_Qf_i (J23 _ ?_) (lb_s (lb_s (lb_s lb_e)))
          · exact (if_pos hc).symm
        · refine w_iconst (v := 1) (n := 27) rfl rfl rfl ?_
          refine w_goto rfl ?_
          refine w_drp mm_Qf_i (J23 _ ?_) (lb_s (lb_s (lb_s lb_e)))
          · exact (if_neg (fa_nle hc)).symm
  · refine mm_Mi_of ?_
    show mm_W 89 0 [some (.ref 0), some (.ref 34), some (.int x2)] [] I (mm_qi 89 P)
    refine w_iload_n (n := 1) rfl rfl rfl ?_
    obtain ⟨K2, H⟩ := H
    have J1 : ∀ (w1_0 : Int32), w1_0 = (if x2 < 0 then (0 : Int32) else (if 8 ≤ x2 then (0 : Int32) else (if (I 34 1) ≤ (I 8 x2.toNatClampNeg) then (0 : Int32) else 1))) → mm_W 89 31 [some (.ref 0), some (.ref 34), some (.int x2)] [.int w1_0] I (mm_qi 89 P) := by
      intro w1_0 e1_0
      subst e1_0
      exact w_zreturn rfl rfl H
    refine w_if_lt (n := 4) rfl rfl ⟨fun hc => ?_, fun hc => ?_⟩
    · refine w_iconst (v := 0) (n := 31) rfl rfl rfl ?_
      refine w_drp mm_Qf_i (J1 _ ?_) (lb_s (lb_s (lb_s lb_e)))
      · exact (if_pos hc).symm
    · have H := K2 hc
      refine w_iload_n (n := 5) rfl rfl rfl ?_
      refine w_bipush (v := 8) (n := 7) rfl rfl rfl ?_
      obtain ⟨K2, H⟩ := H
      have J7 : ∀ (w7_0 : Int32), w7_0 = (if 8 ≤ x2 then (0 : Int32) else (if (I 34 1) ≤ (I 8 x2.toNatClampNeg) then (0 : Int32) else 1)) → mm_W 89 31 [some (.ref 0), some (.ref 34), some (.int x2)] [.int w7_0] I (mm_qi 89 P) := by
        intro w7_0 e7_0
        subst e7_0
        refine w_drp mm_Qf_i (J1 _ ?_) (lb_s (lb_s (lb_s lb_e)))
        · exact (if_neg (fa_nlt hc)).symm
      refine w_icmp_ge (n := 10) rfl rfl ⟨fun hc => ?_, fun hc => ?_⟩
      · refine w_iconst (v := 0) (n := 31) rfl rfl rfl ?_
        refine w_drp mm_Qf_i (J7 _ ?_) (lb_s (lb_s (lb_s lb_e)))
        · exact (if_pos hc).symm
      · have H := K2 hc
        refine w_aload_nR (x := 0) (n := 11) rfl rfl rfl ?_
        refine w_getR (b := 6) (n := 14) rfl rfl rfl rfl rfl ?_
        refine w_getR (b := 8) (n := 17) rfl rfl rfl rfl rfl ?_
        refine w_iload_n (n := 18) rfl rfl rfl ?_
        refine w_iaload (N := 8) (j := x2.toNatClampNeg) (n := 19) rfl rfl rfl rfl rfl rfl ⟨H.1, ?_⟩
        replace H := H.2
        refine w_aload_nR (x := 34) (n := 20) rfl rfl rfl ?_
        refine w_getI (n := 23) rfl rfl rfl rfl ?_
        have J23 : ∀ (w23_0 : Int32), w23_0 = (if (I 34 1) ≤ (I 8 x2.toNatClampNeg) then (0 : Int32) else 1) → mm_W 89 31 [some (.ref 0), some (.ref 34), some (.int x2)] [.int w23_0] I (mm_qi 89 P) := by
          intro w23_0 e23_0
          subst e23_0
          refine w_drp mm_Qf_i (J7 _ ?_) (lb_s (lb_s (lb_s lb_e)))
          · exact (if_neg (fa_nle hc)).symm
        refine w_icmp_ge (n := 26) rfl rfl ⟨fun hc => ?_, fun hc => ?_⟩
        · refine w_iconst (v := 0) (n := 31) rfl rfl rfl ?_
          refine w_drp mm_Qf_i (J23 _ ?_) (lb_s (lb_s (lb_s lb_e)))
          · exact (if_pos hc).symm
        · refine w_iconst (v := 1) (n := 27) rfl rfl rfl ?_
          refine w_goto rfl ?_
          refine w_drp mm_Qf_i (J23 _ ?_) (lb_s (lb_s (lb_s lb_e)))
          · exact (if_neg (fa_nle hc)).symm
  · refine mm_Mi_of ?_
    show mm_W 89 0 [some (.ref 0), some (.ref 40), some (.int x2)] [] I (mm_qi 89 P)
    refine w_iload_n (n := 1) rfl rfl rfl ?_
    obtain ⟨K2, H⟩ := H
    have J1 : ∀ (w1_0 : Int32), w1_0 = (if x2 < 0 then (0 : Int32) else (if 8 ≤ x2 then (0 : Int32) else (if (I 40 1) ≤ (I 8 x2.toNatClampNeg) then (0 : Int32) else 1))) → mm_W 89 31 [some (.ref 0), some (.ref 40), some (.int x2)] [.int w1_0] I (mm_qi 89 P) := by
      intro w1_0 e1_0
      subst e1_0
      exact w_zreturn rfl rfl H
    refine w_if_lt (n := 4) rfl rfl ⟨fun hc => ?_, fun hc => ?_⟩
    · refine w_iconst (v := 0) (n := 31) rfl rfl rfl ?_
      refine w_drp mm_Qf_i (J1 _ ?_) (lb_s (lb_s (lb_s lb_e)))
      · exact (if_pos hc).symm
    · have H := K2 hc
      refine w_iload_n (n := 5) rfl rfl rfl ?_
      refine w_bipush (v := 8) (n := 7) rfl rfl rfl ?_
      obtain ⟨K2, H⟩ := H
      have J7 : ∀ (w7_0 : Int32), w7_0 = (if 8 ≤ x2 then (0 : Int32) else (if (I 40 1) ≤ (I 8 x2.toNatClampNeg) then (0 : Int32) else 1)) → mm_W 89 31 [some (.ref 0), some (.ref 40), some (.int x2)] [.int w7_0] I (mm_qi 89 P) := by
        intro w7_0 e7_0
        subst e7_0
        refine w_drp mm_Qf_i (J1 _ ?_) (lb_s (lb_s (lb_s lb_e)))
        · exact (if_neg (fa_nlt hc)).symm
      refine w_icmp_ge (n := 10) rfl rfl ⟨fun hc => ?_, fun hc => ?_⟩
      · refine w_iconst (v := 0) (n := 31) rfl rfl rfl ?_
        refine w_drp mm_Qf_i (J7 _ ?_) (lb_s (lb_s (lb_s lb_e)))
        · exact (if_pos hc).symm
      · have H := K2 hc
        refine w_aload_nR (x := 0) (n := 11) rfl rfl rfl ?_
        refine w_getR (b := 6) (n := 14) rfl rfl rfl rfl rfl ?_
        refine w_getR (b := 8) (n := 17) rfl rfl rfl rfl rfl ?_
        refine w_iload_n (n := 18) rfl rfl rfl ?_
        refine w_iaload (N := 8) (j := x2.toNatClampNeg) (n := 19) rfl rfl rfl rfl rfl rfl ⟨H.1, ?_⟩
        replace H := H.2
        refine w_aload_nR (x := 40) (n := 20) rfl rfl rfl ?_
        refine w_getI (n := 23) rfl rfl rfl rfl ?_
        have J23 : ∀ (w23_0 : Int32), w23_0 = (if (I 40 1) ≤ (I 8 x2.toNatClampNeg) then (0 : Int32) else 1) → mm_W 89 31 [some (.ref 0), some (.ref 40), some (.int x2)] [.int w23_0] I (mm_qi 89 P) := by
          intro w23_0 e23_0
          subst e23_0
          refine w_drp mm_Qf_i (J7 _ ?_) (lb_s (lb_s (lb_s lb_e)))
          · exact (if_neg (fa_nle hc)).symm
        refine w_icmp_ge (n := 26) rfl rfl ⟨fun hc => ?_, fun hc => ?_⟩
        · refine w_iconst (v := 0) (n := 31) rfl rfl rfl ?_
          refine w_drp mm_Qf_i (J23 _ ?_) (lb_s (lb_s (lb_s lb_e)))
          · exact (if_pos hc).symm
        · refine w_iconst (v := 1) (n := 27) rfl rfl rfl ?_
          refine w_goto rfl ?_
          refine w_drp mm_Qf_i (J23 _ ?_) (lb_s (lb_s (lb_s lb_e)))
          · exact (if_neg (fa_nle hc)).symm
theorem e_WS_size {P : Int32 → mm_I → Prop} {I : mm_I}
  (H : mm_Mi 54 [.ref 3] I (fun r4 I4 =>  -- Sound.ready
    (r4 = 0 →
      P (-1) I4) ∧
    (¬ r4 = 0 →
      mm_Mi 94 [.ref 0, .int (I4 0 7), .int (I4 0 9)] I4 (fun r19 I19 =>  -- WS.packedSize
      P r19 I19)))) : mm_Mi 90 [.ref 0] I P := by
  refine mm_Mi_of ?_
  show mm_W 90 0 [some (.ref 0)] [] I (mm_qi 90 P)
  refine w_aload_nR (x := 0) (n := 1) rfl rfl rfl ?_
  refine w_getR (b := 3) (n := 4) rfl rfl rfl rfl rfl ?_
  refine w_calli (as := [.ref 3]) (rest := []) (n := 7) rfl rfl rfl rfl ?_
  obtain ⟨r4, I4, hI4, H⟩ := H
  refine ⟨r4, I4, hI4, ?_⟩
  refine w_if_eq (n := 10) rfl rfl ⟨fun hc => ?_, fun hc => ?_⟩
  · replace H := H.1 hc
    refine w_iconst (v := (-1)) (n := 26) rfl rfl rfl ?_
    exact w_ireturn rfl rfl H
  · replace H := H.2 hc
    refine w_aload_nR (x := 0) (n := 11) rfl rfl rfl ?_
    refine w_aload_nR (x := 0) (n := 12) rfl rfl rfl ?_
    refine w_getI (n := 15) rfl rfl rfl rfl ?_
    refine w_aload_nR (x := 0) (n := 16) rfl rfl rfl ?_
    refine w_getI (n := 19) rfl rfl rfl rfl ?_
    refine w_calli (as := [.ref 0, .int (I4 0 7), .int (I4 0 9)]) (rest := []) (n := 22) rfl rfl rfl rfl ?_
    obtain ⟨r19, I19, hI19, H⟩ := H
    refine ⟨r19, I19, hI19, ?_⟩
    refine w_goto rfl ?_
    exact w_ireturn rfl rfl H
theorem e_WS_sized {P : Int32 → mm_I → Prop} {I : mm_I} (x1 : Int32)
  (H : mm_Mi 54 [.ref 3] I (fun r4 I4 =>  -- Sound.ready
    (r4 = 0 →
      P (-1) I4) ∧
    (¬ r4 = 0 →
      mm_Mi 118 [.int x1] I4 (fun r11 I11 =>  -- WS.isFrame
      (r11 = 0 →
        P (-1) I11) ∧
      (¬ r11 = 0 →
        mm_Mi 94 [.ref 0, .int x1, .int (I11 0 9)] I11 (fun r23 I23 =>  -- WS.packedSize
        P r23 I23)))))) : mm_Mi 91 [.ref 0, .int x1] I P := by
  refine mm_Mi_of ?_
  show mm_W 91 0 [some (.ref 0), some (.int x1)] [] I (mm_qi 91 P)
  refine w_aload_nR (x := 0) (n := 1) rfl rfl rfl ?_
  refine w_getR (b := 3) (n := 4) rfl rfl rfl rfl rfl ?_
  refine w_calli (as := [.ref 3]) (rest := []) (n := 7) rfl rfl rfl rfl ?_
  obtain ⟨r4, I4, hI4, H⟩ := H
  refine ⟨r4, I4, hI4, ?_⟩
  refine w_if_eq (n := 10) rfl rfl ⟨fun hc => ?_, fun hc => ?_⟩
  · replace H := H.1 hc
    refine w_iconst (v := (-1)) (n := 30) rfl rfl rfl ?_
    exact w_ireturn rfl rfl H
  · replace H := H.2 hc
    refine w_iload_n (n := 11) rfl rfl rfl ?_
    refine w_calli (as := [.int x1]) (rest := []) (n := 14) rfl rfl rfl rfl ?_
    obtain ⟨r11, I11, hI11, H⟩ := H
    refine ⟨r11, I11, hI11, ?_⟩
    refine w_if_eq (n := 17) rfl rfl ⟨fun hc => ?_, fun hc => ?_⟩
    · replace H := H.1 hc
      refine w_iconst (v := (-1)) (n := 30) rfl rfl rfl ?_
      exact w_ireturn rfl rfl H
    · replace H := H.2 hc
      refine w_aload_nR (x := 0) (n := 18) rfl rfl rfl ?_
      refine w_iload_n (n := 19) rfl rfl rfl ?_
      refine w_aload_nR (x := 0) (n := 20) rfl rfl rfl ?_
      refine w_getI (n := 23) rfl rfl rfl rfl ?_
      refine w_calli (as := [.ref 0, .int x1, .int (I11 0 9)]) (rest := []) (n := 26) rfl rfl rfl rfl ?_
      obtain ⟨r23, I23, hI23, H⟩ := H
      refine ⟨r23, I23, hI23, ?_⟩
      refine w_goto rfl ?_
      exact w_ireturn rfl rfl H
theorem e_WS_without {P : Int32 → mm_I → Prop} {I : mm_I} (x1 : Int32)
  (H : mm_Mi 54 [.ref 3] I (fun r4 I4 =>  -- Sound.ready
    (r4 = 0 →
      P (-1) I4) ∧
    (¬ r4 = 0 →
      (x1 < 1 →
        P (-1) I4) ∧
      (1 ≤ x1 →
        (x1 < 8 →
          mm_Mi 94 [.ref 0, .int (I4 0 7), .int ((I4 0 9) &&& ((1 <<< (x1 &&& 31)) ^^^ (-1)))] I4 (fun r38 I38 =>  -- WS.packedSize
          P r38 I38)) ∧
        (8 ≤ x1 →
          P (-1) I4))))) : mm_Mi 92 [.ref 0, .int x1] I P := by
  refine mm_Mi_of ?_
  show mm_W 92 0 [some (.ref 0), some (.int x1)] [] I (mm_qi 92 P)
  refine w_aload_nR (x := 0) (n := 1) rfl rfl rfl ?_
  refine w_getR (b := 3) (n := 4) rfl rfl rfl rfl rfl ?_
  refine w_calli (as := [.ref 3]) (rest := []) (n := 7) rfl rfl rfl rfl ?_
  obtain ⟨r4, I4, hI4, H⟩ := H
  refine ⟨r4, I4, hI4, ?_⟩
  refine w_if_eq (n := 10) rfl rfl ⟨fun hc => ?_, fun hc => ?_⟩
  · replace H := H.1 hc
    refine w_iconst (v := (-1)) (n := 22) rfl rfl rfl ?_
    exact w_ireturn rfl rfl H
  · replace H := H.2 hc
    refine w_iload_n (n := 11) rfl rfl rfl ?_
    refine w_iconst (v := 1) (n := 12) rfl rfl rfl ?_
    refine w_icmp_lt (n := 15) rfl rfl ⟨fun hc => ?_, fun hc => ?_⟩
    · replace H := H.1 hc
      refine w_iconst (v := (-1)) (n := 22) rfl rfl rfl ?_
      exact w_ireturn rfl rfl H
    · replace H := H.2 hc
      refine w_iload_n (n := 16) rfl rfl rfl ?_
      refine w_bipush (v := 8) (n := 18) rfl rfl rfl ?_
      refine w_icmp_lt (n := 21) rfl rfl ⟨fun hc => ?_, fun hc => ?_⟩
      · replace H := H.1 hc
        refine w_aload_nR (x := 0) (n := 24) rfl rfl rfl ?_
        refine w_aload_nR (x := 0) (n := 25) rfl rfl rfl ?_
        refine w_getI (n := 28) rfl rfl rfl rfl ?_
        refine w_aload_nR (x := 0) (n := 29) rfl rfl rfl ?_
        refine w_getI (n := 32) rfl rfl rfl rfl ?_
        refine w_iconst (v := 1) (n := 33) rfl rfl rfl ?_
        refine w_iload_n (n := 34) rfl rfl rfl ?_
        refine w_ishl (n := 35) rfl rfl ?_
        refine w_iconst (v := (-1)) (n := 36) rfl rfl rfl ?_
        refine w_ixor (n := 37) rfl rfl ?_
        refine w_iand (n := 38) rfl rfl ?_
        refine w_calli (as := [.ref 0, .int (I4 0 7), .int ((I4 0 9) &&& ((1 <<< (x1 &&& 31)) ^^^ (-1)))]) (rest := []) (n := 41) rfl rfl rfl rfl ?_
        obtain ⟨r38, I38, hI38, H⟩ := H
        refine ⟨r38, I38, hI38, ?_⟩
        exact w_ireturn rfl rfl H
      · replace H := H.2 hc
        refine w_iconst (v := (-1)) (n := 22) rfl rfl rfl ?_
        exact w_ireturn rfl rfl H
theorem e_WS_best {P : Int32 → mm_I → Prop} {I : mm_I}
  (H : mm_Mi 54 [.ref 3] I (fun r4 I4 =>  -- Sound.ready
    (¬ r4 = 0 →
      mm_Mi 94 [.ref 0, .int 16, .int (I4 0 9)] I4 (fun r22 I22 =>  -- WS.packedSize
      mm_W 93 29 [some (.ref 0), some (.int 16), some (.int r22), some (.int 24), none] [] I22 (mm_qi 93 P))) ∧
    (r4 = 0 →
      P (-1) I4))) : mm_Mi 93 [.ref 0] I P := by
  refine mm_Mi_of ?_
  show mm_W 93 0 [some (.ref 0), none, none, none, none] [] I (mm_qi 93 P)
  refine w_aload_nR (x := 0) (n := 1) rfl rfl rfl ?_
  refine w_getR (b := 3) (n := 4) rfl rfl rfl rfl rfl ?_
  refine w_calli (as := [.ref 3]) (rest := []) (n := 7) rfl rfl rfl rfl ?_
  obtain ⟨r4, I4, hI4, H⟩ := H
  refine ⟨r4, I4, hI4, ?_⟩
  refine w_if_ne (n := 10) rfl rfl ⟨fun hc => ?_, fun hc => ?_⟩
  · replace H := H.1 hc
    refine w_bipush (v := 16) (n := 14) rfl rfl rfl ?_
    refine w_istore_n (ls' := [some (.ref 0), some (.int 16), none, none, none]) (n := 15) rfl rfl rfl rfl ?_
    refine w_aload_nR (x := 0) (n := 16) rfl rfl rfl ?_
    refine w_bipush (v := 16) (n := 18) rfl rfl rfl ?_
    refine w_aload_nR (x := 0) (n := 19) rfl rfl rfl ?_
    refine w_getI (n := 22) rfl rfl rfl rfl ?_
    refine w_calli (as := [.ref 0, .int 16, .int (I4 0 9)]) (rest := []) (n := 25) rfl rfl rfl rfl ?_
    obtain ⟨r22, I22, hI22, H⟩ := H
    refine ⟨r22, I22, hI22, ?_⟩
    refine w_istore_n (ls' := [some (.ref 0), some (.int 16), some (.int r22), none, none]) (n := 26) rfl rfl rfl rfl ?_
    refine w_bipush (v := 24) (n := 28) rfl rfl rfl ?_
    refine w_istore_n (ls' := [some (.ref 0), some (.int 16), some (.int r22), some (.int 24), none]) (n := 29) rfl rfl rfl rfl ?_
    exact w_drp mm_Qf_i H (lb_s (lb_s (lb_s (lb_s (lb_n lb_e)))))
  · replace H := H.2 hc
    refine w_iconst (v := (-1)) (n := 11) rfl rfl rfl ?_
    exact w_ireturn rfl rfl H
theorem c_WS_best_29 {P : Int32 → mm_I → Prop} {I : mm_I} (x1 : Int32) (x2 : Int32) (x3 : Int32)
  (H : (64 < x3 →
      P x1 I) ∧
    (x3 ≤ 64 →
      mm_Mi 94 [.ref 0, .int x3, .int (I 0 9)] I (fun r41 I41 =>  -- WS.packedSize
      mm_W 93 29 [some (.ref 0), some (.int (if x2 ≤ r41 then (x1 : Int32) else x3)), some (.int (if x2 ≤ r41 then (x2 : Int32) else r41)), some (.int (x3 + 8)), none] [] I41 (mm_qi 93 P)))) : mm_W 93 29 [some (.ref 0), some (.int x1), some (.int x2), some (.int x3), none] [] I (mm_qi 93 P) := by
  refine w_iload_n (n := 30) rfl rfl rfl ?_
  refine w_bipush (v := 64) (n := 32) rfl rfl rfl ?_
  refine w_icmp_gt (n := 35) rfl rfl ⟨fun hc => ?_, fun hc => ?_⟩
  · replace H := H.1 hc
    refine w_iload_n (n := 64) rfl rfl rfl ?_
    exact w_ireturn rfl rfl H
  · replace H := H.2 hc
    refine w_aload_nR (x := 0) (n := 36) rfl rfl rfl ?_
    refine w_iload_n (n := 37) rfl rfl rfl ?_
    refine w_aload_nR (x := 0) (n := 38) rfl rfl rfl ?_
    refine w_getI (n := 41) rfl rfl rfl rfl ?_
    refine w_calli (as := [.ref 0, .int x3, .int (I 0 9)]) (rest := []) (n := 44) rfl rfl rfl rfl ?_
    obtain ⟨r41, I41, hI41, H⟩ := H
    refine ⟨r41, I41, hI41, ?_⟩
    refine w_istore (ls' := [some (.ref 0), some (.int x1), some (.int x2), some (.int x3), some (.int r41)]) (n := 46) rfl rfl rfl rfl ?_
    refine w_iload (n := 48) rfl rfl rfl ?_
    refine w_iload_n (n := 49) rfl rfl rfl ?_
    have J49 : ∀ (y49_1 : Int32) (y49_2 : Int32), y49_1 = (if x2 ≤ r41 then (x1 : Int32) else x3) → y49_2 = (if x2 ≤ r41 then (x2 : Int32) else r41) → mm_W 93 57 [some (.ref 0), some (.int y49_1), some (.int y49_2), some (.int x3), some (.int r41)] [] I41 (mm_qi 93 P) := by
      intro y49_1 y49_2 e49_0 e49_1
      subst e49_0
      subst e49_1
      refine w_iinc (y := x3 + 8) (ls' := [some (.ref 0), some (.int (if x2 ≤ r41 then (x1 : Int32) else x3)), some (.int (if x2 ≤ r41 then (x2 : Int32) else r41)), some (.int (x3 + 8)), some (.int r41)]) (n := 60) rfl rfl rfl rfl rfl ?_
      refine w_goto rfl ?_
      exact w_drp mm_Qf_i H (lb_s (lb_s (lb_s (lb_s (lb_n lb_e)))))
    refine w_icmp_ge (n := 52) rfl rfl ⟨fun hc => ?_, fun hc => ?_⟩
    · refine w_drp mm_Qf_i (J49 _ _ ?_ ?_) (lb_s (lb_s (lb_s (lb_s (lb_s lb_e)))))
      · exact (if_pos hc).symm
      · exact (if_pos hc).symm
    · refine w_iload (n := 54) rfl rfl rfl ?_
      refine w_istore_n (ls' := [some (.ref 0), some (.int x1), some (.int r41), some (.int x3), some (.int r41)]) (n := 55) rfl rfl rfl rfl ?_
      refine w_iload_n (n := 56) rfl rfl rfl ?_
      refine w_istore_n (ls' := [some (.ref 0), some (.int x3), some (.int r41), some (.int x3), some (.int r41)]) (n := 57) rfl rfl rfl rfl ?_
      refine w_drp mm_Qf_i (J49 _ _ ?_ ?_) (lb_s (lb_s (lb_s (lb_s (lb_s lb_e)))))
      · exact (if_neg (fa_nle hc)).symm
      · exact (if_neg (fa_nle hc)).symm
theorem e_WS_packedSize {P : Int32 → mm_I → Prop} {I : mm_I} (x1 : Int32) (x2 : Int32)
  (H : mm_Mi 55 [.ref 3, .int x1] I (fun r8 I8 =>  -- Sound.frames
    mm_W 94 16 [some (.ref 0), some (.int x1), some (.int x2), some (.int 21), some (.int r8), some (.int 0)] [] I8 (mm_qi 94 P))) : mm_Mi 94 [.ref 0, .int x1, .int x2] I P := by
  refine mm_Mi_of ?_
  show mm_W 94 0 [some (.ref 0), some (.int x1), some (.int x2), none, none, none] [] I (mm_qi 94 P)
  refine w_bipush (v := 21) (n := 2) rfl rfl rfl ?_
  refine w_istore_n (ls' := [some (.ref 0), some (.int x1), some (.int x2), some (.int 21), none, none]) (n := 3) rfl rfl rfl rfl ?_
  refine w_aload_nR (x := 0) (n := 4) rfl rfl rfl ?_
  refine w_getR (b := 3) (n := 7) rfl rfl rfl rfl rfl ?_
  refine w_iload_n (n := 8) rfl rfl rfl ?_
  refine w_calli (as := [.ref 3, .int x1]) (rest := []) (n := 11) rfl rfl rfl rfl ?_
  obtain ⟨r8, I8, hI8, H⟩ := H
  refine ⟨r8, I8, hI8, ?_⟩
  refine w_istore (ls' := [some (.ref 0), some (.int x1), some (.int x2), some (.int 21), some (.int r8), none]) (n := 13) rfl rfl rfl rfl ?_
  refine w_iconst (v := 0) (n := 14) rfl rfl rfl ?_
  refine w_istore (ls' := [some (.ref 0), some (.int x1), some (.int x2), some (.int 21), some (.int r8), some (.int 0)]) (n := 16) rfl rfl rfl rfl ?_
  exact w_drp mm_Qf_i H (lb_s (lb_s (lb_s (lb_s (lb_s (lb_s lb_e))))))
theorem c_WS_packedSize_16 {P : Int32 → mm_I → Prop} {I : mm_I} (x1 : Int32) (x2 : Int32) (x3 : Int32) (x4 : Int32) (x5 : Int32)
  (H : (x4 ≤ x5 →
      P x3 I) ∧
    (x5 < x4 →
      mm_Mv 11 [.ref 10, .ref 3, .ref 6, .int x1, .int x5, .int (I 0 8), .int x2] I (fun I43 =>  -- Plan.make
      mm_Mi 17 [.ref 10] I43 (fun r52 I52 =>  -- Plan.allBits
      mm_W 94 16 [some (.ref 0), some (.int x1), some (.int x2), some (.int (x3 + ((2 + ((r52 + 7) / 8)) + 2))), some (.int x4), some (.int (x5 + 1))] [] I52 (mm_qi 94 P))))) : mm_W 94 16 [some (.ref 0), some (.int x1), some (.int x2), some (.int x3), some (.int x4), some (.int x5)] [] I (mm_qi 94 P) := by
  refine w_iload (n := 18) rfl rfl rfl ?_
  refine w_iload (n := 20) rfl rfl rfl ?_
  refine w_icmp_ge (n := 23) rfl rfl ⟨fun hc => ?_, fun hc => ?_⟩
  · replace H := H.1 hc
    refine w_iload_n (n := 73) rfl rfl rfl ?_
    exact w_ireturn rfl rfl H
  · replace H := H.2 hc
    refine w_aload_nR (x := 0) (n := 24) rfl rfl rfl ?_
    refine w_getR (b := 10) (n := 27) rfl rfl rfl rfl rfl ?_
    refine w_aload_nR (x := 0) (n := 28) rfl rfl rfl ?_
    refine w_getR (b := 3) (n := 31) rfl rfl rfl rfl rfl ?_
    refine w_aload_nR (x := 0) (n := 32) rfl rfl rfl ?_
    refine w_getR (b := 6) (n := 35) rfl rfl rfl rfl rfl ?_
    refine w_iload_n (n := 36) rfl rfl rfl ?_
    refine w_iload (n := 38) rfl rfl rfl ?_
    refine w_aload_nR (x := 0) (n := 39) rfl rfl rfl ?_
    refine w_getI (n := 42) rfl rfl rfl rfl ?_
    refine w_iload_n (n := 43) rfl rfl rfl ?_
    refine w_callv (as := [.ref 10, .ref 3, .ref 6, .int x1, .int x5, .int (I 0 8), .int x2]) (rest := []) (n := 46) rfl rfl rfl rfl ?_
    obtain ⟨I43, hI43, H⟩ := H
    refine ⟨I43, hI43, ?_⟩
    refine w_iload_n (n := 47) rfl rfl rfl ?_
    refine w_iconst (v := 2) (n := 48) rfl rfl rfl ?_
    refine w_aload_nR (x := 0) (n := 49) rfl rfl rfl ?_
    refine w_getR (b := 10) (n := 52) rfl rfl rfl rfl rfl ?_
    refine w_calli (as := [.ref 10]) (rest := [.int 2, .int x3]) (n := 55) rfl rfl rfl rfl ?_
    obtain ⟨r52, I52, hI52, H⟩ := H
    refine ⟨r52, I52, hI52, ?_⟩
    refine w_bipush (v := 7) (n := 57) rfl rfl rfl ?_
    refine w_iadd (n := 58) rfl rfl ?_
    refine w_bipush (v := 8) (n := 60) rfl rfl rfl ?_
    refine w_idiv (n := 61) rfl rfl ⟨by decide, ?_⟩
    refine w_iadd (n := 62) rfl rfl ?_
    refine w_iconst (v := 2) (n := 63) rfl rfl rfl ?_
    refine w_iadd (n := 64) rfl rfl ?_
    refine w_iadd (n := 65) rfl rfl ?_
    refine w_istore_n (ls' := [some (.ref 0), some (.int x1), some (.int x2), some (.int (x3 + ((2 + ((r52 + 7) / 8)) + 2))), some (.int x4), some (.int x5)]) (n := 66) rfl rfl rfl rfl ?_
    refine w_iinc (y := x5 + 1) (ls' := [some (.ref 0), some (.int x1), some (.int x2), some (.int (x3 + ((2 + ((r52 + 7) / 8)) + 2))), some (.int x4), some (.int (x5 + 1))]) (n := 69) rfl rfl rfl rfl rfl ?_
    refine w_goto rfl ?_
    exact w_drp mm_Qf_i H (lb_s (lb_s (lb_s (lb_s (lb_s (lb_s lb_e))))))
theorem e_WS_pack {P : Int32 → mm_I → Prop} {I : mm_I}
  (H : mm_Mi 54 [.ref 3] I (fun r4 I4 =>  -- Sound.ready
    (¬ r4 = 0 →
      mm_Mv 96 [.ref 0] (mm_up I4 47 1 0) (fun I21 =>  -- WS.writeHead
      mm_Mi 55 [.ref 3, .int (I21 0 7)] I21 (fun r32 I32 =>  -- Sound.frames
      mm_W 95 38 [some (.ref 0), some (.int r32), some (.int 0)] [] I32 (mm_qi 95 P)))) ∧
    (r4 = 0 →
      P (-1) I4))) : mm_Mi 95 [.ref 0] I P := by
  refine mm_Mi_of ?_
  show mm_W 95 0 [some (.ref 0), none, none] [] I (mm_qi 95 P)
  refine w_aload_nR (x := 0) (n := 1) rfl rfl rfl ?_
  refine w_getR (b := 3) (n := 4) rfl rfl rfl rfl rfl ?_
  refine w_calli (as := [.ref 3]) (rest := []) (n := 7) rfl rfl rfl rfl ?_
  obtain ⟨r4, I4, hI4, H⟩ := H
  refine ⟨r4, I4, hI4, ?_⟩
  refine w_if_ne (n := 10) rfl rfl ⟨fun hc => ?_, fun hc => ?_⟩
  · replace H := H.1 hc
    refine w_aload_nR (x := 0) (n := 13) rfl rfl rfl ?_
    refine w_getR (b := 47) (n := 16) rfl rfl rfl rfl rfl ?_
    refine w_iconst (v := 0) (n := 17) rfl rfl rfl ?_
    refine w_putI (n := 20) rfl rfl rfl rfl rfl ?_
    refine w_aload_nR (x := 0) (n := 21) rfl rfl rfl ?_
    refine w_callv (as := [.ref 0]) (rest := []) (n := 24) rfl rfl rfl rfl ?_
    obtain ⟨I21, hI21, H⟩ := H
    refine ⟨I21, hI21, ?_⟩
    refine w_aload_nR (x := 0) (n := 25) rfl rfl rfl ?_
    refine w_getR (b := 3) (n := 28) rfl rfl rfl rfl rfl ?_
    refine w_aload_nR (x := 0) (n := 29) rfl rfl rfl ?_
    refine w_getI (n := 32) rfl rfl rfl rfl ?_
    refine w_calli (as := [.ref 3, .int (I21 0 7)]) (rest := []) (n := 35) rfl rfl rfl rfl ?_
    obtain ⟨r32, I32, hI32, H⟩ := H
    refine ⟨r32, I32, hI32, ?_⟩
    refine w_istore_n (ls' := [some (.ref 0), some (.int r32), none]) (n := 36) rfl rfl rfl rfl ?_
    refine w_iconst (v := 0) (n := 37) rfl rfl rfl ?_
    refine w_istore_n (ls' := [some (.ref 0), some (.int r32), some (.int 0)]) (n := 38) rfl rfl rfl rfl ?_
    exact w_drp mm_Qf_i H (lb_s (lb_s (lb_s lb_e)))
  · replace H := H.2 hc
    refine w_iconst (v := (-1)) (n := 11) rfl rfl rfl ?_
    exact w_ireturn rfl rfl H
theorem c_WS_pack_38 {P : Int32 → mm_I → Prop} {I : mm_I} (x1 : Int32) (x2 : Int32)
  (H : (x1 ≤ x2 →
      P (I 47 1) I) ∧
    (x2 < x1 →
      mm_Mv 11 [.ref 10, .ref 3, .ref 6, .int (I 0 7), .int x2, .int (I 0 8), .int (I 0 9)] I (fun I68 =>  -- Plan.make
      mm_Mv 97 [.ref 0, .int x2] I68 (fun I73 =>  -- WS.writeFrame
      mm_W 95 38 [some (.ref 0), some (.int x1), some (.int (x2 + 1))] [] I73 (mm_qi 95 P))))) : mm_W 95 38 [some (.ref 0), some (.int x1), some (.int x2)] [] I (mm_qi 95 P) := by
  refine w_iload_n (n := 39) rfl rfl rfl ?_
  refine w_iload_n (n := 40) rfl rfl rfl ?_
  refine w_icmp_ge (n := 43) rfl rfl ⟨fun hc => ?_, fun hc => ?_⟩
  · replace H := H.1 hc
    refine w_aload_nR (x := 0) (n := 83) rfl rfl rfl ?_
    refine w_getR (b := 47) (n := 86) rfl rfl rfl rfl rfl ?_
    refine w_getI (n := 89) rfl rfl rfl rfl ?_
    exact w_ireturn rfl rfl H
  · replace H := H.2 hc
    refine w_aload_nR (x := 0) (n := 44) rfl rfl rfl ?_
    refine w_getR (b := 10) (n := 47) rfl rfl rfl rfl rfl ?_
    refine w_aload_nR (x := 0) (n := 48) rfl rfl rfl ?_
    refine w_getR (b := 3) (n := 51) rfl rfl rfl rfl rfl ?_
    refine w_aload_nR (x := 0) (n := 52) rfl rfl rfl ?_
    refine w_getR (b := 6) (n := 55) rfl rfl rfl rfl rfl ?_
    refine w_aload_nR (x := 0) (n := 56) rfl rfl rfl ?_
    refine w_getI (n := 59) rfl rfl rfl rfl ?_
    refine w_iload_n (n := 60) rfl rfl rfl ?_
    refine w_aload_nR (x := 0) (n := 61) rfl rfl rfl ?_
    refine w_getI (n := 64) rfl rfl rfl rfl ?_
    refine w_aload_nR (x := 0) (n := 65) rfl rfl rfl ?_
    refine w_getI (n := 68) rfl rfl rfl rfl ?_
    refine w_callv (as := [.ref 10, .ref 3, .ref 6, .int (I 0 7), .int x2, .int (I 0 8), .int (I 0 9)]) (rest := []) (n := 71) rfl rfl rfl rfl ?_
    obtain ⟨I68, hI68, H⟩ := H
    refine ⟨I68, hI68, ?_⟩
    refine w_aload_nR (x := 0) (n := 72) rfl rfl rfl ?_
    refine w_iload_n (n := 73) rfl rfl rfl ?_
    refine w_callv (as := [.ref 0, .int x2]) (rest := []) (n := 76) rfl rfl rfl rfl ?_
    obtain ⟨I73, hI73, H⟩ := H
    refine ⟨I73, hI73, ?_⟩
    refine w_iinc (y := x2 + 1) (ls' := [some (.ref 0), some (.int x1), some (.int (x2 + 1))]) (n := 79) rfl rfl rfl rfl rfl ?_
    refine w_goto rfl ?_
    exact w_drp mm_Qf_i H (lb_s (lb_s (lb_s lb_e)))
theorem e_WS_writeHead {P : mm_I → Prop} {I : mm_I}
  (H : mm_Mv 58 [.ref 47, .int 83] I (fun I6 =>  -- Store.putByte
    mm_Mv 58 [.ref 47, .int 80] I6 (fun I15 =>  -- Store.putByte
    mm_Mv 58 [.ref 47, .int (I15 3 2)] I15 (fun I29 =>  -- Store.putByte
    mm_Mv 58 [.ref 47, .int (I29 3 3)] I29 (fun I43 =>  -- Store.putByte
    mm_Mv 58 [.ref 47, .int (I43 0 7)] I43 (fun I54 =>  -- Store.putByte
    mm_Mv 58 [.ref 47, .int ((I54 5 0) >>> (8 &&& 31))] I54 (fun I73 =>  -- Store.putByte
    mm_Mv 58 [.ref 47, .int (I73 5 0)] I73 (fun I89 =>  -- Store.putByte
    mm_W 96 94 [some (.ref 0), some (.int 5), none] [] I89 (mm_qv 96 P))))))))) : mm_Mv 96 [.ref 0] I P := by
  refine mm_Mv_of ?_
  show mm_W 96 0 [some (.ref 0), none, none] [] I (mm_qv 96 P)
  refine w_aload_nR (x := 0) (n := 1) rfl rfl rfl ?_
  refine w_getR (b := 47) (n := 4) rfl rfl rfl rfl rfl ?_
  refine w_bipush (v := 83) (n := 6) rfl rfl rfl ?_
  refine w_callv (as := [.ref 47, .int 83]) (rest := []) (n := 9) rfl rfl rfl rfl ?_
  obtain ⟨I6, hI6, H⟩ := H
  refine ⟨I6, hI6, ?_⟩
  refine w_aload_nR (x := 0) (n := 10) rfl rfl rfl ?_
  refine w_getR (b := 47) (n := 13) rfl rfl rfl rfl rfl ?_
  refine w_bipush (v := 80) (n := 15) rfl rfl rfl ?_
  refine w_callv (as := [.ref 47, .int 80]) (rest := []) (n := 18) rfl rfl rfl rfl ?_
  obtain ⟨I15, hI15, H⟩ := H
  refine ⟨I15, hI15, ?_⟩
  refine w_aload_nR (x := 0) (n := 19) rfl rfl rfl ?_
  refine w_getR (b := 47) (n := 22) rfl rfl rfl rfl rfl ?_
  refine w_aload_nR (x := 0) (n := 23) rfl rfl rfl ?_
  refine w_getR (b := 3) (n := 26) rfl rfl rfl rfl rfl ?_
  refine w_getI (n := 29) rfl rfl rfl rfl ?_
  refine w_callv (as := [.ref 47, .int (I15 3 2)]) (rest := []) (n := 32) rfl rfl rfl rfl ?_
  obtain ⟨I29, hI29, H⟩ := H
  refine ⟨I29, hI29, ?_⟩
  refine w_aload_nR (x := 0) (n := 33) rfl rfl rfl ?_
  refine w_getR (b := 47) (n := 36) rfl rfl rfl rfl rfl ?_
  refine w_aload_nR (x := 0) (n := 37) rfl rfl rfl ?_
  refine w_getR (b := 3) (n := 40) rfl rfl rfl rfl rfl ?_
  refine w_getI (n := 43) rfl rfl rfl rfl ?_
  refine w_callv (as := [.ref 47, .int (I29 3 3)]) (rest := []) (n := 46) rfl rfl rfl rfl ?_
  obtain ⟨I43, hI43, H⟩ := H
  refine ⟨I43, hI43, ?_⟩
  refine w_aload_nR (x := 0) (n := 47) rfl rfl rfl ?_
  refine w_getR (b := 47) (n := 50) rfl rfl rfl rfl rfl ?_
  refine w_aload_nR (x := 0) (n := 51) rfl rfl rfl ?_
  refine w_getI (n := 54) rfl rfl rfl rfl ?_
  refine w_callv (as := [.ref 47, .int (I43 0 7)]) (rest := []) (n := 57) rfl rfl rfl rfl ?_
  obtain ⟨I54, hI54, H⟩ := H
  refine ⟨I54, hI54, ?_⟩
  refine w_aload_nR (x := 0) (n := 58) rfl rfl rfl ?_
  refine w_getR (b := 47) (n := 61) rfl rfl rfl rfl rfl ?_
  refine w_aload_nR (x := 0) (n := 62) rfl rfl rfl ?_
  refine w_getR (b := 3) (n := 65) rfl rfl rfl rfl rfl ?_
  refine w_getR (b := 5) (n := 68) rfl rfl rfl rfl rfl ?_
  refine w_iconst (v := 0) (n := 69) rfl rfl rfl ?_
  refine w_iaload (N := 2) (j := 0) (n := 70) rfl rfl rfl rfl (by decide) rfl ⟨mm_vpc (by decide), ?_⟩
  refine w_bipush (v := 8) (n := 72) rfl rfl rfl ?_
  refine w_ishr (n := 73) rfl rfl ?_
  refine w_callv (as := [.ref 47, .int ((I54 5 0) >>> (8 &&& 31))]) (rest := []) (n := 76) rfl rfl rfl rfl ?_
  obtain ⟨I73, hI73, H⟩ := H
  refine ⟨I73, hI73, ?_⟩
  refine w_aload_nR (x := 0) (n := 77) rfl rfl rfl ?_
  refine w_getR (b := 47) (n := 80) rfl rfl rfl rfl rfl ?_
  refine w_aload_nR (x := 0) (n := 81) rfl rfl rfl ?_
  refine w_getR (b := 3) (n := 84) rfl rfl rfl rfl rfl ?_
  refine w_getR (b := 5) (n := 87) rfl rfl rfl rfl rfl ?_
  refine w_iconst (v := 0) (n := 88) rfl rfl rfl ?_
  refine w_iaload (N := 2) (j := 0) (n := 89) rfl rfl rfl rfl (by decide) rfl ⟨mm_vpc (by decide), ?_⟩
  refine w_callv (as := [.ref 47, .int (I73 5 0)]) (rest := []) (n := 92) rfl rfl rfl rfl ?_
  obtain ⟨I89, hI89, H⟩ := H
  refine ⟨I89, hI89, ?_⟩
  refine w_iconst (v := 5) (n := 93) rfl rfl rfl ?_
  refine w_istore_n (ls' := [some (.ref 0), some (.int 5), none]) (n := 94) rfl rfl rfl rfl ?_
  exact w_drp mm_Qf_v H (lb_s (lb_s (lb_n lb_e)))
theorem c_WS_writeHead_94 {P : mm_I → Prop} {I : mm_I} (x1 : Int32)
  (H : (8 ≤ x1 →
      mm_Mv 61 [.ref 47, .int 0] I (fun I156 =>  -- Store.putCheck
      P I156)) ∧
    (x1 < 8 →
      mm_W 96 102 [some (.ref 0), some (.int x1), some (.int 0)] [] I (mm_qv 96 P))) : mm_W 96 94 [some (.ref 0), some (.int x1), none] [] I (mm_qv 96 P) := by
  refine w_iload_n (n := 95) rfl rfl rfl ?_
  refine w_bipush (v := 8) (n := 97) rfl rfl rfl ?_
  refine w_icmp_ge (n := 100) rfl rfl ⟨fun hc => ?_, fun hc => ?_⟩
  · replace H := H.1 hc
    refine w_aload_nR (x := 0) (n := 152) rfl rfl rfl ?_
    refine w_getR (b := 47) (n := 155) rfl rfl rfl rfl rfl ?_
    refine w_iconst (v := 0) (n := 156) rfl rfl rfl ?_
    refine w_callv (as := [.ref 47, .int 0]) (rest := []) (n := 159) rfl rfl rfl rfl ?_
    obtain ⟨I156, hI156, H⟩ := H
    refine ⟨I156, hI156, ?_⟩
    exact w_vreturn rfl rfl H
  · replace H := H.2 hc
    refine w_iconst (v := 0) (n := 101) rfl rfl rfl ?_
    refine w_istore_n (ls' := [some (.ref 0), some (.int x1), some (.int 0)]) (n := 102) rfl rfl rfl rfl ?_
    exact w_drp mm_Qf_v H (lb_s (lb_s (lb_s lb_e)))
theorem c_WS_writeHead_102 {P : mm_I → Prop} {I : mm_I} (x1 : Int32) (x2 : Int32)
  (H : (3 ≤ x2 →
      vp_in x1 8 ∧
      mm_Mv 58 [.ref 47, .int (I 9 x1.toNatClampNeg)] I (fun I142 =>  -- Store.putByte
      mm_W 96 94 [some (.ref 0), some (.int (x1 + 1)), none] [] I142 (mm_qv 96 P))) ∧
    (x2 < 3 →
      mm_Mi 21 [.ref 6, .int x1, .int x2] I (fun r117 I117 =>  -- Pred.weightAt
      mm_Mv 58 [.ref 47, .int r117] I117 (fun I120 =>  -- Store.putByte
      mm_W 96 102 [some (.ref 0), some (.int x1), some (.int (x2 + 1))] [] I120 (mm_qv 96 P))))) : mm_W 96 102 [some (.ref 0), some (.int x1), some (.int x2)] [] I (mm_qv 96 P) := by
  refine w_iload_n (n := 103) rfl rfl rfl ?_
  refine w_iconst (v := 3) (n := 104) rfl rfl rfl ?_
  refine w_icmp_ge (n := 107) rfl rfl ⟨fun hc => ?_, fun hc => ?_⟩
  · replace H := H.1 hc
    refine w_aload_nR (x := 0) (n := 130) rfl rfl rfl ?_
    refine w_getR (b := 47) (n := 133) rfl rfl rfl rfl rfl ?_
    refine w_aload_nR (x := 0) (n := 134) rfl rfl rfl ?_
    refine w_getR (b := 6) (n := 137) rfl rfl rfl rfl rfl ?_
    refine w_getR (b := 9) (n := 140) rfl rfl rfl rfl rfl ?_
    refine w_iload_n (n := 141) rfl rfl rfl ?_
    refine w_iaload (N := 8) (j := x1.toNatClampNeg) (n := 142) rfl rfl rfl rfl rfl rfl ⟨H.1, ?_⟩
    replace H := H.2
    refine w_callv (as := [.ref 47, .int (I 9 x1.toNatClampNeg)]) (rest := []) (n := 145) rfl rfl rfl rfl ?_
    obtain ⟨I142, hI142, H⟩ := H
    refine ⟨I142, hI142, ?_⟩
    refine w_iinc (y := x1 + 1) (ls' := [some (.ref 0), some (.int (x1 + 1)), some (.int x2)]) (n := 148) rfl rfl rfl rfl rfl ?_
    refine w_goto rfl ?_
    exact w_drp mm_Qf_v H (lb_s (lb_s (lb_n lb_e)))
  · replace H := H.2 hc
    refine w_aload_nR (x := 0) (n := 108) rfl rfl rfl ?_
    refine w_getR (b := 47) (n := 111) rfl rfl rfl rfl rfl ?_
    refine w_aload_nR (x := 0) (n := 112) rfl rfl rfl ?_
    refine w_getR (b := 6) (n := 115) rfl rfl rfl rfl rfl ?_
    refine w_iload_n (n := 116) rfl rfl rfl ?_
    refine w_iload_n (n := 117) rfl rfl rfl ?_
    refine w_calli (as := [.ref 6, .int x1, .int x2]) (rest := [.ref 47]) (n := 120) rfl rfl rfl rfl ?_
    obtain ⟨r117, I117, hI117, H⟩ := H
    refine ⟨r117, I117, hI117, ?_⟩
    refine w_callv (as := [.ref 47, .int r117]) (rest := []) (n := 123) rfl rfl rfl rfl ?_
    obtain ⟨I120, hI120, H⟩ := H
    refine ⟨I120, hI120, ?_⟩
    refine w_iinc (y := x2 + 1) (ls' := [some (.ref 0), some (.int x1), some (.int (x2 + 1))]) (n := 126) rfl rfl rfl rfl rfl ?_
    refine w_goto rfl ?_
    exact w_drp mm_Qf_v H (lb_s (lb_s (lb_s lb_e)))
