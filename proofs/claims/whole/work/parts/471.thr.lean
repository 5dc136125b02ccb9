/-! the ops of the law that may throw -/
theorem dE_14 : dE 885 912 4 96 := ⟨⟨by decide +kernel, by decide +kernel, ⟨⟨⟨⟨trivial, ⟨by decide +kernel, by decide +kernel, by decide +kernel, by decide +kernel, by decide +kernel⟩⟩, ⟨by decide +kernel, by decide +kernel, by decide +kernel, by decide +kernel, by decide +kernel⟩⟩, ⟨by decide +kernel, by decide +kernel, by decide +kernel, by decide +kernel, by decide +kernel⟩⟩, ⟨by decide +kernel, by decide +kernel, by decide +kernel, by decide +kernel, by decide +kernel⟩⟩, by omega, by decide +kernel, by decide +kernel, by decide +kernel, by decide +kernel⟩, ⟨by decide +kernel, by decide +kernel, by decide +kernel, by decide +kernel⟩, ⟨by decide +kernel, by decide +kernel, by decide +kernel, by decide +kernel, by decide +kernel, by decide +kernel, by decide +kernel⟩, by decide +kernel⟩
theorem run_res {A : sA} {I : mm_I} {x1 x2 x3 x4 : Int32} (hR : RX A I) (hV : VA A) : (okX A x1 x2 x3 x4 → ∃ J, sm F_xs I J ∧ mm_Rn 84 [.ref 0, .int x1, .int x2, .int x3, .int x4] I (some (.int (oResid A x1 x2 x3 x4).1)) J) ∧ (¬ okX A x1 x2 x3 x4 → ∃ f ls J, sm F_xs I J ∧ mm_run false f 84 0 (mm_ent (mm_mL 84) [.ref 0, .int x1, .int x2, .int x3, .int x4]) [] (mm_lay, I) = some (38, ls, [], (mm_lay, J))) := by
  refine ⟨fun ok => ?_, fun ok => ?_⟩
  · obtain ⟨f, s', hrun, J, h1, h2, h3⟩ := oX_resid (Q := fun s' => ∃ J, sm F_xs I J ∧ mm_ret 84 s'.1 s'.2.2.1 = some (some (.int (oResid A x1 x2 x3 x4).1)) ∧ s'.2.2.2 = (mm_lay, J)) (fun _ _ _ _ h => h) hR hV (fun h => absurd ok h) (fun _ pc ls J hp f => by
      rcases hp with rfl | rfl
      · exact ⟨J, f, rfl, rfl⟩
      · exact ⟨J, f, rfl, rfl⟩)
    obtain ⟨pc, ls, st, h⟩ := s'
    have h3 : h = (mm_lay, J) := h3
    subst h3
    exact ⟨J, h1, f, pc, ls, st, hrun, h2⟩
  · obtain ⟨f, s', hrun, J, h1, h2, h2b, h3⟩ := oX_resid (Q := fun s' => ∃ J, sm F_xs I J ∧ s'.1 = 38 ∧ s'.2.2.1 = [] ∧ s'.2.2.2 = (mm_lay, J)) (fun _ _ _ _ h => h) hR hV (fun _ ls J f => ⟨J, f, rfl, rfl, rfl⟩) (fun h => absurd h ok)
    obtain ⟨pc, ls, st, h⟩ := s'
    have h3 : h = (mm_lay, J) := h3
    have h2 : pc = 38 := h2
    have h2b : st = [] := h2b
    subst h3 h2 h2b
    exact ⟨f, ls, J, h1, hrun⟩
theorem dE_32 : dE 1402 1417 2 171 := ⟨⟨by decide +kernel, by decide +kernel, ⟨⟨trivial, ⟨by decide +kernel, by decide +kernel, by decide +kernel, by decide +kernel, by decide +kernel⟩⟩, ⟨by decide +kernel, by decide +kernel, by decide +kernel, by decide +kernel, by decide +kernel⟩⟩, by omega, by decide +kernel, by decide +kernel, by decide +kernel, by decide +kernel⟩, ⟨by decide +kernel, by decide +kernel, by decide +kernel, by decide +kernel⟩, ⟨by decide +kernel, by decide +kernel, by decide +kernel, by decide +kernel, by decide +kernel, by decide +kernel, by decide +kernel⟩, by decide +kernel⟩
theorem run_hea {A : sA} {I : mm_I} {x1 x2 : Int32} (hR : RX A I) (hV : VA A) : (okH A x1 x2 → ∃ J, sm F_xs I J ∧ mm_Rn 112 [.ref 0, .int x1, .int x2] I (some (.int (oHeard A x1 x2).1)) J) ∧ (¬ okH A x1 x2 → ∃ f ls J, sm F_xs I J ∧ mm_run false f 112 0 (mm_ent (mm_mL 112) [.ref 0, .int x1, .int x2]) [] (mm_lay, I) = some (40, ls, [], (mm_lay, J))) := by
  refine ⟨fun ok => ?_, fun ok => ?_⟩
  · obtain ⟨f, s', hrun, J, h1, h2, h3⟩ := oX_heard (Q := fun s' => ∃ J, sm F_xs I J ∧ mm_ret 112 s'.1 s'.2.2.1 = some (some (.int (oHeard A x1 x2).1)) ∧ s'.2.2.2 = (mm_lay, J)) (fun _ _ _ _ h => h) hR hV (fun h => absurd ok h) (fun _ ls J f => ⟨J, f, rfl, rfl⟩)
    obtain ⟨pc, ls, st, h⟩ := s'
    have h3 : h = (mm_lay, J) := h3
    subst h3
    exact ⟨J, h1, f, pc, ls, st, hrun, h2⟩
  · obtain ⟨f, s', hrun, J, h1, h2, h2b, h3⟩ := oX_heard (Q := fun s' => ∃ J, sm F_xs I J ∧ s'.1 = 40 ∧ s'.2.2.1 = [] ∧ s'.2.2.2 = (mm_lay, J)) (fun _ _ _ _ h => h) hR hV (fun _ ls J f => ⟨J, f, rfl, rfl, rfl⟩) (fun h => absurd h ok)
    obtain ⟨pc, ls, st, h⟩ := s'
    have h3 : h = (mm_lay, J) := h3
    have h2 : pc = 40 := h2
    have h2b : st = [] := h2b
    subst h3 h2 h2b
    exact ⟨f, ls, J, h1, hrun⟩
theorem dE_35 : dE 1496 1511 2 182 := ⟨⟨by decide +kernel, by decide +kernel, ⟨⟨trivial, ⟨by decide +kernel, by decide +kernel, by decide +kernel, by decide +kernel, by decide +kernel⟩⟩, ⟨by decide +kernel, by decide +kernel, by decide +kernel, by decide +kernel, by decide +kernel⟩⟩, by omega, by decide +kernel, by decide +kernel, by decide +kernel, by decide +kernel⟩, ⟨by decide +kernel, by decide +kernel, by decide +kernel, by decide +kernel⟩, ⟨by decide +kernel, by decide +kernel, by decide +kernel, by decide +kernel, by decide +kernel, by decide +kernel, by decide +kernel⟩, by decide +kernel⟩
theorem run_lou {A : sA} {I : mm_I} {x1 x2 : Int32} (hR : RX A I) (hV : VA A) : (okL A x1 x2 → ∃ J, sm F_xs I J ∧ mm_Rn 115 [.ref 0, .int x1, .int x2] I (some (.int (oLoud A x1 x2).1)) J) ∧ (¬ okL A x1 x2 → ∃ f ls J, sm F_xs I J ∧ mm_run false f 115 0 (mm_ent (mm_mL 115) [.ref 0, .int x1, .int x2]) [] (mm_lay, I) = some (32, ls, [], (mm_lay, J))) := by
  refine ⟨fun ok => ?_, fun ok => ?_⟩
  · obtain ⟨f, s', hrun, J, h1, h2, h3⟩ := oX_loud (Q := fun s' => ∃ J, sm F_xs I J ∧ mm_ret 115 s'.1 s'.2.2.1 = some (some (.int (oLoud A x1 x2).1)) ∧ s'.2.2.2 = (mm_lay, J)) (fun _ _ _ _ h => h) hR hV (fun h => absurd ok h) (fun _ ls => ⟨I, sm.rf, rfl, rfl⟩)
    obtain ⟨pc, ls, st, h⟩ := s'
    have h3 : h = (mm_lay, J) := h3
    subst h3
    exact ⟨J, h1, f, pc, ls, st, hrun, h2⟩
  · obtain ⟨f, s', hrun, J, h1, h2, h2b, h3⟩ := oX_loud (Q := fun s' => ∃ J, sm F_xs I J ∧ s'.1 = 32 ∧ s'.2.2.1 = [] ∧ s'.2.2.2 = (mm_lay, J)) (fun _ _ _ _ h => h) hR hV (fun _ ls => ⟨I, sm.rf, rfl, rfl, rfl⟩) (fun h => absurd h ok)
    obtain ⟨pc, ls, st, h⟩ := s'
    have h3 : h = (mm_lay, J) := h3
    have h2 : pc = 32 := h2
    have h2b : st = [] := h2b
    subst h3 h2 h2b
    exact ⟨f, ls, J, h1, hrun⟩
section LWY
variable {p : Program} {l : Launch} {e : Env} {R : Room} {s : State} {m : MethodId} {args : Array Value} {below : List Frame} {meth : Method} {c : Code} {Q : State → Prop} {D : va_G} {B t : Nat} {cI cZ cJ : ClassId} {b L : Nat} {xs : Nat → Int32}
set_option maxHeartbeats 4000000 in
theorem lwop_14 (C : lwC p s m args c D B t cI cZ b L xs) (hW : lwD s D B cJ) (hL : L ≤ 3584) (hroom : 15 ≤ R.frames ∧ 590 ≤ R.locals) (hlt : l.stackTraces = false) : lwOp p l e R s m args below meth c Q D B t cI cZ b L xs (fun oc => ∃ g, oc = lh_oc cJ g) 856 := by
  intro n sl A I oc H locs cells slots hl hn hc hs hRX hRM hVA hoc hR kk
  obtain ⟨g, rfl⟩ := hoc
  have C' := C
  obtain ⟨hx, hb, -⟩ := C'
  have rn := run_res (x1 := (xs (n + 1))) (x2 := (xs (n + 2))) (x3 := (xs (n + 3))) (x4 := (xs (n + 4))) hRX hVA
  refine lv_aload_n hx hb (pc := 856) (k := 1) (by decide +kernel) (i := 1) rfl (lv_at hl 1 rfl) ?_
  refine lw_args C hR.2.2.1 hl hL 4 (by omega) (by omega) ⟨⟨⟨⟨trivial, ⟨by decide +kernel, by decide +kernel, by decide +kernel, by decide +kernel, by decide +kernel⟩⟩, ⟨by decide +kernel, by decide +kernel, by decide +kernel, by decide +kernel, by decide +kernel⟩⟩, ⟨by decide +kernel, by decide +kernel, by decide +kernel, by decide +kernel, by decide +kernel⟩⟩, ⟨by decide +kernel, by decide +kernel, by decide +kernel, by decide +kernel, by decide +kernel⟩⟩ ?_
  refine lv_aload_n hx hb (pc := 881) (k := 3) (by decide +kernel) (i := 3) rfl (lv_at hl 3 rfl) ?_
  by_cases ok : okX A (xs (n + 1)) (xs (n + 2)) (xs (n + 3)) (xs (n + 4))
  · obtain ⟨J, fJ, hrun⟩ := rn.1 ok
    refine lw_help C hW.1 hW.2.1 hW.2.2.2 (ix := 91) (J := J) (as := [.ref B, .int (xs (n + 1)), .int (xs (n + 2)), .int (xs (n + 3)), .int (xs (n + 4)), .ref (B + 83)]) (rest := []) (c_res0 (g := g) hrun) rfl wg_res (mm_wt_mem (i := 900) (by decide +kernel)) (mm_wt_mem (i := 901) (by decide +kernel)) (mm_wt_mem (i := 80) (by decide +kernel)) ⟨by decide +kernel, by decide +kernel, by show _ = some 6; decide +kernel⟩ (pc := 882) (by decide +kernel) (by omega) hl.1 (Nat.zero_le _) hroom ⟨hc, hs⟩ hR (fun H1 locs1 hR1 => ?_)
    have hM := oM_resid (A := A) (I := J) (x := (xs (n + 1))) (y := (xs (n + 2))) (z := (xs (n + 3))) (i := (xs (n + 4))) (RM_FX hRM fJ.xFX) hVA
    rw [if_pos ok] at hM
    exact lw_exc C hW.1 hl hL (r := 4) (A := A) (v := (oResid A (xs (n + 1)) (xs (n + 2)) (xs (n + 3)) (xs (n + 4))).1) (by omega) hn dE_14 ⟨by decide, by decide +kernel, mm_wt_mem (i := 1368) (by decide +kernel), by decide +kernel, by decide +kernel, by decide +kernel⟩ ⟨by omega, by omega⟩ ⟨hc, hs⟩ (hRX.xs fJ) hVA hM (Or.inl ⟨rfl, rfl⟩) hR1 (fun sl1 J1 H2 l2 v1 v2 v3 v4 => kk sl1 A J1 _ H2 l2 v1 v2 v3 hVA ⟨_, rfl⟩ v4)
  · obtain ⟨f, ls, J, fJ, hrun⟩ := rn.2 ok
    refine lw_help C hW.1 hW.2.1 hW.2.2.2 (ix := 91) (J := J) (as := [.ref B, .int (xs (n + 1)), .int (xs (n + 2)), .int (xs (n + 3)), .int (xs (n + 4)), .ref (B + 83)]) (rest := []) (c_res1 (g := g) hlt hrun) rfl wg_res (mm_wt_mem (i := 900) (by decide +kernel)) (mm_wt_mem (i := 901) (by decide +kernel)) (mm_wt_mem (i := 80) (by decide +kernel)) ⟨by decide +kernel, by decide +kernel, by show _ = some 6; decide +kernel⟩ (pc := 882) (by decide +kernel) (by omega) hl.1 (Nat.zero_le _) hroom ⟨hc, hs⟩ hR (fun H1 locs1 hR1 => ?_)
    have hM := oM_resid (A := A) (I := J) (x := (xs (n + 1))) (y := (xs (n + 2))) (z := (xs (n + 3))) (i := (xs (n + 4))) (RM_FX hRM fJ.xFX) hVA
    rw [if_neg ok] at hM
    exact lw_exc C hW.1 hl hL (r := 4) (A := A) (v := (oResid A (xs (n + 1)) (xs (n + 2)) (xs (n + 3)) (xs (n + 4))).1) (by omega) hn dE_14 ⟨by decide, by decide +kernel, mm_wt_mem (i := 1368) (by decide +kernel), by decide +kernel, by decide +kernel, by decide +kernel⟩ ⟨by omega, by omega⟩ ⟨hc, hs⟩ (hRX.xs fJ) hVA hM (Or.inr rfl) hR1 (fun sl1 J1 H2 l2 v1 v2 v3 v4 => kk sl1 A J1 _ H2 l2 v1 v2 v3 hVA ⟨_, rfl⟩ v4)
set_option maxHeartbeats 4000000 in
theorem lwop_32 (C : lwC p s m args c D B t cI cZ b L xs) (hW : lwD s D B cJ) (hL : L ≤ 3584) (hroom : 15 ≤ R.frames ∧ 590 ≤ R.locals) (hlt : l.stackTraces = false) : lwOp p l e R s m args below meth c Q D B t cI cZ b L xs (fun oc => ∃ g, oc = lh_oc cJ g) 1385 := by
  intro n sl A I oc H locs cells slots hl hn hc hs hRX hRM hVA hoc hR kk
  obtain ⟨g, rfl⟩ := hoc
  have C' := C
  obtain ⟨hx, hb, -⟩ := C'
  have rn := run_hea (x1 := (xs (n + 1))) (x2 := (xs (n + 2))) hRX hVA
  refine lv_aload_n hx hb (pc := 1385) (k := 1) (by decide +kernel) (i := 1) rfl (lv_at hl 1 rfl) ?_
  refine lw_args C hR.2.2.1 hl hL 2 (by omega) (by omega) ⟨⟨trivial, ⟨by decide +kernel, by decide +kernel, by decide +kernel, by decide +kernel, by decide +kernel⟩⟩, ⟨by decide +kernel, by decide +kernel, by decide +kernel, by decide +kernel, by decide +kernel⟩⟩ ?_
  refine lv_aload_n hx hb (pc := 1398) (k := 3) (by decide +kernel) (i := 3) rfl (lv_at hl 3 rfl) ?_
  by_cases ok : okH A (xs (n + 1)) (xs (n + 2))
  · obtain ⟨J, fJ, hrun⟩ := rn.1 ok
    refine lw_help C hW.1 hW.2.2.1 hW.2.2.2 (ix := 168) (J := J) (as := [.ref B, .int (xs (n + 1)), .int (xs (n + 2)), .ref (B + 83)]) (rest := []) (c_hea0 (g := g) hrun) rfl wg_hea (mm_wt_mem (i := 971) (by decide +kernel)) (mm_wt_mem (i := 972) (by decide +kernel)) (mm_wt_mem (i := 80) (by decide +kernel)) ⟨by decide +kernel, by decide +kernel, by show _ = some 4; decide +kernel⟩ (pc := 1399) (by decide +kernel) (by omega) hl.1 (Nat.zero_le _) hroom ⟨hc, hs⟩ hR (fun H1 locs1 hR1 => ?_)
    have hM := oM_heard (A := A) (I := J) (x := (xs (n + 1))) (i := (xs (n + 2))) (RM_FX hRM fJ.xFX) hVA
    rw [if_pos ok] at hM
    exact lw_exc C hW.1 hl hL (r := 2) (A := A) (v := (oHeard A (xs (n + 1)) (xs (n + 2))).1) (by omega) hn dE_32 ⟨by decide, by decide +kernel, mm_wt_mem (i := 1532) (by decide +kernel), by decide +kernel, by decide +kernel, by decide +kernel⟩ ⟨by omega, by omega⟩ ⟨hc, hs⟩ (hRX.xs fJ) hVA hM (Or.inl ⟨rfl, rfl⟩) hR1 (fun sl1 J1 H2 l2 v1 v2 v3 v4 => kk sl1 A J1 _ H2 l2 v1 v2 v3 hVA ⟨_, rfl⟩ v4)
  · obtain ⟨f, ls, J, fJ, hrun⟩ := rn.2 ok
    refine lw_help C hW.1 hW.2.2.1 hW.2.2.2 (ix := 168) (J := J) (as := [.ref B, .int (xs (n + 1)), .int (xs (n + 2)), .ref (B + 83)]) (rest := []) (c_hea1 (g := g) hlt hrun) rfl wg_hea (mm_wt_mem (i := 971) (by decide +kernel)) (mm_wt_mem (i := 972) (by decide +kernel)) (mm_wt_mem (i := 80) (by decide +kernel)) ⟨by decide +kernel, by decide +kernel, by show _ = some 4; decide +kernel⟩ (pc := 1399) (by decide +kernel) (by omega) hl.1 (Nat.zero_le _) hroom ⟨hc, hs⟩ hR (fun H1 locs1 hR1 => ?_)
    have hM := oM_heard (A := A) (I := J) (x := (xs (n + 1))) (i := (xs (n + 2))) (RM_FX hRM fJ.xFX) hVA
    rw [if_neg ok] at hM
    exact lw_exc C hW.1 hl hL (r := 2) (A := A) (v := (oHeard A (xs (n + 1)) (xs (n + 2))).1) (by omega) hn dE_32 ⟨by decide, by decide +kernel, mm_wt_mem (i := 1532) (by decide +kernel), by decide +kernel, by decide +kernel, by decide +kernel⟩ ⟨by omega, by omega⟩ ⟨hc, hs⟩ (hRX.xs fJ) hVA hM (Or.inr rfl) hR1 (fun sl1 J1 H2 l2 v1 v2 v3 v4 => kk sl1 A J1 _ H2 l2 v1 v2 v3 hVA ⟨_, rfl⟩ v4)
set_option maxHeartbeats 4000000 in
theorem lwop_35 (C : lwC p s m args c D B t cI cZ b L xs) (hW : lwD s D B cJ) (hL : L ≤ 3584) (hroom : 15 ≤ R.frames ∧ 590 ≤ R.locals) (hlt : l.stackTraces = false) : lwOp p l e R s m args below meth c Q D B t cI cZ b L xs (fun oc => ∃ g, oc = lh_oc cJ g) 1479 := by
  intro n sl A I oc H locs cells slots hl hn hc hs hRX hRM hVA hoc hR kk
  obtain ⟨g, rfl⟩ := hoc
  have C' := C
  obtain ⟨hx, hb, -⟩ := C'
  have rn := run_lou (x1 := (xs (n + 1))) (x2 := (xs (n + 2))) hRX hVA
  refine lv_aload_n hx hb (pc := 1479) (k := 1) (by decide +kernel) (i := 1) rfl (lv_at hl 1 rfl) ?_
  refine lw_args C hR.2.2.1 hl hL 2 (by omega) (by omega) ⟨⟨trivial, ⟨by decide +kernel, by decide +kernel, by decide +kernel, by decide +kernel, by decide +kernel⟩⟩, ⟨by decide +kernel, by decide +kernel, by decide +kernel, by decide +kernel, by decide +kernel⟩⟩ ?_
  refine lv_aload_n hx hb (pc := 1492) (k := 3) (by decide +kernel) (i := 3) rfl (lv_at hl 3 rfl) ?_
  by_cases ok : okL A (xs (n + 1)) (xs (n + 2))
  · obtain ⟨J, fJ, hrun⟩ := rn.1 ok
    refine lw_help C hW.1 hW.2.2.1 hW.2.2.2 (ix := 180) (J := J) (as := [.ref B, .int (xs (n + 1)), .int (xs (n + 2)), .ref (B + 83)]) (rest := []) (c_lou0 (g := g) hrun) rfl wg_lou (mm_wt_mem (i := 994) (by decide +kernel)) (mm_wt_mem (i := 995) (by decide +kernel)) (mm_wt_mem (i := 80) (by decide +kernel)) ⟨by decide +kernel, by decide +kernel, by show _ = some 4; decide +kernel⟩ (pc := 1493) (by decide +kernel) (by omega) hl.1 (Nat.zero_le _) hroom ⟨hc, hs⟩ hR (fun H1 locs1 hR1 => ?_)
    have hM := oM_loud (A := A) (I := J) (x := (xs (n + 1))) (z := (xs (n + 2))) (RM_FX hRM fJ.xFX) hVA
    rw [if_pos ok] at hM
    exact lw_exc C hW.1 hl hL (r := 2) (A := A) (v := (oLoud A (xs (n + 1)) (xs (n + 2))).1) (by omega) hn dE_35 ⟨by decide, by decide +kernel, mm_wt_mem (i := 1544) (by decide +kernel), by decide +kernel, by decide +kernel, by decide +kernel⟩ ⟨by omega, by omega⟩ ⟨hc, hs⟩ (hRX.xs fJ) hVA hM (Or.inl ⟨rfl, rfl⟩) hR1 (fun sl1 J1 H2 l2 v1 v2 v3 v4 => kk sl1 A J1 _ H2 l2 v1 v2 v3 hVA ⟨_, rfl⟩ v4)
  · obtain ⟨f, ls, J, fJ, hrun⟩ := rn.2 ok
    refine lw_help C hW.1 hW.2.2.1 hW.2.2.2 (ix := 180) (J := J) (as := [.ref B, .int (xs (n + 1)), .int (xs (n + 2)), .ref (B + 83)]) (rest := []) (c_lou1 (g := g) hlt hrun) rfl wg_lou (mm_wt_mem (i := 994) (by decide +kernel)) (mm_wt_mem (i := 995) (by decide +kernel)) (mm_wt_mem (i := 80) (by decide +kernel)) ⟨by decide +kernel, by decide +kernel, by show _ = some 4; decide +kernel⟩ (pc := 1493) (by decide +kernel) (by omega) hl.1 (Nat.zero_le _) hroom ⟨hc, hs⟩ hR (fun H1 locs1 hR1 => ?_)
    have hM := oM_loud (A := A) (I := J) (x := (xs (n + 1))) (z := (xs (n + 2))) (RM_FX hRM fJ.xFX) hVA
    rw [if_neg ok] at hM
    exact lw_exc C hW.1 hl hL (r := 2) (A := A) (v := (oLoud A (xs (n + 1)) (xs (n + 2))).1) (by omega) hn dE_35 ⟨by decide, by decide +kernel, mm_wt_mem (i := 1544) (by decide +kernel), by decide +kernel, by decide +kernel, by decide +kernel⟩ ⟨by omega, by omega⟩ ⟨hc, hs⟩ (hRX.xs fJ) hVA hM (Or.inr rfl) hR1 (fun sl1 J1 H2 l2 v1 v2 v3 v4 => kk sl1 A J1 _ H2 l2 v1 v2 v3 hVA ⟨_, rfl⟩ v4)
end LWY
