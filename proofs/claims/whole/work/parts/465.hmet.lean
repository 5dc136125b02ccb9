/-! the contracts of the law's helpers -/
def lh_rm : Room := { frames := 14, cells := 1, slots := 6, locals := 560 }
def y_res : MethodName := ⟨"WholeSoundLaw", "residual", "(LWholeSound;IIII[J)I"⟩
def w_res : List Cond := Cond.codeWith y_res method_3_code 7 (some .int) [(0, 14, 17, 13)] :: mm_GW
theorem wg_res : (Cond.codeWith y_res method_3_code 7 (some .int) [(0, 14, 17, 13)] : Cond) ∈ mm_GW := mm_wt_mem (i := 902) (by decide +kernel)
set_option maxHeartbeats 4000000 in
theorem c_res0 {l : Launch} {D : va_G} {B t : Nat} {cI cZ cJ : ClassId} {I J : mm_I} {g : Nat → Int64} {x1 x2 x3 x4 : Int32} {v : Int32} (hrun : mm_Rn 84 [.ref 0, .int x1, .int x2, .int x3, .int x4] I (some (.int v)) J) : vx_Met l y_res w_res lh_rm (lh_Pc D B t cI cZ cJ exI [.ref B, .int x1, .int x2, .int x3, .int x4, .ref (B + 83)] I g) (lh_Qc D B t cI cZ cJ 0 J (vp_updL g 0 v.toInt64)) (fun _ _ _ => False) 1 6 (lhA B) := by
  refine vx_ofWH (cc := method_3_code) (maxL := 7) (ret := some .int) (hh := [(0, 14, 17, 13)]) (by decide +kernel) rfl ?_
  intro p e s m args below meth c s₁ Bd hml hv
  obtain ⟨rfl, w1, w2, w3, w3b, w4, w5, w6, w7, w8, w10, w11⟩ := hv
  have hown : s.vm.findClass "WholeSoundLaw" = some m.cls := findClass_of_methodNamed (x := y_res) Bd.named
  have hts0 := atoms_spec (ws := w_res) Bd.pre
  have hx := Bd.exec
  have hb := Bd.bytes
  have C : lhC p s m ([.ref B, .int x1, .int x2, .int x3, .int x4, .ref (B + 83)] : List Value).toArray c D B t cI cZ method_3_code 7 := ⟨hx, hb, hml, hown, fun w hw => hts0 w (List.mem_cons_of_mem _ hw), w3, w4, w5, w6, w7⟩
  have hR0 : lhR D B t cI cZ s (lh_oc cJ g) I s.heap [] := ⟨w1, w2, va_S.rf, w8⟩
  have hE := lv_entry ([.ref B, .int x1, .int x2, .int x3, .int x4, .ref (B + 83)] : List Value) (n := 7) (by show 6 ≤ 7; omega)
  rw [lg_entry_eq]
  revert hE
  generalize ((lg_sl ([.ref B, .int x1, .int x2, .int x3, .int x4, .ref (B + 83)] : List Value) ++ List.replicate (7 - (lg_sl ([.ref B, .int x1, .int x2, .int x3, .int x4, .ref (B + 83)] : List Value)).length) Slot.unset).toArray) = sl
  intro hl
  refine lv_aload hx hb (i := 5) (pc := 0) (by decide +kernel) (lv_at hl 5 rfl) ?_
  refine lv_iconst hx hb (n := 0) (v := 0) (pc := 2) (by decide +kernel) rfl ?_
  refine lv_aload_n hx hb (k := 0) (pc := 3) (by decide +kernel) (i := 0) rfl (lv_at hl 0 rfl) ?_
  refine lv_iload_n hx hb (k := 1) (pc := 4) (by decide +kernel) (i := 1) rfl (lv_at hl 1 rfl) ?_
  refine lv_iload_n hx hb (k := 2) (pc := 5) (by decide +kernel) (i := 2) rfl (lv_at hl 2 rfl) ?_
  refine lv_iload_n hx hb (k := 3) (pc := 6) (by decide +kernel) (i := 3) rfl (lv_at hl 3 rfl) ?_
  refine lv_iload hx hb (i := 4) (pc := 7) (by decide +kernel) (lv_at hl 4 rfl) ?_
  refine lh_call C (k := 84) (ix := 7) (a := 0) (as' := [.int x1, .int x2, .int x3, .int x4]) (rest := [.int 0, .ref (B + 83)]) (P := fun r I' => r = v ∧ I' = J) (by decide) (by decide +kernel) (mm_wt_mem (i := 904) (by decide +kernel)) (pc := 9) (by decide +kernel) (by omega) (by decide +kernel) (show mm_na 84 = 5 by decide +kernel) (by show 5 ≤ mm_mL 84; decide +kernel) rfl ⟨v, J, hrun, rfl, rfl⟩ hl.1 (by show 1 + (1 + 0) ≤ 8; omega) ⟨by show 14 ≤ 14; omega, by show 560 ≤ 560; omega⟩ ⟨Nat.zero_le _, Nat.zero_le _⟩ hR0 (fun r I' h H1 locs1 hR1 => ?_)
  obtain ⟨rfl, rfl⟩ := h
  exact lh_tail0 C w3b Bd.returns Bd.notSynchronized hR1 (Nat.zero_le _) (Nat.zero_le _) (by decide +kernel) (by decide +kernel) (by decide +kernel) (by decide +kernel) (by decide +kernel)
set_option maxHeartbeats 4000000 in
theorem c_res1 {l : Launch} {D : va_G} {B t : Nat} {cI cZ cJ : ClassId} {I J : mm_I} {g : Nat → Int64} {x1 x2 x3 x4 : Int32} {f : Nat} {ls : mm_Ls} (hlt : l.stackTraces = false) (hrun : mm_run false f 84 0 (mm_ent (mm_mL 84) [.ref 0, .int x1, .int x2, .int x3, .int x4]) [] (mm_lay, I) = some (38, ls, [], (mm_lay, J))) : vx_Met l y_res w_res lh_rm (lh_Pc D B t cI cZ cJ exI [.ref B, .int x1, .int x2, .int x3, .int x4, .ref (B + 83)] I g) (lh_Qc D B t cI cZ cJ 1 J g) (fun _ _ _ => False) 1 6 (lhA B) := by
  have hM := mx_met (D := D) (B := B) (t := t) (cI := cI) (cZ := cZ) (ik := 194) (ic := 196) (X := exI) hlt (by decide) (by decide +kernel) (by decide +kernel) ex_w1 hrun (by show 5 ≤ mm_mL 84; decide +kernel) (by decide +kernel) (by decide +kernel) (by decide +kernel) (by decide +kernel)
  refine vx_ofWH (cc := method_3_code) (maxL := 7) (ret := some .int) (hh := [(0, 14, 17, 13)]) (by decide +kernel) rfl ?_
  intro p e s m args below meth c s₁ Bd hml hv
  obtain ⟨rfl, w1, w2, w3, w3b, w4, w5, w6, w7, w8, w10, w11⟩ := hv
  have hown : s.vm.findClass "WholeSoundLaw" = some m.cls := findClass_of_methodNamed (x := y_res) Bd.named
  have hts0 := atoms_spec (ws := w_res) Bd.pre
  have hx := Bd.exec
  have hb := Bd.bytes
  have C : lhC p s m ([.ref B, .int x1, .int x2, .int x3, .int x4, .ref (B + 83)] : List Value).toArray c D B t cI cZ method_3_code 7 := ⟨hx, hb, hml, hown, fun w hw => hts0 w (List.mem_cons_of_mem _ hw), w3, w4, w5, w6, w7⟩
  have hR0 : lhR D B t cI cZ s (lh_oc cJ g) I s.heap [] := ⟨w1, w2, va_S.rf, w8⟩
  have hE := lv_entry ([.ref B, .int x1, .int x2, .int x3, .int x4, .ref (B + 83)] : List Value) (n := 7) (by show 6 ≤ 7; omega)
  rw [lg_entry_eq]
  revert hE
  generalize ((lg_sl ([.ref B, .int x1, .int x2, .int x3, .int x4, .ref (B + 83)] : List Value) ++ List.replicate (7 - (lg_sl ([.ref B, .int x1, .int x2, .int x3, .int x4, .ref (B + 83)] : List Value)).length) Slot.unset).toArray) = sl
  intro hl
  refine lv_aload hx hb (i := 5) (pc := 0) (by decide +kernel) (lv_at hl 5 rfl) ?_
  refine lv_iconst hx hb (n := 0) (v := 0) (pc := 2) (by decide +kernel) rfl ?_
  refine lv_aload_n hx hb (k := 0) (pc := 3) (by decide +kernel) (i := 0) rfl (lv_at hl 0 rfl) ?_
  refine lv_iload_n hx hb (k := 1) (pc := 4) (by decide +kernel) (i := 1) rfl (lv_at hl 1 rfl) ?_
  refine lv_iload_n hx hb (k := 2) (pc := 5) (by decide +kernel) (i := 2) rfl (lv_at hl 2 rfl) ?_
  refine lv_iload_n hx hb (k := 3) (pc := 6) (by decide +kernel) (i := 3) rfl (lv_at hl 3 rfl) ?_
  refine lv_iload hx hb (i := 4) (pc := 7) (by decide +kernel) (lv_at hl 4 rfl) ?_
  have htab := vx_table (x := y_res) Bd (hts0 _ List.mem_cons_self)
  refine lh_throw C (k := 84) (ix := 7) (a := 0) (as' := [.int x1, .int x2, .int x3, .int x4]) (rest := [.int 0, .ref (B + 83)]) (X := exI) (ci := 13) (x := ⟨0, 14, 17, 13⟩) (by decide) (by decide +kernel) (mm_wt_mem (i := 904) (by decide +kernel)) (pc := 9) (by decide +kernel) (by omega) (by decide +kernel) (show mm_na 84 = 5 by decide +kernel) rfl hl.1 (by show 1 + (1 + 0) ≤ 8; omega) ⟨by show 14 ≤ 14; omega, by show 560 ≤ 560; omega⟩ ⟨by show 0 + 1 ≤ 1; omega, by show 0 + 6 ≤ 6; omega⟩ hR0 w10 w11 hM htab (by decide) rfl (by decide) (mm_wt_mem (i := 903) (by decide +kernel)) (fun q H1 locs1 hR1 => ?_)
  refine lv_astore hx hb (i := 6) (pc := 17) (by decide +kernel) hl (by decide) rfl (fun sl1 hl1 => ?_)
  refine lv_iconst hx hb (pc := 19) (n := 1) (v := 1) (by decide +kernel) rfl ?_
  exact lh_ret hx hb Bd.returns Bd.notSynchronized hR1 (Nat.le_refl _) (Nat.le_refl _) (by decide +kernel)
def y_hea : MethodName := ⟨"WholeSoundLaw", "heard", "(LWholeSound;II[J)I"⟩
def w_hea : List Cond := Cond.codeWith y_hea method_4_code 5 (some .int) [(0, 10, 13, 19)] :: mm_GW
theorem wg_hea : (Cond.codeWith y_hea method_4_code 5 (some .int) [(0, 10, 13, 19)] : Cond) ∈ mm_GW := mm_wt_mem (i := 973) (by decide +kernel)
set_option maxHeartbeats 4000000 in
theorem c_hea0 {l : Launch} {D : va_G} {B t : Nat} {cI cZ cJ : ClassId} {I J : mm_I} {g : Nat → Int64} {x1 x2 : Int32} {v : Int32} (hrun : mm_Rn 112 [.ref 0, .int x1, .int x2] I (some (.int v)) J) : vx_Met l y_hea w_hea lh_rm (lh_Pc D B t cI cZ cJ exE [.ref B, .int x1, .int x2, .ref (B + 83)] I g) (lh_Qc D B t cI cZ cJ 0 J (vp_updL g 0 v.toInt64)) (fun _ _ _ => False) 1 6 (lhA B) := by
  refine vx_ofWH (cc := method_4_code) (maxL := 5) (ret := some .int) (hh := [(0, 10, 13, 19)]) (by decide +kernel) rfl ?_
  intro p e s m args below meth c s₁ Bd hml hv
  obtain ⟨rfl, w1, w2, w3, w3b, w4, w5, w6, w7, w8, w10, w11⟩ := hv
  have hown : s.vm.findClass "WholeSoundLaw" = some m.cls := findClass_of_methodNamed (x := y_hea) Bd.named
  have hts0 := atoms_spec (ws := w_hea) Bd.pre
  have hx := Bd.exec
  have hb := Bd.bytes
  have C : lhC p s m ([.ref B, .int x1, .int x2, .ref (B + 83)] : List Value).toArray c D B t cI cZ method_4_code 5 := ⟨hx, hb, hml, hown, fun w hw => hts0 w (List.mem_cons_of_mem _ hw), w3, w4, w5, w6, w7⟩
  have hR0 : lhR D B t cI cZ s (lh_oc cJ g) I s.heap [] := ⟨w1, w2, va_S.rf, w8⟩
  have hE := lv_entry ([.ref B, .int x1, .int x2, .ref (B + 83)] : List Value) (n := 5) (by show 4 ≤ 5; omega)
  rw [lg_entry_eq]
  revert hE
  generalize ((lg_sl ([.ref B, .int x1, .int x2, .ref (B + 83)] : List Value) ++ List.replicate (5 - (lg_sl ([.ref B, .int x1, .int x2, .ref (B + 83)] : List Value)).length) Slot.unset).toArray) = sl
  intro hl
  refine lv_aload_n hx hb (k := 3) (pc := 0) (by decide +kernel) (i := 3) rfl (lv_at hl 3 rfl) ?_
  refine lv_iconst hx hb (n := 0) (v := 0) (pc := 1) (by decide +kernel) rfl ?_
  refine lv_aload_n hx hb (k := 0) (pc := 2) (by decide +kernel) (i := 0) rfl (lv_at hl 0 rfl) ?_
  refine lv_iload_n hx hb (k := 1) (pc := 3) (by decide +kernel) (i := 1) rfl (lv_at hl 1 rfl) ?_
  refine lv_iload_n hx hb (k := 2) (pc := 4) (by decide +kernel) (i := 2) rfl (lv_at hl 2 rfl) ?_
  refine lh_call C (k := 112) (ix := 15) (a := 0) (as' := [.int x1, .int x2]) (rest := [.int 0, .ref (B + 83)]) (P := fun r I' => r = v ∧ I' = J) (by decide) (by decide +kernel) (mm_wt_mem (i := 975) (by decide +kernel)) (pc := 5) (by decide +kernel) (by omega) (by decide +kernel) (show mm_na 112 = 3 by decide +kernel) (by show 3 ≤ mm_mL 112; decide +kernel) rfl ⟨v, J, hrun, rfl, rfl⟩ hl.1 (by show 1 + (1 + 0) ≤ 8; omega) ⟨by show 14 ≤ 14; omega, by show 560 ≤ 560; omega⟩ ⟨Nat.zero_le _, Nat.zero_le _⟩ hR0 (fun r I' h H1 locs1 hR1 => ?_)
  obtain ⟨rfl, rfl⟩ := h
  exact lh_tail0 C w3b Bd.returns Bd.notSynchronized hR1 (Nat.zero_le _) (Nat.zero_le _) (by decide +kernel) (by decide +kernel) (by decide +kernel) (by decide +kernel) (by decide +kernel)
set_option maxHeartbeats 4000000 in
theorem c_hea1 {l : Launch} {D : va_G} {B t : Nat} {cI cZ cJ : ClassId} {I J : mm_I} {g : Nat → Int64} {x1 x2 : Int32} {f : Nat} {ls : mm_Ls} (hlt : l.stackTraces = false) (hrun : mm_run false f 112 0 (mm_ent (mm_mL 112) [.ref 0, .int x1, .int x2]) [] (mm_lay, I) = some (40, ls, [], (mm_lay, J))) : vx_Met l y_hea w_hea lh_rm (lh_Pc D B t cI cZ cJ exE [.ref B, .int x1, .int x2, .ref (B + 83)] I g) (lh_Qc D B t cI cZ cJ 1 J g) (fun _ _ _ => False) 1 6 (lhA B) := by
  have hM := mx_met (D := D) (B := B) (t := t) (cI := cI) (cZ := cZ) (ik := 334) (ic := 336) (X := exE) hlt (by decide) (by decide +kernel) (by decide +kernel) ex_w2 hrun (by show 3 ≤ mm_mL 112; decide +kernel) (by decide +kernel) (by decide +kernel) (by decide +kernel) (by decide +kernel)
  refine vx_ofWH (cc := method_4_code) (maxL := 5) (ret := some .int) (hh := [(0, 10, 13, 19)]) (by decide +kernel) rfl ?_
  intro p e s m args below meth c s₁ Bd hml hv
  obtain ⟨rfl, w1, w2, w3, w3b, w4, w5, w6, w7, w8, w10, w11⟩ := hv
  have hown : s.vm.findClass "WholeSoundLaw" = some m.cls := findClass_of_methodNamed (x := y_hea) Bd.named
  have hts0 := atoms_spec (ws := w_hea) Bd.pre
  have hx := Bd.exec
  have hb := Bd.bytes
  have C : lhC p s m ([.ref B, .int x1, .int x2, .ref (B + 83)] : List Value).toArray c D B t cI cZ method_4_code 5 := ⟨hx, hb, hml, hown, fun w hw => hts0 w (List.mem_cons_of_mem _ hw), w3, w4, w5, w6, w7⟩
  have hR0 : lhR D B t cI cZ s (lh_oc cJ g) I s.heap [] := ⟨w1, w2, va_S.rf, w8⟩
  have hE := lv_entry ([.ref B, .int x1, .int x2, .ref (B + 83)] : List Value) (n := 5) (by show 4 ≤ 5; omega)
  rw [lg_entry_eq]
  revert hE
  generalize ((lg_sl ([.ref B, .int x1, .int x2, .ref (B + 83)] : List Value) ++ List.replicate (5 - (lg_sl ([.ref B, .int x1, .int x2, .ref (B + 83)] : List Value)).length) Slot.unset).toArray) = sl
  intro hl
  refine lv_aload_n hx hb (k := 3) (pc := 0) (by decide +kernel) (i := 3) rfl (lv_at hl 3 rfl) ?_
  refine lv_iconst hx hb (n := 0) (v := 0) (pc := 1) (by decide +kernel) rfl ?_
  refine lv_aload_n hx hb (k := 0) (pc := 2) (by decide +kernel) (i := 0) rfl (lv_at hl 0 rfl) ?_
  refine lv_iload_n hx hb (k := 1) (pc := 3) (by decide +kernel) (i := 1) rfl (lv_at hl 1 rfl) ?_
  refine lv_iload_n hx hb (k := 2) (pc := 4) (by decide +kernel) (i := 2) rfl (lv_at hl 2 rfl) ?_
  have htab := vx_table (x := y_hea) Bd (hts0 _ List.mem_cons_self)
  refine lh_throw C (k := 112) (ix := 15) (a := 0) (as' := [.int x1, .int x2]) (rest := [.int 0, .ref (B + 83)]) (X := exE) (ci := 19) (x := ⟨0, 10, 13, 19⟩) (by decide) (by decide +kernel) (mm_wt_mem (i := 975) (by decide +kernel)) (pc := 5) (by decide +kernel) (by omega) (by decide +kernel) (show mm_na 112 = 3 by decide +kernel) rfl hl.1 (by show 1 + (1 + 0) ≤ 8; omega) ⟨by show 14 ≤ 14; omega, by show 560 ≤ 560; omega⟩ ⟨by show 0 + 1 ≤ 1; omega, by show 0 + 6 ≤ 6; omega⟩ hR0 w10 w11 hM htab (by decide) rfl (by decide) (mm_wt_mem (i := 974) (by decide +kernel)) (fun q H1 locs1 hR1 => ?_)
  refine lv_astore hx hb (i := 4) (pc := 13) (by decide +kernel) hl (by decide) rfl (fun sl1 hl1 => ?_)
  refine lv_iconst hx hb (pc := 15) (n := 1) (v := 1) (by decide +kernel) rfl ?_
  exact lh_ret hx hb Bd.returns Bd.notSynchronized hR1 (Nat.le_refl _) (Nat.le_refl _) (by decide +kernel)
def y_lou : MethodName := ⟨"WholeSoundLaw", "loud", "(LWholeSound;II[J)I"⟩
def w_lou : List Cond := Cond.codeWith y_lou method_5_code 5 (some .int) [(0, 10, 13, 19)] :: mm_GW
theorem wg_lou : (Cond.codeWith y_lou method_5_code 5 (some .int) [(0, 10, 13, 19)] : Cond) ∈ mm_GW := mm_wt_mem (i := 996) (by decide +kernel)
set_option maxHeartbeats 4000000 in
theorem c_lou0 {l : Launch} {D : va_G} {B t : Nat} {cI cZ cJ : ClassId} {I J : mm_I} {g : Nat → Int64} {x1 x2 : Int32} {v : Int32} (hrun : mm_Rn 115 [.ref 0, .int x1, .int x2] I (some (.int v)) J) : vx_Met l y_lou w_lou lh_rm (lh_Pc D B t cI cZ cJ exE [.ref B, .int x1, .int x2, .ref (B + 83)] I g) (lh_Qc D B t cI cZ cJ 0 J (vp_updL g 0 v.toInt64)) (fun _ _ _ => False) 1 6 (lhA B) := by
  refine vx_ofWH (cc := method_5_code) (maxL := 5) (ret := some .int) (hh := [(0, 10, 13, 19)]) (by decide +kernel) rfl ?_
  intro p e s m args below meth c s₁ Bd hml hv
  obtain ⟨rfl, w1, w2, w3, w3b, w4, w5, w6, w7, w8, w10, w11⟩ := hv
  have hown : s.vm.findClass "WholeSoundLaw" = some m.cls := findClass_of_methodNamed (x := y_lou) Bd.named
  have hts0 := atoms_spec (ws := w_lou) Bd.pre
  have hx := Bd.exec
  have hb := Bd.bytes
  have C : lhC p s m ([.ref B, .int x1, .int x2, .ref (B + 83)] : List Value).toArray c D B t cI cZ method_5_code 5 := ⟨hx, hb, hml, hown, fun w hw => hts0 w (List.mem_cons_of_mem _ hw), w3, w4, w5, w6, w7⟩
  have hR0 : lhR D B t cI cZ s (lh_oc cJ g) I s.heap [] := ⟨w1, w2, va_S.rf, w8⟩
  have hE := lv_entry ([.ref B, .int x1, .int x2, .ref (B + 83)] : List Value) (n := 5) (by show 4 ≤ 5; omega)
  rw [lg_entry_eq]
  revert hE
  generalize ((lg_sl ([.ref B, .int x1, .int x2, .ref (B + 83)] : List Value) ++ List.replicate (5 - (lg_sl ([.ref B, .int x1, .int x2, .ref (B + 83)] : List Value)).length) Slot.unset).toArray) = sl
  intro hl
  refine lv_aload_n hx hb (k := 3) (pc := 0) (by decide +kernel) (i := 3) rfl (lv_at hl 3 rfl) ?_
  refine lv_iconst hx hb (n := 0) (v := 0) (pc := 1) (by decide +kernel) rfl ?_
  refine lv_aload_n hx hb (k := 0) (pc := 2) (by decide +kernel) (i := 0) rfl (lv_at hl 0 rfl) ?_
  refine lv_iload_n hx hb (k := 1) (pc := 3) (by decide +kernel) (i := 1) rfl (lv_at hl 1 rfl) ?_
  refine lv_iload_n hx hb (k := 2) (pc := 4) (by decide +kernel) (i := 2) rfl (lv_at hl 2 rfl) ?_
  refine lh_call C (k := 115) (ix := 21) (a := 0) (as' := [.int x1, .int x2]) (rest := [.int 0, .ref (B + 83)]) (P := fun r I' => r = v ∧ I' = J) (by decide) (by decide +kernel) (mm_wt_mem (i := 997) (by decide +kernel)) (pc := 5) (by decide +kernel) (by omega) (by decide +kernel) (show mm_na 115 = 3 by decide +kernel) (by show 3 ≤ mm_mL 115; decide +kernel) rfl ⟨v, J, hrun, rfl, rfl⟩ hl.1 (by show 1 + (1 + 0) ≤ 8; omega) ⟨by show 14 ≤ 14; omega, by show 560 ≤ 560; omega⟩ ⟨Nat.zero_le _, Nat.zero_le _⟩ hR0 (fun r I' h H1 locs1 hR1 => ?_)
  obtain ⟨rfl, rfl⟩ := h
  exact lh_tail0 C w3b Bd.returns Bd.notSynchronized hR1 (Nat.zero_le _) (Nat.zero_le _) (by decide +kernel) (by decide +kernel) (by decide +kernel) (by decide +kernel) (by decide +kernel)
set_option maxHeartbeats 4000000 in
theorem c_lou1 {l : Launch} {D : va_G} {B t : Nat} {cI cZ cJ : ClassId} {I J : mm_I} {g : Nat → Int64} {x1 x2 : Int32} {f : Nat} {ls : mm_Ls} (hlt : l.stackTraces = false) (hrun : mm_run false f 115 0 (mm_ent (mm_mL 115) [.ref 0, .int x1, .int x2]) [] (mm_lay, I) = some (32, ls, [], (mm_lay, J))) : vx_Met l y_lou w_lou lh_rm (lh_Pc D B t cI cZ cJ exE [.ref B, .int x1, .int x2, .ref (B + 83)] I g) (lh_Qc D B t cI cZ cJ 1 J g) (fun _ _ _ => False) 1 6 (lhA B) := by
  have hM := mx_met (D := D) (B := B) (t := t) (cI := cI) (cZ := cZ) (ik := 334) (ic := 336) (X := exE) hlt (by decide) (by decide +kernel) (by decide +kernel) ex_w2 hrun (by show 3 ≤ mm_mL 115; decide +kernel) (by decide +kernel) (by decide +kernel) (by decide +kernel) (by decide +kernel)
  refine vx_ofWH (cc := method_5_code) (maxL := 5) (ret := some .int) (hh := [(0, 10, 13, 19)]) (by decide +kernel) rfl ?_
  intro p e s m args below meth c s₁ Bd hml hv
  obtain ⟨rfl, w1, w2, w3, w3b, w4, w5, w6, w7, w8, w10, w11⟩ := hv
  have hown : s.vm.findClass "WholeSoundLaw" = some m.cls := findClass_of_methodNamed (x := y_lou) Bd.named
  have hts0 := atoms_spec (ws := w_lou) Bd.pre
  have hx := Bd.exec
  have hb := Bd.bytes
  have C : lhC p s m ([.ref B, .int x1, .int x2, .ref (B + 83)] : List Value).toArray c D B t cI cZ method_5_code 5 := ⟨hx, hb, hml, hown, fun w hw => hts0 w (List.mem_cons_of_mem _ hw), w3, w4, w5, w6, w7⟩
  have hR0 : lhR D B t cI cZ s (lh_oc cJ g) I s.heap [] := ⟨w1, w2, va_S.rf, w8⟩
  have hE := lv_entry ([.ref B, .int x1, .int x2, .ref (B + 83)] : List Value) (n := 5) (by show 4 ≤ 5; omega)
  rw [lg_entry_eq]
  revert hE
  generalize ((lg_sl ([.ref B, .int x1, .int x2, .ref (B + 83)] : List Value) ++ List.replicate (5 - (lg_sl ([.ref B, .int x1, .int x2, .ref (B + 83)] : List Value)).length) Slot.unset).toArray) = sl
  intro hl
  refine lv_aload_n hx hb (k := 3) (pc := 0) (by decide +kernel) (i := 3) rfl (lv_at hl 3 rfl) ?_
  refine lv_iconst hx hb (n := 0) (v := 0) (pc := 1) (by decide +kernel) rfl ?_
  refine lv_aload_n hx hb (k := 0) (pc := 2) (by decide +kernel) (i := 0) rfl (lv_at hl 0 rfl) ?_
  refine lv_iload_n hx hb (k := 1) (pc := 3) (by decide +kernel) (i := 1) rfl (lv_at hl 1 rfl) ?_
  refine lv_iload_n hx hb (k := 2) (pc := 4) (by decide +kernel) (i := 2) rfl (lv_at hl 2 rfl) ?_
  have htab := vx_table (x := y_lou) Bd (hts0 _ List.mem_cons_self)
  refine lh_throw C (k := 115) (ix := 21) (a := 0) (as' := [.int x1, .int x2]) (rest := [.int 0, .ref (B + 83)]) (X := exE) (ci := 19) (x := ⟨0, 10, 13, 19⟩) (by decide) (by decide +kernel) (mm_wt_mem (i := 997) (by decide +kernel)) (pc := 5) (by decide +kernel) (by omega) (by decide +kernel) (show mm_na 115 = 3 by decide +kernel) rfl hl.1 (by show 1 + (1 + 0) ≤ 8; omega) ⟨by show 14 ≤ 14; omega, by show 560 ≤ 560; omega⟩ ⟨by show 0 + 1 ≤ 1; omega, by show 0 + 6 ≤ 6; omega⟩ hR0 w10 w11 hM htab (by decide) rfl (by decide) (mm_wt_mem (i := 974) (by decide +kernel)) (fun q H1 locs1 hR1 => ?_)
  refine lv_astore hx hb (i := 4) (pc := 13) (by decide +kernel) hl (by decide) rfl (fun sl1 hl1 => ?_)
  refine lv_iconst hx hb (pc := 15) (n := 1) (v := 1) (by decide +kernel) rfl ?_
  exact lh_ret hx hb Bd.returns Bd.notSynchronized hR1 (Nat.le_refl _) (Nat.le_refl _) (by decide +kernel)
