/-! the law's helpers call the class -/
def lhA (B : Nat) : Nat → Prop := fun q => B ≤ q ∧ q < B + 84
def lhC (p : Program) (s : State) (m : MethodId) (args : Array Value) (c : Code) (D : va_G) (B t : Nat) (cI cZ : ClassId) (cc : ByteArray) (nL : Nat) : Prop :=
  p.tables.exec = Jvm.exec ∧ c.code = cc ∧ c.maxLocals = nL ∧ s.vm.findClass "WholeSoundLaw" = some m.cls ∧ (∀ w ∈ mm_GW, w.before args s = true) ∧ va_K D vwCl (mm_tys cI cZ) s ∧ mm_Nst s ∧ va_Z "WholeSoundModel" "FIXED" "[I" (.ref t) (fun q => B ≤ q) s s.heap ∧ va_T .int t 20 (fun j => .int (mm_fix j)) (fun q => B ≤ q) s s.heap ∧ B ≤ s.heap.size
def lhR (D : va_G) (B t : Nat) (cI cZ : ClassId) (s : State) (oc : Cell) (I : mm_I) (H : Heap) (locs : List Loc) : Prop :=
  va_P D vwCl (mm_wl B t cI cZ (mm_lay, I)) H ∧ va_D (mo_A B) (mm_wl B t cI cZ (mm_lay, I)) ∧ va_S (lhA B) s.heap H locs ∧ H[B + 83]? = some oc
section LHA
variable {p : Program} {l : Launch} {e : Env} {R : Room} {s : State} {m : MethodId} {args : Array Value} {below : List Frame} {meth : Method} {c : Code} {H : Heap} {locs : List Loc} {cells slots : Nat} {Q : State → Prop} {D : va_G} {B t : Nat} {cI cZ : ClassId} {pc : Nat} {sl : Array Slot} {oc : Cell} {I : mm_I} {cc : ByteArray} {nL : Nat}
set_option maxHeartbeats 4000000 in
theorem lh_call (C : lhC p s m args c D B t cI cZ cc nL) {k ix a : Nat} {as' rest : List Value} {P : Int32 → mm_I → Prop} (hk : k < 227) (hmd : mm_md k = 1) (hl : Cond.methodLink "WholeSoundLaw" ix (mm_y k) ∈ mm_GW) (hd : decode cc pc = .ok (.invokevirtual ix, 3)) (ha : a < 83) (hKa : mm_nth 0 mm_lK a = mm_c k) (hna : mm_na k = as'.length + 1) (hfit : (mm_ent0 (.ref a :: as')).length ≤ mm_mL k) (has : as'.map (mm_rv B t) = as') (hrun : mm_Mi k (.ref a :: as') I P) (hsl : sl.size = nL) (hsum : (rest.map fun v => v.category).sum ≤ 8) (hroom : 14 ≤ R.frames ∧ 560 ≤ R.locals) (hcell : cells ≤ R.cells ∧ slots ≤ R.slots) (hR : lhR D B t cI cZ s oc I H locs)
    (kk : ∀ r I', P r I' → ∀ H1 locs1, lhR D B t cI cZ s oc I' H1 locs1 → W p l e R s m args below meth c H1 locs1 cells slots Q (F0 m (pc + 3) sl (.int r :: rest))) : W p l e R s m args below meth c H locs cells slots Q (F0 m pc sl (as'.reverse ++ .ref (B + a) :: rest)) := by
  obtain ⟨r, I', ⟨f, pc', ls', st', hrun, hret⟩, hP⟩ := hrun
  obtain ⟨hx, hb, hml, hown, hts, hK, hN, hZ, hT, hB⟩ := C
  obtain ⟨hPh, hD, hS, hO⟩ := hR
  obtain ⟨f1, f2, f3, f4, f5, f6, f7, f8, f9, f10, f11⟩ := mm_mk hk
  have hM0 := mo_met_of (l := l) (s' := (pc', ls', st', (mm_lay, I'))) (mo_swAll l D B t cI cZ false rfl f) hk hrun hret hfit
  have hM : mo_Mt l D B t cI cZ false k (.ref a :: as') (mm_lay, I) (some (.int r)) (mm_lay, I') := hM0
  have n0 : mm_n (mm_lay, I') - mm_n (mm_lay, I) = 0 := Nat.sub_self mm_lay.1
  have s0 : mm_sl (mm_lay, I') - mm_sl (mm_lay, I) = 0 := Nat.sub_self mm_lay.2.1
  unfold mo_Mt at hM
  rw [n0, s0] at hM
  have hgood : ∀ w ∈ mm_ws k, w ∈ mm_GW := fun w hw => by
    rcases List.mem_cons.mp hw with rfl | z
    · exact f7
    · exact z
  have hc10 : mm_c k < 10 := by
    have := List.all_eq_true.mp mm_cmd k (List.mem_range.mpr hk)
    rw [Bool.or_eq_true, mm_beq_iff, mm_blt_iff] at this
    omega
  have hget := mm_wl_get (B := B) (t := t) (cI := cI) (cZ := cZ) (h := (mm_lay, I)) (a := a) ha
  rw [mm_cel_obj (h := (mm_lay, I)) hKa hc10] at hget
  have hrc2 := va_recv hK hPh (mm_cl hc10).1 hget
  have er : mm_rv B t (.ref a) = .ref (B + a) := mm_rv_ref ha (by omega)
  have hpar : (parseMethodDescriptor (mm_y k).desc).map (fun d => d.parameters.length) = some as'.length := by
    have h1 := (f9 (by omega)).2
    cases hpd : parseMethodDescriptor (mm_y k).desc with
    | none => rw [hpd] at h1; cases h1
    | some d =>
      rw [hpd] at h1
      have h2 : d.parameters.length + 1 = mm_na k := Option.some.inj h1
      exact congrArg some (Nat.add_right_cancel (h2.trans hna))
  have hWd : ∀ U : State, U.heap = H → s.WarmedH U.vm → mo_Wd D B t cI cZ false (mm_lay, I) U := fun U hU hW => by
    unfold mo_Wd
    rw [hU]
    exact ⟨hPh, hD, va_K.moved hW.alike hK, hN.warm hW, va_Z_mo ((hZ.moved hW.alike).kept (fun a h1 h2 => hS.2.1 a h1 (fun z => h2 z.1))), va_T_mo ((hT.moved hW.alike).kept (fun a h1 h2 => hS.2.1 a h1 (fun z => h2 z.1))), fun z => (by cases z), Nat.le_trans hB hS.1, by show 83 ≤ 4000; omega⟩
  have hpre : PreV s H (mm_cn (mm_c k)) (B + a) (mo_Pc D B t cI cZ false (.ref a :: as') (mm_lay, I)) as' := ⟨mo_Pc_blind, hrc2, fun U hU hW => ⟨by rw [List.map_cons, er, has], hWd U hU hW⟩⟩
  have hsel := f10 hmd
  rw [f1] at hsel
  have hrm : (mm_rm k 0 0).frames + 1 ≤ R.frames ∧ 8 + (mm_mL k + 11) + (mm_rm k 0 0).locals ≤ R.locals := ⟨by show mm_dp k + 1 ≤ _; omega, by show 8 + (mm_mL k + 11) + 40 * mm_dp k ≤ _; omega⟩
  have hgo : va_Run p l e R s m args below meth c H locs cells slots 0 0 (F0 m pc sl (as'.reverse ++ .ref (B + a) :: rest)) rest (mo_Qc D B t cI cZ (some (.int r)) (mm_lay, I') (Value.ref (B + a) :: as').toArray) (mo_A B) := by
    refine va_runV ⟨hx, hb, hml, hown, hts⟩ hM (cwV as'.length hts (mm_gw_good _ ?_) rfl rfl rfl ⟨f1, f6.1, f6.2, hpar⟩ hrm) hpre rfl rfl hsl rfl (lv_room hsum) hd ⟨hcell.1, hcell.2⟩
    intro w hw
    simp only [wsV, List.mem_append, List.mem_cons, List.not_mem_nil, or_false] at hw
    rcases hw with (rfl | rfl | rfl | rfl) | z
    · exact hl
    · exact (f9 (by omega)).1
    · exact hsel
    · rw [← f1]; exact f2
    · exact hgood w z
  intro T hT2 X
  obtain ⟨v', st₀, t', T', L2, h0, X', hL, e1, e2, ⟨hv, hP2, hD2, hF, hn⟩, st⟩ := hgo T hT2 X
  cases hv
  obtain ⟨hz, hkp⟩ := hF
  rw [h0] at hz hkp
  have h83 : B + 83 < H.size := (Array.getElem?_eq_some_iff.mp hO).1
  obtain ⟨t2, a1, c1⟩ := kk r I' hP T'.heap (locs ++ L2) ⟨by rw [e1]; exact hP2, hD2, ⟨Nat.le_trans hS.1 (by rw [e1]; exact hz), fun q h1 h2 => by rw [e1, hkp q (Nat.lt_of_lt_of_le h1 hS.1) (fun z => h2 ⟨z.1, by have := z.2; omega⟩)]; exact hS.2.1 q h1 h2, fun q hq => by
      rcases List.mem_append.mp hq with z | z
      · exact hS.2.2 q z
      · exact ⟨(hL q z).1, by have := (hL q z).2; omega⟩⟩, by rw [e1, hkp _ h83 (fun z => by have := z.2; omega)]; exact hO⟩ T' rfl X'
  exact ⟨t2, st t2 a1, c1⟩
set_option maxHeartbeats 4000000 in
theorem lh_throw (C : lhC p s m args c D B t cI cZ cc nL) {k ix a : Nat} {as' rest : List Value} {J : mm_I} {X : String} {ci : Nat} {x : ExceptionTableEntry} (hk : k < 227) (hmd : mm_md k = 1) (hl : Cond.methodLink "WholeSoundLaw" ix (mm_y k) ∈ mm_GW) (hd : decode cc pc = .ok (.invokevirtual ix, 3)) (ha : a < 83) (hKa : mm_nth 0 mm_lK a = mm_c k) (hna : mm_na k = as'.length + 1) (has : as'.map (mm_rv B t) = as') (hsl : sl.size = nL) (hsum : (rest.map fun v => v.category).sum ≤ 8) (hroom : 14 ≤ R.frames ∧ 560 ≤ R.locals) (hcell : cells + 1 ≤ R.cells ∧ slots + 6 ≤ R.slots) (hR : lhR D B t cI cZ s oc I H locs) (hex : exD X s) (hzs : mx_Zs (fun q => B ≤ q) s)
    (hM : vx_Met l (mm_y k) (mm_ws k) (mx_rm k) (mx_Pc D B t cI cZ X (.ref a :: as') I) (fun _ _ _ _ => False) (mx_XC D B t cI cZ X J) 1 6 (mo_A B))
    (htab : c.exceptionTable.toList = [x]) (hcov : covers x pc = true) (hct : x.catchType = ci) (hc0 : ci ≠ 0) (hcl : Cond.classLink "WholeSoundLaw" ci X ∈ mm_GW)
    (kk : ∀ (q : Addr) (H1 : Heap) (locs1 : List Loc), lhR D B t cI cZ s oc J H1 locs1 → W p l e R s m args below meth c H1 locs1 (cells + 1) (slots + 6) Q (F0 m x.handlerPc sl [.ref q])) : W p l e R s m args below meth c H locs cells slots Q (F0 m pc sl (as'.reverse ++ .ref (B + a) :: rest)) := by
  obtain ⟨hx, hb, hml, hown, hts, hK, hN, hZ, hT, hB⟩ := C
  obtain ⟨hPh, hD, hS, hO⟩ := hR
  obtain ⟨f1, f2, f3, f4, f5, f6, f7, f8, f9, f10, f11⟩ := mm_mk hk
  have hgood : ∀ w ∈ mm_ws k, w ∈ mm_GW := fun w hw => by
    rcases List.mem_cons.mp hw with rfl | z
    · exact f7
    · exact z
  have hc10 : mm_c k < 10 := by
    have := List.all_eq_true.mp mm_cmd k (List.mem_range.mpr hk)
    rw [Bool.or_eq_true, mm_beq_iff, mm_blt_iff] at this
    omega
  have hget := mm_wl_get (B := B) (t := t) (cI := cI) (cZ := cZ) (h := (mm_lay, I)) (a := a) ha
  rw [mm_cel_obj (h := (mm_lay, I)) hKa hc10] at hget
  have hrc2 := va_recv hK hPh (mm_cl hc10).1 hget
  have er : mm_rv B t (.ref a) = .ref (B + a) := mm_rv_ref ha (by omega)
  have hpar : (parseMethodDescriptor (mm_y k).desc).map (fun d => d.parameters.length) = some as'.length := by
    have h1 := (f9 (by omega)).2
    cases hpd : parseMethodDescriptor (mm_y k).desc with
    | none => rw [hpd] at h1; cases h1
    | some d =>
      rw [hpd] at h1
      have h2 : d.parameters.length + 1 = mm_na k := Option.some.inj h1
      exact congrArg some (Nat.add_right_cancel (h2.trans hna))
  have hWd : ∀ U : State, U.heap = H → s.WarmedH U.vm → mo_Wd D B t cI cZ false (mm_lay, I) U := fun U hU hW => by
    unfold mo_Wd
    rw [hU]
    exact ⟨hPh, hD, va_K.moved hW.alike hK, hN.warm hW, va_Z_mo ((hZ.moved hW.alike).kept (fun a h1 h2 => hS.2.1 a h1 (fun z => h2 z.1))), va_T_mo ((hT.moved hW.alike).kept (fun a h1 h2 => hS.2.1 a h1 (fun z => h2 z.1))), fun z => (by cases z), Nat.le_trans hB hS.1, by show 83 ≤ 4000; omega⟩
  have hpre : PreV s H (mm_cn (mm_c k)) (B + a) (mx_Pc D B t cI cZ X (.ref a :: as') I) as' := ⟨mx_blind, hrc2, fun U hU hW => ⟨by rw [List.map_cons, er, has], hWd U hU hW, hex.warm hW, by rw [hU]; exact ((hzs.1.moved hW.alike).kept (fun a h1 h2 => hS.2.1 a h1 (fun z => h2 z.1))).narrow (fun q z => z.1), by rw [hU]; exact ((hzs.2.moved hW.alike).kept (fun a h1 h2 => hS.2.1 a h1 (fun z => h2 z.1))).narrow (fun q z => z.1)⟩⟩
  have hsel := f10 hmd
  rw [f1] at hsel
  have fb := mx_f_b f4
  have hrm : (mx_rm k).frames + 1 ≤ R.frames ∧ 8 + (mm_mL k + 11) + (mx_rm k).locals ≤ R.locals := ⟨by show mx_f k + 1 ≤ _; omega, by show 8 + (mm_mL k + 11) + 40 * mx_f k ≤ _; omega⟩
  have hgo := vx_runV (locs := locs) (cells := cells) (slots := slots) (below := below) (meth := meth) (e := e) (g := F0 m pc sl (as'.reverse ++ .ref (B + a) :: rest)) (rest := rest) ⟨hx, hb, hml, hown, hts⟩ hM (cwV as'.length hts (mm_gw_good _ (fun w hw => by
    simp only [wsV, List.mem_append, List.mem_cons, List.not_mem_nil, or_false] at hw
    rcases hw with (rfl | rfl | rfl | rfl) | z
    · exact hl
    · exact (f9 (by omega)).1
    · exact hsel
    · rw [← f1]; exact f2
    · exact hgood w z)) rfl rfl rfl ⟨f1, f6.1, f6.2, hpar⟩ hrm) hpre rfl rfl hsl rfl (lv_room hsum) hd ⟨hcell.1, hcell.2⟩
  intro T hT2 X2
  have h83 : B + 83 < H.size := (Array.getElem?_eq_some_iff.mp hO).1
  rcases hgo T hT2 X2 with ⟨v', st₀, t', T', L2, h0, X', hL, e1, e2, hQ, st⟩ | ⟨q, st₀, t', T', L2, E, ce, h0, X', hL, e1, e2, ⟨hE, hP2, hD2, hF⟩, hce, hcv, hcl2, st⟩
  · exact hQ.elim
  · subst hE
    obtain ⟨hz, hkp⟩ := hF
    rw [h0] at hz hkp
    have hR1 : lhR D B t cI cZ s oc J T'.heap (locs ++ L2) := ⟨by rw [e1]; exact hP2, hD2, ⟨Nat.le_trans hS.1 (by rw [e1]; exact hz), fun q h1 h2 => by rw [e1, hkp q (Nat.lt_of_lt_of_le h1 hS.1) (fun z => h2 ⟨z.1, by have := z.2; omega⟩)]; exact hS.2.1 q h1 h2, fun q hq => by
      rcases List.mem_append.mp hq with z | z
      · exact hS.2.2 q z
      · exact ⟨(hL q z).1, by have := (hL q z).2; omega⟩⟩, by rw [e1, hkp _ h83 (fun z => by have := z.2; omega)]; exact hO⟩
    have cat := vx_catch (p := p) (l := l) (e := e) (R := R) (s := s) (m := m) (args := args) (below := below) (meth := meth) (c := c) (H := T'.heap) (locs := locs ++ L2) (cells := cells + 1) (slots := slots + 6) (Q := Q) (ls := sl) (rest := rest) (pc := pc) (q := q) (ce := ce) hown [] x [] htab (fun z hz => by cases hz) hcov (by rw [hct]; exact hc0) (by rw [hct]; exact hts _ hcl) (va_Nw.use rfl hex.2.2.2) (by rw [e1]; exact hce) hcv hcl2 (kk q T'.heap (locs ++ L2) hR1)
    obtain ⟨t2, a1, c1⟩ := cat T' rfl X'
    exact ⟨t2, st.trans a1, c1⟩
end LHA
