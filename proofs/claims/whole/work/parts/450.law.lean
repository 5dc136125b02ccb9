/-! the law: what stands while it runs -/
def lwC (p : Program) (s : State) (m : MethodId) (args : Array Value) (c : Code) (D : va_G) (B t : Nat) (cI cZ : ClassId) (b L : Nat) (xs : Nat → Int32) : Prop :=
  p.tables.exec = Jvm.exec ∧ c.code = code ∧ c.maxLocals = 7 ∧ s.vm.findClass "WholeSoundLaw" = some m.cls ∧ (∀ w ∈ mm_GW, w.before args s = true) ∧ va_K D vwCl (mm_tys cI cZ) s ∧ mm_Nst s ∧ va_Z "WholeSoundModel" "FIXED" "[I" (.ref t) (fun q => B ≤ q) s s.heap ∧ va_T .int t 20 (fun j => .int (mm_fix j)) (fun q => B ≤ q) s s.heap ∧ B = s.heap.size ∧ va_X b L xs s s.heap ∧ b < s.heap.size
/-- the world of the law: both objects, and the cell of its own row -/
def lwR (D : va_G) (B t : Nat) (cI cZ : ClassId) (s : State) (oc : Cell) (I : mm_I) (H : Heap) (locs : List Loc) : Prop :=
  va_P D vwCl (mm_wl B t cI cZ (mm_lay, I)) H ∧ va_D (mo_A B) (mm_wl B t cI cZ (mm_lay, I)) ∧ va_S (fun q => B ≤ q) s.heap H locs ∧ H[B + 83]? = some oc
theorem va_Z_mo {B : Nat} {C n d : String} {v : Value} {U : State} {H : Heap} (h : va_Z C n d v (fun q => B ≤ q) U H) : va_Z C n d v (mo_A B) U H := by
  obtain ⟨cf, kf, fi, f, a, cell, h1, h2, h3, h4, h5, h6, h7, h8⟩ := h
  exact ⟨cf, kf, fi, f, a, cell, h1, h2, h3, h4, h5, h6, h7, fun z => h8 z.1⟩
theorem va_T_mo {B : Nat} {ty : FieldType} {t N : Nat} {f : Nat → Value} {U : State} {H : Heap} (h : va_T ty t N f (fun q => B ≤ q) U H) : va_T ty t N f (mo_A B) U H := by
  obtain ⟨cell, h1, h2, h3, h4, h5, h6, h7⟩ := h
  exact ⟨cell, h1, h2, h3, h4, h5, h6, fun z => h7 z.1⟩
section LWA
variable {p : Program} {l : Launch} {e : Env} {R : Room} {s : State} {m : MethodId} {args : Array Value} {below : List Frame} {meth : Method} {c : Code} {H : Heap} {locs : List Loc} {cells slots : Nat} {Q : State → Prop} {D : va_G} {B t : Nat} {cI cZ : ClassId} {pc : Nat} {sl : Array Slot} {b L : Nat} {xs : Nat → Int32} {oc : Cell} {I : mm_I}
set_option maxHeartbeats 4000000 in
/-- a call of one of the two objects -/
theorem lw_call (C : lwC p s m args c D B t cI cZ b L xs) {k ix a : Nat} {as' rest : List Value} {P : Int32 → mm_I → Prop} (hk : k < 227) (hmd : mm_md k = 1) (hl : Cond.methodLink "WholeSoundLaw" ix (mm_y k) ∈ mm_GW) (hd : decode code pc = .ok (.invokevirtual ix, 3)) (ha : a < 83) (hKa : mm_nth 0 mm_lK a = mm_c k) (hna : mm_na k = as'.length + 1) (hfit : (mm_ent0 (.ref a :: as')).length ≤ mm_mL k) (has : as'.map (mm_rv B t) = as') (hrun : mm_Mi k (.ref a :: as') I P) (hsl : sl.size = 7) (hsum : (rest.map fun v => v.category).sum ≤ 8) (hroom : 14 ≤ R.frames ∧ 560 ≤ R.locals) (hcell : cells ≤ R.cells ∧ slots ≤ R.slots) (hR : lwR D B t cI cZ s oc I H locs)
    (kk : ∀ r I', P r I' → ∀ H1 locs1, lwR D B t cI cZ s oc I' H1 locs1 → W p l e R s m args below meth c H1 locs1 cells slots Q (F0 m (pc + 3) sl (.int r :: rest))) : W p l e R s m args below meth c H locs cells slots Q (F0 m pc sl (as'.reverse ++ .ref (B + a) :: rest)) := by
  obtain ⟨r, I', ⟨f, pc', ls', st', hrun, hret⟩, hP⟩ := hrun
  obtain ⟨hx, hb, hml, hown, hts, hK, hN, hZ, hT, hB, hX, hbl⟩ := C
  obtain ⟨hPh, hD, hS, hO⟩ := hR
  obtain ⟨f1, f2, f3, f4, f5, f6, f7, f8, f9, f10, f11⟩ := mm_mk hk
  have hM0 := mo_met_of (l := l) (s' := (pc', ls', st', (mm_lay, I'))) (mo_swAll l D B t cI cZ false rfl f) hk hrun hret hfit
  have hM : mo_Mt l D B t cI cZ false k (.ref a :: as') (mm_lay, I) (some (.int r)) (mm_lay, I') := hM0
  have n0 : mm_n (mm_lay, I') - mm_n (mm_lay, I) = 0 := Nat.sub_self mm_lay.1
  have s0 : mm_sl (mm_lay, I') - mm_sl (mm_lay, I) = 0 := Nat.sub_self mm_lay.2.1
  unfold mo_Mt at hM
  rw [n0, s0] at hM
  have hgood : ∀ w ∈ mm_ws k, w ∈ mm_GW := fun w hw => by
    rcases List.mem_cons.mp hw with rfl | z
    · exact f7
    · exact z
  have hc10 : mm_c k < 10 := by
    have := List.all_eq_true.mp mm_cmd k (List.mem_range.mpr hk)
    rw [Bool.or_eq_true, mm_beq_iff, mm_blt_iff] at this
    omega
  have hget := mm_wl_get (B := B) (t := t) (cI := cI) (cZ := cZ) (h := (mm_lay, I)) (a := a) ha
  rw [mm_cel_obj (h := (mm_lay, I)) hKa hc10] at hget
  have hrc2 := va_recv hK hPh (mm_cl hc10).1 hget
  have er : mm_rv B t (.ref a) = .ref (B + a) := mm_rv_ref ha (by omega)
  have hpar : (parseMethodDescriptor (mm_y k).desc).map (fun d => d.parameters.length) = some as'.length := by
    have h1 := (f9 (by omega)).2
    cases hpd : parseMethodDescriptor (mm_y k).desc with
    | none => rw [hpd] at h1; cases h1
    | some d =>
      rw [hpd] at h1
      have h2 : d.parameters.length + 1 = mm_na k := Option.some.inj h1
      exact congrArg some (Nat.add_right_cancel (h2.trans hna))
  have hWd : ∀ U : State, U.heap = H → s.WarmedH U.vm → mo_Wd D B t cI cZ false (mm_lay, I) U := fun U hU hW => by
    unfold mo_Wd
    rw [hU]
    exact ⟨hPh, hD, va_K.moved hW.alike hK, hN.warm hW, va_Z_mo ((hZ.moved hW.alike).kept (fun a h1 h2 => hS.2.1 a h1 h2)), va_T_mo ((hT.moved hW.alike).kept (fun a h1 h2 => hS.2.1 a h1 h2)), fun z => (by cases z), by rw [hB]; exact hS.1, by show 83 ≤ 4000; omega⟩
  have hpre : PreV s H (mm_cn (mm_c k)) (B + a) (mo_Pc D B t cI cZ false (.ref a :: as') (mm_lay, I)) as' := ⟨mo_Pc_blind, hrc2, fun U hU hW => ⟨by rw [List.map_cons, er, has], hWd U hU hW⟩⟩
  have hsel := f10 hmd
  rw [f1] at hsel
  have hrm : (mm_rm k 0 0).frames + 1 ≤ R.frames ∧ 8 + (mm_mL k + 11) + (mm_rm k 0 0).locals ≤ R.locals := ⟨by show mm_dp k + 1 ≤ _; omega, by show 8 + (mm_mL k + 11) + 40 * mm_dp k ≤ _; omega⟩
  have hgo : va_Run p l e R s m args below meth c H locs cells slots 0 0 (F0 m pc sl (as'.reverse ++ .ref (B + a) :: rest)) rest (mo_Qc D B t cI cZ (some (.int r)) (mm_lay, I') (Value.ref (B + a) :: as').toArray) (mo_A B) := by
    refine va_runV ⟨hx, hb, hml, hown, hts⟩ hM (cwV as'.length hts (mm_gw_good _ ?_) rfl rfl rfl ⟨f1, f6.1, f6.2, hpar⟩ hrm) hpre rfl rfl hsl rfl (lv_room hsum) hd ⟨hcell.1, hcell.2⟩
    intro w hw
    simp only [wsV, List.mem_append, List.mem_cons, List.not_mem_nil, or_false] at hw
    rcases hw with (rfl | rfl | rfl | rfl) | z
    · exact hl
    · exact (f9 (by omega)).1
    · exact hsel
    · rw [← f1]; exact f2
    · exact hgood w z
  intro T hT2 X
  obtain ⟨v', st₀, t', T', L2, h0, X', hL, e1, e2, ⟨hv, hP2, hD2, hF, hn⟩, st⟩ := hgo T hT2 X
  cases hv
  obtain ⟨hz, hkp⟩ := hF
  rw [h0] at hz hkp
  have h83 : B + 83 < H.size := (Array.getElem?_eq_some_iff.mp hO).1
  obtain ⟨t2, a1, c1⟩ := kk r I' hP T'.heap (locs ++ L2) ⟨by rw [e1]; exact hP2, hD2, ⟨Nat.le_trans hS.1 (by rw [e1]; exact hz), fun q h1 h2 => by rw [e1, hkp q (Nat.lt_of_lt_of_le h1 hS.1) (fun z => h2 z.1)]; exact hS.2.1 q h1 h2, fun q hq => by
      rcases List.mem_append.mp hq with z | z
      · exact hS.2.2 q z
      · exact (hL q z).1⟩, by rw [e1, hkp _ h83 (fun z => by have := z.2; omega)]; exact hO⟩ T' rfl X'
  exact ⟨t2, st t2 a1, c1⟩
end LWA
