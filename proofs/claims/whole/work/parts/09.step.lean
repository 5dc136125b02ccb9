def mm_Cx (p : Program) (R : Room) (s : State) (m : MethodId) (args : Array Value) (meth : Method) (c : Code) (D : va_G) (B t : Nat) (cI cZ : ClassId) (k : Nat) : Prop :=
  p.tables.exec = Jvm.exec ∧ c.code = mm_by k ∧ c.maxLocals = mm_mL k ∧ s.vm.findClass (mm_cn (mm_c k)) = some m.cls ∧ (∀ w ∈ mm_GW, w.before args s = true) ∧ meth.locks = false ∧ meth.sig.returnType = mm_rt k ∧ (mm_md k = 2 → meth.name = "<init>") ∧ va_K D vwCl (mm_tys cI cZ) s ∧ mm_Nst s ∧ va_Z "WholeSoundModel" "FIXED" "[I" (.ref t) (fun q => B ≤ q) s s.heap ∧ va_T .int t 20 (fun j => .int (mm_fix j)) (fun q => B ≤ q) s s.heap ∧ B ≤ s.heap.size ∧ mm_dp k ≤ R.frames ∧ 40 * mm_dp k ≤ R.locals
def mm_Rl (D : va_G) (B t : Nat) (cI cZ : ClassId) (s : State) (h : mm_H) (H : Heap) (locs : List Loc) : Prop :=
  va_P D vwCl (mm_wl B t cI cZ h) H ∧ va_D (fun q => B ≤ q) (mm_wl B t cI cZ h) ∧ va_S (fun q => B ≤ q) s.heap H locs ∧ mm_n h ≤ 4000
theorem mm_ft_le : ∀ c, c < 10 → ∀ j, j < mm_N c → mm_ft c j ≤ 2 := by decide +kernel
section MMS
variable {p : Program} {l : Launch} {e : Env} {R : Room} {s : State} {m : MethodId} {args : Array Value} {below : List Frame} {meth : Method} {c : Code} {H : Heap} {locs : List Loc} {cells slots : Nat} {Q : State → Prop} {D : va_G} {B t : Nat} {cI cZ : ClassId} {k pc : Nat} {ls : mm_Ls} {st : List Value} {h : mm_H} {sl : Array Slot}
theorem mm_Wsz {g : JFrame} (kk : H.size ≤ s.heap.size + cells → W p l e R s m args below meth c H locs cells slots Q g) : W p l e R s m args below meth c H locs cells slots Q g :=
  fun T hT X => kk (by rw [← hT]; exact X.heapSize) T hT X
theorem mm_ldcwF (hexec : p.tables.exec = Jvm.exec) {cc : ByteArray} (hb : c.code = cc) {own : String} {index : Nat} {v : UInt32} {rest : List Value} (hown : s.vm.findClass own = some m.cls) (hconst : (Jvm.Cond.constantFloat own index v).before args s = true) (hdg : decode cc pc = .ok (.ldc_w index, 3)) (kk : W p l e R s m args below meth c H locs cells slots Q (F0 m (pc + 3) sl (.float v :: rest))) : W p l e R s m args below meth c H locs cells slots Q (F0 m pc sl rest) := by
  intro T hT X
  obtain ⟨t, a, b⟩ := kk T hT X
  refine ⟨t, ?_, b⟩
  obtain ⟨k, cf, hk, hcf, hcp⟩ := Cond.constantFloat_spec hown hconst
  obtain ⟨k', hk', he⟩ := X.warmed.alike.2.2 _ _ hk
  have hdg' : decode c.code (F0 m pc sl rest).pc = .ok (.ldc_w index, 3) := by rw [hb]; exact hdg
  jvm_step X.here [hexec, hdg', ldc_w.wp_float (s := T) (f := F0 m pc sl rest) X.here.top hk' (by rw [he]; exact hcf) hcp]
  exact a
theorem mm_mem_pos {α : Type} {x : α} {l : List α} (h : x ∈ l) : ∃ k : Nat, l[k]? = some x := List.getElem?_of_mem h
theorem mm_cat_sum (B t : Nat) (r : List Value) : ((r.map (mm_rv B t)).map fun v => v.category).sum = (r.map fun v => v.category).sum := by
  rw [List.map_map]
  congr 1
  exact List.map_congr_left fun v _ => mm_rv_cat B t v
theorem mm_low (hR : mm_Rl D B t cI cZ s h H locs) (hB : B ≤ s.heap.size) : B + mm_n h ≤ H.size := by
  obtain ⟨hP, hD, hS, hn⟩ := hR
  by_cases h0 : mm_n h = 0
  · rw [h0]
    exact Nat.le_trans hB hS.1
  · have hlt : mm_n h - 1 < mm_n h := by omega
    have := (hP _ _ (mm_wl_get (B := B) (t := t) (cI := cI) (cZ := cZ) hlt)).lt
    simp only at this
    omega
set_option maxHeartbeats 4000000 in
set_option maxRecDepth 100000 in
theorem mm_step {ng : Bool} {n0 s0 : Nat} {ins : Instr} {len pp q : Nat} {s' : mm_S} (C : mm_Cx p R s m args meth c D B t cI cZ k) (hd : decode (mm_by k) pc = .ok (ins, len)) (hk : mm_ckP (mm_c k) pc ins pp q = true) (hlen : len = mm_ln ins len) (hs : mm_ins ng k pc ins len pp q ls st h = some s') (hk0 : mm_knd ins pp = 0)
    (hng : ng = true → s.heap.size = B + n0) (hn0 : n0 ≤ mm_n h) (hs0 : s0 ≤ mm_sl h) (hrc : mm_n s'.2.2.2 - n0 ≤ R.cells) (hrs : mm_sl s'.2.2.2 - s0 ≤ R.slots) (hR : mm_Rl D B t cI cZ s h H locs) (hL : mm_LR B t sl ls) (hll : ls.length = mm_mL k)
    (kk : ∀ H1 locs1 sl1, mm_Rl D B t cI cZ s s'.2.2.2 H1 locs1 → mm_LR B t sl1 s'.2.1 → W p l e R s m args below meth c H1 locs1 (mm_n s'.2.2.2 - n0) (mm_sl s'.2.2.2 - s0) Q (F0 m s'.1 sl1 (s'.2.2.1.map (mm_rv B t)))) :
    W p l e R s m args below meth c H locs (mm_n h - n0) (mm_sl h - s0) Q (F0 m pc sl (st.map (mm_rv B t))) := by
  obtain ⟨hx, hb, hml, hown, hts, hlocks, hret, hinit, hK, hN, hZ, hT, hB, hfr, hlo⟩ := id C
  cases ins with
  | iconst n =>
    obtain rfl : len = 1 := hlen
    obtain rfl := Option.some.inj hs
    exact lv_iconst hx hb hd rfl (kk H locs sl hR hL)
  | bipush n =>
    obtain rfl : len = 2 := hlen
    obtain rfl := Option.some.inj hs
    exact lv_bipush hx hb hd rfl (kk H locs sl hR hL)
  | sipush n =>
    obtain rfl : len = 3 := hlen
    obtain rfl := Option.some.inj hs
    exact lv_sipush hx hb hd rfl (kk H locs sl hR hL)
  | lconst n =>
    obtain rfl : len = 1 := hlen
    obtain rfl := Option.some.inj hs
    exact lv_lconst hx hb hd rfl (kk H locs sl hR hL)
  | fconst n =>
    obtain rfl : len = 1 := hlen
    obtain rfl := Option.some.inj hs
    match n, hd, kk with
    | 0, hd, kk => exact lv_fconst0 hx hb hd (kk H locs sl hR hL)
    | 1, hd, kk => exact lv_fconst1 hx hb hd (kk H locs sl hR hL)
    | 2, hd, kk => exact lv_fconst2 hx hb hd (kk H locs sl hR hL)
  | dconst n =>
    obtain rfl : len = 1 := hlen
    obtain rfl := Option.some.inj hs
    match n, hd, kk with
    | 0, hd, kk => exact lv_dconst0 hx hb hd (kk H locs sl hR hL)
    | 1, hd, kk => exact lv_dconst1 hx hb hd (kk H locs sl hR hL)
  | aconst_null =>
    obtain rfl : len = 1 := hlen
    obtain rfl := Option.some.inj hs
    exact lv_null hx hb hd (kk H locs sl hR hL)
  | ldc i =>
    obtain rfl : len = 2 := hlen
    by_cases h0 : q = 0
    · subst h0
      obtain rfl := Option.some.inj hs
      exact lv_ldc hx hb hown (hts _ (mm_cs0 hk)) hd (kk H locs sl hR hL)
    · simp only [mm_ckP, if_neg h0] at hk
      simp only [mm_ins, mm_beq_f h0, cond_false] at hs
      obtain rfl := Option.some.inj hs
      exact lv_ldcf hx hb hown (hts _ (mm_cs2 hk)) hd (kk H locs sl hR hL)
  | ldc_w i =>
    obtain rfl : len = 3 := hlen
    by_cases h0 : q = 0
    · subst h0
      obtain rfl := Option.some.inj hs
      exact lv_ldcw hx hb hown (hts _ (mm_cs0 hk)) hd (kk H locs sl hR hL)
    · simp only [mm_ckP, if_neg h0] at hk
      simp only [mm_ins, mm_beq_f h0, cond_false] at hs
      obtain rfl := Option.some.inj hs
      exact mm_ldcwF hx hb hown (hts _ (mm_cs2 hk)) hd (kk H locs sl hR hL)
  | ldc2_w i =>
    obtain rfl : len = 3 := hlen
    by_cases h0 : q = 0
    · subst h0
      obtain rfl := Option.some.inj hs
      exact lv_ldc2 hx hb hown (hts _ (mm_cs1 hk)) hd (kk H locs sl hR hL)
    · simp only [mm_ckP, if_neg h0] at hk
      simp only [mm_ins, mm_beq_f h0, cond_false] at hs
      obtain rfl := Option.some.inj hs
      exact lv_ldc2d hx hb hown (hts _ (mm_cs3 hk)) hd (kk H locs sl hR hL)
  | iload i =>
    obtain rfl : len = 2 := hlen
    obtain ⟨v, h1, h2, rfl⟩ := mm_ldv_inv hs
    cases v with
    | int x => exact lv_iload hx hb hd (hL.2.2 _ _ h1) (kk H locs sl hR hL)
    | _ => simp [mm_isI] at h2
  | iload_n i =>
    obtain rfl : len = 1 := hlen
    obtain ⟨v, h1, h2, rfl⟩ := mm_ldv_inv hs
    cases v with
    | int x => exact lv_iload_n hx hb hd rfl (hL.2.2 _ _ h1) (kk H locs sl hR hL)
    | _ => simp [mm_isI] at h2
  | lload i =>
    obtain rfl : len = 2 := hlen
    obtain ⟨v, h1, h2, rfl⟩ := mm_ldv_inv hs
    cases v with
    | long x => exact lv_lload hx hb hd (hL.2.2 _ _ h1) (kk H locs sl hR hL)
    | _ => simp [mm_isL] at h2
  | lload_n i =>
    obtain rfl : len = 1 := hlen
    obtain ⟨v, h1, h2, rfl⟩ := mm_ldv_inv hs
    cases v with
    | long x => exact lv_lload_n hx hb hd rfl (hL.2.2 _ _ h1) (kk H locs sl hR hL)
    | _ => simp [mm_isL] at h2
  | fload i =>
    obtain rfl : len = 2 := hlen
    obtain ⟨v, h1, h2, rfl⟩ := mm_ldv_inv hs
    cases v with
    | float x => exact lv_fload hx hb hd (hL.2.2 _ _ h1) (kk H locs sl hR hL)
    | _ => simp [mm_isF] at h2
  | fload_n i =>
    obtain rfl : len = 1 := hlen
    obtain ⟨v, h1, h2, rfl⟩ := mm_ldv_inv hs
    cases v with
    | float x => exact lv_fload_n hx hb hd rfl (hL.2.2 _ _ h1) (kk H locs sl hR hL)
    | _ => simp [mm_isF] at h2
  | dload i =>
    obtain rfl : len = 2 := hlen
    obtain ⟨v, h1, h2, rfl⟩ := mm_ldv_inv hs
    cases v with
    | double x => exact lv_dload hx hb hd (hL.2.2 _ _ h1) (kk H locs sl hR hL)
    | _ => simp [mm_isD] at h2
  | dload_n i =>
    obtain rfl : len = 1 := hlen
    obtain ⟨v, h1, h2, rfl⟩ := mm_ldv_inv hs
    cases v with
    | double x => exact lv_dload_n hx hb hd rfl (hL.2.2 _ _ h1) (kk H locs sl hR hL)
    | _ => simp [mm_isD] at h2
  | aload i =>
    obtain rfl : len = 2 := hlen
    obtain ⟨v, h1, h2, rfl⟩ := mm_ldv_inv hs
    cases v with
    | ref x => exact lv_aload hx hb hd (hL.2.2 _ _ h1) (kk H locs sl hR hL)
    | null => exact lv_aloadN hx hb hd (hL.2.2 _ _ h1) (kk H locs sl hR hL)
    | _ => simp [mm_isA] at h2
  | aload_n i =>
    obtain rfl : len = 1 := hlen
    obtain ⟨v, h1, h2, rfl⟩ := mm_ldv_inv hs
    cases v with
    | ref x => exact lv_aload_n hx hb hd rfl (hL.2.2 _ _ h1) (kk H locs sl hR hL)
    | null => exact lv_aload_nN hx hb hd rfl (hL.2.2 _ _ h1) (kk H locs sl hR hL)
    | _ => simp [mm_isA] at h2
  | istore i =>
    obtain rfl : len = 2 := hlen
    obtain ⟨v, r, rfl, h2, h3, rfl⟩ := mm_stv_inv hs
    cases v with
    | int x => exact lv_istore hx hb hd hL.has h3 rfl (fun sl1 hl1 => kk H locs sl1 hR (mm_LR.of1 h3 hl1))
    | _ => simp [mm_isI] at h2
  | istore_n i =>
    obtain rfl : len = 1 := hlen
    obtain ⟨v, r, rfl, h2, h3, rfl⟩ := mm_stv_inv hs
    cases v with
    | int x => exact lv_istore_n hx hb hd rfl hL.has h3 rfl (fun sl1 hl1 => kk H locs sl1 hR (mm_LR.of1 h3 hl1))
    | _ => simp [mm_isI] at h2
  | lstore i =>
    obtain rfl : len = 2 := hlen
    obtain ⟨v, r, rfl, h2, h3, rfl⟩ := mm_stv_inv hs
    cases v with
    | long x => exact lv_lstore hx hb hd hL.has h3 rfl (fun sl1 hl1 => kk H locs sl1 hR (mm_LR.of2 h3 hl1))
    | _ => simp [mm_isL] at h2
  | lstore_n i =>
    obtain rfl : len = 1 := hlen
    obtain ⟨v, r, rfl, h2, h3, rfl⟩ := mm_stv_inv hs
    cases v with
    | long x => exact lv_lstore_n hx hb hd rfl hL.has h3 rfl (fun sl1 hl1 => kk H locs sl1 hR (mm_LR.of2 h3 hl1))
    | _ => simp [mm_isL] at h2
  | fstore i =>
    obtain rfl : len = 2 := hlen
    obtain ⟨v, r, rfl, h2, h3, rfl⟩ := mm_stv_inv hs
    cases v with
    | float x => exact lv_fstore hx hb hd hL.has h3 rfl (fun sl1 hl1 => kk H locs sl1 hR (mm_LR.of1 h3 hl1))
    | _ => simp [mm_isF] at h2
  | fstore_n i =>
    obtain rfl : len = 1 := hlen
    obtain ⟨v, r, rfl, h2, h3, rfl⟩ := mm_stv_inv hs
    cases v with
    | float x => exact lv_fstore_n hx hb hd rfl hL.has h3 rfl (fun sl1 hl1 => kk H locs sl1 hR (mm_LR.of1 h3 hl1))
    | _ => simp [mm_isF] at h2
  | dstore i =>
    obtain rfl : len = 2 := hlen
    obtain ⟨v, r, rfl, h2, h3, rfl⟩ := mm_stv_inv hs
    cases v with
    | double x => exact lv_dstore hx hb hd hL.has h3 rfl (fun sl1 hl1 => kk H locs sl1 hR (mm_LR.of2 h3 hl1))
    | _ => simp [mm_isD] at h2
  | dstore_n i =>
    obtain rfl : len = 1 := hlen
    obtain ⟨v, r, rfl, h2, h3, rfl⟩ := mm_stv_inv hs
    cases v with
    | double x => exact lv_dstore_n hx hb hd rfl hL.has h3 rfl (fun sl1 hl1 => kk H locs sl1 hR (mm_LR.of2 h3 hl1))
    | _ => simp [mm_isD] at h2
  | astore i =>
    obtain rfl : len = 2 := hlen
    obtain ⟨v, r, rfl, h2, h3, rfl⟩ := mm_stv_inv hs
    cases v with
    | ref x => exact lv_astore hx hb hd hL.has h3 rfl (fun sl1 hl1 => kk H locs sl1 hR (mm_LR.of1 h3 hl1))
    | null => exact lv_astoreN hx hb hd hL.has h3 rfl (fun sl1 hl1 => kk H locs sl1 hR (mm_LR.of1 h3 hl1))
    | _ => simp [mm_isA] at h2
  | astore_n i =>
    obtain rfl : len = 1 := hlen
    obtain ⟨v, r, rfl, h2, h3, rfl⟩ := mm_stv_inv hs
    cases v with
    | ref x => exact lv_astore_n hx hb hd rfl hL.has h3 rfl (fun sl1 hl1 => kk H locs sl1 hR (mm_LR.of1 h3 hl1))
    | null => exact lv_astore_nN hx hb hd rfl hL.has h3 rfl (fun sl1 hl1 => kk H locs sl1 hR (mm_LR.of1 h3 hl1))
    | _ => simp [mm_isA] at h2
  | iinc i cc =>
    obtain rfl : len = 3 := hlen
    simp only [mm_ins] at hs
    have hs : (match mm_ld ls i with
      | some (.int x) => some (pc + 3, mm_s1 ls i (.int (x + Int32.ofInt cc)), st, h)
      | _ => none) = some s' := hs
    split at hs
    · rename_i x hv
      obtain rfl := Option.some.inj hs
      obtain ⟨j, hj⟩ := mm_mem_pos (mm_asc_mem (B := B) (t := t) hv)
      exact lv_iinc hx hb hd hL.has hj rfl (mm_ld_lt hv) rfl (fun sl1 hl1 => kk H locs sl1 hR (mm_LR.of1 (mm_ld_lt hv) hl1))
    · cases hs
  | iadd =>
    obtain rfl : len = 1 := hlen
    obtain ⟨x, y, r, rfl, rfl⟩ := mm_i2_inv hs
    exact lv_iadd hx hb hd (kk H locs sl hR hL)
  | isub =>
    obtain rfl : len = 1 := hlen
    obtain ⟨x, y, r, rfl, rfl⟩ := mm_i2_inv hs
    exact lv_isub hx hb hd (kk H locs sl hR hL)
  | imul =>
    obtain rfl : len = 1 := hlen
    obtain ⟨x, y, r, rfl, rfl⟩ := mm_i2_inv hs
    exact lv_imul hx hb hd (kk H locs sl hR hL)
  | iand =>
    obtain rfl : len = 1 := hlen
    obtain ⟨x, y, r, rfl, rfl⟩ := mm_i2_inv hs
    exact lv_iand hx hb hd (kk H locs sl hR hL)
  | ior =>
    obtain rfl : len = 1 := hlen
    obtain ⟨x, y, r, rfl, rfl⟩ := mm_i2_inv hs
    exact lv_ior hx hb hd (kk H locs sl hR hL)
  | ixor =>
    obtain rfl : len = 1 := hlen
    obtain ⟨x, y, r, rfl, rfl⟩ := mm_i2_inv hs
    exact lv_ixor hx hb hd (kk H locs sl hR hL)
  | ishl =>
    obtain rfl : len = 1 := hlen
    obtain ⟨x, y, r, rfl, rfl⟩ := mm_i2_inv hs
    exact lv_ishl hx hb hd (kk H locs sl hR hL)
  | ishr =>
    obtain rfl : len = 1 := hlen
    obtain ⟨x, y, r, rfl, rfl⟩ := mm_i2_inv hs
    exact lv_ishr hx hb hd (kk H locs sl hR hL)
  | iushr =>
    obtain rfl : len = 1 := hlen
    obtain ⟨x, y, r, rfl, rfl⟩ := mm_i2_inv hs
    exact lv_iushr hx hb hd rfl (kk H locs sl hR hL)
  | idiv =>
    obtain rfl : len = 1 := hlen
    obtain ⟨x, y, r, rfl, hy, rfl⟩ := mm_dv_inv hs
    exact lv_idiv hx hb hd hy (kk H locs sl hR hL)
  | irem =>
    obtain rfl : len = 1 := hlen
    obtain ⟨x, y, r, rfl, hy, rfl⟩ := mm_dv_inv hs
    exact lv_irem hx hb hd hy (kk H locs sl hR hL)
  | ineg =>
    obtain rfl : len = 1 := hlen
    obtain ⟨x, r, rfl, rfl⟩ := mm_i1_inv hs
    exact lv_ineg hx hb hd (kk H locs sl hR hL)
  | i2l =>
    obtain rfl : len = 1 := hlen
    obtain ⟨x, r, rfl, rfl⟩ := mm_i1_inv hs
    exact lv_i2l hx hb hd rfl (kk H locs sl hR hL)
  | i2b =>
    obtain rfl : len = 1 := hlen
    obtain ⟨x, r, rfl, rfl⟩ := mm_i1_inv hs
    exact lv_i2b hx hb hd rfl (kk H locs sl hR hL)
  | i2f =>
    obtain rfl : len = 1 := hlen
    obtain ⟨x, r, rfl, rfl⟩ := mm_i1_inv hs
    exact lv_i2f hx hb hd (kk H locs sl hR hL)
  | i2d =>
    obtain rfl : len = 1 := hlen
    obtain ⟨x, r, rfl, rfl⟩ := mm_i1_inv hs
    exact lv_i2d hx hb hd (kk H locs sl hR hL)
  | l2i =>
    obtain rfl : len = 1 := hlen
    obtain ⟨x, r, rfl, rfl⟩ := mm_l1_inv hs
    exact lv_l2i hx hb hd rfl (kk H locs sl hR hL)
  | l2d =>
    obtain rfl : len = 1 := hlen
    obtain ⟨x, r, rfl, rfl⟩ := mm_l1_inv hs
    exact lv_l2d hx hb hd (kk H locs sl hR hL)
  | ladd =>
    obtain rfl : len = 1 := hlen
    obtain ⟨x, y, r, rfl, rfl⟩ := mm_l2_inv hs
    exact lv_ladd hx hb hd (kk H locs sl hR hL)
  | lsub =>
    obtain rfl : len = 1 := hlen
    obtain ⟨x, y, r, rfl, rfl⟩ := mm_l2_inv hs
    exact lv_lsub hx hb hd (kk H locs sl hR hL)
  | lmul =>
    obtain rfl : len = 1 := hlen
    obtain ⟨x, y, r, rfl, rfl⟩ := mm_l2_inv hs
    exact lv_lmul hx hb hd (kk H locs sl hR hL)
  | land =>
    obtain rfl : len = 1 := hlen
    obtain ⟨x, y, r, rfl, rfl⟩ := mm_l2_inv hs
    exact lv_land hx hb hd (kk H locs sl hR hL)
  | lor =>
    obtain rfl : len = 1 := hlen
    obtain ⟨x, y, r, rfl, rfl⟩ := mm_l2_inv hs
    exact lv_lor hx hb hd (kk H locs sl hR hL)
  | lcmp =>
    obtain rfl : len = 1 := hlen
    obtain ⟨x, y, r, rfl, rfl⟩ := mm_l2_inv hs
    exact W.lcmp hx hb hd (kk H locs sl hR hL)
  | lshl =>
    obtain rfl : len = 1 := hlen
    obtain ⟨x, y, r, rfl, rfl⟩ := mm_li_inv hs
    exact lv_lshl hx hb hd rfl (kk H locs sl hR hL)
  | lshr =>
    obtain rfl : len = 1 := hlen
    obtain ⟨x, y, r, rfl, rfl⟩ := mm_li_inv hs
    exact lv_lshr hx hb hd rfl (kk H locs sl hR hL)
  | lushr =>
    obtain rfl : len = 1 := hlen
    obtain ⟨x, y, r, rfl, rfl⟩ := mm_li_inv hs
    exact lv_lushr hx hb hd rfl (kk H locs sl hR hL)
  | fdiv =>
    obtain rfl : len = 1 := hlen
    obtain ⟨x, y, r, rfl, hy, rfl⟩ := mm_f2_inv hs
    exact lv_fdiv hx hb hd hy (kk H locs sl hR hL)
  | fmul =>
    obtain rfl : len = 1 := hlen
    obtain ⟨x, y, r, rfl, hy, rfl⟩ := mm_f2_inv hs
    exact lv_fmul hx hb hd hy (kk H locs sl hR hL)
  | ddiv =>
    obtain rfl : len = 1 := hlen
    obtain ⟨x, y, r, rfl, hy, rfl⟩ := mm_d2_inv hs
    exact lv_ddiv hx hb hd hy (kk H locs sl hR hL)
  | dmul =>
    obtain rfl : len = 1 := hlen
    obtain ⟨x, y, r, rfl, hy, rfl⟩ := mm_d2_inv hs
    exact lv_dmul hx hb hd hy (kk H locs sl hR hL)
  | fcmp o =>
    obtain rfl : len = 1 := hlen
    simp only [mm_ins] at hs
    split at hs
    · obtain rfl := Option.some.inj hs
      exact lv_fcmp hx hb hd (kk H locs sl hR hL)
    · cases hs
  | dcmp o =>
    obtain rfl : len = 1 := hlen
    simp only [mm_ins] at hs
    split at hs
    · obtain rfl := Option.some.inj hs
      exact lv_dcmp hx hb hd (kk H locs sl hR hL)
    · cases hs
  | f2i =>
    obtain rfl : len = 1 := hlen
    simp only [mm_ins] at hs
    split at hs
    · obtain rfl := Option.some.inj hs
      exact lv_f2i hx hb hd (kk H locs sl hR hL)
    · cases hs
  | d2l =>
    obtain rfl : len = 1 := hlen
    simp only [mm_ins] at hs
    split at hs
    · obtain rfl := Option.some.inj hs
      exact lv_d2l hx hb hd (kk H locs sl hR hL)
    · cases hs
  | dup =>
    obtain rfl : len = 1 := hlen
    simp only [mm_ins] at hs
    split at hs
    · obtain ⟨h1, h2⟩ := mm_cond_inv hs
      obtain rfl := Option.some.inj h2
      exact lv_dup hx hb hd (by rw [mm_rv_cat]; exact (mm_beq_iff _ _).mp h1) (kk H locs sl hR hL)
    · cases hs
  | pop =>
    obtain rfl : len = 1 := hlen
    simp only [mm_ins] at hs
    split at hs
    · obtain ⟨h1, h2⟩ := mm_cond_inv hs
      obtain rfl := Option.some.inj h2
      exact lv_pop hx hb hd (by rw [mm_rv_cat]; exact (mm_beq_iff _ _).mp h1) (kk H locs sl hR hL)
    · cases hs
  | dup2 =>
    obtain rfl : len = 1 := hlen
    simp only [mm_ins] at hs
    split at hs
    · obtain ⟨h1, h2⟩ := mm_cond_inv hs
      obtain rfl := Option.some.inj h2
      rw [Bool.and_eq_true, mm_beq_iff, mm_beq_iff] at h1
      exact lv_dup2_11 hx hb hd (by rw [mm_rv_cat]; exact h1.1) (by rw [mm_rv_cat]; exact h1.2) (kk H locs sl hR hL)
    · cases hs
  | goto off =>
    obtain rfl : len = 3 := hlen
    obtain rfl := Option.some.inj hs
    exact lv_goto hx hb hd (of_decide_eq_true hk) (kk H locs sl hR hL)
  | ifCond cnd off =>
    obtain rfl : len = 3 := hlen
    obtain ⟨x, r, rfl, rfl⟩ := mm_bi_inv hs
    have ht : (pc : Int) + off = (pp : Int) := of_decide_eq_true hk
    have kt : ∀ hc : mm_cI cnd x 0 = true, W p l e R s m args below meth c H locs (mm_n h - n0) (mm_sl h - s0) Q (F0 m pp sl (r.map (mm_rv B t))) := fun hc => by
      have := kk H locs sl hR hL
      simp only [hc, cond_true] at this
      exact this
    have kf : ∀ hc : mm_cI cnd x 0 = false, W p l e R s m args below meth c H locs (mm_n h - n0) (mm_sl h - s0) Q (F0 m (pc + 3) sl (r.map (mm_rv B t))) := fun hc => by
      have := kk H locs sl hR hL
      simp only [hc, cond_false] at this
      exact this
    cases cnd with
    | eq => exact lv_if_eq hx hb hd ht (fun hc => kt (decide_eq_true hc)) (fun hc => kf (decide_eq_false hc))
    | ne => exact lv_if_ne hx hb hd ht (fun hc => kt (decide_eq_true hc)) (fun hc => kf (decide_eq_false (fun z => z hc)))
    | lt => exact lv_if_lt hx hb hd ht (fun hc => kt (decide_eq_true hc)) (fun hc => kf (decide_eq_false hc))
    | ge => exact lv_if_ge hx hb hd ht (fun hc => kt (decide_eq_true hc)) (fun hc => kf (decide_eq_false hc))
    | gt => exact lv_if_gt hx hb hd ht (fun hc => kt (decide_eq_true hc)) (fun hc => kf (decide_eq_false hc))
    | le => exact lv_if_le hx hb hd ht (fun hc => kt (decide_eq_true hc)) (fun hc => kf (decide_eq_false hc))
  | if_icmp cnd off =>
    obtain rfl : len = 3 := hlen
    obtain ⟨x, y, r, rfl, rfl⟩ := mm_bi2_inv hs
    have ht : (pc : Int) + off = (pp : Int) := of_decide_eq_true hk
    have kt : ∀ hc : mm_cI cnd x y = true, W p l e R s m args below meth c H locs (mm_n h - n0) (mm_sl h - s0) Q (F0 m pp sl (r.map (mm_rv B t))) := fun hc => by
      have := kk H locs sl hR hL
      simp only [hc, cond_true] at this
      exact this
    have kf : ∀ hc : mm_cI cnd x y = false, W p l e R s m args below meth c H locs (mm_n h - n0) (mm_sl h - s0) Q (F0 m (pc + 3) sl (r.map (mm_rv B t))) := fun hc => by
      have := kk H locs sl hR hL
      simp only [hc, cond_false] at this
      exact this
    cases cnd with
    | eq => exact lv_icmp_eq hx hb hd ht (fun hc => kt (decide_eq_true hc)) (fun hc => kf (decide_eq_false hc))
    | ne => exact lv_icmp_ne hx hb hd ht (fun hc => kt (decide_eq_true hc)) (fun hc => kf (decide_eq_false (fun z => z hc)))
    | lt => exact lv_icmp_lt hx hb hd ht (fun hc => kt (decide_eq_true hc)) (fun hc => kf (decide_eq_false hc))
    | ge => exact lv_icmp_ge hx hb hd ht (fun hc => kt (decide_eq_true hc)) (fun hc => kf (decide_eq_false hc))
    | gt => exact lv_icmp_gt hx hb hd ht (fun hc => kt (decide_eq_true hc)) (fun hc => kf (decide_eq_false hc))
    | le => exact lv_icmp_le hx hb hd ht (fun hc => kt (decide_eq_true hc)) (fun hc => kf (decide_eq_false hc))
  | ifnull off =>
    obtain rfl : len = 3 := hlen
    have ht : (pc : Int) + off = (pp : Int) := of_decide_eq_true hk
    simp only [mm_ins, mm_bn] at hs
    split at hs
    · obtain rfl := Option.some.inj hs
      exact lv_ifnullN hx hb hd ht (kk H locs sl hR hL)
    · obtain rfl := Option.some.inj hs
      exact lv_ifnull hx hb hd (kk H locs sl hR hL)
    · cases hs
  | ifnonnull off =>
    obtain rfl : len = 3 := hlen
    have ht : (pc : Int) + off = (pp : Int) := of_decide_eq_true hk
    simp only [mm_ins, mm_bn] at hs
    split at hs
    · obtain rfl := Option.some.inj hs
      exact lv_ifnonnullN hx hb hd (kk H locs sl hR hL)
    · obtain rfl := Option.some.inj hs
      exact lv_ifnonnull hx hb hd ht (kk H locs sl hR hL)
    · cases hs
  | tableswitch dd lo hi offs =>
    simp only [mm_ins] at hs
    split at hs
    · split at hs
      · rename_i tg hsw
        obtain rfl := Option.some.inj hs
        unfold mm_sw at hsw
        split at hsw
        · rename_i hout
          split at hsw
          · cases hsw
          · rename_i h0
            obtain rfl := Option.some.inj hsw
            exact lv_tableOut hx hb hd hout (by omega) (kk H locs sl hR hL)
        · rename_i hout
          split at hsw
          · rename_i o ho
            split at hsw
            · cases hsw
            · rename_i h0
              obtain rfl := Option.some.inj hsw
              exact lv_tableIn hx hb hd (fun z => hout (Or.inl z)) (fun z => hout (Or.inr z)) ho (by omega) (kk H locs sl hR hL)
          · cases hsw
      · cases hs
    · cases hs
  | getfield ix =>
    obtain rfl : len = 3 := hlen
    obtain ⟨a, r, rfl, ha, hKa, rfl⟩ := mm_gf_inv hs
    obtain ⟨g1, g2, g3⟩ := mm_fl_ok hk
    obtain ⟨c1, c2, c3, c4⟩ := mm_cl g3
    obtain ⟨hP, hD, hS, hn⟩ := id hR
    have hget := mm_wl_get (B := B) (t := t) (cI := cI) (cZ := cZ) ha
    rw [mm_cel_obj hKa g3] at hget
    rw [List.map_cons, mm_rv_ref ha hn]
    exact va_get hx hb hts c2 hown hK hP a hget c1 q g2 (hts _ g1) (fun _ z => z) (mm_fs_get g2) hd (kk H locs sl hR hL)
  | putfield ix =>
    obtain rfl : len = 3 := hlen
    obtain ⟨v, a, r, h', rfl, ha, hKa, hfi, hpf, rfl⟩ := mm_pf_inv hs
    obtain ⟨g1, g2, g3⟩ := mm_fl_ok hk
    obtain ⟨c1, c2, c3, c4⟩ := mm_cl g3
    obtain ⟨hP, hD, hS, hn⟩ := id hR
    have hget := mm_wl_get (B := B) (t := t) (cI := cI) (cZ := cZ) ha
    rw [mm_cel_obj hKa g3] at hget
    rw [List.map_cons, List.map_cons, mm_rv_ref ha hn]
    have hfl : q < ((List.range (mm_N pp)).map (fun s => mm_rv B t (mm_fv h pp a s))).length := by simp [g2]
    have hty := c3 q g2
    -- what the store comes to
    have key : mm_n h' = mm_n h ∧ mm_sl h' = mm_sl h ∧ mm_K h' a = mm_K h a ∧ mm_rv B t (mm_fv h' pp a q) = mm_rv B t v ∧ (∀ j, j ≠ q → mm_fv h' pp a j = mm_fv h pp a j) ∧ (∀ b, b ≠ a → mm_cel B t cI cZ h' b = mm_cel B t cI cZ h b) ∧ narrow (mm_ty pp q) (mm_rv B t v) = mm_rv B t v ∧ fits (mm_ty pp q) (mm_rv B t v) = true := by
      rcases hpf with ⟨x, rfl, rfl, hf⟩ | ⟨b, rfl, rfl, hf, hbn⟩
      · have hf2 : mm_ft pp q ≠ 2 := by rcases hf with z | z <;> omega
        refine ⟨rfl, rfl, rfl, by rw [mm_fv_up hf2], fun j hj => mm_fv_upo hj, fun b hb => mm_cel_up hb, ?_⟩
        rcases hf with z | ⟨z, hx01⟩
        · rw [mm_ft0 z]
          exact ⟨rfl, rfl⟩
        · rw [mm_ft1 z]
          rcases hx01 with rfl | rfl <;> exact ⟨rfl, rfl⟩
      · refine ⟨rfl, rfl, rfl, ?_, fun j hj => ?_, fun b hb => mm_cel_sR hb, ?_⟩
        · unfold mm_fv
          rw [(mm_beq_iff _ _).mpr hf, mm_sR_s]
          rfl
        · unfold mm_fv
          rw [mm_sR_R (fun z => hj z.2)]
          rfl
        · rcases mm_ft2 hf with ⟨o, z⟩ | ⟨o, z⟩ <;> rw [z] <;> exact ⟨rfl, rfl⟩
    obtain ⟨k1, k1s, k2, k3, k4, k5, k6, k7⟩ := key
    have hset : (mm_wl B t cI cZ h).set a (B + a, .inr (pp, ((List.range (mm_N pp)).map (fun s => mm_rv B t (mm_fv h pp a s))).set q (mm_rv B t v))) = mm_wl B t cI cZ h' := by
      refine mm_wl_set k1 ?_ k5
      rw [mm_cel_obj (k2.trans hKa) g3, mm_fs_set k3 k4]
    have kk2 : ∀ (H1 : Heap) (locs1 : List Loc), va_P D vwCl ((mm_wl B t cI cZ h).set a (B + a, .inr (pp, ((List.range (mm_N pp)).map (fun s => mm_rv B t (mm_fv h pp a s))).set q (mm_rv B t v)))) H1 → va_D (fun q => B ≤ q) ((mm_wl B t cI cZ h).set a (B + a, .inr (pp, ((List.range (mm_N pp)).map (fun s => mm_rv B t (mm_fv h pp a s))).set q (mm_rv B t v)))) → va_S (fun q => B ≤ q) s.heap H1 locs1 → W p l e R s m args below meth c H1 locs1 (mm_n h - n0) (mm_sl h - s0) Q (F0 m (pc + 3) sl (r.map (mm_rv B t))) := by
      intro H1 locs1 a1 a2 a3
      rw [hset] at a1 a2
      have := kk H1 locs1 sl ⟨a1, a2, a3, by show mm_n h' ≤ 4000; omega⟩ hL
      simp only [k1, k1s] at this
      exact this
    by_cases hf : mm_fin pp q = false
    · exact va_put hx hb hts c2 (mm_ty pp) c3 c4 hown hK hP hD hS a hget c1 q g2 (hts _ g1) (fun _ z => z) hf hty k6 k7 hfl hd kk2
    · rcases hfi with z | ⟨z1, z2⟩
      · exact absurd z hf
      · refine va_putF hx hb hts c2 (mm_ty pp) c3 c4 hown hK hP hD hS a hget c1 q g2 (hts _ g1) (fun _ z => z) (by cases hff : mm_fin pp q with | true => exact hff | false => exact absurd hff hf) (hinit z1) ?_ hty k6 k7 hfl hd kk2
        rw [z2]
        exact mm_own pp g3 q g2
  | getstatic ix =>
    obtain rfl : len = 3 := hlen
    obtain rfl := Option.some.inj hs
    obtain ⟨ho, hi⟩ : mm_c k = 9 ∧ ix = 151 := of_decide_eq_true hk
    subst hi
    rw [ho] at hown
    have := kk H locs sl hR hL
    exact va_gets hx hb hZ hR.2.2.1 hown (hts _ mm_fx) (fun _ z => z) hd this
  | iaload =>
    obtain rfl : len = 1 := hlen
    obtain ⟨i, a, r, rfl, hcase⟩ := mm_al_inv hs
    rcases hcase with ⟨-, rfl, hin, rfl⟩ | ⟨ha, hKa, hin, rfl⟩
    · exact va_ti hx hb hT hR.2.2.1 hin rfl hd (kk H locs sl hR hL)
    · obtain ⟨hP, hD, hS, hn⟩ := id hR
      have hget := mm_wl_get (B := B) (t := t) (cI := cI) (cZ := cZ) ha
      rw [mm_cel_arr hKa] at hget
      rw [List.map_cons, List.map_cons, mm_rv_ref ha hn]
      exact va_iald hx hb hK hP a 0 hget rfl hin hd (kk H locs sl hR hL)
  | baload =>
    obtain rfl : len = 1 := hlen
    obtain ⟨i, a, r, rfl, hcase⟩ := mm_al_inv hs
    rcases hcase with ⟨z, -⟩ | ⟨ha, hKa, hin, rfl⟩
    · cases z
    · obtain ⟨hP, hD, hS, hn⟩ := id hR
      have hget := mm_wl_get (B := B) (t := t) (cI := cI) (cZ := cZ) ha
      rw [mm_cel_boo hKa] at hget
      rw [List.map_cons, List.map_cons, mm_rv_ref ha hn]
      exact va_zald hx hb hK hP a 1 hget rfl hin hd (kk H locs sl hR hL)
  | iastore =>
    obtain rfl : len = 1 := hlen
    obtain ⟨x, i, a, r, rfl, ha, hKa, hin, -, rfl⟩ := mm_as_inv hs
    obtain ⟨hP, hD, hS, hn⟩ := id hR
    have hget := mm_wl_get (B := B) (t := t) (cI := cI) (cZ := cZ) ha
    rw [mm_cel_arr hKa] at hget
    rw [List.map_cons, List.map_cons, List.map_cons, mm_rv_ref ha hn]
    refine va_iast hx hb hK hP hD hS a 0 hget rfl hin hd (fun H1 locs1 a1 a2 a3 => ?_)
    have hset : (mm_wl B t cI cZ h).set a (B + a, .inl (cI, mm_L h a, .inl (upd (mm_G h a) i.toNatClampNeg x))) = mm_wl B t cI cZ (h.1, mm_up h.2 a i.toNatClampNeg x) := by
      refine mm_wl_set rfl ?_ (fun b hb => mm_cel_up hb)
      rw [mm_cel_arr (h := (h.1, mm_up h.2 a i.toNatClampNeg x)) hKa]
      rw [show mm_G (h.1, mm_up h.2 a i.toNatClampNeg x) a = upd (mm_G h a) i.toNatClampNeg x from mm_up_at _ _ _ _]
      rfl
    rw [hset] at a1 a2
    exact kk H1 locs1 sl ⟨a1, a2, a3, hn⟩ hL
  | bastore =>
    obtain rfl : len = 1 := hlen
    obtain ⟨x, i, a, r, rfl, ha, hKa, hin, hx01, rfl⟩ := mm_as_inv hs
    obtain ⟨hP, hD, hS, hn⟩ := id hR
    have hget := mm_wl_get (B := B) (t := t) (cI := cI) (cZ := cZ) ha
    rw [mm_cel_boo hKa] at hget
    rw [List.map_cons, List.map_cons, List.map_cons, mm_rv_ref ha hn]
    refine va_zast hx hb hK hP hD hS a 1 hget rfl hin hd (fun H1 locs1 a1 a2 a3 => ?_)
    have hnr : vp_nar .boolean x = x := by
      rcases hx01 with z | z | z
      · cases z
      · subst z; rfl
      · subst z; rfl
    have hset : (mm_wl B t cI cZ h).set a (B + a, .inl (cZ, mm_L h a, .inl (upd (mm_G h a) i.toNatClampNeg (vp_nar .boolean x)))) = mm_wl B t cI cZ (h.1, mm_up h.2 a i.toNatClampNeg x) := by
      refine mm_wl_set rfl ?_ (fun b hb => mm_cel_up hb)
      rw [mm_cel_boo (h := (h.1, mm_up h.2 a i.toNatClampNeg x)) hKa, hnr]
      rw [show mm_G (h.1, mm_up h.2 a i.toNatClampNeg x) a = upd (mm_G h a) i.toNatClampNeg x from mm_up_at _ _ _ _]
      rfl
    rw [hset] at a1 a2
    exact kk H1 locs1 sl ⟨a1, a2, a3, hn⟩ hL
  | arraylength =>
    obtain rfl : len = 1 := hlen
    obtain ⟨a, r, rfl, ha, hKa, rfl⟩ := mm_len_inv hs
    obtain ⟨hP, hD, hS, hn⟩ := id hR
    have hget := mm_wl_get (B := B) (t := t) (cI := cI) (cZ := cZ) ha
    rw [mm_cel_arr hKa] at hget
    rw [List.map_cons, mm_rv_ref ha hn]
    exact va_alen hx hb hK hP a 0 hget rfl rfl hd (kk H locs sl hR hL)
  | new ix =>
    obtain rfl : len = 3 := hlen
    obtain ⟨hngT, hn4, rfl⟩ := mm_nw1_inv hs
    have hp : pp < 100 := by
      simp only [mm_knd] at hk0
      cases hb0 : Nat.blt pp 100 with
      | true => exact (mm_blt_iff _ _).mp hb0
      | false => rw [hb0] at hk0; cases hk0
    simp only [mm_ckP, if_pos hp, Bool.and_eq_true, decide_eq_true_eq] at hk
    obtain ⟨g1, g2, g3, g4⟩ := mm_nl_ok hk.1
    obtain ⟨c1, c2, c3, c4⟩ := mm_cl g4
    obtain ⟨hP, hD, hS, hn⟩ := id hR
    have hq0 := hk.2
    subst hq0
    have e1 : mm_n (mm_add h pp (mm_N pp)) = mm_n h + 1 := rfl
    have e2 : mm_sl (mm_add h pp (mm_N pp)) = mm_sl h + mm_N pp := rfl
    have hce : mm_n h + 1 - n0 = mm_n h - n0 + 1 := by omega
    have hse : mm_sl h + mm_N pp - s0 = mm_sl h - s0 + mm_N pp := by omega
    have hrc' : mm_n h - n0 + 1 ≤ R.cells := by rw [← hce]; exact hrc
    have hrs' : mm_sl h - s0 + mm_N pp ≤ R.slots := by rw [← hse]; exact hrs
    refine va_new (ci := pp) (fs := (List.range (mm_N pp)).map (fun s => mm_rv B t (mm_fv (mm_add h pp (mm_N pp)) pp (mm_n h) s))) hx hb hts c2 (mm_ty pp) c3 hown (hts _ g1) (hts _ g2) (hts _ g3) hK hP hD hS (fun q hq => Nat.le_trans hB hq) c1 (fun j hj => ?_) hrc' hrs' hd (fun qa H1 a1 a2 a3 => ?_)
    · have hg := mm_fs_get (B := B) (t := t) (h := mm_add h pp (mm_N pp)) (c := pp) (a := mm_n h) hj
      unfold vp_V
      rw [List.getD_eq_getElem?_getD, hg]
      have hf := mm_ft_le pp g4 j hj
      show _ = mm_rv B t (mm_fv (mm_add h pp (mm_N pp)) pp (mm_n h) j)
      unfold mm_fv
      rw [mm_add_R, congrFun mm_add_G j]
      rcases Nat.lt_or_ge (mm_ft pp j) 2 with z | z
      · rw [mm_beq_f (by omega)]
        rcases (by omega : mm_ft pp j = 0 ∨ mm_ft pp j = 1) with z | z
        · rw [mm_ft0 z]; rfl
        · rw [mm_ft1 z]; rfl
      · have z2 : mm_ft pp j = 2 := by omega
        rw [(mm_beq_iff _ _).mpr z2]
        rcases mm_ft2 z2 with ⟨o, z⟩ | ⟨o, z⟩ <;> rw [z] <;> rfl
    · refine mm_Wsz (fun hsz => ?_)
      have hlow := mm_low hR hB
      have hs1 := hng hngT
      have hlen : (mm_wl B t cI cZ h).length = mm_n h := by simp [mm_wl]
      have hat : (mm_wl B t cI cZ h ++ [(qa, (.inr (pp, (List.range (mm_N pp)).map (fun s => mm_rv B t (mm_fv (mm_add h pp (mm_N pp)) pp (mm_n h) s))) : va_E))])[mm_n h]? = some (qa, .inr (pp, (List.range (mm_N pp)).map (fun s => mm_rv B t (mm_fv (mm_add h pp (mm_N pp)) pp (mm_n h) s)))) := by
        rw [List.getElem?_append_right (by omega), hlen, Nat.sub_self]
        rfl
      have q1 : B ≤ qa := a2.2 _ _ hat
      have q2 : qa < H1.size := (a1 _ _ hat).lt
      have q3 : ¬ qa < B + mm_n h := fun z => by
        have hj : qa - B < mm_n h := by omega
        have hat2 : (mm_wl B t cI cZ h ++ [(qa, (.inr (pp, (List.range (mm_N pp)).map (fun s => mm_rv B t (mm_fv (mm_add h pp (mm_N pp)) pp (mm_n h) s))) : va_E))])[qa - B]? = some (B + (qa - B), mm_cel B t cI cZ h (qa - B)) := by
          rw [List.getElem?_append_left (by omega), mm_wl_get hj]
        have := a2.1 _ _ _ _ hat2 hat (by simp only; omega)
        omega
      have hqe : qa = B + mm_n h := by omega
      subst hqe
      have hadd := mm_wl_add (B := B) (t := t) (cI := cI) (cZ := cZ) (h := h) (h' := mm_add h pp (mm_N pp)) rfl (mm_cel_obj mm_add_K g4) (fun b hb => mm_cel_add hb)
      rw [hadd] at a1 a2
      have := kk H1 locs sl ⟨a1, a2, a3, by show mm_n h + 1 ≤ 4000; omega⟩ hL
      have er : mm_rv B t (.ref (mm_n h)) = .ref (B + mm_n h) := by
        show Value.ref (mm_ad B t (mm_n h)) = _
        rw [mm_ad_lt (n := mm_n h + 1) (by omega) (by omega)]
      simp only [e1, e2, List.map_cons, er, hce, hse] at this
      exact this
  | newarray at_ =>
    obtain rfl : len = 2 := hlen
    obtain ⟨x, r, rfl, hngT, hn4, hin, rfl⟩ := mm_nwa_inv hs
    obtain ⟨hP, hD, hS, hn⟩ := id hR
    have e1 : mm_n (mm_add h pp x.toNatClampNeg) = mm_n h + 1 := rfl
    have e2 : mm_sl (mm_add h pp x.toNatClampNeg) = mm_sl h + x.toNatClampNeg := rfl
    have hce : mm_n h + 1 - n0 = mm_n h - n0 + 1 := by omega
    have hse : mm_sl h + x.toNatClampNeg - s0 = mm_sl h - s0 + x.toNatClampNeg := by omega
    have hrc' : mm_n h - n0 + 1 ≤ R.cells := by rw [← hce]; exact hrc
    have hrs' : mm_sl h - s0 + x.toNatClampNeg ≤ R.slots := by rw [← hse]; exact hrs
    have hnn : ¬ x < 0 := fun z => hin (Or.inl z)
    have hxl : x.toNatClampNeg < 10000 := Nat.not_le.mp fun z => hin (Or.inr z)
    have fin : ∀ (ty : FieldType) (cT : ClassId) (ti : Nat), (mm_tys cI cZ)[ti]? = some (cT, ty) → (ty = .int ∨ ty = .boolean) → mm_cel B t cI cZ (mm_add h pp x.toNatClampNeg) (mm_n h) = .inl (cT, x.toNatClampNeg, .inl (fun _ => 0)) → ∀ (qa : Nat) (cA : ClassId) (H1 : Heap), va_K D vwCl (mm_tys cI cZ ++ [(cA, ty)]) s → va_P D vwCl (mm_wl B t cI cZ h ++ [(qa, .inl (cA, x.toNatClampNeg, .inl (fun _ => 0)))]) H1 → va_D (fun q => B ≤ q) (mm_wl B t cI cZ h ++ [(qa, .inl (cA, x.toNatClampNeg, .inl (fun _ => 0)))]) → va_S (fun q => B ≤ q) s.heap H1 locs →
        W p l e R s m args below meth c H1 locs (mm_n h - n0 + 1) (mm_sl h - s0 + x.toNatClampNeg) Q (F0 m (pc + 2) sl (.ref qa :: r.map (mm_rv B t))) := by
      intro ty cT ti hti hty2 hcel qa cA H1 a0 a1 a2 a3
      have hcA : cA = cT := by
        have h1 := (hK.2 ti _ hti).2
        have h2 := (a0.2 2 (cA, ty) rfl).2
        rcases hty2 with rfl | rfl
        · exact Option.some.inj (h2.symm.trans h1)
        · exact Option.some.inj (h2.symm.trans h1)
      subst hcA
      refine mm_Wsz (fun hsz => ?_)
      have hlow := mm_low hR hB
      have hs1 := hng hngT
      have hlen : (mm_wl B t cI cZ h).length = mm_n h := by simp [mm_wl]
      have hat : (mm_wl B t cI cZ h ++ [(qa, (.inl (cA, x.toNatClampNeg, .inl (fun _ => 0)) : va_E))])[mm_n h]? = some (qa, .inl (cA, x.toNatClampNeg, .inl (fun _ => 0))) := by
        rw [List.getElem?_append_right (by omega), hlen, Nat.sub_self]
        rfl
      have q1 : B ≤ qa := a2.2 _ _ hat
      have q2 : qa < H1.size := (a1 _ _ hat).lt
      have q3 : ¬ qa < B + mm_n h := fun z => by
        have hj : qa - B < mm_n h := by omega
        have hat2 : (mm_wl B t cI cZ h ++ [(qa, (.inl (cA, x.toNatClampNeg, .inl (fun _ => 0)) : va_E))])[qa - B]? = some (B + (qa - B), mm_cel B t cI cZ h (qa - B)) := by
          rw [List.getElem?_append_left (by omega), mm_wl_get hj]
        have := a2.1 _ _ _ _ hat2 hat (by simp only; omega)
        omega
      have hqe : qa = B + mm_n h := by omega
      subst hqe
      have hadd := mm_wl_add (B := B) (t := t) (cI := cI) (cZ := cZ) (h := h) (h' := mm_add h pp x.toNatClampNeg) rfl hcel (fun b hb => mm_cel_add hb)
      rw [hadd] at a1 a2
      have := kk H1 locs sl ⟨a1, a2, a3, by show mm_n h + 1 ≤ 4000; omega⟩ hL
      have er : mm_rv B t (.ref (mm_n h)) = .ref (B + mm_n h) := by
        show Value.ref (mm_ad B t (mm_n h)) = _
        rw [mm_ad_lt (n := mm_n h + 1) (by omega) (by omega)]
      simp only [e1, e2, List.map_cons, er, hce, hse] at this
      exact this
    simp only [mm_ckP] at hk
    by_cases hp : pp = 100
    · rw [if_pos hp] at hk
      obtain rfl : at_ = .int := of_decide_eq_true hk
      have hcel : mm_cel B t cI cZ (mm_add h pp x.toNatClampNeg) (mm_n h) = .inl (cI, x.toNatClampNeg, .inl (fun _ => 0)) := by
        rw [mm_cel_arr (mm_add_K.trans hp), mm_add_L, mm_add_G]
      exact va_newa (atype := .int) (a0 := (x.toNatClampNeg, .inl (fun _ => 0))) hx hb (hts _ mm_ac_int) rfl hK hP hD hS (fun q hq => Nat.le_trans hB hq) (fun cA => vp_cell_i cA _ _) hnn rfl (by show x.toNatClampNeg * 4 ≤ _; omega) hrc' hrs' hd (fin .int cI 0 rfl (Or.inl rfl) hcel)
    · rw [if_neg hp] at hk
      obtain ⟨hp, rfl⟩ : pp = 101 ∧ at_ = .boolean := of_decide_eq_true hk
      have hcel : mm_cel B t cI cZ (mm_add h pp x.toNatClampNeg) (mm_n h) = .inl (cZ, x.toNatClampNeg, .inl (fun _ => 0)) := by
        rw [mm_cel_boo (mm_add_K.trans hp), mm_add_L, mm_add_G]
      exact va_newa (atype := .boolean) (a0 := (x.toNatClampNeg, .inl (fun _ => 0))) hx hb (hts _ mm_ac_boolean) rfl hK hP hD hS (fun q hq => Nat.le_trans hB hq) (fun cA => vp_cell_i cA _ _) hnn rfl (by show x.toNatClampNeg * 1 ≤ _; omega) hrc' hrs' hd (fin .boolean cZ 1 rfl (Or.inr rfl) hcel)
  | invokespecial ix =>
    obtain rfl : len = 3 := hlen
    have hp : pp = 1004 := by
      simp only [mm_knd] at hk0
      cases hb0 : Nat.blt pp 1000 with
      | true => rw [hb0] at hk0; cases hk0
      | false =>
        rw [hb0] at hk0
        cases hb1 : Nat.beq pp 1004 with
        | true => exact (mm_beq_iff _ _).mp hb1
        | false => rw [hb1] at hk0; cases hk0
    subst hp
    simp only [mm_ins] at hs
    split at hs
    · rename_i a r
      obtain ⟨h1, h2⟩ := mm_cond_inv hs
      obtain rfl := Option.some.inj h2
      rw [Bool.and_eq_true] at h1
      have h3 := Nat.le_of_ble_eq_true h1.1
      have h4 := Nat.le_of_ble_eq_true h1.2
      refine W.objInit hx hb hown (hts _ (mm_ol_ok hk)) (hts _ mm_oi1) (hts _ mm_oi2) (g := F0 m pc sl (Value.ref (mm_ad B t a) :: r.map (mm_rv B t))) rfl ?_ rfl hd (by omega) ?_ (kk H locs sl hR hL)
      · rw [hml, ← hll]; exact hL.1
      · show 2 * 0 + _ + 12 ≤ _
        rw [mm_cat_sum]
        omega
    · cases hs
  | invokestatic ix =>
    obtain rfl : len = 3 := hlen
    simp only [mm_ins] at hs
    split at hs
    · rename_i x r
      obtain ⟨h1, h2⟩ := mm_cond_inv hs
      obtain rfl := Option.some.inj h2
      rw [Bool.and_eq_true, Bool.and_eq_true, mm_beq_iff] at h1
      have h3 := Nat.le_of_ble_eq_true h1.1.2
      have h4 := Nat.le_of_ble_eq_true h1.2
      simp only [mm_ckP, if_pos h1.1.1, decide_eq_true_eq] at hk
      rw [hk.1] at hown
      obtain rfl := hk.2
      exact vn_f2i hx hb (by rw [hml, ← hll]; exact hL.1.symm) hown (hts _ mm_nvf1) (hts _ mm_nvf2) (hts _ mm_nvf3) (hts _ mm_nvf4) (by omega) (by rw [mm_cat_sum]; omega) hd (kk H locs sl hR hL)
    · rename_i x r
      obtain ⟨h1, h2⟩ := mm_cond_inv hs
      obtain rfl := Option.some.inj h2
      rw [Bool.and_eq_true, Bool.and_eq_true, mm_beq_iff] at h1
      have h3 := Nat.le_of_ble_eq_true h1.1.2
      have h4 := Nat.le_of_ble_eq_true h1.2
      obtain rfl := h1.1.1
      have hk2 : mm_c k = 12 ∧ ix = 134 := of_decide_eq_true hk
      rw [hk2.1] at hown
      obtain rfl := hk2.2
      exact vn_d2l hx hb (by rw [hml, ← hll]; exact hL.1.symm) hown (hts _ mm_nvd1) (hts _ mm_nvd2) (hts _ mm_nvd3) (hts _ mm_nvd4) (by omega) (by rw [mm_cat_sum]; omega) hd (kk H locs sl hR hL)
    · cases hs
  | _ => exact absurd hs (by simp [mm_ins])
end MMS
