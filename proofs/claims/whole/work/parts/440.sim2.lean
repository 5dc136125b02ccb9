/-! runs that make nothing new: what they may write lies in the 83 cells -/
def mo_A (B : Nat) : Nat → Prop := fun q => B ≤ q ∧ q < B + 83
def mo_Cx (p : Program) (R : Room) (s : State) (m : MethodId) (args : Array Value) (meth : Method) (c : Code) (D : va_G) (B t : Nat) (cI cZ : ClassId) (k : Nat) : Prop :=
  p.tables.exec = Jvm.exec ∧ c.code = mm_by k ∧ c.maxLocals = mm_mL k ∧ s.vm.findClass (mm_cn (mm_c k)) = some m.cls ∧ (∀ w ∈ mm_GW, w.before args s = true) ∧ meth.locks = false ∧ meth.sig.returnType = mm_rt k ∧ (mm_md k = 2 → meth.name = "<init>") ∧ va_K D vwCl (mm_tys cI cZ) s ∧ mm_Nst s ∧ va_Z "WholeSoundModel" "FIXED" "[I" (.ref t) (mo_A B) s s.heap ∧ va_T .int t 20 (fun j => .int (mm_fix j)) (mo_A B) s s.heap ∧ B ≤ s.heap.size ∧ mm_dp k ≤ R.frames ∧ 40 * mm_dp k ≤ R.locals
def mo_Rl (D : va_G) (B t : Nat) (cI cZ : ClassId) (s : State) (h : mm_H) (H : Heap) (locs : List Loc) : Prop :=
  va_P D vwCl (mm_wl B t cI cZ h) H ∧ va_D (mo_A B) (mm_wl B t cI cZ h) ∧ va_S (mo_A B) s.heap H locs ∧ mm_n h ≤ 4000
section MOS
variable {p : Program} {l : Launch} {e : Env} {R : Room} {s : State} {m : MethodId} {args : Array Value} {below : List Frame} {meth : Method} {c : Code} {H : Heap} {locs : List Loc} {cells slots : Nat} {Q : State → Prop} {D : va_G} {B t : Nat} {cI cZ : ClassId} {k pc : Nat} {ls : mm_Ls} {st : List Value} {h : mm_H} {sl : Array Slot}
theorem mo_low (hR : mo_Rl D B t cI cZ s h H locs) (hB : B ≤ s.heap.size) : B + mm_n h ≤ H.size := by
  obtain ⟨hP, hD, hS, hn⟩ := hR
  by_cases h0 : mm_n h = 0
  · rw [h0]
    exact Nat.le_trans hB hS.1
  · have hlt : mm_n h - 1 < mm_n h := by omega
    have := (hP _ _ (mm_wl_get (B := B) (t := t) (cI := cI) (cZ := cZ) hlt)).lt
    simp only at this
    omega
set_option maxHeartbeats 4000000 in
set_option maxRecDepth 100000 in
theorem mo_step {ng : Bool} (hngf : ng = false) {n0 s0 : Nat} {ins : Instr} {len pp q : Nat} {s' : mm_S} (C : mo_Cx p R s m args meth c D B t cI cZ k) (hd : decode (mm_by k) pc = .ok (ins, len)) (hk : mm_ckP (mm_c k) pc ins pp q = true) (hlen : len = mm_ln ins len) (hs : mm_ins ng k pc ins len pp q ls st h = some s') (hk0 : mm_knd ins pp = 0)
    (hng : ng = true → s.heap.size = B + n0) (hn0 : n0 ≤ mm_n h) (hs0 : s0 ≤ mm_sl h) (hrc : mm_n s'.2.2.2 - n0 ≤ R.cells) (hrs : mm_sl s'.2.2.2 - s0 ≤ R.slots) (hR : mo_Rl D B t cI cZ s h H locs) (hL : mm_LR B t sl ls) (hll : ls.length = mm_mL k)
    (kk : ∀ H1 locs1 sl1, mo_Rl D B t cI cZ s s'.2.2.2 H1 locs1 → mm_LR B t sl1 s'.2.1 → W p l e R s m args below meth c H1 locs1 (mm_n s'.2.2.2 - n0) (mm_sl s'.2.2.2 - s0) Q (F0 m s'.1 sl1 (s'.2.2.1.map (mm_rv B t)))) :
    W p l e R s m args below meth c H locs (mm_n h - n0) (mm_sl h - s0) Q (F0 m pc sl (st.map (mm_rv B t))) := by
  obtain ⟨hx, hb, hml, hown, hts, hlocks, hret, hinit, hK, hN, hZ, hT, hB, hfr, hlo⟩ := id C
  cases ins with
  | iconst n =>
    obtain rfl : len = 1 := hlen
    obtain rfl := Option.some.inj hs
    exact lv_iconst hx hb hd rfl (kk H locs sl hR hL)
  | bipush n =>
    obtain rfl : len = 2 := hlen
    obtain rfl := Option.some.inj hs
    exact lv_bipush hx hb hd rfl (kk H locs sl hR hL)
  | sipush n =>
    obtain rfl : len = 3 := hlen
    obtain rfl := Option.some.inj hs
    exact lv_sipush hx hb hd rfl (kk H locs sl hR hL)
  | lconst n =>
    obtain rfl : len = 1 := hlen
    obtain rfl := Option.some.inj hs
    exact lv_lconst hx hb hd rfl (kk H locs sl hR hL)
  | fconst n =>
    obtain rfl : len = 1 := hlen
    obtain rfl := Option.some.inj hs
    match n, hd, kk with
    | 0, hd, kk => exact lv_fconst0 hx hb hd (kk H locs sl hR hL)
    | 1, hd, kk => exact lv_fconst1 hx hb hd (kk H locs sl hR hL)
    | 2, hd, kk => exact lv_fconst2 hx hb hd (kk H locs sl hR hL)
  | dconst n =>
    obtain rfl : len = 1 := hlen
    obtain rfl := Option.some.inj hs
    match n, hd, kk with
    | 0, hd, kk => exact lv_dconst0 hx hb hd (kk H locs sl hR hL)
    | 1, hd, kk => exact lv_dconst1 hx hb hd (kk H locs sl hR hL)
  | aconst_null =>
    obtain rfl : len = 1 := hlen
    obtain rfl := Option.some.inj hs
    exact lv_null hx hb hd (kk H locs sl hR hL)
  | ldc i =>
    obtain rfl : len = 2 := hlen
    by_cases h0 : q = 0
    · subst h0
      obtain rfl := Option.some.inj hs
      exact lv_ldc hx hb hown (hts _ (mm_cs0 hk)) hd (kk H locs sl hR hL)
    · simp only [mm_ckP, if_neg h0] at hk
      simp only [mm_ins, mm_beq_f h0, cond_false] at hs
      obtain rfl := Option.some.inj hs
      exact lv_ldcf hx hb hown (hts _ (mm_cs2 hk)) hd (kk H locs sl hR hL)
  | ldc_w i =>
    obtain rfl : len = 3 := hlen
    by_cases h0 : q = 0
    · subst h0
      obtain rfl := Option.some.inj hs
      exact lv_ldcw hx hb hown (hts _ (mm_cs0 hk)) hd (kk H locs sl hR hL)
    · simp only [mm_ckP, if_neg h0] at hk
      simp only [mm_ins, mm_beq_f h0, cond_false] at hs
      obtain rfl := Option.some.inj hs
      exact mm_ldcwF hx hb hown (hts _ (mm_cs2 hk)) hd (kk H locs sl hR hL)
  | ldc2_w i =>
    obtain rfl : len = 3 := hlen
    by_cases h0 : q = 0
    · subst h0
      obtain rfl := Option.some.inj hs
      exact lv_ldc2 hx hb hown (hts _ (mm_cs1 hk)) hd (kk H locs sl hR hL)
    · simp only [mm_ckP, if_neg h0] at hk
      simp only [mm_ins, mm_beq_f h0, cond_false] at hs
      obtain rfl := Option.some.inj hs
      exact lv_ldc2d hx hb hown (hts _ (mm_cs3 hk)) hd (kk H locs sl hR hL)
  | iload i =>
    obtain rfl : len = 2 := hlen
    obtain ⟨v, h1, h2, rfl⟩ := mm_ldv_inv hs
    cases v with
    | int x => exact lv_iload hx hb hd (hL.2.2 _ _ h1) (kk H locs sl hR hL)
    | _ => simp [mm_isI] at h2
  | iload_n i =>
    obtain rfl : len = 1 := hlen
    obtain ⟨v, h1, h2, rfl⟩ := mm_ldv_inv hs
    cases v with
    | int x => exact lv_iload_n hx hb hd rfl (hL.2.2 _ _ h1) (kk H locs sl hR hL)
    | _ => simp [mm_isI] at h2
  | lload i =>
    obtain rfl : len = 2 := hlen
    obtain ⟨v, h1, h2, rfl⟩ := mm_ldv_inv hs
    cases v with
    | long x => exact lv_lload hx hb hd (hL.2.2 _ _ h1) (kk H locs sl hR hL)
    | _ => simp [mm_isL] at h2
  | lload_n i =>
    obtain rfl : len = 1 := hlen
    obtain ⟨v, h1, h2, rfl⟩ := mm_ldv_inv hs
    cases v with
    | long x => exact lv_lload_n hx hb hd rfl (hL.2.2 _ _ h1) (kk H locs sl hR hL)
    | _ => simp [mm_isL] at h2
  | fload i =>
    obtain rfl : len = 2 := hlen
    obtain ⟨v, h1, h2, rfl⟩ := mm_ldv_inv hs
    cases v with
    | float x => exact lv_fload hx hb hd (hL.2.2 _ _ h1) (kk H locs sl hR hL)
    | _ => simp [mm_isF] at h2
  | fload_n i =>
    obtain rfl : len = 1 := hlen
    obtain ⟨v, h1, h2, rfl⟩ := mm_ldv_inv hs
    cases v with
    | float x => exact lv_fload_n hx hb hd rfl (hL.2.2 _ _ h1) (kk H locs sl hR hL)
    | _ => simp [mm_isF] at h2
  | dload i =>
    obtain rfl : len = 2 := hlen
    obtain ⟨v, h1, h2, rfl⟩ := mm_ldv_inv hs
    cases v with
    | double x => exact lv_dload hx hb hd (hL.2.2 _ _ h1) (kk H locs sl hR hL)
    | _ => simp [mm_isD] at h2
  | dload_n i =>
    obtain rfl : len = 1 := hlen
    obtain ⟨v, h1, h2, rfl⟩ := mm_ldv_inv hs
    cases v with
    | double x => exact lv_dload_n hx hb hd rfl (hL.2.2 _ _ h1) (kk H locs sl hR hL)
    | _ => simp [mm_isD] at h2
  | aload i =>
    obtain rfl : len = 2 := hlen
    obtain ⟨v, h1, h2, rfl⟩ := mm_ldv_inv hs
    cases v with
    | ref x => exact lv_aload hx hb hd (hL.2.2 _ _ h1) (kk H locs sl hR hL)
    | null => exact lv_aloadN hx hb hd (hL.2.2 _ _ h1) (kk H locs sl hR hL)
    | _ => simp [mm_isA] at h2
  | aload_n i =>
    obtain rfl : len = 1 := hlen
    obtain ⟨v, h1, h2, rfl⟩ := mm_ldv_inv hs
    cases v with
    | ref x => exact lv_aload_n hx hb hd rfl (hL.2.2 _ _ h1) (kk H locs sl hR hL)
    | null => exact lv_aload_nN hx hb hd rfl (hL.2.2 _ _ h1) (kk H locs sl hR hL)
    | _ => simp [mm_isA] at h2
  | istore i =>
    obtain rfl : len = 2 := hlen
    obtain ⟨v, r, rfl, h2, h3, rfl⟩ := mm_stv_inv hs
    cases v with
    | int x => exact lv_istore hx hb hd hL.has h3 rfl (fun sl1 hl1 => kk H locs sl1 hR (mm_LR.of1 h3 hl1))
    | _ => simp [mm_isI] at h2
  | istore_n i =>
    obtain rfl : len = 1 := hlen
    obtain ⟨v, r, rfl, h2, h3, rfl⟩ := mm_stv_inv hs
    cases v with
    | int x => exact lv_istore_n hx hb hd rfl hL.has h3 rfl (fun sl1 hl1 => kk H locs sl1 hR (mm_LR.of1 h3 hl1))
    | _ => simp [mm_isI] at h2
  | lstore i =>
    obtain rfl : len = 2 := hlen
    obtain ⟨v, r, rfl, h2, h3, rfl⟩ := mm_stv_inv hs
    cases v with
    | long x => exact lv_lstore hx hb hd hL.has h3 rfl (fun sl1 hl1 => kk H locs sl1 hR (mm_LR.of2 h3 hl1))
    | _ => simp [mm_isL] at h2
  | lstore_n i =>
    obtain rfl : len = 1 := hlen
    obtain ⟨v, r, rfl, h2, h3, rfl⟩ := mm_stv_inv hs
    cases v with
    | long x => exact lv_lstore_n hx hb hd rfl hL.has h3 rfl (fun sl1 hl1 => kk H locs sl1 hR (mm_LR.of2 h3 hl1))
    | _ => simp [mm_isL] at h2
  | fstore i =>
    obtain rfl : len = 2 := hlen
    obtain ⟨v, r, rfl, h2, h3, rfl⟩ := mm_stv_inv hs
    cases v with
    | float x => exact lv_fstore hx hb hd hL.has h3 rfl (fun sl1 hl1 => kk H locs sl1 hR (mm_LR.of1 h3 hl1))
    | _ => simp [mm_isF] at h2
  | fstore_n i =>
    obtain rfl : len = 1 := hlen
    obtain ⟨v, r, rfl, h2, h3, rfl⟩ := mm_stv_inv hs
    cases v with
    | float x => exact lv_fstore_n hx hb hd rfl hL.has h3 rfl (fun sl1 hl1 => kk H locs sl1 hR (mm_LR.of1 h3 hl1))
    | _ => simp [mm_isF] at h2
  | dstore i =>
    obtain rfl : len = 2 := hlen
    obtain ⟨v, r, rfl, h2, h3, rfl⟩ := mm_stv_inv hs
    cases v with
    | double x => exact lv_dstore hx hb hd hL.has h3 rfl (fun sl1 hl1 => kk H locs sl1 hR (mm_LR.of2 h3 hl1))
    | _ => simp [mm_isD] at h2
  | dstore_n i =>
    obtain rfl : len = 1 := hlen
    obtain ⟨v, r, rfl, h2, h3, rfl⟩ := mm_stv_inv hs
    cases v with
    | double x => exact lv_dstore_n hx hb hd rfl hL.has h3 rfl (fun sl1 hl1 => kk H locs sl1 hR (mm_LR.of2 h3 hl1))
    | _ => simp [mm_isD] at h2
  | astore i =>
    obtain rfl : len = 2 := hlen
    obtain ⟨v, r, rfl, h2, h3, rfl⟩ := mm_stv_inv hs
    cases v with
    | ref x => exact lv_astore hx hb hd hL.has h3 rfl (fun sl1 hl1 => kk H locs sl1 hR (mm_LR.of1 h3 hl1))
    | null => exact lv_astoreN hx hb hd hL.has h3 rfl (fun sl1 hl1 => kk H locs sl1 hR (mm_LR.of1 h3 hl1))
    | _ => simp [mm_isA] at h2
  | astore_n i =>
    obtain rfl : len = 1 := hlen
    obtain ⟨v, r, rfl, h2, h3, rfl⟩ := mm_stv_inv hs
    cases v with
    | ref x => exact lv_astore_n hx hb hd rfl hL.has h3 rfl (fun sl1 hl1 => kk H locs sl1 hR (mm_LR.of1 h3 hl1))
    | null => exact lv_astore_nN hx hb hd rfl hL.has h3 rfl (fun sl1 hl1 => kk H locs sl1 hR (mm_LR.of1 h3 hl1))
    | _ => simp [mm_isA] at h2
  | iinc i cc =>
    obtain rfl : len = 3 := hlen
    simp only [mm_ins] at hs
    have hs : (match mm_ld ls i with
      | some (.int x) => some (pc + 3, mm_s1 ls i (.int (x + Int32.ofInt cc)), st, h)
      | _ => none) = some s' := hs
    split at hs
    · rename_i x hv
      obtain rfl := Option.some.inj hs
      obtain ⟨j, hj⟩ := mm_mem_pos (mm_asc_mem (B := B) (t := t) hv)
      exact lv_iinc hx hb hd hL.has hj rfl (mm_ld_lt hv) rfl (fun sl1 hl1 => kk H locs sl1 hR (mm_LR.of1 (mm_ld_lt hv) hl1))
    · cases hs
  | iadd =>
    obtain rfl : len = 1 := hlen
    obtain ⟨x, y, r, rfl, rfl⟩ := mm_i2_inv hs
    exact lv_iadd hx hb hd (kk H locs sl hR hL)
  | isub =>
    obtain rfl : len = 1 := hlen
    obtain ⟨x, y, r, rfl, rfl⟩ := mm_i2_inv hs
    exact lv_isub hx hb hd (kk H locs sl hR hL)
  | imul =>
    obtain rfl : len = 1 := hlen
    obtain ⟨x, y, r, rfl, rfl⟩ := mm_i2_inv hs
    exact lv_imul hx hb hd (kk H locs sl hR hL)
  | iand =>
    obtain rfl : len = 1 := hlen
    obtain ⟨x, y, r, rfl, rfl⟩ := mm_i2_inv hs
    exact lv_iand hx hb hd (kk H locs sl hR hL)
  | ior =>
    obtain rfl : len = 1 := hlen
    obtain ⟨x, y, r, rfl, rfl⟩ := mm_i2_inv hs
    exact lv_ior hx hb hd (kk H locs sl hR hL)
  | ixor =>
    obtain rfl : len = 1 := hlen
    obtain ⟨x, y, r, rfl, rfl⟩ := mm_i2_inv hs
    exact lv_ixor hx hb hd (kk H locs sl hR hL)
  | ishl =>
    obtain rfl : len = 1 := hlen
    obtain ⟨x, y, r, rfl, rfl⟩ := mm_i2_inv hs
    exact lv_ishl hx hb hd (kk H locs sl hR hL)
  | ishr =>
    obtain rfl : len = 1 := hlen
    obtain ⟨x, y, r, rfl, rfl⟩ := mm_i2_inv hs
    exact lv_ishr hx hb hd (kk H locs sl hR hL)
  | iushr =>
    obtain rfl : len = 1 := hlen
    obtain ⟨x, y, r, rfl, rfl⟩ := mm_i2_inv hs
    exact lv_iushr hx hb hd rfl (kk H locs sl hR hL)
  | idiv =>
    obtain rfl : len = 1 := hlen
    obtain ⟨x, y, r, rfl, hy, rfl⟩ := mm_dv_inv hs
    exact lv_idiv hx hb hd hy (kk H locs sl hR hL)
  | irem =>
    obtain rfl : len = 1 := hlen
    obtain ⟨x, y, r, rfl, hy, rfl⟩ := mm_dv_inv hs
    exact lv_irem hx hb hd hy (kk H locs sl hR hL)
  | ineg =>
    obtain rfl : len = 1 := hlen
    obtain ⟨x, r, rfl, rfl⟩ := mm_i1_inv hs
    exact lv_ineg hx hb hd (kk H locs sl hR hL)
  | i2l =>
    obtain rfl : len = 1 := hlen
    obtain ⟨x, r, rfl, rfl⟩ := mm_i1_inv hs
    exact lv_i2l hx hb hd rfl (kk H locs sl hR hL)
  | i2b =>
    obtain rfl : len = 1 := hlen
    obtain ⟨x, r, rfl, rfl⟩ := mm_i1_inv hs
    exact lv_i2b hx hb hd rfl (kk H locs sl hR hL)
  | i2f =>
    obtain rfl : len = 1 := hlen
    obtain ⟨x, r, rfl, rfl⟩ := mm_i1_inv hs
    exact lv_i2f hx hb hd (kk H locs sl hR hL)
  | i2d =>
    obtain rfl : len = 1 := hlen
    obtain ⟨x, r, rfl, rfl⟩ := mm_i1_inv hs
    exact lv_i2d hx hb hd (kk H locs sl hR hL)
  | l2i =>
    obtain rfl : len = 1 := hlen
    obtain ⟨x, r, rfl, rfl⟩ := mm_l1_inv hs
    exact lv_l2i hx hb hd rfl (kk H locs sl hR hL)
  | l2d =>
    obtain rfl : len = 1 := hlen
    obtain ⟨x, r, rfl, rfl⟩ := mm_l1_inv hs
    exact lv_l2d hx hb hd (kk H locs sl hR hL)
  | ladd =>
    obtain rfl : len = 1 := hlen
    obtain ⟨x, y, r, rfl, rfl⟩ := mm_l2_inv hs
    exact lv_ladd hx hb hd (kk H locs sl hR hL)
  | lsub =>
    obtain rfl : len = 1 := hlen
    obtain ⟨x, y, r, rfl, rfl⟩ := mm_l2_inv hs
    exact lv_lsub hx hb hd (kk H locs sl hR hL)
  | lmul =>
    obtain rfl : len = 1 := hlen
    obtain ⟨x, y, r, rfl, rfl⟩ := mm_l2_inv hs
    exact lv_lmul hx hb hd (kk H locs sl hR hL)
  | land =>
    obtain rfl : len = 1 := hlen
    obtain ⟨x, y, r, rfl, rfl⟩ := mm_l2_inv hs
    exact lv_land hx hb hd (kk H locs sl hR hL)
  | lor =>
    obtain rfl : len = 1 := hlen
    obtain ⟨x, y, r, rfl, rfl⟩ := mm_l2_inv hs
    exact lv_lor hx hb hd (kk H locs sl hR hL)
  | lcmp =>
    obtain rfl : len = 1 := hlen
    obtain ⟨x, y, r, rfl, rfl⟩ := mm_l2_inv hs
    exact W.lcmp hx hb hd (kk H locs sl hR hL)
  | lshl =>
    obtain rfl : len = 1 := hlen
    obtain ⟨x, y, r, rfl, rfl⟩ := mm_li_inv hs
    exact lv_lshl hx hb hd rfl (kk H locs sl hR hL)
  | lshr =>
    obtain rfl : len = 1 := hlen
    obtain ⟨x, y, r, rfl, rfl⟩ := mm_li_inv hs
    exact lv_lshr hx hb hd rfl (kk H locs sl hR hL)
  | lushr =>
    obtain rfl : len = 1 := hlen
    obtain ⟨x, y, r, rfl, rfl⟩ := mm_li_inv hs
    exact lv_lushr hx hb hd rfl (kk H locs sl hR hL)
  | fdiv =>
    obtain rfl : len = 1 := hlen
    obtain ⟨x, y, r, rfl, hy, rfl⟩ := mm_f2_inv hs
    exact lv_fdiv hx hb hd hy (kk H locs sl hR hL)
  | fmul =>
    obtain rfl : len = 1 := hlen
    obtain ⟨x, y, r, rfl, hy, rfl⟩ := mm_f2_inv hs
    exact lv_fmul hx hb hd hy (kk H locs sl hR hL)
  | ddiv =>
    obtain rfl : len = 1 := hlen
    obtain ⟨x, y, r, rfl, hy, rfl⟩ := mm_d2_inv hs
    exact lv_ddiv hx hb hd hy (kk H locs sl hR hL)
  | dmul =>
    obtain rfl : len = 1 := hlen
    obtain ⟨x, y, r, rfl, hy, rfl⟩ := mm_d2_inv hs
    exact lv_dmul hx hb hd hy (kk H locs sl hR hL)
  | fcmp o =>
    obtain rfl : len = 1 := hlen
    simp only [mm_ins] at hs
    split at hs
    · obtain rfl := Option.some.inj hs
      exact lv_fcmp hx hb hd (kk H locs sl hR hL)
    · cases hs
  | dcmp o =>
    obtain rfl : len = 1 := hlen
    simp only [mm_ins] at hs
    split at hs
    · obtain rfl := Option.some.inj hs
      exact lv_dcmp hx hb hd (kk H locs sl hR hL)
    · cases hs
  | f2i =>
    obtain rfl : len = 1 := hlen
    simp only [mm_ins] at hs
    split at hs
    · obtain rfl := Option.some.inj hs
      exact lv_f2i hx hb hd (kk H locs sl hR hL)
    · cases hs
  | d2l =>
    obtain rfl : len = 1 := hlen
    simp only [mm_ins] at hs
    split at hs
    · obtain rfl := Option.some.inj hs
      exact lv_d2l hx hb hd (kk H locs sl hR hL)
    · cases hs
  | dup =>
    obtain rfl : len = 1 := hlen
    simp only [mm_ins] at hs
    split at hs
    · obtain ⟨h1, h2⟩ := mm_cond_inv hs
      obtain rfl := Option.some.inj h2
      exact lv_dup hx hb hd (by rw [mm_rv_cat]; exact (mm_beq_iff _ _).mp h1) (kk H locs sl hR hL)
    · cases hs
  | pop =>
    obtain rfl : len = 1 := hlen
    simp only [mm_ins] at hs
    split at hs
    · obtain ⟨h1, h2⟩ := mm_cond_inv hs
      obtain rfl := Option.some.inj h2
      exact lv_pop hx hb hd (by rw [mm_rv_cat]; exact (mm_beq_iff _ _).mp h1) (kk H locs sl hR hL)
    · cases hs
  | dup2 =>
    obtain rfl : len = 1 := hlen
    simp only [mm_ins] at hs
    split at hs
    · obtain ⟨h1, h2⟩ := mm_cond_inv hs
      obtain rfl := Option.some.inj h2
      rw [Bool.and_eq_true, mm_beq_iff, mm_beq_iff] at h1
      exact lv_dup2_11 hx hb hd (by rw [mm_rv_cat]; exact h1.1) (by rw [mm_rv_cat]; exact h1.2) (kk H locs sl hR hL)
    · cases hs
  | goto off =>
    obtain rfl : len = 3 := hlen
    obtain rfl := Option.some.inj hs
    exact lv_goto hx hb hd (of_decide_eq_true hk) (kk H locs sl hR hL)
  | ifCond cnd off =>
    obtain rfl : len = 3 := hlen
    obtain ⟨x, r, rfl, rfl⟩ := mm_bi_inv hs
    have ht : (pc : Int) + off = (pp : Int) := of_decide_eq_true hk
    have kt : ∀ hc : mm_cI cnd x 0 = true, W p l e R s m args below meth c H locs (mm_n h - n0) (mm_sl h - s0) Q (F0 m pp sl (r.map (mm_rv B t))) := fun hc => by
      have := kk H locs sl hR hL
      simp only [hc, cond_true] at this
      exact this
    have kf : ∀ hc : mm_cI cnd x 0 = false, W p l e R s m args below meth c H locs (mm_n h - n0) (mm_sl h - s0) Q (F0 m (pc + 3) sl (r.map (mm_rv B t))) := fun hc => by
      have := kk H locs sl hR hL
      simp only [hc, cond_false] at this
      exact this
    cases cnd with
    | eq => exact lv_if_eq hx hb hd ht (fun hc => kt (decide_eq_true hc)) (fun hc => kf (decide_eq_false hc))
    | ne => exact lv_if_ne hx hb hd ht (fun hc => kt (decide_eq_true hc)) (fun hc => kf (decide_eq_false (fun z => z hc)))
    | lt => exact lv_if_lt hx hb hd ht (fun hc => kt (decide_eq_true hc)) (fun hc => kf (decide_eq_false hc))
    | ge => exact lv_if_ge hx hb hd ht (fun hc => kt (decide_eq_true hc)) (fun hc => kf (decide_eq_false hc))
    | gt => exact lv_if_gt hx hb hd ht (fun hc => kt (decide_eq_true hc)) (fun hc => kf (decide_eq_false hc))
    | le => exact lv_if_le hx hb hd ht (fun hc => kt (decide_eq_true hc)) (fun hc => kf (decide_eq_false hc))
  | if_icmp cnd off =>
    obtain rfl : len = 3 := hlen
    obtain ⟨x, y, r, rfl, rfl⟩ := mm_bi2_inv hs
    have ht : (pc : Int) + off = (pp : Int) := of_decide_eq_true hk
    have kt : ∀ hc : mm_cI cnd x y = true, W p l e R s m args below meth c H locs (mm_n h - n0) (mm_sl h - s0) Q (F0 m pp sl (r.map (mm_rv B t))) := fun hc => by
      have := kk H locs sl hR hL
      simp only [hc, cond_true] at this
      exact this
    have kf : ∀ hc : mm_cI cnd x y = false, W p l e R s m args below meth c H locs (mm_n h - n0) (mm_sl h - s0) Q (F0 m (pc + 3) sl (r.map (mm_rv B t))) := fun hc => by
      have := kk H locs sl hR hL
      simp only [hc, cond_false] at this
      exact this
    cases cnd with
    | eq => exact lv_icmp_eq hx hb hd ht (fun hc => kt (decide_eq_true hc)) (fun hc => kf (decide_eq_false hc))
    | ne => exact lv_icmp_ne hx hb hd ht (fun hc => kt (decide_eq_true hc)) (fun hc => kf (decide_eq_false (fun z => z hc)))
    | lt => exact lv_icmp_lt hx hb hd ht (fun hc => kt (decide_eq_true hc)) (fun hc => kf (decide_eq_false hc))
    | ge => exact lv_icmp_ge hx hb hd ht (fun hc => kt (decide_eq_true hc)) (fun hc => kf (decide_eq_false hc))
    | gt => exact lv_icmp_gt hx hb hd ht (fun hc => kt (decide_eq_true hc)) (fun hc => kf (decide_eq_false hc))
    | le => exact lv_icmp_le hx hb hd ht (fun hc => kt (decide_eq_true hc)) (fun hc => kf (decide_eq_false hc))
  | ifnull off =>
    obtain rfl : len = 3 := hlen
    have ht : (pc : Int) + off = (pp : Int) := of_decide_eq_true hk
    simp only [mm_ins, mm_bn] at hs
    split at hs
    · obtain rfl := Option.some.inj hs
      exact lv_ifnullN hx hb hd ht (kk H locs sl hR hL)
    · obtain rfl := Option.some.inj hs
      exact lv_ifnull hx hb hd (kk H locs sl hR hL)
    · cases hs
  | ifnonnull off =>
    obtain rfl : len = 3 := hlen
    have ht : (pc : Int) + off = (pp : Int) := of_decide_eq_true hk
    simp only [mm_ins, mm_bn] at hs
    split at hs
    · obtain rfl := Option.some.inj hs
      exact lv_ifnonnullN hx hb hd (kk H locs sl hR hL)
    · obtain rfl := Option.some.inj hs
      exact lv_ifnonnull hx hb hd ht (kk H locs sl hR hL)
    · cases hs
  | tableswitch dd lo hi offs =>
    simp only [mm_ins] at hs
    split at hs
    · split at hs
      · rename_i tg hsw
        obtain rfl := Option.some.inj hs
        unfold mm_sw at hsw
        split at hsw
        · rename_i hout
          split at hsw
          · cases hsw
          · rename_i h0
            obtain rfl := Option.some.inj hsw
            exact lv_tableOut hx hb hd hout (by omega) (kk H locs sl hR hL)
        · rename_i hout
          split at hsw
          · rename_i o ho
            split at hsw
            · cases hsw
            · rename_i h0
              obtain rfl := Option.some.inj hsw
              exact lv_tableIn hx hb hd (fun z => hout (Or.inl z)) (fun z => hout (Or.inr z)) ho (by omega) (kk H locs sl hR hL)
          · cases hsw
      · cases hs
    · cases hs
  | getfield ix =>
    obtain rfl : len = 3 := hlen
    obtain ⟨a, r, rfl, ha, hKa, rfl⟩ := mm_gf_inv hs
    obtain ⟨g1, g2, g3⟩ := mm_fl_ok hk
    obtain ⟨c1, c2, c3, c4⟩ := mm_cl g3
    obtain ⟨hP, hD, hS, hn⟩ := id hR
    have hget := mm_wl_get (B := B) (t := t) (cI := cI) (cZ := cZ) ha
    rw [mm_cel_obj hKa g3] at hget
    rw [List.map_cons, mm_rv_ref ha hn]
    exact va_get hx hb hts c2 hown hK hP a hget c1 q g2 (hts _ g1) (fun _ z => z) (mm_fs_get g2) hd (kk H locs sl hR hL)
  | putfield ix =>
    obtain rfl : len = 3 := hlen
    obtain ⟨v, a, r, h', rfl, ha, hKa, hfi, hpf, rfl⟩ := mm_pf_inv hs
    obtain ⟨g1, g2, g3⟩ := mm_fl_ok hk
    obtain ⟨c1, c2, c3, c4⟩ := mm_cl g3
    obtain ⟨hP, hD, hS, hn⟩ := id hR
    have hget := mm_wl_get (B := B) (t := t) (cI := cI) (cZ := cZ) ha
    rw [mm_cel_obj hKa g3] at hget
    rw [List.map_cons, List.map_cons, mm_rv_ref ha hn]
    have hfl : q < ((List.range (mm_N pp)).map (fun s => mm_rv B t (mm_fv h pp a s))).length := by simp [g2]
    have hty := c3 q g2
    -- what the store comes to
    have key : mm_n h' = mm_n h ∧ mm_sl h' = mm_sl h ∧ mm_K h' a = mm_K h a ∧ mm_rv B t (mm_fv h' pp a q) = mm_rv B t v ∧ (∀ j, j ≠ q → mm_fv h' pp a j = mm_fv h pp a j) ∧ (∀ b, b ≠ a → mm_cel B t cI cZ h' b = mm_cel B t cI cZ h b) ∧ narrow (mm_ty pp q) (mm_rv B t v) = mm_rv B t v ∧ fits (mm_ty pp q) (mm_rv B t v) = true := by
      rcases hpf with ⟨x, rfl, rfl, hf⟩ | ⟨b, rfl, rfl, hf, hbn⟩
      · have hf2 : mm_ft pp q ≠ 2 := by rcases hf with z | z <;> omega
        refine ⟨rfl, rfl, rfl, by rw [mm_fv_up hf2], fun j hj => mm_fv_upo hj, fun b hb => mm_cel_up hb, ?_⟩
        rcases hf with z | ⟨z, hx01⟩
        · rw [mm_ft0 z]
          exact ⟨rfl, rfl⟩
        · rw [mm_ft1 z]
          rcases hx01 with rfl | rfl <;> exact ⟨rfl, rfl⟩
      · refine ⟨rfl, rfl, rfl, ?_, fun j hj => ?_, fun b hb => mm_cel_sR hb, ?_⟩
        · unfold mm_fv
          rw [(mm_beq_iff _ _).mpr hf, mm_sR_s]
          rfl
        · unfold mm_fv
          rw [mm_sR_R (fun z => hj z.2)]
          rfl
        · rcases mm_ft2 hf with ⟨o, z⟩ | ⟨o, z⟩ <;> rw [z] <;> exact ⟨rfl, rfl⟩
    obtain ⟨k1, k1s, k2, k3, k4, k5, k6, k7⟩ := key
    have hset : (mm_wl B t cI cZ h).set a (B + a, .inr (pp, ((List.range (mm_N pp)).map (fun s => mm_rv B t (mm_fv h pp a s))).set q (mm_rv B t v))) = mm_wl B t cI cZ h' := by
      refine mm_wl_set k1 ?_ k5
      rw [mm_cel_obj (k2.trans hKa) g3, mm_fs_set k3 k4]
    have kk2 : ∀ (H1 : Heap) (locs1 : List Loc), va_P D vwCl ((mm_wl B t cI cZ h).set a (B + a, .inr (pp, ((List.range (mm_N pp)).map (fun s => mm_rv B t (mm_fv h pp a s))).set q (mm_rv B t v)))) H1 → va_D (mo_A B) ((mm_wl B t cI cZ h).set a (B + a, .inr (pp, ((List.range (mm_N pp)).map (fun s => mm_rv B t (mm_fv h pp a s))).set q (mm_rv B t v)))) → va_S (mo_A B) s.heap H1 locs1 → W p l e R s m args below meth c H1 locs1 (mm_n h - n0) (mm_sl h - s0) Q (F0 m (pc + 3) sl (r.map (mm_rv B t))) := by
      intro H1 locs1 a1 a2 a3
      rw [hset] at a1 a2
      have := kk H1 locs1 sl ⟨a1, a2, a3, by show mm_n h' ≤ 4000; omega⟩ hL
      simp only [k1, k1s] at this
      exact this
    by_cases hf : mm_fin pp q = false
    · exact va_put hx hb hts c2 (mm_ty pp) c3 c4 hown hK hP hD hS a hget c1 q g2 (hts _ g1) (fun _ z => z) hf hty k6 k7 hfl hd kk2
    · rcases hfi with z | ⟨z1, z2⟩
      · exact absurd z hf
      · refine va_putF hx hb hts c2 (mm_ty pp) c3 c4 hown hK hP hD hS a hget c1 q g2 (hts _ g1) (fun _ z => z) (by cases hff : mm_fin pp q with | true => exact hff | false => exact absurd hff hf) (hinit z1) ?_ hty k6 k7 hfl hd kk2
        rw [z2]
        exact mm_own pp g3 q g2
  | getstatic ix =>
    obtain rfl : len = 3 := hlen
    obtain rfl := Option.some.inj hs
    obtain ⟨ho, hi⟩ : mm_c k = 9 ∧ ix = 151 := of_decide_eq_true hk
    subst hi
    rw [ho] at hown
    have := kk H locs sl hR hL
    exact va_gets hx hb hZ hR.2.2.1 hown (hts _ mm_fx) (fun _ z => z) hd this
  | iaload =>
    obtain rfl : len = 1 := hlen
    obtain ⟨i, a, r, rfl, hcase⟩ := mm_al_inv hs
    rcases hcase with ⟨-, rfl, hin, rfl⟩ | ⟨ha, hKa, hin, rfl⟩
    · exact va_ti hx hb hT hR.2.2.1 hin rfl hd (kk H locs sl hR hL)
    · obtain ⟨hP, hD, hS, hn⟩ := id hR
      have hget := mm_wl_get (B := B) (t := t) (cI := cI) (cZ := cZ) ha
      rw [mm_cel_arr hKa] at hget
      rw [List.map_cons, List.map_cons, mm_rv_ref ha hn]
      exact va_iald hx hb hK hP a 0 hget rfl hin hd (kk H locs sl hR hL)
  | baload =>
    obtain rfl : len = 1 := hlen
    obtain ⟨i, a, r, rfl, hcase⟩ := mm_al_inv hs
    rcases hcase with ⟨z, -⟩ | ⟨ha, hKa, hin, rfl⟩
    · cases z
    · obtain ⟨hP, hD, hS, hn⟩ := id hR
      have hget := mm_wl_get (B := B) (t := t) (cI := cI) (cZ := cZ) ha
      rw [mm_cel_boo hKa] at hget
      rw [List.map_cons, List.map_cons, mm_rv_ref ha hn]
      exact va_zald hx hb hK hP a 1 hget rfl hin hd (kk H locs sl hR hL)
  | iastore =>
    obtain rfl : len = 1 := hlen
    obtain ⟨x, i, a, r, rfl, ha, hKa, hin, -, rfl⟩ := mm_as_inv hs
    obtain ⟨hP, hD, hS, hn⟩ := id hR
    have hget := mm_wl_get (B := B) (t := t) (cI := cI) (cZ := cZ) ha
    rw [mm_cel_arr hKa] at hget
    rw [List.map_cons, List.map_cons, List.map_cons, mm_rv_ref ha hn]
    refine va_iast hx hb hK hP hD hS a 0 hget rfl hin hd (fun H1 locs1 a1 a2 a3 => ?_)
    have hset : (mm_wl B t cI cZ h).set a (B + a, .inl (cI, mm_L h a, .inl (upd (mm_G h a) i.toNatClampNeg x))) = mm_wl B t cI cZ (h.1, mm_up h.2 a i.toNatClampNeg x) := by
      refine mm_wl_set rfl ?_ (fun b hb => mm_cel_up hb)
      rw [mm_cel_arr (h := (h.1, mm_up h.2 a i.toNatClampNeg x)) hKa]
      rw [show mm_G (h.1, mm_up h.2 a i.toNatClampNeg x) a = upd (mm_G h a) i.toNatClampNeg x from mm_up_at _ _ _ _]
      rfl
    rw [hset] at a1 a2
    exact kk H1 locs1 sl ⟨a1, a2, a3, hn⟩ hL
  | bastore =>
    obtain rfl : len = 1 := hlen
    obtain ⟨x, i, a, r, rfl, ha, hKa, hin, hx01, rfl⟩ := mm_as_inv hs
    obtain ⟨hP, hD, hS, hn⟩ := id hR
    have hget := mm_wl_get (B := B) (t := t) (cI := cI) (cZ := cZ) ha
    rw [mm_cel_boo hKa] at hget
    rw [List.map_cons, List.map_cons, List.map_cons, mm_rv_ref ha hn]
    refine va_zast hx hb hK hP hD hS a 1 hget rfl hin hd (fun H1 locs1 a1 a2 a3 => ?_)
    have hnr : vp_nar .boolean x = x := by
      rcases hx01 with z | z | z
      · cases z
      · subst z; rfl
      · subst z; rfl
    have hset : (mm_wl B t cI cZ h).set a (B + a, .inl (cZ, mm_L h a, .inl (upd (mm_G h a) i.toNatClampNeg (vp_nar .boolean x)))) = mm_wl B t cI cZ (h.1, mm_up h.2 a i.toNatClampNeg x) := by
      refine mm_wl_set rfl ?_ (fun b hb => mm_cel_up hb)
      rw [mm_cel_boo (h := (h.1, mm_up h.2 a i.toNatClampNeg x)) hKa, hnr]
      rw [show mm_G (h.1, mm_up h.2 a i.toNatClampNeg x) a = upd (mm_G h a) i.toNatClampNeg x from mm_up_at _ _ _ _]
      rfl
    rw [hset] at a1 a2
    exact kk H1 locs1 sl ⟨a1, a2, a3, hn⟩ hL
  | arraylength =>
    obtain rfl : len = 1 := hlen
    obtain ⟨a, r, rfl, ha, hKa, rfl⟩ := mm_len_inv hs
    obtain ⟨hP, hD, hS, hn⟩ := id hR
    have hget := mm_wl_get (B := B) (t := t) (cI := cI) (cZ := cZ) ha
    rw [mm_cel_arr hKa] at hget
    rw [List.map_cons, mm_rv_ref ha hn]
    exact va_alen hx hb hK hP a 0 hget rfl rfl hd (kk H locs sl hR hL)
  | new ix =>
    obtain ⟨hngT, hn4, rfl⟩ := mm_nw1_inv hs
    rw [hngf] at hngT
    cases hngT
  | newarray at_ =>
    obtain ⟨x, r, rfl, hngT, hn4, hin, rfl⟩ := mm_nwa_inv hs
    rw [hngf] at hngT
    cases hngT
  | invokespecial ix =>
    obtain rfl : len = 3 := hlen
    have hp : pp = 1004 := by
      simp only [mm_knd] at hk0
      cases hb0 : Nat.blt pp 1000 with
      | true => rw [hb0] at hk0; cases hk0
      | false =>
        rw [hb0] at hk0
        cases hb1 : Nat.beq pp 1004 with
        | true => exact (mm_beq_iff _ _).mp hb1
        | false => rw [hb1] at hk0; cases hk0
    subst hp
    simp only [mm_ins] at hs
    split at hs
    · rename_i a r
      obtain ⟨h1, h2⟩ := mm_cond_inv hs
      obtain rfl := Option.some.inj h2
      rw [Bool.and_eq_true] at h1
      have h3 := Nat.le_of_ble_eq_true h1.1
      have h4 := Nat.le_of_ble_eq_true h1.2
      refine W.objInit hx hb hown (hts _ (mm_ol_ok hk)) (hts _ mm_oi1) (hts _ mm_oi2) (g := F0 m pc sl (Value.ref (mm_ad B t a) :: r.map (mm_rv B t))) rfl ?_ rfl hd (by omega) ?_ (kk H locs sl hR hL)
      · rw [hml, ← hll]; exact hL.1
      · show 2 * 0 + _ + 12 ≤ _
        rw [mm_cat_sum]
        omega
    · cases hs
  | invokestatic ix =>
    obtain rfl : len = 3 := hlen
    simp only [mm_ins] at hs
    split at hs
    · rename_i x r
      obtain ⟨h1, h2⟩ := mm_cond_inv hs
      obtain rfl := Option.some.inj h2
      rw [Bool.and_eq_true, Bool.and_eq_true, mm_beq_iff] at h1
      have h3 := Nat.le_of_ble_eq_true h1.1.2
      have h4 := Nat.le_of_ble_eq_true h1.2
      simp only [mm_ckP, if_pos h1.1.1, decide_eq_true_eq] at hk
      rw [hk.1] at hown
      obtain rfl := hk.2
      exact vn_f2i hx hb (by rw [hml, ← hll]; exact hL.1.symm) hown (hts _ mm_nvf1) (hts _ mm_nvf2) (hts _ mm_nvf3) (hts _ mm_nvf4) (by omega) (by rw [mm_cat_sum]; omega) hd (kk H locs sl hR hL)
    · rename_i x r
      obtain ⟨h1, h2⟩ := mm_cond_inv hs
      obtain rfl := Option.some.inj h2
      rw [Bool.and_eq_true, Bool.and_eq_true, mm_beq_iff] at h1
      have h3 := Nat.le_of_ble_eq_true h1.1.2
      have h4 := Nat.le_of_ble_eq_true h1.2
      obtain rfl := h1.1.1
      have hk2 : mm_c k = 12 ∧ ix = 134 := of_decide_eq_true hk
      rw [hk2.1] at hown
      obtain rfl := hk2.2
      exact vn_d2l hx hb (by rw [hml, ← hll]; exact hL.1.symm) hown (hts _ mm_nvd1) (hts _ mm_nvd2) (hts _ mm_nvd3) (hts _ mm_nvd4) (by omega) (by rw [mm_cat_sum]; omega) hd (kk H locs sl hR hL)
    · cases hs
  | _ => exact absurd hs (by simp [mm_ins])
end MOS
def mo_Wd (D : va_G) (B t : Nat) (cI cZ : ClassId) (ng : Bool) (h : mm_H) (U : State) : Prop :=
  va_P D vwCl (mm_wl B t cI cZ h) U.heap ∧ va_D (mo_A B) (mm_wl B t cI cZ h) ∧ va_K D vwCl (mm_tys cI cZ) U ∧ mm_Nst U ∧ va_Z "WholeSoundModel" "FIXED" "[I" (.ref t) (mo_A B) U U.heap ∧ va_T .int t 20 (fun j => .int (mm_fix j)) (mo_A B) U U.heap ∧ (ng = true → U.heap.size = B + mm_n h) ∧ B ≤ U.heap.size ∧ mm_n h ≤ 4000
def mo_Pc (D : va_G) (B t : Nat) (cI cZ : ClassId) (ng : Bool) (as : List Value) (h : mm_H) : Array Value → State → Prop := va_Pc (as.map (mm_rv B t)) (fun U => mo_Wd D B t cI cZ ng h U)
def mo_Qc (D : va_G) (B t : Nat) (cI cZ : ClassId) (v : Option Value) (h' : mm_H) : Array Value → State → Outcome → State → Prop := fun _ st o t' => o = .returned (v.map (mm_rv B t)) ∧ va_P D vwCl (mm_wl B t cI cZ h') t'.heap ∧ va_D (mo_A B) (mm_wl B t cI cZ h') ∧ va_F (mo_A B) st t' ∧ mm_n h' ≤ 4000
def mo_Mt (l : Launch) (D : va_G) (B t : Nat) (cI cZ : ClassId) (ng : Bool) (k : Nat) (as : List Value) (h : mm_H) (v : Option Value) (h' : mm_H) : Prop :=
  Met l (mm_y k) (mm_ws k) (mm_rm k (mm_n h' - mm_n h) (mm_sl h' - mm_sl h)) (mo_Pc D B t cI cZ ng as h) (mo_Qc D B t cI cZ v h') (mm_n h' - mm_n h) (mm_sl h' - mm_sl h) (mo_A B)
theorem mo_Pc_blind {D : va_G} {B t : Nat} {cI cZ : ClassId} {ng : Bool} {as : List Value} {h : mm_H} : FrameBlind (mo_Pc D B t cI cZ ng as h) := by
  intro a U g mk q
  obtain ⟨q0, q1, q2, q3, q4, q5, q6, q7, q8, q9⟩ := q
  exact ⟨q0, q1, q2, va_K.moved (u := U) (U := U.calling g mk a) (Vm.Alike.refl U.vm) q3, mm_Nst.same (s := U) (U := U.calling g mk a) rfl q4, va_Z.moved (u := U) (U := U.calling g mk a) (Vm.Alike.refl U.vm) q5, va_T.moved (u := U) (U := U.calling g mk a) (Vm.Alike.refl U.vm) q6, q7, q8, q9⟩
section MOT
variable {p : Program} {l : Launch} {e : Env} {R : Room} {s : State} {m : MethodId} {args : Array Value} {below : List Frame} {meth : Method} {c : Code} {H : Heap} {locs : List Loc} {cells slots : Nat} {Q : State → Prop} {D : va_G} {B t : Nat} {cI cZ : ClassId} {k pc : Nat} {ls : mm_Ls} {st : List Value} {h : mm_H} {sl : Array Slot}
theorem mo_Wd_of {ng : Bool} (C : mo_Cx p R s m args meth c D B t cI cZ k) (hR : mo_Rl D B t cI cZ s h H locs) (hsz : ng = true → H.size = B + mm_n h) {U : State} (hU : U.heap = H) (hW : s.WarmedH U.vm) : mo_Wd D B t cI cZ ng h U := by
  obtain ⟨hx, hb, hml, hown, hts, hlocks, hret, hinit, hK, hN, hZ, hT, hB, hfr, hlo⟩ := C
  obtain ⟨hP, hD, hS, hn⟩ := hR
  unfold mo_Wd
  rw [hU]
  exact ⟨hP, hD, va_K.moved hW.alike hK, hN.warm hW, (hZ.moved hW.alike).kept (fun a h1 h2 => hS.2.1 a h1 h2), (hT.moved hW.alike).kept (fun a h1 h2 => hS.2.1 a h1 h2), hsz, Nat.le_trans hB hS.1, hn⟩
theorem mo_back {mc ms : Nat} {st0 rest : List Value} {a : Array Value} {v : Option Value} {h' : mm_H} (hr : va_Run p l e R s m args below meth c H locs cells slots mc ms (F0 m pc sl st0) rest (mo_Qc D B t cI cZ v h' a) (mo_A B)) (hS : va_S (mo_A B) s.heap H locs)
    (kk : ∀ (H1 : Heap) (locs1 : List Loc), mo_Rl D B t cI cZ s h' H1 locs1 → W p l e R s m args below meth c H1 locs1 (cells + mc) (slots + ms) Q (F0 m (pc + 3) sl ((v.map (mm_rv B t)).toList ++ rest))) : W p l e R s m args below meth c H locs cells slots Q (F0 m pc sl st0) := by
  intro T hT X
  obtain ⟨v', st₀, t', T', L, h0, X', hL, e1, e2, ⟨hv, hP, hD, hF, hn⟩, st⟩ := hr T hT X
  cases hv
  obtain ⟨hz, hk⟩ := hF
  rw [h0] at hz hk
  obtain ⟨t2, a1, b1⟩ := kk T'.heap (locs ++ L) ⟨by rw [e1]; exact hP, hD, ⟨Nat.le_trans hS.1 (by rw [e1]; exact hz), fun q h1 h2 => by rw [e1, hk q (Nat.lt_of_lt_of_le h1 hS.1) h2]; exact hS.2.1 q h1 h2, fun q hq => by
      rcases List.mem_append.mp hq with z | z
      · exact hS.2.2 q z
      · exact hL q z⟩, hn⟩ T' rfl X'
  exact ⟨t2, st t2 a1, b1⟩
end MOT

section MOU
variable {p : Program} {l : Launch} {e : Env} {R : Room} {s : State} {m : MethodId} {args : Array Value} {below : List Frame} {meth : Method} {c : Code} {H : Heap} {locs : List Loc} {cells slots : Nat} {Q : State → Prop} {D : va_G} {B t : Nat} {cI cZ : ClassId} {k pc : Nat} {ls : mm_Ls} {st : List Value} {h : mm_H} {sl : Array Slot}
/-- the end of a method -/
theorem mo_end {v : Option Value} {n0 s0 : Nat} (C : mo_Cx p R s m args meth c D B t cI cZ k) (hv : mm_ret k pc st = some v) (hR : mo_Rl D B t cI cZ s h H locs) : W p l e R s m args below meth c H locs n0 s0 (MQ below (mo_Qc D B t cI cZ v h) args s n0 s0 (mo_A B)) (F0 m pc sl (st.map (mm_rv B t))) := by
  obtain ⟨hx, hb, hml, hown, hts, hlocks, hret, hinit, hK, hN, hZ, hT, hB, hfr, hlo⟩ := C
  obtain ⟨hP, hD, hS, hn⟩ := hR
  have post : ∀ t' : State, t'.heap = H → s.WarmedH t'.vm → mo_Qc D B t cI cZ v h args s (.returned (v.map (mm_rv B t))) t' := fun t' ht _ => ⟨rfl, by rw [ht]; exact hP, hD, hS.F ht, hn⟩
  unfold mm_ret at hv
  split at hv
  · cases hv
  · rename_i ins len p0 q0 hcod
    obtain ⟨hd, -, hlen⟩ := mm_cod_ok hcod
    split at hv
    · obtain rfl : len = 1 := hlen
      obtain ⟨h1, h2⟩ := mm_cond_inv hv
      obtain rfl := Option.some.inj h2
      exact W.vret hx hb (hret.trans (mm_rk0 ((mm_beq_iff _ _).mp h1))) post hS.2.2 hd
    · obtain rfl : len = 1 := hlen
      cases h1 : Nat.beq (mm_rk (mm_rt k)) 1 with
      | true =>
        rw [h1] at hv
        obtain rfl := Option.some.inj hv
        exact W.iret hx hb (hret.trans (mm_rk1 ((mm_beq_iff _ _).mp h1))) post hS.2.2 hd
      | false =>
        rw [h1] at hv
        obtain ⟨h1, h2⟩ := mm_cond_inv hv
        obtain rfl := Option.some.inj h2
        rw [Bool.and_eq_true, mm_beq_iff, Bool.or_eq_true, beq_iff_eq, beq_iff_eq] at h1
        refine W.zret hx hb (hret.trans (mm_rk2 h1.1)) ?_ post hS.2.2 hd
        rcases h1.2 with z | z <;> rw [z] <;> rfl
    · obtain rfl : len = 1 := hlen
      obtain ⟨h1, h2⟩ := mm_cond_inv hv
      obtain rfl := Option.some.inj h2
      exact W.fret hx hb (hret.trans (mm_rk3 ((mm_beq_iff _ _).mp h1))) post hS.2.2 hd
    · obtain rfl : len = 1 := hlen
      obtain ⟨h1, h2⟩ := mm_cond_inv hv
      obtain rfl := Option.some.inj h2
      exact W.lret hx hb (hret.trans (mm_rk4 ((mm_beq_iff _ _).mp h1))) post hS.2.2 hd
    · obtain rfl : len = 1 := hlen
      obtain ⟨h1, h2⟩ := mm_cond_inv hv
      obtain rfl := Option.some.inj h2
      obtain ⟨rt, hrt, hr2⟩ := mm_rk6 ((mm_beq_iff _ _).mp h1)
      exact W.aret hx hb (hret.trans hrt) hr2 (Or.inr ⟨_, rfl⟩) post hS.2.2 hd
    · obtain rfl : len = 1 := hlen
      obtain ⟨h1, h2⟩ := mm_cond_inv hv
      obtain rfl := Option.some.inj h2
      obtain ⟨rt, hrt, hr2⟩ := mm_rk6 ((mm_beq_iff _ _).mp h1)
      exact W.aret hx hb (hret.trans hrt) hr2 (Or.inl rfl) post hS.2.2 hd
    · cases hv
end MOU
/-- a run within a method -/
def mo_SW (l : Launch) (D : va_G) (B t : Nat) (cI cZ : ClassId) (ng : Bool) (f : Nat) : Prop :=
  ∀ {p : Program} {e : Env} {R : Room} {s : State} {m : MethodId} {args : Array Value} {below : List Frame} {meth : Method} {c : Code} {H : Heap} {locs : List Loc} {Q : State → Prop} {k pc : Nat} {ls : mm_Ls} {st : List Value} {h : mm_H} {sl : Array Slot} {n0 s0 : Nat} {s' : mm_S},
    mm_run ng f k pc ls st h = some s' → mo_Cx p R s m args meth c D B t cI cZ k → (ng = true → s.heap.size = B + n0) → n0 ≤ mm_n h → s0 ≤ mm_sl h → mm_n s'.2.2.2 - n0 ≤ R.cells → mm_sl s'.2.2.2 - s0 ≤ R.slots → mo_Rl D B t cI cZ s h H locs → mm_LR B t sl ls → ls.length = mm_mL k →
    (∀ H1 locs1 sl1, mo_Rl D B t cI cZ s s'.2.2.2 H1 locs1 → mm_LR B t sl1 s'.2.1 → W p l e R s m args below meth c H1 locs1 (mm_n s'.2.2.2 - n0) (mm_sl s'.2.2.2 - s0) Q (F0 m s'.1 sl1 (s'.2.2.1.map (mm_rv B t)))) →
    W p l e R s m args below meth c H locs (mm_n h - n0) (mm_sl h - s0) Q (F0 m pc sl (st.map (mm_rv B t)))
set_option maxHeartbeats 4000000 in
theorem mo_met_of {l : Launch} {D : va_G} {B t : Nat} {cI cZ : ClassId} {ng : Bool} {f k : Nat} {as : List Value} {h : mm_H} {s' : mm_S} {v : Option Value} (hSW : mo_SW l D B t cI cZ ng f) (hk : k < 227) (hrun : mm_run ng f k 0 (mm_ent (mm_mL k) as) [] h = some s') (hret : mm_ret k s'.1 s'.2.2.1 = some v) (hfit : (mm_ent0 as).length ≤ mm_mL k) : mo_Mt l D B t cI cZ ng k as h v s'.2.2.2 := by
  obtain ⟨f1, f2, f3, f4, f5, f6, f7, f8, f9, f10, f11⟩ := mm_mk hk
  refine mm_ofW (cc := mm_by k) (maxL := mm_mL k) (ret := mm_rt k) f5 rfl ?_
  intro p e s m args below meth c s₁ Bd hml hv
  obtain ⟨rfl, w1, w2, w3, w4, w5, w6, w7, w8, w9⟩ := hv
  have hown : s.vm.findClass (mm_cn (mm_c k)) = some m.cls := by
    rw [← f1]
    exact findClass_of_methodNamed Bd.named
  have hts0 := atoms_spec (ws := mm_ws k) Bd.pre
  have C : mo_Cx p (mm_rm k (mm_n s'.2.2.2 - mm_n h) (mm_sl s'.2.2.2 - mm_sl h)) s m (as.map (mm_rv B t)).toArray meth c D B t cI cZ k := ⟨Bd.exec, Bd.bytes, hml, hown, fun w hw => hts0 w (List.mem_cons_of_mem _ hw), Bd.notSynchronized, Bd.returns, fun h2 => (name_of_methodNamed Bd.named Bd.method).1.trans (f11 (by omega) (by omega)).1, w3, w4, w5, w6, w8, Nat.le_refl _, Nat.le_refl _⟩
  rw [lg_entry_eq]
  have key := hSW (p := p) (e := e) (R := mm_rm k (mm_n s'.2.2.2 - mm_n h) (mm_sl s'.2.2.2 - mm_sl h)) (s := s) (m := m) (args := (as.map (mm_rv B t)).toArray) (below := below) (meth := meth) (c := c) (H := s.heap) (locs := []) (Q := MQ below (mo_Qc D B t cI cZ v s'.2.2.2) (as.map (mm_rv B t)).toArray s (mm_n s'.2.2.2 - mm_n h) (mm_sl s'.2.2.2 - mm_sl h) (mo_A B)) (n0 := mm_n h) (s0 := mm_sl h) hrun C w7 (Nat.le_refl _) (Nat.le_refl _) (Nat.le_refl _) (Nat.le_refl _) ⟨w1, w2, va_S.rf, w9⟩ (mm_LR_ent hfit) (by simp [mm_ent]; omega) (fun H1 locs1 sl1 hR1 hL1 => mo_end C hret hR1)
  rw [Nat.sub_self, Nat.sub_self] at key
  exact key
set_option maxHeartbeats 4000000 in
theorem mo_swAll (l : Launch) (D : va_G) (B t : Nat) (cI cZ : ClassId) (ng : Bool) (hngf : ng = false) : ∀ f, mo_SW l D B t cI cZ ng f := by
  intro f
  induction f with
  | zero =>
    intro p e R s m args below meth c H locs Q k pc ls st h sl n0 s0 s' hrun
    cases hrun
  | succ f ih =>
    intro p e R s m args below meth c H locs Q k pc ls st h sl n0 s0 s' hrun C hng hn0 hs0 hrc hrs hR hL hll kk
    obtain ⟨ins, len, pp, q, hcod, hcase⟩ := mm_run_inv hrun
    obtain ⟨hd, hck, hlen⟩ := mm_cod_ok hcod
    rcases hcase with ⟨hk0, pc', ls', st', h', hi, hr⟩ | ⟨hk1, as, rest, pc', ls', st', h1, v, hcall, hr1, hv, hr⟩ | ⟨-, rfl⟩
    · have hm1 := mm_ins_mono hi
      have hm2 := mm_run_mono hr
      refine mo_step hngf C hd hck hlen hi hk0 hng hn0 hs0 (Nat.le_trans (Nat.sub_le_sub_right hm2.1 n0) hrc) (Nat.le_trans (Nat.sub_le_sub_right hm2.2 s0) hrs) hR hL hll (fun H1 locs1 sl1 hR1 hL1 => ?_)
      exact ih hr C hng (Nat.le_trans hn0 hm1.1) (Nat.le_trans hs0 hm1.2.1) hrc hrs hR1 hL1 (hm1.2.2.trans hll) kk
    · obtain ⟨hst, hlen2, hsum, hdp, hna, hfit, hrecv⟩ := mm_call_inv hcall
      have hm1 := mm_run_mono hr1
      have hm2 := mm_run_mono hr
      simp only at hm1
      obtain ⟨hx, hb, hml, hown, hts, hlocks, hret, hinit, hK, hN, hZ, hT, hB, hfr, hlo⟩ := id C
      -- which method, and how it is linked
      have hlink : ∃ ix : Nat, pp < 227 ∧ len = 3 ∧ ((ins = .invokevirtual ix ∧ mm_md pp = 1) ∨ (ins = .invokestatic ix ∧ mm_md pp = 0) ∨ (ins = .invokespecial ix ∧ mm_md pp = 2)) ∧ (Cond.methodLink (mm_cn (mm_c k)) ix (mm_y pp) ∈ mm_GW ∨ mm_nw (mm_c k) ix (mm_y pp) ∈ lw_tbl) := by
        cases ins with
        | invokevirtual ix =>
          simp only [mm_ckP, Bool.and_eq_true] at hck
          obtain ⟨a1, a2, a3⟩ := mm_ml_ok hck.1
          exact ⟨ix, a1, hlen, Or.inl ⟨rfl, a2⟩, a3⟩
        | invokestatic ix =>
          have hp : pp < 1000 := by
            simp only [mm_knd] at hk1
            cases hb0 : Nat.blt pp 1000 with
            | true => exact (mm_blt_iff _ _).mp hb0
            | false => rw [hb0] at hk1; cases hk1
          simp only [mm_ckP, if_neg (show ¬ pp = 1002 by omega), if_neg (show ¬ pp = 1003 by omega), Bool.and_eq_true] at hck
          obtain ⟨a1, a2, a3⟩ := mm_ml_ok hck.1
          exact ⟨ix, a1, hlen, Or.inr (Or.inl ⟨rfl, a2⟩), a3⟩
        | invokespecial ix =>
          have hp : pp < 1000 := by
            simp only [mm_knd] at hk1
            cases hb0 : Nat.blt pp 1000 with
            | true => exact (mm_blt_iff _ _).mp hb0
            | false =>
              rw [hb0] at hk1
              cases hb1 : Nat.beq pp 1004 <;> rw [hb1] at hk1 <;> cases hk1
          simp only [mm_ckP, if_neg (show ¬ pp = 1004 by omega), if_neg (show ¬ pp = 1999 by omega), Bool.and_eq_true] at hck
          obtain ⟨a1, a2, a3⟩ := mm_ml_ok hck.1
          exact ⟨ix, a1, hlen, Or.inr (Or.inr ⟨rfl, a2⟩), a3⟩
        | new ix =>
          simp only [mm_knd] at hk1
          cases hb0 : Nat.blt pp 100 <;> rw [hb0] at hk1 <;> cases hk1
        | _ => cases hk1
      obtain ⟨ix, hpk, rfl, hkind, hword⟩ := hlink
      obtain ⟨f1, f2, f3, f4, f5, f6, f7, f8, f9, f10, f11⟩ := mm_mk hpk
      have hM := mo_met_of (l := l) ih hpk hr1 hv hfit
      unfold mo_Mt at hM
      have hgood : ∀ w ∈ mm_ws pp, w ∈ mm_GW := fun w hw => by
        rcases List.mem_cons.mp hw with rfl | z
        · exact f7
        · exact z
      have hroom : (mm_rm pp (mm_n h1 - mm_n h) (mm_sl h1 - mm_sl h)).frames + 1 ≤ R.frames ∧ 8 + (mm_mL pp + 11) + (mm_rm pp (mm_n h1 - mm_n h) (mm_sl h1 - mm_sl h)).locals ≤ R.locals := ⟨by show mm_dp pp + 1 ≤ _; omega, by show 8 + (mm_mL pp + 11) + 40 * mm_dp pp ≤ _; omega⟩
      have hcell : mm_n h - n0 + (mm_n h1 - mm_n h) ≤ R.cells ∧ mm_sl h - s0 + (mm_sl h1 - mm_sl h) ≤ R.slots := ⟨mm_ar hn0 hm1.1 hm2.1 hrc, mm_ar hs0 hm1.2 hm2.2 hrs⟩
      have hsl : sl.size = mm_mL k := hL.1.trans hll
      have hsum' : 2 * (F0 m pc sl (st.map (mm_rv B t))).monitorRoom + ((rest.map (mm_rv B t)).map fun v => v.category).sum ≤ 8 := lv_room (by rw [mm_cat_sum]; exact hsum)
      have hce : mm_n h - n0 + (mm_n h1 - mm_n h) = mm_n h1 - n0 := by have := hm1.1; omega
      have hse : mm_sl h - s0 + (mm_sl h1 - mm_sl h) = mm_sl h1 - s0 := by have := hm1.2; omega
      refine mm_Wsz (fun hsz => ?_)
      have hlow := mo_low hR hB
      have hsize : ng = true → H.size = B + mm_n h := fun z => by have := hng z; omega
      have hgo : va_Run p l e R s m args below meth c H locs (mm_n h - n0) (mm_sl h - s0) (mm_n h1 - mm_n h) (mm_sl h1 - mm_sl h) (F0 m pc sl (st.map (mm_rv B t))) (rest.map (mm_rv B t)) (mo_Qc D B t cI cZ v h1 (as.map (mm_rv B t)).toArray) (mo_A B) := by
        have hstat : (F0 m pc sl (st.map (mm_rv B t))).stack = (as.map (mm_rv B t)).reverse ++ rest.map (mm_rv B t) := by
          show st.map (mm_rv B t) = _
          rw [hst, List.map_append, List.map_reverse]
        rcases hkind with ⟨rfl, hmd⟩ | ⟨rfl, hmd⟩ | ⟨rfl, hmd⟩
        · obtain ⟨a, as', rfl, ha, hKa⟩ := hrecv.resolve_left (by omega)
          have hc10 : mm_c pp < 10 := by
            have := List.all_eq_true.mp mm_cmd pp (List.mem_range.mpr hpk)
            rw [Bool.or_eq_true, mm_beq_iff, mm_blt_iff] at this
            omega
          have hget := mm_wl_get (B := B) (t := t) (cI := cI) (cZ := cZ) ha
          rw [mm_cel_obj hKa hc10] at hget
          have hrc2 := va_recv hK hR.1 (mm_cl hc10).1 hget
          have er : mm_rv B t (.ref a) = .ref (B + a) := mm_rv_ref ha hR.2.2.2
          rw [List.map_cons, er] at hstat ⊢
          have hpar : (parseMethodDescriptor (mm_y pp).desc).map (fun d => d.parameters.length) = some as'.length := by
            have h1 := (f9 (by omega)).2
            cases hpd : parseMethodDescriptor (mm_y pp).desc with
            | none => rw [hpd] at h1; cases h1
            | some d =>
              rw [hpd] at h1
              have h2 : d.parameters.length + 1 = mm_na pp := Option.some.inj h1
              simp only [List.length_cons] at hlen2
              show some d.parameters.length = _
              congr 1
              omega
          have hstk : (F0 m pc sl (st.map (mm_rv B t))).stack = (as'.map (mm_rv B t)).reverse ++ .ref (B + a) :: rest.map (mm_rv B t) := by
            rw [hstat]
            simp
          have hpre : PreV s H (mm_cn (mm_c pp)) (B + a) (mo_Pc D B t cI cZ ng (.ref a :: as') h) (as'.map (mm_rv B t)) := ⟨mo_Pc_blind, hrc2, fun U hU hW => ⟨by rw [List.map_cons, er], mo_Wd_of C hR hsize hU hW⟩⟩
          have hsel := f10 hmd
          rw [f1] at hsel
          rcases hword with hword | hword
          · refine va_runV ⟨hx, hb, hml, hown, hts⟩ hM (cwV as'.length hts (mm_gw_good _ ?_) rfl rfl rfl ⟨f1, f6.1, f6.2, hpar⟩ hroom) hpre rfl (by simp) hsl hstk hsum' hd hcell
            intro w hw
            simp only [wsV, List.mem_append, List.mem_cons, List.not_mem_nil, or_false] at hw
            rcases hw with (rfl | rfl | rfl | rfl) | z
            · exact hword
            · exact (f9 (by omega)).1
            · exact hsel
            · rw [← f1]; exact f2
            · exact hgood w z
          · exact va_runVN ⟨hx, hb, hml, hown, hts⟩ hM ⟨va_cnB as'.length hts (mm_gw_good _ hgood) rfl rfl rfl (hN _ _ _ hword) (hts _ f2) ⟨f6.1, f6.2, hpar⟩ hroom, hts _ (f9 (by omega)).1, hts _ hsel⟩ hpre rfl (by simp) hsl hstk hsum' hd hcell
        · have hpar := (f8 hmd).2
          rw [hna] at hpar
          have hpre : PreS s H (mo_Pc D B t cI cZ ng as h) (as.map (mm_rv B t)) := ⟨mo_Pc_blind, fun U hU hW => ⟨rfl, mo_Wd_of C hR hsize hU hW⟩⟩
          rcases hword with hword | hword
          · refine va_runS ⟨hx, hb, hml, hown, hts⟩ hM (va_cwS q hts (mm_gw_good _ ?_) rfl rfl rfl ⟨f6.1, f6.2, hpar⟩ hroom) hpre rfl (by simp [hlen2]) hsl hstat hsum' hd hcell
            intro w hw
            simp only [va_wsS, List.mem_append, List.mem_cons, List.not_mem_nil, or_false] at hw
            rcases hw with (rfl | rfl | rfl) | z
            · exact hword
            · exact (f8 hmd).1
            · exact f2
            · exact hgood w z
          · exact va_runSN ⟨hx, hb, hml, hown, hts⟩ hM ⟨va_cnB q hts (mm_gw_good _ hgood) rfl rfl rfl (hN _ _ _ hword) (hts _ f2) ⟨f6.1, f6.2, hpar⟩ hroom, hts _ (f8 hmd).1, trivial⟩ hpre rfl (by simp [hlen2]) hsl hstat hsum' hd hcell
        · obtain ⟨a, as', rfl, ha, hKa⟩ := hrecv.resolve_left (by omega)
          have er : mm_rv B t (.ref a) = .ref (B + a) := mm_rv_ref ha hR.2.2.2
          rw [List.map_cons, er] at hstat ⊢
          have hpar : (parseMethodDescriptor (mm_y pp).desc).map (fun d => d.parameters.length) = some as'.length := by
            have h1 := (f9 (by omega)).2
            cases hpd : parseMethodDescriptor (mm_y pp).desc with
            | none => rw [hpd] at h1; cases h1
            | some d =>
              rw [hpd] at h1
              have h2 : d.parameters.length + 1 = mm_na pp := Option.some.inj h1
              simp only [List.length_cons] at hlen2
              show some d.parameters.length = _
              congr 1
              omega
          have hstk : (F0 m pc sl (st.map (mm_rv B t))).stack = (as'.map (mm_rv B t)).reverse ++ .ref (B + a) :: rest.map (mm_rv B t) := by
            rw [hstat]
            simp
          have hpre : PreS s H (mo_Pc D B t cI cZ ng (.ref a :: as') h) (.ref (B + a) :: as'.map (mm_rv B t)) := ⟨mo_Pc_blind, fun U hU hW => ⟨by rw [List.map_cons, er], mo_Wd_of C hR hsize hU hW⟩⟩
          have hnm := (f11 (by omega) (by omega)).1
          have hrt : mm_rt pp = none := mm_irt pp hpk hmd
          have hM2 := hM
          have hcodeN : mm_ws pp = Cond.code (mm_y pp) (mm_by pp) (mm_mL pp) none :: mm_GW := by
            unfold mm_ws
            rw [hrt]
          rcases hword with hword | hword
          · exact va_runI ⟨hx, hb, hml, hown, hts⟩ hM2 (cwI as'.length hts (mm_gw_good _ hgood) hcodeN rfl rfl (hts _ f2) (hts _ hword) (hts _ (f9 (by omega)).1) hnm ⟨f6.1, f6.2, hpar⟩ hroom) hpre rfl (by simp) hsl hstk hsum' hd hcell
          · exact va_runIN ⟨hx, hb, hml, hown, hts⟩ hM2 ⟨va_cnB as'.length hts (mm_gw_good _ hgood) hcodeN rfl rfl (hN _ _ _ hword) (hts _ f2) ⟨f6.1, f6.2, hpar⟩ hroom, hnm, hts _ (f9 (by omega)).1⟩ hpre rfl (by simp) hsl hstk hsum' hd hcell
      refine mo_back hgo hR.2.2.1 (fun H1 locs1 hR1 => ?_)
      have := ih hr C hng (by have := hm1.1; omega) (by have := hm1.2; omega) hrc hrs hR1 hL hll kk
      rw [List.map_append] at this
      rw [hce, hse]
      have ev : (v.map (mm_rv B t)).toList = v.toList.map (mm_rv B t) := by cases v <;> rfl
      rw [ev]
      exact this
    · exact kk H locs sl hR hL

