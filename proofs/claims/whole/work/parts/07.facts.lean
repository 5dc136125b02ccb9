theorem mm_ofW {l : Launch} {y : MethodName} {ws ws' : List Cond} {rm : Room} {Pc : Array Value → State → Prop} {Qc : Array Value → State → Outcome → State → Prop} {mc ms : Nat} {free : Addr → Prop} {cc : ByteArray} {maxL : Nat} {ret : Option FieldType}
    (hy : plainFor y = true) (hw : ws = Cond.code y cc maxL ret :: ws')
    (body : ∀ p e s m args below meth c s₁, BodyLoose p l y (headSpec ws rm) cc maxL ret e s m args below meth c s₁ → c.maxLocals = maxL → Pc args s →
      W p l e (headSpec ws rm).room s m args below meth c s.heap [] 0 0 (MQ below Qc args s mc ms free) (entryFrame m args maxL)) : Met l y ws rm Pc Qc mc ms free := by
  refine MetFree.of_bodyRF (code := cc) (maxLocals := maxL) (ret := ret) hy ?_ ?_
  · intro args s m h hn
    obtain ⟨meth, c, h1, h2, h3, h4, h5, h6, -, -⟩ := Cond.code_spec hn (atoms_spec (ws := ws) h _ (by rw [hw]; exact List.mem_cons_self))
    exact ⟨meth, c, h1, h2, h3, h4, h5, h6⟩
  · intro p e s m args below meth c s₁ B hml hP _ hst
    have hh0 : s₁.heap = s.heap := by rw [B.state]; rfl
    obtain ⟨t, a1, o, b1, b2, b3⟩ := body p e s m args below meth c s₁ B hml hP s₁ hh0 (Stand.of_body B)
    exact ⟨t, o, hst.trans a1, b1, b2, ⟨b3.1, b3.2⟩⟩
/-- lengths of instructions -/
def mm_ln (ins : Instr) (len : Nat) : Nat := match ins with
  | .bipush _ => 2
  | .ldc _ => 2
  | .iload _ => 2
  | .lload _ => 2
  | .fload _ => 2
  | .dload _ => 2
  | .aload _ => 2
  | .istore _ => 2
  | .lstore _ => 2
  | .fstore _ => 2
  | .dstore _ => 2
  | .astore _ => 2
  | .newarray _ => 2
  | .sipush _ => 3
  | .ldc_w _ => 3
  | .ldc2_w _ => 3
  | .iinc _ _ => 3
  | .goto _ => 3
  | .if_icmp _ _ => 3
  | .ifCond _ _ => 3
  | .ifnull _ => 3
  | .ifnonnull _ => 3
  | .getfield _ => 3
  | .putfield _ => 3
  | .getstatic _ => 3
  | .invokevirtual _ => 3
  | .invokestatic _ => 3
  | .invokespecial _ => 3
  | .new _ => 3
  | .tableswitch _ _ _ _ => len
  | _ => 1
theorem mm_lnk : mm_czs.all (fun z => z.all (fun c => c.all (fun e => Nat.beq e.2.2.1 (mm_ln e.2.1 e.2.2.1)))) = true := by decide +kernel
theorem mm_find_mem {l : List (Nat × mm_E)} {pc : Nat} {e : mm_E} (h : mm_find l pc = some e) : (pc, e) ∈ l := by
  induction l with
  | nil => cases h
  | cons x l ih =>
    unfold mm_find at h
    cases hb : Nat.beq x.1 pc with
    | true =>
      rw [hb] at h
      have e1 : x.2 = e := Option.some.inj h
      have e2 := (mm_beq_iff _ _).mp hb
      obtain ⟨x1, x2⟩ := x
      cases e1
      cases e2
      exact List.mem_cons_self
    | false =>
      rw [hb] at h
      exact List.mem_cons_of_mem _ (ih h)
theorem mm_nth_mem {α : Type} {d : α} {l : List α} {i : Nat} (h : i < l.length) : mm_nth d l i ∈ l := by
  rw [mm_nth_eq, List.getElem?_eq_getElem h]
  exact List.getElem_mem h
theorem mm_nth_out {α : Type} {d : α} {l : List α} {i : Nat} (h : l.length ≤ i) : mm_nth d l i = d := by
  rw [mm_nth_eq, List.getElem?_eq_none h]
  rfl
theorem mm_ok2_nth : ∀ (cs : List (List (Nat × mm_E))) (ts : List mm_MT), mm_ok2 cs ts → ∀ i, (mm_nth [] cs i).all (mm_ckE (mm_nth mm_m0 ts i).2.2.2.2.2.1 (mm_nth mm_m0 ts i).2.1) = true
  | [], _, _, i => rfl
  | _ :: _, [], h, _ => h.elim
  | c :: cs, t :: ts, h, 0 => h.1
  | c :: cs, t :: ts, h, i + 1 => mm_ok2_nth cs ts h.2 i
theorem mm_ok3 : ∀ j, mm_ok2 (mm_nth [] mm_czs j) (mm_nth [] mm_mts j)
  | 0 => mm_ok2_0
  | 1 => mm_ok2_1
  | 2 => mm_ok2_2
  | 3 => mm_ok2_3
  | 4 => mm_ok2_4
  | 5 => mm_ok2_5
  | 6 => mm_ok2_6
  | 7 => mm_ok2_7
  | _ + 8 => trivial
theorem mm_cod_ok {k pc : Nat} {ins : Instr} {len p q : Nat} (h : mm_cod k pc = some (ins, len, p, q)) : decode (mm_by k) pc = .ok (ins, len) ∧ mm_ckP (mm_c k) pc ins p q = true ∧ len = mm_ln ins len := by
  have h1 := mm_find_mem h
  have h2 := List.all_eq_true.mp (mm_ok2_nth _ _ (mm_ok3 (k / 32)) (k % 32)) _ h1
  simp only [mm_ckE, Bool.and_eq_true, decide_eq_true_eq] at h2
  refine ⟨h2.1, h2.2, ?_⟩
  have h3 := mm_lnk
  by_cases hj : k / 32 < mm_czs.length
  · have h4 := List.all_eq_true.mp h3 _ (mm_nth_mem (d := []) hj)
    by_cases hi : k % 32 < (mm_nth [] mm_czs (k / 32)).length
    · have h5 := List.all_eq_true.mp h4 _ (mm_nth_mem (d := []) hi)
      have h6 := List.all_eq_true.mp h5 _ h1
      exact (mm_beq_iff _ _).mp h6
    · unfold mm_lst at h1
      rw [mm_nth_out (Nat.le_of_not_lt hi)] at h1
      cases h1
  · unfold mm_lst at h1
    rw [mm_nth_out (Nat.le_of_not_lt hj)] at h1
    cases h1
theorem mm_klt : (List.range 227).all (fun k => Nat.blt (k / 32) 8 && Nat.blt (k % 32) (mm_nth [] mm_mts (k / 32)).length) = true := by decide +kernel
theorem mm_blt_iff (a b : Nat) : Nat.blt a b = true ↔ a < b := by
  unfold Nat.blt
  exact ⟨fun h => Nat.le_of_ble_eq_true h, fun h => Nat.ble_eq_true_of_le h⟩
theorem mm_m_mem {k : Nat} (hk : k < 227) : ∃ l ∈ mm_mts, mm_m k ∈ l := by
  have h := List.all_eq_true.mp mm_klt k (List.mem_range.mpr hk)
  rw [Bool.and_eq_true, mm_blt_iff, mm_blt_iff] at h
  exact ⟨_, mm_nth_mem (d := []) (by exact h.1), mm_nth_mem h.2⟩
/-- what holds of every method of the table -/
theorem mm_mk {k : Nat} (hk : k < 227) : (mm_y k).cls = mm_cn (mm_c k) ∧ (Cond.initialized (mm_y k).cls) ∈ mm_GW ∧ mm_mL k + 19 ≤ 40 ∧ mm_dp k ≤ 13 ∧ plainFor (mm_y k) = true ∧ ((mm_y k).cls ≠ "java/lang/invoke/MethodHandle" ∧ (mm_y k).cls ≠ "java/lang/invoke/VarHandle") ∧ Cond.code (mm_y k) (mm_by k) (mm_mL k) (mm_rt k) ∈ mm_GW ∧
    (mm_md k = 0 → Cond.static (mm_y k) ∈ mm_GW ∧ (parseMethodDescriptor (mm_y k).desc).map (fun d => d.parameters.length) = some (mm_na k)) ∧
    (mm_md k ≠ 0 → Cond.instanceMethod (mm_y k) ∈ mm_GW ∧ (parseMethodDescriptor (mm_y k).desc).map (fun d => d.parameters.length + 1) = some (mm_na k)) ∧
    (mm_md k = 1 → Cond.selects (mm_y k).cls (mm_y k) (mm_y k) ∈ mm_GW) ∧ (mm_md k ≠ 0 → mm_md k ≠ 1 → (mm_y k).name = "<init>" ∧ mm_md k = 2) := by
  obtain ⟨l, hl, hm⟩ := mm_m_mem hk
  have h1 := List.all_eq_true.mp (mm_mtk l hl) _ hm
  have h2 := mm_cwk l hl _ hm
  unfold mm_y mm_c mm_mL mm_dp mm_by mm_rt mm_md mm_na
  generalize mm_m k = t at h1 h2 ⊢
  obtain ⟨y, by_, ml, rt, na, c, md, dp, p0, p1, p2, p3⟩ := t
  simp only [mm_ckM, Bool.and_eq_true, decide_eq_true_eq] at h1
  obtain ⟨⟨⟨⟨⟨⟨a1, a2⟩, a3⟩, a4⟩, a5⟩, a6⟩, a7⟩ := h1
  refine ⟨a1, mm_wt_mem a2, a3, a4, a5, a6, h2, fun h0 => ?_, fun h0 => ?_, fun h0 => ?_, fun h0 h1 => ?_⟩
  · simp only at h0
    rw [if_pos h0, Bool.and_eq_true, decide_eq_true_eq] at a7
    exact ⟨mm_wt_mem a7.1, a7.2⟩
  · simp only at h0
    rw [if_neg h0, Bool.and_eq_true, Bool.and_eq_true, decide_eq_true_eq] at a7
    exact ⟨mm_wt_mem a7.1.1, a7.1.2⟩
  · simp only at h0
    rw [if_neg (by omega), Bool.and_eq_true, if_pos h0] at a7
    exact mm_wt_mem a7.2
  · simp only at h0 h1
    rw [if_neg h0, Bool.and_eq_true, if_neg h1, decide_eq_true_eq] at a7
    exact a7.2
theorem mm_fl_ok {o ix c s : Nat} (h : mm_flC o ix c s = true) : Cond.fieldLink (mm_cn o) ix (mm_T c s).1 (mm_T c s).2.1 (mm_T c s).2.2.1 ∈ mm_GW ∧ s < mm_N c ∧ c < 10 := by
  obtain ⟨⟨o', ix', c', s', p⟩, hm, he⟩ := List.any_eq_true.mp h
  simp only [Bool.and_eq_true, beq_iff_eq] at he
  obtain ⟨rfl, rfl, rfl, rfl⟩ := he
  have h1 := List.all_eq_true.mp mm_flk _ hm
  simp only [mm_ckF, Bool.and_eq_true, decide_eq_true_eq] at h1
  exact ⟨mm_wt_mem h1.1.1, h1.1.2, h1.2⟩
def mm_Nst (U : State) : Prop := ∀ (o ix : Nat) (y : MethodName), mm_nw o ix y ∈ lw_tbl → va_Nw (mm_nw o ix y) U
theorem mm_Nst.warm {s U : State} (hW : s.WarmedH U.vm) (h : mm_Nst s) : mm_Nst U := fun o ix y hm => va_Nw.warmM hW (h o ix y hm)
theorem mm_Nst.same {s U : State} (hv : s.vm = U.vm) (h : mm_Nst s) : mm_Nst U := fun o ix y hm => va_Nw.same rfl hv (h o ix y hm)
theorem mm_ml_ok {o ix k md : Nat} (h : mm_mlC o ix k md = true) : k < 227 ∧ mm_md k = md ∧ (Cond.methodLink (mm_cn o) ix (mm_y k) ∈ mm_GW ∨ mm_nw o ix (mm_y k) ∈ lw_tbl) := by
  obtain ⟨⟨o', ix', k', md', ns, p⟩, hm, he⟩ := List.any_eq_true.mp h
  simp only [Bool.and_eq_true, beq_iff_eq] at he
  obtain ⟨rfl, rfl, rfl, rfl⟩ := he
  have h1 := List.all_eq_true.mp mm_mlk _ hm
  simp only [mm_ckL, Bool.and_eq_true, decide_eq_true_eq] at h1
  refine ⟨h1.1.1, h1.1.2, ?_⟩
  by_cases hn : ns = 0
  · rw [if_pos hn] at h1
    exact Or.inl (mm_wt_mem h1.2)
  · rw [if_neg hn, decide_eq_true_eq] at h1
    exact Or.inr (List.mem_of_getElem? h1.2)
theorem mm_cs_ok {o ix kd v : Nat} (h : mm_csC o ix kd v = true) : ∃ p, mm_ckC (o, ix, kd, v, p) = true := by
  obtain ⟨⟨o', ix', k', v', p⟩, hm, he⟩ := List.any_eq_true.mp h
  simp only [Bool.and_eq_true, beq_iff_eq] at he
  obtain ⟨rfl, rfl, rfl, rfl⟩ := he
  exact ⟨p, List.all_eq_true.mp mm_csk _ hm⟩
theorem mm_cs0 {o ix v : Nat} (h : mm_csC o ix 0 v = true) : Cond.constant (mm_cn o) ix (Int32.ofNat v) ∈ mm_GW := by
  obtain ⟨p, hp⟩ := mm_cs_ok h
  exact mm_wt_mem hp
theorem mm_cs1 {o ix v : Nat} (h : mm_csC o ix 1 v = true) : Cond.constantLong (mm_cn o) ix (Int64.ofNat v) ∈ mm_GW := by
  obtain ⟨p, hp⟩ := mm_cs_ok h
  exact mm_wt_mem hp
theorem mm_cs2 {o ix v : Nat} (h : mm_csC o ix 2 v = true) : Cond.constantFloat (mm_cn o) ix (UInt32.ofNat v) ∈ mm_GW := by
  obtain ⟨p, hp⟩ := mm_cs_ok h
  exact mm_wt_mem hp
theorem mm_cs3 {o ix v : Nat} (h : mm_csC o ix 3 v = true) : Cond.constantDouble (mm_cn o) ix (UInt64.ofNat v) ∈ mm_GW := by
  obtain ⟨p, hp⟩ := mm_cs_ok h
  exact mm_wt_mem hp
theorem mm_nl_ok {o ix c : Nat} (h : mm_nlC o ix c = true) : Cond.classLink (mm_cn o) ix (mm_cn c) ∈ mm_GW ∧ Cond.instantiable (mm_cn c) (mm_N c) ∈ mm_GW ∧ Cond.initialized (mm_cn c) ∈ mm_GW ∧ c < 10 := by
  obtain ⟨⟨o', ix', c', p1, p2, p3⟩, hm, he⟩ := List.any_eq_true.mp h
  simp only [Bool.and_eq_true, beq_iff_eq] at he
  obtain ⟨rfl, rfl, rfl⟩ := he
  have h1 := List.all_eq_true.mp mm_nlk _ hm
  simp only [mm_ckN, Bool.and_eq_true, decide_eq_true_eq] at h1
  exact ⟨mm_wt_mem h1.1.1.1, mm_wt_mem h1.1.1.2, mm_wt_mem h1.1.2, h1.2⟩
theorem mm_ol_ok {o ix : Nat} (h : mm_olC o ix = true) : Cond.methodLink (mm_cn o) ix Lib.objectInit ∈ mm_GW := by
  obtain ⟨⟨o', ix', p⟩, hm, he⟩ := List.any_eq_true.mp h
  simp only [Bool.and_eq_true, beq_iff_eq] at he
  obtain ⟨rfl, rfl⟩ := he
  exact mm_wt_mem (List.all_eq_true.mp mm_olk _ hm)
/-- classes -/
theorem mm_cl {c : Nat} (hc : c < 10) : vwCl[c]? = some (mm_cn c, mm_T c, mm_N c) ∧ (∀ w ∈ u_ws (mm_cn c) (mm_T c) (mm_N c), w ∈ mm_GW) ∧ (∀ k, k < mm_N c → parseFieldDescriptor (mm_T c k).2.2.1 = some (mm_ty c k)) ∧ (∀ a, a < mm_N c → ∀ b, b < mm_N c → a ≠ b → (mm_T c a).2.1 ≠ (mm_T c b).2.1) := by
  match c, hc with
  | 0, _ => exact ⟨rfl, mm_u0, tyX0_ok, nmX0⟩
  | 1, _ => exact ⟨rfl, mm_u1, tyX1_ok, nmX1⟩
  | 2, _ => exact ⟨rfl, mm_u2, tyX2_ok, nmX2⟩
  | 3, _ => exact ⟨rfl, mm_u3, tyX3_ok, nmX3⟩
  | 4, _ => exact ⟨rfl, mm_u4, tyX4_ok, nmX4⟩
  | 5, _ => exact ⟨rfl, mm_u5, tyX5_ok, nmX5⟩
  | 6, _ => exact ⟨rfl, mm_u6, tyX6_ok, nmX6⟩
  | 7, _ => exact ⟨rfl, mm_u7, tyX7_ok, nmX7⟩
  | 8, _ => exact ⟨rfl, mm_u8, tyX8_ok, nmX8⟩
  | 9, _ => exact ⟨rfl, mm_u9, tyX9_ok, nmX9⟩
theorem mm_own : ∀ c, c < 10 → ∀ k, k < mm_N c → (mm_T c k).1 = mm_cn c := by decide +kernel
