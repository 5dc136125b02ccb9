/-! the start: what the tables and the given words say -/
theorem st_arr {s : State} {args : Array Value} {ty : FieldType} (h : (Cond.arrayClass ty).before args s = true) : ∃ cA : ClassId, ArrOfT s cA ty ∧ s.vm.findClass ("[" ++ ty.toString) = some cA := by
  obtain ⟨cA, kA, comp, h1, h2, h3⟩ := Cond.arrayClass_spec h
  exact ⟨cA, fun n z => ⟨fun k h => (by cases h), kA, h2, comp, h3⟩, h1⟩
theorem st_ins : ∀ c, c < 10 → Cond.instantiable (mm_cn c) (mm_N c) ∈ mm_GW := by
  intro c hc
  match c, hc with
  | 0, _ => exact mm_wt_mem (i := 180) (by decide +kernel)
  | 1, _ => exact mm_wt_mem (i := 174) (by decide +kernel)
  | 2, _ => exact mm_wt_mem (i := 153) (by decide +kernel)
  | 3, _ => exact mm_wt_mem (i := 315) (by decide +kernel)
  | 4, _ => exact mm_wt_mem (i := 240) (by decide +kernel)
  | 5, _ => exact mm_wt_mem (i := 124) (by decide +kernel)
  | 6, _ => exact mm_wt_mem (i := 321) (by decide +kernel)
  | 7, _ => exact mm_wt_mem (i := 109) (by decide +kernel)
  | 8, _ => exact mm_wt_mem (i := 101) (by decide +kernel)
  | 9, _ => exact mm_wt_mem (i := 1010) (by decide +kernel)
theorem st_K {s : State} {args : Array Value} (hts : ∀ w ∈ lw_tbl, w.before args s = true) : ∃ (D : va_G) (cI cZ cJ : ClassId), va_K D vwCl (mm_tys cI cZ) s ∧ va_K D vwCl [(cJ, .long)] s := by
  have hg : ∀ w ∈ mm_GW, w.before args s = true := fun w h => hts w (List.mem_filter.mp h).1
  have h1 : ∀ c, ∃ q : ClassId × (Nat → Nat), c < 10 → u_Kn s (mm_cn c) (mm_T c) (mm_N c) q.1 q.2 := fun c => by
    by_cases hc : c < 10
    · obtain ⟨cC, iS, h⟩ := u_known hg (mm_cl hc).2.1 (hg _ (st_ins c hc))
      exact ⟨(cC, iS), fun _ => h⟩
    · exact ⟨(0, fun _ => 0), fun z => absurd z hc⟩
  obtain ⟨cI, i1, i2⟩ := st_arr (hts (.arrayClass .int) (List.mem_of_getElem? (i := 122) (by decide +kernel)))
  obtain ⟨cZ, z1, z2⟩ := st_arr (hts (.arrayClass .boolean) (List.mem_of_getElem? (i := 1154) (by decide +kernel)))
  obtain ⟨cJ, j1, j2⟩ := st_arr (hts (.arrayClass .long) (List.mem_of_getElem? (i := 1563) (by decide +kernel)))
  have hc : ∀ (c : Nat) (q : vw_C), vwCl[c]? = some q → u_Kn s q.1 q.2.1 q.2.2 (Classical.choose (h1 c)).1 (Classical.choose (h1 c)).2 := fun c q hq => by
    have hl : vwCl.length = 10 := rfl
    have hc0 : c < vwCl.length := (List.getElem?_eq_some_iff.mp hq).1
    have hc : c < 10 := by rw [hl] at hc0; exact hc0
    have e := Option.some.inj ((mm_cl hc).1.symm.trans hq)
    rw [← e]
    exact Classical.choose_spec (h1 c) hc
  refine ⟨(fun c => (Classical.choose (h1 c)).1, fun c => (Classical.choose (h1 c)).2), cI, cZ, cJ, ⟨hc, fun k q hq => ?_⟩, ⟨hc, fun k q hq => ?_⟩⟩
  · match k, hq with
    | 0, hq => cases hq; exact ⟨i1, i2⟩
    | 1, hq => cases hq; exact ⟨z1, z2⟩
    | k + 2, hq => simp [mm_tys] at hq
  · match k, hq with
    | 0, hq => cases hq; exact ⟨j1, j2⟩
    | k + 1, hq => simp at hq
theorem st_N {s : State} {args : Array Value} (hts : ∀ w ∈ lw_tbl, w.before args s = true) : mm_Nst s := fun o ix y hm => va_Nw.of rfl (hts _ hm)
theorem st_ex {s : State} {args : Array Value} (hts : ∀ w ∈ lw_tbl, w.before args s = true) : exD exI s ∧ exD exE s := by
  have d1 := va_Nw.of (w := .declares ⟨"java/lang/RuntimeException", "<init>", "()V"⟩) rfl (hts _ (List.mem_of_getElem? (i := 911) (by decide +kernel)))
  have d2 := va_Nw.of (w := .declares ⟨"java/lang/Exception", "<init>", "()V"⟩) rfl (hts _ (List.mem_of_getElem? (i := 913) (by decide +kernel)))
  have d3 := va_Nw.of (w := .declares ⟨"java/lang/Throwable", "<init>", "()V"⟩) rfl (hts _ (List.mem_of_getElem? (i := 915) (by decide +kernel)))
  have c1 := va_Nw.of (w := .castable exI exI) rfl (hts _ (List.mem_of_getElem? (i := 910) (by decide +kernel)))
  have c2 := va_Nw.of (w := .castable exE exE) rfl (hts _ (List.mem_of_getElem? (i := 981) (by decide +kernel)))
  exact ⟨⟨d1, d2, d3, c1⟩, ⟨d1, d2, d3, c2⟩⟩
theorem st_Zs {s : State} {args : Array Value} (hts : ∀ w ∈ lw_tbl, w.before args s = true) (hgv : (Jvm.Cond.and given_1 narrow_1).before args s = true) : mx_Zs (fun q => s.heap.size ≤ q) s := by
  have hA : ∀ a : Nat, a < s.heap.size → ¬ (fun q : Nat => s.heap.size ≤ q) a := fun a h1 h2 => absurd h2 (Nat.not_le.mpr h1)
  have hi := hts (.initialized "java/lang/Throwable") (List.mem_of_getElem? (i := 92) (by decide +kernel))
  exact ⟨vx_Zqof (hts (.laysStatic "java/lang/Throwable" "UNASSIGNED_STACK" "[Ljava/lang/StackTraceElement;") (List.mem_of_getElem? (i := 935) (by decide +kernel))) hi (flat_of_before _ hgv (.isRef (.static "java/lang/Throwable" "UNASSIGNED_STACK" "[Ljava/lang/StackTraceElement;")) (by decide +kernel)) hA,
    vx_Zqof (hts (.laysStatic "java/lang/Throwable" "SUPPRESSED_SENTINEL" "Ljava/util/List;") (List.mem_of_getElem? (i := 937) (by decide +kernel))) hi (flat_of_before _ hgv (.isRef (.static "java/lang/Throwable" "SUPPRESSED_SENTINEL" "Ljava/util/List;")) (by decide +kernel)) hA⟩
theorem st_eqi {args : Array Value} {s : State} {tm : Term} {z : Int32} (h : (Cond.eq tm (.int z)).before args s = true) : tm.eval args s none [] s = some (.int z) := by
  cases hv : tm.eval args s none [] s with
  | none => simp [Cond.before, Cond.holds, Cond.value, hv] at h
  | some w =>
    have hz : (Term.int z).eval args s none [] s = some (.int z) := rfl
    simp only [Cond.before, Cond.holds, Cond.value, hv, hz] at h
    cases w <;> simp_all
theorem st_fl : ∀ j, j < 20 → Cond.eq (.elem (.static "WholeSoundModel" "FIXED" "[I") (.int (Int32.ofNat j))) (.int (mm_fix j)) ∈ flatC (Jvm.Cond.and given_1 narrow_1) := by decide +kernel
theorem st_fa : Cond.arrayOf (.static "WholeSoundModel" "FIXED" "[I") .int ∈ flatC (Jvm.Cond.and given_1 narrow_1) ∧ Cond.eq (.length (.static "WholeSoundModel" "FIXED" "[I")) (.int (Int32.ofNat 20)) ∈ flatC (Jvm.Cond.and given_1 narrow_1) := by decide +kernel
theorem st_F {s : State} {args : Array Value} (hts : ∀ w ∈ lw_tbl, w.before args s = true) (hgv : (Jvm.Cond.and given_1 narrow_1).before args s = true) : ∃ t : Nat, va_Z "WholeSoundModel" "FIXED" "[I" (.ref t) (fun q => s.heap.size ≤ q) s s.heap ∧ va_T .int t 20 (fun j => .int (mm_fix j)) (fun q => s.heap.size ≤ q) s s.heap := by
  have hA : ∀ a : Nat, a < s.heap.size → ¬ (fun q : Nat => s.heap.size ≤ q) a := fun a h1 h2 => absurd h2 (Nat.not_le.mpr h1)
  obtain ⟨t, ht, hT⟩ := va_Tof (args := args) (s := s) (tm := .static "WholeSoundModel" "FIXED" "[I") (ty := .int) (N := 20) (f := fun j => .int (mm_fix j)) (A := fun q : Nat => s.heap.size ≤ q) (by decide) (flat_of_before _ hgv _ st_fa.1) (st_eqi (flat_of_before _ hgv _ st_fa.2)) (fun j hj => st_eqi (flat_of_before _ hgv _ (st_fl j hj))) hA
  exact ⟨t, va_Zof (hts (.laysStatic "WholeSoundModel" "FIXED" "[I") (List.mem_of_getElem? (i := 1291) (by decide +kernel))) (hts (.initialized "WholeSoundModel") (List.mem_of_getElem? (i := 90) (by decide +kernel))) ht hA, hT⟩
theorem st_tr {l : Launch} (h : l.flags = flags0) : l.stackTraces = false := by
  unfold Launch.stackTraces
  rw [h]
  decide +kernel
