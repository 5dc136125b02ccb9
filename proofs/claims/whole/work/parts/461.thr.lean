/-! what a throw needs -/
def exN : List String := ["java/lang/RuntimeException", "java/lang/Exception"]
def exB (X : String) : List Cond := [.declares ⟨"java/lang/RuntimeException", "<init>", "()V"⟩, .declares ⟨"java/lang/Exception", "<init>", "()V"⟩, .declares ⟨"java/lang/Throwable", "<init>", "()V"⟩, .castable X X]
def exI : String := "java/lang/IndexOutOfBoundsException"
def exE : String := "java/util/NoSuchElementException"
theorem ex_b1 : (vx_at0 "WholeSound" 196 exI exN).filter (fun w => !goodWord w) = exB exI := by decide +kernel
theorem ex_b2 : (vx_at0 "WholeSound" 336 exE exN).filter (fun w => !goodWord w) = exB exE := by decide +kernel
theorem ex_g1 : (Cond.classLink "WholeSound" 194 exI :: Cond.initialized exI :: vx_at0 "WholeSound" 196 exI exN).all vx_ot = true := by decide +kernel
theorem ex_g2 : (Cond.classLink "WholeSound" 334 exE :: Cond.initialized exE :: vx_at0 "WholeSound" 336 exE exN).all vx_ot = true := by decide +kernel
theorem ex_i1 : (vx_at0 "WholeSound" 196 exI exN).all (fun w => lw_tbl.any (fun v => decide (v = w))) = true := by decide +kernel
theorem ex_i2 : (vx_at0 "WholeSound" 336 exE exN).all (fun w => lw_tbl.any (fun v => decide (v = w))) = true := by decide +kernel
theorem ex_l1 : (Cond.classLink "WholeSound" 194 exI : Cond) ∈ mm_GW := mm_wt_mem (i := 908) (by decide +kernel)
theorem ex_l2 : (Cond.classLink "WholeSound" 334 exE : Cond) ∈ mm_GW := mm_wt_mem (i := 979) (by decide +kernel)
theorem ex_n1 : lw_tbl.any (fun v => decide (v = Cond.initialized exI)) = true ∧ lw_tbl.any (fun v => decide (v = Cond.initialized exE)) = true ∧ goodWord (Cond.initialized exI) = true ∧ goodWord (Cond.initialized exE) = true := by decide +kernel
theorem ex_mem {w : Cond} {L : List Cond} (h : L.all (fun w => lw_tbl.any (fun v => decide (v = w))) = true) (hw : w ∈ L) : w ∈ lw_tbl := by
  obtain ⟨v, h1, h2⟩ := List.any_eq_true.mp (List.all_eq_true.mp h w hw)
  have e := of_decide_eq_true h2
  rw [← e]
  exact h1
theorem ex_mem1 {w : Cond} (h : lw_tbl.any (fun v => decide (v = w)) = true) : w ∈ lw_tbl := by
  obtain ⟨v, h1, h2⟩ := List.any_eq_true.mp h
  have e := of_decide_eq_true h2
  rw [← e]
  exact h1
def exD (X : String) (U : State) : Prop := va_Nw (.declares ⟨"java/lang/RuntimeException", "<init>", "()V"⟩) U ∧ va_Nw (.declares ⟨"java/lang/Exception", "<init>", "()V"⟩) U ∧ va_Nw (.declares ⟨"java/lang/Throwable", "<init>", "()V"⟩) U ∧ va_Nw (.castable X X) U
theorem exD.warm {X : String} {s U : State} (hW : s.WarmedH U.vm) (h : exD X s) : exD X U := ⟨va_Nw.warmD hW h.1, va_Nw.warmD hW h.2.1, va_Nw.warmD hW h.2.2.1, va_Nw.warmC hW h.2.2.2⟩
theorem exD.same {X : String} {s U : State} (hv : s.vm = U.vm) (h : exD X s) : exD X U := ⟨va_Nw.same rfl hv h.1, va_Nw.same rfl hv h.2.1, va_Nw.same rfl hv h.2.2.1, va_Nw.same rfl hv h.2.2.2⟩
theorem exD.all {X : String} {s : State} {args : Array Value} (h : exD X s) : ∀ w ∈ exB X, w.before args s = true := vx_c (va_Nw.use rfl h.1) (vx_c (va_Nw.use rfl h.2.1) (vx_c (va_Nw.use rfl h.2.2.1) (vx_c (va_Nw.use rfl h.2.2.2) vx_n)))
/-- what a throw of the class X out of a method of the class needs of its method's words -/
def exW (ik ic : Nat) (X : String) : Prop := Bundle.fit X = true ∧ (vx_at0 "WholeSound" ic X exN).filter (fun w => !goodWord w) = exB X ∧ (∀ w ∈ Cond.classLink "WholeSound" ik X :: Cond.initialized X :: vx_at0 "WholeSound" ic X exN, vx_ot w = true) ∧ (∀ w ∈ (vx_at0 "WholeSound" ic X exN).filter goodWord, w ∈ mm_GW) ∧ Cond.classLink "WholeSound" ik X ∈ mm_GW ∧ Cond.initialized X ∈ mm_GW
theorem ex_w1 : exW 194 196 exI := ⟨by decide +kernel, ex_b1, fun w hw => List.all_eq_true.mp ex_g1 w hw, fun w hw => List.mem_filter.mpr ⟨ex_mem ex_i1 (List.mem_filter.mp hw).1, (List.mem_filter.mp hw).2⟩, ex_l1, List.mem_filter.mpr ⟨ex_mem1 ex_n1.1, ex_n1.2.2.1⟩⟩
theorem ex_w2 : exW 334 336 exE := ⟨by decide +kernel, ex_b2, fun w hw => List.all_eq_true.mp ex_g2 w hw, fun w hw => List.mem_filter.mpr ⟨ex_mem ex_i2 (List.mem_filter.mp hw).1, (List.mem_filter.mp hw).2⟩, ex_l2, List.mem_filter.mpr ⟨ex_mem1 ex_n1.2.1, ex_n1.2.2.2⟩⟩
theorem ex_fit : ∀ n ∈ exN, Bundle.fit n = true := by decide +kernel
