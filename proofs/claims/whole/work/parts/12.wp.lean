def mm_lK : List Nat := [8, 7, 100, 5, 100, 100, 2, 100, 100, 100, 1, 0, 100, 100, 100, 100, 100, 100, 100, 100, 100, 100, 4, 100, 100, 100, 100, 100, 4, 100, 100, 100, 100, 100, 4, 100, 100, 100, 100, 100, 4, 100, 100, 100, 100, 100, 3, 6, 100, 2, 100, 100, 100, 100, 100, 100, 100, 100, 9, 100, 100, 100, 100, 100, 100, 100, 100, 100, 100, 100, 100, 101, 100, 100, 100, 100, 100, 100, 100, 100, 100, 100, 100]
def mm_lL : List Nat := [10, 2, 240, 5, 512, 2, 3, 32, 8, 8, 7, 15, 64, 9, 8, 126, 9, 9, 8, 8, 8, 8, 10, 64, 8, 8, 8, 8, 10, 64, 8, 8, 8, 8, 10, 64, 8, 8, 8, 8, 10, 64, 8, 8, 8, 8, 13, 3, 4000, 3, 32, 8, 8, 64, 64, 16, 16, 512, 46, 240, 512, 2, 9, 3, 9, 3, 4000, 64, 64, 112, 8, 8, 8, 8, 8, 81, 81, 4, 128, 64, 16, 16, 512]
def mm_lR : List (List (Option Nat)) := [[some 1, some 3, some 6, some 10, some 11, some 46, some 47], [some 2], [], [some 4, some 5], [], [], [some 7, some 8, some 9], [], [], [], [some 11, some 22, some 28, some 34, some 40], [some 12, none, none, none, some 13, some 14, some 15, some 16, some 17, some 18, some 19, some 20, some 21], [], [], [], [], [], [], [], [], [], [], [some 23, none, none, none, none, none, some 24, some 25, some 26, some 27], [], [], [], [], [], [some 29, none, none, none, none, none, some 30, some 31, some 32, some 33], [], [], [], [], [], [some 35, none, none, none, none, none, some 36, some 37, some 38, some 39], [], [], [], [], [], [some 41, none, none, none, none, none, some 42, some 43, some 44, some 45], [], [], [], [], [], [some 47, some 49, none, none, none, none, none, none, some 53, some 54, some 55, some 56, some 57], [some 48], [], [some 50, some 51, some 52], [], [], [], [], [], [], [], [], [some 59, none, some 60, some 61, none, none, none, none, none, none, some 62, some 63, some 64, some 65, some 66, none, none, some 67, none, none, some 68, none, none, some 69, some 70, some 71, some 72, some 73, some 74, none, some 75, some 76, none, some 77, none, none, none, none, none, none, none, some 78, some 79, some 80, some 81, some 82], [], [], [], [], [], [], [], [], [], [], [], [], [], [], [], [], [], [], [], [], [], [], [], []]
def mm_lay : mm_Ly := (83, 12270, mm_nth 0 mm_lK, mm_nth 0 mm_lL, fun a k => mm_nth none (mm_nth [] mm_lR a) k)
theorem mm_run_up {ng : Bool} : ∀ {f k pc : Nat} {ls : mm_Ls} {st : List Value} {h : mm_H} {s' : mm_S}, mm_run ng f k pc ls st h = some s' → mm_run ng (f + 1) k pc ls st h = some s'
  | 0, _, _, _, _, _, _, hr => by cases hr
  | f + 1, k, pc, ls, st, h, s', hr => by
    obtain ⟨ins, len, p, q, hc, hcase⟩ := mm_run_inv hr
    rw [mm_run_succ, hc]
    rcases hcase with ⟨hk, pc', ls', st', h', hi, hr⟩ | ⟨hk, as, rest, pc', ls', st', h', v, hcl, h2, hv, hr⟩ | ⟨hk, rfl⟩
    · simp only [hk, hi]
      exact mm_run_up hr
    · simp only [hk, hcl, mm_run_up h2, hv]
      exact mm_run_up hr
    · simp only [hk]
theorem mm_run_le {ng : Bool} {f g k pc : Nat} {ls : mm_Ls} {st : List Value} {h : mm_H} {s' : mm_S} (hr : mm_run ng f k pc ls st h = some s') (hfg : f ≤ g) : mm_run ng g k pc ls st h = some s' := by
  obtain ⟨d, rfl⟩ := Nat.exists_eq_add_of_le hfg
  induction d with
  | zero => exact hr
  | succ d ih => exact mm_run_up (ih (Nat.le_add_right _ _))
def mm_W (k pc : Nat) (ls : mm_Ls) (st : List Value) (I : mm_I) (Q : mm_S → Prop) : Prop := ∃ f s', mm_run false f k pc ls st (mm_lay, I) = some s' ∧ Q s'
def mm_Rn (k : Nat) (as : List Value) (I : mm_I) (v : Option Value) (I' : mm_I) : Prop := ∃ f pc ls st, mm_run false f k 0 (mm_ent (mm_mL k) as) [] (mm_lay, I) = some (pc, ls, st, (mm_lay, I')) ∧ mm_ret k pc st = some v
def mm_Mi (k : Nat) (as : List Value) (I : mm_I) (P : Int32 → mm_I → Prop) : Prop := ∃ r I', mm_Rn k as I (some (.int r)) I' ∧ P r I'
def mm_Mv (k : Nat) (as : List Value) (I : mm_I) (P : mm_I → Prop) : Prop := ∃ I', mm_Rn k as I none I' ∧ P I'
def mm_Mf (k : Nat) (as : List Value) (I : mm_I) (P : UInt32 → mm_I → Prop) : Prop := ∃ r I', mm_Rn k as I (some (.float r)) I' ∧ P r I'
def mm_Ml (k : Nat) (as : List Value) (I : mm_I) (P : Int64 → mm_I → Prop) : Prop := ∃ r I', mm_Rn k as I (some (.long r)) I' ∧ P r I'
def mm_Mr (k : Nat) (as : List Value) (I : mm_I) (P : Option Nat → mm_I → Prop) : Prop := ∃ r I', mm_Rn k as I (some (va_rf r)) I' ∧ P r I'
def mm_qi (k : Nat) (P : Int32 → mm_I → Prop) : mm_S → Prop := fun s => ∃ r I', mm_ret k s.1 s.2.2.1 = some (some (.int r)) ∧ s.2.2.2 = (mm_lay, I') ∧ P r I'
def mm_qv (k : Nat) (P : mm_I → Prop) : mm_S → Prop := fun s => ∃ I', mm_ret k s.1 s.2.2.1 = some none ∧ s.2.2.2 = (mm_lay, I') ∧ P I'
def mm_qf (k : Nat) (P : UInt32 → mm_I → Prop) : mm_S → Prop := fun s => ∃ r I', mm_ret k s.1 s.2.2.1 = some (some (.float r)) ∧ s.2.2.2 = (mm_lay, I') ∧ P r I'
def mm_ql (k : Nat) (P : Int64 → mm_I → Prop) : mm_S → Prop := fun s => ∃ r I', mm_ret k s.1 s.2.2.1 = some (some (.long r)) ∧ s.2.2.2 = (mm_lay, I') ∧ P r I'
def mm_qr (k : Nat) (P : Option Nat → mm_I → Prop) : mm_S → Prop := fun s => ∃ r I', mm_ret k s.1 s.2.2.1 = some (some (va_rf r)) ∧ s.2.2.2 = (mm_lay, I') ∧ P r I'
theorem mm_Rn_det {k : Nat} {as : List Value} {I : mm_I} {v v' : Option Value} {I1 I2 : mm_I} (h1 : mm_Rn k as I v I1) (h2 : mm_Rn k as I v' I2) : v = v' ∧ I1 = I2 := by
  obtain ⟨f, pc, ls, st, a1, a2⟩ := h1
  obtain ⟨g, pc', ls', st', b1, b2⟩ := h2
  have c1 := mm_run_le a1 (Nat.le_max_left f g)
  have c2 := mm_run_le b1 (Nat.le_max_right f g)
  have e := Option.some.inj (c1.symm.trans c2)
  cases e
  exact ⟨Option.some.inj (a2.symm.trans b2), rfl⟩
theorem mm_Mi_eq {k : Nat} {as : List Value} {I : mm_I} {r : Int32} {I' : mm_I} (h : mm_Rn k as I (some (.int r)) I') (P : Int32 → mm_I → Prop) : mm_Mi k as I P = P r I' := by
  apply propext
  constructor
  · rintro ⟨r2, I2, h2, hP⟩
    obtain ⟨e1, rfl⟩ := mm_Rn_det h h2
    cases e1
    exact hP
  · exact fun hP => ⟨r, I', h, hP⟩
theorem mm_Mv_eq {k : Nat} {as : List Value} {I : mm_I} {I' : mm_I} (h : mm_Rn k as I none I') (P : mm_I → Prop) : mm_Mv k as I P = P I' := by
  apply propext
  constructor
  · rintro ⟨I2, h2, hP⟩
    obtain ⟨e1, rfl⟩ := mm_Rn_det h h2
    exact hP
  · exact fun hP => ⟨I', h, hP⟩
theorem mm_Mf_eq {k : Nat} {as : List Value} {I : mm_I} {r : UInt32} {I' : mm_I} (h : mm_Rn k as I (some (.float r)) I') (P : UInt32 → mm_I → Prop) : mm_Mf k as I P = P r I' := by
  apply propext
  constructor
  · rintro ⟨r2, I2, h2, hP⟩
    obtain ⟨e1, rfl⟩ := mm_Rn_det h h2
    cases e1
    exact hP
  · exact fun hP => ⟨r, I', h, hP⟩
theorem mm_Ml_eq {k : Nat} {as : List Value} {I : mm_I} {r : Int64} {I' : mm_I} (h : mm_Rn k as I (some (.long r)) I') (P : Int64 → mm_I → Prop) : mm_Ml k as I P = P r I' := by
  apply propext
  constructor
  · rintro ⟨r2, I2, h2, hP⟩
    obtain ⟨e1, rfl⟩ := mm_Rn_det h h2
    cases e1
    exact hP
  · exact fun hP => ⟨r, I', h, hP⟩
theorem mm_rf_inj {a b : Option Nat} (h : va_rf a = va_rf b) : a = b := by
  cases a <;> cases b <;> first | rfl | (cases h; rfl) | cases h
theorem mm_Mr_eq {k : Nat} {as : List Value} {I : mm_I} {r : Option Nat} {I' : mm_I} (h : mm_Rn k as I (some (va_rf r)) I') (P : Option Nat → mm_I → Prop) : mm_Mr k as I P = P r I' := by
  apply propext
  constructor
  · rintro ⟨r2, I2, h2, hP⟩
    obtain ⟨e1, rfl⟩ := mm_Rn_det h h2
    have e2 := mm_rf_inj (Option.some.inj e1)
    subst e2
    exact hP
  · exact fun hP => ⟨r, I', h, hP⟩
theorem mm_Mi_of {k : Nat} {as : List Value} {I : mm_I} {P : Int32 → mm_I → Prop} (h : mm_W k 0 (mm_ent (mm_mL k) as) [] I (mm_qi k P)) : mm_Mi k as I P := by
  obtain ⟨f, ⟨pc, ls, st, hh⟩, hr, r, I', h1, h2, h3⟩ := h
  simp only at h2
  subst h2
  exact ⟨r, I', ⟨f, pc, ls, st, hr, h1⟩, h3⟩
theorem mm_Mv_of {k : Nat} {as : List Value} {I : mm_I} {P : mm_I → Prop} (h : mm_W k 0 (mm_ent (mm_mL k) as) [] I (mm_qv k P)) : mm_Mv k as I P := by
  obtain ⟨f, ⟨pc, ls, st, hh⟩, hr, I', h1, h2, h3⟩ := h
  simp only at h2
  subst h2
  exact ⟨I', ⟨f, pc, ls, st, hr, h1⟩, h3⟩
theorem mm_Mf_of {k : Nat} {as : List Value} {I : mm_I} {P : UInt32 → mm_I → Prop} (h : mm_W k 0 (mm_ent (mm_mL k) as) [] I (mm_qf k P)) : mm_Mf k as I P := by
  obtain ⟨f, ⟨pc, ls, st, hh⟩, hr, r, I', h1, h2, h3⟩ := h
  simp only at h2
  subst h2
  exact ⟨r, I', ⟨f, pc, ls, st, hr, h1⟩, h3⟩
theorem mm_Ml_of {k : Nat} {as : List Value} {I : mm_I} {P : Int64 → mm_I → Prop} (h : mm_W k 0 (mm_ent (mm_mL k) as) [] I (mm_ql k P)) : mm_Ml k as I P := by
  obtain ⟨f, ⟨pc, ls, st, hh⟩, hr, r, I', h1, h2, h3⟩ := h
  simp only at h2
  subst h2
  exact ⟨r, I', ⟨f, pc, ls, st, hr, h1⟩, h3⟩
theorem mm_Mr_of {k : Nat} {as : List Value} {I : mm_I} {P : Option Nat → mm_I → Prop} (h : mm_W k 0 (mm_ent (mm_mL k) as) [] I (mm_qr k P)) : mm_Mr k as I P := by
  obtain ⟨f, ⟨pc, ls, st, hh⟩, hr, r, I', h1, h2, h3⟩ := h
  simp only at h2
  subst h2
  exact ⟨r, I', ⟨f, pc, ls, st, hr, h1⟩, h3⟩
theorem mm_Mi.im {k : Nat} {as : List Value} {I : mm_I} {P P' : Int32 → mm_I → Prop} (h : mm_Mi k as I P) (hp : ∀ r I', P r I' → P' r I') : mm_Mi k as I P' := by
  obtain ⟨r, I', h1, h2⟩ := h
  exact ⟨r, I', h1, hp r I' h2⟩
theorem mm_Mv.im {k : Nat} {as : List Value} {I : mm_I} {P P' : mm_I → Prop} (h : mm_Mv k as I P) (hp : ∀ I', P I' → P' I') : mm_Mv k as I P' := by
  obtain ⟨I', h1, h2⟩ := h
  exact ⟨I', h1, hp I' h2⟩
theorem mm_W.im {k pc : Nat} {ls : mm_Ls} {st : List Value} {I : mm_I} {Q Q' : mm_S → Prop} (h : mm_W k pc ls st I Q) (hp : ∀ s, Q s → Q' s) : mm_W k pc ls st I Q' := by
  obtain ⟨f, s, h1, h2⟩ := h
  exact ⟨f, s, h1, hp s h2⟩
section MMW
variable {k pc n p q : Nat} {ls ls' : mm_Ls} {st : List Value} {I : mm_I} {Q : mm_S → Prop}
theorem mm_W.step {ins : Instr} {len : Nat} {st' : List Value} {I' : mm_I} (hc : mm_cod k pc = some (ins, len, p, q)) (hk : mm_knd ins p = 0) (hs : mm_ins false k pc ins len p q ls st (mm_lay, I) = some (n, ls', st', (mm_lay, I'))) (H : mm_W k n ls' st' I' Q) : mm_W k pc ls st I Q := by
  obtain ⟨f, s', hr, hq⟩ := H
  exact ⟨f + 1, s', by rw [mm_run_succ, hc]; simp only [hk, hs]; exact hr, hq⟩
theorem mm_W.call {ins : Instr} {len : Nat} {as rest : List Value} {v : Option Value} {I' : mm_I} (hc : mm_cod k pc = some (ins, len, p, q)) (hk : mm_knd ins p = 1) (hcl : mm_call k p q st (mm_lay, I) = some (as, rest)) (hR : mm_Rn p as I v I') (hn : pc + 3 = n) (H : mm_W k n ls (v.toList ++ rest) I' Q) : mm_W k pc ls st I Q := by
  subst hn
  obtain ⟨f, s', hr, hq⟩ := H
  obtain ⟨g, pc', ls', st', h1, h2⟩ := hR
  refine ⟨max f g + 1, s', ?_, hq⟩
  rw [mm_run_succ, hc]
  simp only [hk, hcl, mm_run_le h1 (Nat.le_max_right f g), h2]
  exact mm_run_le hr (Nat.le_max_left f g)
theorem w_calli {ins : Instr} {len : Nat} {as rest : List Value} (hc : mm_cod k pc = some (ins, len, p, q)) (hk : mm_knd ins p = 1) (hcl : mm_call k p q st (mm_lay, I) = some (as, rest)) (hn : pc + 3 = n) (H : mm_Mi p as I (fun r I' => mm_W k n ls (.int r :: rest) I' Q)) : mm_W k pc ls st I Q := by
  obtain ⟨r, I', h1, h2⟩ := H
  exact mm_W.call hc hk hcl h1 hn h2
theorem w_callv {ins : Instr} {len : Nat} {as rest : List Value} (hc : mm_cod k pc = some (ins, len, p, q)) (hk : mm_knd ins p = 1) (hcl : mm_call k p q st (mm_lay, I) = some (as, rest)) (hn : pc + 3 = n) (H : mm_Mv p as I (fun I' => mm_W k n ls rest I' Q)) : mm_W k pc ls st I Q := by
  obtain ⟨I', h1, h2⟩ := H
  exact mm_W.call hc hk hcl h1 hn h2
theorem w_callf {ins : Instr} {len : Nat} {as rest : List Value} (hc : mm_cod k pc = some (ins, len, p, q)) (hk : mm_knd ins p = 1) (hcl : mm_call k p q st (mm_lay, I) = some (as, rest)) (hn : pc + 3 = n) (H : mm_Mf p as I (fun r I' => mm_W k n ls (.float r :: rest) I' Q)) : mm_W k pc ls st I Q := by
  obtain ⟨r, I', h1, h2⟩ := H
  exact mm_W.call hc hk hcl h1 hn h2
theorem w_calll {ins : Instr} {len : Nat} {as rest : List Value} (hc : mm_cod k pc = some (ins, len, p, q)) (hk : mm_knd ins p = 1) (hcl : mm_call k p q st (mm_lay, I) = some (as, rest)) (hn : pc + 3 = n) (H : mm_Ml p as I (fun r I' => mm_W k n ls (.long r :: rest) I' Q)) : mm_W k pc ls st I Q := by
  obtain ⟨r, I', h1, h2⟩ := H
  exact mm_W.call hc hk hcl h1 hn h2
theorem w_callr {ins : Instr} {len : Nat} {as rest : List Value} (hc : mm_cod k pc = some (ins, len, p, q)) (hk : mm_knd ins p = 1) (hcl : mm_call k p q st (mm_lay, I) = some (as, rest)) (hn : pc + 3 = n) (H : mm_Mr p as I (fun r I' => mm_W k n ls (va_rf r :: rest) I' Q)) : mm_W k pc ls st I Q := by
  obtain ⟨r, I', h1, h2⟩ := H
  exact mm_W.call hc hk hcl h1 hn h2
theorem mm_W.end {ins : Instr} {len : Nat} (hc : mm_cod k pc = some (ins, len, p, q)) (hk : mm_knd ins p = 2) (H : Q (pc, ls, st, (mm_lay, I))) : mm_W k pc ls st I Q :=
  ⟨1, _, by rw [mm_run_succ, hc]; simp only [hk], H⟩
theorem w_ireturn {x : Int32} {P : Int32 → mm_I → Prop} (hc : mm_cod k pc = some (.ireturn, 1, p, q)) (hr : mm_rk (mm_rt k) = 1) (H : P x I) : mm_W k pc ls [.int x] I (mm_qi k P) := by
  refine mm_W.end hc rfl ⟨x, I, ?_, rfl, H⟩
  simp only [mm_ret, hc, hr]
  rfl
theorem w_zreturn {x : Int32} {P : Int32 → mm_I → Prop} (hc : mm_cod k pc = some (.ireturn, 1, p, q)) (hr : mm_rk (mm_rt k) = 2) (H : (x = 0 ∨ x = 1) ∧ P x I) : mm_W k pc ls [.int x] I (mm_qi k P) := by
  refine mm_W.end hc rfl ⟨x, I, ?_, rfl, H.2⟩
  simp only [mm_ret, hc, hr]
  rcases H.1 with rfl | rfl <;> rfl
theorem w_vreturn {P : mm_I → Prop} (hc : mm_cod k pc = some (.return_, 1, p, q)) (hr : mm_rk (mm_rt k) = 0) (H : P I) : mm_W k pc ls [] I (mm_qv k P) := by
  refine mm_W.end hc rfl ⟨I, ?_, rfl, H⟩
  simp only [mm_ret, hc, hr]
  rfl
theorem w_freturn {x : UInt32} {P : UInt32 → mm_I → Prop} (hc : mm_cod k pc = some (.freturn, 1, p, q)) (hr : mm_rk (mm_rt k) = 3) (H : P x I) : mm_W k pc ls [.float x] I (mm_qf k P) := by
  refine mm_W.end hc rfl ⟨x, I, ?_, rfl, H⟩
  simp only [mm_ret, hc, hr]
  rfl
theorem w_lreturn {x : Int64} {P : Int64 → mm_I → Prop} (hc : mm_cod k pc = some (.lreturn, 1, p, q)) (hr : mm_rk (mm_rt k) = 4) (H : P x I) : mm_W k pc ls [.long x] I (mm_ql k P) := by
  refine mm_W.end hc rfl ⟨x, I, ?_, rfl, H⟩
  simp only [mm_ret, hc, hr]
  rfl
theorem w_areturn {x : Option Nat} {P : Option Nat → mm_I → Prop} (hc : mm_cod k pc = some (.areturn, 1, p, q)) (hr : mm_rk (mm_rt k) = 6) (H : P x I) : mm_W k pc ls [va_rf x] I (mm_qr k P) := by
  refine mm_W.end hc rfl ⟨x, I, ?_, rfl, H⟩
  cases x <;> (simp only [mm_ret, hc, hr, va_rf]; rfl)
theorem w_iconst {i : Int} {v : Int32} (hc : mm_cod k pc = some (.iconst i, 1, p, q)) (hv : Int32.ofInt i = v) (hn : pc + 1 = n) (H : mm_W k n ls (.int v :: st) I Q) : mm_W k pc ls st I Q := by
  subst hn
  subst hv
  exact mm_W.step hc rfl rfl H
theorem w_bipush {i : Int} {v : Int32} (hc : mm_cod k pc = some (.bipush i, 2, p, q)) (hv : (Int8.ofInt i).toInt32 = v) (hn : pc + 2 = n) (H : mm_W k n ls (.int v :: st) I Q) : mm_W k pc ls st I Q := by
  subst hn
  subst hv
  exact mm_W.step hc rfl rfl H
theorem w_sipush {i : Int} {v : Int32} (hc : mm_cod k pc = some (.sipush i, 3, p, q)) (hv : (Int16.ofInt i).toInt32 = v) (hn : pc + 3 = n) (H : mm_W k n ls (.int v :: st) I Q) : mm_W k pc ls st I Q := by
  subst hn
  subst hv
  exact mm_W.step hc rfl rfl H
theorem w_lconst {i : Fin 2} {v : Int64} (hc : mm_cod k pc = some (.lconst i, 1, p, q)) (hv : Int64.ofNat (i : Nat) = v) (hn : pc + 1 = n) (H : mm_W k n ls (.long v :: st) I Q) : mm_W k pc ls st I Q := by
  subst hn
  subst hv
  exact mm_W.step hc rfl rfl H
theorem w_fconst0 (hc : mm_cod k pc = some (.fconst 0, 1, p, q)) (hn : pc + 1 = n) (H : mm_W k n ls (.float FP.fconst0 :: st) I Q) : mm_W k pc ls st I Q := by
  subst hn
  exact mm_W.step hc rfl rfl H
theorem w_fconst1 (hc : mm_cod k pc = some (.fconst 1, 1, p, q)) (hn : pc + 1 = n) (H : mm_W k n ls (.float FP.fconst1 :: st) I Q) : mm_W k pc ls st I Q := by
  subst hn
  exact mm_W.step hc rfl rfl H
theorem w_fconst2 (hc : mm_cod k pc = some (.fconst 2, 1, p, q)) (hn : pc + 1 = n) (H : mm_W k n ls (.float FP.fconst2 :: st) I Q) : mm_W k pc ls st I Q := by
  subst hn
  exact mm_W.step hc rfl rfl H
theorem w_dconst0 (hc : mm_cod k pc = some (.dconst 0, 1, p, q)) (hn : pc + 1 = n) (H : mm_W k n ls (.double FP.dconst0 :: st) I Q) : mm_W k pc ls st I Q := by
  subst hn
  exact mm_W.step hc rfl rfl H
theorem w_dconst1 (hc : mm_cod k pc = some (.dconst 1, 1, p, q)) (hn : pc + 1 = n) (H : mm_W k n ls (.double FP.dconst1 :: st) I Q) : mm_W k pc ls st I Q := by
  subst hn
  exact mm_W.step hc rfl rfl H
theorem w_null (hc : mm_cod k pc = some (.aconst_null, 1, p, q)) (hn : pc + 1 = n) (H : mm_W k n ls (.null :: st) I Q) : mm_W k pc ls st I Q := by
  subst hn
  exact mm_W.step hc rfl rfl H
theorem w_ldc {ix : Nat} {v : Int32} (hc : mm_cod k pc = some (.ldc ix, 2, p, 0)) (hv : Int32.ofNat p = v) (hn : pc + 2 = n) (H : mm_W k n ls (.int v :: st) I Q) : mm_W k pc ls st I Q := by
  subst hn
  subst hv
  exact mm_W.step hc rfl rfl H
theorem w_ldcf {ix : Nat} {v : UInt32} (hc : mm_cod k pc = some (.ldc ix, 2, p, 1)) (hv : UInt32.ofNat p = v) (hn : pc + 2 = n) (H : mm_W k n ls (.float v :: st) I Q) : mm_W k pc ls st I Q := by
  subst hn
  subst hv
  exact mm_W.step hc rfl rfl H
theorem w_ldc_w {ix : Nat} {v : Int32} (hc : mm_cod k pc = some (.ldc_w ix, 3, p, 0)) (hv : Int32.ofNat p = v) (hn : pc + 3 = n) (H : mm_W k n ls (.int v :: st) I Q) : mm_W k pc ls st I Q := by
  subst hn
  subst hv
  exact mm_W.step hc rfl rfl H
theorem w_ldc_wf {ix : Nat} {v : UInt32} (hc : mm_cod k pc = some (.ldc_w ix, 3, p, 1)) (hv : UInt32.ofNat p = v) (hn : pc + 3 = n) (H : mm_W k n ls (.float v :: st) I Q) : mm_W k pc ls st I Q := by
  subst hn
  subst hv
  exact mm_W.step hc rfl rfl H
theorem w_ldc2_w {ix : Nat} {v : Int64} (hc : mm_cod k pc = some (.ldc2_w ix, 3, p, 0)) (hv : Int64.ofNat p = v) (hn : pc + 3 = n) (H : mm_W k n ls (.long v :: st) I Q) : mm_W k pc ls st I Q := by
  subst hn
  subst hv
  exact mm_W.step hc rfl rfl H
theorem w_ldc2_wd {ix : Nat} {v : UInt64} (hc : mm_cod k pc = some (.ldc2_w ix, 3, p, 1)) (hv : UInt64.ofNat p = v) (hn : pc + 3 = n) (H : mm_W k n ls (.double v :: st) I Q) : mm_W k pc ls st I Q := by
  subst hn
  subst hv
  exact mm_W.step hc rfl rfl H
theorem w_iload {i : Nat} {x : Int32} (hc : mm_cod k pc = some (.iload i, 2, p, q)) (hl : mm_ld ls i = some (.int x)) (hn : pc + 2 = n) (H : mm_W k n ls (.int x :: st) I Q) : mm_W k pc ls st I Q := by
  subst hn
  exact mm_W.step hc rfl (by simp only [mm_ins, mm_ldv, hl]; rfl) H
theorem w_iload_n {i : Fin 4} {x : Int32} (hc : mm_cod k pc = some (.iload_n i, 1, p, q)) (hl : mm_ld ls i = some (.int x)) (hn : pc + 1 = n) (H : mm_W k n ls (.int x :: st) I Q) : mm_W k pc ls st I Q := by
  subst hn
  exact mm_W.step hc rfl (by simp only [mm_ins, mm_ldv, hl]; rfl) H
theorem w_istore {i : Nat} {x : Int32} (hc : mm_cod k pc = some (.istore i, 2, p, q)) (hb : Nat.ble ((i : Nat) + 1) ls.length = true) (hl : mm_s1 ls i (.int x) = ls') (hn : pc + 2 = n) (H : mm_W k n ls' st I Q) : mm_W k pc ls (.int x :: st) I Q := by
  subst hn
  subst hl
  exact mm_W.step hc rfl (by simp only [mm_ins, mm_stv, hb, mm_isI]; rfl) H
theorem w_istore_n {i : Fin 4} {x : Int32} (hc : mm_cod k pc = some (.istore_n i, 1, p, q)) (hb : Nat.ble ((i : Nat) + 1) ls.length = true) (hl : mm_s1 ls i (.int x) = ls') (hn : pc + 1 = n) (H : mm_W k n ls' st I Q) : mm_W k pc ls (.int x :: st) I Q := by
  subst hn
  subst hl
  exact mm_W.step hc rfl (by simp only [mm_ins, mm_stv, hb, mm_isI]; rfl) H
theorem w_lload {i : Nat} {x : Int64} (hc : mm_cod k pc = some (.lload i, 2, p, q)) (hl : mm_ld ls i = some (.long x)) (hn : pc + 2 = n) (H : mm_W k n ls (.long x :: st) I Q) : mm_W k pc ls st I Q := by
  subst hn
  exact mm_W.step hc rfl (by simp only [mm_ins, mm_ldv, hl]; rfl) H
theorem w_lload_n {i : Fin 4} {x : Int64} (hc : mm_cod k pc = some (.lload_n i, 1, p, q)) (hl : mm_ld ls i = some (.long x)) (hn : pc + 1 = n) (H : mm_W k n ls (.long x :: st) I Q) : mm_W k pc ls st I Q := by
  subst hn
  exact mm_W.step hc rfl (by simp only [mm_ins, mm_ldv, hl]; rfl) H
theorem w_lstore {i : Nat} {x : Int64} (hc : mm_cod k pc = some (.lstore i, 2, p, q)) (hb : Nat.ble ((i : Nat) + 2) ls.length = true) (hl : mm_s2 ls i (.long x) = ls') (hn : pc + 2 = n) (H : mm_W k n ls' st I Q) : mm_W k pc ls (.long x :: st) I Q := by
  subst hn
  subst hl
  exact mm_W.step hc rfl (by simp only [mm_ins, mm_stv, hb, mm_isL]; rfl) H
theorem w_lstore_n {i : Fin 4} {x : Int64} (hc : mm_cod k pc = some (.lstore_n i, 1, p, q)) (hb : Nat.ble ((i : Nat) + 2) ls.length = true) (hl : mm_s2 ls i (.long x) = ls') (hn : pc + 1 = n) (H : mm_W k n ls' st I Q) : mm_W k pc ls (.long x :: st) I Q := by
  subst hn
  subst hl
  exact mm_W.step hc rfl (by simp only [mm_ins, mm_stv, hb, mm_isL]; rfl) H
theorem w_fload {i : Nat} {x : UInt32} (hc : mm_cod k pc = some (.fload i, 2, p, q)) (hl : mm_ld ls i = some (.float x)) (hn : pc + 2 = n) (H : mm_W k n ls (.float x :: st) I Q) : mm_W k pc ls st I Q := by
  subst hn
  exact mm_W.step hc rfl (by simp only [mm_ins, mm_ldv, hl]; rfl) H
theorem w_fload_n {i : Fin 4} {x : UInt32} (hc : mm_cod k pc = some (.fload_n i, 1, p, q)) (hl : mm_ld ls i = some (.float x)) (hn : pc + 1 = n) (H : mm_W k n ls (.float x :: st) I Q) : mm_W k pc ls st I Q := by
  subst hn
  exact mm_W.step hc rfl (by simp only [mm_ins, mm_ldv, hl]; rfl) H
theorem w_fstore {i : Nat} {x : UInt32} (hc : mm_cod k pc = some (.fstore i, 2, p, q)) (hb : Nat.ble ((i : Nat) + 1) ls.length = true) (hl : mm_s1 ls i (.float x) = ls') (hn : pc + 2 = n) (H : mm_W k n ls' st I Q) : mm_W k pc ls (.float x :: st) I Q := by
  subst hn
  subst hl
  exact mm_W.step hc rfl (by simp only [mm_ins, mm_stv, hb, mm_isF]; rfl) H
theorem w_fstore_n {i : Fin 4} {x : UInt32} (hc : mm_cod k pc = some (.fstore_n i, 1, p, q)) (hb : Nat.ble ((i : Nat) + 1) ls.length = true) (hl : mm_s1 ls i (.float x) = ls') (hn : pc + 1 = n) (H : mm_W k n ls' st I Q) : mm_W k pc ls (.float x :: st) I Q := by
  subst hn
  subst hl
  exact mm_W.step hc rfl (by simp only [mm_ins, mm_stv, hb, mm_isF]; rfl) H
theorem w_dload {i : Nat} {x : UInt64} (hc : mm_cod k pc = some (.dload i, 2, p, q)) (hl : mm_ld ls i = some (.double x)) (hn : pc + 2 = n) (H : mm_W k n ls (.double x :: st) I Q) : mm_W k pc ls st I Q := by
  subst hn
  exact mm_W.step hc rfl (by simp only [mm_ins, mm_ldv, hl]; rfl) H
theorem w_dload_n {i : Fin 4} {x : UInt64} (hc : mm_cod k pc = some (.dload_n i, 1, p, q)) (hl : mm_ld ls i = some (.double x)) (hn : pc + 1 = n) (H : mm_W k n ls (.double x :: st) I Q) : mm_W k pc ls st I Q := by
  subst hn
  exact mm_W.step hc rfl (by simp only [mm_ins, mm_ldv, hl]; rfl) H
theorem w_dstore {i : Nat} {x : UInt64} (hc : mm_cod k pc = some (.dstore i, 2, p, q)) (hb : Nat.ble ((i : Nat) + 2) ls.length = true) (hl : mm_s2 ls i (.double x) = ls') (hn : pc + 2 = n) (H : mm_W k n ls' st I Q) : mm_W k pc ls (.double x :: st) I Q := by
  subst hn
  subst hl
  exact mm_W.step hc rfl (by simp only [mm_ins, mm_stv, hb, mm_isD]; rfl) H
theorem w_dstore_n {i : Fin 4} {x : UInt64} (hc : mm_cod k pc = some (.dstore_n i, 1, p, q)) (hb : Nat.ble ((i : Nat) + 2) ls.length = true) (hl : mm_s2 ls i (.double x) = ls') (hn : pc + 1 = n) (H : mm_W k n ls' st I Q) : mm_W k pc ls (.double x :: st) I Q := by
  subst hn
  subst hl
  exact mm_W.step hc rfl (by simp only [mm_ins, mm_stv, hb, mm_isD]; rfl) H
theorem w_aload {i : Nat} {x : Option Nat} (hc : mm_cod k pc = some (.aload i, 2, p, q)) (hl : mm_ld ls i = some (va_rf x)) (hn : pc + 2 = n) (H : mm_W k n ls (va_rf x :: st) I Q) : mm_W k pc ls st I Q := by
  subst hn
  refine mm_W.step hc rfl ?_ H
  simp only [mm_ins, mm_ldv, hl]
  cases x <;> rfl
theorem w_aloadR {i : Nat} {x : Nat} (hc : mm_cod k pc = some (.aload i, 2, p, q)) (hl : mm_ld ls i = some (.ref x)) (hn : pc + 2 = n) (H : mm_W k n ls (.ref x :: st) I Q) : mm_W k pc ls st I Q := w_aload (x := some x) hc hl hn H
theorem w_aload_n {i : Fin 4} {x : Option Nat} (hc : mm_cod k pc = some (.aload_n i, 1, p, q)) (hl : mm_ld ls i = some (va_rf x)) (hn : pc + 1 = n) (H : mm_W k n ls (va_rf x :: st) I Q) : mm_W k pc ls st I Q := by
  subst hn
  refine mm_W.step hc rfl ?_ H
  simp only [mm_ins, mm_ldv, hl]
  cases x <;> rfl
theorem w_aload_nR {i : Fin 4} {x : Nat} (hc : mm_cod k pc = some (.aload_n i, 1, p, q)) (hl : mm_ld ls i = some (.ref x)) (hn : pc + 1 = n) (H : mm_W k n ls (.ref x :: st) I Q) : mm_W k pc ls st I Q := w_aload_n (x := some x) hc hl hn H
theorem w_astore {i : Nat} {x : Option Nat} (hc : mm_cod k pc = some (.astore i, 2, p, q)) (hb : Nat.ble ((i : Nat) + 1) ls.length = true) (hl : mm_s1 ls i (va_rf x) = ls') (hn : pc + 2 = n) (H : mm_W k n ls' st I Q) : mm_W k pc ls (va_rf x :: st) I Q := by
  subst hn
  subst hl
  refine mm_W.step hc rfl ?_ H
  simp only [mm_ins, mm_stv, hb]
  cases x <;> rfl
theorem w_astore_n {i : Fin 4} {x : Option Nat} (hc : mm_cod k pc = some (.astore_n i, 1, p, q)) (hb : Nat.ble ((i : Nat) + 1) ls.length = true) (hl : mm_s1 ls i (va_rf x) = ls') (hn : pc + 1 = n) (H : mm_W k n ls' st I Q) : mm_W k pc ls (va_rf x :: st) I Q := by
  subst hn
  subst hl
  refine mm_W.step hc rfl ?_ H
  simp only [mm_ins, mm_stv, hb]
  cases x <;> rfl
theorem w_iinc {i : Nat} {cc : Int} {x y : Int32} (hc : mm_cod k pc = some (.iinc i cc, 3, p, q)) (hl : mm_ld ls i = some (.int x)) (hy : x + Int32.ofInt cc = y) (hs : mm_s1 ls i (.int y) = ls') (hn : pc + 3 = n) (H : mm_W k n ls' st I Q) : mm_W k pc ls st I Q := by
  subst hn
  subst hy
  subst hs
  exact mm_W.step hc rfl (by simp only [mm_ins, hl]; rfl) H
theorem w_iadd {x y : Int32} (hc : mm_cod k pc = some (.iadd, 1, p, q)) (hn : pc + 1 = n) (H : mm_W k n ls (.int (x + y) :: st) I Q) : mm_W k pc ls (.int y :: .int x :: st) I Q := by
  subst hn
  exact mm_W.step hc rfl rfl H
theorem w_isub {x y : Int32} (hc : mm_cod k pc = some (.isub, 1, p, q)) (hn : pc + 1 = n) (H : mm_W k n ls (.int (x - y) :: st) I Q) : mm_W k pc ls (.int y :: .int x :: st) I Q := by
  subst hn
  exact mm_W.step hc rfl rfl H
theorem w_imul {x y : Int32} (hc : mm_cod k pc = some (.imul, 1, p, q)) (hn : pc + 1 = n) (H : mm_W k n ls (.int (x * y) :: st) I Q) : mm_W k pc ls (.int y :: .int x :: st) I Q := by
  subst hn
  exact mm_W.step hc rfl rfl H
theorem w_iand {x y : Int32} (hc : mm_cod k pc = some (.iand, 1, p, q)) (hn : pc + 1 = n) (H : mm_W k n ls (.int (x &&& y) :: st) I Q) : mm_W k pc ls (.int y :: .int x :: st) I Q := by
  subst hn
  exact mm_W.step hc rfl rfl H
theorem w_ior {x y : Int32} (hc : mm_cod k pc = some (.ior, 1, p, q)) (hn : pc + 1 = n) (H : mm_W k n ls (.int (x ||| y) :: st) I Q) : mm_W k pc ls (.int y :: .int x :: st) I Q := by
  subst hn
  exact mm_W.step hc rfl rfl H
theorem w_ixor {x y : Int32} (hc : mm_cod k pc = some (.ixor, 1, p, q)) (hn : pc + 1 = n) (H : mm_W k n ls (.int (x ^^^ y) :: st) I Q) : mm_W k pc ls (.int y :: .int x :: st) I Q := by
  subst hn
  exact mm_W.step hc rfl rfl H
theorem w_ishl {x y : Int32} (hc : mm_cod k pc = some (.ishl, 1, p, q)) (hn : pc + 1 = n) (H : mm_W k n ls (.int (x <<< (y &&& 31)) :: st) I Q) : mm_W k pc ls (.int y :: .int x :: st) I Q := by
  subst hn
  exact mm_W.step hc rfl rfl H
theorem w_ishr {x y : Int32} (hc : mm_cod k pc = some (.ishr, 1, p, q)) (hn : pc + 1 = n) (H : mm_W k n ls (.int (x >>> (y &&& 31)) :: st) I Q) : mm_W k pc ls (.int y :: .int x :: st) I Q := by
  subst hn
  exact mm_W.step hc rfl rfl H
theorem w_iushr {x y : Int32} (hc : mm_cod k pc = some (.iushr, 1, p, q)) (hn : pc + 1 = n) (H : mm_W k n ls (.int ((x.toUInt32 >>> (y.toUInt32 &&& Int32.toUInt32 31)).toInt32) :: st) I Q) : mm_W k pc ls (.int y :: .int x :: st) I Q := by
  subst hn
  exact mm_W.step hc rfl rfl H
theorem w_idiv {x y : Int32} (hc : mm_cod k pc = some (.idiv, 1, p, q)) (hn : pc + 1 = n) (H : ¬ y = 0 ∧ mm_W k n ls (.int (x / y) :: st) I Q) : mm_W k pc ls (.int y :: .int x :: st) I Q := by
  subst hn
  exact mm_W.step hc rfl (by simp only [mm_ins, mm_dv, if_neg H.1]) H.2
theorem w_irem {x y : Int32} (hc : mm_cod k pc = some (.irem, 1, p, q)) (hn : pc + 1 = n) (H : ¬ y = 0 ∧ mm_W k n ls (.int (x - x / y * y) :: st) I Q) : mm_W k pc ls (.int y :: .int x :: st) I Q := by
  subst hn
  exact mm_W.step hc rfl (by simp only [mm_ins, mm_dv, if_neg H.1]) H.2
theorem w_ineg {x : Int32} (hc : mm_cod k pc = some (.ineg, 1, p, q)) (hn : pc + 1 = n) (H : mm_W k n ls (.int (-x) :: st) I Q) : mm_W k pc ls (.int x :: st) I Q := by
  subst hn
  exact mm_W.step hc rfl rfl H
theorem w_i2l {x : Int32} (hc : mm_cod k pc = some (.i2l, 1, p, q)) (hn : pc + 1 = n) (H : mm_W k n ls (.long (x.toInt64) :: st) I Q) : mm_W k pc ls (.int x :: st) I Q := by
  subst hn
  exact mm_W.step hc rfl rfl H
theorem w_i2b {x : Int32} (hc : mm_cod k pc = some (.i2b, 1, p, q)) (hn : pc + 1 = n) (H : mm_W k n ls (.int (x.toInt8.toInt32) :: st) I Q) : mm_W k pc ls (.int x :: st) I Q := by
  subst hn
  exact mm_W.step hc rfl rfl H
theorem w_i2f {x : Int32} (hc : mm_cod k pc = some (.i2f, 1, p, q)) (hn : pc + 1 = n) (H : mm_W k n ls (.float (FP.i2f x) :: st) I Q) : mm_W k pc ls (.int x :: st) I Q := by
  subst hn
  exact mm_W.step hc rfl rfl H
theorem w_i2d {x : Int32} (hc : mm_cod k pc = some (.i2d, 1, p, q)) (hn : pc + 1 = n) (H : mm_W k n ls (.double (FP.i2d x) :: st) I Q) : mm_W k pc ls (.int x :: st) I Q := by
  subst hn
  exact mm_W.step hc rfl rfl H
theorem w_l2i {x : Int64} (hc : mm_cod k pc = some (.l2i, 1, p, q)) (hn : pc + 1 = n) (H : mm_W k n ls (.int (x.toInt32) :: st) I Q) : mm_W k pc ls (.long x :: st) I Q := by
  subst hn
  exact mm_W.step hc rfl rfl H
theorem w_l2d {x : Int64} (hc : mm_cod k pc = some (.l2d, 1, p, q)) (hn : pc + 1 = n) (H : mm_W k n ls (.double (FP.l2d x) :: st) I Q) : mm_W k pc ls (.long x :: st) I Q := by
  subst hn
  exact mm_W.step hc rfl rfl H
theorem w_f2i {x : UInt32} (hc : mm_cod k pc = some (.f2i, 1, p, q)) (hn : pc + 1 = n) (H : mm_W k n ls (.int (FP.f2i x) :: st) I Q) : mm_W k pc ls (.float x :: st) I Q := by
  subst hn
  exact mm_W.step hc rfl rfl H
theorem w_d2l {x : UInt64} (hc : mm_cod k pc = some (.d2l, 1, p, q)) (hn : pc + 1 = n) (H : mm_W k n ls (.long (FP.d2l x) :: st) I Q) : mm_W k pc ls (.double x :: st) I Q := by
  subst hn
  exact mm_W.step hc rfl rfl H
theorem w_ladd {x y : Int64} (hc : mm_cod k pc = some (.ladd, 1, p, q)) (hn : pc + 1 = n) (H : mm_W k n ls (.long (x + y) :: st) I Q) : mm_W k pc ls (.long y :: .long x :: st) I Q := by
  subst hn
  exact mm_W.step hc rfl rfl H
theorem w_lsub {x y : Int64} (hc : mm_cod k pc = some (.lsub, 1, p, q)) (hn : pc + 1 = n) (H : mm_W k n ls (.long (x - y) :: st) I Q) : mm_W k pc ls (.long y :: .long x :: st) I Q := by
  subst hn
  exact mm_W.step hc rfl rfl H
theorem w_lmul {x y : Int64} (hc : mm_cod k pc = some (.lmul, 1, p, q)) (hn : pc + 1 = n) (H : mm_W k n ls (.long (x * y) :: st) I Q) : mm_W k pc ls (.long y :: .long x :: st) I Q := by
  subst hn
  exact mm_W.step hc rfl rfl H
theorem w_land {x y : Int64} (hc : mm_cod k pc = some (.land, 1, p, q)) (hn : pc + 1 = n) (H : mm_W k n ls (.long (x &&& y) :: st) I Q) : mm_W k pc ls (.long y :: .long x :: st) I Q := by
  subst hn
  exact mm_W.step hc rfl rfl H
theorem w_lor {x y : Int64} (hc : mm_cod k pc = some (.lor, 1, p, q)) (hn : pc + 1 = n) (H : mm_W k n ls (.long (x ||| y) :: st) I Q) : mm_W k pc ls (.long y :: .long x :: st) I Q := by
  subst hn
  exact mm_W.step hc rfl rfl H
theorem w_lcmp {x y : Int64} (hc : mm_cod k pc = some (.lcmp, 1, p, q)) (hn : pc + 1 = n) (H : mm_W k n ls (.int (lg_cmp x y) :: st) I Q) : mm_W k pc ls (.long y :: .long x :: st) I Q := by
  subst hn
  exact mm_W.step hc rfl rfl H
theorem w_lshl {x : Int64} {y : Int32} (hc : mm_cod k pc = some (.lshl, 1, p, q)) (hn : pc + 1 = n) (H : mm_W k n ls (.long (x <<< (y.toInt64 &&& 63)) :: st) I Q) : mm_W k pc ls (.int y :: .long x :: st) I Q := by
  subst hn
  exact mm_W.step hc rfl rfl H
theorem w_lshr {x : Int64} {y : Int32} (hc : mm_cod k pc = some (.lshr, 1, p, q)) (hn : pc + 1 = n) (H : mm_W k n ls (.long (x >>> (y.toInt64 &&& 63)) :: st) I Q) : mm_W k pc ls (.int y :: .long x :: st) I Q := by
  subst hn
  exact mm_W.step hc rfl rfl H
theorem w_lushr {x : Int64} {y : Int32} (hc : mm_cod k pc = some (.lushr, 1, p, q)) (hn : pc + 1 = n) (H : mm_W k n ls (.long ((x.toUInt64 >>> (y.toInt64.toUInt64 &&& Int64.toUInt64 63)).toInt64) :: st) I Q) : mm_W k pc ls (.int y :: .long x :: st) I Q := by
  subst hn
  exact mm_W.step hc rfl rfl H
theorem w_fdiv {x y : UInt32} (hc : mm_cod k pc = some (.fdiv, 1, p, q)) (hn : pc + 1 = n) (H : vf_n32 (FP.fdiv x y) ∧ mm_W k n ls (.float (FP.fdiv x y) :: st) I Q) : mm_W k pc ls (.float y :: .float x :: st) I Q := by
  subst hn
  exact mm_W.step hc rfl (if_pos H.1) H.2
theorem w_fmul {x y : UInt32} (hc : mm_cod k pc = some (.fmul, 1, p, q)) (hn : pc + 1 = n) (H : vf_n32 (FP.fmul x y) ∧ mm_W k n ls (.float (FP.fmul x y) :: st) I Q) : mm_W k pc ls (.float y :: .float x :: st) I Q := by
  subst hn
  exact mm_W.step hc rfl (if_pos H.1) H.2
theorem w_ddiv {x y : UInt64} (hc : mm_cod k pc = some (.ddiv, 1, p, q)) (hn : pc + 1 = n) (H : vf_n64 (FP.ddiv x y) ∧ mm_W k n ls (.double (FP.ddiv x y) :: st) I Q) : mm_W k pc ls (.double y :: .double x :: st) I Q := by
  subst hn
  exact mm_W.step hc rfl (if_pos H.1) H.2
theorem w_dmul {x y : UInt64} (hc : mm_cod k pc = some (.dmul, 1, p, q)) (hn : pc + 1 = n) (H : vf_n64 (FP.dmul x y) ∧ mm_W k n ls (.double (FP.dmul x y) :: st) I Q) : mm_W k pc ls (.double y :: .double x :: st) I Q := by
  subst hn
  exact mm_W.step hc rfl (if_pos H.1) H.2
theorem w_fcmp {x y : UInt32} {o : CmpOp} (hc : mm_cod k pc = some (.fcmp o, 1, p, q)) (hn : pc + 1 = n) (H : mm_W k n ls (.int (Op.cmpValue (FP.fcmp x y) o) :: st) I Q) : mm_W k pc ls (.float y :: .float x :: st) I Q := by
  subst hn
  exact mm_W.step hc rfl rfl H
theorem w_dcmp {x y : UInt64} {o : CmpOp} (hc : mm_cod k pc = some (.dcmp o, 1, p, q)) (hn : pc + 1 = n) (H : mm_W k n ls (.int (Op.cmpValue (FP.dcmp x y) o) :: st) I Q) : mm_W k pc ls (.double y :: .double x :: st) I Q := by
  subst hn
  exact mm_W.step hc rfl rfl H
theorem w_dup {v : Value} (hc : mm_cod k pc = some (.dup, 1, p, q)) (hv : Nat.beq v.category 1 = true) (hn : pc + 1 = n) (H : mm_W k n ls (v :: v :: st) I Q) : mm_W k pc ls (v :: st) I Q := by
  subst hn
  exact mm_W.step hc rfl (by simp only [mm_ins, hv, cond_true]) H
theorem w_pop {v : Value} (hc : mm_cod k pc = some (.pop, 1, p, q)) (hv : Nat.beq v.category 1 = true) (hn : pc + 1 = n) (H : mm_W k n ls st I Q) : mm_W k pc ls (v :: st) I Q := by
  subst hn
  exact mm_W.step hc rfl (by simp only [mm_ins, hv, cond_true]) H
theorem w_dup2 {v w : Value} (hc : mm_cod k pc = some (.dup2, 1, p, q)) (hv : (Nat.beq v.category 1 && Nat.beq w.category 1) = true) (hn : pc + 1 = n) (H : mm_W k n ls (v :: w :: v :: w :: st) I Q) : mm_W k pc ls (v :: w :: st) I Q := by
  subst hn
  exact mm_W.step hc rfl (by simp only [mm_ins, hv, cond_true]) H
theorem w_goto {off : Int} (hc : mm_cod k pc = some (.goto off, 3, p, q)) (H : mm_W k p ls st I Q) : mm_W k pc ls st I Q := mm_W.step hc rfl rfl H
theorem fa_nlt {a b : Int32} (h : b ≤ a) : ¬ a < b := by
  rw [Int32.lt_iff_toInt_lt]; rw [Int32.le_iff_toInt_le] at h; omega
theorem fa_nle {a b : Int32} (h : b < a) : ¬ a ≤ b := by
  rw [Int32.le_iff_toInt_le]; rw [Int32.lt_iff_toInt_lt] at h; omega
theorem fa_nlt' {a b : Int32} (h : ¬ a < b) : b ≤ a := by
  rw [Int32.lt_iff_toInt_lt] at h; rw [Int32.le_iff_toInt_le]; omega
theorem fa_nle' {a b : Int32} (h : ¬ a ≤ b) : b < a := by
  rw [Int32.le_iff_toInt_le] at h; rw [Int32.lt_iff_toInt_lt]; omega
theorem w_if_eq {x : Int32} {off : Int} (hc : mm_cod k pc = some (.ifCond .eq off, 3, p, q)) (hn : pc + 3 = n) (H : (x = 0 → mm_W k p ls st I Q) ∧ (¬ x = 0 → mm_W k n ls st I Q)) : mm_W k pc ls (.int x :: st) I Q := by
  subst hn
  by_cases h : x = 0
  · exact mm_W.step (n := p) hc rfl (by simp only [mm_ins, mm_bi, mm_cI, decide_eq_true h, cond_true]) (H.1 h)
  · exact mm_W.step (n := pc + 3) hc rfl (by simp only [mm_ins, mm_bi, mm_cI, decide_eq_false h, cond_false]) (H.2 h)
theorem w_icmp_eq {x y : Int32} {off : Int} (hc : mm_cod k pc = some (.if_icmp .eq off, 3, p, q)) (hn : pc + 3 = n) (H : (x = y → mm_W k p ls st I Q) ∧ (¬ x = y → mm_W k n ls st I Q)) : mm_W k pc ls (.int y :: .int x :: st) I Q := by
  subst hn
  by_cases h : x = y
  · exact mm_W.step (n := p) hc rfl (by simp only [mm_ins, mm_bi2, mm_cI, decide_eq_true h, cond_true]) (H.1 h)
  · exact mm_W.step (n := pc + 3) hc rfl (by simp only [mm_ins, mm_bi2, mm_cI, decide_eq_false h, cond_false]) (H.2 h)
theorem w_if_ne {x : Int32} {off : Int} (hc : mm_cod k pc = some (.ifCond .ne off, 3, p, q)) (hn : pc + 3 = n) (H : (¬ x = 0 → mm_W k p ls st I Q) ∧ (x = 0 → mm_W k n ls st I Q)) : mm_W k pc ls (.int x :: st) I Q := by
  subst hn
  by_cases h : ¬ x = 0
  · exact mm_W.step (n := p) hc rfl (by simp only [mm_ins, mm_bi, mm_cI, decide_eq_true h, cond_true]) (H.1 h)
  · exact mm_W.step (n := pc + 3) hc rfl (by simp only [mm_ins, mm_bi, mm_cI, decide_eq_false h, cond_false]) (H.2 (Decidable.not_not.mp h))
theorem w_icmp_ne {x y : Int32} {off : Int} (hc : mm_cod k pc = some (.if_icmp .ne off, 3, p, q)) (hn : pc + 3 = n) (H : (¬ x = y → mm_W k p ls st I Q) ∧ (x = y → mm_W k n ls st I Q)) : mm_W k pc ls (.int y :: .int x :: st) I Q := by
  subst hn
  by_cases h : ¬ x = y
  · exact mm_W.step (n := p) hc rfl (by simp only [mm_ins, mm_bi2, mm_cI, decide_eq_true h, cond_true]) (H.1 h)
  · exact mm_W.step (n := pc + 3) hc rfl (by simp only [mm_ins, mm_bi2, mm_cI, decide_eq_false h, cond_false]) (H.2 (Decidable.not_not.mp h))
theorem w_if_lt {x : Int32} {off : Int} (hc : mm_cod k pc = some (.ifCond .lt off, 3, p, q)) (hn : pc + 3 = n) (H : (x < 0 → mm_W k p ls st I Q) ∧ (0 ≤ x → mm_W k n ls st I Q)) : mm_W k pc ls (.int x :: st) I Q := by
  subst hn
  by_cases h : x < 0
  · exact mm_W.step (n := p) hc rfl (by simp only [mm_ins, mm_bi, mm_cI, decide_eq_true h, cond_true]) (H.1 h)
  · exact mm_W.step (n := pc + 3) hc rfl (by simp only [mm_ins, mm_bi, mm_cI, decide_eq_false h, cond_false]) (H.2 (fa_nlt' h))
theorem w_icmp_lt {x y : Int32} {off : Int} (hc : mm_cod k pc = some (.if_icmp .lt off, 3, p, q)) (hn : pc + 3 = n) (H : (x < y → mm_W k p ls st I Q) ∧ (y ≤ x → mm_W k n ls st I Q)) : mm_W k pc ls (.int y :: .int x :: st) I Q := by
  subst hn
  by_cases h : x < y
  · exact mm_W.step (n := p) hc rfl (by simp only [mm_ins, mm_bi2, mm_cI, decide_eq_true h, cond_true]) (H.1 h)
  · exact mm_W.step (n := pc + 3) hc rfl (by simp only [mm_ins, mm_bi2, mm_cI, decide_eq_false h, cond_false]) (H.2 (fa_nlt' h))
theorem w_if_ge {x : Int32} {off : Int} (hc : mm_cod k pc = some (.ifCond .ge off, 3, p, q)) (hn : pc + 3 = n) (H : (0 ≤ x → mm_W k p ls st I Q) ∧ (x < 0 → mm_W k n ls st I Q)) : mm_W k pc ls (.int x :: st) I Q := by
  subst hn
  by_cases h : 0 ≤ x
  · exact mm_W.step (n := p) hc rfl (by simp only [mm_ins, mm_bi, mm_cI, decide_eq_true h, cond_true]) (H.1 h)
  · exact mm_W.step (n := pc + 3) hc rfl (by simp only [mm_ins, mm_bi, mm_cI, decide_eq_false h, cond_false]) (H.2 (fa_nle' h))
theorem w_icmp_ge {x y : Int32} {off : Int} (hc : mm_cod k pc = some (.if_icmp .ge off, 3, p, q)) (hn : pc + 3 = n) (H : (y ≤ x → mm_W k p ls st I Q) ∧ (x < y → mm_W k n ls st I Q)) : mm_W k pc ls (.int y :: .int x :: st) I Q := by
  subst hn
  by_cases h : y ≤ x
  · exact mm_W.step (n := p) hc rfl (by simp only [mm_ins, mm_bi2, mm_cI, decide_eq_true h, cond_true]) (H.1 h)
  · exact mm_W.step (n := pc + 3) hc rfl (by simp only [mm_ins, mm_bi2, mm_cI, decide_eq_false h, cond_false]) (H.2 (fa_nle' h))
theorem w_if_gt {x : Int32} {off : Int} (hc : mm_cod k pc = some (.ifCond .gt off, 3, p, q)) (hn : pc + 3 = n) (H : (0 < x → mm_W k p ls st I Q) ∧ (x ≤ 0 → mm_W k n ls st I Q)) : mm_W k pc ls (.int x :: st) I Q := by
  subst hn
  by_cases h : 0 < x
  · exact mm_W.step (n := p) hc rfl (by simp only [mm_ins, mm_bi, mm_cI, decide_eq_true h, cond_true]) (H.1 h)
  · exact mm_W.step (n := pc + 3) hc rfl (by simp only [mm_ins, mm_bi, mm_cI, decide_eq_false h, cond_false]) (H.2 (fa_nlt' h))
theorem w_icmp_gt {x y : Int32} {off : Int} (hc : mm_cod k pc = some (.if_icmp .gt off, 3, p, q)) (hn : pc + 3 = n) (H : (y < x → mm_W k p ls st I Q) ∧ (x ≤ y → mm_W k n ls st I Q)) : mm_W k pc ls (.int y :: .int x :: st) I Q := by
  subst hn
  by_cases h : y < x
  · exact mm_W.step (n := p) hc rfl (by simp only [mm_ins, mm_bi2, mm_cI, decide_eq_true h, cond_true]) (H.1 h)
  · exact mm_W.step (n := pc + 3) hc rfl (by simp only [mm_ins, mm_bi2, mm_cI, decide_eq_false h, cond_false]) (H.2 (fa_nlt' h))
theorem w_if_le {x : Int32} {off : Int} (hc : mm_cod k pc = some (.ifCond .le off, 3, p, q)) (hn : pc + 3 = n) (H : (x ≤ 0 → mm_W k p ls st I Q) ∧ (0 < x → mm_W k n ls st I Q)) : mm_W k pc ls (.int x :: st) I Q := by
  subst hn
  by_cases h : x ≤ 0
  · exact mm_W.step (n := p) hc rfl (by simp only [mm_ins, mm_bi, mm_cI, decide_eq_true h, cond_true]) (H.1 h)
  · exact mm_W.step (n := pc + 3) hc rfl (by simp only [mm_ins, mm_bi, mm_cI, decide_eq_false h, cond_false]) (H.2 (fa_nle' h))
theorem w_icmp_le {x y : Int32} {off : Int} (hc : mm_cod k pc = some (.if_icmp .le off, 3, p, q)) (hn : pc + 3 = n) (H : (x ≤ y → mm_W k p ls st I Q) ∧ (y < x → mm_W k n ls st I Q)) : mm_W k pc ls (.int y :: .int x :: st) I Q := by
  subst hn
  by_cases h : x ≤ y
  · exact mm_W.step (n := p) hc rfl (by simp only [mm_ins, mm_bi2, mm_cI, decide_eq_true h, cond_true]) (H.1 h)
  · exact mm_W.step (n := pc + 3) hc rfl (by simp only [mm_ins, mm_bi2, mm_cI, decide_eq_false h, cond_false]) (H.2 (fa_nle' h))
theorem w_ifnull {x : Option Nat} {off : Int} (hc : mm_cod k pc = some (.ifnull off, 3, p, q)) (hn : pc + 3 = n) (H : (x = none → mm_W k p ls st I Q) ∧ (∀ a, x = some a → mm_W k n ls st I Q)) : mm_W k pc ls (va_rf x :: st) I Q := by
  subst hn
  cases x with
  | none => exact mm_W.step (n := p) hc rfl rfl (H.1 rfl)
  | some a => exact mm_W.step (n := pc + 3) hc rfl rfl (H.2 a rfl)
theorem w_ifnonnull {x : Option Nat} {off : Int} (hc : mm_cod k pc = some (.ifnonnull off, 3, p, q)) (hn : pc + 3 = n) (H : (x = none → mm_W k n ls st I Q) ∧ (∀ a, x = some a → mm_W k p ls st I Q)) : mm_W k pc ls (va_rf x :: st) I Q := by
  subst hn
  cases x with
  | none => exact mm_W.step (n := pc + 3) hc rfl rfl (H.1 rfl)
  | some a => exact mm_W.step (n := p) hc rfl rfl (H.2 a rfl)
theorem w_switch {d lo hi : Int} {offs : Array Int} {len : Nat} {x : Int32} {tg : Nat} (hc : mm_cod k pc = some (.tableswitch d lo hi offs, len, p, q)) (hs : mm_sw pc d lo hi offs x = some tg) (H : mm_W k tg ls st I Q) : mm_W k pc ls (.int x :: st) I Q :=
  mm_W.step (n := tg) hc rfl (by simp only [mm_ins, hs]) H
theorem mm_vpc {i : Int32} {n : Nat} (h : mm_inb i n = true) : vp_in i n := mm_inb_inv h
theorem mm_sw_def {pc : Nat} {d lo hi : Int} {offs : Array Int} {x : Int32} {t : Nat} (h : ∀ z : Int, lo ≤ z → z ≤ hi → x.toInt ≠ z) (ht : (pc : Int) + d = (t : Int)) : mm_sw pc d lo hi offs x = some t := by
  unfold mm_sw
  rw [if_pos (by
    rcases Int.lt_or_le x.toInt lo with z | z
    · exact Or.inl z
    · rcases Int.lt_or_le hi x.toInt with y | y
      · exact Or.inr y
      · exact absurd rfl (h _ z y)), if_neg (by omega), ht]
  rfl
theorem w_getI {a : Nat} {ix : Nat} (hc : mm_cod k pc = some (.getfield ix, 3, p, q)) (ha : mm_aid (mm_lay, I) a p = true) (hf : Nat.beq (mm_ft p q) 2 = false) (hn : pc + 3 = n) (H : mm_W k n ls (.int (I a q) :: st) I Q) : mm_W k pc ls (.ref a :: st) I Q := by
  subst hn
  exact mm_W.step (n := pc + 3) hc rfl (by simp only [mm_ins, mm_gf, ha, cond_true, mm_fv, hf, cond_false]; rfl) H
theorem w_getR {a b : Nat} {ix : Nat} (hc : mm_cod k pc = some (.getfield ix, 3, p, q)) (ha : mm_aid (mm_lay, I) a p = true) (hf : Nat.beq (mm_ft p q) 2 = true) (hb : mm_R (mm_lay, I) a q = some b) (hn : pc + 3 = n) (H : mm_W k n ls (.ref b :: st) I Q) : mm_W k pc ls (.ref a :: st) I Q := by
  subst hn
  exact mm_W.step (n := pc + 3) hc rfl (by simp only [mm_ins, mm_gf, ha, cond_true, mm_fv, hf, hb]; rfl) H
theorem w_putI {a : Nat} {ix : Nat} {x : Int32} (hc : mm_cod k pc = some (.putfield ix, 3, p, q)) (ha : mm_aid (mm_lay, I) a p = true) (hf : Nat.beq (mm_ft p q) 0 = true) (hi : mm_fin p q = false) (hn : pc + 3 = n) (H : mm_W k n ls st (mm_up I a q x) Q) : mm_W k pc ls (.int x :: .ref a :: st) I Q := by
  subst hn
  exact mm_W.step (n := pc + 3) hc rfl (by simp only [mm_ins, mm_pf, ha, hi, hf]; rfl) H
theorem w_putZ {a : Nat} {ix : Nat} {x : Int32} (hc : mm_cod k pc = some (.putfield ix, 3, p, q)) (ha : mm_aid (mm_lay, I) a p = true) (h0 : Nat.beq (mm_ft p q) 0 = false) (hf : Nat.beq (mm_ft p q) 1 = true) (hi : mm_fin p q = false) (hn : pc + 3 = n) (H : (x = 0 ∨ x = 1) ∧ mm_W k n ls st (mm_up I a q x) Q) : mm_W k pc ls (.int x :: .ref a :: st) I Q := by
  subst hn
  exact mm_W.step (n := pc + 3) hc rfl (by rcases H.1 with rfl | rfl <;> (simp only [mm_ins, mm_pf, ha, hi, hf, h0]; rfl)) H.2
theorem w_getS {ix : Nat} (hc : mm_cod k pc = some (.getstatic ix, 3, p, q)) (hn : pc + 3 = n) (H : mm_W k n ls (.ref 5000 :: st) I Q) : mm_W k pc ls st I Q := by
  subst hn
  exact mm_W.step hc rfl rfl H
theorem mm_inb_of {i : Int32} {n : Nat} (h : vp_in i n) : mm_inb i n = true := decide_eq_true (p := ¬ (i < 0 ∨ n ≤ i.toNatClampNeg)) h
theorem w_iaload {a N j : Nat} {i : Int32} (hc : mm_cod k pc = some (.iaload, 1, p, q)) (h5 : Nat.beq a 5000 = false) (ha : mm_aid (mm_lay, I) a 100 = true) (hl : mm_L (mm_lay, I) a = N) (hj : i.toNatClampNeg = j) (hn : pc + 1 = n) (H : vp_in i N ∧ mm_W k n ls (.int (I a j) :: st) I Q) : mm_W k pc ls (.int i :: .ref a :: st) I Q := by
  subst hn
  subst hj
  subst hl
  exact mm_W.step (n := pc + 1) hc rfl (by simp only [mm_ins, mm_al, h5, ha, mm_inb_of H.1]; rfl) H.2
theorem w_ialoadF {i : Int32} {j : Nat} (hc : mm_cod k pc = some (.iaload, 1, p, q)) (hj : i.toNatClampNeg = j) (hn : pc + 1 = n) (H : vp_in i 20 ∧ mm_W k n ls (.int (mm_fix j) :: st) I Q) : mm_W k pc ls (.int i :: .ref 5000 :: st) I Q := by
  subst hn
  subst hj
  exact mm_W.step (n := pc + 1) hc rfl (by simp only [mm_ins, mm_al, mm_inb_of H.1]; rfl) H.2
theorem w_baload {a N j : Nat} {i : Int32} (hc : mm_cod k pc = some (.baload, 1, p, q)) (ha : mm_aid (mm_lay, I) a 101 = true) (hl : mm_L (mm_lay, I) a = N) (hj : i.toNatClampNeg = j) (hn : pc + 1 = n) (H : vp_in i N ∧ mm_W k n ls (.int (I a j) :: st) I Q) : mm_W k pc ls (.int i :: .ref a :: st) I Q := by
  subst hn
  subst hj
  subst hl
  exact mm_W.step (n := pc + 1) hc rfl (by simp only [mm_ins, mm_al, ha, mm_inb_of H.1]; rfl) H.2
theorem w_iastore {a N j : Nat} {i x : Int32} (hc : mm_cod k pc = some (.iastore, 1, p, q)) (ha : mm_aid (mm_lay, I) a 100 = true) (hl : mm_L (mm_lay, I) a = N) (hj : i.toNatClampNeg = j) (hn : pc + 1 = n) (H : vp_in i N ∧ mm_W k n ls st (mm_up I a j x) Q) : mm_W k pc ls (.int x :: .int i :: .ref a :: st) I Q := by
  subst hn
  subst hj
  subst hl
  exact mm_W.step (n := pc + 1) hc rfl (by simp only [mm_ins, mm_as, ha, mm_inb_of H.1]; rfl) H.2
theorem w_bastore {a N j : Nat} {i x : Int32} (hc : mm_cod k pc = some (.bastore, 1, p, q)) (ha : mm_aid (mm_lay, I) a 101 = true) (hl : mm_L (mm_lay, I) a = N) (hj : i.toNatClampNeg = j) (hn : pc + 1 = n) (H : vp_in i N ∧ (x = 0 ∨ x = 1) ∧ mm_W k n ls st (mm_up I a j x) Q) : mm_W k pc ls (.int x :: .int i :: .ref a :: st) I Q := by
  subst hn
  subst hj
  subst hl
  exact mm_W.step (n := pc + 1) hc rfl (by rcases H.2.1 with rfl | rfl <;> (simp only [mm_ins, mm_as, ha, mm_inb_of H.1]; rfl)) H.2.2
theorem w_alen {a N : Nat} {v : Int32} (hc : mm_cod k pc = some (.arraylength, 1, p, q)) (ha : mm_aid (mm_lay, I) a 100 = true) (hl : mm_L (mm_lay, I) a = N) (hv : Int32.ofNat N = v) (hn : pc + 1 = n) (H : mm_W k n ls (.int v :: st) I Q) : mm_W k pc ls (.ref a :: st) I Q := by
  subst hn
  subst hv
  subst hl
  exact mm_W.step (n := pc + 1) hc rfl (by simp only [mm_ins, mm_len, ha]; rfl) H
theorem w_f2raw {ix : Nat} {x : UInt32} (hc : mm_cod k pc = some (.invokestatic ix, 3, 1002, q)) (hb : (Nat.ble (st.map fun v => v.category).sum 8 && Nat.ble 1 (mm_dp k)) = true) (hn : pc + 3 = n) (H : mm_W k n ls (.int x.toInt32 :: st) I Q) : mm_W k pc ls (.float x :: st) I Q := by
  subst hn
  rw [Bool.and_eq_true] at hb
  exact mm_W.step (n := pc + 3) hc rfl (by simp only [mm_ins, hb.1, hb.2]; rfl) H
theorem w_d2raw {ix : Nat} {x : UInt64} (hc : mm_cod k pc = some (.invokestatic ix, 3, 1003, q)) (hb : (Nat.ble (st.map fun v => v.category).sum 8 && Nat.ble 1 (mm_dp k)) = true) (hn : pc + 3 = n) (H : mm_W k n ls (.long x.toInt64 :: st) I Q) : mm_W k pc ls (.double x :: st) I Q := by
  subst hn
  rw [Bool.and_eq_true] at hb
  exact mm_W.step (n := pc + 3) hc rfl (by simp only [mm_ins, hb.1, hb.2]; rfl) H
end MMW
