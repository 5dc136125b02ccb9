def mm_isLoc (ins : Instr) : Bool := match ins with
  | .iload _ => true
  | .iload_n _ => true
  | .lload _ => true
  | .lload_n _ => true
  | .fload _ => true
  | .fload_n _ => true
  | .dload _ => true
  | .dload_n _ => true
  | .aload _ => true
  | .aload_n _ => true
  | .istore _ => true
  | .istore_n _ => true
  | .lstore _ => true
  | .lstore_n _ => true
  | .fstore _ => true
  | .fstore_n _ => true
  | .dstore _ => true
  | .dstore_n _ => true
  | .astore _ => true
  | .astore_n _ => true
  | .iinc _ _ => true
  | _ => false
def mm_wl1 (ls : mm_Ls) (s : mm_S) : mm_S := (s.1, ls, s.2.2)
set_option maxHeartbeats 4000000 in
theorem mm_ins_ls {ng : Bool} {k pc : Nat} {ins : Instr} {len p q : Nat} (ls ls0 : mm_Ls) {st : List Value} {h : mm_H} (hl : mm_isLoc ins = false) : mm_ins ng k pc ins len p q ls st h = (mm_ins ng k pc ins len p q ls0 st h).map (mm_wl1 ls) := by
  cases ins <;> first
    | (cases hl; done)
    | rfl
    | (simp only [mm_ins, mm_i2, mm_i1, mm_l2, mm_l1, mm_li]; split <;> rfl)
    | (simp only [mm_ins, mm_dv, mm_f2, mm_d2]; split <;> first | rfl | (split <;> rfl))
    | (simp only [mm_ins]; cases Nat.beq q 0 <;> rfl)
    | (simp only [mm_ins, mm_bi, mm_bi2]; split <;> rfl)
    | (simp only [mm_ins, mm_bn]; split <;> rfl)
    | (simp only [mm_ins]; split <;> first | rfl | (split <;> rfl))
    | (simp only [mm_ins]
       split
       · rename_i v r
         cases Nat.beq v.category 1 <;> rfl
       · rfl)
    | (simp only [mm_ins]
       split
       · rename_i v w r
         cases (Nat.beq v.category 1 && Nat.beq w.category 1) <;> rfl
       · rfl)
    | (simp only [mm_ins, mm_gf]
       split
       · rename_i a r
         cases mm_aid h a p <;> rfl
       · rfl)
    | (simp only [mm_ins, mm_pf]
       split
       · rename_i v a r
         cases (mm_aid h a p && (!(mm_fin p q) || (Nat.beq (mm_md k) 2 && Nat.beq (mm_c k) p)))
         · rfl
         · simp only [cond_true]
           split
           · rename_i x
             cases Nat.beq (mm_ft p q) 0
             · simp only [cond_false]
               cases (Nat.beq (mm_ft p q) 1 && (x == 0 || x == 1)) <;> rfl
             · rfl
           · rename_i b
             cases (Nat.beq (mm_ft p q) 2 && Nat.blt b (mm_n h)) <;> rfl
           · rfl
       · rfl)
    | (simp only [mm_ins, mm_al]
       split
       · rename_i i a r
         cases (Nat.beq 100 100 && Nat.beq a 5000)
         · simp only [cond_false]
           cases (mm_aid h a 100 && mm_inb i (mm_L h a)) <;> rfl
         · simp only [cond_true]
           cases mm_inb i 20 <;> rfl
       · rfl)
    | (simp only [mm_ins, mm_al]
       split
       · rename_i i a r
         cases (Nat.beq 101 100 && Nat.beq a 5000)
         · simp only [cond_false]
           cases (mm_aid h a 101 && mm_inb i (mm_L h a)) <;> rfl
         · simp only [cond_true]
           cases mm_inb i 20 <;> rfl
       · rfl)
    | (simp only [mm_ins, mm_as]
       split
       · rename_i x i a r
         cases (mm_aid h a 100 && mm_inb i (mm_L h a) && (Nat.beq 100 100 || (x == 0 || x == 1))) <;> rfl
       · rfl)
    | (simp only [mm_ins, mm_as]
       split
       · rename_i x i a r
         cases (mm_aid h a 101 && mm_inb i (mm_L h a) && (Nat.beq 101 100 || (x == 0 || x == 1))) <;> rfl
       · rfl)
    | (simp only [mm_ins, mm_len]
       split
       · rename_i a r
         cases mm_aid h a 100 <;> rfl
       · rfl)
    | (simp only [mm_ins, mm_nw1]; cases (ng && Nat.blt (mm_n h) 4000) <;> rfl)
    | (simp only [mm_ins, mm_nwa]
       split
       · rename_i x r
         cases (ng && Nat.blt (mm_n h) 4000 && mm_inb x 10000) <;> rfl
       · rfl)
    | (simp only [mm_ins]
       split
       · rename_i a r
         cases (Nat.ble (r.map fun v => v.category).sum 8 && Nat.ble 1 (mm_dp k)) <;> rfl
       · rfl)
    | (simp only [mm_ins]
       split
       · rename_i x r
         cases (Nat.beq p 1002 && Nat.ble (r.map fun v => v.category).sum 8 && Nat.ble 1 (mm_dp k)) <;> rfl
       · rename_i x r
         cases (Nat.beq p 1003 && Nat.ble (r.map fun v => v.category).sum 8 && Nat.ble 1 (mm_dp k)) <;> rfl
       · rfl)
    | (simp only [mm_ins]
       split
       · rename_i x r
         cases mm_sw pc _ _ _ _ x <;> rfl
       · rfl)
def mm_le (ls ls' : mm_Ls) : Prop := ls.length = ls'.length ∧ ∀ i v, mm_ld ls i = some v → mm_ld ls' i = some v
theorem mm_le_set {ls ls' : mm_Ls} {i : Nat} {x : Option Value} (h : mm_le ls ls') : mm_le (ls.set i x) (ls'.set i x) := by
  refine ⟨by simp [h.1], fun j v hj => ?_⟩
  by_cases hij : j = i
  · subst hij
    have hlt : j < ls.length := by
      have := mm_ld_lt hj
      simpa using this
    rw [mm_ld_set_self hlt] at hj
    rw [mm_ld_set_self (by rw [← h.1]; exact hlt)]
    exact hj
  · rw [mm_ld_set hij] at hj ⊢
    exact h.2 j v hj
theorem mm_le_clr {ls ls' : mm_Ls} {i : Nat} {v0 : Option Value} (h : mm_le ls ls') : mm_le ((mm_clr ls i).set i v0) ((mm_clr ls' i).set i v0) := by
  refine mm_le_set ⟨by rw [mm_clr_len, mm_clr_len]; exact h.1, fun j v hj => ?_⟩
  obtain ⟨h1, h2⟩ := mm_clr_ld hj
  have h3 := h.2 j v h1
  unfold mm_clr
  cases i with
  | zero => exact h3
  | succ i =>
    simp only
    cases hu : mm_ld ls' i with
    | none => exact h3
    | some u =>
      simp only
      cases hc : Nat.beq u.category 2 with
      | false => exact h3
      | true =>
        simp only [cond_true]
        by_cases hji : j = i
        · subst hji
          rw [hu] at h3
          cases h3
          exact absurd ⟨rfl, (mm_beq_iff _ _).mp hc⟩ h2
        · rw [mm_ld_set hji]
          exact h3
theorem mm_ldv_le {T : Value → Bool} {n : Nat} {ls ls' : mm_Ls} {st : List Value} {h : mm_H} {i : Nat} {s' : mm_S} (hle : mm_le ls ls') (hs : mm_ldv T n ls st h i = some s') : ∃ l2, mm_ldv T n ls' st h i = some (s'.1, l2, s'.2.2) ∧ mm_le s'.2.1 l2 := by
  obtain ⟨v, h1, h2, rfl⟩ := mm_ldv_inv hs
  refine ⟨ls', ?_, hle⟩
  unfold mm_ldv
  rw [hle.2 i v h1]
  simp only [h2]
  rfl
theorem mm_stv_le {T : Value → Bool} {w n : Nat} {ls ls' : mm_Ls} {st : List Value} {h : mm_H} {i : Nat} {s' : mm_S} (hle : mm_le ls ls') (hs : mm_stv T w n ls st h i = some s') : ∃ l2, mm_stv T w n ls' st h i = some (s'.1, l2, s'.2.2) ∧ mm_le s'.2.1 l2 := by
  obtain ⟨v, r, rfl, h2, h3, rfl⟩ := mm_stv_inv hs
  unfold mm_stv
  simp only [h2, Bool.true_and]
  rw [Nat.ble_eq_true_of_le (by rw [← hle.1]; exact h3)]
  refine ⟨_, rfl, ?_⟩
  cases Nat.beq w 2 with
  | true => exact mm_le_set (mm_le_clr hle)
  | false => exact mm_le_clr hle
theorem mm_ins_le {ng : Bool} {k pc : Nat} {ins : Instr} {len p q : Nat} {ls ls' : mm_Ls} {st : List Value} {h : mm_H} {s' : mm_S} (hle : mm_le ls ls') (hs : mm_ins ng k pc ins len p q ls st h = some s') : ∃ l2, mm_ins ng k pc ins len p q ls' st h = some (s'.1, l2, s'.2.2) ∧ mm_le s'.2.1 l2 := by
  cases hl : mm_isLoc ins with
  | false =>
    have h1 := mm_ins_ls (ng := ng) (k := k) (pc := pc) (len := len) (p := p) (q := q) ls' ls (st := st) (h := h) hl
    have h2 := mm_ins_ls (ng := ng) (k := k) (pc := pc) (len := len) (p := p) (q := q) ls ls (st := st) (h := h) hl
    rw [hs] at h1 h2
    have e : s' = mm_wl1 ls s' := Option.some.inj h2
    have e2 : s'.2.1 = ls := congrArg (fun s : mm_S => s.2.1) e
    exact ⟨ls', h1, by rw [e2]; exact hle⟩
  | true =>
    cases ins <;> first
      | (cases hl; done)
      | exact mm_ldv_le hle hs
      | exact mm_stv_le hle hs
      | (simp only [mm_ins] at hs ⊢
         obtain ⟨h0, hs⟩ := mm_cond_inv hs
         rw [h0]
         simp only [cond_true]
         split at hs
         · rename_i x hv
           obtain rfl := Option.some.inj hs
           rw [hle.2 _ _ hv]
           exact ⟨_, rfl, mm_le_clr hle⟩
         · cases hs)
theorem mm_run_ls {ng : Bool} : ∀ {f k pc : Nat} {ls ls' : mm_Ls} {st : List Value} {h : mm_H} {s' : mm_S}, mm_le ls ls' → mm_run ng f k pc ls st h = some s' → ∃ l2, mm_run ng f k pc ls' st h = some (s'.1, l2, s'.2.2)
  | 0, _, _, _, _, _, _, _, _, hr => by cases hr
  | f + 1, k, pc, ls, ls', st, h, s', hle, hr => by
    obtain ⟨ins, len, p, q, hc, hcase⟩ := mm_run_inv hr
    rw [mm_run_succ, hc]
    rcases hcase with ⟨hk, pc', ls1, st', h', hi, hr⟩ | ⟨hk, as, rest, pc', ls1, st', h', v, hcl, h2, hv, hr⟩ | ⟨hk, rfl⟩
    · obtain ⟨l2, hi2, hle2⟩ := mm_ins_le hle hi
      simp only [hk, hi2]
      exact mm_run_ls hle2 hr
    · simp only [hk, hcl, h2, hv]
      exact mm_run_ls hle hr
    · simp only [hk]
      exact ⟨ls', rfl⟩
def mm_leB : mm_Ls → mm_Ls → Prop
  | [], [] => True
  | none :: l, _ :: l' => mm_leB l l'
  | some v :: l, some v' :: l' => v = v' ∧ mm_leB l l'
  | _, _ => False
theorem mm_leB_le : ∀ {ls ls' : mm_Ls}, mm_leB ls ls' → mm_le ls ls'
  | [], [], _ => ⟨rfl, fun _ _ h => h⟩
  | none :: l, x :: l', h => by
    have ih := mm_leB_le (ls := l) (ls' := l') h
    refine ⟨by simp [ih.1], fun i v hi => ?_⟩
    cases i with
    | zero => cases hi
    | succ i => exact ih.2 i v hi
  | some v :: l, some v' :: l', h => by
    obtain ⟨rfl, h⟩ := h
    have ih := mm_leB_le (ls := l) (ls' := l') h
    refine ⟨by simp [ih.1], fun i w hi => ?_⟩
    cases i with
    | zero => exact hi
    | succ i => exact ih.2 i w hi
  | [], _ :: _, h => by cases h
  | some _ :: _, [], h => by cases h
  | some _ :: _, none :: _, h => by cases h
  | none :: _, [], h => by cases h
def mm_Qf (Q : mm_S → Prop) : Prop := ∀ (a : Nat) (l l' : mm_Ls) (b : List Value × mm_H), Q (a, l, b) → Q (a, l', b)
theorem w_drop {k pc : Nat} {ls ls' : mm_Ls} {st : List Value} {I : mm_I} {Q : mm_S → Prop} (hQ : mm_Qf Q) (hle : mm_leB ls ls') (H : mm_W k pc ls st I Q) : mm_W k pc ls' st I Q := by
  obtain ⟨f, s', hr, hq⟩ := H
  obtain ⟨l2, hr2⟩ := mm_run_ls (mm_leB_le hle) hr
  exact ⟨f, _, hr2, hQ _ _ _ _ hq⟩
theorem mm_Qf_i {k : Nat} {P : Int32 → mm_I → Prop} : mm_Qf (mm_qi k P) := fun _ _ _ _ h => h
theorem mm_Qf_v {k : Nat} {P : mm_I → Prop} : mm_Qf (mm_qv k P) := fun _ _ _ _ h => h
theorem mm_Qf_f {k : Nat} {P : UInt32 → mm_I → Prop} : mm_Qf (mm_qf k P) := fun _ _ _ _ h => h
theorem mm_Qf_l {k : Nat} {P : Int64 → mm_I → Prop} : mm_Qf (mm_ql k P) := fun _ _ _ _ h => h
theorem mm_Qf_r {k : Nat} {P : Option Nat → mm_I → Prop} : mm_Qf (mm_qr k P) := fun _ _ _ _ h => h
theorem w_drp {k pc : Nat} {ls ls' : mm_Ls} {st : List Value} {I : mm_I} {Q : mm_S → Prop} (hQ : mm_Qf Q) (H : mm_W k pc ls st I Q) (hle : mm_leB ls ls') : mm_W k pc ls' st I Q := w_drop hQ hle H
theorem lb_e : mm_leB [] [] := trivial
theorem lb_n {l l' : mm_Ls} {x : Option Value} (h : mm_leB l l') : mm_leB (none :: l) (x :: l') := h
theorem lb_s {l l' : mm_Ls} {v : Value} (h : mm_leB l l') : mm_leB (some v :: l) (some v :: l') := ⟨rfl, h⟩
