theorem mm_s1_len (ls : mm_Ls) (i : Nat) (v : Value) : (mm_s1 ls i v).length = ls.length := by simp [mm_s1, mm_clr_len]
theorem mm_s2_len (ls : mm_Ls) (i : Nat) (v : Value) : (mm_s2 ls i v).length = ls.length := by simp [mm_s2, mm_clr_len]
def mm_mo (h : mm_H) (ls : mm_Ls) (s' : mm_S) : Prop := mm_n h ≤ mm_n s'.2.2.2 ∧ mm_sl h ≤ mm_sl s'.2.2.2 ∧ s'.2.1.length = ls.length
theorem mm_mo_r {h : mm_H} {ls : mm_Ls} {n : Nat} {st : List Value} : mm_mo h ls (n, ls, st, h) := ⟨Nat.le_refl _, Nat.le_refl _, rfl⟩
set_option maxHeartbeats 4000000 in
theorem mm_ins_mono {ng : Bool} {k pc : Nat} {ins : Instr} {len p q : Nat} {ls : mm_Ls} {st : List Value} {h : mm_H} {s' : mm_S} (hs : mm_ins ng k pc ins len p q ls st h = some s') : mm_mo h ls s' := by
  cases ins <;> first
    | (obtain rfl := Option.some.inj hs; exact mm_mo_r)
    | (obtain ⟨x, y, r, rfl, rfl⟩ := mm_i2_inv hs; exact mm_mo_r)
    | (obtain ⟨x, r, rfl, rfl⟩ := mm_i1_inv hs; exact mm_mo_r)
    | (obtain ⟨v, h1, h2, rfl⟩ := mm_ldv_inv hs; exact mm_mo_r)
    | (obtain ⟨v, r, rfl, h2, h3, rfl⟩ := mm_stv_inv hs; exact ⟨Nat.le_refl _, Nat.le_refl _, by first | exact mm_s1_len _ _ _ | exact mm_s2_len _ _ _⟩)
    | (obtain ⟨x, y, r, rfl, rfl⟩ := mm_l2_inv hs; exact mm_mo_r)
    | (obtain ⟨x, r, rfl, rfl⟩ := mm_l1_inv hs; exact mm_mo_r)
    | (obtain ⟨x, y, r, rfl, rfl⟩ := mm_li_inv hs; exact mm_mo_r)
    | (obtain ⟨x, y, r, rfl, h1, rfl⟩ := mm_dv_inv hs; exact mm_mo_r)
    | (obtain ⟨x, y, r, rfl, h1, rfl⟩ := mm_f2_inv hs; exact mm_mo_r)
    | (obtain ⟨x, y, r, rfl, h1, rfl⟩ := mm_d2_inv hs; exact mm_mo_r)
    | (obtain ⟨x, r, rfl, rfl⟩ := mm_bi_inv hs; exact mm_mo_r)
    | (obtain ⟨x, y, r, rfl, rfl⟩ := mm_bi2_inv hs; exact mm_mo_r)
    | (obtain ⟨a, r, rfl, h1, h2, rfl⟩ := mm_gf_inv hs; exact mm_mo_r)
    | (obtain ⟨v, a, r, h', rfl, h1, h2, h3, h4, rfl⟩ := mm_pf_inv hs
       rcases h4 with ⟨x, -, rfl, -⟩ | ⟨b, -, rfl, -⟩ <;> exact ⟨Nat.le_refl _, Nat.le_refl _, rfl⟩)
    | (obtain ⟨i, a, r, rfl, h1⟩ := mm_al_inv hs
       rcases h1 with ⟨-, -, -, rfl⟩ | ⟨-, -, -, rfl⟩ <;> exact mm_mo_r)
    | (obtain ⟨x, i, a, r, rfl, -, -, -, -, rfl⟩ := mm_as_inv hs; exact ⟨Nat.le_refl _, Nat.le_refl _, rfl⟩)
    | (obtain ⟨a, r, rfl, -, -, rfl⟩ := mm_len_inv hs; exact mm_mo_r)
    | (obtain ⟨-, -, rfl⟩ := mm_nw1_inv hs; exact ⟨Nat.le_succ _, Nat.le_add_right _ _, rfl⟩)
    | (obtain ⟨x, r, rfl, -, -, -, rfl⟩ := mm_nwa_inv hs; exact ⟨Nat.le_succ _, Nat.le_add_right _ _, rfl⟩)
    | (simp only [mm_ins, mm_bn] at hs
       repeat' split at hs
       all_goals first
         | (cases hs; done)
         | (obtain rfl := Option.some.inj hs; exact mm_mo_r)
         | (obtain ⟨h1, h2⟩ := mm_cond_inv hs; obtain rfl := Option.some.inj h2; exact mm_mo_r))
    | (simp only [mm_ins] at hs
       cases hq : Nat.beq q 0 <;> rw [hq] at hs <;> (obtain rfl := Option.some.inj hs; exact mm_mo_r))
    | (simp only [mm_ins] at hs
       obtain ⟨h0, hs⟩ := mm_cond_inv hs
       split at hs
       · obtain rfl := Option.some.inj hs
         exact ⟨Nat.le_refl _, Nat.le_refl _, mm_s1_len _ _ _⟩
       · cases hs)
    | (simp [mm_ins] at hs)
theorem mm_run_succ (ng : Bool) (f k pc : Nat) (ls : mm_Ls) (st : List Value) (h : mm_H) : mm_run ng (f + 1) k pc ls st h = match mm_cod k pc with
    | none => none
    | some (ins, len, p, q) => match mm_knd ins p with
      | 0 => match mm_ins ng k pc ins len p q ls st h with
        | none => none
        | some (pc', ls', st', h') => mm_run ng f k pc' ls' st' h'
      | 1 => match mm_call k p q st h with
        | none => none
        | some (as, rest) => match mm_run ng f p 0 (mm_ent (mm_mL p) as) [] h with
          | none => none
          | some (pc', _, st', h') => match mm_ret p pc' st' with
            | none => none
            | some v => mm_run ng f k (pc + 3) ls (v.toList ++ rest) h'
      | 2 => some (pc, ls, st, h)
      | _ => none := rfl
/-- the four ways of a run -/
theorem mm_run_inv {ng : Bool} {f k pc : Nat} {ls : mm_Ls} {st : List Value} {h : mm_H} {s' : mm_S} (hr : mm_run ng (f + 1) k pc ls st h = some s') : ∃ ins len p q, mm_cod k pc = some (ins, len, p, q) ∧
    ((mm_knd ins p = 0 ∧ ∃ pc' ls' st' h', mm_ins ng k pc ins len p q ls st h = some (pc', ls', st', h') ∧ mm_run ng f k pc' ls' st' h' = some s') ∨
     (mm_knd ins p = 1 ∧ ∃ as rest pc' ls' st' h' v, mm_call k p q st h = some (as, rest) ∧ mm_run ng f p 0 (mm_ent (mm_mL p) as) [] h = some (pc', ls', st', h') ∧ mm_ret p pc' st' = some v ∧ mm_run ng f k (pc + 3) ls (v.toList ++ rest) h' = some s') ∨
     (mm_knd ins p = 2 ∧ s' = (pc, ls, st, h))) := by
  rw [mm_run_succ] at hr
  cases hc : mm_cod k pc with
  | none => rw [hc] at hr; cases hr
  | some x =>
    obtain ⟨ins, len, p, q⟩ := x
    rw [hc] at hr
    refine ⟨ins, len, p, q, rfl, ?_⟩
    simp only at hr
    match hk : mm_knd ins p with
    | 0 =>
      rw [hk] at hr
      simp only at hr
      cases hi : mm_ins ng k pc ins len p q ls st h with
      | none => rw [hi] at hr; cases hr
      | some y =>
        obtain ⟨pc', ls', st', h'⟩ := y
        rw [hi] at hr
        exact Or.inl ⟨rfl, pc', ls', st', h', rfl, hr⟩
    | 1 =>
      rw [hk] at hr
      simp only at hr
      cases hi : mm_call k p q st h with
      | none => rw [hi] at hr; cases hr
      | some y =>
        obtain ⟨as, rest⟩ := y
        rw [hi] at hr
        simp only at hr
        cases h2 : mm_run ng f p 0 (mm_ent (mm_mL p) as) [] h with
        | none => rw [h2] at hr; cases hr
        | some z =>
          obtain ⟨pc', ls', st', h'⟩ := z
          rw [h2] at hr
          simp only at hr
          cases h3 : mm_ret p pc' st' with
          | none => rw [h3] at hr; cases hr
          | some v =>
            rw [h3] at hr
            exact Or.inr (Or.inl ⟨rfl, as, rest, pc', ls', st', h', v, rfl, h2, h3, hr⟩)
    | 2 =>
      rw [hk] at hr
      exact Or.inr (Or.inr ⟨rfl, (Option.some.inj hr).symm⟩)
    | n + 3 =>
      rw [hk] at hr
      cases hr
theorem mm_run_mono {ng : Bool} : ∀ {f k pc : Nat} {ls : mm_Ls} {st : List Value} {h : mm_H} {s' : mm_S}, mm_run ng f k pc ls st h = some s' → mm_n h ≤ mm_n s'.2.2.2 ∧ mm_sl h ≤ mm_sl s'.2.2.2
  | 0, _, _, _, _, _, _, hr => by cases hr
  | f + 1, k, pc, ls, st, h, s', hr => by
    obtain ⟨ins, len, p, q, hc, hcase⟩ := mm_run_inv hr
    rcases hcase with ⟨-, pc', ls', st', h', hi, hr⟩ | ⟨-, as, rest, pc', ls', st', h', v, -, h2, -, hr⟩ | ⟨-, rfl⟩
    · have a := mm_ins_mono hi
      have b := mm_run_mono hr
      exact ⟨Nat.le_trans a.1 b.1, Nat.le_trans a.2.1 b.2⟩
    · have a := mm_run_mono h2
      have b := mm_run_mono hr
      exact ⟨Nat.le_trans a.1 b.1, Nat.le_trans a.2 b.2⟩
    · exact ⟨Nat.le_refl _, Nat.le_refl _⟩
theorem mm_call_inv {k p q : Nat} {st : List Value} {h : mm_H} {as rest : List Value} (hc : mm_call k p q st h = some (as, rest)) : st = as.reverse ++ rest ∧ as.length = q ∧ (rest.map fun v => v.category).sum ≤ 8 ∧ mm_dp p < mm_dp k ∧ mm_na p = q ∧ (mm_ent0 as).length ≤ mm_mL p ∧ (mm_md p = 0 ∨ ∃ a as', as = .ref a :: as' ∧ a < mm_n h ∧ mm_K h a = mm_c p) := by
  unfold mm_call at hc
  obtain ⟨h1, h2⟩ := mm_cond_inv hc
  rw [Bool.and_eq_true, Bool.and_eq_true, Bool.and_eq_true, Bool.and_eq_true, mm_blt_iff, mm_beq_iff] at h1
  obtain ⟨⟨⟨⟨a1, a2⟩, a3⟩, a4⟩, a5⟩ := h1
  have a1 := Nat.le_of_ble_eq_true a1
  have a2 := Nat.le_of_ble_eq_true a2
  have a5 := Nat.le_of_ble_eq_true a5
  have fin : as = (st.take q).reverse → rest = st.drop q → st = as.reverse ++ rest ∧ as.length = q ∧ (rest.map fun v => v.category).sum ≤ 8 ∧ mm_dp p < mm_dp k ∧ mm_na p = q ∧ (mm_ent0 as).length ≤ mm_mL p := by
    rintro rfl rfl
    exact ⟨by rw [List.reverse_reverse, List.take_append_drop], by simp; omega, a2, a3, a4, a5⟩
  cases hm : Nat.beq (mm_md p) 0 with
  | true =>
    rw [hm] at h2
    have e := Option.some.inj h2
    cases e
    obtain ⟨b1, b2, b3, b4, b5, b6⟩ := fin rfl rfl
    exact ⟨b1, b2, b3, b4, b5, b6, Or.inl ((mm_beq_iff _ _).mp hm)⟩
  | false =>
    rw [hm] at h2
    simp only [cond_false] at h2
    split at h2
    · rename_i a as' heq
      obtain ⟨h3, h4⟩ := mm_cond_inv h2
      have e := Option.some.inj h4
      cases e
      obtain ⟨b1, b2, b3, b4, b5, b6⟩ := fin rfl rfl
      exact ⟨b1, b2, b3, b4, b5, b6, Or.inr ⟨a, as', heq, mm_aid_inv h3⟩⟩
    · cases h2
def mm_Wd (D : va_G) (B t : Nat) (cI cZ : ClassId) (ng : Bool) (h : mm_H) (U : State) : Prop :=
  va_P D vwCl (mm_wl B t cI cZ h) U.heap ∧ va_D (fun q => B ≤ q) (mm_wl B t cI cZ h) ∧ va_K D vwCl (mm_tys cI cZ) U ∧ mm_Nst U ∧ va_Z "WholeSoundModel" "FIXED" "[I" (.ref t) (fun q => B ≤ q) U U.heap ∧ va_T .int t 20 (fun j => .int (mm_fix j)) (fun q => B ≤ q) U U.heap ∧ (ng = true → U.heap.size = B + mm_n h) ∧ B ≤ U.heap.size ∧ mm_n h ≤ 4000
def mm_Pc (D : va_G) (B t : Nat) (cI cZ : ClassId) (ng : Bool) (as : List Value) (h : mm_H) : Array Value → State → Prop := va_Pc (as.map (mm_rv B t)) (fun U => mm_Wd D B t cI cZ ng h U)
def mm_Qc (D : va_G) (B t : Nat) (cI cZ : ClassId) (v : Option Value) (h' : mm_H) : Array Value → State → Outcome → State → Prop := fun _ st o t' => o = .returned (v.map (mm_rv B t)) ∧ va_P D vwCl (mm_wl B t cI cZ h') t'.heap ∧ va_D (fun q => B ≤ q) (mm_wl B t cI cZ h') ∧ va_F (fun q => B ≤ q) st t' ∧ mm_n h' ≤ 4000
def mm_ws (k : Nat) : List Cond := Cond.code (mm_y k) (mm_by k) (mm_mL k) (mm_rt k) :: mm_GW
def mm_rm (k mc ms : Nat) : Room := { frames := mm_dp k, cells := mc, slots := ms, locals := 40 * mm_dp k }
def mm_Mt (l : Launch) (D : va_G) (B t : Nat) (cI cZ : ClassId) (ng : Bool) (k : Nat) (as : List Value) (h : mm_H) (v : Option Value) (h' : mm_H) : Prop :=
  Met l (mm_y k) (mm_ws k) (mm_rm k (mm_n h' - mm_n h) (mm_sl h' - mm_sl h)) (mm_Pc D B t cI cZ ng as h) (mm_Qc D B t cI cZ v h') (mm_n h' - mm_n h) (mm_sl h' - mm_sl h) (fun q => B ≤ q)
theorem mm_Pc_blind {D : va_G} {B t : Nat} {cI cZ : ClassId} {ng : Bool} {as : List Value} {h : mm_H} : FrameBlind (mm_Pc D B t cI cZ ng as h) := by
  intro a U g mk q
  obtain ⟨q0, q1, q2, q3, q4, q5, q6, q7, q8, q9⟩ := q
  exact ⟨q0, q1, q2, va_K.moved (u := U) (U := U.calling g mk a) (Vm.Alike.refl U.vm) q3, mm_Nst.same (s := U) (U := U.calling g mk a) rfl q4, va_Z.moved (u := U) (U := U.calling g mk a) (Vm.Alike.refl U.vm) q5, va_T.moved (u := U) (U := U.calling g mk a) (Vm.Alike.refl U.vm) q6, q7, q8, q9⟩
section MMT
variable {p : Program} {l : Launch} {e : Env} {R : Room} {s : State} {m : MethodId} {args : Array Value} {below : List Frame} {meth : Method} {c : Code} {H : Heap} {locs : List Loc} {cells slots : Nat} {Q : State → Prop} {D : va_G} {B t : Nat} {cI cZ : ClassId} {k pc : Nat} {ls : mm_Ls} {st : List Value} {h : mm_H} {sl : Array Slot}
theorem mm_Wd_of {ng : Bool} (C : mm_Cx p R s m args meth c D B t cI cZ k) (hR : mm_Rl D B t cI cZ s h H locs) (hsz : ng = true → H.size = B + mm_n h) {U : State} (hU : U.heap = H) (hW : s.WarmedH U.vm) : mm_Wd D B t cI cZ ng h U := by
  obtain ⟨hx, hb, hml, hown, hts, hlocks, hret, hinit, hK, hN, hZ, hT, hB, hfr, hlo⟩ := C
  obtain ⟨hP, hD, hS, hn⟩ := hR
  unfold mm_Wd
  rw [hU]
  exact ⟨hP, hD, va_K.moved hW.alike hK, hN.warm hW, (hZ.moved hW.alike).kept (fun a h1 h2 => hS.2.1 a h1 h2), (hT.moved hW.alike).kept (fun a h1 h2 => hS.2.1 a h1 h2), hsz, Nat.le_trans hB hS.1, hn⟩
theorem mm_back {mc ms : Nat} {st0 rest : List Value} {a : Array Value} {v : Option Value} {h' : mm_H} (hr : va_Run p l e R s m args below meth c H locs cells slots mc ms (F0 m pc sl st0) rest (mm_Qc D B t cI cZ v h' a) (fun q => B ≤ q)) (hS : va_S (fun q => B ≤ q) s.heap H locs)
    (kk : ∀ (H1 : Heap) (locs1 : List Loc), mm_Rl D B t cI cZ s h' H1 locs1 → W p l e R s m args below meth c H1 locs1 (cells + mc) (slots + ms) Q (F0 m (pc + 3) sl ((v.map (mm_rv B t)).toList ++ rest))) : W p l e R s m args below meth c H locs cells slots Q (F0 m pc sl st0) := by
  intro T hT X
  obtain ⟨v', st₀, t', T', L, h0, X', hL, e1, e2, ⟨hv, hP, hD, hF, hn⟩, st⟩ := hr T hT X
  cases hv
  obtain ⟨hz, hk⟩ := hF
  rw [h0] at hz hk
  obtain ⟨t2, a1, b1⟩ := kk T'.heap (locs ++ L) ⟨by rw [e1]; exact hP, hD, ⟨Nat.le_trans hS.1 (by rw [e1]; exact hz), fun q h1 h2 => by rw [e1, hk q (Nat.lt_of_lt_of_le h1 hS.1) h2]; exact hS.2.1 q h1 h2, fun q hq => by
      rcases List.mem_append.mp hq with z | z
      · exact hS.2.2 q z
      · exact hL q z⟩, hn⟩ T' rfl X'
  exact ⟨t2, st t2 a1, b1⟩
end MMT
