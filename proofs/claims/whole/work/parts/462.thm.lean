/-! the class's method that throws: its contract then -/
theorem mm_run_len {ng : Bool} : ∀ {f k pc : Nat} {ls : mm_Ls} {st : List Value} {h : mm_H} {s' : mm_S}, mm_run ng f k pc ls st h = some s' → s'.2.1.length = ls.length
  | 0, _, _, _, _, _, _, hr => by cases hr
  | f + 1, k, pc, ls, st, h, s', hr => by
    obtain ⟨ins, len, p, q, hc, hcase⟩ := mm_run_inv hr
    rcases hcase with ⟨-, pc', ls', st', h', hi, hr⟩ | ⟨-, as, rest, pc', ls', st', h', v, -, h2, -, hr⟩ | ⟨-, rfl⟩
    · have a := mm_ins_mono hi
      exact (mm_run_len hr).trans a.2.2
    · exact mm_run_len hr
    · rfl
def mx_Zs (A : Nat → Prop) (U : State) : Prop := vx_Zq Bundle.tN "UNASSIGNED_STACK" Bundle.steD A U U.heap ∧ vx_Zq Bundle.tN "SUPPRESSED_SENTINEL" Bundle.listD A U U.heap
def mx_Pc (D : va_G) (B t : Nat) (cI cZ : ClassId) (X : String) (as : List Value) (I : mm_I) : Array Value → State → Prop := va_Pc (as.map (mm_rv B t)) (fun U => mo_Wd D B t cI cZ false (mm_lay, I) U ∧ exD X U ∧ mx_Zs (mo_A B) U)
def mx_XC (D : va_G) (B t : Nat) (cI cZ : ClassId) (X : String) (J : mm_I) : String → State → State → Prop := fun E st t' => E = X ∧ va_P D vwCl (mm_wl B t cI cZ (mm_lay, J)) t'.heap ∧ va_D (mo_A B) (mm_wl B t cI cZ (mm_lay, J)) ∧ va_F (mo_A B) st t'
def mx_f (k : Nat) : Nat := if mm_dp k < 6 then 6 else mm_dp k
theorem mx_f_b {k : Nat} (h : mm_dp k ≤ 13) : mm_dp k ≤ mx_f k ∧ 6 ≤ mx_f k ∧ mx_f k ≤ 13 := by
  unfold mx_f
  split <;> omega
def mx_rm (k : Nat) : Room := { frames := mx_f k, cells := 1, slots := 6, locals := 40 * mx_f k }
theorem mx_blind {D : va_G} {B t : Nat} {cI cZ : ClassId} {X : String} {as : List Value} {I : mm_I} : FrameBlind (mx_Pc D B t cI cZ X as I) := by
  intro a U g mk q
  obtain ⟨q0, ⟨q1, q2, q3, q4, q5, q6, q7, q8, q9⟩, q10, q11, q12⟩ := q
  exact ⟨q0, ⟨q1, q2, va_K.moved (u := U) (U := U.calling g mk a) (Vm.Alike.refl U.vm) q3, mm_Nst.same (s := U) (U := U.calling g mk a) rfl q4, va_Z.moved (u := U) (U := U.calling g mk a) (Vm.Alike.refl U.vm) q5, va_T.moved (u := U) (U := U.calling g mk a) (Vm.Alike.refl U.vm) q6, q7, q8, q9⟩, exD.same (s := U) (U := U.calling g mk a) rfl q10, vx_Zq.moved (u := U) (U := U.calling g mk a) (Vm.Alike.refl U.vm) q11, vx_Zq.moved (u := U) (U := U.calling g mk a) (Vm.Alike.refl U.vm) q12⟩
set_option maxHeartbeats 4000000 in
theorem mx_met {l : Launch} {D : va_G} {B t : Nat} {cI cZ : ClassId} {f k ik ic pcT : Nat} {X : String} {as : List Value} {I J : mm_I} {ls : mm_Ls} (hlt : l.stackTraces = false) (hk : k < 227) (hc8 : mm_c k = 8) (hy : plainName (mm_y k).cls = true) (hw : exW ik ic X)
    (hrun : mm_run false f k 0 (mm_ent (mm_mL k) as) [] (mm_lay, I) = some (pcT, ls, [], (mm_lay, J))) (hfit : (mm_ent0 as).length ≤ mm_mL k)
    (d0 : decode (mm_by k) pcT = .ok (.new ik, 3)) (d3 : decode (mm_by k) (pcT + 3) = .ok (.dup, 1)) (d4 : decode (mm_by k) (pcT + 4) = .ok (.invokespecial ic, 3)) (d7 : decode (mm_by k) (pcT + 7) = .ok (.athrow, 1)) :
    vx_Met l (mm_y k) (mm_ws k) (mx_rm k) (mx_Pc D B t cI cZ X as I) (fun _ _ _ _ => False) (mx_XC D B t cI cZ X J) 1 6 (mo_A B) := by
  obtain ⟨f1, f2, f3, f4, f5, f6, f7, f8, f9, f10, f11⟩ := mm_mk hk
  obtain ⟨x1, x2, x3, x4, x5, x6⟩ := hw
  have fb := mx_f_b f4
  refine vx_ofW (cc := mm_by k) (maxL := mm_mL k) (ret := mm_rt k) hy rfl ?_
  intro p e s m args below meth c s₁ Bd hml hno hv
  obtain ⟨rfl, ⟨w1, w2, w3, w4, w5, w6, w7, w8, w9⟩, w10, w11, w12⟩ := hv
  have hown : s.vm.findClass (mm_cn (mm_c k)) = some m.cls := by
    rw [← f1]
    exact findClass_of_methodNamed Bd.named
  have hown8 : s.vm.findClass "WholeSound" = some m.cls := by
    rw [hc8] at hown
    exact hown
  have hts0 := atoms_spec (ws := mm_ws k) Bd.pre
  have hts : ∀ w ∈ mm_GW, w.before (as.map (mm_rv B t)).toArray s = true := fun w hw => hts0 w (List.mem_cons_of_mem _ hw)
  have C : mo_Cx p (mx_rm k) s m (as.map (mm_rv B t)).toArray meth c D B t cI cZ k := ⟨Bd.exec, Bd.bytes, hml, hown, hts, Bd.notSynchronized, Bd.returns, fun h2 => (name_of_methodNamed Bd.named Bd.method).1.trans (f11 (by omega) (by omega)).1, w3, w4, w5, w6, w8, fb.1, Nat.mul_le_mul_left 40 fb.1⟩
  rw [lg_entry_eq]
  have n0 : mm_n (mm_lay, J) - mm_n (mm_lay, I) = 0 := Nat.sub_self mm_lay.1
  have s0 : mm_sl (mm_lay, J) - mm_sl (mm_lay, I) = 0 := Nat.sub_self mm_lay.2.1
  have key := mo_swAll l D B t cI cZ false rfl f (p := p) (e := e) (R := mx_rm k) (s := s) (m := m) (args := (as.map (mm_rv B t)).toArray) (below := below) (meth := meth) (c := c) (H := s.heap) (locs := []) (Q := vx_MQ below (fun _ _ _ _ => False) (mx_XC D B t cI cZ X J) (as.map (mm_rv B t)).toArray s 1 6 (mo_A B)) (n0 := mm_n (mm_lay, I)) (s0 := mm_sl (mm_lay, I)) hrun C (fun z => by cases z) (Nat.le_refl _) (Nat.le_refl _) (by show mm_n (mm_lay, J) - mm_n (mm_lay, I) ≤ 1; omega) (by show mm_sl (mm_lay, J) - mm_sl (mm_lay, I) ≤ 6; omega) ⟨w1, w2, va_S.rf, w9⟩ (mm_LR_ent hfit) (by simp [mm_ent]; omega) (fun H1 locs1 sl1 hR1 hL1 => ?_)
  · rw [Nat.sub_self, Nat.sub_self] at key
    exact key
  · obtain ⟨r1, r2, r3, r4⟩ := hR1
    refine vx_throw0 (own := "WholeSound") (cls := X) (names := exN) (ik := ik) (ic := ic) (A := mo_A B) Bd.exec Bd.bytes hlt hown8 x1 ex_fit (hts _ x5) (hts _ x6) (vx_hat (fun w hw => hts w (x4 w hw)) (fun w hw => by rw [x2] at hw; exact hw) w10.all) x3 w11 w12 r3 ?_ d0 d3 d4 d7 (fun x hx => absurd hx (fun z => hno x z)) (by show 2 + 3 < mx_f k; omega) (by show 0 + (13 * (2 + 1) + 42) ≤ 40 * mx_f k; omega) (by show mm_n (mm_lay, J) - mm_n (mm_lay, I) + 1 ≤ 1; omega) (by show mm_sl (mm_lay, J) - mm_sl (mm_lay, I) + 6 ≤ 6; omega) Bd.notSynchronized (fun t' _ hz hq => ?_) r3.2.2 (by show mm_n (mm_lay, J) - mm_n (mm_lay, I) + 1 ≤ 1; omega) (by show mm_sl (mm_lay, J) - mm_sl (mm_lay, I) + 6 ≤ 6; omega)
    · rw [hml]
      have e1 : ls.length = (mm_ent (mm_mL k) as).length := mm_run_len hrun
      have e2 : (mm_ent (mm_mL k) as).length = mm_mL k := by simp [mm_ent]; omega
      exact hL1.1.trans (e1.trans e2)
    · refine ⟨rfl, r1.kept (fun j q hj => hq _ (r1 j q hj).lt), r2, Nat.le_trans r3.1 hz, fun q h1 h2 => ?_⟩
      rw [hq q (Nat.lt_of_lt_of_le h1 r3.1)]
      exact r3.2.1 q h1 h2
