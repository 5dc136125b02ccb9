theorem mm_rk1 {o : Option FieldType} (h : mm_rk o = 1) : o = some .int := by
  unfold mm_rk at h
  split at h <;> first | rfl | cases h
theorem mm_rk2 {o : Option FieldType} (h : mm_rk o = 2) : o = some .boolean := by
  unfold mm_rk at h
  split at h <;> first | rfl | cases h
theorem mm_rk0 {o : Option FieldType} (h : mm_rk o = 0) : o = none := by
  unfold mm_rk at h
  split at h <;> first | rfl | cases h
theorem mm_rk3 {o : Option FieldType} (h : mm_rk o = 3) : o = some .float := by
  unfold mm_rk at h
  split at h <;> first | rfl | cases h
theorem mm_rk4 {o : Option FieldType} (h : mm_rk o = 4) : o = some .long := by
  unfold mm_rk at h
  split at h <;> first | rfl | cases h
theorem mm_rk6 {o : Option FieldType} (h : mm_rk o = 6) : ∃ rt, o = some rt ∧ ((∃ n, rt = .object n) ∨ ∃ t, rt = .array t) := by
  unfold mm_rk at h
  split at h <;> first | (cases h; done) | exact ⟨_, rfl, Or.inl ⟨_, rfl⟩⟩ | exact ⟨_, rfl, Or.inr ⟨_, rfl⟩⟩
theorem mm_cmd : (List.range 227).all (fun k => Nat.beq (mm_md k) 0 || Nat.blt (mm_c k) 10) = true := by decide +kernel
theorem mm_irtk : (List.range 227).all (fun k => !(Nat.beq (mm_md k) 2) || Nat.beq (mm_rk (mm_rt k)) 0) = true := by decide +kernel
theorem mm_irt (k : Nat) (hk : k < 227) (hm : mm_md k = 2) : mm_rt k = none := by
  have := List.all_eq_true.mp mm_irtk k (List.mem_range.mpr hk)
  rw [hm] at this
  exact mm_rk0 ((mm_beq_iff _ _).mp this)
theorem mm_ar {a n0 b c R : Nat} (h1 : n0 ≤ a) (h2 : a ≤ b) (h3 : b ≤ c) (h4 : c - n0 ≤ R) : a - n0 + (b - a) ≤ R := by omega
section MMU
variable {p : Program} {l : Launch} {e : Env} {R : Room} {s : State} {m : MethodId} {args : Array Value} {below : List Frame} {meth : Method} {c : Code} {H : Heap} {locs : List Loc} {cells slots : Nat} {Q : State → Prop} {D : va_G} {B t : Nat} {cI cZ : ClassId} {k pc : Nat} {ls : mm_Ls} {st : List Value} {h : mm_H} {sl : Array Slot}
/-- the end of a method -/
theorem mm_end {v : Option Value} {n0 s0 : Nat} (C : mm_Cx p R s m args meth c D B t cI cZ k) (hv : mm_ret k pc st = some v) (hR : mm_Rl D B t cI cZ s h H locs) : W p l e R s m args below meth c H locs n0 s0 (MQ below (mm_Qc D B t cI cZ v h) args s n0 s0 (fun q => B ≤ q)) (F0 m pc sl (st.map (mm_rv B t))) := by
  obtain ⟨hx, hb, hml, hown, hts, hlocks, hret, hinit, hK, hN, hZ, hT, hB, hfr, hlo⟩ := C
  obtain ⟨hP, hD, hS, hn⟩ := hR
  have post : ∀ t' : State, t'.heap = H → s.WarmedH t'.vm → mm_Qc D B t cI cZ v h args s (.returned (v.map (mm_rv B t))) t' := fun t' ht _ => ⟨rfl, by rw [ht]; exact hP, hD, hS.F ht, hn⟩
  unfold mm_ret at hv
  split at hv
  · cases hv
  · rename_i ins len p0 q0 hcod
    obtain ⟨hd, -, hlen⟩ := mm_cod_ok hcod
    split at hv
    · obtain rfl : len = 1 := hlen
      obtain ⟨h1, h2⟩ := mm_cond_inv hv
      obtain rfl := Option.some.inj h2
      exact W.vret hx hb (hret.trans (mm_rk0 ((mm_beq_iff _ _).mp h1))) post hS.2.2 hd
    · obtain rfl : len = 1 := hlen
      cases h1 : Nat.beq (mm_rk (mm_rt k)) 1 with
      | true =>
        rw [h1] at hv
        obtain rfl := Option.some.inj hv
        exact W.iret hx hb (hret.trans (mm_rk1 ((mm_beq_iff _ _).mp h1))) post hS.2.2 hd
      | false =>
        rw [h1] at hv
        obtain ⟨h1, h2⟩ := mm_cond_inv hv
        obtain rfl := Option.some.inj h2
        rw [Bool.and_eq_true, mm_beq_iff, Bool.or_eq_true, beq_iff_eq, beq_iff_eq] at h1
        refine W.zret hx hb (hret.trans (mm_rk2 h1.1)) ?_ post hS.2.2 hd
        rcases h1.2 with z | z <;> rw [z] <;> rfl
    · obtain rfl : len = 1 := hlen
      obtain ⟨h1, h2⟩ := mm_cond_inv hv
      obtain rfl := Option.some.inj h2
      exact W.fret hx hb (hret.trans (mm_rk3 ((mm_beq_iff _ _).mp h1))) post hS.2.2 hd
    · obtain rfl : len = 1 := hlen
      obtain ⟨h1, h2⟩ := mm_cond_inv hv
      obtain rfl := Option.some.inj h2
      exact W.lret hx hb (hret.trans (mm_rk4 ((mm_beq_iff _ _).mp h1))) post hS.2.2 hd
    · obtain rfl : len = 1 := hlen
      obtain ⟨h1, h2⟩ := mm_cond_inv hv
      obtain rfl := Option.some.inj h2
      obtain ⟨rt, hrt, hr2⟩ := mm_rk6 ((mm_beq_iff _ _).mp h1)
      exact W.aret hx hb (hret.trans hrt) hr2 (Or.inr ⟨_, rfl⟩) post hS.2.2 hd
    · obtain rfl : len = 1 := hlen
      obtain ⟨h1, h2⟩ := mm_cond_inv hv
      obtain rfl := Option.some.inj h2
      obtain ⟨rt, hrt, hr2⟩ := mm_rk6 ((mm_beq_iff _ _).mp h1)
      exact W.aret hx hb (hret.trans hrt) hr2 (Or.inl rfl) post hS.2.2 hd
    · cases hv
end MMU
/-- a run within a method -/
def mm_SW (l : Launch) (D : va_G) (B t : Nat) (cI cZ : ClassId) (ng : Bool) (f : Nat) : Prop :=
  ∀ {p : Program} {e : Env} {R : Room} {s : State} {m : MethodId} {args : Array Value} {below : List Frame} {meth : Method} {c : Code} {H : Heap} {locs : List Loc} {Q : State → Prop} {k pc : Nat} {ls : mm_Ls} {st : List Value} {h : mm_H} {sl : Array Slot} {n0 s0 : Nat} {s' : mm_S},
    mm_run ng f k pc ls st h = some s' → mm_Cx p R s m args meth c D B t cI cZ k → (ng = true → s.heap.size = B + n0) → n0 ≤ mm_n h → s0 ≤ mm_sl h → mm_n s'.2.2.2 - n0 ≤ R.cells → mm_sl s'.2.2.2 - s0 ≤ R.slots → mm_Rl D B t cI cZ s h H locs → mm_LR B t sl ls → ls.length = mm_mL k →
    (∀ H1 locs1 sl1, mm_Rl D B t cI cZ s s'.2.2.2 H1 locs1 → mm_LR B t sl1 s'.2.1 → W p l e R s m args below meth c H1 locs1 (mm_n s'.2.2.2 - n0) (mm_sl s'.2.2.2 - s0) Q (F0 m s'.1 sl1 (s'.2.2.1.map (mm_rv B t)))) →
    W p l e R s m args below meth c H locs (mm_n h - n0) (mm_sl h - s0) Q (F0 m pc sl (st.map (mm_rv B t)))
set_option maxHeartbeats 4000000 in
theorem mm_met_of {l : Launch} {D : va_G} {B t : Nat} {cI cZ : ClassId} {ng : Bool} {f k : Nat} {as : List Value} {h : mm_H} {s' : mm_S} {v : Option Value} (hSW : mm_SW l D B t cI cZ ng f) (hk : k < 227) (hrun : mm_run ng f k 0 (mm_ent (mm_mL k) as) [] h = some s') (hret : mm_ret k s'.1 s'.2.2.1 = some v) (hfit : (mm_ent0 as).length ≤ mm_mL k) : mm_Mt l D B t cI cZ ng k as h v s'.2.2.2 := by
  obtain ⟨f1, f2, f3, f4, f5, f6, f7, f8, f9, f10, f11⟩ := mm_mk hk
  refine mm_ofW (cc := mm_by k) (maxL := mm_mL k) (ret := mm_rt k) f5 rfl ?_
  intro p e s m args below meth c s₁ Bd hml hv
  obtain ⟨rfl, w1, w2, w3, w4, w5, w6, w7, w8, w9⟩ := hv
  have hown : s.vm.findClass (mm_cn (mm_c k)) = some m.cls := by
    rw [← f1]
    exact findClass_of_methodNamed Bd.named
  have hts0 := atoms_spec (ws := mm_ws k) Bd.pre
  have C : mm_Cx p (mm_rm k (mm_n s'.2.2.2 - mm_n h) (mm_sl s'.2.2.2 - mm_sl h)) s m (as.map (mm_rv B t)).toArray meth c D B t cI cZ k := ⟨Bd.exec, Bd.bytes, hml, hown, fun w hw => hts0 w (List.mem_cons_of_mem _ hw), Bd.notSynchronized, Bd.returns, fun h2 => (name_of_methodNamed Bd.named Bd.method).1.trans (f11 (by omega) (by omega)).1, w3, w4, w5, w6, w8, Nat.le_refl _, Nat.le_refl _⟩
  rw [lg_entry_eq]
  have key := hSW (p := p) (e := e) (R := mm_rm k (mm_n s'.2.2.2 - mm_n h) (mm_sl s'.2.2.2 - mm_sl h)) (s := s) (m := m) (args := (as.map (mm_rv B t)).toArray) (below := below) (meth := meth) (c := c) (H := s.heap) (locs := []) (Q := MQ below (mm_Qc D B t cI cZ v s'.2.2.2) (as.map (mm_rv B t)).toArray s (mm_n s'.2.2.2 - mm_n h) (mm_sl s'.2.2.2 - mm_sl h) (fun q => B ≤ q)) (n0 := mm_n h) (s0 := mm_sl h) hrun C w7 (Nat.le_refl _) (Nat.le_refl _) (Nat.le_refl _) (Nat.le_refl _) ⟨w1, w2, va_S.rf, w9⟩ (mm_LR_ent hfit) (by simp [mm_ent]; omega) (fun H1 locs1 sl1 hR1 hL1 => mm_end C hret hR1)
  rw [Nat.sub_self, Nat.sub_self] at key
  exact key
set_option maxHeartbeats 4000000 in
theorem mm_swAll (l : Launch) (D : va_G) (B t : Nat) (cI cZ : ClassId) (ng : Bool) : ∀ f, mm_SW l D B t cI cZ ng f := by
  intro f
  induction f with
  | zero =>
    intro p e R s m args below meth c H locs Q k pc ls st h sl n0 s0 s' hrun
    cases hrun
  | succ f ih =>
    intro p e R s m args below meth c H locs Q k pc ls st h sl n0 s0 s' hrun C hng hn0 hs0 hrc hrs hR hL hll kk
    obtain ⟨ins, len, pp, q, hcod, hcase⟩ := mm_run_inv hrun
    obtain ⟨hd, hck, hlen⟩ := mm_cod_ok hcod
    rcases hcase with ⟨hk0, pc', ls', st', h', hi, hr⟩ | ⟨hk1, as, rest, pc', ls', st', h1, v, hcall, hr1, hv, hr⟩ | ⟨-, rfl⟩
    · have hm1 := mm_ins_mono hi
      have hm2 := mm_run_mono hr
      refine mm_step C hd hck hlen hi hk0 hng hn0 hs0 (Nat.le_trans (Nat.sub_le_sub_right hm2.1 n0) hrc) (Nat.le_trans (Nat.sub_le_sub_right hm2.2 s0) hrs) hR hL hll (fun H1 locs1 sl1 hR1 hL1 => ?_)
      exact ih hr C hng (Nat.le_trans hn0 hm1.1) (Nat.le_trans hs0 hm1.2.1) hrc hrs hR1 hL1 (hm1.2.2.trans hll) kk
    · obtain ⟨hst, hlen2, hsum, hdp, hna, hfit, hrecv⟩ := mm_call_inv hcall
      have hm1 := mm_run_mono hr1
      have hm2 := mm_run_mono hr
      simp only at hm1
      obtain ⟨hx, hb, hml, hown, hts, hlocks, hret, hinit, hK, hN, hZ, hT, hB, hfr, hlo⟩ := id C
      -- which method, and how it is linked
      have hlink : ∃ ix : Nat, pp < 227 ∧ len = 3 ∧ ((ins = .invokevirtual ix ∧ mm_md pp = 1) ∨ (ins = .invokestatic ix ∧ mm_md pp = 0) ∨ (ins = .invokespecial ix ∧ mm_md pp = 2)) ∧ (Cond.methodLink (mm_cn (mm_c k)) ix (mm_y pp) ∈ mm_GW ∨ mm_nw (mm_c k) ix (mm_y pp) ∈ lw_tbl) := by
        cases ins with
        | invokevirtual ix =>
          simp only [mm_ckP, Bool.and_eq_true] at hck
          obtain ⟨a1, a2, a3⟩ := mm_ml_ok hck.1
          exact ⟨ix, a1, hlen, Or.inl ⟨rfl, a2⟩, a3⟩
        | invokestatic ix =>
          have hp : pp < 1000 := by
            simp only [mm_knd] at hk1
            cases hb0 : Nat.blt pp 1000 with
            | true => exact (mm_blt_iff _ _).mp hb0
            | false => rw [hb0] at hk1; cases hk1
          simp only [mm_ckP, if_neg (show ¬ pp = 1002 by omega), if_neg (show ¬ pp = 1003 by omega), Bool.and_eq_true] at hck
          obtain ⟨a1, a2, a3⟩ := mm_ml_ok hck.1
          exact ⟨ix, a1, hlen, Or.inr (Or.inl ⟨rfl, a2⟩), a3⟩
        | invokespecial ix =>
          have hp : pp < 1000 := by
            simp only [mm_knd] at hk1
            cases hb0 : Nat.blt pp 1000 with
            | true => exact (mm_blt_iff _ _).mp hb0
            | false =>
              rw [hb0] at hk1
              cases hb1 : Nat.beq pp 1004 <;> rw [hb1] at hk1 <;> cases hk1
          simp only [mm_ckP, if_neg (show ¬ pp = 1004 by omega), if_neg (show ¬ pp = 1999 by omega), Bool.and_eq_true] at hck
          obtain ⟨a1, a2, a3⟩ := mm_ml_ok hck.1
          exact ⟨ix, a1, hlen, Or.inr (Or.inr ⟨rfl, a2⟩), a3⟩
        | new ix =>
          simp only [mm_knd] at hk1
          cases hb0 : Nat.blt pp 100 <;> rw [hb0] at hk1 <;> cases hk1
        | _ => cases hk1
      obtain ⟨ix, hpk, rfl, hkind, hword⟩ := hlink
      obtain ⟨f1, f2, f3, f4, f5, f6, f7, f8, f9, f10, f11⟩ := mm_mk hpk
      have hM := mm_met_of (l := l) ih hpk hr1 hv hfit
      unfold mm_Mt at hM
      have hgood : ∀ w ∈ mm_ws pp, w ∈ mm_GW := fun w hw => by
        rcases List.mem_cons.mp hw with rfl | z
        · exact f7
        · exact z
      have hroom : (mm_rm pp (mm_n h1 - mm_n h) (mm_sl h1 - mm_sl h)).frames + 1 ≤ R.frames ∧ 8 + (mm_mL pp + 11) + (mm_rm pp (mm_n h1 - mm_n h) (mm_sl h1 - mm_sl h)).locals ≤ R.locals := ⟨by show mm_dp pp + 1 ≤ _; omega, by show 8 + (mm_mL pp + 11) + 40 * mm_dp pp ≤ _; omega⟩
      have hcell : mm_n h - n0 + (mm_n h1 - mm_n h) ≤ R.cells ∧ mm_sl h - s0 + (mm_sl h1 - mm_sl h) ≤ R.slots := ⟨mm_ar hn0 hm1.1 hm2.1 hrc, mm_ar hs0 hm1.2 hm2.2 hrs⟩
      have hsl : sl.size = mm_mL k := hL.1.trans hll
      have hsum' : 2 * (F0 m pc sl (st.map (mm_rv B t))).monitorRoom + ((rest.map (mm_rv B t)).map fun v => v.category).sum ≤ 8 := lv_room (by rw [mm_cat_sum]; exact hsum)
      have hce : mm_n h - n0 + (mm_n h1 - mm_n h) = mm_n h1 - n0 := by have := hm1.1; omega
      have hse : mm_sl h - s0 + (mm_sl h1 - mm_sl h) = mm_sl h1 - s0 := by have := hm1.2; omega
      refine mm_Wsz (fun hsz => ?_)
      have hlow := mm_low hR hB
      have hsize : ng = true → H.size = B + mm_n h := fun z => by have := hng z; omega
      have hgo : va_Run p l e R s m args below meth c H locs (mm_n h - n0) (mm_sl h - s0) (mm_n h1 - mm_n h) (mm_sl h1 - mm_sl h) (F0 m pc sl (st.map (mm_rv B t))) (rest.map (mm_rv B t)) (mm_Qc D B t cI cZ v h1 (as.map (mm_rv B t)).toArray) (fun q => B ≤ q) := by
        have hstat : (F0 m pc sl (st.map (mm_rv B t))).stack = (as.map (mm_rv B t)).reverse ++ rest.map (mm_rv B t) := by
          show st.map (mm_rv B t) = _
          rw [hst, List.map_append, List.map_reverse]
        rcases hkind with ⟨rfl, hmd⟩ | ⟨rfl, hmd⟩ | ⟨rfl, hmd⟩
        · obtain ⟨a, as', rfl, ha, hKa⟩ := hrecv.resolve_left (by omega)
          have hc10 : mm_c pp < 10 := by
            have := List.all_eq_true.mp mm_cmd pp (List.mem_range.mpr hpk)
            rw [Bool.or_eq_true, mm_beq_iff, mm_blt_iff] at this
            omega
          have hget := mm_wl_get (B := B) (t := t) (cI := cI) (cZ := cZ) ha
          rw [mm_cel_obj hKa hc10] at hget
          have hrc2 := va_recv hK hR.1 (mm_cl hc10).1 hget
          have er : mm_rv B t (.ref a) = .ref (B + a) := mm_rv_ref ha hR.2.2.2
          rw [List.map_cons, er] at hstat ⊢
          have hpar : (parseMethodDescriptor (mm_y pp).desc).map (fun d => d.parameters.length) = some as'.length := by
            have h1 := (f9 (by omega)).2
            cases hpd : parseMethodDescriptor (mm_y pp).desc with
            | none => rw [hpd] at h1; cases h1
            | some d =>
              rw [hpd] at h1
              have h2 : d.parameters.length + 1 = mm_na pp := Option.some.inj h1
              simp only [List.length_cons] at hlen2
              show some d.parameters.length = _
              congr 1
              omega
          have hstk : (F0 m pc sl (st.map (mm_rv B t))).stack = (as'.map (mm_rv B t)).reverse ++ .ref (B + a) :: rest.map (mm_rv B t) := by
            rw [hstat]
            simp
          have hpre : PreV s H (mm_cn (mm_c pp)) (B + a) (mm_Pc D B t cI cZ ng (.ref a :: as') h) (as'.map (mm_rv B t)) := ⟨mm_Pc_blind, hrc2, fun U hU hW => ⟨by rw [List.map_cons, er], mm_Wd_of C hR hsize hU hW⟩⟩
          have hsel := f10 hmd
          rw [f1] at hsel
          rcases hword with hword | hword
          · refine va_runV ⟨hx, hb, hml, hown, hts⟩ hM (cwV as'.length hts (mm_gw_good _ ?_) rfl rfl rfl ⟨f1, f6.1, f6.2, hpar⟩ hroom) hpre rfl (by simp) hsl hstk hsum' hd hcell
            intro w hw
            simp only [wsV, List.mem_append, List.mem_cons, List.not_mem_nil, or_false] at hw
            rcases hw with (rfl | rfl | rfl | rfl) | z
            · exact hword
            · exact (f9 (by omega)).1
            · exact hsel
            · rw [← f1]; exact f2
            · exact hgood w z
          · exact va_runVN ⟨hx, hb, hml, hown, hts⟩ hM ⟨va_cnB as'.length hts (mm_gw_good _ hgood) rfl rfl rfl (hN _ _ _ hword) (hts _ f2) ⟨f6.1, f6.2, hpar⟩ hroom, hts _ (f9 (by omega)).1, hts _ hsel⟩ hpre rfl (by simp) hsl hstk hsum' hd hcell
        · have hpar := (f8 hmd).2
          rw [hna] at hpar
          have hpre : PreS s H (mm_Pc D B t cI cZ ng as h) (as.map (mm_rv B t)) := ⟨mm_Pc_blind, fun U hU hW => ⟨rfl, mm_Wd_of C hR hsize hU hW⟩⟩
          rcases hword with hword | hword
          · refine va_runS ⟨hx, hb, hml, hown, hts⟩ hM (va_cwS q hts (mm_gw_good _ ?_) rfl rfl rfl ⟨f6.1, f6.2, hpar⟩ hroom) hpre rfl (by simp [hlen2]) hsl hstat hsum' hd hcell
            intro w hw
            simp only [va_wsS, List.mem_append, List.mem_cons, List.not_mem_nil, or_false] at hw
            rcases hw with (rfl | rfl | rfl) | z
            · exact hword
            · exact (f8 hmd).1
            · exact f2
            · exact hgood w z
          · exact va_runSN ⟨hx, hb, hml, hown, hts⟩ hM ⟨va_cnB q hts (mm_gw_good _ hgood) rfl rfl rfl (hN _ _ _ hword) (hts _ f2) ⟨f6.1, f6.2, hpar⟩ hroom, hts _ (f8 hmd).1, trivial⟩ hpre rfl (by simp [hlen2]) hsl hstat hsum' hd hcell
        · obtain ⟨a, as', rfl, ha, hKa⟩ := hrecv.resolve_left (by omega)
          have er : mm_rv B t (.ref a) = .ref (B + a) := mm_rv_ref ha hR.2.2.2
          rw [List.map_cons, er] at hstat ⊢
          have hpar : (parseMethodDescriptor (mm_y pp).desc).map (fun d => d.parameters.length) = some as'.length := by
            have h1 := (f9 (by omega)).2
            cases hpd : parseMethodDescriptor (mm_y pp).desc with
            | none => rw [hpd] at h1; cases h1
            | some d =>
              rw [hpd] at h1
              have h2 : d.parameters.length + 1 = mm_na pp := Option.some.inj h1
              simp only [List.length_cons] at hlen2
              show some d.parameters.length = _
              congr 1
              omega
          have hstk : (F0 m pc sl (st.map (mm_rv B t))).stack = (as'.map (mm_rv B t)).reverse ++ .ref (B + a) :: rest.map (mm_rv B t) := by
            rw [hstat]
            simp
          have hpre : PreS s H (mm_Pc D B t cI cZ ng (.ref a :: as') h) (.ref (B + a) :: as'.map (mm_rv B t)) := ⟨mm_Pc_blind, fun U hU hW => ⟨by rw [List.map_cons, er], mm_Wd_of C hR hsize hU hW⟩⟩
          have hnm := (f11 (by omega) (by omega)).1
          have hrt : mm_rt pp = none := mm_irt pp hpk hmd
          have hM2 := hM
          have hcodeN : mm_ws pp = Cond.code (mm_y pp) (mm_by pp) (mm_mL pp) none :: mm_GW := by
            unfold mm_ws
            rw [hrt]
          rcases hword with hword | hword
          · exact va_runI ⟨hx, hb, hml, hown, hts⟩ hM2 (cwI as'.length hts (mm_gw_good _ hgood) hcodeN rfl rfl (hts _ f2) (hts _ hword) (hts _ (f9 (by omega)).1) hnm ⟨f6.1, f6.2, hpar⟩ hroom) hpre rfl (by simp) hsl hstk hsum' hd hcell
          · exact va_runIN ⟨hx, hb, hml, hown, hts⟩ hM2 ⟨va_cnB as'.length hts (mm_gw_good _ hgood) hcodeN rfl rfl (hN _ _ _ hword) (hts _ f2) ⟨f6.1, f6.2, hpar⟩ hroom, hnm, hts _ (f9 (by omega)).1⟩ hpre rfl (by simp) hsl hstk hsum' hd hcell
      refine mm_back hgo hR.2.2.1 (fun H1 locs1 hR1 => ?_)
      have := ih hr C hng (by have := hm1.1; omega) (by have := hm1.2; omega) hrc hrs hR1 hL hll kk
      rw [List.map_append] at this
      rw [hce, hse]
      have ev : (v.map (mm_rv B t)).toList = v.toList.map (mm_rv B t) := by cases v <;> rfl
      rw [ev]
      exact this
    · exact kk H locs sl hR hL
