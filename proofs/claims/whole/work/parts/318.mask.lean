/-! what is asked of frames -/
theorem nchN {ch : Nat} (h : ch ≤ 100000) (x : Int32) : (0 ≤ x ∧ x ≤ nI ch - 1) ↔ ∃ c, c < ch ∧ x = nI c := by
  have t1 : (1 : Int32).toInt = 1 := rfl
  have e : (nI ch - 1).toInt = (ch : Int) - 1 := by
    rw [tI_sub (by rw [nI_toInt (by omega), t1]; omega) (by rw [nI_toInt (by omega), t1]; omega), nI_toInt (by omega), t1]
  rw [le_I, le_I, e]
  show (0 ≤ x.toInt ∧ _) ↔ _
  constructor
  · rintro ⟨h1, h2⟩
    exact ⟨x.toInt.toNat, by omega, tI_nI (by omega) (by omega)⟩
  · rintro ⟨c, hc, rfl⟩
    rw [nI_toInt (by omega)]
    omega
abbrev okF (A : sA) (x : Int32) : Prop := 0 ≤ x ∧ x ≤ nI (nfr A) - 1
abbrev okR (A : sA) (x y : Int32) : Prop := okF A x ∧ (0 ≤ y ∧ y ≤ nI (s_ch A) - 1)
theorem nfr_ok {A : sA} (hV : VA A) {f : Nat} (h : f < nfr A) : FrO A (s_fr A) f := by
  unfold nfr at h
  have hf := hV.fr
  by_cases q : rdy A
  · rw [if_pos q] at h
    have := (Nat.lt_div_iff_mul_lt (by omega)).mp h
    rw [Nat.mul_comm] at this
    exact ⟨q, by omega, hf.1, hf.2.1⟩
  · rw [if_neg q] at h
    omega
theorem sp_M_isFrameThere {P : Int32 → mm_I → Prop} {A : sA} {I : mm_I} {x : Int32} (hR : RM A I) (hV : VA A) (H : P (b1 (okF A x)) I) : mm_Mi 148 [.ref 58, .int x] I P :=
  e_M_isFrameThere x (sp_M_frames hR.2.1 hR.2.2.1 hV (sp_M_within ⟨b1_01, H⟩))
theorem okF_f {A : sA} (hV : VA A) {x : Int32} (h : okF A x) : ∃ f, f < nfr A ∧ x = nI f := (nchN (by have := nfr_le hV; omega) x).mp h
theorem soF_ok {A : sA} {fr f set r : Nat} (hV : VA A) (hr : r < s_ch A) : soO A (soF (jOf A fr f set) r) := by
  have hch := hV.ch
  by_cases q2 : s_ch A = 2
  · exact Or.inr ⟨soF_lt _ _, q2⟩
  · rcases jOf_ok A fr f set with z | ⟨_, z2⟩
    · rw [z, show r = 0 by omega]; exact Or.inl rfl
    · exact absurd z2 q2
abbrev qSo (A : sA) (f r : Nat) : Nat := soF (jOf A (s_fr A) f (s_al A)) r
abbrev qX (A : sA) (f r : Nat) : Nat → Int32 := o_rx A (s_fr A) f (qSo A f r)
abbrev qN (A : sA) (f : Nat) : Nat := o_rn A (s_fr A) f
abbrev qB (A : sA) (f r : Nat) : Nat := o_rb A (qSo A f r)
theorem sp_M_isRowLaid {P : Int32 → mm_I → Prop} {A : sA} {I : mm_I} {x y : Int32} (hR : RM A I) (hV : VA A) (H0 : ¬ okR A x y → P 0 I)
    (H : ∀ f r J, x = nI f → f < nfr A → y = nI r → r < s_ch A → RwI (qX A f r) (qN A f) (qB A f r) J → sm F_ls I J → P 1 J) : mm_Mi 175 [.ref 58, .int x, .int y] I P := by
  have hch := hV.ch
  have hal := hV.al
  refine e_M_isRowLaid x y (sp_M_isFrameThere hR hV ⟨fun h => H0 (fun z => (b1_0.mp h) z.1), fun h => sp_M_within ⟨fun h2 => ?_, fun h2 => H0 (fun z => (b1_0.mp h2) ?_)⟩⟩)
  · obtain ⟨f, hf, rfl⟩ := okF_f hV (b1_n h)
    have hy := b1_n h2
    rw [hR.2.1.1] at hy
    obtain ⟨r, hr, rfl⟩ := (nch hch y).mp hy
    rw [hR.2.2.1.2.2]
    have hF := nfr_ok hV hf
    refine sp_M_joinOf hR hV hF (by omega) hal.2 (fun J a1 a2 => ?_)
    have jl : jOf A (s_fr A) f (s_al A) < 4 := by have := jOf_ok A (s_fr A) f (s_al A); omega
    refine sp_M_sortOf jl (by omega) (sp_M_laysRow (hR.sc a2.ls) hV hF.1 (soF_ok hV hr) (by have := hF.2.1; omega) (fun J2 b1 b2 => ?_))
    exact H f r J2 rfl hf rfl hr b1 (sm.tq a2 (b2.le (fun _ _ h => (F_ls_p h).1)))
  · rw [hR.2.1.1]
    exact z.2
/-- an answer that changes nothing -/
theorem finS {A : sA} {I J : mm_I} {v r t : Int32} (hR : RM A I) (f : sm F_sc (mm_up I 58 16 t) J) (e : r = v) : oR (v, A) RM FM I r J :=
  ⟨e, hR.th.sc f, (FM.rf.up (by omega)).tr f.sFM⟩
theorem fin0 {A : sA} {I : mm_I} {v r t : Int32} (hR : RM A I) (e : r = v) : oR (v, A) RM FM I r (mm_up I 58 16 t) := finS hR sm.rf e
def oJoin (A : sA) (x : Int32) : Int32 × sA := (if okF A x then nI (jOf A (s_fr A) x.toNatClampNeg (s_al A)) else -1, A)
theorem oM_join {A : sA} {I : mm_I} {x : Int32} (hR : RM A I) (hV : VA A) : mm_Mi 173 [.ref 58, .int x] I (oR (oJoin A x) RM FM I) := by
  have hal := hV.al
  refine e_M_join x (sp_M_isFrameThere hR.th hV ⟨fun h => fin0 hR (by rw [if_neg (b1_0.mp h)]), fun h => ?_⟩)
  have ok := b1_n h
  obtain ⟨f, hf, e⟩ := okF_f hV ok
  have nb := nfr_le hV
  have e8 : (mm_up I 58 16 0) 58 8 = nI (s_al A) := hR.2.2.1.2.2
  have ec : x.toNatClampNeg = f := by rw [e]; exact nI_clamp (by omega)
  rw [e8, e]
  refine sp_M_joinOf hR.th hV (nfr_ok hV hf) (by omega) hal.2 (fun J a1 a2 => ?_)
  refine finS hR a2.ls ?_
  rw [← e, if_pos ok, ec]
def oJoined (A : sA) (x y : Int32) : Int32 × sA := (if okF A x ∧ (0 ≤ y ∧ y ≤ (if s_ch A = 2 then 3 else 0)) then nI (jBt A (s_fr A) x.toNatClampNeg (s_al A) y.toNatClampNeg) else -1, A)
theorem oM_joined {A : sA} {I : mm_I} {x y : Int32} (hR : RM A I) (hV : VA A) : mm_Mi 174 [.ref 58, .int x, .int y] I (oR (oJoined A x y) RM FM I) := by
  have hal := hV.al
  have hch := hV.ch
  have e4 : (if (mm_up I 58 16 0) 58 4 = 2 then (3 : Int32) else 0) = (if s_ch A = 2 then (3 : Int32) else 0) := by
    show (if I 58 4 = 2 then (3 : Int32) else 0) = _
    rw [hR.2.1.1]
    by_cases q : s_ch A = 2
    · rw [if_pos q, if_pos (by rw [q]; rfl)]
    · have q2 : ¬ nI (s_ch A) = 2 := fun z => q ((nI_eq (b := 2) (by omega) (by omega)).mp z)
      rw [if_neg q, if_neg q2]
  refine e_M_joined x y (sp_M_isFrameThere hR.th hV ⟨fun h => fin0 hR (by rw [if_neg (fun z => (b1_0.mp h) z.1)]), fun h => sp_M_within ⟨fun h2 => ?_, fun h2 => fin0 hR (by rw [if_neg (fun z => (b1_0.mp h2) (by rw [e4]; exact z.2))])⟩⟩)
  have ok := b1_n h
  have ok2 := b1_n h2
  rw [e4] at ok2
  obtain ⟨f, hf, e⟩ := okF_f hV ok
  have nb := nfr_le hV
  have e8 : (mm_up I 58 16 0) 58 8 = nI (s_al A) := hR.2.2.1.2.2
  have ec : x.toNatClampNeg = f := by rw [e]; exact nI_clamp (by omega)
  have hj : ∃ j, jOk A j ∧ y = nI j := by
    by_cases q : s_ch A = 2
    · rw [if_pos q] at ok2
      obtain ⟨j, hj, ey⟩ := btw0 (m := 3) (by omega) ok2
      exact ⟨j, Or.inr ⟨by omega, q⟩, ey⟩
    · rw [if_neg q] at ok2
      obtain ⟨j, hj, ey⟩ := btw0 (m := 0) (by omega) ok2
      exact ⟨j, Or.inl (by omega), ey⟩
  obtain ⟨j, hj, ey⟩ := hj
  have ej : y.toNatClampNeg = j := by rw [ey]; exact nI_clamp (by omega)
  rw [e8, e, ey]
  refine sp_M_laysSorts hR.th hV (nfr_ok hV hf) (by omega) hal.2 (fun J a1 a2 => ?_)
  refine sp_M_joinedBits hV ⟨(a2 58 4 rfl).trans hR.2.1.1, a1⟩ hj ?_
  refine finS hR a2.ls ?_
  rw [← e, ← ey, if_pos ⟨ok, ok2⟩, ec, ej]
abbrev qH (A : sA) (f r : Nat) : Nat := hwH (s_wt A) (s_sh A) (qX A f r) (qN A f) (qB A f r) (s_ef A) (s_al A)
abbrev qBi (A : sA) (f r : Nat) : Nat := hwB (s_wt A) (s_sh A) (qX A f r) (qN A f) (qB A f r) (s_ef A) (s_al A)
abbrev qC (A : sA) (f r : Nat) : Nat := hwC (s_wt A) (s_sh A) (qX A f r) (qN A f) (qB A f r) (s_ef A) (s_al A)
abbrev qE (A : sA) (f r : Nat) : Nat → Int32 := hwE (s_wt A) (s_sh A) (qX A f r) (qN A f) (qB A f r) (s_ef A) (s_al A)
abbrev qM (A : sA) (f r : Nat) : Nat := hwM (s_wt A) (s_sh A) (qX A f r) (qN A f) (qB A f r) (s_ef A) (s_al A)
theorem F_rc_ls {I J : mm_I} (f : sm F_rc I J) : sm F_ls I J := f.le (fun _ _ h => (F_ls_p h).2)
theorem RM.th1 {A : sA} {I : mm_I} {v : Int32} (h : RM A I) : (mm_up I 58 16 v) 58 8 = nI (s_al A) := h.2.2.1.2.2
def oRow (A : sA) (x y z : Int32) : Int32 × sA := (if okR A x y ∧ (0 ≤ z ∧ z ≤ 2) then (if z = 0 then nI (qH A x.toNatClampNeg y.toNatClampNeg) else if z = 1 then nI (qBi A x.toNatClampNeg y.toNatClampNeg) else nI (qC A x.toNatClampNeg y.toNatClampNeg)) else -1, A)
theorem okR_of {A : sA} (hV : VA A) {f r : Nat} (hf : f < nfr A) (hr : r < s_ch A) : okR A (nI f) (nI r) := ⟨(nchN (by have := nfr_le hV; omega) _).mpr ⟨f, hf, rfl⟩, (nch hV.ch _).mpr ⟨r, hr, rfl⟩⟩
theorem oM_row {A : sA} {I : mm_I} {x y z : Int32} (hR : RM A I) (hV : VA A) : mm_Mi 176 [.ref 58, .int x, .int y, .int z] I (oR (oRow A x y z) RM FM I) := by
  have hal := hV.al
  have hch := hV.ch
  have nb := nfr_le hV
  refine e_M_row x y z (sp_M_within ⟨fun h => fin0 hR (by rw [if_neg (fun w => (b1_0.mp h) w.2)]), fun h => sp_M_isRowLaid hR.th hV (fun h2 => ⟨fun w => absurd rfl w, fun _ => fin0 hR (by rw [if_neg (fun w => h2 w.1)])⟩) (fun f r J e1 hf e2 hr a1 a2 => ⟨fun _ => ?_, fun w => absurd w (by decide)⟩)⟩)
  have hz := b1_n h
  have hF := nfr_ok hV hf
  have e8 : J 58 8 = nI (s_al A) := (a2 58 8 rfl).trans hR.th1
  have hRJ := hR.th.sc a2.ls
  rw [e8]
  refine sp_M_rowCosts (hRJ.pw hV) hV.wb a1 (o_rx_b hV hF (soF_ok hV hr)) (o_rn_b hF).1 (o_rb_b hV) (by omega) hal.2 (fun J2 b1 b2 b3 => ?_)
  refine finS hR (sm.tq a2 (F_rc_ls b3)).ls ?_
  subst e1
  subst e2
  have okk : okR A (nI f) (nI r) ∧ (0 ≤ z ∧ z ≤ 2) := ⟨okR_of hV hf hr, hz⟩
  rw [if_pos okk, nI_clamp (n := f) (by omega), nI_clamp (n := r) (by omega), b1.1, b1.2.1]
def oTried (A : sA) (x y z : Int32) : Int32 × sA := (if okR A x y ∧ (0 ≤ z ∧ z ≤ 7) ∧ o_od (s_wt A) z.toNatClampNeg < qN A x.toNatClampNeg then nI (cst (s_wt A) (s_sh A) (qX A x.toNatClampNeg y.toNatClampNeg) (qN A x.toNatClampNeg) (qB A x.toNatClampNeg y.toNatClampNeg) (s_ef A) z.toNatClampNeg) else -1, A)
theorem oM_tried {A : sA} {I : mm_I} {x y z : Int32} (hR : RM A I) (hV : VA A) : mm_Mi 179 [.ref 58, .int x, .int y, .int z] I (oR (oTried A x y z) RM FM I) := by
  have hch := hV.ch
  have nb := nfr_le hV
  refine e_M_tried x y z (sp_M_within ⟨fun h => fin0 hR (by rw [if_neg (fun w => (b1_0.mp h) w.2.1)]), fun h => sp_M_isRowLaid hR.th hV (fun h2 => ⟨fun _ => fin0 hR (by rw [if_neg (fun w => h2 w.1)]), fun w => absurd rfl w⟩) (fun f r J e1 hf e2 hr a1 a2 => ⟨fun w => absurd w (by decide), fun _ => ?_⟩)⟩)
  have hz := b1_n h
  obtain ⟨p, hp, e3⟩ := btw0 (m := 7) (by omega) hz
  have hF := nfr_ok hV hf
  have hRJ := hR.th.sc a2.ls
  have n64 := a1.1
  have o4 := o_od_le (s_wt A) p
  subst e1
  subst e2
  subst e3
  refine sp_M_orderOf (Or.inl rfl) (by omega) ?_
  rw [o_od_c (w' := s_wt A) (by omega) hRJ.2.2.2.1.1, a1.2.1]
  refine ⟨fun h2 => finS hR a2.ls ?_, fun h2 => ?_⟩
  · have h2 := (nI_leI (by omega) (by omega)).mp h2
    rw [nI_clamp (n := f) (by omega), nI_clamp (n := p) (by omega), if_neg (fun w => by have := w.2.2; omega)]
  · have h2 := (nI_ltI (by omega) (by omega)).mp h2
    refine sp_M_costs (hRJ.pw hV) hV.wb a1 (o_rx_b hV hF (soF_ok hV hr)) (by omega) h2 (fun J2 b1 b2 b3 => ?_)
    refine finS hR (sm.tq a2 (F_rc_ls b3.rc)).ls ?_
    rw [nI_clamp (n := f) (by omega), nI_clamp (n := p) (by omega), nI_clamp (n := r) (by omega), if_pos ⟨okR_of hV hf hr, hz, h2⟩]
/-! the bits of a float -/
theorem cmpI_s (a : Int) : compare a a = Ordering.eq := by
  show compareOfLessAndEq a a = Ordering.eq
  unfold compareOfLessAndEq
  rw [if_neg (Int.lt_irrefl a), if_pos rfl]
theorem cmp_ge {r : UInt32} (h : pD (FP.Core.val32 r)) : (Op.cmpValue (FP.fcmp r r) .l) = 0 := by
  have e : FP.fcmp r r = FP.Core.order (FP.Core.val32 r) (FP.Core.val32 r) := rfl
  rw [e]
  rcases h with z | ⟨c, q, z⟩
  · rw [z]
    rfl
  · rw [z]
    unfold FP.Core.order
    simp only [cmpI_s]
    rfl
theorem sp_floatBits {P : Int32 → mm_I → Prop} {I : mm_I} {v : UInt32} (h : pD (FP.Core.val32 v)) (H : P v.toInt32 I) : mm_Mi 223 [.float v] I P := by
  refine e_Float_floatToIntBits v (e_Float_isNaN v ?_)
  rw [cmp_ge h, if_pos rfl]
  exact ⟨Or.inl rfl, fun z => absurd rfl z, fun _ => H⟩
def oMean (A : sA) (x y z : Int32) : Int32 × sA := (if okR A x y ∧ (0 ≤ z ∧ z ≤ 7) ∧ o_od (s_wt A) z.toNatClampNeg < qN A x.toNatClampNeg then (mnF (o_er (s_wt A) (s_sh A) (qX A x.toNatClampNeg y.toNatClampNeg) z.toNatClampNeg) (qN A x.toNatClampNeg - o_od (s_wt A) z.toNatClampNeg)).toInt32 else -1, A)
theorem F_er_ls {I J : mm_I} (f : sm F_er I J) : sm F_ls I J := F_rc_ls f.cs.rc
theorem oM_mean {A : sA} {I : mm_I} {x y z : Int32} (hR : RM A I) (hV : VA A) : mm_Mi 180 [.ref 58, .int x, .int y, .int z] I (oR (oMean A x y z) RM FM I) := by
  have hch := hV.ch
  have nb := nfr_le hV
  refine e_M_mean x y z (sp_M_within ⟨fun h => fin0 hR (by rw [if_neg (fun w => (b1_0.mp h) w.2.1)]), fun h => sp_M_isRowLaid hR.th hV (fun h2 => ⟨fun _ => fin0 hR (by rw [if_neg (fun w => h2 w.1)]), fun w => absurd rfl w⟩) (fun f r J e1 hf e2 hr a1 a2 => ⟨fun w => absurd w (by decide), fun _ => ?_⟩)⟩)
  have hz := b1_n h
  obtain ⟨p, hp, e3⟩ := btw0 (m := 7) (by omega) hz
  have hF := nfr_ok hV hf
  have hRJ := hR.th.sc a2.ls
  have n64 := a1.1
  have o4 := o_od_le (s_wt A) p
  subst e1
  subst e2
  subst e3
  refine sp_M_orderOf (Or.inl rfl) (by omega) ?_
  rw [o_od_c (w' := s_wt A) (by omega) hRJ.2.2.2.1.1, a1.2.1]
  refine ⟨fun h2 => ?_, fun h2 => finS hR a2.ls ?_⟩
  · have h2 := (nI_ltI (by omega) (by omega)).mp h2
    have hB := er_b (x := qX A f r) (p := p) (n := qN A f) hV.wb (o_rx_b hV hF (soF_ok hV hr)) (by omega) (Nat.le_of_lt h2)
    refine sp_M_laysErrors (w := s_wt A) (s := s_sh A) (by omega) hRJ.2.2.2.1.1 hRJ.2.2.2.1.2 a1 (by omega) (fun J2 b1 b2 => sp_M_meanNow b1 hB (by omega) (sp_floatBits (mnF_p hB (by omega) (by omega)) ?_))
    refine finS hR (sm.tq a2 (F_er_ls b2)).ls ?_
    rw [nI_clamp (n := f) (by omega), nI_clamp (n := p) (by omega), nI_clamp (n := r) (by omega), if_pos ⟨okR_of hV hf hr, hz, h2⟩]
  · have h2 := (nI_leI (by omega) (by omega)).mp h2
    rw [nI_clamp (n := f) (by omega), nI_clamp (n := p) (by omega), if_neg (fun w => by have := w.2.2; omega)]
abbrev okX (A : sA) (x y z i : Int32) : Prop := okR A x y ∧ (0 ≤ z ∧ z ≤ 7) ∧ o_od (s_wt A) z.toNatClampNeg < qN A x.toNatClampNeg ∧ (0 ≤ i ∧ i ≤ nI (qN A x.toNatClampNeg) - 1)
def oResid (A : sA) (x y z i : Int32) : Int32 × sA := (if okX A x y z i then (if i.toNatClampNeg < o_od (s_wt A) z.toNatClampNeg then qX A x.toNatClampNeg y.toNatClampNeg i.toNatClampNeg else qX A x.toNatClampNeg y.toNatClampNeg i.toNatClampNeg - o_gu (s_wt A) (s_sh A) (qX A x.toNatClampNeg y.toNatClampNeg) i.toNatClampNeg z.toNatClampNeg) else 0, A)
/-- an answer, and whether it throws -/
abbrev oT (o : Int32 × sA) (t : Int32) (R : sA → mm_I → Prop) (F : mm_I → mm_I → Prop) (I : mm_I) : Int32 → mm_I → Prop := fun r J => oR o R F I r J ∧ J 58 16 = t
theorem oM_resid {A : sA} {I : mm_I} {x y z i : Int32} (hR : RM A I) (hV : VA A) : mm_Mi 178 [.ref 58, .int x, .int y, .int z, .int i] I (oT (oResid A x y z i) (if okX A x y z i then 0 else 1) RM FM I) := by
  have hch := hV.ch
  have nb := nfr_le hV
  have no : ∀ J, sm F_ls (mm_up I 58 16 1) J → ¬ okX A x y z i → oT (oResid A x y z i) (if okX A x y z i then 0 else 1) RM FM I 0 J := fun J f h => by
    refine ⟨finS hR f.ls (by rw [if_neg h]), ?_⟩
    rw [f 58 16 rfl, if_neg h]
    rfl
  refine e_M_residual x y z i (sp_M_within ⟨fun h => no _ sm.rf (fun w => (b1_0.mp h) w.2.1), fun h => sp_M_isRowLaid hR.th hV (fun h2 => ⟨fun _ => no _ sm.rf (fun w => h2 w.1), fun w => absurd rfl w⟩) (fun f r J e1 hf e2 hr a1 a2 => ⟨fun w => absurd w (by decide), fun _ => ?_⟩)⟩)
  have hz := b1_n h
  obtain ⟨p, hp, e3⟩ := btw0 (m := 7) (by omega) hz
  have hF := nfr_ok hV hf
  have hRJ := hR.th.sc a2.ls
  have n64 := a1.1
  have o4 := o_od_le (s_wt A) p
  subst e1
  subst e2
  subst e3
  have cf : (nI f).toNatClampNeg = f := nI_clamp (by omega)
  have cr : (nI r).toNatClampNeg = r := nI_clamp (by omega)
  have cp : (nI p).toNatClampNeg = p := nI_clamp (by omega)
  refine sp_M_orderOf (Or.inl rfl) (by omega) ?_
  rw [o_od_c (w' := s_wt A) (by omega) hRJ.2.2.2.1.1, a1.2.1]
  refine ⟨fun h2 => no J a2 (fun w => ?_), fun h2 => sp_M_within ⟨fun h3 => ?_, fun h3 => no J a2 (fun w => (b1_0.mp h3) ?_)⟩⟩
  · have h2 := (nI_leI (by omega) (by omega)).mp h2
    have := w.2.2.1
    rw [cf, cp] at this
    omega
  · have h2 := (nI_ltI (by omega) (by omega)).mp h2
    have h3 := b1_n h3
    have ok : okX A (nI f) (nI r) (nI p) i := ⟨okR_of hV hf hr, hz, by rw [cf, cp]; exact h2, by rw [cf]; exact h3⟩
    obtain ⟨k, hk, e4⟩ := (nchN (by omega) i).mp h3
    subst e4
    have ck : (nI k).toNatClampNeg = k := nI_clamp (by omega)
    have f2 : ∀ j, (mm_up J 58 16 0) 62 j = J 62 j := fun j => rfl
    refine sp_M_orderOf (Or.inl rfl) (by omega) ?_
    have eo : o_od ((mm_up J 58 16 0) 62) p = o_od (s_wt A) p := o_od_c (w' := s_wt A) (by omega) hRJ.2.2.2.1.1
    have ex : (mm_up J 58 16 0) 67 (nI k).toNatClampNeg = qX A f r k := by rw [ck]; exact a1.2.2.2 k (by omega)
    rw [eo, ex]
    have yes : ∀ v, v = (oResid A (nI f) (nI r) (nI p) (nI k)).1 → oT (oResid A (nI f) (nI r) (nI p) (nI k)) (if okX A (nI f) (nI r) (nI p) (nI k) then 0 else 1) RM FM I v (mm_up J 58 16 0) := fun v e => by
      refine ⟨⟨e, hRJ.th, ?_⟩, by rw [if_pos ok]; rfl⟩
      exact FM.up ((FM.rf.up (by omega)).tr a2.ls.sFM) (by omega)
    refine ⟨fun q => ⟨vp_in_nI (by omega) (by omega), ?_⟩, fun q => ⟨vp_in_nI (by omega) (by omega), yes _ ?_⟩⟩
    · have q := (nI_leI (by omega) (by omega)).mp q
      refine sp_M_guessed (w := s_wt A) (s := s_sh A) (x := qX A f r) (Or.inl ⟨rfl, rfl, rfl⟩) (by omega) q (by omega) hRJ.2.2.2.1.1 hRJ.2.2.2.1.2 (fun j hj => a1.2.2.2 j (by omega)) (yes _ ?_)
      unfold oResid
      rw [if_pos ok, cf, cr, cp, ck, if_neg (by omega)]
    · have q := (nI_ltI (by omega) (by omega)).mp q
      unfold oResid
      rw [if_pos ok, cf, cr, cp, ck, if_pos q]
  · have := w.2.2.2
    rw [cf] at this
    exact this
