/-! good, seek, near, at, heard, same of the reference -/
def gdS (fa : Nat → Int32) : Nat → Int32
  | 0 => 0
  | k + 1 => if fa k = -1 then gdS fa k else gdS fa k ||| (1 <<< (nI k &&& 31))
def oGood (A : sA) : Int32 × sA := (if hdC A = 0 then gdS (fnA A).2.1 16 else -1, A)
theorem fa_sg {A : sA} (hV : VA A) (k n : Nat) : ((fnS A k).2.1 n < 0 ↔ (fnS A k).2.1 n = -1) ∧ (0 ≤ (fnS A k).2.1 n ↔ ¬ (fnS A k).2.1 n = -1) := by
  have hsu := hV.su
  have inv := (fnS_inv (A := A) hsu k).1 n
  by_cases q : (fnS A k).2.1 n = -1
  · rw [q]; exact ⟨⟨fun _ => rfl, fun _ => by decide⟩, ⟨fun z => absurd z (by decide), fun z => absurd rfl z⟩⟩
  · obtain ⟨_, _, p, h1, h2⟩ := inv q
    rw [h2] at q ⊢
    exact ⟨⟨fun z => absurd z (nI_pos (by omega)), fun z => absurd z q⟩, ⟨fun _ => q, fun _ => nI_pos' (by omega)⟩⟩
theorem lM_good {P : Int32 → mm_I → Prop} {A : sA} {I : mm_I} (hV : VA A) (hF : FnI (fnA A) I) (H : P (gdS (fnA A).2.1 16) I) : ∀ (r k : Nat), k + r = 16 → mm_W 211 18 [some (.ref 58), some (.int (gdS (fnA A).2.1 k)), some (.int (nI k))] [] I (mm_qi 211 P) := by
  intro r
  induction r with
  | zero =>
    intro k hk
    have hk : k = 16 := by omega
    subst hk
    exact c_M_good_18 _ _ ⟨fun _ => H, fun z => absurd z (by decide)⟩
  | succ r ih =>
    intro k hk
    refine c_M_good_18 _ _ ⟨fun z => absurd z (nI_ge (b := 16) (by omega) (by omega)), fun _ => ⟨vp_in_nI (by omega) (by omega), ?_⟩⟩
    have nx := ih (k + 1) (by omega)
    have e : gdS (fnA A).2.1 (k + 1) = if (fnA A).2.1 k = -1 then gdS (fnA A).2.1 k else gdS (fnA A).2.1 k ||| (1 <<< (nI k &&& 31)) := rfl
    rw [nI_clamp (n := k) (by omega), hF.1 k (by omega), nI_1]
    have sg := fa_sg hV (s_su A - 21) k
    by_cases q : (fnA A).2.1 k = -1
    · rw [if_pos q] at e
      rw [if_pos (sg.1.mpr q), ← e]
      exact nx
    · rw [if_neg q] at e
      rw [if_neg (fun z => q (sg.1.mp z)), ← e]
      exact nx
theorem oM_good {A : sA} {I : mm_I} (hR : RM A I) (hV : VA A) : mm_Mi 211 [.ref 58] I (oR (oGood A) RM FM I) := by
  refine e_M_good (sp_M_finds hR.th hV (fun h J a1 a2 a3 => ⟨fun _ => ?_, fun z => absurd z (by decide)⟩) (fun h J a3 => ⟨fun z => absurd rfl z, fun _ => finS hR a3.fsc (by rw [if_neg h])⟩))
  exact lM_good hV a1 (finS hR a3.fsc (by rw [if_pos h])) 16 0 (by omega)
def oSeek (A : sA) (x z : Int32) : Int32 × sA := (if hdC A = 0 ∧ (0 ≤ z ∧ z ≤ 1) ∧ (0 ≤ x ∧ x ≤ 15) ∧ ¬ (fnA A).2.1 x.toNatClampNeg = -1 then (if z = 0 then (fnA A).2.1 x.toNatClampNeg else (fnA A).2.2.1 x.toNatClampNeg) else -1, A)
theorem oM_seek {A : sA} {I : mm_I} {x z : Int32} (hR : RM A I) (hV : VA A) : mm_Mi 212 [.ref 58, .int x, .int z] I (oR (oSeek A x z) RM FM I) := by
  have hsu := hV.su
  refine e_M_seek _ _ (sp_M_within ⟨fun y => fin0 hR (by rw [if_neg (fun w => (b1_0.mp y) w.2.1)]), fun y => ?_⟩)
  have y := b1_n y
  refine sp_M_finds hR.th hV (fun h J a1 a2 a3 => ⟨fun w => absurd w (by decide), fun _ => ?_⟩) (fun h J a3 => ⟨fun _ => finS hR a3.fsc (by rw [if_neg (fun w => h w.1)]), fun w => absurd rfl w⟩)
  have hN := hd_n hV h
  have n16 := h_n_b hN
  have inv := fnS_inv (A := A) hsu (s_su A - 21)
  refine sp_M_headFrames hN a2.2 (sp_M_within ⟨fun w => ?_, fun w => ?_⟩)
  · refine finS hR a3.fsc ?_
    have w := b1_0.mp w
    rw [if_neg]
    rintro ⟨_, _, v, u⟩
    obtain ⟨f, f1, f2, rfl⟩ := btw (a := 0) (b := 15) rfl rfl v
    rw [nI_clamp (by omega)] at u
    exact w ((plc (by omega) _).mpr ⟨f, (inv.1 f u).1, rfl⟩)
  · have w := b1_n w
    obtain ⟨f, f1, rfl⟩ := (plc (by omega) _).mp w
    have vf := vp_in_nI (n := f) (N := 16) (by omega) (by omega)
    have ok15 : (0 : Int32) ≤ nI f ∧ nI f ≤ 15 := ⟨nI_pos' (by omega), (nI_leI (b := 15) (by omega) (by omega)).mpr (by omega)⟩
    have sg := fa_sg hV (s_su A - 21) f
    rw [nI_clamp (by omega), a1.1 f (by omega)]
    refine ⟨vf, fun q => ?_, fun q => finS hR a3.fsc ?_⟩
    · have q := sg.2.mp q
      refine ⟨fun _ => ⟨vf, trivial⟩, fun _ => ⟨vf, trivial⟩, finS hR a3.fsc ?_⟩
      rw [a1.2.1 f (by omega) q]
      rw [nI_clamp (by omega)]
      rw [if_pos (⟨h, y, ok15, q⟩ : hdC A = 0 ∧ (0 ≤ z ∧ z ≤ 1) ∧ (0 ≤ nI f ∧ nI f ≤ 15) ∧ ¬ (fnA A).2.1 f = -1)]
    · have q := sg.1.mp q
      rw [nI_clamp (by omega)]
      rw [if_neg (fun w => w.2.2.2 q)]
def nrS (A : sA) : Nat → Nat → Int32
  | 0, _ => -1
  | r + 1, p => match fgO A p with
    | some _ => nI p
    | none => nrS A r (p + 1)
abbrev okS (A : sA) (x : Int32) : Prop := 0 ≤ x ∧ x ≤ nI (s_su A) - 1
def oNear (A : sA) (x : Int32) : Int32 × sA := (if hdC A = 0 ∧ okS A x then nrS A (s_su A - x.toNatClampNeg) x.toNatClampNeg else -1, A)
theorem RM.fx0 {A : sA} {I J : mm_I} (hR : RM A I) (f : sm F_hd I J) (h : HdI (s_sb A) J) : FxI A J := ⟨⟨(f 58 15 rfl).trans hR.2.2.2.2.1, fun i hi => (f 66 i rfl).trans (hR.2.2.2.2.2 i hi)⟩, h⟩
theorem lM_near {P : Int32 → mm_I → Prop} {A : sA} {I : mm_I} {v : Int32} (hV : VA A) (hN : HdN A) (H : ∀ J, sm F_fn I J → P v J) : ∀ (r p : Nat) (J : mm_I), p + r = s_su A → nrS A r p = v → FxI A J → sm F_fn I J → mm_W 214 30 [some (.ref 58), none, some (.int (nI p))] [] J (mm_qi 214 P) := by
  have hsu := hV.su
  intro r
  induction r with
  | zero =>
    intro p J hp hv hX hsm
    refine c_M_near_30 _ ⟨fun _ => ?_, fun z => ?_⟩
    · have := H J hsm
      rw [← hv] at this
      exact this
    · rw [hX.1.1] at z
      exact absurd z (nI_nlt (by omega) (by omega))
  | succ r ih =>
    intro p J hp hv hX hsm
    have e : nrS A (r + 1) p = match fgO A p with
      | some _ => nI p
      | none => nrS A r (p + 1) := rfl
    refine c_M_near_30 _ ⟨fun z => ?_, fun _ => ?_⟩
    · rw [hX.1.1] at z
      exact absurd z (nI_ge (by omega) (by omega))
    · refine sp_M_lengthAt (least := 0) hV hN hX.1 hX.2 (by omega) (by omega) (fun t ht _ J2 _ _ a3 => ?_) (fun hno J2 a3 => ?_)
      · rw [ht] at e
        have L := fgO_len ht
        refine ⟨fun z => absurd z (nI_pos (by omega)), fun _ => ?_⟩
        have := H J2 (sm.tq hsm a3.fl)
        rw [← hv, e] at this
        exact this
      · refine ⟨fun _ => ?_, fun z => absurd z (by decide)⟩
        cases hf : fgO A p with
        | some t => exact absurd (hno t hf) (Nat.not_lt_zero _)
        | none =>
          rw [hf] at e
          rw [nI_1]
          exact ih (p + 1) J2 (by omega) (e.symm.trans hv) (FxI_la hX a3) (sm.tq hsm a3.fl)
theorem oM_near {A : sA} {I : mm_I} {x : Int32} (hR : RM A I) (hV : VA A) : mm_Mi 214 [.ref 58, .int x] I (oR (oNear A x) RM FM I) := by
  have hsu := hV.su
  refine e_M_near _ (sp_M_headNow hR.th hV (fun J a1 a2 => ⟨fun h => finS hR a2.hd (by rw [if_neg (fun w => h w.1)]), fun h => ?_⟩))
  have hN := hd_n hV h
  have X0 := hR.th.fx0 a2 (a1 h)
  rw [X0.1.1]
  refine sp_M_within ⟨fun w => ?_, fun w => finS hR a2.hd (by rw [if_neg (fun v => (b1_0.mp w) v.2)])⟩
  have w := b1_n w
  obtain ⟨p, p1, rfl⟩ := (plc (by omega) _).mp w
  refine lM_near (v := nrS A (s_su A - p) p) hV hN (fun J2 b => finS hR (sm.tq a2.hd b.fsc) ?_) (s_su A - p) p J (by omega) rfl X0 sm.rf
  rw [nI_clamp (by omega), if_pos ⟨h, w⟩]
def oAt (A : sA) (x : Int32) : Int32 × sA := (if hdC A = 0 ∧ okS A x ∧ (fgO A x.toNatClampNeg).isSome = true then nI (n_b A x.toNatClampNeg) else -1, A)
theorem oM_at {A : sA} {I : mm_I} {x : Int32} (hR : RM A I) (hV : VA A) : mm_Mi 215 [.ref 58, .int x] I (oR (oAt A x) RM FM I) := by
  have hsu := hV.su
  refine e_M_at _ (sp_M_headNow hR.th hV (fun J a1 a2 => ⟨fun h => finS hR a2.hd (by rw [if_neg (fun w => h w.1)]), fun h => ?_⟩))
  have hN := hd_n hV h
  have X0 := hR.th.fx0 a2 (a1 h)
  rw [X0.1.1]
  refine sp_M_within ⟨fun w => ?_, fun w => finS hR a2.hd (by rw [if_neg (fun v => (b1_0.mp w) v.2.1)])⟩
  have w := b1_n w
  obtain ⟨p, p1, rfl⟩ := (plc (by omega) _).mp w
  refine sp_M_lengthAt (least := 0) hV hN X0.1 X0.2 p1 (by omega) (fun t ht _ J2 _ _ a3 => ?_) (fun hno J2 a3 => ?_)
  · have L := fgO_len ht
    have bn := hV.byn (i := p + 1) (by omega)
    have X1 := FxI_la X0 a3
    rw [if_neg (nI_pos (by omega)), nI_1, nI_clamp (n := p + 1) (by omega), X1.1.2 _ (by omega), bn.1]
    refine ⟨fun _ => ⟨vp_in_nI (by omega) (by omega), trivial⟩, finS hR (sm.tq a2.hd a3.fl.fsc) ?_⟩
    rw [nI_clamp (n := p) (by omega), if_pos (⟨h, w, by rw [ht]; rfl⟩ : hdC A = 0 ∧ okS A (nI p) ∧ (fgO A p).isSome = true)]
    rfl
  · refine ⟨fun z => absurd z (by decide), ?_⟩
    have i0 : ((-1 : Int32)) < 0 := by decide
    rw [if_pos i0]
    refine finS hR (sm.tq a2.hd a3.fl.fsc) ?_
    rw [nI_clamp (n := p) (by omega), if_neg]
    rintro ⟨_, _, v⟩
    cases hf : fgO A p with
    | some t => exact absurd (hno t hf) (Nat.not_lt_zero _)
    | none => rw [hf] at v; cases v
abbrev okH (A : sA) (x i : Int32) : Prop := hdC A = 0 ∧ (0 ≤ x ∧ x ≤ nI (h_c A) - 1) ∧ (0 ≤ i ∧ i ≤ nI (h_m A) - 1)
def oHeard (A : sA) (x i : Int32) : Int32 × sA := (if okH A x i then (fnA A).2.2.2 (256 * x.toNatClampNeg + i.toNatClampNeg) else 0, A)
theorem oM_heard {A : sA} {I : mm_I} {x i : Int32} (hR : RM A I) (hV : VA A) : mm_Mi 216 [.ref 58, .int x, .int i] I (oT (oHeard A x i) (if okH A x i then 0 else 1) RM FM I) := by
  have e16 : ∀ J : mm_I, sm F_fn (mm_up I 58 16 1) J → J 58 16 = 1 := fun J f => (f 58 16 rfl)
  have no : ¬ okH A x i → ∀ J, sm F_fn (mm_up I 58 16 1) J → oT (oHeard A x i) (if okH A x i then 0 else 1) RM FM I 0 J := fun h J f => by
    rw [if_neg h]
    refine ⟨finS hR f.fsc ?_, e16 J f⟩
    rw [if_neg h]
  refine e_M_heard _ _ (sp_M_finds hR.th hV (fun h J a1 a2 a3 => ⟨fun z => absurd z (by decide), fun _ => ?_⟩) (fun h J a3 => ⟨fun _ => no (fun w => h w.1) J a3, fun z => absurd rfl z⟩))
  have hN := hd_n hV h
  have hm := hN.2.2.2.1
  have hc := hN.1.2
  rw [a2.2.1, hN.1.1]
  refine sp_M_within ⟨fun w => no (fun v => (b1_0.mp w) v.2.1) J a3, fun w => ?_⟩
  have w := b1_n w
  rw [a2.2.2.2.2.1, hm.1]
  refine sp_M_within ⟨fun v => ?_, fun v => no (fun u => (b1_0.mp v) u.2.2) J a3⟩
  have v := b1_n v
  obtain ⟨c, c1, rfl⟩ := (plc (by omega) _).mp w
  obtain ⟨k, k1, rfl⟩ := (plc (by omega) _).mp v
  have ok : okH A (nI c) (nI k) := ⟨h, w, v⟩
  rw [ix512 (by omega) (by omega), nI_clamp (n := 256 * c + k) (by omega), a1.2.2 _ (by omega), if_pos ok]
  refine ⟨vp_in_nI (by omega) (by omega), ?_, rfl⟩
  have : oR ((fnA A).2.2.2 (256 * c + k), A) RM FM I ((fnA A).2.2.2 (256 * c + k)) J := finS hR a3.fsc rfl
  unfold oHeard
  rw [if_pos ok, nI_clamp (n := c) (by omega), nI_clamp (n := k) (by omega)]
  exact ⟨rfl, this.2.1.th, this.2.2.up (by omega)⟩
def mnN (a b : Nat) : Nat := if a ≤ b then a else b
def smI (A : sA) (c : Nat) : Nat → Nat
  | 0 => 0
  | i + 1 => smI A c i + (if (fnA A).2.2.2 (256 * c + i) = s_sm A c i then 1 else 0)
def smC (A : sA) : Nat → Nat
  | 0 => 0
  | c + 1 => smC A c + smI A c (mnN (s_cn A c) (h_m A))
def oSame (A : sA) : Int32 × sA := (if hdC A = 0 then nI (smC A (mnN (s_ch A) (h_c A))) else -1, A)
theorem lM_same36 {P : Int32 → mm_I → Prop} {A : sA} {I : mm_I} {c : Nat} (hR : RM A I) (hV : VA A) (hN : HdN A) (hX : FxI A I) (hF : FnI (fnA A) I) (hc : c < s_ch A)
    (H : mm_W 217 18 [some (.ref 58), some (.int (nI (smC A (c + 1)))), some (.int (nI (c + 1))), none] [] I (mm_qi 217 P)) : ∀ (r k : Nat), k + r = mnN (s_cn A c) (h_m A) → mm_W 217 36 [some (.ref 58), some (.int (nI (smC A c + smI A c k))), some (.int (nI c)), some (.int (nI k))] [] I (mm_qi 217 P) := by
  have hch := hV.ch
  have hcn := hV.cn (c := c) (by omega)
  have hm := hN.2.2.2.1
  have e61 : I 61 c = nI (s_cn A c) := hR.2.1.2.2.2.1 c hc
  have e38 : I 58 38 = nI (h_m A) := hX.2.2.2.2.1.trans hm.1
  have mn : mnN (s_cn A c) (h_m A) ≤ s_cn A c ∧ mnN (s_cn A c) (h_m A) ≤ h_m A ∧ (mnN (s_cn A c) (h_m A) = s_cn A c ∨ mnN (s_cn A c) (h_m A) = h_m A) := by
    unfold mnN
    split <;> omega
  have vc := vp_in_nI (n := c) (N := 2) (by omega) (by omega)
  intro r
  induction r with
  | zero =>
    intro k hk
    have hk : k = mnN (s_cn A c) (h_m A) := by omega
    subst hk
    refine c_M_same_36 _ _ _ ?_
    rw [nI_clamp (n := c) (by omega), e61, e38, nI_1]
    refine ⟨vc, fun _ => H, fun z => ⟨fun _ => H, fun y => ?_⟩⟩
    have z := (nI_ltI (by omega) (by omega)).mp z
    have y := (nI_ltI (by omega) (by omega)).mp y
    omega
  | succ r ih =>
    intro k hk
    refine c_M_same_36 _ _ _ ?_
    rw [nI_clamp (n := c) (by omega), e61, e38, ix512 (by omega) (by omega), nI_clamp (n := 256 * c + k) (by omega), hF.2.2 _ (by omega), hR.2.1.2.2.2.2 c k hc (by omega), nI_1 k, nI_1]
    have v := vp_in_nI (n := 256 * c + k) (N := 512) (by omega) (by omega)
    refine ⟨vc, fun z => absurd z (nI_ge (by omega) (by omega)), fun _ => ⟨fun z => absurd z (nI_ge (by omega) (by omega)), fun _ => ⟨v, v, ?_⟩⟩⟩
    have nx := ih (k + 1) (by omega)
    have e : smI A c (k + 1) = smI A c k + (if (fnA A).2.2.2 (256 * c + k) = s_sm A c k then 1 else 0) := rfl
    rw [e] at nx
    by_cases q : (fnA A).2.2.2 (256 * c + k) = s_sm A c k
    · rw [if_pos q] at nx ⊢
      rw [← Nat.add_assoc] at nx
      have e9 : nI (smC A c + smI A c k) + 1 = nI (smC A c + smI A c k + 1) := nI_1 _
      rw [e9]
      exact nx
    · rw [if_neg q] at nx ⊢
      exact nx
theorem lM_same18 {P : Int32 → mm_I → Prop} {A : sA} {I : mm_I} (hR : RM A I) (hV : VA A) (hN : HdN A) (hX : FxI A I) (hF : FnI (fnA A) I) (H : P (nI (smC A (mnN (s_ch A) (h_c A)))) I) : ∀ (r c : Nat), c + r = mnN (s_ch A) (h_c A) → mm_W 217 18 [some (.ref 58), some (.int (nI (smC A c))), some (.int (nI c)), none] [] I (mm_qi 217 P) := by
  have hch := hV.ch
  have hcc := hN.1.2
  have e4 : I 58 4 = nI (s_ch A) := hR.2.1.1
  have e35 : I 58 35 = nI (h_c A) := hX.2.1.trans hN.1.1
  have mn : mnN (s_ch A) (h_c A) ≤ s_ch A ∧ mnN (s_ch A) (h_c A) ≤ h_c A ∧ (mnN (s_ch A) (h_c A) = s_ch A ∨ mnN (s_ch A) (h_c A) = h_c A) := by
    unfold mnN
    split <;> omega
  intro r
  induction r with
  | zero =>
    intro c hc
    have hc : c = mnN (s_ch A) (h_c A) := by omega
    subst hc
    refine c_M_same_18 _ _ ?_
    rw [e4, e35]
    refine ⟨fun _ => H, fun z => ⟨fun _ => H, fun y => ?_⟩⟩
    have z := (nI_ltI (by omega) (by omega)).mp z
    have y := (nI_ltI (by omega) (by omega)).mp y
    omega
  | succ r ih =>
    intro c hc
    refine c_M_same_18 _ _ ?_
    rw [e4, e35]
    refine ⟨fun z => absurd z (nI_ge (by omega) (by omega)), fun _ => ⟨fun z => absurd z (nI_ge (by omega) (by omega)), fun _ => ?_⟩⟩
    exact lM_same36 hR hV hN hX hF (by omega) (ih (c + 1) (by omega)) (mnN (s_cn A c) (h_m A)) 0 (by omega)
theorem oM_same {A : sA} {I : mm_I} (hR : RM A I) (hV : VA A) : mm_Mi 217 [.ref 58] I (oR (oSame A) RM FM I) := by
  refine e_M_same (sp_M_finds hR.th hV (fun h J a1 a2 a3 => ⟨fun _ => ?_, fun z => absurd z (by decide)⟩) (fun h J a3 => ⟨fun z => absurd rfl z, fun _ => finS hR a3.fsc (by rw [if_neg h])⟩))
  exact lM_same18 (hR.th.sc a3.fsc) hV (hd_n hV h) a2 a1 (finS hR a3.fsc (by rw [if_pos h])) (mnN (s_ch A) (h_c A)) 0 (by omega)
theorem sp_M_thrown {P : Int32 → mm_I → Prop} {I : mm_I} (H : P (I 58 16) I) : mm_Mi 124 [.ref 58] I P := e_M_thrown H
