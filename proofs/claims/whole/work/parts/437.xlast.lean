/-! the class: good, seek, near, at, heard, same -/
theorem lX_good {P : Int32 → mm_I → Prop} {A : sA} {I : mm_I} (hF : FxX (fnA A) I) (H : P (gdS (fnA A).2.1 16) I) : ∀ (r k : Nat), k + r = 16 → mm_W 107 23 [some (.ref 0), some (.int (gdS (fnA A).2.1 k)), some (.int (nI k))] [] I (mm_qi 107 P) := by
  intro r
  induction r with
  | zero =>
    intro k hk
    have hk : k = 16 := by omega
    subst hk
    exact c_WS_good_23 _ _ ⟨fun _ => H, fun z => absurd z (by decide)⟩
  | succ r ih =>
    intro k hk
    refine c_WS_good_23 _ _ ⟨fun z => absurd z (nI_ge (b := 16) (by omega) (by omega)), fun _ => ⟨vp_in_nI (by omega) (by omega), ?_⟩⟩
    rw [nI_clamp (n := k) (by omega), hF.1 k (by omega), nI_1]
    exact ih (k + 1) (by omega)
theorem RX.xx {A : sA} {I J : mm_I} (hR : RX A I) (f : sm F_xs I J) (h : HxI A J) : XxI A J := ⟨SxI_xs hR.sx f, h⟩
theorem oX_good {A : sA} {I : mm_I} (hR : RX A I) (hV : VA A) : mm_Mi 107 [.ref 0] I (oR (oGood A) RX FX I) := by
  refine e_WS_good (sp_X_readHead hR hV (fun J a1 a2 => ⟨fun h => ?_, fun h => finX hR a2 (by rw [if_neg h])⟩))
  refine sp_X_find hV (hd_n hV h) (hR.xx a2 (a1 h)) (fun K b1 b2 b3 => ?_)
  exact lX_good b1 (finX hR (sm.tq a2 b3.fxs) (by rw [if_pos h])) 16 0 (by omega)
theorem oX_seek {A : sA} {I : mm_I} {x z : Int32} (hR : RX A I) (hV : VA A) : mm_Mi 108 [.ref 0, .int x, .int z] I (oR (oSeek A x z) RX FX I) := by
  have hsu := hV.su
  have no : ¬ ((0 ≤ z ∧ z ≤ 1) ∧ (0 ≤ x ∧ x ≤ 15)) → ∀ J, sm F_xs I J → oR (oSeek A x z) RX FX I (-1) J := fun h J f => finX hR f (by rw [if_neg (fun w => h ⟨w.2.1, w.2.2.1⟩)])
  refine e_WS_seek _ _ ⟨fun h => no (fun w => absurd h (fa_nlt w.1.1)) I sm.rf, fun h1 => ⟨fun h => no (fun w => absurd h (fa_nlt w.1.2)) I sm.rf, fun h2 => ⟨fun h => no (fun w => absurd h (fa_nlt w.2.1)) I sm.rf, fun h3 => ⟨fun h => no (fun w => ?_) I sm.rf, fun h4 => ?_⟩⟩⟩⟩
  · obtain ⟨f, f1, f2, rfl⟩ := btw (a := 0) (b := 15) rfl rfl w.2
    exact absurd h (nI_ge (b := 16) (by omega) (by omega))
  · obtain ⟨f, f1, rfl⟩ := nI_of (fa_nlt h3)
    have f2 := (nI_ltI (b := 16) (by omega) (by omega)).mp h4
    have ok15 : (0 : Int32) ≤ nI f ∧ nI f ≤ 15 := ⟨nI_pos' (by omega), (nI_leI (b := 15) (by omega) (by omega)).mpr (by omega)⟩
    have vf := vp_in_nI (n := f) (N := 16) (by omega) (by omega)
    have ef : (nI f).toNatClampNeg = f := nI_clamp (by omega)
    refine sp_X_readHead hR hV (fun J a1 a2 => ⟨fun h => ?_, fun h => finX hR a2 (by rw [if_neg (fun w => h w.1)])⟩)
    refine sp_X_find hV (hd_n hV h) (hR.xx a2 (a1 h)) (fun K d1 d2 d3 => ⟨fun _ => ⟨vf, trivial⟩, fun _ => ⟨vf, trivial⟩, finX hR (sm.tq a2 d3.fxs) ?_⟩)
    have inv := fnS_inv (A := A) hsu (s_su A - 21)
    rw [ef, d1.1 f f2, d1.2.1 f f2]
    by_cases q : (fnA A).2.1 f = -1
    · have q2 : (fnA A).2.2.1 f = -1 := inv.2.1 f q
      rw [if_neg (show ¬ (hdC A = 0 ∧ (0 ≤ z ∧ z ≤ 1) ∧ (0 ≤ nI f ∧ nI f ≤ 15) ∧ ¬ (fnA A).2.1 f = -1) from fun w => w.2.2.2 q), q, q2]
      split <;> rfl
    · rw [if_pos (⟨h, ⟨h1, h2⟩, ok15, q⟩ : hdC A = 0 ∧ (0 ≤ z ∧ z ≤ 1) ∧ (0 ≤ nI f ∧ nI f ≤ 15) ∧ ¬ (fnA A).2.1 f = -1)]
theorem lX_near {P : Int32 → mm_I → Prop} {A : sA} {I : mm_I} {v : Int32} (hV : VA A) (hN : HdN A) (H : ∀ J, sm F_fx I J → P v J) : ∀ (r p : Nat) (J : mm_I), p + r = s_su A → nrS A r p = v → XxI A J → sm F_fx I J → mm_W 110 25 [some (.ref 0), none, some (.int (nI p))] [] J (mm_qi 110 P) := by
  have hsu := hV.su
  intro r
  induction r with
  | zero =>
    intro p J hp hv hX hsm
    refine c_WS_near_25 _ ⟨fun _ => ?_, fun z => ?_⟩
    · have := H J hsm
      rw [← hv] at this
      exact this
    · rw [hX.1.1] at z
      exact absurd z (nI_nlt (by omega) (by omega))
  | succ r ih =>
    intro p J hp hv hX hsm
    have e : nrS A (r + 1) p = match fgO A p with
      | some _ => nI p
      | none => nrS A r (p + 1) := rfl
    refine c_WS_near_25 _ ⟨fun z => ?_, fun _ => ?_⟩
    · rw [hX.1.1] at z
      exact absurd z (nI_ge (by omega) (by omega))
    · refine sp_X_lengthAt hV hN hX (by omega) (fun t ht J2 _ _ a3 => ?_) (fun ht J2 a3 => ?_)
      · rw [ht] at e
        have L := fgO_len ht
        refine ⟨fun z => absurd z (fun z => nI_pos (n := t.1) (by omega) (by rw [z]; decide)), fun _ => ?_⟩
        have := H J2 (sm.tq hsm a3.fxl)
        rw [← hv, e] at this
        exact this
      · refine ⟨fun _ => ?_, fun z => absurd rfl z⟩
        rw [ht] at e
        rw [nI_1]
        exact ih (p + 1) J2 (by omega) (e.symm.trans hv) (XxI_lx hX a3) (sm.tq hsm a3.fxl)
theorem oX_near {A : sA} {I : mm_I} {x : Int32} (hR : RX A I) (hV : VA A) : mm_Mi 110 [.ref 0, .int x] I (oR (oNear A x) RX FX I) := by
  have hsu := hV.su
  refine e_WS_near _ (sp_X_shas hsu hR.sx.1 ⟨fun w => finX0 hR (by rw [if_neg (fun v => (b1_0.mp w) v.2)]), fun w => ?_⟩)
  have w := b1_n w
  obtain ⟨p, p1, rfl⟩ := (plc (by omega) _).mp w
  refine sp_X_readHead hR hV (fun J a1 a2 => ⟨fun h => ?_, fun h => finX hR a2 (by rw [if_neg (fun w => h w.1)])⟩)
  refine lX_near (v := nrS A (s_su A - p) p) hV (hd_n hV h) (fun J2 b => finX hR (sm.tq a2 b.fxs) ?_) (s_su A - p) p J (by omega) rfl (hR.xx a2 (a1 h)) sm.rf
  rw [nI_clamp (by omega), if_pos ⟨h, w⟩]
theorem oX_at {A : sA} {I : mm_I} {x : Int32} (hR : RX A I) (hV : VA A) : mm_Mi 111 [.ref 0, .int x] I (oR (oAt A x) RX FX I) := by
  have hsu := hV.su
  refine e_WS_at _ (sp_X_shas hsu hR.sx.1 ⟨fun w => finX0 hR (by rw [if_neg (fun v => (b1_0.mp w) v.2.1)]), fun w => ?_⟩)
  have w := b1_n w
  obtain ⟨p, p1, rfl⟩ := (plc (by omega) _).mp w
  refine sp_X_readHead hR hV (fun J a1 a2 => ⟨fun h => finX hR a2 (by rw [if_neg (fun w => h w.1)]), fun h => ?_⟩)
  have hN := hd_n hV h
  have X0 := hR.xx a2 (a1 h)
  refine sp_X_lengthAt hV hN X0 (by omega) (fun t ht J2 _ _ a3 => ⟨fun _ => ?_, fun z => ?_⟩) (fun ht J2 a3 => ⟨fun z => absurd rfl z, fun _ => ?_⟩)
  · have L := fgO_len ht
    refine sp_X_numberAt hV hN (XxI_lx X0 a3) (by omega) (fun _ => finX hR (sm.tq a2 a3.fxl.fxs) ?_) (fun z => absurd L.1 z)
    rw [nI_clamp (n := p) (by omega), if_pos (⟨h, w, by rw [ht]; rfl⟩ : hdC A = 0 ∧ okS A (nI p) ∧ (fgO A p).isSome = true)]
  · have L := fgO_len ht
    exact absurd z (fun z => nI_pos (n := t.1) (by omega) (by rw [z]; decide))
  · refine finX hR (sm.tq a2 a3.fxl.fxs) ?_
    rw [nI_clamp (n := p) (by omega), if_neg]
    rintro ⟨_, _, v⟩
    rw [ht] at v
    cases v
theorem oX_heard {A : sA} {I : mm_I} {x i : Int32} {Q : mm_S → Prop} (hQ : mm_Qf Q) (hR : RX A I) (hV : VA A)
    (HT : ¬ okH A x i → ∀ ls J, sm F_xs I J → Q (40, ls, [], (mm_lay, J)))
    (HR : okH A x i → ∀ ls J, sm F_xs I J → Q (70, ls, [.int (oHeard A x i).1], (mm_lay, J))) : mm_W 112 0 (mm_ent (mm_mL 112) [.ref 0, .int x, .int i]) [] I Q := by
  refine e_WS_heard hQ x i (sp_X_readHead hR hV (fun J a1 a2 => ⟨fun h => HT (fun w => h w.1) _ J a2, fun h => ?_⟩))
  have hN := hd_n hV h
  have X0 := hR.xx a2 (a1 h)
  have xo := XxI_of hN X0
  have hc := hN.1.2
  have hm := hN.2.2.2.1.2
  have no : ¬ ((0 ≤ x ∧ x ≤ nI (h_c A) - 1) ∧ (0 ≤ i ∧ i ≤ nI (h_m A) - 1)) → ∀ ls, Q (40, ls, [], (mm_lay, J)) := fun w ls => HT (fun v => w v.2) ls J a2
  rw [xo.1, xo.2.2.2]
  refine ⟨fun z => no (fun w => absurd z (fa_nlt w.1.1)) _, fun z => ⟨fun y => no (fun w => ?_) _, fun y => ⟨fun v => no (fun w => absurd v (fa_nlt w.2.1)) _, fun v => ⟨fun u => ?_, fun u => no (fun w => ?_) _⟩⟩⟩⟩
  · obtain ⟨c, c1, rfl⟩ := (plc (by omega) _).mp w.1
    exact absurd y (nI_ge (by omega) (by omega))
  · obtain ⟨c, c1, rfl⟩ := nI_of (fa_nlt z)
    obtain ⟨k, k1, rfl⟩ := nI_of (fa_nlt v)
    have c2 := (nI_ltI (by omega) (by omega)).mp y
    have k2 := (nI_ltI (by omega) (by omega)).mp u
    have ok : okH A (nI c) (nI k) := ⟨h, (plc (by omega) _).mpr ⟨c, c2, rfl⟩, (plc (by omega) _).mpr ⟨k, k2, rfl⟩⟩
    refine sp_X_find hV hN X0 (fun K d1 d2 d3 => ?_)
    have g := HR ok [some (.ref 0), some (.int (nI c)), some (.int (nI k))] K (sm.tq a2 d3.fxs)
    unfold oHeard at g
    rw [if_pos ok, nI_clamp (n := c) (by omega), nI_clamp (n := k) (by omega)] at g
    rw [ixX, nI_clamp (n := 256 * c + k) (by omega), d1.2.2 _ (by omega)]
    exact ⟨vp_in_nI (by omega) (by omega), g⟩
  · obtain ⟨c, c1, rfl⟩ := (plc (by omega) _).mp w.2
    exact absurd u (nI_ge (by omega) (by omega))
theorem lX_same68 {P : Int32 → mm_I → Prop} {A : sA} {I : mm_I} {c : Nat} (hR : RX A I) (hV : VA A) (hF : FxX (fnA A) I) (hm : h_m A ≤ 256) (hc : c < 2)
    (H : mm_W 113 23 [some (.ref 0), some (.int (nI (smC A (c + 1)))), some (.int (nI (c + 1))), none, none] [] I (mm_qi 113 P)) : ∀ (r k : Nat), k + r = mnN (s_cn A c) (h_m A) → mm_W 113 68 [some (.ref 0), some (.int (nI (smC A c + smI A c k))), some (.int (nI c)), some (.int (nI (mnN (s_cn A c) (h_m A)))), some (.int (nI k))] [] I (mm_qi 113 P) := by
  have hcn := hV.cn (c := c) hc
  have mn : mnN (s_cn A c) (h_m A) ≤ s_cn A c ∧ mnN (s_cn A c) (h_m A) ≤ h_m A := by
    unfold mnN
    split <;> omega
  intro r
  induction r with
  | zero =>
    intro k hk
    have hk : k = mnN (s_cn A c) (h_m A) := by omega
    subst hk
    refine c_WS_same_68 _ _ _ _ ⟨fun _ => ?_, fun z => absurd z (nI_nlt (by omega) (by omega))⟩
    rw [nI_1]
    exact H
  | succ r ih =>
    intro k hk
    refine c_WS_same_68 _ _ _ _ ⟨fun z => absurd z (nI_ge (by omega) (by omega)), fun _ => sp_X_valueAt hR.2.1 hV hc (by omega) ?_⟩
    rw [ixX, nI_clamp (n := 256 * c + k) (by omega), hF.2.2 _ (by omega), nI_1 k, nI_1]
    refine ⟨vp_in_nI (by omega) (by omega), ?_⟩
    have nx := ih (k + 1) (by omega)
    have e : smI A c (k + 1) = smI A c k + (if (fnA A).2.2.2 (256 * c + k) = s_sm A c k then 1 else 0) := rfl
    rw [e] at nx
    by_cases q : (fnA A).2.2.2 (256 * c + k) = s_sm A c k
    · rw [if_pos q, ← Nat.add_assoc] at nx
      rw [if_pos q.symm]
      exact nx
    · rw [if_neg q] at nx
      rw [if_neg (fun z => q z.symm)]
      exact nx
theorem lX_same23 {P : Int32 → mm_I → Prop} {A : sA} {I : mm_I} (hR : RX A I) (hV : VA A) (hN : HdN A) (hX : XxI A I) (hF : FxX (fnA A) I) (H : P (nI (smC A (mnN (s_ch A) (h_c A)))) I) : ∀ (r c : Nat), c + r = mnN (s_ch A) (h_c A) → mm_W 113 23 [some (.ref 0), some (.int (nI (smC A c))), some (.int (nI c)), none, none] [] I (mm_qi 113 P) := by
  have hch := hV.ch
  have hcc := hN.1.2
  have hm := hN.2.2.2.1.2
  have e4 : I 3 2 = nI (s_ch A) := hR.2.1.1
  have xo := XxI_of hN hX
  have mn : mnN (s_ch A) (h_c A) ≤ s_ch A ∧ mnN (s_ch A) (h_c A) ≤ h_c A ∧ (mnN (s_ch A) (h_c A) = s_ch A ∨ mnN (s_ch A) (h_c A) = h_c A) := by
    unfold mnN
    split <;> omega
  intro r
  induction r with
  | zero =>
    intro c hc
    have hc : c = mnN (s_ch A) (h_c A) := by omega
    subst hc
    refine c_WS_same_23 _ _ ?_
    rw [e4, xo.1]
    refine ⟨fun _ => H, fun z => ⟨fun _ => H, fun y => ?_⟩⟩
    have z := (nI_ltI (by omega) (by omega)).mp z
    have y := (nI_ltI (by omega) (by omega)).mp y
    omega
  | succ r ih =>
    intro c hc
    have hcn := hV.cn (c := c) (by omega)
    refine c_WS_same_23 _ _ ?_
    rw [e4, xo.1, xo.2.2.2, nI_clamp (n := c) (by omega), hR.2.1.2.2.2.1 c (by omega)]
    refine ⟨fun z => absurd z (nI_ge (by omega) (by omega)), fun _ => ⟨fun z => absurd z (nI_ge (by omega) (by omega)), fun _ => ⟨vp_in_nI (by omega) (by omega), e_Math_min _ _ ?_⟩⟩⟩
    have em : (if nI (h_m A) < nI (s_cn A c) then (nI (h_m A) : Int32) else nI (s_cn A c)) = nI (mnN (s_cn A c) (h_m A)) := by
      unfold mnN
      by_cases q : s_cn A c ≤ h_m A
      · rw [if_pos q, if_neg (nI_nlt q (by omega))]
      · rw [if_neg q, if_pos ((nI_ltI (by omega) (by omega)).mpr (by omega))]
    rw [em]
    exact lX_same68 hR hV hF hm (by omega) (ih (c + 1) (by omega)) (mnN (s_cn A c) (h_m A)) 0 (by omega)
theorem oX_same {A : sA} {I : mm_I} (hR : RX A I) (hV : VA A) : mm_Mi 113 [.ref 0] I (oR (oSame A) RX FX I) := by
  refine e_WS_same (sp_X_readHead hR hV (fun J a1 a2 => ⟨fun h => ?_, fun h => finX hR a2 (by rw [if_neg h])⟩))
  have hN := hd_n hV h
  refine sp_X_find hV hN (hR.xx a2 (a1 h)) (fun K d1 d2 d3 => ?_)
  have f := sm.tq a2 d3.fxs
  exact lX_same23 (hR.xs f) hV hN d2 d1 (finX hR f (by rw [if_pos h])) (mnN (s_ch A) (h_c A)) 0 (by omega)
