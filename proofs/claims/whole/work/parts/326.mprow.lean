/-! a row written -/
def w_row (w s x : Nat → Int32) (n b ef set : Nat) (W : wS) : wS := if hwH w s x n b ef set = 8 then w_xs x b 1 (w_bs (nI (hwH w s x n b ef set)) 4 W) else if hwH w s x n b ef set = 9 then w_xs x b n (w_bs (nI (hwH w s x n b ef set)) 4 W) else w_rs (hwE w s x n b ef set) (hwM w s x n b ef set) (rTo ef (hwE w s x n b ef set) (hwM w s x n b ef set)) (rPa ef (hwE w s x n b ef set) (hwM w s x n b ef set)) (rCnt ef (hwE w s x n b ef set) (hwM w s x n b ef set)) (w_xs x b (o_od w (hwH w s x n b ef set)) (w_bs (nI (hwH w s x n b ef set)) 4 W))
theorem hwH_c {w s x : Nat → Int32} {n b ef set : Nat} (h1 : 1 ≤ n) : (hwH w s x n b ef set = 8 ∧ hwB w s x n b ef set = 4 + b) ∨ (hwH w s x n b ef set = 9 ∧ hwB w s x n b ef set = 4 + n * b) ∨ (hwH w s x n b ef set < 8 ∧ hwH w s x n b ef set = hwP w s x n b ef set ∧ hwB w s x n b ef set = cst w s x n b ef (hwP w s x n b ef set)) := by
  have bo := bpr_ok (w := w) (s := s) (x := x) (b := b) (ef := ef) (set := set) h1 7
  have hp : hwP w s x n b ef set ≤ 7 := bo.1
  unfold hwH hwB
  by_cases q : stl x n
  · rw [if_pos q, if_pos q]; exact Or.inl ⟨rfl, rfl⟩
  · rw [if_neg q, if_neg q]
    by_cases q2 : cst w s x n b ef (hwP w s x n b ef set) ≤ 4 + n * b
    · rw [if_pos q2, if_pos q2]; exact Or.inr (Or.inr ⟨by omega, rfl, rfl⟩)
    · rw [if_neg q2, if_neg q2]; exact Or.inr (Or.inl ⟨rfl, rfl⟩)
theorem hwM_b {w s x : Nat → Int32} {n b ef set : Nat} (hw : WB w s) (hx : XB x n) (h1 : 1 ≤ n) : 1 ≤ hwM w s x n b ef set ∧ hwM w s x n b ef set ≤ n ∧ EB (hwE w s x n b ef set) (hwM w s x n b ef set) := by
  have bo := bpr_ok (w := w) (s := s) (x := x) (b := b) (ef := ef) (set := set) h1 7
  have e : hwM w s x n b ef set = n - o_od w (bpr w s x n b ef set 7) := rfl
  exact ⟨by omega, by omega, er_b (p := bpr w s x n b ef set 7) hw hx (by omega) (by omega)⟩
theorem wps_row {w s x : Nat → Int32} {n b ef set : Nat} {W : wS} (hw : WB w s) (hx : XB x n) (hn : n ≤ 64) (h1 : 1 ≤ n) (hO : wOk W) : wOk (w_row w s x n b ef set W) ∧ wps (w_row w s x n b ef set W) = wps W + hwB w s x n b ef set := by
  have o1 := wps_bs (v := nI (hwH w s x n b ef set)) 4 W hO
  have mb := hwM_b (b := b) (ef := ef) (set := set) hw hx h1
  unfold w_row
  rcases hwH_c (w := w) (s := s) (x := x) (b := b) (ef := ef) (set := set) h1 with ⟨e, eB⟩ | ⟨e, eB⟩ | ⟨e, eP, eB⟩
  · rw [if_pos e, eB]
    have o2 := wps_xs (x := x) (b := b) 1 _ o1.1
    exact ⟨o2.1, by omega⟩
  · rw [if_neg (by omega), if_pos e, eB]
    have o2 := wps_xs (x := x) (b := b) n _ o1.1
    rw [Nat.mul_comm b n] at o2
    exact ⟨o2.1, by omega⟩
  · rw [if_neg (by omega), if_neg (by omega), eB]
    have o2 := wps_xs (x := x) (b := b) (o_od w (hwH w s x n b ef set)) _ o1.1
    have o3 := wps_rs (E := hwE w s x n b ef set) (m := hwM w s x n b ef set) (T := rTo ef (hwE w s x n b ef set) (hwM w s x n b ef set)) (pa := rPa ef (hwE w s x n b ef set) (hwM w s x n b ef set)) (rCnt ef (hwE w s x n b ef set) (hwM w s x n b ef set)) _ o2.1
    have rt := (rT_ok (ef := ef) (E := hwE w s x n b ef set) (m := hwM w s x n b ef set) (by omega) mb.1 mb.2.2).2
    have ec : cst w s x n b ef (hwP w s x n b ef set) = 4 + b * o_od w (hwP w s x n b ef set) + rBits ef (hwE w s x n b ef set) (hwM w s x n b ef set) := rfl
    rw [← eP] at ec
    refine ⟨o3.1, ?_⟩
    rw [← eP]
    omega
theorem wB_row {w s x : Nat → Int32} {n b ef set : Nat} {W : wS} (hO : wOk W) (h : wB W) : wB (w_row w s x n b ef set W) := by
  have o1 := wps_bs (v := nI (hwH w s x n b ef set)) 4 W hO
  have b1 := wB_bs (v := nI (hwH w s x n b ef set)) 4 W hO h
  unfold w_row
  split
  · exact wB_xs _ _ o1.1 b1
  · split
    · exact wB_xs _ _ o1.1 b1
    · exact wB_rs _ _ (wps_xs _ _ o1.1).1 (wB_xs _ _ o1.1 b1)
/-- the state while it is written -/
def aW (A : sA) (W : wS) : sA := s_N (s_F A 5 W.2) 8 W.1.1
theorem VA_aW {A : sA} {W : wS} (h : VA A) (hu : W.1.1 ≤ 4000) (hb : wB W) : VA (aW A W) := by
  obtain ⟨h1, h2, h3, h4, h5, h6, h7, h8, h9, h10, h11, h12, h13, h14, h15⟩ := h
  exact ⟨h1, h2, h3, h4, h5, h6, h7, h8, h9, hu, h11, hb, h13, h14, h15⟩
abbrev PkI (A : sA) (W : wS) (I : mm_I) : Prop := RM (aW A W) I ∧ I 58 34 = nI W.1.2
theorem PkI_wr {A : sA} {W : wS} {I : mm_I} (h : PkI A W I) : WrI W I := ⟨h.1.2.2.2.2.1, h.2, h.1.2.2.2.2.2⟩
theorem PkI_st {A : sA} {W W' : wS} {I J : mm_I} (h : PkI A W I) (f : sm F_wr I J) (hW : WrI W' J) : PkI A W' J := by
  obtain ⟨⟨⟨a1, a2⟩, ⟨b1, b2, b3, b4, b5⟩, ⟨c1, c2, c3⟩, ⟨d1, d2⟩, _⟩, _⟩ := h
  refine ⟨⟨⟨(f 58 1 rfl).trans a1, fun i hi => (f 59 i rfl).trans (a2 i hi)⟩, ⟨(f 58 4 rfl).trans b1, (f 58 5 rfl).trans b2, (f 58 9 rfl).trans b3, fun c hc => (f 61 c rfl).trans (b4 c hc), fun c i hc hi => (f 60 _ rfl).trans (b5 c i hc hi)⟩, ⟨(f 58 6 rfl).trans c1, (f 58 7 rfl).trans c2, (f 58 8 rfl).trans c3⟩, ⟨fun j hj => (f 62 j rfl).trans (d1 j hj), fun j hj => (f 63 j rfl).trans (d2 j hj)⟩, ⟨hW.1, hW.2.2⟩⟩, hW.2.1⟩
theorem PkI_ls {A : sA} {W : wS} {I J : mm_I} (h : PkI A W I) (f : sm F_ls I J) : PkI A W J := ⟨h.1.sc f.ls, (f 58 34 rfl).trans h.2⟩
theorem lM_pw68 {P : mm_I → Prop} {x : Nat → Int32} {n b pl : Nat} {W : wS} {I : mm_I} (hX : RwI x n b I) (hb : b ≤ 17) (hpl : pl ≤ n) (hO : wOk W) (hc : wps W + b * pl ≤ 32000)
    (H : ∀ J, WrI (w_xs x b pl W) J → sm F_wr I J → ((J 58 32 < 8 → mm_Mi 165 [.ref 58, .int (J 58 32)] J (fun _ I110 => mm_W 192 117 [some (.ref 58), none, none, some (.int (nI pl)), some (.int 0)] [] I110 (mm_qv 192 P))) ∧ (8 ≤ J 58 32 → P J))) : ∀ (r k : Nat) (J : mm_I), k + r = pl → WrI (w_xs x b k W) J → sm F_wr I J → mm_W 192 68 [some (.ref 58), none, none, some (.int (nI pl)), some (.int (nI k))] [] J (mm_qv 192 P) := by
  have hn := hX.1
  intro r
  induction r with
  | zero =>
    intro k J hk hW hsm
    have hk : k = pl := by omega
    subst hk
    exact c_M_putsRow_68 _ _ ⟨fun _ => H J hW hsm, fun h => absurd h (nI_nlt (by omega) (by omega))⟩
  | succ r ih =>
    intro k J hk hW hsm
    have ok := wps_xs (x := x) (b := b) k W hO
    have mm : b * k + b ≤ b * pl := by rw [← Nat.mul_succ]; exact Nat.mul_le_mul_left b (by omega)
    refine c_M_putsRow_68 _ _ ⟨fun h => absurd h (nI_ge (by omega) (by omega)), fun _ => ⟨vp_in_nI (by omega) (by omega), ?_⟩⟩
    rw [nI_clamp (by omega), hsm 67 k rfl, hX.2.2.2 k (by omega), hsm 58 19 rfl, hX.2.2.1]
    refine sp_M_putsBits (by omega) hW ok.1 (by omega) (fun J2 a1 a2 => ?_)
    rw [nI_1]
    exact ih (k + 1) J2 (by omega) a1 (sm.tq hsm a2)
theorem lM_pw117 {P : mm_I → Prop} {E : Nat → Int32} {m C : Nat} {T : Nat → Nat × Nat} {pa bt : Nat → Nat} {x3 : Int32} {W : wS} {I : mm_I} (hE : ErI E m I) (hB : EB E m) (hR : RuI C T pa bt I) (hC : C ≤ 8) (hT : ∀ k, k < C → (T k).1 < (T k).2 ∧ (T k).2 ≤ Gm m ∧ ((T k).1 = if k = 0 then 0 else (T (k - 1)).2) ∧ pa k < 16) (hO : wOk W) (hc : wps W + suR E m T pa C ≤ 32000)
    (H : ∀ J, WrI (w_rs E m T pa C W) J → sm F_wr I J → P J) : ∀ (r k : Nat) (J : mm_I), k + r = C → WrI (w_rs E m T pa k W) J → sm F_wr I J → mm_W 192 117 [some (.ref 58), none, none, some (.int x3), some (.int (nI k))] [] J (mm_qv 192 P) := by
  have hm := hE.1
  have hGm : Gm m = (m + 7) / 8 := rfl
  have mono : ∀ j k, suR E m T pa k ≤ suR E m T pa (k + j) := fun j => by
    induction j with
    | zero => intro k; exact Nat.le_refl _
    | succ j ih =>
      intro k
      have := ih k
      show _ ≤ suR E m T pa (k + j) + rnB E m (pa (k + j)) (T (k + j)).1 (T (k + j)).2
      omega
  intro r
  induction r with
  | zero =>
    intro k J hk hW hsm
    have hk : k = C := by omega
    subst hk
    refine c_M_putsRow_117 _ _ ⟨fun _ => H J hW hsm, fun h => ?_⟩
    rw [hsm 58 29 rfl, hR.1] at h
    exact absurd h (nI_nlt (by omega) (by omega))
  | succ r ih =>
    intro k J hk hW hsm
    have ok := wps_rs (E := E) (m := m) (T := T) (pa := pa) k W hO
    have ms := mono r (k + 1)
    rw [show k + 1 + r = C by omega] at ms
    have es : suR E m T pa (k + 1) = suR E m T pa k + rnB E m (pa k) (T k).1 (T k).2 := rfl
    obtain ⟨t1, t2, t3, t4⟩ := hT k (by omega)
    obtain ⟨r1, r2, _⟩ := hR.2 k (by omega)
    have vk := vp_in_nI (n := k) (N := 8) (by omega) (by omega)
    have e1 : (if nI k = 0 then (0 : Int32) else J 72 ((nI k - 1).toNatClampNeg)) = nI (T k).1 := by
      by_cases q : k = 0
      · have z0 : nI k = 0 := by rw [q]; rfl
        rw [if_pos z0, t3, if_pos q]; rfl
      · have z0 : ¬ nI k = 0 := nI_ne0 (by omega) (by omega)
        have e5 : nI k - 1 = nI (k - 1) := pk_sub (b := 1) (by omega)
        rw [if_neg z0, e5, nI_clamp (n := k - 1) (by omega), hsm 72 _ rfl, (hR.2 (k - 1) (by omega)).1, t3, if_neg q]
    refine c_M_putsRow_117 _ _ ⟨fun h => ?_, fun _ => ⟨fun q => ⟨?_, trivial⟩, vk, vk, ?_⟩⟩
    · rw [hsm 58 29 rfl, hR.1] at h
      exact absurd h (nI_ge (by omega) (by omega))
    · have k0 : k ≠ 0 := fun y => q (by rw [y]; rfl)
      have e5 : nI k - 1 = nI (k - 1) := pk_sub (b := 1) (by omega)
      rw [e5]
      exact vp_in_nI (by omega) (by omega)
    · rw [e1, nI_clamp (n := k) (by omega), hsm 72 k rfl, hsm 73 k rfl, r1, r2]
      refine sp_M_putsRun (ErI_wr hE hsm) hB t1 (by omega) t4 hW ok.1 (by omega) (fun J2 a1 a2 => ?_)
      rw [nI_1]
      exact ih (k + 1) J2 (by omega) a1 (sm.tq hsm a2)
def F_pk (a j : Nat) : Bool := F_ls a j || F_wr a j
theorem F_pk_p {a j : Nat} (h : F_pk a j = false) : F_ls a j = false ∧ F_wr a j = false := by
  unfold F_pk at h
  rw [Bool.or_eq_false_iff] at h
  exact h
theorem sm.pl {I J : mm_I} (f : sm F_ls I J) : sm F_pk I J := f.le (fun _ _ h => (F_pk_p h).1)
theorem sm.pw {I J : mm_I} (f : sm F_wr I J) : sm F_pk I J := f.le (fun _ _ h => (F_pk_p h).2)
theorem used_le {W : wS} (h : wOk W) (hc : wps W ≤ 32000) : W.1.1 ≤ 4000 := by
  unfold wps at hc
  by_cases q : W.1.2 = 0
  · rw [if_pos q] at hc; omega
  · rw [if_neg q] at hc
    have := h.2 q
    omega
abbrev wRw (A : sA) (f sort : Nat) (W : wS) : wS := w_row (s_wt A) (s_sh A) (o_rx A (s_fr A) f sort) (o_rn A (s_fr A) f) (o_rb A sort) (s_ef A) (s_al A) W
theorem sp_M_putsRow {P : mm_I → Prop} {A : sA} {f sort : Nat} {W : wS} {I : mm_I} (hP : PkI A W I) (hV : VA A) (hF : FrO A (s_fr A) f) (hso : soO A sort) (hO : wOk W) (hb : wB W) (hc : wps W + SB A (s_fr A) f (s_al A) sort ≤ 32000)
    (H : ∀ J, PkI A (wRw A f sort W) J → sm F_pk I J → P J) : mm_Mv 192 [.ref 58, .int (nI f), .int (nI sort)] I P := by
  have hal := hV.al
  have hV' := VA_aW hV (used_le hO (by omega)) hb
  have hx := o_rx_b hV hF hso
  have nb := o_rn_b hF
  have bb := o_rb_b (sort := sort) hV
  refine e_M_putsRow _ _ (sp_M_laysRow (A := aW A W) hP.1 hV' hF.1 hso (Nat.le_of_lt hF.2.1) (fun J1 a1 a2 => ?_))
  have a1 : RwI (o_rx A (s_fr A) f sort) (o_rn A (s_fr A) f) (o_rb A sort) J1 := a1
  have f1 : sm F_ls I J1 := a2.le (fun _ _ h => (F_ls_p h).1)
  have p1 := PkI_ls hP f1
  have e8 : J1 58 8 = nI (s_al A) := p1.1.2.2.1.2.2
  rw [e8]
  have pw1 : PWI (s_wt A) (s_sh A) (s_ef A) J1 := p1.1.pw hV'
  refine sp_M_rowCosts pw1 hV.wb a1 hx nb.1 bb (by omega) hal.2 (fun J2 b1 b2 b3 => ?_)
  have p2 := PkI_ls p1 (F_rc_ls b3)
  have f2 := sm.tq f1 (F_rc_ls b3)
  have x2 := RwI_sm a1 b3 rfl rfl (fun _ => rfl)
  generalize hxx : o_rx A (s_fr A) f sort = x at *
  generalize hnn : o_rn A (s_fr A) f = n at *
  generalize hbb : o_rb A sort = b at *
  have hcB : SB A (s_fr A) f (s_al A) sort = hwB (s_wt A) (s_sh A) x n b (s_ef A) (s_al A) := by
    show hwB _ _ (o_rx A (s_fr A) f sort) (o_rn A (s_fr A) f) (o_rb A sort) _ _ = _
    rw [hxx, hnn, hbb]
  rw [hcB] at hc
  have hH := hwH_c (w := s_wt A) (s := s_sh A) (x := x) (b := b) (ef := s_ef A) (set := s_al A) nb.1
  have ec : cst (s_wt A) (s_sh A) x n b (s_ef A) (hwP (s_wt A) (s_sh A) x n b (s_ef A) (s_al A)) = 4 + b * o_od (s_wt A) (hwP (s_wt A) (s_sh A) x n b (s_ef A) (s_al A)) + rBits (s_ef A) (hwE (s_wt A) (s_sh A) x n b (s_ef A) (s_al A)) (hwM (s_wt A) (s_sh A) x n b (s_ef A) (s_al A)) := rfl
  rw [b1.1]
  have o1 := wps_bs (v := nI (hwH (s_wt A) (s_sh A) x n b (s_ef A) (s_al A))) 4 W hO
  refine sp_M_putsBits (k := 4) (by omega) (PkI_wr p2) hO (by omega) (fun J3 c1 c2 => ?_)
  have e32 : J3 58 32 = nI (hwH (s_wt A) (s_sh A) x n b (s_ef A) (s_al A)) := (c2 58 32 rfl).trans b1.1
  have p3 := PkI_st p2 c2 c1
  have x3 := RwI_sm x2 c2 rfl rfl (fun _ => rfl)
  have f3 := sm.tq f2.pl c2.pw
  rw [e32]
  rcases hH with ⟨eH, eB⟩ | ⟨eH, eB⟩ | ⟨eH, eP, eB⟩
  · rw [eH]
    refine ⟨fun z => absurd rfl z, fun _ => ?_⟩
    refine lM_pw68 (pl := 1) x3 bb nb.1 o1.1 (by omega) (fun J d1 d2 => ⟨fun z => ?_, fun _ => H J ?_ (sm.tq f3 d2.pw)⟩) 1 0 J3 (by omega) c1 sm.rf
    · rw [d2 58 32 rfl, e32, eH] at z
      exact absurd z (by decide)
    · refine PkI_st p3 d2 ?_
      show WrI (w_row (s_wt A) (s_sh A) (o_rx A (s_fr A) f sort) (o_rn A (s_fr A) f) (o_rb A sort) (s_ef A) (s_al A) W) J
      rw [hxx, hnn, hbb]
      unfold w_row
      rw [if_pos eH]
      exact d1
  · rw [eH]
    refine ⟨fun _ => ⟨fun z => absurd rfl z, fun _ => ?_⟩, fun z => absurd z (by decide)⟩
    have mc : b * n = n * b := Nat.mul_comm b n
    rw [x3.2.1]
    refine lM_pw68 (pl := n) x3 bb (Nat.le_refl n) o1.1 (by omega) (fun J d1 d2 => ⟨fun z => ?_, fun _ => H J ?_ (sm.tq f3 d2.pw)⟩) n 0 J3 (by omega) c1 sm.rf
    · rw [d2 58 32 rfl, e32, eH] at z
      exact absurd z (by decide)
    · refine PkI_st p3 d2 ?_
      show WrI (w_row (s_wt A) (s_sh A) (o_rx A (s_fr A) f sort) (o_rn A (s_fr A) f) (o_rb A sort) (s_ef A) (s_al A) W) J
      rw [hxx, hnn, hbb]
      unfold w_row
      rw [if_neg (by omega), if_pos eH]
      exact d1
  · have n8 : ¬ nI (hwH (s_wt A) (s_sh A) x n b (s_ef A) (s_al A)) = 8 := fun z => by
      have := (nI_eq (b := 8) (by omega) (by omega)).mp z
      omega
    have n9 : ¬ nI (hwH (s_wt A) (s_sh A) x n b (s_ef A) (s_al A)) = 9 := fun z => by
      have := (nI_eq (b := 9) (by omega) (by omega)).mp z
      omega
    have bo := bpr_ok (w := s_wt A) (s := s_sh A) (x := x) (b := b) (ef := s_ef A) (set := s_al A) nb.1 7
    have bo2 : o_od (s_wt A) (hwH (s_wt A) (s_sh A) x n b (s_ef A) (s_al A)) < n := by rw [eP]; exact bo.2
    have mb := hwM_b (b := b) (ef := s_ef A) (set := s_al A) hV.wb hx nb.1
    have rt := rT_ok (ef := s_ef A) (E := hwE (s_wt A) (s_sh A) x n b (s_ef A) (s_al A)) (m := hwM (s_wt A) (s_sh A) x n b (s_ef A) (s_al A)) (by omega) mb.1 mb.2.2
    have rc8 := rCnt_b (ef := s_ef A) (E := hwE (s_wt A) (s_sh A) x n b (s_ef A) (s_al A)) (m := hwM (s_wt A) (s_sh A) x n b (s_ef A) (s_al A)) (by omega)
    refine ⟨fun _ => ⟨fun _ => sp_M_orderOf (Or.inl rfl) eH ?_, fun z => absurd z n9⟩, fun z => absurd z n8⟩
    rw [o_od_c (w' := s_wt A) eH p3.1.2.2.2.1.1]
    have o2 := wps_xs (x := x) (b := b) (o_od (s_wt A) (hwH (s_wt A) (s_sh A) x n b (s_ef A) (s_al A))) _ o1.1
    rw [← eP] at ec eB
    refine lM_pw68 (pl := o_od (s_wt A) (hwH (s_wt A) (s_sh A) x n b (s_ef A) (s_al A))) x3 bb (by omega) o1.1 (by omega) (fun J d1 d2 => ⟨fun _ => ?_, fun z => ?_⟩) _ 0 J3 (Nat.zero_add _) c1 sm.rf
    · rw [d2 58 32 rfl, e32]
      have p4 := PkI_st p3 d2 d1
      have x4 := RwI_sm x3 d2 rfl rfl (fun _ => rfl)
      have pw4 : PWI (s_wt A) (s_sh A) (s_ef A) J := ⟨p4.1.2.2.2.1.1, p4.1.2.2.2.1.2, p4.1.2.2.1.2.1, hV.ef⟩
      refine sp_M_costs pw4 hV.wb x4 hx eH bo2 (fun J5 g1 g2 g3 => ?_)
      have p5 := PkI_ls p4 (F_rc_ls g3.rc)
      rw [eP] at g1 g2
      have g2 : RuE (s_ef A) (hwE (s_wt A) (s_sh A) x n b (s_ef A) (s_al A)) (hwM (s_wt A) (s_sh A) x n b (s_ef A) (s_al A)) J5 := g2
      refine lM_pw117 (E := hwE (s_wt A) (s_sh A) x n b (s_ef A) (s_al A)) (m := hwM (s_wt A) (s_sh A) x n b (s_ef A) (s_al A)) g1 mb.2.2 g2 rc8 (fun k hk => ⟨(rt.1 k hk).1, (rt.1 k hk).2.1, (rt.1 k hk).2.2.1, (rt.1 k hk).2.2.2.1⟩) o2.1 (by omega) (fun J6 h1 h2 => H J6 ?_ (sm.tq (sm.tq (sm.tq f3 d2.pw) (F_rc_ls g3.rc).pl) h2.pw)) _ 0 J5 (Nat.zero_add _) (PkI_wr p5) sm.rf
      refine PkI_st p5 h2 ?_
      show WrI (w_row (s_wt A) (s_sh A) (o_rx A (s_fr A) f sort) (o_rn A (s_fr A) f) (o_rb A sort) (s_ef A) (s_al A) W) J6
      rw [hxx, hnn, hbb]
      unfold w_row
      rw [if_neg (by omega), if_neg (by omega)]
      exact h1
    · rw [d2 58 32 rfl, e32] at z
      have := (nI_leI (a := 8) (by omega) (by omega)).mp z
      omega
