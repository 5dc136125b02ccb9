/-! the class: pack -/
def PkX (A : sA) (W : wS) (I : mm_I) : Prop := (RXt A I ∧ RXs A I ∧ RXo A I ∧ RXq 6 (s_wt A) (s_sh A) I ∧ RXf I) ∧ WxI W I
theorem PkX_st {A : sA} {W W' : wS} {I J : mm_I} (h : PkX A W I) (f : sm F_xw I J) (hW : WxI W' J) : PkX A W' J := by
  obtain ⟨⟨ht, hs, ho, hp, hf⟩, _⟩ := h
  have f0 := f.fn 0 (fun j => F_xw_f (by omega)); have f1 := f.fn 1 (fun j => F_xw_f (by omega)); have f2 := f.fn 2 (fun j => F_xw_f (by omega)); have f3 := f.fn 3 (fun j => F_xw_f (by omega)); have f4 := f.fn 4 (fun j => F_xw_f (by omega)); have f5 := f.fn 5 (fun j => F_xw_f (by omega)); have f50 := f.fn 50 (fun j => F_xw_f (by omega)); have f51 := f.fn 51 (fun j => F_xw_f (by omega)); have f52 := f.fn 52 (fun j => F_xw_f (by omega))
  refine ⟨⟨?_, ?_, ?_, RXq_wx hp f, ?_⟩, hW⟩
  · unfold RXt; rw [f1, f2]; exact ht
  · unfold RXs; rw [f3, f4, f5]; exact hs
  · unfold RXo; rw [f0]; exact ho
  · unfold RXf; rw [f50, f51, f52]; exact hf
theorem PkX_pl {A : sA} {W : wS} {I J : mm_I} (h : PkX A W I) (f : sm F_pl I J) : PkX A W J := by
  obtain ⟨⟨ht, hs, ho, hp, hf⟩, hW⟩ := h
  have f0 := f.fn 0 (fun j => F_pl_f (by omega)); have f1 := f.fn 1 (fun j => F_pl_f (by omega)); have f2 := f.fn 2 (fun j => F_pl_f (by omega)); have f50 := f.fn 50 (fun j => F_pl_f (by omega)); have f51 := f.fn 51 (fun j => F_pl_f (by omega)); have f52 := f.fn 52 (fun j => F_pl_f (by omega)); have f47 := f.fn 47 (fun j => F_pl_f (by omega)); have f48 := f.fn 48 (fun j => F_pl_f (by omega))
  refine ⟨⟨?_, RXs_pl hs f, ?_, RXq_pl hp f, ?_⟩, ?_⟩
  · unfold RXt; rw [f1, f2]; exact ht
  · unfold RXo; rw [f0]; exact ho
  · unfold RXf; rw [f50, f51, f52]; exact hf
  · unfold WxI; rw [f47, f48]; exact hW
theorem PlI_xw {A : sA} {fr f set : Nat} {I J : mm_I} (h : PlI A fr f set I) (g : sm F_xw I J) : PlI A fr f set J := by
  have f10 := g.fn 10 (fun j => F_xw_f (by omega))
  exact ⟨⟨fun q hq => RoX_wx (rwS (by omega)) (h.1.1 q hq) g, by rw [f10]; exact h.1.2⟩, by rw [f10]; exact h.2⟩
theorem sm.wFX {I J : mm_I} (f : sm F_xw I J) : FX I J := fun a ha => f.fn a (fun j => F_xw_f (by omega))
theorem PkX_R {A : sA} {W : wS} {I : mm_I} (h : PkX A W I) (h0 : W.1.2 = 0) : RX (aW A W) I := by
  obtain ⟨⟨ht, hs, ho, hp, hf⟩, hW⟩ := h
  refine ⟨ht, hs, ho, hp, hf, hW.1, ?_, hW.2.2⟩
  rw [hW.2.1, h0]
  decide
theorem wx0 {W : wS} {I : mm_I} (h : WxI W I) (h0 : W.1.2 = 0) : I 47 2 = 0 := by
  rw [h.2.1, h0]
  decide
theorem sp_X_writeFrame {P : mm_I → Prop} {A : sA} {I : mm_I} {f : Nat} {W : wS} (hV : VA A) (hF : FrO A (s_fr A) f) (hP : PkX A W I) (h0 : W.1.2 = 0) (hL : PlI A (s_fr A) f (s_al A) I) (hb : wB W) (hc : W.1.1 + fsz A (s_fr A) f (s_al A) ≤ 4000)
    (H : ∀ J, PkX A (w_fr A f W) J → FX I J → P J) : mm_Mv 97 [.ref 0, .int (nI f)] I P := by
  have hch := hV.ch
  have nb := o_rn_b hF
  have cc : 8 * (W.1.1 + 2) + (if s_ch A = 2 then 2 else 0) + jBt A (s_fr A) f (s_al A) (jOf A (s_fr A) f (s_al A)) + 16 ≤ 32000 := by
    unfold fsz at hc
    generalize jBt A (s_fr A) f (s_al A) (jOf A (s_fr A) f (s_al A)) = t at *
    by_cases q : s_ch A = 2
    · rw [if_pos q] at hc ⊢; omega
    · rw [if_neg q] at hc ⊢; omega
  have f4 : 4 ≤ fsz A (s_fr A) f (s_al A) := Nat.le_add_right 4 _
  have jo := jOf_ok A (s_fr A) f (s_al A)
  have j4 : jOf A (s_fr A) f (s_al A) < 4 := by omega
  have w0 := hP.2
  refine e_WS_writeFrame _ (pb_X w0.1 w0.2.2 (wx0 w0 h0) (by omega) (fun J1 a1 a2 => ?_))
  have u1 : (w_by W 165).1.1 = W.1.1 + 1 := rfl
  refine pb_X a1.1 a1.2.2 (wx0 a1 rfl) (by omega) (fun J2 b1 b2 => ?_)
  have b1 : WxI (w_f2 f W) J2 := b1
  have g2 := (sm.tq a2 b2).xw
  have p2 := PkX_st hP g2 b1
  have l2 := PlI_xw hL g2
  have ok2 := w_f2_ok f W hb
  have okj := w_fj_ok A f W hb
  have e32 : J2 3 2 = nI (s_ch A) := p2.1.2.1.1
  -- a row
  have row : ∀ {Q : mm_I → Prop} {K : mm_I} {r : Nat}, r < s_ch A → PkX A (w_f1 A f W r) K → PlI A (s_fr A) f (s_al A) K → (∀ L, PkX A (w_f1 A f W (r + 1)) L → PlI A (s_fr A) f (s_al A) L → FX K L → Q L) → mm_Mv 98 [.ref 0, .ref (22 + 6 * qSo A f r)] K Q := fun {Q K r} hr pK lK hQ => by
    have o := w_f1_ok hV hF hb r (by omega)
    have sl := sbS_le (f := f) hF.1 hr
    have so := soF_ok (fr := s_fr A) (f := f) (set := s_al A) hV hr
    refine sp_X_writeRow (rwS (soF_lt _ _)) pK.1.2.2.2.1 hV.wb (o_rx_b hV hF so) nb.1 (o_rb_b hV) (lK.1.1 _ so) pK.2 o.1 (show wps (w_f1 A f W r) + SB A (s_fr A) f (s_al A) (qSo A f r) ≤ 32000 by rw [o.2.2]; omega) (fun L d1 d2 => hQ L (PkX_st pK d2 d1) (PlI_xw lK d2) d2.wFX)
  -- the end
  have fin : ∀ K : mm_I, PkX A (w_f1 A f W (s_ch A)) K → FX I K → mm_Mv 60 [.ref 47] K (fun I103 => mm_Mv 61 [.ref 47, .int (I 47 1)] I103 (fun I111 => P I111)) := fun K pK gK => by
    have o := w_f1_ok hV hF hb (s_ch A) (Nat.le_refl _)
    have u := wps_u o.1
    rw [sbS_j hF.1] at o
    refine e_Store_endBits ?_
    rw [w0.1]
    have ge : sm F_xw K (mm_up K 47 2 0) := sm.rf.up rfl
    refine sp_X_putCheck (W := w_f1 A f W (s_ch A)) (I := mm_up K 47 2 0) pK.2.1 pK.2.2.2 rfl o.2.1 (by omega) (by omega) (fun L d1 d2 => H L (PkX_st pK (sm.tq ge d2.xw) d1) ((gK.tr ge.wFX).tr d2.xw.wFX))
  rw [e32]
  rcases rdy_ch hF.1 with c | c
  · have n2 : ¬ nI (s_ch A) = 2 := by rw [c]; decide
    have pj : PkX A (w_f1 A f W 0) J2 := by
      show PkX A (w_fj A f W) J2
      unfold w_fj
      rw [if_neg (by omega)]
      exact p2
    refine ⟨fun _ => ?_, fun z => absurd z n2⟩
    rw [l2.2]
    refine sp_X_firstRow j4 ⟨_, rfl, rwS (soF_lt _ _), row (r := 0) (by omega) pj l2 (fun L d1 d2 d3 => ?_)⟩
    have e3 : L 3 2 = nI (s_ch A) := d1.1.2.1.1
    rw [e3]
    have d1 : PkX A (w_f1 A f W (s_ch A)) L := by rw [c]; exact d1
    exact ⟨fun _ => fin L d1 (g2.wFX.tr d3), fun z => absurd z n2⟩
  · have n2 : nI (s_ch A) = 2 := by rw [c]; rfl
    refine ⟨fun z => absurd n2 z, fun _ => ?_⟩
    rw [l2.2]
    refine sp_X_putBits (k := 2) (by omega) b1 ok2.1 (by omega) (fun J3 c1 c2 => ?_)
    have p3 : PkX A (w_f1 A f W 0) J3 := by
      show PkX A (w_fj A f W) J3
      unfold w_fj
      rw [if_pos c]
      exact PkX_st p2 c2.xw c1
    have l3 := PlI_xw l2 c2.xw
    rw [l3.2]
    refine sp_X_firstRow j4 ⟨_, rfl, rwS (soF_lt _ _), row (r := 0) (by omega) p3 l3 (fun L d1 d2 d3 => ?_)⟩
    have e3 : L 3 2 = nI (s_ch A) := d1.1.2.1.1
    rw [e3, d2.2]
    refine ⟨fun z => absurd n2 z, fun _ => sp_X_secondRow j4 ⟨_, rfl, rwS (soF_lt _ _), row (r := 1) (by omega) d1 d2 (fun M k1 k2 k3 => ?_)⟩⟩
    have k1 : PkX A (w_f1 A f W (s_ch A)) M := by rw [c]; exact k1
    exact fin M k1 (((g2.wFX.tr c2.xw.wFX).tr d3).tr k3)
theorem by_mod (W : wS) {v : Nat} (h : v < 65536) : w_by W (nI v) = w_by W (nI (v % 256)) := by
  unfold w_by
  have e : nI v &&& 255 = nI (v % 256) &&& 255 := by
    rw [pk_andN (by omega) (m := 255) 8 (by decide +kernel), pk_andN (by omega) (m := 255) 8 (by decide +kernel)]
    congr 1
    show v % 256 = v % 256 % 256
    omega
  rw [e]
theorem RXq_ws {w s : Nat → Int32} {I : mm_I} {k i : Nat} (h : RXq 6 w s I) (hk : k < 3) (hi : i < 3) : I 7 (4 * (5 + k) + i) = w (3 * k + i) ∧ I 9 (5 + k) = s k := by
  refine ⟨h.2.1 k i hk hi, ?_⟩
  rw [h.2.2.2 (5 + k) (by omega)]
  unfold o_sf
  rw [if_neg (by omega), show 5 + k - 5 = k by omega]
theorem lX_wh102 {P : mm_I → Prop} {A : sA} {I : mm_I} {k : Nat} (hk : k < 3)
    (H : ∀ J, PkX A (w_hs (hdB A) (7 + 4 * (k + 1)) w_0) J → FX I J → mm_W 96 94 [some (.ref 0), some (.int (nI (5 + (k + 1)))), none] [] J (mm_qv 96 P)) : ∀ (r i : Nat) (J : mm_I), i + r = 3 → PkX A (w_hs (hdB A) (7 + 4 * k + i) w_0) J → (w_hs (hdB A) (7 + 4 * k + i) w_0).1.2 = 0 → FX I J → mm_W 96 102 [some (.ref 0), some (.int (nI (5 + k))), some (.int (nI i))] [] J (mm_qv 96 P) := by
  intro r
  induction r with
  | zero =>
    intro i J hi hP h0 hsm
    have hi : i = 3 := by omega
    subst hi
    have w0 := hP.2
    have n0 := w_hs_n (l := hdB A) (7 + 4 * k + 3) w_0
    have n1 : w_0.1.1 = 0 := rfl
    refine c_WS_writeHead_102 _ _ ⟨fun _ => ⟨vp_in_nI (by omega) (by omega), ?_⟩, fun h => absurd h (by decide)⟩
    rw [nI_clamp (n := 5 + k) (by omega), (RXq_ws hP.1.2.2.2.1 hk (show 0 < 3 by omega)).2, ← hdB_s (A := A) (k := k)]
    refine pb_X w0.1 w0.2.2 (wx0 w0 h0) (by omega) (fun J1 a1 a2 => ?_)
    rw [nI_1]
    exact H J1 (PkX_st hP a2.xw a1) (hsm.tr a2.xw.wFX)
  | succ r ih =>
    intro i J hi hP h0 hsm
    have w0 := hP.2
    have n0 := w_hs_n (l := hdB A) (7 + 4 * k + i) w_0
    have n1 : w_0.1.1 = 0 := rfl
    have e3 : nI (5 + k) * (4 : Int32) + nI i = nI (4 * (5 + k) + i) := by
      show nI (5 + k) * nI 4 + _ = _
      rw [pk_mul, nI_add, Nat.mul_comm]
    refine c_WS_writeHead_102 _ _ ⟨fun h => absurd h (nI_ge (b := 3) (by omega) (by omega)), fun _ => e_Pred_weightAt (Or.inl rfl) _ _ ?_⟩
    rw [e3, nI_clamp (n := 4 * (5 + k) + i) (by omega)]
    refine ⟨vp_in_nI (by omega) (by omega), ?_⟩
    show mm_Mv 58 [.ref 47, .int (J 7 (4 * (5 + k) + i))] J _
    rw [(RXq_ws hP.1.2.2.2.1 hk (show i < 3 by omega)).1, ← hdB_w (A := A) (k := k) (i := i) (by omega)]
    refine pb_X w0.1 w0.2.2 (wx0 w0 h0) (by omega) (fun J1 a1 a2 => ?_)
    rw [nI_1]
    exact ih (i + 1) J1 (by omega) (PkX_st hP a2.xw a1) rfl (hsm.tr a2.xw.wFX)
theorem lX_wh94 {P : mm_I → Prop} {A : sA} {I : mm_I} (H : ∀ J, PkX A (w_h A) J → FX I J → P J) : ∀ (r k : Nat) (J : mm_I), k + r = 3 → PkX A (w_hs (hdB A) (7 + 4 * k) w_0) J → FX I J → mm_W 96 94 [some (.ref 0), some (.int (nI (5 + k))), none] [] J (mm_qv 96 P) := by
  intro r
  induction r with
  | zero =>
    intro k J hk hP hsm
    have hk : k = 3 := by omega
    subst hk
    have n0 := w_hs_n (l := hdB A) (7 + 4 * 3) w_0
    have n1 : w_0.1.1 = 0 := rfl
    refine c_WS_writeHead_94 _ ⟨fun _ => ?_, fun h => absurd h (by decide)⟩
    refine sp_X_putCheck (a := 0) hP.2.1 hP.2.2.2 (wx0 hP.2 rfl) (wB_hs 19 w_0 (fun i hi => absurd hi (Nat.not_lt_zero i))) (by omega) (by omega) (fun J2 a1 a2 => H J2 (PkX_st hP a2.xw a1) (hsm.tr a2.xw.wFX))
  | succ r ih =>
    intro k J hk hP hsm
    refine c_WS_writeHead_94 _ ⟨fun h => absurd h (nI_ge (b := 8) (by omega) (by omega)), fun _ => ?_⟩
    exact lX_wh102 (k := k) (by omega) (fun J' a1 a2 => ih (k + 1) J' (by omega) a1 (hsm.tr a2)) 3 0 J (by omega) hP (by
      obtain ⟨m, hm⟩ : ∃ m, 7 + 4 * k + 0 = m + 1 := ⟨6 + 4 * k, by omega⟩
      rw [hm]
      rfl) FX.rf
theorem sp_X_writeHead {P : mm_I → Prop} {A : sA} {I : mm_I} (hV : VA A) (hR : RX A I) (h1 : rdy A) (H : ∀ J, PkX A (w_h A) J → FX I J → P J) : mm_Mv 96 [.ref 0] (mm_up I 47 1 0) P := by
  have hcn := hV.cn (c := 0) (by omega)
  have p0 : PkX A w_0 (mm_up I 47 1 0) := ⟨⟨hR.1, hR.2.1, hR.2.2.1, hR.2.2.2.1, hR.2.2.2.2.1⟩, rfl, (hR.2.2.2.2.2.2.1).trans (by decide), fun i hi => absurd hi (Nat.not_lt_zero i)⟩
  have f0 : FX I (mm_up I 47 1 0) := FX.rf.up (by omega)
  generalize mm_up I 47 1 0 = I0 at *
  refine e_WS_writeHead (pb_X p0.2.1 p0.2.2.2 (wx0 p0.2 rfl) (by show 0 < 4000; omega) (fun I1 a1 a2 => ?_))
  have p1 : PkX A (w_hs (hdB A) 1 w_0) I1 := PkX_st p0 a2.xw a1
  have f1 := f0.tr a2.xw.wFX
  refine pb_X a1.1 a1.2.2 (wx0 a1 rfl) (by show 1 < 4000; omega) (fun I2 b1 b2 => ?_)
  have p2 : PkX A (w_hs (hdB A) 2 w_0) I2 := PkX_st p1 b2.xw b1
  have f2 := f1.tr b2.xw.wFX
  rw [show I2 3 2 = nI (s_ch A) from p2.1.2.1.1]
  refine pb_X b1.1 b1.2.2 (wx0 b1 rfl) (by show 2 < 4000; omega) (fun I3 c1 c2 => ?_)
  have p3 : PkX A (w_hs (hdB A) 3 w_0) I3 := PkX_st p2 c2.xw c1
  have f3 := f2.tr c2.xw.wFX
  rw [show I3 3 3 = nI (s_wd A) from p3.1.2.1.2.1]
  refine pb_X c1.1 c1.2.2 (wx0 c1 rfl) (by show 3 < 4000; omega) (fun I4 d1 d2 => ?_)
  have p4 : PkX A (w_hs (hdB A) 4 w_0) I4 := PkX_st p3 d2.xw d1
  have f4 := f3.tr d2.xw.wFX
  rw [show I4 0 7 = nI (s_fr A) from p4.1.2.2.1.1]
  refine pb_X d1.1 d1.2.2 (wx0 d1 rfl) (by show 4 < 4000; omega) (fun I5 g1 g2 => ?_)
  have p5 : PkX A (w_hs (hdB A) 5 w_0) I5 := PkX_st p4 g2.xw g1
  have f5 := f4.tr g2.xw.wFX
  have ed : nI (s_cn A 0) >>> ((8 : Int32) &&& 31) = nI (s_cn A 0 / 256) := pk_shrN (by omega) _ 8 (by decide +kernel)
  rw [show I5 5 0 = nI (s_cn A 0) from p5.1.2.1.2.2.2.1 0 (by omega), ed]
  refine pb_X g1.1 g1.2.2 (wx0 g1 rfl) (by show 5 < 4000; omega) (fun I6 h1 h2 => ?_)
  have p6 : PkX A (w_hs (hdB A) 6 w_0) I6 := PkX_st p5 h2.xw h1
  have f6 := f5.tr h2.xw.wFX
  rw [show I6 5 0 = nI (s_cn A 0) from p6.1.2.1.2.2.2.1 0 (by omega)]
  refine pb_X h1.1 h1.2.2 (wx0 h1 rfl) (by show 6 < 4000; omega) (fun I7 k1 k2 => ?_)
  rw [by_mod _ (show s_cn A 0 < 65536 by omega)] at k1
  have p7 : PkX A (w_hs (hdB A) (7 + 4 * 0) w_0) I7 := PkX_st p6 k2.xw k1
  have f7 := f6.tr k2.xw.wFX
  exact lX_wh94 (fun J m1 m2 => H J m1 (f7.tr m2)) 3 0 I7 (by omega) p7 FX.rf
theorem lX_pk38 {P : Int32 → mm_I → Prop} {A : sA} {I : mm_I} (hV : VA A) (H : ∀ J, PkX A (w_fs A (nfr A)) J → FX I J → P (nI (w_fs A (nfr A)).1.1) J) : ∀ (r k : Nat) (J : mm_I), k + r = nfr A → PkX A (w_fs A k) J → FX I J → mm_W 95 38 [some (.ref 0), some (.int (nI (nfr A))), some (.int (nI k))] [] J (mm_qi 95 P) := by
  have n16 := nfr_le hV
  have hal := hV.al
  intro r
  induction r with
  | zero =>
    intro k J hk hP hsm
    have hk : k = nfr A := by omega
    subst hk
    refine c_WS_pack_38 _ _ ⟨fun _ => ?_, fun z => absurd z (nI_nlt (by omega) (by omega))⟩
    rw [hP.2.1]
    exact H J hP hsm
  | succ r ih =>
    intro k J hk hP hsm
    have hF := nfr_ok hV (show k < nfr A by omega)
    have o := w_fs_ok hV k (by omega)
    have c1 := szB_c hV (show k + 1 ≤ nfr A by omega)
    have e1 : (w_fs A k).1.1 = szB A (s_fr A) (s_al A) k := by rw [o.2]
    have c2 : (w_fs A k).1.1 + fsz A (s_fr A) k (s_al A) ≤ 1500 := by rw [e1]; exact c1
    refine c_WS_pack_38 _ _ ⟨fun z => absurd z (nI_ge (by omega) (by omega)), fun _ => ?_⟩
    rw [show J 0 7 = nI (s_fr A) from hP.1.2.2.1.1, show J 0 8 = nI (s_ef A) from hP.1.2.2.1.2.1, show J 0 9 = nI (s_al A) from hP.1.2.2.1.2.2]
    refine sp_X_make hP.1.2.1 hP.1.2.2.2.1 hV hF (by omega) hal.2 (fun K a1 a2 => ?_)
    refine sp_X_writeFrame hV hF (PkX_pl hP a2) (by rw [o.2]) a1 o.1 (by omega) (fun L b1 b2 => ?_)
    rw [nI_1]
    exact ih (k + 1) L (by omega) b1 ((hsm.tr a2.px.xFX).tr b2)
theorem oX_pack {A : sA} {I : mm_I} (hR : RX A I) (hV : VA A) : mm_Mi 95 [.ref 0] I (oR (oPack A) RX FX I) := by
  have hf := hV.fr
  refine e_WS_pack (sp_X_ready hR.2.1 hV ⟨fun h => ?_, fun h => ?_⟩)
  · have h := b1_n h
    unfold oPack
    rw [if_pos h]
    refine sp_X_writeHead hV hR h (fun J a1 a2 => ?_)
    rw [show J 0 7 = nI (s_fr A) from a1.1.2.2.1.1]
    refine sp_X_frames a1.1.2.1 hV ⟨hf.1, hf.2.1⟩ ?_
    rw [nfs_fr]
    refine lX_pk38 hV (fun K b1 b2 => ⟨rfl, PkX_R b1 ?_, a2.tr b2⟩) (nfr A) 0 J (Nat.zero_add _) a1 FX.rf
    rw [(w_fs_ok hV (nfr A) (Nat.le_refl _)).2]
  · unfold oPack
    rw [if_neg (b1_0.mp h)]
    exact ⟨rfl, hR, FX.rf⟩
