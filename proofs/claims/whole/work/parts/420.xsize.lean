/-! the class: sizes, ratio, loud -/
theorem nfs_ok {A : sA} {fr f : Nat} (hV : VA A) (he : 16 ≤ fr ∧ fr ≤ 64 ∧ fr % 8 = 0) (hf : f < nfs A fr) : FrO A fr f := nfr_ok (A := s_N A 3 fr) (VA_fr hV he) hf
theorem nfs_le {A : sA} {fr : Nat} (hV : VA A) (he : 16 ≤ fr ∧ fr ≤ 64 ∧ fr % 8 = 0) : nfs A fr ≤ 16 := nfr_le (A := s_N A 3 fr) (VA_fr hV he)
theorem sp_X_allBits {P : Int32 → mm_I → Prop} {A : sA} {I : mm_I} {fr f set : Nat} (h : PlI A fr f set I) (H : P (nI ((if s_ch A = 2 then 2 else 0) + jBt A fr f set (jOf A fr f set))) I) : mm_Mi 17 [.ref 10] I P := by
  have jo := jOf_ok A fr f set
  refine e_Plan_allBits ?_
  rw [h.1.2, h.2]
  refine ⟨fun z => sp_X_rowBits h.1 jo ?_, fun z => sp_X_rowBits h.1 jo ?_⟩
  · rw [if_neg (b1_0.mp z), Nat.zero_add] at H
    exact H
  · rw [if_pos (b1_n z)] at H
    have e : (2 : Int32) + nI (jBt A fr f set (jOf A fr f set)) = nI (2 + jBt A fr f set (jOf A fr f set)) := nI_add 2 _
    rw [e]
    exact H
theorem lX_size {P : Int32 → mm_I → Prop} {A : sA} {I : mm_I} {fr set : Nat} (hR : RX A I) (hV : VA A) (he : 16 ≤ fr ∧ fr ≤ 64 ∧ fr % 8 = 0) (hs : set < 256) (hs1 : set % 2 = 1) (H : ∀ J, sm F_pl I J → P (nI (szA A fr set)) J) : ∀ (r k : Nat) (J : mm_I), k + r = nfs A fr → sm F_pl I J → mm_W 94 16 [some (.ref 0), some (.int (nI fr)), some (.int (nI set)), some (.int (nI (szB A fr set k))), some (.int (nI (nfs A fr))), some (.int (nI k))] [] J (mm_qi 94 P) := by
  have n16 := nfs_le hV he
  intro r
  induction r with
  | zero =>
    intro k J hk hsm
    have hk : k = nfs A fr := by omega
    subst hk
    exact c_WS_packedSize_16 _ _ _ _ _ ⟨fun _ => H J hsm, fun z => absurd z (nI_nlt (by omega) (by omega))⟩
  | succ r ih =>
    intro k J hk hsm
    have hF := nfs_ok hV he (show k < nfs A fr by omega)
    have RJ := hR.xs hsm.px
    have jb := jBt_b (set := set) (j := jOf A fr k set) hV hF
    refine c_WS_packedSize_16 _ _ _ _ _ ⟨fun z => absurd z (nI_ge (by omega) (by omega)), fun _ => ?_⟩
    rw [RJ.2.2.1.2.1]
    refine sp_X_make RJ.2.1 RJ.2.2.2.1 hV hF hs hs1 (fun K a1 a2 => sp_X_allBits a1 ?_)
    have e : nI (szB A fr set k) + (2 + (nI ((if s_ch A = 2 then 2 else 0) + jBt A fr k set (jOf A fr k set)) + 7) / 8 + 2) = nI (szB A fr set (k + 1)) := by
      have e1 : (nI ((if s_ch A = 2 then 2 else 0) + jBt A fr k set (jOf A fr k set)) + 7) / 8 = nI (((if s_ch A = 2 then 2 else 0) + jBt A fr k set (jOf A fr k set) + 7) / 8) := by
        show (_ + nI 7) / nI 8 = _
        rw [nI_add, pk_div (by split <;> omega) (by omega) (by omega)]
      rw [e1]
      show _ + (nI 2 + _ + nI 2) = _
      rw [nI_add, nI_add, nI_add]
      congr 1
      show _ = szB A fr set k + (4 + ((if s_ch A = 2 then 2 else 0) + jBt A fr k set (jOf A fr k set) + 7) / 8)
      omega
    rw [e, nI_1]
    exact ih (k + 1) K (by omega) (sm.tq hsm a2)
theorem sp_X_packedSize {P : Int32 → mm_I → Prop} {A : sA} {I : mm_I} {fr set : Nat} (hR : RX A I) (hV : VA A) (he : 16 ≤ fr ∧ fr ≤ 64 ∧ fr % 8 = 0) (hs : set < 256) (hs1 : set % 2 = 1) (H : ∀ J, sm F_pl I J → P (nI (szA A fr set)) J) : mm_Mi 94 [.ref 0, .int (nI fr), .int (nI set)] I P :=
  e_WS_packedSize _ _ (sp_X_frames hR.2.1 hV ⟨he.1, he.2.1⟩ (lX_size hR hV he hs hs1 H (nfs A fr) 0 I (by omega) sm.rf))
theorem oX_size {A : sA} {I : mm_I} (hR : RX A I) (hV : VA A) : mm_Mi 90 [.ref 0] I (oR (oSize A) RX FX I) := by
  have hal := hV.al
  refine e_WS_size (sp_X_ready hR.2.1 hV ⟨fun h => finX0 hR (by rw [if_neg (b1_0.mp h)]), fun h => ?_⟩)
  rw [hR.2.2.1.1, hR.2.2.1.2.2]
  exact sp_X_packedSize hR hV hV.fr (by omega) hal.2 (fun J a => finX hR a.px (by rw [if_pos (b1_n h)]))
theorem oX_sized {A : sA} {I : mm_I} {x : Int32} (hR : RX A I) (hV : VA A) : mm_Mi 91 [.ref 0, .int x] I (oR (oSized A x) RX FX I) := by
  have hal := hV.al
  refine e_WS_sized x (sp_X_ready hR.2.1 hV ⟨fun h => finX0 hR (by rw [if_neg (fun z => (b1_0.mp h) z.2)]), fun h => sp_X_isFrame ⟨fun h2 => finX0 hR (by rw [if_neg (fun z => (b1_0.mp h2) z.1)]), fun h2 => ?_⟩⟩)
  have h2 := b1_n h2
  have h20 := h2
  obtain ⟨n, n1, n2, n3, rfl⟩ := isF_nat h2
  rw [hR.2.2.1.2.2]
  refine sp_X_packedSize hR hV ⟨n1, n2, n3⟩ (by omega) hal.2 (fun J a => finX hR a.px ?_)
  rw [if_pos ⟨h20, b1_n h⟩, nI_clamp (by omega)]
theorem oX_without {A : sA} {I : mm_I} {x : Int32} (hR : RX A I) (hV : VA A) : mm_Mi 92 [.ref 0, .int x] I (oR (oWithout A x) RX FX I) := by
  have hal := hV.al
  have no : ¬ (1 ≤ x ∧ x ≤ 7) → oR (oWithout A x) RX FX I (-1) I := fun h => finX0 hR (by rw [if_neg (fun z => h z.1)])
  refine e_WS_without x (sp_X_ready hR.2.1 hV ⟨fun h => finX0 hR (by rw [if_neg (fun z => (b1_0.mp h) z.2)]), fun h => ⟨fun h2 => no (fun z => absurd h2 (fa_nlt z.1)), fun h2 => ⟨fun h3 => ?_, fun h3 => no (fun z => ?_)⟩⟩⟩)
  · have hx : 1 ≤ x ∧ x ≤ 7 := ⟨h2, by
      rw [lt_I] at h3
      rw [le_I]
      have h3 : x.toInt < 8 := h3
      show x.toInt ≤ 7
      omega⟩
    have hx0 := hx
    obtain ⟨p, p1, p7, rfl⟩ := btw1 (m := 7) (by omega) hx
    have wo := wos_I (al := s_al A) (p := p) (by omega) p1 (by omega)
    rw [hR.2.2.1.1, hR.2.2.1.2.2, wo.1]
    refine sp_X_packedSize hR hV hV.fr wo.2.1 (wo.2.2 hal.2) (fun J a => finX hR a.px ?_)
    rw [if_pos ⟨hx0, b1_n h⟩, nI_clamp (by omega)]
  · have z2 := z.2
    rw [le_I] at h3 z2
    have h3 : 8 ≤ x.toInt := h3
    have z2 : x.toInt ≤ 7 := z2
    omega
theorem lX_best {P : Int32 → mm_I → Prop} {A : sA} {I : mm_I} (hR : RX A I) (hV : VA A) (H : ∀ J, sm F_pl I J → P (nI (bsz A (s_al A) 6)) J) : ∀ (r k : Nat) (J : mm_I), k + r = 6 → sm F_pl I J → mm_W 93 29 [some (.ref 0), some (.int (nI (bsz A (s_al A) k))), some (.int (nI (szA A (bsz A (s_al A) k) (s_al A)))), some (.int (nI (16 + 8 * (k + 1)))), none] [] J (mm_qi 93 P) := by
  have hal := hV.al
  intro r
  induction r with
  | zero =>
    intro k J hk hsm
    have hk : k = 6 := by omega
    subst hk
    exact c_WS_best_29 _ _ _ ⟨fun _ => H J hsm, fun z => absurd z (by decide)⟩
  | succ r ih =>
    intro k J hk hsm
    have RJ := hR.xs hsm.px
    have bo := bsz_ok A (s_al A) k (by omega)
    have s1 := szA_b (set := s_al A) hV bo
    have s2 := szA_b (e := 16 + 8 * (k + 1)) (set := s_al A) hV ⟨by omega, by omega, by omega⟩
    have e : bsz A (s_al A) (k + 1) = if szA A (16 + 8 * (k + 1)) (s_al A) < szA A (bsz A (s_al A) k) (s_al A) then 16 + 8 * (k + 1) else bsz A (s_al A) k := rfl
    refine c_WS_best_29 _ _ _ ⟨fun z => absurd z (nI_nlt (a := 64) (by omega) (by omega)), fun _ => ?_⟩
    rw [RJ.2.2.1.2.2]
    refine sp_X_packedSize RJ hV ⟨by omega, by omega, by omega⟩ (by omega) hal.2 (fun K a => ?_)
    have nx := ih (k + 1) K (by omega) (sm.tq hsm a)
    have e8 : nI (16 + 8 * (k + 1)) + 8 = nI (16 + 8 * (k + 1 + 1)) := nI_add _ 8
    rw [e8]
    by_cases q : szA A (16 + 8 * (k + 1)) (s_al A) < szA A (bsz A (s_al A) k) (s_al A)
    · rw [if_pos q] at e
      rw [e] at nx
      have q2 : ¬ nI (szA A (bsz A (s_al A) k) (s_al A)) ≤ nI (szA A (16 + 8 * (k + 1)) (s_al A)) := nI_ge q (by omega)
      rw [if_neg q2, if_neg q2]
      exact nx
    · rw [if_neg q] at e
      rw [e] at nx
      have q2 : nI (szA A (bsz A (s_al A) k) (s_al A)) ≤ nI (szA A (16 + 8 * (k + 1)) (s_al A)) := nI_le (by omega) (by omega)
      rw [if_pos q2, if_pos q2]
      exact nx
theorem oX_best {A : sA} {I : mm_I} (hR : RX A I) (hV : VA A) : mm_Mi 93 [.ref 0] I (oR (oBest A) RX FX I) := by
  have hal := hV.al
  refine e_WS_best (sp_X_ready hR.2.1 hV ⟨fun h => ?_, fun h => finX0 hR (by rw [if_neg (b1_0.mp h)])⟩)
  rw [hR.2.2.1.2.2]
  refine sp_X_packedSize (fr := 16) hR hV ⟨by omega, by omega, by omega⟩ (by omega) hal.2 (fun J a => ?_)
  exact lX_best hR hV (fun K b => finX hR b.px (by rw [if_pos (b1_n h)])) 6 0 J (by omega) a
theorem oX_ratio {A : sA} {I : mm_I} (hR : RX A I) (hV : VA A) : mm_Mi 114 [.ref 0] I (oR (oRatio A) RX FX I) := by
  have hal := hV.al
  have hcn := hV.cn (c := 0) (by omega)
  have hch := hV.ch
  have hw0 := hV.wd0
  refine e_WS_ratio (sp_X_ready hR.2.1 hV ⟨fun h => finX0 hR (by rw [if_neg (fun z => (b1_0.mp h) z.1)]), fun h => ?_⟩)
  have h := b1_n h
  have c0 : s_ch A ≠ 0 := by rcases rdy_ch h with z | z <;> omega
  rw [hR.2.1.2.2.2.1 0 (by omega)]
  refine ⟨fun h2 => ?_, fun h2 => finX0 hR (by rw [if_neg (fun z => z.2 ((nI_eq (b := 0) (by omega) (by omega)).mp h2))])⟩
  have n0 : s_cn A 0 ≠ 0 := fun z => h2 (by rw [z]; rfl)
  have ew : nI (s_wd A) / 8 = nI (s_wd A / 8) := pk_div (d := 8) (by omega) (by omega) (by omega)
  have eb : I 3 2 * nI (s_cn A 0) * (I 3 3 / 8) = nI (s_wd A / 8 * s_ch A * s_cn A 0) := by
    rw [hR.2.1.1, hR.2.1.2.1, ew, pk_mul, pk_mul, Nat.mul_comm, Nat.mul_assoc]
  have b1 : s_wd A / 8 * s_ch A ≤ 2 * 2 := Nat.mul_le_mul (by omega) hch
  have b2 : s_wd A / 8 * s_ch A * s_cn A 0 ≤ 4 * 256 := Nat.mul_le_mul b1 hcn
  have b3 : 1 ≤ s_wd A / 8 * s_ch A * s_cn A 0 := by
    have w1 : 1 ≤ s_wd A / 8 := by rcases hV.wd c0 with z | z <;> omega
    have : 1 * 1 * 1 ≤ s_wd A / 8 * s_ch A * s_cn A 0 := Nat.mul_le_mul (Nat.mul_le_mul w1 (by omega)) (by omega)
    omega
  rw [eb]
  refine ⟨fun _ => ?_, fun z => absurd z (nI_nle (by omega) (by omega))⟩
  rw [hR.2.2.1.1, hR.2.2.1.2.2]
  have sb := szA_b (set := s_al A) hV hV.fr
  refine sp_X_packedSize hR hV hV.fr (by omega) hal.2 (fun J a => ⟨?_, ?_⟩)
  · exact vf32_of (rtF_p hV h n0)
  · refine sp_X_floatBits (quo_f (by omega) b3 (by omega)) (finX hR a.px ?_)
    rw [if_pos ⟨h, n0⟩]
    rfl
theorem lX_loud {A : sA} {I : mm_I} {c : Nat} {z : Int32} {Q : mm_S → Prop} (hQ : mm_Qf Q) (hR : RX A I) (hV : VA A) (hc : c < s_ch A) (h0 : s_cn A c ≠ 0)
    (H : ∀ ls, Q (120, ls, [.int (if z = 0 then (((ldF A c).toInt64 >>> ((32 : Int32).toInt64 &&& 63)).toInt32 : Int32) else (ldF A c).toInt64.toInt32)], (mm_lay, I))) : ∀ (r k : Nat), k + r = s_cn A c → mm_W 115 45 [some (.ref 0), some (.int (nI c)), some (.int z), some (.long (lds (s_sm A c) k)), none, some (.int (nI k)), none, none] [] I Q := by
  have hch := hV.ch
  have hcn := hV.cn (c := c) (by omega)
  have vc := vp_in_nI (n := c) (N := 2) (by omega) (by omega)
  have cc : (nI c).toNatClampNeg = c := nI_clamp (by omega)
  have lb := lds_b (x := s_sm A c) hcn (fun i hi => hV.sm hc hi) (s_cn A c) (Nat.le_refl _)
  intro r
  induction r with
  | zero =>
    intro k hk
    have hk : k = s_cn A c := by omega
    subst hk
    refine c_WS_loud_45 hQ _ _ _ _ ?_
    rw [cc, hR.2.1.2.2.2.1 c (by omega)]
    refine ⟨vc, fun _ => ⟨vc, vf64_of (ldF_p hV hc h0), sp_X_doubleBits (quo_d lb.1 (by omega) (by omega)) ?_⟩, fun y => absurd y (nI_nlt (by omega) (by omega))⟩
    rw [hi32]
    exact H _
  | succ r ih =>
    intro k hk
    refine c_WS_loud_45 hQ _ _ _ _ ?_
    rw [cc, hR.2.1.2.2.2.1 c (by omega)]
    refine ⟨vc, fun y => absurd y (nI_ge (by omega) (by omega)), fun _ => sp_X_valueAt hR.2.1 hV (by omega) (by omega) ?_⟩
    rw [nI_1]
    exact ih (k + 1) (by omega)
theorem oX_loud {A : sA} {I : mm_I} {x z : Int32} {Q : mm_S → Prop} (hQ : mm_Qf Q) (hR : RX A I) (hV : VA A)
    (HT : ¬ okL A x z → ∀ ls, Q (32, ls, [], (mm_lay, I)))
    (HR : okL A x z → ∀ ls, Q (120, ls, [.int (oLoud A x z).1], (mm_lay, I))) : mm_W 115 0 (mm_ent (mm_mL 115) [.ref 0, .int x, .int z]) [] I Q := by
  have hch := hV.ch
  refine e_WS_loud hQ x z (sp_X_has hch hR.2.1.1 ⟨fun h => HT (fun w => (b1_0.mp h) w.1) _, fun h => ⟨fun h2 => HT (fun w => absurd h2 (fa_nlt w.2.1.1)) _, fun h2 => ⟨fun h3 => HT (fun w => absurd h3 (fa_nlt w.2.1.2)) _, fun h3 => ?_⟩⟩⟩)
  have h := b1_n h
  have h0 := h
  obtain ⟨c, hc, rfl⟩ := (nch hch x).mp h
  have hcn := hV.cn (c := c) (by omega)
  have cc : (nI c).toNatClampNeg = c := nI_clamp (by omega)
  rw [cc, hR.2.1.2.2.2.1 c (by omega)]
  refine ⟨vp_in_nI (by omega) (by omega), fun h4 => ?_, fun h4 => HT (fun w => ?_) _⟩
  · have n0 : s_cn A c ≠ 0 := fun w => by
      rw [w] at h4
      exact absurd h4 (by decide)
    have ok : okL A (nI c) z := ⟨h0, ⟨h2, h3⟩, by rw [cc]; exact n0⟩
    refine lX_loud hQ hR hV hc n0 (fun ls => ?_) (s_cn A c) 0 (by omega)
    have := HR ok ls
    unfold oLoud at this
    rw [if_pos ok, cc] at this
    exact this
  · have n0 := w.2.2
    rw [cc] at n0
    exact absurd h4 (nI_nle (by omega) (by omega))
