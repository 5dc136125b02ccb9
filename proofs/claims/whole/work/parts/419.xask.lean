/-! the class: what a frame would be -/
theorem finX {A : sA} {I J : mm_I} {v r : Int32} (hR : RX A I) (f : sm F_xs I J) (e : r = v) : oR (v, A) RX FX I r J := ⟨e, hR.xs f, f.xFX⟩
theorem finX0 {A : sA} {I : mm_I} {v r : Int32} (hR : RX A I) (e : r = v) : oR (v, A) RX FX I r I := finX hR sm.rf e
theorem sp_X_hasFrame {P : Int32 → mm_I → Prop} {A : sA} {I : mm_I} {x : Int32} (hR : RX A I) (hV : VA A) (H : P (b1 (okF A x)) I) : mm_Mi 87 [.ref 0, .int x] I P := by
  have hf := hV.fr
  have n16 := nfr_le hV
  refine e_WS_hasFrame x ⟨fun h => ?_, fun h => ?_⟩
  · rw [b1_f (fun z : okF A x => absurd h (fa_nlt z.1))] at H
    exact H
  · rw [hR.2.2.1.1]
    refine sp_X_frames hR.2.1 hV ⟨hf.1, hf.2.1⟩ ?_
    rw [nfs_fr]
    have e : (if nI (nfr A) ≤ x then (0 : Int32) else 1) = b1 (okF A x) := by
      obtain ⟨j, hj, rfl⟩ := nI_of (fa_nlt h)
      by_cases q : nfr A ≤ j
      · rw [if_pos (nI_le q hj), b1_f]
        intro z
        obtain ⟨f, hf, e⟩ := okF_f hV z
        have := (nI_eq hj (by omega)).mp e
        omega
      · rw [if_neg (nI_ge (by omega) (by omega)), b1_t]
        exact (nchN (by omega) _).mpr ⟨j, by omega, rfl⟩
    rw [e]
    exact ⟨b1_01, H⟩
theorem mk_X {P : mm_I → Prop} {A : sA} {I : mm_I} {f : Nat} (hR : RX A I) (hV : VA A) (hf : f < nfr A) (H : ∀ J, PlI A (s_fr A) f (s_al A) J → sm F_pl I J → P J) : mm_Mv 11 [.ref 10, .ref 3, .ref 6, .int (I 0 7), .int (nI f), .int (I 0 8), .int (I 0 9)] I P := by
  have hal := hV.al
  rw [hR.2.2.1.1, hR.2.2.1.2.1, hR.2.2.1.2.2]
  exact sp_X_make hR.2.1 hR.2.2.2.1 hV (nfr_ok hV hf) (by omega) hal.2 H
theorem oX_join {A : sA} {I : mm_I} {x : Int32} (hR : RX A I) (hV : VA A) : mm_Mi 80 [.ref 0, .int x] I (oR (oJoin A x) RX FX I) := by
  refine e_WS_join x (sp_X_hasFrame hR hV ⟨fun h => ?_, fun h => finX0 hR (by rw [if_neg (b1_0.mp h)])⟩)
  have h := b1_n h
  have h0 := h
  obtain ⟨f, hf, rfl⟩ := okF_f hV h
  have n16 := nfr_le hV
  refine mk_X hR hV hf (fun J a1 a2 => finX hR a2.px ?_)
  rw [if_pos h0, nI_clamp (by omega), a1.2]
theorem oX_joined {A : sA} {I : mm_I} {x y : Int32} (hR : RX A I) (hV : VA A) : mm_Mi 81 [.ref 0, .int x, .int y] I (oR (oJoined A x y) RX FX I) := by
  have hch := hV.ch
  have n16 := nfr_le hV
  have go : ∀ j, y = nI j → jOk A j → (0 ≤ y ∧ y ≤ (if s_ch A = 2 then (3 : Int32) else 0)) → mm_Mi 87 [.ref 0, .int x] I (fun r26 I26 => (¬ r26 = 0 → mm_Mv 11 [.ref 10, .ref 3, .ref 6, .int (I26 0 7), .int x, .int (I26 0 8), .int (I26 0 9)] I26 (fun I59 => mm_Mi 16 [.ref 10, .int y] I59 (fun r67 I67 => oR (oJoined A x y) RX FX I r67 I67))) ∧ (r26 = 0 → oR (oJoined A x y) RX FX I (-1) I26)) := fun j ej hj hy => by
    refine sp_X_hasFrame hR hV ⟨fun h => ?_, fun h => finX0 hR (by rw [if_neg (fun z => (b1_0.mp h) z.1)])⟩
    have h := b1_n h
    have h0 := h
    obtain ⟨f, hf, rfl⟩ := okF_f hV h
    refine mk_X hR hV hf (fun J a1 a2 => ?_)
    rw [ej] at hy ⊢
    refine sp_X_rowBits a1.1 hj (finX hR a2.px ?_)
    rw [if_pos ⟨h0, hy⟩, nI_clamp (by omega), nI_clamp (by omega)]
  have no : ¬ (0 ≤ y ∧ y ≤ (if s_ch A = 2 then (3 : Int32) else 0)) → oR (oJoined A x y) RX FX I (-1) I := fun h => finX0 hR (by rw [if_neg (fun z => h z.2)])
  refine e_WS_joined x y ⟨fun h => no (fun z => absurd h (fa_nlt z.1)), fun h => ⟨fun h2 => no (fun z => ?_), fun h2 => ⟨fun h3 => ?_, fun h3 => ?_⟩⟩⟩
  · have z2 := z.2
    rw [le_I] at h2 z2
    have h2 : 4 ≤ y.toInt := h2
    by_cases q : s_ch A = 2
    · rw [if_pos q] at z2
      have z2 : y.toInt ≤ 3 := z2
      omega
    · rw [if_neg q] at z2
      have z2 : y.toInt ≤ 0 := z2
      omega
  · have y0 : y = 0 := by
      rw [le_I] at h h3
      have h : 0 ≤ y.toInt := h
      have h3 : y.toInt ≤ 0 := h3
      exact tI_ext (by show y.toInt = 0; omega)
    refine go 0 y0 (Or.inl rfl) ⟨h, ?_⟩
    rw [y0]
    split <;> decide
  · rw [hR.2.1.1]
    refine ⟨fun h4 => no (fun z => ?_), fun h4 => ?_⟩
    · have h4 := (nI_ltI (b := 2) (by omega) (by omega)).mp h4
      have z2 := z.2
      rw [if_neg (by omega)] at z2
      exact absurd h3 (fa_nlt z2)
    · have h4 := (nI_leI (a := 2) (by omega) (by omega)).mp h4
      have c2 : s_ch A = 2 := by omega
      obtain ⟨j, hj, rfl⟩ := nI_of (fa_nlt h)
      have h2 := (nI_ltI (b := 4) hj (by omega)).mp h2
      refine go j rfl (Or.inr ⟨h2, c2⟩) ⟨h, ?_⟩
      rw [if_pos c2]
      exact nI_le (b := 3) (by omega) (by omega)
theorem sp_X_plannedRow {P : Option Nat → mm_I → Prop} {A : sA} {I : mm_I} {x y : Int32} (hR : RX A I) (hV : VA A) (H0 : ¬ okR A x y → P none I)
    (H1 : ∀ f r J, x = nI f → f < nfr A → y = nI r → r < s_ch A → PlI A (s_fr A) f (s_al A) J → sm F_pl I J → P (some (22 + 6 * qSo A f r)) J) : mm_Mr 88 [.ref 0, .int x, .int y] I P := by
  have hch := hV.ch
  refine e_WS_plannedRow x y ⟨fun h => H0 (fun z => absurd h (fa_nlt z.2.1)), fun h => ?_⟩
  obtain ⟨r, hr, rfl⟩ := nI_of (fa_nlt h)
  rw [hR.2.1.1]
  refine ⟨fun h2 => H0 (fun z => ?_), fun h2 => ?_⟩
  · have h2 := (nI_leI (by omega) hr).mp h2
    obtain ⟨d, hd, e⟩ := (nch hch _).mp z.2
    have := (nI_eq hr (by omega)).mp e
    omega
  · have h2 := (nI_ltI hr (by omega)).mp h2
    refine sp_X_hasFrame hR hV ⟨fun h3 => ?_, fun h3 => H0 (fun z => (b1_0.mp h3) z.1)⟩
    obtain ⟨f, hf, rfl⟩ := okF_f hV (b1_n h3)
    refine mk_X hR hV hf (fun J a1 a2 => ?_)
    have k := H1 f r J rfl hf rfl h2 a1 a2
    have jo := jOf_ok A (s_fr A) f (s_al A)
    have j4 : jOf A (s_fr A) f (s_al A) < 4 := by omega
    rw [a1.2]
    refine ⟨fun z => ?_, fun z => ?_⟩
    · have r1 : r = 1 := by
        have : r ≠ 0 := fun w => z (by rw [w]; rfl)
        omega
      subst r1
      exact sp_X_secondRow j4 ⟨_, rfl, rwS (soF_lt _ _), k⟩
    · have r0 : r = 0 := (nI_eq (b := 0) hr (by omega)).mp z
      subst r0
      exact sp_X_firstRow j4 ⟨_, rfl, rwS (soF_lt _ _), k⟩
theorem pl_row {A : sA} {f r : Nat} {I : mm_I} (hV : VA A) (hr : r < s_ch A) (h : PlI A (s_fr A) f (s_al A) I) : RoX (22 + 6 * qSo A f r) (s_wt A) (s_sh A) (qX A f r) (qN A f) (qB A f r) (s_ef A) (s_al A) I := h.1.1 _ (soF_ok hV hr)
theorem oX_row {A : sA} {I : mm_I} {x y z : Int32} (hR : RX A I) (hV : VA A) : mm_Mi 82 [.ref 0, .int x, .int y, .int z] I (oR (oRow A x y z) RX FX I) := by
  have n16 := nfr_le hV
  have hch := hV.ch
  refine e_WS_row x y z (sp_X_plannedRow hR hV (fun h => ⟨fun _ => finX0 hR (by rw [if_neg (fun w => h w.1)]), fun a e => (by cases e)⟩) (fun f r J e1 hf e2 hr a1 a2 => ⟨fun e => (by cases e), fun a e => ?_⟩))
  have ea := Option.some.inj e
  subst ea
  subst e1
  subst e2
  have ro := pl_row hV hr a1
  have ok := okR_of hV hf hr
  have cf : (nI f).toNatClampNeg = f := nI_clamp (by omega)
  have cr : (nI r).toNatClampNeg = r := nI_clamp (by omega)
  have fin : ∀ v, (0 ≤ z ∧ z ≤ 2) → v = (if z = 0 then nI (qH A f r) else if z = 1 then nI (qBi A f r) else nI (qC A f r)) → oR (oRow A (nI f) (nI r) z) RX FX I v J := fun v hz hv => finX hR a2.px (by rw [cf, cr, if_pos ⟨ok, hz⟩]; exact hv)
  refine ⟨rwS (soF_lt _ _), fun e => fin _ (by rw [e]; decide) ?_, fun e => fin _ (by rw [e]; decide) ?_, fun e => fin _ (by rw [e]; decide) ?_, fun n0 n1 n2 => finX hR a2.px ?_⟩
  · rw [if_pos e]; exact ro.2.1
  · rw [if_neg (by rw [e]; decide), if_pos e]; exact ro.2.2.1
  · rw [if_neg (by rw [e]; decide), if_neg (by rw [e]; decide)]; exact ro.2.2.2.1
  · rw [if_neg]
    rintro ⟨_, hz⟩
    obtain ⟨n, hn, rfl⟩ := btw0 (m := 2) (by omega) hz
    rcases (by omega : n = 0 ∨ n = 1 ∨ n = 2) with rfl | rfl | rfl
    · exact n0 rfl
    · exact n1 rfl
    · exact n2 rfl
theorem oX_run {A : sA} {I : mm_I} {x y i z : Int32} (hR : RX A I) (hV : VA A) : mm_Mi 83 [.ref 0, .int x, .int y, .int i, .int z] I (oR (oRun A x y i z) RX FX I) := by
  have n16 := nfr_le hV
  have hch := hV.ch
  refine e_WS_run x y i z (sp_X_plannedRow hR hV (fun h => ⟨fun _ => finX0 hR (by rw [if_neg (fun w => h w.1)]), fun a e => (by cases e)⟩) (fun f r J e1 hf e2 hr a1 a2 => ⟨fun e => (by cases e), fun a e => ?_⟩))
  have ea := Option.some.inj e
  subst ea
  subst e1
  subst e2
  have ro := pl_row hV hr a1
  have ok := okR_of hV hf hr
  have hF := nfr_ok hV hf
  have nb := o_rn_b hF
  have cf : (nI f).toNatClampNeg = f := nI_clamp (by omega)
  have cr : (nI r).toNatClampNeg = r := nI_clamp (by omega)
  have c8 : qC A f r ≤ 8 := hwC_b nb.2.1
  have no : ¬ ((0 ≤ z ∧ z ≤ 2) ∧ (0 ≤ i ∧ i ≤ nI (qC A f r) - 1)) → oR (oRun A (nI f) (nI r) i z) RX FX I (-1) J := fun h => finX hR a2.px (by rw [cf, cr, if_neg (fun w => h w.2)])
  refine ⟨rwS (soF_lt _ _), fun h => no (fun w => absurd h (fa_nlt w.2.1)), fun h => ?_⟩
  obtain ⟨k, hk, rfl⟩ := nI_of (fa_nlt h)
  rw [ro.2.2.2.1]
  refine ⟨fun h2 => ?_, fun h2 => no (fun w => ?_)⟩
  · have h2 : k < qC A f r := (nI_ltI hk (by have : hwC _ _ _ _ _ _ _ ≤ 8 := c8; omega)).mp h2
    have vk := vp_in_nI (n := k) (N := 8) (by omega) (by omega)
    have okk : (0 : Int32) ≤ nI k ∧ nI k ≤ nI (qC A f r) - 1 := (plc (by omega) _).mpr ⟨k, h2, rfl⟩
    have ck : (nI k).toNatClampNeg = k := nI_clamp (by omega)
    have H8 : qH A f r < 8 := by
      rcases Nat.lt_or_ge (qH A f r) 8 with w | w
      · exact w
      · have : qC A f r = 0 := if_neg (by show ¬ qH A f r < 8; omega)
        omega
    have eC : qC A f r = rCnt (s_ef A) (qE A f r) (qM A f r) := if_pos H8
    have mb := hwM_b (x := qX A f r) (b := qB A f r) (ef := s_ef A) (set := s_al A) hV.wb (o_rx_b hV hF (soF_ok hV hr)) nb.1
    have mb1 : 1 ≤ qM A f r ∧ qM A f r ≤ qN A f := ⟨mb.1, mb.2.1⟩
    have nb2 : qN A f ≤ 64 := nb.2.1
    have rt := (rT_ok (ef := s_ef A) (E := qE A f r) (m := qM A f r) (by omega) mb1.1 mb.2.2).1 k (by omega)
    obtain ⟨g1, g2, g3, _⟩ := ro.2.2.2.2 k h2
    have fin : ∀ v, (0 ≤ z ∧ z ≤ 2) → v = (if z = 0 then nI (rTo (s_ef A) (qE A f r) (qM A f r) k).2 - (if nI k = 0 then 0 else nI (rTo (s_ef A) (qE A f r) (qM A f r) (k - 1)).2) else if z = 1 then nI (rPa (s_ef A) (qE A f r) (qM A f r) k) else nI (rBt (s_ef A) (qE A f r) (qM A f r) k)) → oR (oRun A (nI f) (nI r) (nI k) z) RX FX I v J := fun v hz hv => finX hR a2.px (by rw [cf, cr, ck, if_pos ⟨ok, hz, okk⟩]; exact hv)
    rw [ck]
    refine ⟨fun e => ⟨vk, fin _ (by rw [e]; decide) ?_⟩, fun e => ⟨vk, fin _ (by rw [e]; decide) ?_⟩, fun e => ⟨vk, fin _ (by rw [e]; decide) ?_⟩, fun n0 n1 n2 => no (fun w => ?_)⟩
    · rw [if_pos e, g1]
      show nI ((rTo (s_ef A) (qE A f r) (qM A f r) k).2 - (rTo (s_ef A) (qE A f r) (qM A f r) k).1) = _
      rw [rt.2.2.1]
      by_cases q : k = 0
      · have q2 : nI k = 0 := by rw [q]; rfl
        rw [if_pos q, if_pos q2, Nat.sub_zero]
        exact (Int32.sub_zero _).symm
      · have q2 : ¬ nI k = 0 := nI_ne0 (by omega) (by omega)
        have l := rt.1
        rw [rt.2.2.1, if_neg q] at l
        rw [if_neg q, if_neg q2, pk_sub (by omega)]
    · rw [if_neg (by rw [e]; decide), if_pos e]; exact g2
    · rw [if_neg (by rw [e]; decide), if_neg (by rw [e]; decide)]; exact g3
    · obtain ⟨n, hn, rfl⟩ := btw0 (m := 2) (by omega) w.1
      rcases (by omega : n = 0 ∨ n = 1 ∨ n = 2) with rfl | rfl | rfl
      · exact n0 rfl
      · exact n1 rfl
      · exact n2 rfl
  · have h2 : qC A f r ≤ k := (nI_leI (by have : hwC _ _ _ _ _ _ _ ≤ 8 := c8; omega) hk).mp h2
    obtain ⟨d, hd, e⟩ := (plc (by omega) _).mp w.2
    have := (nI_eq hk (by omega)).mp e
    omega
abbrev okT (A : sA) (f : Nat) (z : Int32) : Prop := (0 ≤ z ∧ z ≤ 7) ∧ o_od (s_wt A) z.toNatClampNeg < qN A f
theorem sp_X_canTry {P : Int32 → mm_I → Prop} {A : sA} {I : mm_I} {rr f : Nat} {z : Int32} (hr : rwX rr) (hq : RXq 6 (s_wt A) (s_sh A) I) (h1 : I rr 1 = nI (qN A f)) (hn : qN A f ≤ 64) (H : P (b1 (okT A f z)) I) : mm_Mi 89 [.ref 0, .ref rr, .int z] I P := by
  have l87 : ∀ j, j < 2147483648 → z = nI j → ((8 : Int32) ≤ z ↔ ¬ (0 ≤ z ∧ z ≤ 7)) := fun j hj e => by
    subst e
    have a := nI_leI (a := 8) (b := j) (by omega) hj
    have b := nI_leI (a := j) (b := 7) hj (by omega)
    constructor
    · intro y w
      have := a.mp y
      have := b.mp w.2
      omega
    · intro y
      refine a.mpr ?_
      rcases Nat.lt_or_ge j 8 with w | w
      · exact absurd ⟨nI_pos' hj, b.mpr (by omega)⟩ y
      · exact w
  have e : (if z < 0 then (0 : Int32) else (if 8 ≤ z then (0 : Int32) else (if (I rr 1) ≤ (I 8 z.toNatClampNeg) then (0 : Int32) else 1))) = b1 (okT A f z) := by
    by_cases q : z < 0
    · rw [if_pos q, b1_f (fun w => absurd q (fa_nlt w.1.1))]
    · rw [if_neg q]
      obtain ⟨p, hp, rfl⟩ := nI_of q
      have lk := l87 p hp rfl
      by_cases q2 : (8 : Int32) ≤ nI p
      · rw [if_pos q2, b1_f (fun w => (lk.mp q2) w.1)]
      · rw [if_neg q2]
        have p8 : p < 8 := by
          rcases Nat.lt_or_ge p 8 with w | w
          · exact w
          · exact absurd (nI_le (a := 8) w hp) q2
        have o4 := o_od_le (s_wt A) p
        have cp : (nI p).toNatClampNeg = p := nI_clamp (by omega)
        have ok7 : (0 : Int32) ≤ nI p ∧ nI p ≤ 7 := ⟨nI_pos' hp, nI_le (b := 7) (by omega) (by omega)⟩
        have e8 : I 8 (nI p).toNatClampNeg = nI (o_od (s_wt A) p) := by rw [cp]; exact hq.2.2.1 p p8
        rw [e8, h1]
        by_cases q3 : qN A f ≤ o_od (s_wt A) p
        · rw [if_pos (nI_le q3 (by omega)), b1_f (fun w => by have := w.2; rw [cp] at this; omega)]
        · rw [if_neg (nI_ge (by omega) (by have : o_rn A (s_fr A) f ≤ 64 := hn; omega)), b1_t (⟨ok7, by rw [cp]; omega⟩ : okT A f (nI p))]
  refine e_WS_canTry hr z ?_
  rw [e]
  refine ⟨fun a => ⟨fun b => ⟨?_, trivial⟩, trivial⟩, b1_01, H⟩
  obtain ⟨p, hp, rfl⟩ := nI_of (fa_nlt a)
  exact vp_in_nI ((nI_ltI (b := 8) hp (by omega)).mp b) (by omega)
/-- the residuals of a row by a predictor, loaded -/
theorem ld_X {P : mm_I → Prop} {A : sA} {J : mm_I} {f r p : Nat} (hR : RX A J) (hV : VA A) (hf : f < nfr A) (hr : r < s_ch A) (a1 : PlI A (s_fr A) f (s_al A) J) (hp : p < 8) (ho : o_od (s_wt A) p < qN A f)
    (H : EB (o_er (s_wt A) (s_sh A) (qX A f r) p) (qN A f - o_od (s_wt A) p) → ∀ K, CtI (o_er (s_wt A) (s_sh A) (qX A f r) p) (qN A f - o_od (s_wt A) p) K → sm F_ct J K → P K) : mm_Mv 2 [.ref 11, .ref (22 + 6 * qSo A f r), .ref 6, .int (nI p)] J P := by
  have hF := nfr_ok hV hf
  have hB := er_b (x := qX A f r) (p := p) (n := qN A f) hV.wb (o_rx_b hV hF (soF_ok hV hr)) hp (by omega)
  exact sp_X_load (rwS (soF_lt _ _)) hp hR.2.2.2.1 (pl_row hV hr a1).1 (by omega) hB (H hB)
theorem sm.cx {I J : mm_I} (f : sm F_ct I J) : sm F_xs I J := f.le (fun a j h => by
  refine F_ct_f ?_
  rcases Nat.lt_or_ge a 11 with y | y
  · exact Or.inl y
  · rcases Nat.lt_or_ge 21 a with z | z
    · exact Or.inr z
    · exfalso
      unfold F_xs at h
      rw [Nat.ble_eq_true_of_le (show 10 ≤ a by omega), Nat.ble_eq_true_of_le (show a ≤ 46 by omega)] at h
      simp only [Bool.and_self, Bool.true_or] at h
      cases h)
theorem oX_tried {A : sA} {I : mm_I} {x y z : Int32} (hR : RX A I) (hV : VA A) : mm_Mi 85 [.ref 0, .int x, .int y, .int z] I (oR (oTried A x y z) RX FX I) := by
  have n16 := nfr_le hV
  have hch := hV.ch
  refine e_WS_tried x y z (sp_X_plannedRow hR hV (fun h => ⟨fun _ => finX0 hR (by rw [if_neg (fun w => h w.1)]), fun a e => (by cases e)⟩) (fun f r J e1 hf e2 hr a1 a2 => ⟨fun e => (by cases e), fun a e => ?_⟩))
  have ea := Option.some.inj e
  subst ea
  subst e1
  subst e2
  have ro := pl_row hV hr a1
  have ok := okR_of hV hf hr
  have nb := o_rn_b (nfr_ok hV hf)
  have cf : (nI f).toNatClampNeg = f := nI_clamp (by omega)
  have cr : (nI r).toNatClampNeg = r := nI_clamp (by omega)
  have RJ := hR.xs a2.px
  refine ⟨rwS (soF_lt _ _), sp_X_canTry (rwS (soF_lt _ _)) RJ.2.2.2.1 ro.1.2.1 nb.2.1 ⟨fun h => ?_, fun h => finX hR a2.px (by rw [cf, cr, if_neg (fun w => (b1_0.mp h) w.2)])⟩⟩
  have h := b1_n h
  have h0 := h
  obtain ⟨p, hp, rfl⟩ := btw0 (m := 7) (by omega) h.1
  have cp : (nI p).toNatClampNeg = p := nI_clamp (by omega)
  have ho := h.2
  rw [cp] at ho
  refine ld_X RJ hV hf hr a1 (by omega) ho (fun hB K b1 b2 => ⟨vp_in_nI (by omega) (by omega), ?_⟩)
  have RK := RJ.xs b2.cx
  have X4 := RwX_ct ro.1 (rwS (soF_lt _ _)) b2
  rw [cp, RK.2.2.2.1.2.2.1 p (by omega)]
  refine sp_X_firstBits (rwS (soF_lt _ _)) X4.2.2.1 ?_
  rw [RK.2.2.1.2.1]
  refine cut_X hV.ef b1 hB (by omega) (fun L _ _ d3 => finX hR (sm.tq (sm.tq a2.px b2.cx) d3.cx) ?_)
  rw [cf, cr, cp]
  rw [if_pos (⟨ok, h0.1, ho⟩ : okR A (nI f) (nI r) ∧ (0 ≤ nI p ∧ nI p ≤ 7) ∧ o_od (s_wt A) p < qN A f)]
  exact nI_add _ _
theorem oX_mean {A : sA} {I : mm_I} {x y z : Int32} (hR : RX A I) (hV : VA A) : mm_Mi 86 [.ref 0, .int x, .int y, .int z] I (oR (oMean A x y z) RX FX I) := by
  have n16 := nfr_le hV
  have hch := hV.ch
  refine e_WS_mean x y z (sp_X_plannedRow hR hV (fun h => ⟨fun _ => finX0 hR (by rw [if_neg (fun w => h w.1)]), fun a e => (by cases e)⟩) (fun f r J e1 hf e2 hr a1 a2 => ⟨fun e => (by cases e), fun a e => ?_⟩))
  have ea := Option.some.inj e
  subst ea
  subst e1
  subst e2
  have ro := pl_row hV hr a1
  have ok := okR_of hV hf hr
  have nb := o_rn_b (nfr_ok hV hf)
  have cf : (nI f).toNatClampNeg = f := nI_clamp (by omega)
  have cr : (nI r).toNatClampNeg = r := nI_clamp (by omega)
  have RJ := hR.xs a2.px
  refine ⟨rwS (soF_lt _ _), sp_X_canTry (rwS (soF_lt _ _)) RJ.2.2.2.1 ro.1.2.1 nb.2.1 ⟨fun h => ?_, fun h => finX hR a2.px (by rw [cf, cr, if_neg (fun w => (b1_0.mp h) w.2)])⟩⟩
  have h := b1_n h
  have h0 := h
  obtain ⟨p, hp, rfl⟩ := btw0 (m := 7) (by omega) h.1
  have cp : (nI p).toNatClampNeg = p := nI_clamp (by omega)
  have ho := h.2
  rw [cp] at ho
  refine ld_X RJ hV hf hr a1 (by omega) ho (fun hB K b1 b2 => ?_)
  have hm := b1.1
  have sb := szs_b hB _ (Nat.le_refl _)
  refine sp_X_meanSize b1 hB (by omega) (sp_X_floatBits (quo_f (by omega) (by omega) (by omega)) (finX hR (sm.tq a2.px b2.cx) ?_))
  rw [cf, cr, cp]
  rw [if_pos (⟨ok, h0.1, ho⟩ : okR A (nI f) (nI r) ∧ (0 ≤ nI p ∧ nI p ≤ 7) ∧ o_od (s_wt A) p < qN A f)]
theorem oX_resid {A : sA} {I : mm_I} {x y z i : Int32} {Q : mm_S → Prop} (hQ : mm_Qf Q) (hR : RX A I) (hV : VA A)
    (HT : ¬ okX A x y z i → ∀ ls J, sm F_xs I J → Q (38, ls, [], (mm_lay, J)))
    (HR : okX A x y z i → ∀ pc ls J, pc = 72 ∨ pc = 91 → sm F_xs I J → Q (pc, ls, [.int (oResid A x y z i).1], (mm_lay, J))) : mm_W 84 0 (mm_ent (mm_mL 84) [.ref 0, .int x, .int y, .int z, .int i]) [] I Q := by
  have n16 := nfr_le hV
  have hch := hV.ch
  refine e_WS_residual hQ x y z i (sp_X_plannedRow hR hV (fun h => ⟨fun _ => HT (fun w => h w.1) _ _ sm.rf, fun a e => (by cases e)⟩) (fun f r J e1 hf e2 hr a1 a2 => ⟨fun e => (by cases e), fun a e => ?_⟩))
  have ea := Option.some.inj e
  subst ea
  subst e1
  subst e2
  have ro := pl_row hV hr a1
  have ok := okR_of hV hf hr
  have nb := o_rn_b (nfr_ok hV hf)
  have nb2 : qN A f ≤ 64 := nb.2.1
  have cf : (nI f).toNatClampNeg = f := nI_clamp (by omega)
  have cr : (nI r).toNatClampNeg = r := nI_clamp (by omega)
  have RJ := hR.xs a2.px
  have no : ¬ (okT A f z ∧ (0 ≤ i ∧ i ≤ nI (qN A f) - 1)) → ∀ ls, Q (38, ls, [], (mm_lay, J)) := fun h ls => HT (fun w => by
    have w2 := w.2
    rw [cf] at w2
    exact h ⟨⟨w2.1, w2.2.1⟩, w2.2.2⟩) ls J a2.px
  refine ⟨rwS (soF_lt _ _), sp_X_canTry (rwS (soF_lt _ _)) RJ.2.2.2.1 ro.1.2.1 nb.2.1 ⟨fun h => no (fun w => (b1_0.mp h) w.1) _, fun h => ⟨fun h2 => no (fun w => absurd h2 (fa_nlt w.2.1)) _, fun h2 => ?_⟩⟩⟩
  have h := b1_n h
  have h0 := h
  obtain ⟨p, hp, rfl⟩ := btw0 (m := 7) (by omega) h.1
  have cp : (nI p).toNatClampNeg = p := nI_clamp (by omega)
  have ho := h.2
  rw [cp] at ho
  obtain ⟨k, hk, rfl⟩ := nI_of (fa_nlt h2)
  have o4 := o_od_le (s_wt A) p
  rw [ro.1.2.1]
  refine ⟨fun h3 => ?_, fun h3 => no (fun w => ?_) _⟩
  · have h3 : k < qN A f := (nI_ltI hk (by have : o_rn A (s_fr A) f ≤ 64 := nb2; omega)).mp h3
    have ck : (nI k).toNatClampNeg = k := nI_clamp (by omega)
    have okk : (0 : Int32) ≤ nI k ∧ nI k ≤ nI (qN A f) - 1 := (plc (by omega) _).mpr ⟨k, h3, rfl⟩
    have okx : okX A (nI f) (nI r) (nI p) (nI k) := ⟨ok, h0.1, by rw [cf, cp]; exact ho, by rw [cf]; exact okk⟩
    have ev : (oResid A (nI f) (nI r) (nI p) (nI k)).1 = if k < o_od (s_wt A) p then qX A f r k else qX A f r k - o_gu (s_wt A) (s_sh A) (qX A f r) k p := by
      unfold oResid
      rw [if_pos okx, cf, cr, cp, ck]
    rw [cp, ck, RJ.2.2.2.1.2.2.1 p (by omega), ro.1.2.2.2 k h3]
    refine ⟨vp_in_nI (by omega) (by omega), vp_in_nI (by omega) (by omega), fun h4 => ?_, fun h4 => ?_⟩
    · have h4 := (nI_leI (by omega) hk).mp h4
      refine sp_X_guess (rwX_g (rwS (soF_lt _ _))) (by omega) h4 (by omega) RJ.2.2.2.1 (fun j hj => ro.1.2.2.2 j (by have : o_rn A (s_fr A) f = qN A f := rfl; omega)) ?_
      have := HR okx 91 [some (.ref 0), some (.int (nI f)), some (.int (nI r)), some (.int (nI p)), some (.int (nI k)), some (.ref (22 + 6 * qSo A f r)), some (.int (qX A f r k))] J (Or.inr rfl) a2.px
      rw [ev, if_neg (by omega)] at this
      exact this
    · have h4 := (nI_ltI hk (by omega)).mp h4
      have := HR okx 72 [some (.ref 0), some (.int (nI f)), some (.int (nI r)), some (.int (nI p)), some (.int (nI k)), some (.ref (22 + 6 * qSo A f r)), some (.int (qX A f r k))] J (Or.inl rfl) a2.px
      rw [ev, if_pos h4] at this
      exact this
  · have h3 : qN A f ≤ k := (nI_leI (by have : o_rn A (s_fr A) f ≤ 64 := nb2; omega) hk).mp h3
    obtain ⟨d, hd, e⟩ := (plc (by omega) _).mp w.2
    have := (nI_eq hk (by omega)).mp e
    omega
