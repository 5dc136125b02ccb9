/-! the class: rows and frames written, pack -/
def F_xw (a j : Nat) : Bool := F_wx a j || F_ct a j
theorem F_xw_p {a j : Nat} (h : F_xw a j = false) : F_wx a j = false ∧ F_ct a j = false := by
  unfold F_xw at h
  rw [Bool.or_eq_false_iff] at h
  exact h
theorem sm.xw {I J : mm_I} (f : sm F_wx I J) : sm F_xw I J := f.le (fun _ _ h => (F_xw_p h).1)
theorem sm.xc {I J : mm_I} (f : sm F_ct I J) : sm F_xw I J := f.le (fun _ _ h => (F_xw_p h).2)
theorem F_xw_f {a j : Nat} (h : a < 11 ∨ (21 < a ∧ a < 47) ∨ 48 < a) : F_xw a j = false := by
  unfold F_xw F_wx
  rw [F_ct_f (by omega), mm_beq_f (show ¬ a = 48 by omega), mm_beq_f (show ¬ a = 47 by omega)]
  rfl
theorem CtI_wx {E : Nat → Int32} {m : Nat} {I J : mm_I} (h : CtI E m I) (f : sm F_wx I J) : CtI E m J := ⟨h.1, (f 11 1 rfl).trans h.2.1, (f 11 2 rfl).trans h.2.2.1, (f 11 3 rfl).trans h.2.2.2.1, fun i hi => (f 12 i rfl).trans (h.2.2.2.2 i hi)⟩
theorem isB_m {E : Nat → Int32} {p w i0 : Nat} : ∀ j k, isB E p w i0 k ≤ isB E p w i0 (k + j) := by
  intro j
  induction j with
  | zero => intro k; exact Nat.le_refl _
  | succ j ih =>
    intro k
    have a := ih k
    have b := isB_s (E := E) (p := p) (w := w) (i0 := i0) (k := k + j)
    show _ ≤ isB E p w i0 (k + j + 1)
    omega
theorem lX_fixed {P : mm_I → Prop} {E : Nat → Int32} {m i0 n w : Nat} {W0 : wS} {I : mm_I} (hE : CtI E m I) (hn : i0 + n ≤ m) (hw : w ≤ 24) (hO0 : wOk W0) (hc : wps W0 + isB E 14 w i0 n ≤ 32000)
    (H : ∀ J, WxI (w_its E 14 w i0 n W0) J → sm F_wx I J → P J) : ∀ (r k : Nat) (J : mm_I), k + r = n → WxI (w_its E 14 w i0 k W0) J → sm F_wx I J → mm_W 100 3 [some (.ref 0), none, some (.int (nI (i0 + n))), some (.int (nI w)), some (.int (nI (i0 + k)))] [] J (mm_qv 100 P) := by
  have hm := hE.1
  intro r
  induction r with
  | zero =>
    intro k J hk hW hsm
    have hk : k = n := by omega
    subst hk
    exact c_WS_writeFixed_3 _ _ _ ⟨fun _ => H J hW hsm, fun z => absurd z (nI_nlt (by omega) (by omega))⟩
  | succ r ih =>
    intro k J hk hW hsm
    have ok := wps_its (E := E) (p := 14) (w := w) (i0 := i0) k W0 hO0
    have b1 := isB_s (E := E) (p := 14) (w := w) (i0 := i0) (k := k)
    have b2 := isB_m (E := E) (p := 14) (w := w) (i0 := i0) r (k + 1)
    rw [show k + 1 + r = n by omega] at b2
    have b3 : itB E 14 w (i0 + k) = w := if_pos rfl
    have ew : w_its E 14 w i0 (k + 1) W0 = w_bs (E (i0 + k)) w (w_its E 14 w i0 k W0) := by
      show w_it E 14 w (i0 + k) _ = _
      unfold w_it
      rw [if_pos rfl]
    refine c_WS_writeFixed_3 _ _ _ ⟨fun z => absurd z (nI_ge (by omega) (by omega)), fun _ => ⟨vp_in_nI (by omega) (by omega), ?_⟩⟩
    rw [nI_clamp (n := i0 + k) (by omega), (CtI_wx hE hsm).2.2.2.2 _ (by omega), nI_1]
    refine sp_X_putBits (by omega) hW ok.1 (by omega) (fun K a1 a2 => ih (k + 1) K (by omega) (by rw [ew]; exact a1) (sm.tq hsm a2))
theorem lX_split33 {P : mm_I → Prop} {E : Nat → Int32} {m p i to : Nat} (hB : EB E m) (hi : i < m) (hp : p < 14) : ∀ (r k : Nat) (W : wS) (I : mm_I), k + r = fo (E i) / 2 ^ p → WxI W I → wOk W → wps W + r + 1 + p ≤ 32000 → (∀ J, WxI (w_bs (nI (fo (E i))) p (w_bs 1 1 (w_zs r W))) J → sm F_wx I J → mm_W 101 3 [some (.ref 0), none, some (.int (nI to)), some (.int (nI p)), some (.int (nI (i + 1))), none, none, none] [] J (mm_qv 101 P)) → mm_W 101 33 [some (.ref 0), none, some (.int (nI to)), some (.int (nI p)), some (.int (nI i)), some (.int (nI (fo (E i)))), some (.int (nI (fo (E i) / 2 ^ p))), some (.int (nI k))] [] I (mm_qv 101 P) := by
  have fl := fo_lt (hB i hi).1 (hB i hi).2
  have dl : fo (E i) / 2 ^ p ≤ fo (E i) := Nat.div_le_self _ _
  intro r
  induction r with
  | zero =>
    intro k W I hk hW hO hc H
    refine c_WS_writeSplit_33 _ _ _ _ _ _ ⟨fun _ => ?_, fun z => absurd z (nI_nlt (by omega) (by omega))⟩
    refine sp_X_putBits (k := 1) (by omega) hW hO (by omega) (fun J a1 a2 => ?_)
    have o1 := wps_bs (v := 1) 1 W hO
    refine sp_X_putBits (by omega) a1 o1.1 (by omega) (fun K b1 b2 => ?_)
    rw [nI_1]
    exact H K b1 (sm.tq a2 b2)
  | succ r ih =>
    intro k W I hk hW hO hc H
    refine c_WS_writeSplit_33 _ _ _ _ _ _ ⟨fun z => absurd z (nI_ge (by omega) (by omega)), fun _ => ?_⟩
    refine sp_X_putBits (k := 1) (by omega) hW hO (by omega) (fun J a1 a2 => ?_)
    have o1 := wps_bs (v := 0) 1 W hO
    rw [nI_1]
    exact ih (k + 1) _ J (by omega) a1 o1.1 (by omega) (fun K b1 b2 => H K b1 (sm.tq a2 b2))
theorem lX_split {P : mm_I → Prop} {E : Nat → Int32} {m p i0 n w : Nat} {W0 : wS} {I : mm_I} (hE : CtI E m I) (hB : EB E m) (hn : i0 + n ≤ m) (hp : p < 14) (hO0 : wOk W0) (hc : wps W0 + isB E p w i0 n ≤ 32000)
    (H : ∀ J, WxI (w_its E p w i0 n W0) J → sm F_wx I J → P J) : ∀ (r k : Nat) (J : mm_I), k + r = n → WxI (w_its E p w i0 k W0) J → sm F_wx I J → mm_W 101 3 [some (.ref 0), none, some (.int (nI (i0 + n))), some (.int (nI p)), some (.int (nI (i0 + k))), none, none, none] [] J (mm_qv 101 P) := by
  have hm := hE.1
  intro r
  induction r with
  | zero =>
    intro k J hk hW hsm
    have hk : k = n := by omega
    subst hk
    exact c_WS_writeSplit_3 _ _ _ ⟨fun _ => H J hW hsm, fun z => absurd z (nI_nlt (by omega) (by omega))⟩
  | succ r ih =>
    intro k J hk hW hsm
    have ok := wps_its (E := E) (p := p) (w := w) (i0 := i0) k W0 hO0
    have b1 := isB_s (E := E) (p := p) (w := w) (i0 := i0) (k := k)
    have b2 := isB_m (E := E) (p := p) (w := w) (i0 := i0) r (k + 1)
    rw [show k + 1 + r = n by omega] at b2
    have b3 : itB E p w (i0 + k) = fo (E (i0 + k)) / 2 ^ p + 1 + p := if_neg (by omega)
    have ew : w_its E p w i0 (k + 1) W0 = w_bs (nI (fo (E (i0 + k)))) p (w_bs 1 1 (w_zs (fo (E (i0 + k)) / 2 ^ p) (w_its E p w i0 k W0))) := by
      show w_it E p w (i0 + k) _ = _
      unfold w_it
      rw [if_neg (by omega)]
    have bb := hB (i0 + k) (by omega)
    have fl := fo_lt bb.1 bb.2
    refine c_WS_writeSplit_3 _ _ _ ⟨fun z => absurd z (nI_ge (by omega) (by omega)), fun _ => ⟨vp_in_nI (by omega) (by omega), ?_⟩⟩
    rw [nI_clamp (n := i0 + k) (by omega), (CtI_wx hE hsm).2.2.2.2 _ (by omega)]
    refine sp_X_unsigned bb.1 bb.2 ?_
    rw [shrp (by omega) (by omega)]
    exact lX_split33 hB (show i0 + k < m by omega) hp (fo (E (i0 + k)) / 2 ^ p) 0 _ J (by omega) hW ok.1 (by omega) (fun K a1 a2 => ih (k + 1) K (by omega) (by rw [ew]; exact a1) (sm.tq hsm a2))
abbrev RnX (rr ef : Nat) (E : Nat → Int32) (m C : Nat) (I : mm_I) : Prop := I rr 5 = nI C ∧ ∀ k, k < C → RkX rr ef E m k I
theorem RnX_wx {rr ef : Nat} {E : Nat → Int32} {m C : Nat} {I J : mm_I} (hr : rwX rr) (h : RnX rr ef E m C I) (f : sm F_xw I J) : RnX rr ef E m C J := by
  have off : ∀ d i, d ≤ 5 → J (rr + d) i = I (rr + d) i := fun d i hd => f _ i (F_xw_f (by omega))
  refine ⟨(off 0 5 (by omega)).trans h.1, fun k hk => ?_⟩
  obtain ⟨a, b, c, d⟩ := h.2 k hk
  exact ⟨(off 2 k (by omega)).trans a, (off 3 k (by omega)).trans b, (off 5 k (by omega)).trans c, fun z => (off 4 k (by omega)).trans (d z)⟩
theorem lX_runs {P : mm_I → Prop} {E : Nat → Int32} {I : mm_I} {rr ef m : Nat} {W : wS} (hr : rwX rr) (hE : CtI E m I) (hB : EB E m) (h1 : 1 ≤ m) (hR : RnX rr ef E m (rCnt ef E m) I) (hO : wOk W) (hc : wps W + suR E m (rTo ef E m) (rPa ef E m) (rCnt ef E m) ≤ 32000)
    (H : ∀ J, WxI (w_rs E m (rTo ef E m) (rPa ef E m) (rCnt ef E m) W) J → sm F_wx I J → P J) : ∀ (r k : Nat) (J : mm_I), k + r = rCnt ef E m → WxI (w_rs E m (rTo ef E m) (rPa ef E m) k W) J → sm F_wx I J → mm_W 99 20 [some (.ref 0), some (.ref rr), some (.int (nI (if k = 0 then 0 else stN m (rTo ef E m (k - 1)).2))), some (.int (nI k)), none, none] [] J (mm_qv 99 P) := by
  have hm := hE.1
  have hGm : Gm m = (m + 7) / 8 := rfl
  have c8 := rCnt_b (ef := ef) (E := E) hm
  have rt := (rT_ok (ef := ef) hm h1 hB).1
  have mono : ∀ j k, suR E m (rTo ef E m) (rPa ef E m) k ≤ suR E m (rTo ef E m) (rPa ef E m) (k + j) := fun j => by
    induction j with
    | zero => intro k; exact Nat.le_refl _
    | succ j ih =>
      intro k
      have := ih k
      show _ ≤ suR E m (rTo ef E m) (rPa ef E m) (k + j) + rnB E m (rPa ef E m (k + j)) (rTo ef E m (k + j)).1 (rTo ef E m (k + j)).2
      omega
  intro r
  induction r with
  | zero =>
    intro k J hk hW hsm
    have hk : k = rCnt ef E m := by omega
    subst hk
    refine c_WS_writeRuns_20 hr _ _ ⟨fun _ => H J hW hsm, fun z => ?_⟩
    rw [(RnX_wx hr hR hsm.xw).1] at z
    exact absurd z (nI_nlt (by omega) (by omega))
  | succ r ih =>
    intro k J hk hW hsm
    obtain ⟨t1, t2, t3, t4, _⟩ := rt k (by omega)
    have ok := wps_rs (E := E) (m := m) (T := rTo ef E m) (pa := rPa ef E m) k W hO
    have ms := mono r (k + 1)
    rw [show k + 1 + r = rCnt ef E m by omega] at ms
    have es : suR E m (rTo ef E m) (rPa ef E m) (k + 1) = suR E m (rTo ef E m) (rPa ef E m) k + rnB E m (rPa ef E m k) (rTo ef E m k).1 (rTo ef E m k).2 := rfl
    have ew : w_rs E m (rTo ef E m) (rPa ef E m) (k + 1) W = w_rn E m (rPa ef E m k) (rTo ef E m k).1 (rTo ef E m k).2 (w_rs E m (rTo ef E m) (rPa ef E m) k W) := rfl
    have RJ := RnX_wx hr hR hsm.xw
    obtain ⟨g1, g2, _, g4⟩ := RJ.2 k (by omega)
    have C := CtI_wx hE hsm
    -- where the run begins
    have eF : (if k = 0 then 0 else stN m (rTo ef E m (k - 1)).2) = 8 * (rTo ef E m k).1 := by
      by_cases q : k = 0
      · rw [if_pos q, t3, if_pos q]
      · rw [if_neg q]
        rw [if_neg q] at t3
        rw [← t3]
        unfold stN
        rw [if_neg (by omega)]
    have nx := fun K h1 h2 => ih (k + 1) K (by omega) h1 h2
    rw [if_neg (show ¬ k + 1 = 0 by omega), show k + 1 - 1 = k by omega, ew] at nx
    rw [eF]
    generalize hf : (rTo ef E m k).1 = f at *
    generalize ht : (rTo ef E m k).2 = t at *
    generalize hpp : rPa ef E m k = p at *
    generalize hWk : w_rs E m (rTo ef E m) (rPa ef E m) k W = Wk at *
    have vk := vp_in_nI (n := k) (N := 8) (by omega) (by omega)
    have ck : (nI k).toNatClampNeg = k := nI_clamp (by omega)
    have eto : (if nI (8 * f) + nI (t - f) * 8 < nI m then (nI (8 * f) + nI (t - f) * 8 : Int32) else nI m) = nI (stN m t) := by
      have e8 : nI (8 * f) + nI (t - f) * 8 = nI (8 * t) := by
        show _ + _ * nI 8 = _
        rw [pk_mul, nI_add]
        congr 1
        omega
      rw [e8]
      unfold stN
      by_cases q : m ≤ 8 * t
      · rw [if_pos q, if_neg (nI_nlt q (by omega))]
      · rw [if_neg q, if_pos (nI_lt (by omega) (by omega))]
    have est : stN m t = 8 * f + rcn m f t := by
      unfold stN rcn
      split <;> omega
    have rc : 8 * f + rcn m f t ≤ m := by
      rw [← est]
      unfold stN
      split <;> omega
    refine c_WS_writeRuns_20 hr _ _ ⟨fun z => ?_, fun _ => ⟨vk, e_Math_min _ _ ⟨vk, vk, ?_⟩⟩⟩
    · rw [RJ.1] at z
      exact absurd z (nI_ge (by omega) (by omega))
    · rw [ck, C.2.1, g1, g2, eto]
      have eg : nI (t - f) - 1 = nI (t - f - 1) := pk_sub (b := 1) (by omega)
      rw [eg, nI_1]
      have r0 := wps_rn0 (p := p) (a := f) (b := t) ok.1
      have o3 := wps_bs (v := nI (t - f - 1)) 3 Wk ok.1
      have bn : wps Wk + rnB E m p f t ≤ 32000 := by omega
      have b7 : 7 ≤ rnB E m p f t := by
        unfold rnB
        split
        · exact Nat.le_refl 7
        · split <;> omega
      refine sp_X_putBits (k := 3) (by omega) hW ok.1 (by omega) (fun J1 a1 a2 => ?_)
      refine sp_X_putBits (k := 4) (by omega) a1 o3.1 (by omega) (fun J2 b1 b2 => ?_)
      have b1 : WxI (w_rn0 p f t Wk) J2 := b1
      have f2 := sm.tq hsm (sm.tq a2 b2)
      have R2 := RnX_wx hr hR f2.xw
      have C2 := CtI_wx hE f2
      by_cases p14 : p = 14
      · have q14 : nI p = 14 := by rw [p14]; rfl
        have gw := (R2.2 k (by omega)).2.2.2
        rw [hpp, hf, ht] at gw
        have gw := gw p14
        have wb := wMx_b (i0 := 8 * f) hB (rcn m f t) rc
        have eB : rnB E m p f t = 12 + wMx E (8 * f) (rcn m f t) * rcn m f t := by
          unfold rnB
          rw [if_neg (by omega), if_pos p14]
        refine ⟨fun z => absurd q14 z, fun _ => ⟨vk, ?_⟩⟩
        rw [gw]
        have o5 := wps_bs (v := nI (wMx E (8 * f) (rcn m f t))) 5 _ r0.1
        refine sp_X_putBits (k := 5) (by omega) b1 r0.1 (by omega) (fun J3 c1 c2 => ⟨vk, ?_⟩)
        have f3 := sm.tq f2 c2
        have gw3 : J3 (rr + 4) k = nI (wMx E (8 * f) (rcn m f t)) := (c2.xw (rr + 4) k (F_xw_f (by omega))).trans gw
        rw [gw3, est]
        refine e_WS_writeFixed _ _ _ (lX_fixed (E := E) (m := m) (i0 := 8 * f) (n := rcn m f t) (CtI_wx hE f3) rc wb.2 o5.1 ?_ (fun J4 d1 d2 => ?_) (rcn m f t) 0 J3 (by omega) c1 sm.rf)
        · have : isB E 14 (wMx E (8 * f) (rcn m f t)) (8 * f) (rcn m f t) = wMx E (8 * f) (rcn m f t) * rcn m f t := if_pos rfl
          omega
        · rw [← est]
          refine nx J4 ?_ (sm.tq f3 d2)
          unfold w_rn
          rw [if_neg (by omega), if_pos p14, p14]
          rw [p14] at d1
          exact d1
      · have q14 : ¬ nI p = 14 := fun z => p14 ((nI_eq (b := 14) (by omega) (by omega)).mp z)
        refine ⟨fun _ => ⟨fun z => ?_, fun z => ?_⟩, fun z => absurd z q14⟩
        · have p15 : p = 15 := by
            have := (nI_leI (a := 14) (by omega) (by omega)).mp z
            omega
          refine nx J2 ?_ f2
          unfold w_rn
          rw [if_pos p15]
          exact b1
        · have z := (nI_ltI (b := 14) (by omega) (by omega)).mp z
          have eB : rnB E m p f t = 7 + smB E p (8 * f) (rcn m f t) := by
            unfold rnB
            rw [if_neg (by omega), if_neg (by omega)]
          rw [est]
          refine e_WS_writeSplit _ _ _ (lX_split (E := E) (m := m) (i0 := 8 * f) (n := rcn m f t) (w := wMx E (8 * f) (rcn m f t)) C2 hB rc z r0.1 ?_ (fun J4 d1 d2 => ?_) (rcn m f t) 0 J2 (by omega) b1 sm.rf)
          · have : isB E p (wMx E (8 * f) (rcn m f t)) (8 * f) (rcn m f t) = smB E p (8 * f) (rcn m f t) := if_neg (by omega)
            omega
          · rw [← est]
            refine nx J4 ?_ (sm.tq f2 d2)
            unfold w_rn
            rw [if_neg (by omega), if_neg p14]
            exact d1
theorem RoX_wx {rr : Nat} {w s x : Nat → Int32} {n b ef set : Nat} {I J : mm_I} (hr : rwX rr) (h : RoX rr w s x n b ef set I) (f : sm F_xw I J) : RoX rr w s x n b ef set J := RoX_o h (fun d hd => f.fn _ (fun j => F_xw_f (by omega)))
theorem RXq_wx {w s : Nat → Int32} {I J : mm_I} (h : RXq 6 w s I) (f : sm F_xw I J) : RXq 6 w s J := by
  have f3 := f.fn 7 (fun j => F_xw_f (by omega)); have f4 := f.fn 8 (fun j => F_xw_f (by omega)); have f5 := f.fn 9 (fun j => F_xw_f (by omega))
  unfold RXq
  rw [f3, f4, f5]
  exact h
theorem lX_wr55 {P : mm_I → Prop} {w s x : Nat → Int32} {I : mm_I} {rr n b ef set pl : Nat} {W : wS} (hr : rwX rr) (hro : RoX rr w s x n b ef set I) (hb : b ≤ 17) (hpl : pl ≤ n) (hO : wOk W) (hc : wps W + b * pl ≤ 32000)
    (H : ∀ J, WxI (w_xs x b pl W) J → sm F_wx I J → (8 ≤ J rr 3 → P J) ∧ (J rr 3 < 8 → mm_Mv 99 [.ref 0, .ref rr] J (fun I94 => P I94))) : ∀ (r k : Nat) (J : mm_I), k + r = pl → WxI (w_xs x b k W) J → sm F_wx I J → mm_W 98 55 [some (.ref 0), some (.ref rr), some (.int (nI pl)), some (.int (nI k))] [] J (mm_qv 98 P) := by
  have hn := hro.1.1
  intro r
  induction r with
  | zero =>
    intro k J hk hW hsm
    have hk : k = pl := by omega
    subst hk
    exact c_WS_writeRow_55 hr _ _ ⟨fun _ => H J hW hsm, fun z => absurd z (nI_nlt (by omega) (by omega))⟩
  | succ r ih =>
    intro k J hk hW hsm
    have ok := wps_xs (x := x) (b := b) k W hO
    have mm : b * k + b ≤ b * pl := by rw [← Nat.mul_succ]; exact Nat.mul_le_mul_left b (by omega)
    have X := (RoX_wx hr hro hsm.xw).1
    refine c_WS_writeRow_55 hr _ _ ⟨fun z => absurd z (nI_ge (by omega) (by omega)), fun _ => ⟨vp_in_nI (by omega) (by omega), ?_⟩⟩
    rw [nI_clamp (n := k) (by omega), X.2.2.2 k (by omega), X.2.2.1, nI_1]
    exact sp_X_putBits (by omega) hW ok.1 (by omega) (fun K a1 a2 => ih (k + 1) K (by omega) a1 (sm.tq hsm a2))
theorem sp_X_writeRow {P : mm_I → Prop} {w s x : Nat → Int32} {I : mm_I} {rr n b ef set : Nat} {W : wS} (hr : rwX rr) (hq : RXq 6 w s I) (hw : WB w s) (hx : XB x n) (h1 : 1 ≤ n) (hb : b ≤ 17) (hro : RoX rr w s x n b ef set I) (hW : WxI W I) (hO : wOk W) (hc : wps W + hwB w s x n b ef set ≤ 32000)
    (H : ∀ J, WxI (w_row w s x n b ef set W) J → sm F_xw I J → P J) : mm_Mv 98 [.ref 0, .ref rr] I P := by
  have hn := hro.1.1
  have hH := hwH_c (w := w) (s := s) (x := x) (b := b) (ef := ef) (set := set) h1
  have bo := bpr_ok (w := w) (s := s) (x := x) (b := b) (ef := ef) (set := set) h1 7
  have hP : hwP w s x n b ef set = bpr w s x n b ef set 7 := rfl
  have ec : cst w s x n b ef (hwP w s x n b ef set) = 4 + b * o_od w (hwP w s x n b ef set) + rBits ef (hwE w s x n b ef set) (hwM w s x n b ef set) := rfl
  have o1 := wps_bs (v := nI (hwH w s x n b ef set)) 4 W hO
  refine e_WS_writeRow hr ?_
  rw [hro.2.1]
  refine sp_X_putBits (k := 4) (by omega) hW hO (by omega) (fun J a1 a2 => ?_)
  have ro2 := RoX_wx hr hro a2.xw
  rw [ro2.2.1, ro2.1.2.1]
  rcases hH with ⟨eH, eB⟩ | ⟨eH, eB⟩ | ⟨eH, eP, eB⟩
  · rw [eH]
    refine ⟨fun z => absurd rfl z, ?_⟩
    refine lX_wr55 (pl := 1) hr ro2 hb h1 o1.1 (by omega) (fun K b1 b2 => ⟨fun _ => H K ?_ (sm.tq a2 b2).xw, fun z => ?_⟩) 1 0 J (by omega) a1 sm.rf
    · unfold w_row
      rw [if_pos eH]
      exact b1
    · rw [(RoX_wx hr ro2 b2.xw).2.1, eH] at z
      exact absurd z (by decide)
  · rw [eH]
    have mc : b * n = n * b := Nat.mul_comm b n
    refine ⟨fun _ => ⟨fun z => absurd z (by decide), trivial⟩, ?_⟩
    refine lX_wr55 (pl := n) hr ro2 hb (Nat.le_refl n) o1.1 (by omega) (fun K b1 b2 => ⟨fun _ => H K ?_ (sm.tq a2 b2).xw, fun z => ?_⟩) n 0 J (by omega) a1 sm.rf
    · unfold w_row
      rw [if_neg (by omega), if_pos eH]
      exact b1
    · rw [(RoX_wx hr ro2 b2.xw).2.1, eH] at z
      exact absurd z (by decide)
  · have n8 : ¬ nI (hwH w s x n b ef set) = 8 := fun z => by
      have := (nI_eq (b := 8) (by omega) (by omega)).mp z
      omega
    have g8 : ¬ (8 : Int32) ≤ nI (hwH w s x n b ef set) := nI_ge (b := 8) (by omega) (by omega)
    have mb := hwM_b (b := b) (ef := ef) (set := set) hw hx h1
    have Q2 := RXq_wx hq a2.xw
    rw [if_neg n8, if_neg g8, nI_clamp (n := hwH w s x n b ef set) (by omega), Q2.2.2.1 _ eH]
    refine ⟨fun _ => ⟨fun _ => ⟨vp_in_nI eH (by omega), trivial⟩, trivial⟩, ?_⟩
    rw [← eP] at ec eB
    have o2 := wps_xs (x := x) (b := b) (o_od w (hwH w s x n b ef set)) _ o1.1
    have ol : o_od w (hwH w s x n b ef set) < n := by rw [eP, hP]; exact bo.2
    have rt := (rT_ok (ef := ef) (E := hwE w s x n b ef set) (m := hwM w s x n b ef set) (by omega) mb.1 mb.2.2).2
    refine lX_wr55 (pl := o_od w (hwH w s x n b ef set)) hr ro2 hb (by omega) o1.1 (by omega) (fun K b1 b2 => ⟨fun z => ?_, fun _ => ?_⟩) (o_od w (hwH w s x n b ef set)) 0 J (by omega) a1 sm.rf
    · rw [(RoX_wx hr ro2 b2.xw).2.1] at z
      exact absurd z g8
    · have f2 := (sm.tq a2 b2).xw
      have ro3 := RoX_wx hr hro f2
      have Q3 := RXq_wx hq f2
      refine e_WS_writeRuns hr ?_
      rw [ro3.2.1]
      refine sp_X_load hr eH Q3 ro3.1 (by omega) (by rw [eP]; exact mb.2.2) (fun L c1 c2 => ?_)
      rw [eP] at c1
      have c1 : CtI (hwE w s x n b ef set) (hwM w s x n b ef set) L := c1
      have eC : hwC w s x n b ef set = rCnt ef (hwE w s x n b ef set) (hwM w s x n b ef set) := if_pos eH
      have ro4 := RoX_wx hr ro3 c2.xc
      have rn : RnX rr ef (hwE w s x n b ef set) (hwM w s x n b ef set) (rCnt ef (hwE w s x n b ef set) (hwM w s x n b ef set)) L := by
        rw [← eC]
        exact ⟨ro4.2.2.2.1, ro4.2.2.2.2⟩
      have W4 : WxI (w_xs x b (o_od w (hwH w s x n b ef set)) (w_bs (nI (hwH w s x n b ef set)) 4 W)) L := ⟨(c2 47 1 rfl).trans b1.1, (c2 47 2 rfl).trans b1.2.1, fun i hi => (c2 48 i rfl).trans (b1.2.2 i hi)⟩
      have := lX_runs (P := P) hr c1 mb.2.2 mb.1 rn o2.1 (by omega) (fun M d1 d2 => H M ?_ (sm.tq (sm.tq f2 c2.xc) d2.xw)) (rCnt ef (hwE w s x n b ef set) (hwM w s x n b ef set)) 0 L (by omega) W4 sm.rf
      · rw [if_pos rfl] at this
        exact this
      · unfold w_row
        rw [if_neg (by omega), if_neg (by omega)]
        exact d1
