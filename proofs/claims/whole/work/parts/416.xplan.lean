/-! the class: a frame planned -/
def F_pl (a _ : Nat) : Bool := Nat.ble 10 a && Nat.ble a 45
theorem F_pl_t {a j : Nat} (h1 : 10 ≤ a) (h2 : a ≤ 45) : F_pl a j = true := by
  unfold F_pl
  rw [Nat.ble_eq_true_of_le h1, Nat.ble_eq_true_of_le h2]
  rfl
theorem F_pl_p {a j : Nat} (h : F_pl a j = false) : a < 10 ∨ 45 < a := by
  unfold F_pl at h
  rw [Bool.and_eq_false_iff] at h
  rcases h with z | z
  · rcases Nat.lt_or_ge a 10 with y | y
    · exact Or.inl y
    · rw [Nat.ble_eq_true_of_le y] at z; cases z
  · rcases Nat.lt_or_ge 45 a with y | y
    · exact Or.inr y
    · rw [Nat.ble_eq_true_of_le y] at z; cases z
theorem F_pl_f {a j : Nat} (h : a < 10 ∨ 45 < a) : F_pl a j = false := mm_bf fun z => by
  unfold F_pl at z
  rw [Bool.and_eq_true] at z
  have a1 := Nat.le_of_ble_eq_true z.1
  have a2 := Nat.le_of_ble_eq_true z.2
  omega
theorem sm.plc {rr : Nat} {I J : mm_I} (hr : rwX rr) (f : sm (F_ch rr) I J) : sm F_pl I J := f.le (fun a j h => by
  have q := F_pl_p h
  unfold F_ch
  rw [F_ct_f (by omega)]
  refine mm_bf fun z => ?_
  rw [Bool.false_or, Bool.and_eq_true] at z
  have a1 := Nat.le_of_ble_eq_true z.1
  have a2 := Nat.le_of_ble_eq_true z.2
  omega)
def F_xs (a j : Nat) : Bool := (Nat.ble 10 a && Nat.ble a 46) || (Nat.ble 53 a && Nat.ble a 57) || (Nat.beq a 50 && Nat.ble 20 j) || (Nat.beq a 51 && Nat.ble 5 j) || (Nat.beq a 52 && Nat.ble 5 j)
theorem F_xs_n {a j : Nat} (h : ¬ (10 ≤ a ∧ a ≤ 46)) (h2 : ¬ (53 ≤ a ∧ a ≤ 57)) (h3 : ¬ (a = 50 ∧ 20 ≤ j)) (h4 : ¬ (a = 51 ∧ 5 ≤ j)) (h5 : ¬ (a = 52 ∧ 5 ≤ j)) : F_xs a j = false := mm_bf fun z => by
  unfold F_xs at z
  simp only [Bool.or_eq_true, Bool.and_eq_true, mm_beq_iff] at z
  rcases z with (((⟨z1, z2⟩ | ⟨z1, z2⟩) | ⟨z1, z2⟩) | ⟨z1, z2⟩) | ⟨z1, z2⟩
  · exact h ⟨Nat.le_of_ble_eq_true z1, Nat.le_of_ble_eq_true z2⟩
  · exact h2 ⟨Nat.le_of_ble_eq_true z1, Nat.le_of_ble_eq_true z2⟩
  · exact h3 ⟨z1, Nat.le_of_ble_eq_true z2⟩
  · exact h4 ⟨z1, Nat.le_of_ble_eq_true z2⟩
  · exact h5 ⟨z1, Nat.le_of_ble_eq_true z2⟩
theorem sm.xo {I J : mm_I} (f : sm F_xs I J) {a : Nat} (h : a < 10 ∨ a = 47 ∨ a = 48 ∨ a = 49 ∨ 58 ≤ a) : J a = I a := f.fn a (fun j => F_xs_n (by omega) (by omega) (by omega) (by omega) (by omega))
theorem RX.xs {A : sA} {I J : mm_I} (h : RX A I) (f : sm F_xs I J) : RX A J := by
  obtain ⟨ht, hs, ho, hp, ⟨g1, g2, g3⟩, hk⟩ := h
  have f0 := f.xo (a := 0) (by omega); have f1 := f.xo (a := 1) (by omega); have f2 := f.xo (a := 2) (by omega); have f3 := f.xo (a := 3) (by omega); have f4 := f.xo (a := 4) (by omega); have f5 := f.xo (a := 5) (by omega); have f7 := f.xo (a := 7) (by omega); have f8 := f.xo (a := 8) (by omega); have f9 := f.xo (a := 9) (by omega); have f47 := f.xo (a := 47) (by omega); have f48 := f.xo (a := 48) (by omega)
  refine ⟨?_, ?_, ?_, ?_, ⟨fun p j hp hj => ?_, fun p hp => ?_, fun p hp => ?_⟩, ?_⟩
  · unfold RXt; rw [f1, f2]; exact ht
  · unfold RXs; rw [f3, f4, f5]; exact hs
  · unfold RXo; rw [f0]; exact ho
  · unfold RXq; rw [f7, f8, f9]; exact hp
  · rw [f 50 _ (F_xs_n (by omega) (by omega) (by omega) (by omega) (by omega))]; exact g1 p j hp hj
  · rw [f 51 _ (F_xs_n (by omega) (by omega) (by omega) (by omega) (by omega))]; exact g2 p hp
  · rw [f 52 _ (F_xs_n (by omega) (by omega) (by omega) (by omega) (by omega))]; exact g3 p hp
  · unfold RXk; rw [f47, f48]; exact hk
theorem sm.xFX {I J : mm_I} (f : sm F_xs I J) : FX I J := fun _ ha => f.xo (by omega)
theorem sm.px {I J : mm_I} (f : sm F_pl I J) : sm F_xs I J := f.le (fun a j h => by
  refine F_pl_f ?_
  rcases Nat.lt_or_ge a 10 with y | y
  · exact Or.inl y
  · rcases Nat.lt_or_ge 45 a with z | z
    · exact Or.inr z
    · exfalso
      unfold F_xs at h
      rw [Nat.ble_eq_true_of_le y, Nat.ble_eq_true_of_le (show a ≤ 46 by omega)] at h
      simp only [Bool.and_self, Bool.true_or] at h
      cases h)
theorem RXs_pl {A : sA} {I J : mm_I} (h : RXs A I) (f : sm F_pl I J) : RXs A J := by
  have f3 := f.fn 3 (fun j => F_pl_f (by omega)); have f4 := f.fn 4 (fun j => F_pl_f (by omega)); have f5 := f.fn 5 (fun j => F_pl_f (by omega))
  unfold RXs
  rw [f3, f4, f5]
  exact h
theorem RXq_pl {w s : Nat → Int32} {I J : mm_I} (h : RXq 6 w s I) (f : sm F_pl I J) : RXq 6 w s J := by
  have f3 := f.fn 7 (fun j => F_pl_f (by omega)); have f4 := f.fn 8 (fun j => F_pl_f (by omega)); have f5 := f.fn 9 (fun j => F_pl_f (by omega))
  unfold RXq
  rw [f3, f4, f5]
  exact h
/-- a sort of row of a frame, planned -/
abbrev RoS (A : sA) (fr f set q : Nat) (I : mm_I) : Prop := RoX (22 + 6 * q) (s_wt A) (s_sh A) (o_rx A fr f q) (o_rn A fr f) (o_rb A q) (s_ef A) set I
theorem RoX_o {rr : Nat} {w s x : Nat → Int32} {n b ef set : Nat} {I J : mm_I} (h : RoX rr w s x n b ef set I) (f : ∀ d, d ≤ 5 → J (rr + d) = I (rr + d)) : RoX rr w s x n b ef set J := by
  obtain ⟨⟨a0, a1, a2, a3⟩, b1, b2, b3, b4⟩ := h
  have f0 : J rr = I rr := f 0 (by omega)
  have f1 := f 1 (by omega)
  have f2 := f 2 (by omega)
  have f3 := f 3 (by omega)
  have f4 := f 4 (by omega)
  have f5 := f 5 (by omega)
  refine ⟨⟨a0, by rw [f0]; exact a1, by rw [f0]; exact a2, by rw [f1]; exact a3⟩, by rw [f0]; exact b1, by rw [f0]; exact b2, by rw [f0]; exact b3, fun k hk => ?_⟩
  obtain ⟨k1, k2, k3, k4⟩ := b4 k hk
  exact ⟨by rw [f2]; exact k1, by rw [f3]; exact k2, by rw [f5]; exact k3, fun z => by rw [f4]; exact k4 z⟩
theorem RoX_ch {rr rq : Nat} {w s x : Nat → Int32} {n b ef set : Nat} {I J : mm_I} (hr : rwX rr) (hq : rwX rq) (hne : rr ≠ rq) (h : RoX rr w s x n b ef set I) (f : sm (F_ch rq) I J) : RoX rr w s x n b ef set J :=
  RoX_o h (fun d hd => f.fn _ (fun j => by
    unfold F_ch
    rw [F_ct_f (by omega)]
    refine mm_bf fun z => ?_
    rw [Bool.false_or, Bool.and_eq_true] at z
    have a1 := Nat.le_of_ble_eq_true z.1
    have a2 := Nat.le_of_ble_eq_true z.2
    omega))
theorem rwS {q : Nat} (h : q < 4) : rwX (22 + 6 * q) := by omega
/-- the plan's rows -/
def PrI (A : sA) (fr f set : Nat) (I : mm_I) : Prop := (∀ q, soO A q → RoS A fr f set q I) ∧ I 10 5 = b1 (s_ch A = 2)
theorem sp_X_firstRow {P : Option Nat → mm_I → Prop} {I : mm_I} {j : Nat} (hj : j < 4) (H : P (some (22 + 6 * soF j 0)) I) : mm_Mr 14 [.ref 10, .int (nI j)] I P := by
  refine e_Plan_firstRow _ ?_
  rcases (by omega : j = 0 ∨ j = 1 ∨ j = 2 ∨ j = 3) with rfl | rfl | rfl | rfl
  · exact ⟨fun _ => ⟨fun _ => H, fun z => absurd z (by decide)⟩, fun z => absurd z (by decide)⟩
  · exact ⟨fun _ => ⟨fun _ => H, fun z => absurd z (by decide)⟩, fun z => absurd z (by decide)⟩
  · exact ⟨fun z => absurd rfl z, fun _ => H⟩
  · exact ⟨fun _ => ⟨fun z => absurd rfl z, fun _ => H⟩, fun z => absurd z (by decide)⟩
theorem sp_X_secondRow {P : Option Nat → mm_I → Prop} {I : mm_I} {j : Nat} (hj : j < 4) (H : P (some (22 + 6 * soF j 1)) I) : mm_Mr 15 [.ref 10, .int (nI j)] I P := by
  refine e_Plan_secondRow _ ?_
  rcases (by omega : j = 0 ∨ j = 1 ∨ j = 2 ∨ j = 3) with rfl | rfl | rfl | rfl
  · exact ⟨fun _ => H, fun z => absurd rfl z⟩
  · exact ⟨fun z => absurd z (by decide), fun _ => ⟨fun _ => H, fun z => absurd z (by decide)⟩⟩
  · exact ⟨fun z => absurd z (by decide), fun _ => ⟨fun z => absurd rfl z, fun _ => H⟩⟩
  · exact ⟨fun z => absurd z (by decide), fun _ => ⟨fun _ => H, fun z => absurd z (by decide)⟩⟩
theorem so_j {A : sA} {j : Nat} (hj : jOk A j) : soO A (soF j 0) ∧ (s_ch A = 2 → soO A (soF j 1)) := by
  refine ⟨?_, fun h => Or.inr ⟨soF_lt j 1, h⟩⟩
  rcases hj with rfl | ⟨_, h⟩
  · exact Or.inl rfl
  · exact Or.inr ⟨soF_lt j 0, h⟩
theorem sp_X_rowBits {P : Int32 → mm_I → Prop} {A : sA} {I : mm_I} {fr f set j : Nat} (hI : PrI A fr f set I) (hj : jOk A j) (H : P (nI (jBt A fr f set j)) I) : mm_Mi 16 [.ref 10, .int (nI j)] I P := by
  have j4 : j < 4 := by omega
  have so := so_j hj
  refine e_Plan_rowBits _ (sp_X_firstRow j4 ⟨_, rfl, rwS (soF_lt j 0), fun z => ?_, fun z => ?_⟩)
  · rw [hI.2, b1_0] at z
    rw [(hI.1 _ so.1).2.2.1]
    unfold jBt at H
    rw [if_neg z, Nat.add_zero] at H
    exact H
  · rw [hI.2] at z
    have z := b1_n z
    refine sp_X_secondRow j4 ⟨_, rfl, rwS (soF_lt j 1), ?_⟩
    rw [(hI.1 _ so.1).2.2.1, (hI.1 _ (so.2 z)).2.2.1, nI_add]
    unfold jBt at H
    rw [if_pos z] at H
    exact H
theorem PrI_6 {A : sA} {fr f set : Nat} {I : mm_I} {v : Int32} (h : PrI A fr f set I) : PrI A fr f set (mm_up I 10 6 v) := ⟨fun q hq => RoX_o (h.1 q hq) (fun d hd => up_o (by omega)), h.2⟩
theorem lX_way {P : mm_I → Prop} {A : sA} {I : mm_I} {fr f set : Nat} (hV : VA A) (hF : FrO A fr f) (h2 : s_ch A = 2) (H : ∀ J, PrI A fr f set J → J 10 6 = nI (jNs A fr f set 3) → sm F_pl I J → P J) : ∀ (r k : Nat) (J : mm_I), k + r = 3 → PrI A fr f set J → J 10 6 = nI (jNs A fr f set k) → sm F_pl I J → mm_W 13 2 [some (.ref 10), some (.int (nI (k + 1)))] [] J (mm_qv 13 P) := by
  intro r
  induction r with
  | zero =>
    intro k J hk hI h6 hsm
    have hk : k = 3 := by omega
    subst hk
    exact c_Plan_chooseWay_2 _ ⟨fun _ => H J hI h6 hsm, fun z => absurd z (by decide)⟩
  | succ r ih =>
    intro k J hk hI h6 hsm
    have hl := jNs_le A fr f set k
    have b1 := jBt_b (set := set) (j := k + 1) hV hF
    have b2 := jBt_b (set := set) (j := jNs A fr f set k) hV hF
    have e : jNs A fr f set (k + 1) = if jBt A fr f set (k + 1) < jBt A fr f set (jNs A fr f set k) then k + 1 else jNs A fr f set k := rfl
    refine c_Plan_chooseWay_2 _ ⟨fun z => absurd z (nI_ge (b := 4) (by omega) (by omega)), fun _ => sp_X_rowBits hI (Or.inr ⟨by omega, h2⟩) ?_⟩
    rw [h6]
    refine sp_X_rowBits hI (Or.inr ⟨by omega, h2⟩) ?_
    rw [nI_1]
    refine ⟨fun z => ?_, fun z => ?_⟩
    · have z := (nI_leI (by omega) (by omega)).mp z
      rw [if_neg (by omega)] at e
      exact ih (k + 1) J (by omega) hI (by rw [e]; exact h6) hsm
    · have z := (nI_ltI (by omega) (by omega)).mp z
      rw [if_pos z] at e
      exact ih (k + 1) _ (by omega) (PrI_6 hI) (by rw [e]; rfl) (hsm.up (F_pl_t (by omega) (by omega)))
/-- the plan of a frame -/
abbrev PlI (A : sA) (fr f set : Nat) (I : mm_I) : Prop := PrI A fr f set I ∧ I 10 6 = nI (jOf A fr f set)
theorem lX_join41 {P : mm_I → Prop} {A : sA} {I : mm_I} {fr f : Nat} (hs : RXs A I) (hV : VA A) (hF : FrO A fr f) (h2 : s_ch A = 2) (hL : ∀ i, i < o_rn A fr f → I 23 i = o_rx A fr f 0 i)
    (H : ∀ J, (∀ i, i < o_rn A fr f → J 29 i = o_rx A fr f 1 i ∧ J 35 i = o_rx A fr f 2 i ∧ J 41 i = o_rx A fr f 3 i) → (∀ a, a ≠ 29 → a ≠ 35 → a ≠ 41 → J a = I a) → P J) : ∀ (r k : Nat) (J : mm_I), k + r = o_rn A fr f → (∀ i, i < k → J 29 i = o_rx A fr f 1 i ∧ J 35 i = o_rx A fr f 2 i ∧ J 41 i = o_rx A fr f 3 i) → (∀ a, a ≠ 29 → a ≠ 35 → a ≠ 41 → J a = I a) → mm_W 12 41 [some (.ref 10), some (.ref 3), some (.int (nI (fr * f))), some (.int (nI (o_rn A fr f))), some (.int (nI k)), none, none] [] J (mm_qv 12 P) := by
  have nb := o_rn_b hF
  have hcn := hV.cn (c := 0) (by omega)
  have c01 : s_cn A 0 = s_cn A 1 := by rcases hF.1 with z | z; omega; exact z.2
  intro r
  induction r with
  | zero =>
    intro k J hk h ho
    have hk : k = o_rn A fr f := by omega
    subst hk
    exact c_Plan_joinRows_41 _ _ _ ⟨fun _ => H J h ho, fun z => absurd z (nI_nlt (by omega) (by omega))⟩
  | succ r ih =>
    intro k J hk h ho
    have v := vp_in_nI (n := k) (N := 64) (by omega) (by omega)
    have sJ : RXs A J := by
      unfold RXs
      rw [ho 3 (by decide) (by decide) (by decide), ho 4 (by decide) (by decide) (by decide), ho 5 (by decide) (by decide) (by decide)]
      exact hs
    refine c_Plan_joinRows_41 _ _ _ ⟨fun z => absurd z (nI_ge (by omega) (by omega)), fun _ => ⟨v, ?_⟩⟩
    rw [nI_add]
    refine sp_X_valueAt (c := 1) sJ hV (by omega) (by omega) ⟨v, v, v, ?_⟩
    rw [nI_clamp (n := k) (by omega), nI_1, ho 23 (by decide) (by decide) (by decide), hL k (by omega)]
    refine ih (k + 1) _ (by omega) (fun i hi => ?_) (fun a h1 h2 h3 => by rw [up_o h3, up_o h2, up_o h1]; exact ho a h1 h2 h3)
    by_cases q : i = k
    · subst q
      refine ⟨?_, ?_, ?_⟩
      · rw [up_o (by decide), up_o (by decide), up_a, if_pos rfl]; rfl
      · rw [up_o (by decide), up_a, if_pos rfl]; rfl
      · rw [up_a, if_pos rfl]; rfl
    · have k := h i (by omega)
      refine ⟨?_, ?_, ?_⟩
      · rw [up_o (by decide), up_o (by decide), up_a, if_neg q]; exact k.1
      · rw [up_o (by decide), up_a, if_neg q, up_o (by decide)]; exact k.2.1
      · rw [up_a, if_neg q, up_o (by decide), up_o (by decide)]; exact k.2.2
theorem rb_S {A : sA} {q : Nat} (h : q ≠ 2) : o_rb A q = s_wd A := if_neg h
theorem sp_X_joinRows {P : mm_I → Prop} {A : sA} {I : mm_I} {fr f : Nat} (hs : RXs A I) (hV : VA A) (hF : FrO A fr f) (h2 : s_ch A = 2) (hL : ∀ i, i < o_rn A fr f → I 23 i = o_rx A fr f 0 i)
    (H : ∀ J, (∀ q, 1 ≤ q → q < 4 → RwX (22 + 6 * q) (o_rx A fr f q) (o_rn A fr f) (o_rb A q) J) → (∀ a, a < 28 ∨ 45 < a → J a = I a) → P J) : mm_Mv 12 [.ref 10, .ref 3, .int (nI (fr * f)), .int (nI (o_rn A fr f))] I P := by
  have nb := o_rn_b hF
  refine e_Plan_joinRows _ _ (e_Row_start (Or.inr (Or.inl rfl)) _ _ (e_Row_start (Or.inr (Or.inr (Or.inl rfl))) _ _ (e_Row_start (Or.inr (Or.inr (Or.inr rfl))) _ _ ?_)))
  have e33 : I 3 3 = nI (s_wd A) := hs.2.1
  have e1 : (mm_up (mm_up I 28 1 (nI (o_rn A fr f))) 28 2 (I 3 3)) 3 3 = I 3 3 := rfl
  have e2 : (mm_up (mm_up (mm_up (mm_up I 28 1 (nI (o_rn A fr f))) 28 2 (I 3 3)) 34 1 (nI (o_rn A fr f))) 34 2 ((mm_up (mm_up I 28 1 (nI (o_rn A fr f))) 28 2 (I 3 3)) 3 3 + 1)) 3 3 = I 3 3 := rfl
  rw [e2, e1, e33, nI_1]
  have sI : RXs A (mm_up (mm_up (mm_up (mm_up (mm_up (mm_up I 28 1 (nI (o_rn A fr f))) 28 2 (nI (s_wd A))) 34 1 (nI (o_rn A fr f))) 34 2 (nI (s_wd A + 1))) 40 1 (nI (o_rn A fr f))) 40 2 (nI (s_wd A))) := hs
  have L1 : ∀ i, i < o_rn A fr f → (mm_up (mm_up (mm_up (mm_up (mm_up (mm_up I 28 1 (nI (o_rn A fr f))) 28 2 (nI (s_wd A))) 34 1 (nI (o_rn A fr f))) 34 2 (nI (s_wd A + 1))) 40 1 (nI (o_rn A fr f))) 40 2 (nI (s_wd A))) 23 i = o_rx A fr f 0 i := hL
  have k1 : (mm_up (mm_up (mm_up (mm_up (mm_up (mm_up I 28 1 (nI (o_rn A fr f))) 28 2 (nI (s_wd A))) 34 1 (nI (o_rn A fr f))) 34 2 (nI (s_wd A + 1))) 40 1 (nI (o_rn A fr f))) 40 2 (nI (s_wd A))) 28 1 = nI (o_rn A fr f) := rfl
  have k2 : (mm_up (mm_up (mm_up (mm_up (mm_up (mm_up I 28 1 (nI (o_rn A fr f))) 28 2 (nI (s_wd A))) 34 1 (nI (o_rn A fr f))) 34 2 (nI (s_wd A + 1))) 40 1 (nI (o_rn A fr f))) 40 2 (nI (s_wd A))) 28 2 = nI (s_wd A) := rfl
  have k3 : (mm_up (mm_up (mm_up (mm_up (mm_up (mm_up I 28 1 (nI (o_rn A fr f))) 28 2 (nI (s_wd A))) 34 1 (nI (o_rn A fr f))) 34 2 (nI (s_wd A + 1))) 40 1 (nI (o_rn A fr f))) 40 2 (nI (s_wd A))) 34 1 = nI (o_rn A fr f) := rfl
  have k4 : (mm_up (mm_up (mm_up (mm_up (mm_up (mm_up I 28 1 (nI (o_rn A fr f))) 28 2 (nI (s_wd A))) 34 1 (nI (o_rn A fr f))) 34 2 (nI (s_wd A + 1))) 40 1 (nI (o_rn A fr f))) 40 2 (nI (s_wd A))) 34 2 = nI (s_wd A + 1) := rfl
  have k5 : (mm_up (mm_up (mm_up (mm_up (mm_up (mm_up I 28 1 (nI (o_rn A fr f))) 28 2 (nI (s_wd A))) 34 1 (nI (o_rn A fr f))) 34 2 (nI (s_wd A + 1))) 40 1 (nI (o_rn A fr f))) 40 2 (nI (s_wd A))) 40 1 = nI (o_rn A fr f) := rfl
  have k6 : (mm_up (mm_up (mm_up (mm_up (mm_up (mm_up I 28 1 (nI (o_rn A fr f))) 28 2 (nI (s_wd A))) 34 1 (nI (o_rn A fr f))) 34 2 (nI (s_wd A + 1))) 40 1 (nI (o_rn A fr f))) 40 2 (nI (s_wd A))) 40 2 = nI (s_wd A) := rfl
  have off : ∀ a, a ≠ 28 → a ≠ 34 → a ≠ 40 → (mm_up (mm_up (mm_up (mm_up (mm_up (mm_up I 28 1 (nI (o_rn A fr f))) 28 2 (nI (s_wd A))) 34 1 (nI (o_rn A fr f))) 34 2 (nI (s_wd A + 1))) 40 1 (nI (o_rn A fr f))) 40 2 (nI (s_wd A))) a = I a := fun a h1 h2 h3 => by rw [up_o h3, up_o h3, up_o h2, up_o h2, up_o h1, up_o h1]
  generalize (mm_up (mm_up (mm_up (mm_up (mm_up (mm_up I 28 1 (nI (o_rn A fr f))) 28 2 (nI (s_wd A))) 34 1 (nI (o_rn A fr f))) 34 2 (nI (s_wd A + 1))) 40 1 (nI (o_rn A fr f))) 40 2 (nI (s_wd A))) = I1 at *
  refine lX_join41 (A := A) (fr := fr) (f := f) sI hV hF h2 L1 (fun J a1 a2 => H J (fun q h1 h4 => ?_) (fun a ha => ?_)) (o_rn A fr f) 0 _ (by omega) (fun i hi => absurd hi (Nat.not_lt_zero i)) (fun _ _ _ _ => rfl)
  · rcases (by omega : q = 1 ∨ q = 2 ∨ q = 3) with rfl | rfl | rfl
    · refine ⟨nb.2.1, ?_, ?_, fun i hi => (a1 i hi).1⟩
      · rw [show 22 + 6 * 1 = 28 from rfl, a2 28 (by decide) (by decide) (by decide)]; exact k1
      · rw [show 22 + 6 * 1 = 28 from rfl, a2 28 (by decide) (by decide) (by decide), rb_S (by omega)]; exact k2
    · refine ⟨nb.2.1, ?_, ?_, fun i hi => (a1 i hi).2.1⟩
      · rw [show 22 + 6 * 2 = 34 from rfl, a2 34 (by decide) (by decide) (by decide)]; exact k3
      · rw [show 22 + 6 * 2 = 34 from rfl, a2 34 (by decide) (by decide) (by decide), show o_rb A 2 = s_wd A + 1 from if_pos rfl]; exact k4
    · refine ⟨nb.2.1, ?_, ?_, fun i hi => (a1 i hi).2.2⟩
      · rw [show 22 + 6 * 3 = 40 from rfl, a2 40 (by decide) (by decide) (by decide)]; exact k5
      · rw [show 22 + 6 * 3 = 40 from rfl, a2 40 (by decide) (by decide) (by decide), rb_S (by omega)]; exact k6
  · rw [a2 a (by omega) (by omega) (by omega), off a (by omega) (by omega) (by omega)]
theorem lX_make46 {P : mm_I → Prop} {A : sA} {I : mm_I} {fr f : Nat} {x5 x6 : Int32} (hs : RXs A I) (hV : VA A) (hF : FrO A fr f)
    (H : ∀ J, (∀ i, i < o_rn A fr f → J 23 i = o_rx A fr f 0 i) → (∀ a, a ≠ 23 → J a = I a) → mm_W 11 46 [some (.ref 10), some (.ref 3), some (.ref 6), none, none, some (.int x5), some (.int x6), some (.int (nI (fr * f))), some (.int (nI (o_rn A fr f))), some (.int (nI (o_rn A fr f)))] [] J (mm_qv 11 P)) : ∀ (r k : Nat) (J : mm_I), k + r = o_rn A fr f → (∀ i, i < k → J 23 i = o_rx A fr f 0 i) → (∀ a, a ≠ 23 → J a = I a) → mm_W 11 46 [some (.ref 10), some (.ref 3), some (.ref 6), none, none, some (.int x5), some (.int x6), some (.int (nI (fr * f))), some (.int (nI (o_rn A fr f))), some (.int (nI k))] [] J (mm_qv 11 P) := by
  have nb := o_rn_b hF
  have hcn := hV.cn (c := 0) (by omega)
  intro r
  induction r with
  | zero =>
    intro k J hk h ho
    have hk : k = o_rn A fr f := by omega
    subst hk
    exact H J h ho
  | succ r ih =>
    intro k J hk h ho
    have sJ : RXs A J := by
      unfold RXs
      rw [ho 3 (by decide), ho 4 (by decide), ho 5 (by decide)]
      exact hs
    refine c_Plan_make_46 _ _ _ _ _ ⟨fun z => absurd z (nI_ge (by omega) (by omega)), fun _ => ?_⟩
    rw [nI_add]
    refine sp_X_valueAt (c := 0) sJ hV (by omega) (by omega) ⟨vp_in_nI (by omega) (by omega), ?_⟩
    rw [nI_clamp (n := k) (by omega), nI_1]
    refine ih (k + 1) _ (by omega) (fun i hi => ?_) (fun a ha => by rw [up_o ha]; exact ho a ha)
    rw [up_a]
    by_cases q : i = k
    · rw [if_pos q, q]; rfl
    · rw [if_neg q]; exact h i (by omega)
theorem sp_X_make {P : mm_I → Prop} {A : sA} {I : mm_I} {fr f set : Nat} (hs : RXs A I) (hq : RXq 6 (s_wt A) (s_sh A) I) (hV : VA A) (hF : FrO A fr f) (hst : set < 256) (hs1 : set % 2 = 1)
    (H : ∀ J, PlI A fr f set J → sm F_pl I J → P J) : mm_Mv 11 [.ref 10, .ref 3, .ref 6, .int (nI fr), .int (nI f), .int (nI (s_ef A)), .int (nI set)] I P := by
  have nb := o_rn_b hF
  have hcn := hV.cn (c := 0) (by omega)
  have hch := hV.ch
  have hch0 : 0 < s_ch A := by rcases hF.1 with z | z <;> omega
  obtain ⟨hrd, hF1, hF2, hF3⟩ := hF
  have hF : FrO A fr f := ⟨hrd, hF1, hF2, hF3⟩
  have e1 : nI f * nI fr = nI (fr * f) := by rw [pk_mul, Nat.mul_comm]
  have m1 : (if (64 : Int32) < nI fr then (64 : Int32) else nI fr) = nI fr := if_neg (nI_nlt (a := 64) hF3 (by omega))
  have m2 : (if nI (s_cn A 0 - fr * f) < nI fr then (nI (s_cn A 0 - fr * f) : Int32) else nI fr) = nI (o_rn A fr f) := by
    unfold o_rn
    by_cases q : fr ≤ s_cn A 0 - fr * f
    · rw [if_pos q, if_neg (nI_nlt q (by omega))]
    · rw [if_neg q, if_pos (nI_lt (by omega) (by omega))]
  have m3 : (if (0 : Int32) < nI (o_rn A fr f) then (nI (o_rn A fr f) : Int32) else 0) = nI (o_rn A fr f) := if_pos (nI_lt (a := 0) (by omega) (by omega))
  refine e_Plan_make _ _ _ _ (e_Math_min _ _ (e_Math_min _ _ (e_Math_max _ _ (e_Row_start (Or.inl rfl) _ _ ?_))))
  rw [e1, hs.2.2.2.1 0 (by omega), pk_sub (by omega), m1, m2, m3, hs.2.1]
  have g1 : sm F_pl I (mm_up (mm_up I 22 1 (nI (o_rn A fr f))) 22 2 (nI (s_wd A))) := (sm.rf.up rfl).up rfl
  have g2 : (mm_up (mm_up I 22 1 (nI (o_rn A fr f))) 22 2 (nI (s_wd A))) 22 1 = nI (o_rn A fr f) := rfl
  have g3 : (mm_up (mm_up I 22 1 (nI (o_rn A fr f))) 22 2 (nI (s_wd A))) 22 2 = nI (s_wd A) := rfl
  generalize mm_up (mm_up I 22 1 (nI (o_rn A fr f))) 22 2 (nI (s_wd A)) = I1 at *
  refine lX_make46 (RXs_pl hs g1) hV hF (fun J a1 a2 => ?_) (o_rn A fr f) 0 I1 (by omega) (fun i hi => absurd hi (Nat.not_lt_zero i)) (fun _ _ => rfl)
  have f1 : sm F_pl I J := sm.tq g1 (fun a j h => by
    have := F_pl_p h
    rw [a2 a (by omega)])
  have X0 : RwX 22 (o_rx A fr f 0) (o_rn A fr f) (o_rb A 0) J := ⟨nb.2.1, by rw [a2 22 (by decide)]; exact g2, by rw [a2 22 (by decide)]; exact g3, a1⟩
  have ch : ∀ q, soO A q → ∀ {Q : mm_I → Prop} {K : mm_I}, sm F_pl I K → RwX (22 + 6 * q) (o_rx A fr f q) (o_rn A fr f) (o_rb A q) K → (∀ L, RoS A fr f set q L → sm (F_ch (22 + 6 * q)) K L → Q L) → mm_Mv 41 [.ref (22 + 6 * q), .ref 6, .ref 11, .int (nI (s_ef A)), .int (nI set)] K Q := fun q hq2 Q K fK hX hQ =>
    sp_X_choose (rwS (by omega)) (RXq_pl hq fK) hX hV.wb (o_rx_b hV hF hq2) nb.1 (o_rb_b hV) hV.ef hst hs1 hQ
  refine c_Plan_make_46 _ _ _ _ _ ⟨fun _ => ?_, fun z => absurd z (nI_nlt (by omega) (by omega))⟩
  refine ch 0 (Or.inl rfl) f1 X0 (fun K r1 r2 => ?_)
  have f2 : sm F_pl I K := sm.tq f1 (sm.plc (rwS (q := 0) (by omega)) r2)
  have e32 : K 3 2 = nI (s_ch A) := (f2 3 2 rfl).trans hs.1
  have et : (if K 3 2 = 2 then (1 : Int32) else 0) = b1 (s_ch A = 2) := by
    rw [e32]
    by_cases q : s_ch A = 2
    · rw [b1_t q, if_pos (by rw [q]; rfl)]
    · have q2 : ¬ nI (s_ch A) = 2 := fun z => q ((nI_eq (b := 2) (by omega) (by omega)).mp z)
      rw [b1_f q, if_neg q2]
  rw [et]
  have h5 : (mm_up (mm_up K 10 5 (b1 (s_ch A = 2))) 10 6 0) 10 5 = b1 (s_ch A = 2) := rfl
  have h6 : (mm_up (mm_up K 10 5 (b1 (s_ch A = 2))) 10 6 0) 10 6 = 0 := rfl
  have f3 : sm F_pl I (mm_up (mm_up K 10 5 (b1 (s_ch A = 2))) 10 6 0) := (f2.up rfl).up rfl
  have R0 : RoS A fr f set 0 (mm_up (mm_up K 10 5 (b1 (s_ch A = 2))) 10 6 0) := RoX_o r1 (fun d hd => by rw [up_o (by omega), up_o (by omega)])
  generalize mm_up (mm_up K 10 5 (b1 (s_ch A = 2))) 10 6 0 = L at *
  refine ⟨b1_01, fun z => ?_, fun z => ?_⟩
  · have z := b1_0.mp z
    refine H L ⟨⟨fun q hq2 => ?_, h5⟩, ?_⟩ f3
    · have q0 : q = 0 := by omega
      subst q0
      exact R0
    · rw [h6]
      unfold jOf
      rw [if_neg z]
      rfl
  · have z := b1_n z
    refine sp_X_joinRows (RXs_pl hs f3) hV hF z R0.1.2.2.2 (fun M c1 c2 => ?_)
    have f4 : sm F_pl I M := sm.tq f3 (fun a j h => by
      have := F_pl_p h
      rw [c2 a (by omega)])
    have R0' : RoS A fr f set 0 M := RoX_o R0 (fun d hd => c2 _ (Or.inl (by omega)))
    refine ch 1 (Or.inr ⟨by omega, z⟩) f4 (c1 1 (by omega) (by omega)) (fun M1 d1 d2 => ?_)
    have f5 : sm F_pl I M1 := sm.tq f4 (sm.plc (rwS (q := 1) (by omega)) d2)
    have keepW : ∀ {q p : Nat} {K K' : mm_I}, q < 4 → p < 4 → q ≠ p → sm (F_ch (22 + 6 * p)) K K' → RwX (22 + 6 * q) (o_rx A fr f q) (o_rn A fr f) (o_rb A q) K → RwX (22 + 6 * q) (o_rx A fr f q) (o_rn A fr f) (o_rb A q) K' := fun {q p K K'} h1 h2 h3 fK hX => by
      have off : ∀ a, 22 + 6 * q ≤ a → a ≤ 22 + 6 * q + 5 → K' a = K a := fun a ha1 ha2 => fK.fn a (fun j => by
        unfold F_ch
        rw [F_ct_f (by omega)]
        refine mm_bf fun zz => ?_
        rw [Bool.false_or, Bool.and_eq_true] at zz
        have k1 := Nat.le_of_ble_eq_true zz.1
        have k2 := Nat.le_of_ble_eq_true zz.2
        omega)
      exact ⟨hX.1, by rw [off _ (by omega) (by omega)]; exact hX.2.1, by rw [off _ (by omega) (by omega)]; exact hX.2.2.1, by rw [off _ (by omega) (by omega)]; exact hX.2.2.2⟩
    refine ch 2 (Or.inr ⟨by omega, z⟩) f5 (keepW (by omega) (by omega) (by omega) d2 (c1 2 (by omega) (by omega))) (fun M2 g1 g2 => ?_)
    have f6 : sm F_pl I M2 := sm.tq f5 (sm.plc (rwS (q := 2) (by omega)) g2)
    refine ch 3 (Or.inr ⟨by omega, z⟩) f6 (keepW (by omega) (by omega) (by omega) g2 (keepW (by omega) (by omega) (by omega) d2 (c1 3 (by omega) (by omega)))) (fun M3 k1 k2 => ?_)
    have f7 : sm F_pl I M3 := sm.tq f6 (sm.plc (rwS (q := 3) (by omega)) k2)
    have kr : ∀ {q p : Nat} {K K' : mm_I}, q < 4 → p < 4 → q ≠ p → sm (F_ch (22 + 6 * p)) K K' → RoS A fr f set q K → RoS A fr f set q K' := fun {q p K K'} h1 h2 h3 fK hX => RoX_ch (rwS h1) (rwS h2) (by omega) hX fK
    have ten : ∀ {p : Nat} {K K' : mm_I}, p < 4 → sm (F_ch (22 + 6 * p)) K K' → K' 10 = K 10 := fun {p K K'} h1 fK => fK.fn 10 (fun j => by
      unfold F_ch
      rw [F_ct_f (by omega)]
      refine mm_bf fun zz => ?_
      rw [Bool.false_or, Bool.and_eq_true] at zz
      have k1 := Nat.le_of_ble_eq_true zz.1
      omega)
    have t10 : M3 10 = L 10 := by
      rw [ten (p := 3) (by omega) k2, ten (p := 2) (by omega) g2, ten (p := 1) (by omega) d2]
      exact c2 10 (Or.inl (by omega))
    have PR : PrI A fr f set M3 := by
      refine ⟨fun q hq2 => ?_, by rw [t10]; exact h5⟩
      rcases (by omega : q = 0 ∨ q = 1 ∨ q = 2 ∨ q = 3) with rfl | rfl | rfl | rfl
      · exact kr (p := 3) (by omega) (by omega) (by omega) k2 (kr (p := 2) (by omega) (by omega) (by omega) g2 (kr (p := 1) (by omega) (by omega) (by omega) d2 R0'))
      · exact kr (p := 3) (by omega) (by omega) (by omega) k2 (kr (p := 2) (by omega) (by omega) (by omega) g2 d1)
      · exact kr (p := 3) (by omega) (by omega) (by omega) k2 g1
      · exact k1
    refine e_Plan_chooseWay (lX_way hV hF z (fun N n1 n2 n3 => H N ⟨n1, ?_⟩ (sm.tq f7 n3)) 3 0 M3 (by omega) PR (by rw [t10]; exact h6) sm.rf)
    rw [n2]
    unfold jOf
    rw [if_pos z]
