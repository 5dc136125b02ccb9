/-! the class: predictors told, clear -/
theorem w3_2 {w : Nat → Int32} {q : Nat} {a b c : Int32} : o_w3 w q a b c (3 * q + 2) = c := by
  unfold o_w3
  rw [if_neg (by omega), if_neg (by omega), if_pos rfl]
theorem w3_1 {w : Nat → Int32} {q : Nat} {a b c : Int32} : o_w3 w q a b c (3 * q + 1) = b := by
  unfold o_w3
  rw [if_neg (by omega), if_pos rfl]
theorem w3_0 {w : Nat → Int32} {q : Nat} {a b c : Int32} : o_w3 w q a b c (3 * q) = a := by
  unfold o_w3
  rw [if_pos rfl]
theorem w3_o {w : Nat → Int32} {q r i : Nat} {a b c : Int32} (h : r ≠ q) (hi : i < 3) : o_w3 w q a b c (3 * r + i) = w (3 * r + i) := by
  unfold o_w3
  rw [if_neg (by omega), if_neg (by omega), if_neg (by omega)]
theorem sp_X_tell {P : mm_I → Prop} {d p : Nat} {w s : Nat → Int32} {a b c z : Int32} {I : mm_I} (hd : d = 6 ∨ d = 49) (hp5 : 5 ≤ p) (hp8 : p < 8) (hq : RXq d w s I) (H : ∀ J, RXq d (o_w3 w (p - 5) a b c) (upd s (p - 5) z) J → (∀ e, e ≠ d + 1 → e ≠ d + 2 → e ≠ d + 3 → J e = I e) → P J) : mm_Mv 20 [.ref d, .int (nI p), .int a, .int b, .int c, .int z] I P := by
  obtain ⟨d1, d2, d3, d4⟩ := hq
  have e0 : nI p * (4 : Int32) = nI (4 * p) := by
    show nI p * nI 4 = _
    rw [pk_mul, Nat.mul_comm]
  have e2 : nI (4 * p) + 2 = nI (4 * p + 2) := nI_add _ 2
  refine e_Pred_tell hd _ _ _ _ _ ⟨fun y => absurd y (nI_nlt (b := 5) hp5 (by omega)), fun _ => ⟨fun _ => ?_, fun y => absurd y (nI_ge (b := 8) hp8 (by omega))⟩⟩
  rw [e0, e2, nI_1, nI_clamp (n := 4 * p) (by omega), nI_clamp (n := 4 * p + 1) (by omega), nI_clamp (n := 4 * p + 2) (by omega), nI_clamp (n := p) (by omega)]
  have vp := vp_in_nI (n := p) (N := 8) hp8 (by omega)
  refine ⟨vp_in_nI (by omega) (by omega), vp_in_nI (by omega) (by omega), vp_in_nI (by omega) (by omega), vp, vp, H _ ⟨fun q j hq hj => ?_, fun q j hq hj => ?_, fun q hq => ?_, fun q hq => ?_⟩ (fun e h1 h2 h3 => by rw [up_o h2, up_o h3, up_o h1, up_o h1, up_o h1])⟩
  · rw [up_o (by omega), up_o (by omega), up_a, up_a, up_a, if_neg (by omega), if_neg (by omega), if_neg (by omega)]
    exact d1 q j hq hj
  · rw [up_o (by omega), up_o (by omega), up_a, up_a, up_a]
    unfold o_w3
    by_cases z0 : q = p - 5
    · rcases (by omega : j = 0 ∨ j = 1 ∨ j = 2) with rfl | rfl | rfl
      · rw [if_neg (by omega), if_neg (by omega), if_pos (by omega), if_pos (by omega)]
      · rw [if_neg (by omega), if_pos (by omega), if_neg (by omega), if_pos (by omega)]
      · rw [if_pos (by omega), if_neg (by omega), if_neg (by omega), if_pos (by omega)]
    · rw [if_neg (by omega), if_neg (by omega), if_neg (by omega), if_neg (by omega), if_neg (by omega), if_neg (by omega)]
      exact d2 q j hq hj
  · rw [up_a]
    by_cases z0 : q = p
    · rw [if_pos z0]
      unfold o_od
      rw [if_neg (show ¬ q < 5 by omega), z0]
      unfold o_of
      rw [w3_2, w3_1, w3_0]
      by_cases c0 : c = 0
      · rw [if_pos c0, if_neg (show ¬ (c ≠ 0) from fun y => y c0)]
        by_cases b0 : b = 0
        · rw [if_pos b0, if_neg (show ¬ (b ≠ 0) from fun y => y b0)]
          by_cases a0 : a = 0
          · rw [if_pos a0, if_neg (show ¬ (a ≠ 0) from fun y => y a0)]; rfl
          · rw [if_neg a0, if_pos (show a ≠ 0 from a0)]; rfl
        · rw [if_neg b0, if_pos (show b ≠ 0 from b0)]; rfl
      · rw [if_neg c0, if_pos (show c ≠ 0 from c0)]; rfl
    · rw [if_neg z0, up_o (by omega), up_o (by omega), up_o (by omega), up_o (by omega), d3 q hq]
      unfold o_od
      by_cases q5 : q < 5
      · rw [if_pos q5, if_pos q5]
      · rw [if_neg q5, if_neg q5]
        unfold o_of
        rw [w3_o (by omega) (show 2 < 3 by omega), w3_o (by omega) (show 1 < 3 by omega)]
        have e3 := w3_o (w := w) (a := a) (b := b) (c := c) (show q - 5 ≠ p - 5 by omega) (show 0 < 3 by omega)
        rw [Nat.add_zero] at e3
        rw [e3]
  · rw [up_o (by omega), up_a]
    unfold o_sf upd
    by_cases z0 : q = p
    · rw [if_pos z0, if_neg (by omega), if_pos (by omega)]
    · rw [if_neg z0, up_o (by omega), up_o (by omega), up_o (by omega), d4 q hq]
      unfold o_sf
      by_cases q5 : q < 5
      · rw [if_pos q5, if_pos q5]
      · rw [if_neg q5, if_neg q5, if_neg (by omega)]
theorem RX_q {A : sA} {I J : mm_I} {w s : Nat → Int32} (hR : RX A I) (hq : RXq 6 w s J) (ho : ∀ e, e ≠ 7 → e ≠ 8 → e ≠ 9 → J e = I e) : RX (s_F (s_F A 3 w) 4 s) J := by
  obtain ⟨ht, hs, ho1, _, hf, hk⟩ := hR
  have f0 := ho 0 (by decide) (by decide) (by decide); have f1 := ho 1 (by decide) (by decide) (by decide); have f2 := ho 2 (by decide) (by decide) (by decide); have f3 := ho 3 (by decide) (by decide) (by decide); have f4 := ho 4 (by decide) (by decide) (by decide); have f5 := ho 5 (by decide) (by decide) (by decide); have f47 := ho 47 (by decide) (by decide) (by decide); have f48 := ho 48 (by decide) (by decide) (by decide); have f50 := ho 50 (by decide) (by decide) (by decide); have f51 := ho 51 (by decide) (by decide) (by decide); have f52 := ho 52 (by decide) (by decide) (by decide)
  refine ⟨?_, ?_, ?_, hq, ?_, ?_⟩
  · unfold RXt; rw [f1, f2]; exact ht
  · unfold RXs; rw [f3, f4, f5]; exact hs
  · unfold RXo; rw [f0]; exact ho1
  · unfold RXf; rw [f50, f51, f52]; exact hf
  · unfold RXk; rw [f47, f48]; exact hk
theorem oX_predictor {A : sA} {I : mm_I} {x a b c s : Int32} (hR : RX A I) : mm_Mi 76 [.ref 0, .int x, .int a, .int b, .int c, .int s] I (oR (oPred A x a b c s) RX FX I) := by
  have no : ¬ ((5 ≤ x ∧ x ≤ 7) ∧ okW a ∧ okW b ∧ okW c ∧ (0 ≤ s ∧ s ≤ 4)) → oR (oPred A x a b c s) RX FX I (-1) I := fun h => by
    unfold oPred
    rw [if_neg h]
    exact ⟨rfl, hR, FX.rf⟩
  have l87 : x < 8 → x ≤ 7 := fun h => by
    rw [lt_I] at h
    rw [le_I]
    have h : x.toInt < 8 := h
    show x.toInt ≤ 7
    omega
  have n87 : 8 ≤ x → ¬ x ≤ 7 := fun h z => by
    rw [le_I] at h z
    have h : 8 ≤ x.toInt := h
    have z : x.toInt ≤ 7 := z
    omega
  refine e_WS_predictor x a b c s ⟨fun h => no (fun z => absurd h (fa_nlt z.1.1)), fun h5 => ⟨fun h => no (fun z => n87 h z.1.2), fun h8 => sp_X_isShift ⟨fun h => no (fun z => (b1_0.mp h) z.2.2.2.2), fun hs => sp_X_isWeight ⟨fun h => no (fun z => (b1_0.mp h) z.2.1), fun ha => sp_X_isWeight ⟨fun h => no (fun z => (b1_0.mp h) z.2.2.1), fun hb => sp_X_isWeight ⟨fun hc => ?_, fun h => no (fun z => (b1_0.mp h) z.2.2.2.1)⟩⟩⟩⟩⟩⟩
  have hx : 5 ≤ x ∧ x ≤ 7 := ⟨h5, l87 h8⟩
  obtain ⟨p, p5, p7, rfl⟩ := btw (a := 5) (b := 7) rfl rfl hx
  refine sp_X_tell (Or.inl rfl) p5 (by omega) hR.2.2.2.1 (fun J a1 a2 => ⟨vp_in_nI (by omega) (by omega), ?_⟩)
  have cp : (nI p).toNatClampNeg = p := nI_clamp (by omega)
  unfold oPred
  rw [if_pos ⟨hx, b1_n ha, b1_n hb, b1_n hc, b1_n hs⟩, cp]
  refine ⟨?_, RX_q hR a1 a2, fun e he => a2 e (by omega) (by omega) (by omega)⟩
  have := a1.2.2.1 p (by omega)
  unfold o_od at this
  rw [if_neg (by omega)] at this
  exact this
theorem lX_forget {P : mm_I → Prop} {I : mm_I} (H : ∀ J, (∀ j, j < 2 → J 5 j = 0) → (∀ a, a ≠ 5 → J a = I a) → P (mm_up (mm_up (mm_up J 3 2 0) 3 3 0) 3 4 1)) : mm_Mv 46 [.ref 3] I P := by
  refine e_Sound_forget (c_Sound_forget_2 0 ⟨fun z => absurd z (by decide), fun _ => ⟨mm_vpc (by decide), c_Sound_forget_2 1 ⟨fun z => absurd z (by decide), fun _ => ⟨mm_vpc (by decide), c_Sound_forget_2 2 ⟨fun _ => ?_, fun z => absurd z (by decide)⟩⟩⟩⟩⟩)
  refine H _ (fun j hj => ?_) (fun a ha => by rw [up_o ha, up_o ha])
  rcases (by omega : j = 0 ∨ j = 1) with rfl | rfl <;> rfl
theorem RXq_c {d : Nat} {w w' s s' : Nat → Int32} {I : mm_I} (h : RXq d w s I) (hw : ∀ j, j < 9 → w j = w' j) (hs : ∀ j, j < 3 → s j = s' j) : RXq d w' s' I := by
  obtain ⟨d1, d2, d3, d4⟩ := h
  refine ⟨d1, fun q j hq hj => by rw [← hw _ (by omega)]; exact d2 q j hq hj, fun p hp => by rw [← o_od_c hp hw]; exact d3 p hp, fun p hp => ?_⟩
  rw [d4 p hp]
  unfold o_sf
  by_cases q5 : p < 5
  · rw [if_pos q5, if_pos q5]
  · rw [if_neg q5, if_neg q5, hs _ (by omega)]
theorem sp_X_pforget {P : mm_I → Prop} {w s : Nat → Int32} {I : mm_I} (hq : RXq 6 w s I) (H : ∀ J, RXq 6 (fun _ => 0) (fun _ => 0) J → (∀ e, e ≠ 7 → e ≠ 8 → e ≠ 9 → J e = I e) → P J) : mm_Mv 19 [.ref 6] I P := by
  refine e_Pred_forget (Or.inl rfl) (c_Pred_forget_2 (Or.inl rfl) (nI 5) ⟨fun z => absurd z (by decide), fun _ => ?_⟩)
  refine sp_X_tell (p := 5) (Or.inl rfl) (by omega) (by omega) hq (fun J1 a1 a2 => c_Pred_forget_2 (Or.inl rfl) (nI 6) ⟨fun z => absurd z (by decide), fun _ => ?_⟩)
  refine sp_X_tell (p := 6) (Or.inl rfl) (by omega) (by omega) a1 (fun J2 b1 b2 => c_Pred_forget_2 (Or.inl rfl) (nI 7) ⟨fun z => absurd z (by decide), fun _ => ?_⟩)
  refine sp_X_tell (p := 7) (Or.inl rfl) (by omega) (by omega) b1 (fun J3 c1 c2 => c_Pred_forget_2 (Or.inl rfl) (nI 8) ⟨fun _ => ?_, fun z => absurd z (by decide)⟩)
  refine H J3 (RXq_c c1 (fun j hj => ?_) (fun j hj => ?_)) (fun e h1 h2 h3 => by rw [c2 e h1 h2 h3, b2 e h1 h2 h3, a2 e h1 h2 h3])
  · rcases (by omega : j = 0 ∨ j = 1 ∨ j = 2 ∨ j = 3 ∨ j = 4 ∨ j = 5 ∨ j = 6 ∨ j = 7 ∨ j = 8) with rfl | rfl | rfl | rfl | rfl | rfl | rfl | rfl | rfl <;> rfl
  · rcases (by omega : j = 0 ∨ j = 1 ∨ j = 2) with rfl | rfl | rfl <;> rfl
theorem oX_clear {A : sA} {I : mm_I} (hR : RX A I) : mm_Mi 74 [.ref 0] I (oR (oClear A) RX FX I) := by
  obtain ⟨ht, hs, ho, hp, hf, hk⟩ := hR
  refine e_WS_clear (lX_forget (fun J a1 a2 => ?_))
  have f7 := a2 7 (by decide); have f8 := a2 8 (by decide); have f9 := a2 9 (by decide)
  have hq : RXq 6 (s_wt A) (s_sh A) (mm_up (mm_up (mm_up J 3 2 0) 3 3 0) 3 4 1) := by
    have g7 : (mm_up (mm_up (mm_up J 3 2 0) 3 3 0) 3 4 1) 7 = I 7 := by rw [up_o (by decide), up_o (by decide), up_o (by decide), f7, up_o (by decide)]
    have g8 : (mm_up (mm_up (mm_up J 3 2 0) 3 3 0) 3 4 1) 8 = I 8 := by rw [up_o (by decide), up_o (by decide), up_o (by decide), f8, up_o (by decide)]
    have g9 : (mm_up (mm_up (mm_up J 3 2 0) 3 3 0) 3 4 1) 9 = I 9 := by rw [up_o (by decide), up_o (by decide), up_o (by decide), f9, up_o (by decide)]
    unfold RXq
    rw [g7, g8, g9]
    exact hp
  refine sp_X_pforget hq (fun K b1 b2 => ⟨hs.1, ?_, ?_⟩)
  · have kk : ∀ e, e ≠ 3 → e ≠ 5 → e ≠ 7 → e ≠ 8 → e ≠ 9 → e ≠ 1 → K e = I e := fun e h1 h2 h3 h4 h5 h6 => by rw [b2 e h3 h4 h5, up_o h1, up_o h1, up_o h1, a2 e h2, up_o h6]
    have k3 : ∀ j, K 3 j = (mm_up (mm_up (mm_up J 3 2 0) 3 3 0) 3 4 1) 3 j := fun j => congrFun (b2 3 (by decide) (by decide) (by decide)) j
    have k5 : ∀ j, j < 2 → K 5 j = 0 := fun j hj => by rw [b2 5 (by decide) (by decide) (by decide), up_o (by decide), up_o (by decide), up_o (by decide)]; exact a1 j hj
    have k1 : K 1 1 = 0 := by rw [b2 1 (by decide) (by decide) (by decide), up_o (by decide), up_o (by decide), up_o (by decide), a2 1 (by decide)]; rfl
    have f47 := kk 47 (by decide) (by decide) (by decide) (by decide) (by decide) (by decide); have f48 := kk 48 (by decide) (by decide) (by decide) (by decide) (by decide) (by decide); have f50 := kk 50 (by decide) (by decide) (by decide) (by decide) (by decide) (by decide); have f51 := kk 51 (by decide) (by decide) (by decide) (by decide) (by decide) (by decide); have f52 := kk 52 (by decide) (by decide) (by decide) (by decide) (by decide) (by decide)
    refine ⟨⟨k1, fun i hi => absurd hi (Nat.not_lt_zero i)⟩, ⟨k3 2, k3 3, k3 4, fun c hc => ?_, fun c i hc hi => ?_⟩, ⟨rfl, rfl, rfl⟩, b1, ?_, ?_⟩
    · rw [show (mm_up (mm_up (mm_up K 0 7 32) 0 8 1) 0 9 255) 5 c = K 5 c from rfl, k5 c hc]
      rcases (by omega : c = 0 ∨ c = 1) with rfl | rfl <;> rfl
    · exfalso
      rcases (by omega : c = 0 ∨ c = 1) with rfl | rfl
      · exact absurd hi (Nat.not_lt_zero i)
      · exact absurd hi (Nat.not_lt_zero i)
    · show RXf K
      unfold RXf; rw [f50, f51, f52]; exact hf
    · show K 47 1 = nI (s_su A) ∧ K 47 2 = 0 ∧ ∀ i, i < s_su A → K 48 i = s_sb A i
      rw [f47, f48]
      exact hk
  · intro a ha
    rw [up_o (by omega), up_o (by omega), up_o (by omega), b2 a (by omega) (by omega) (by omega), up_o (by omega), up_o (by omega), up_o (by omega), a2 a (by omega), up_o (by omega)]
