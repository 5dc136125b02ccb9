/-! the class: what is told, part 1 -/
theorem if2 (x lo hi : Int32) : (if x < lo then (0 : Int32) else (if hi < x then (0 : Int32) else 1)) = b1 (lo ≤ x ∧ x ≤ hi) := by
  by_cases h : lo ≤ x ∧ x ≤ hi
  · rw [b1_t h, if_neg (fa_nlt h.1), if_neg (fa_nlt h.2)]
  · rw [b1_f h]
    by_cases h1 : x < lo
    · rw [if_pos h1]
    · rw [if_neg h1, if_pos]
      exact fa_nle' (fun z => h ⟨fa_nlt' h1, z⟩)
theorem hasG {x : Int32} {n N : Nat} (M : Int32) (hM : M = nI N) (hn : n ≤ N) (hN : N < 2147483648) : (if x < 0 then (0 : Int32) else (if nI n ≤ x then (0 : Int32) else (if M ≤ x then (0 : Int32) else 1))) = b1 (0 ≤ x ∧ x ≤ nI n - 1) := by
  subst hM
  by_cases h : 0 ≤ x ∧ x ≤ nI n - 1
  · rw [b1_t h]
    obtain ⟨c, hc, rfl⟩ := (plc (by omega) x).mp h
    rw [if_neg (nI_pos (by omega)), if_neg (nI_ge (by omega) (by omega)), if_neg (nI_ge (by omega) (by omega))]
  · rw [b1_f h]
    by_cases h1 : x < 0
    · rw [if_pos h1]
    · rw [if_neg h1]
      by_cases h2 : nI n ≤ x
      · rw [if_pos h2]
      · obtain ⟨j, hj, rfl⟩ := nI_of h1
        exact absurd ((plc (by omega) _).mpr ⟨j, by
          rcases Nat.lt_or_ge j n with z | z
          · exact z
          · exact absurd (nI_le z hj) h2, rfl⟩) h
theorem sp_X_has {P : Int32 → mm_I → Prop} {I : mm_I} {ch : Nat} {x : Int32} (hc : ch ≤ 2) (e : I 3 2 = nI ch) (H : P (b1 (0 ≤ x ∧ x ≤ nI ch - 1)) I) : mm_Mi 47 [.ref 3, .int x] I P := by
  refine e_Sound_has x ?_
  rw [e, hasG (N := 2) 2 rfl hc (by omega)]
  exact ⟨b1_01, H⟩
theorem sp_X_shas {P : Int32 → mm_I → Prop} {I : mm_I} {u : Nat} {x : Int32} (hu : u ≤ 4000) (e : I 47 1 = nI u) (H : P (b1 (0 ≤ x ∧ x ≤ nI u - 1)) I) : mm_Mi 57 [.ref 47, .int x] I P := by
  refine e_Store_has x ?_
  rw [e, hasG (N := 4000) 4000 rfl hu (by omega)]
  exact ⟨b1_01, H⟩
theorem sp_X_isFrame {P : Int32 → mm_I → Prop} {I : mm_I} {x : Int32} (H : P (b1 (o_isF x)) I) : mm_Mi 118 [.int x] I P := by
  refine e_WS_isFrame x ⟨fun h => ?_, fun h => ⟨fun h2 => ?_, fun h2 => ?_⟩⟩
  · rw [b1_f (fun z => absurd h (fa_nlt z.1.1))] at H; exact H
  · rw [b1_f (fun z => absurd h2 (fa_nlt z.1.2))] at H; exact H
  · by_cases h3 : (x - x / 8 * 8) = 0
    · rw [if_pos h3]
      rw [b1_t ⟨⟨h, h2⟩, h3⟩] at H
      exact ⟨Or.inr rfl, H⟩
    · rw [if_neg h3]
      rw [b1_f (fun z => h3 z.2)] at H
      exact ⟨Or.inl rfl, H⟩
theorem sp_X_isWidth {P : Int32 → mm_I → Prop} {I : mm_I} {x : Int32} (H : P (b1 (x = 8 ∨ x = 16)) I) : mm_Mi 117 [.int x] I P := by
  have e : (if x = 8 then (1 : Int32) else (if x = 16 then (1 : Int32) else 0)) = b1 (x = 8 ∨ x = 16) := by
    by_cases h : x = 8
    · rw [if_pos h, b1_t (Or.inl h)]
    · rw [if_neg h]
      by_cases h2 : x = 16
      · rw [if_pos h2, b1_t (Or.inr h2)]
      · rw [if_neg h2, b1_f (fun z => by rcases z with z | z; exact h z; exact h2 z)]
  refine e_WS_isWidth x ?_
  rw [e]
  exact ⟨b1_01, H⟩
theorem sp_X_isShift {P : Int32 → mm_I → Prop} {I : mm_I} {x : Int32} (H : P (b1 (0 ≤ x ∧ x ≤ 4)) I) : mm_Mi 119 [.int x] I P := by
  refine e_WS_isShift x ?_
  rw [if2]
  exact ⟨b1_01, H⟩
theorem sp_X_isWeight {P : Int32 → mm_I → Prop} {I : mm_I} {x : Int32} (H : P (b1 (okW x)) I) : mm_Mi 120 [.int x] I P := by
  refine e_WS_isWeight x ?_
  rw [if2]
  exact ⟨b1_01, H⟩
theorem oX_frame {A : sA} {I : mm_I} {x : Int32} (hR : RX A I) : mm_Mi 75 [.ref 0, .int x] I (oR (oFrame A x) RX FX I) := by
  refine e_WS_frame x (sp_X_isFrame ⟨fun h => ?_, fun h => ?_⟩)
  · have h := b1_n h
    obtain ⟨n, h1, h2, h3, rfl⟩ := isF_nat h
    unfold oFrame
    rw [if_pos h]
    obtain ⟨ht, hs, ⟨o1, o2, o3⟩, hp, hf, hk⟩ := hR
    refine ⟨o1, ⟨ht, hs, ⟨?_, o2, o3⟩, hp, hf, hk⟩, FX.rf.up (by omega)⟩
    show nI n = nI (nI n).toNatClampNeg
    rw [nI_clamp (by omega)]
  · rw [b1_0] at h
    unfold oFrame
    rw [if_neg h]
    exact ⟨rfl, hR, FX.rf⟩
theorem oX_effort {A : sA} {I : mm_I} {x : Int32} (hR : RX A I) : mm_Mi 77 [.ref 0, .int x] I (oR (oEffort A x) RX FX I) := by
  have no : ¬ (0 ≤ x ∧ x ≤ 1) → oR (oEffort A x) RX FX I (-1) I := fun h => by
    unfold oEffort
    rw [if_neg h]
    exact ⟨rfl, hR, FX.rf⟩
  refine e_WS_effort x ⟨fun h => no (fun z => absurd h (fa_nlt z.1)), fun h => ⟨fun h2 => ?_, fun h2 => no (fun z => absurd h2 (fa_nlt z.2))⟩⟩
  have hh : 0 ≤ x ∧ x ≤ 1 := ⟨h, h2⟩
  obtain ⟨n, h1, h3, rfl⟩ := btw (a := 0) (b := 1) rfl rfl hh
  unfold oEffort
  rw [if_pos hh]
  obtain ⟨ht, hs, ⟨o1, o2, o3⟩, hp, hf, hk⟩ := hR
  refine ⟨o2, ⟨ht, hs, ⟨o1, ?_, o3⟩, hp, hf, hk⟩, FX.rf.up (by omega)⟩
  show nI n = nI (nI n).toNatClampNeg
  rw [nI_clamp (by omega)]
theorem oX_allow {A : sA} {I : mm_I} {x : Int32} (hR : RX A I) : mm_Mi 78 [.ref 0, .int x] I (oR (oAllow A x) RX FX I) := by
  have no : ¬ (0 ≤ x ∧ x ≤ 255) → oR (oAllow A x) RX FX I (-1) I := fun h => by
    unfold oAllow
    rw [if_neg h]
    exact ⟨rfl, hR, FX.rf⟩
  refine e_WS_allow x ⟨fun h => no (fun z => absurd h (fa_nlt z.1)), fun h => ⟨fun h2 => ?_, fun h2 => no (fun z => absurd h2 (fa_nlt z.2))⟩⟩
  have hh : 0 ≤ x ∧ x ≤ 255 := ⟨h, h2⟩
  obtain ⟨n, h1, h3, rfl⟩ := btw (a := 0) (b := 255) rfl rfl hh
  unfold oAllow
  rw [if_pos hh]
  obtain ⟨ht, hs, ⟨o1, o2, o3⟩, hp, hf, hk⟩ := hR
  exact ⟨o3, ⟨ht, hs, ⟨o1, o2, (or1_all n (by omega)).1⟩, hp, hf, hk⟩, FX.rf.up (by omega)⟩
theorem oX_store {A : sA} {I : mm_I} {x : Int32} (hR : RX A I) (hV : VA A) : mm_Mi 102 [.ref 0, .int x] I (oR (oStore A x) RX FX I) := by
  have hsu := hV.su
  refine e_WS_store x (sp_X_shas hsu hR.2.2.2.2.2.1 ?_)
  unfold oStore
  by_cases h : 0 ≤ x ∧ x ≤ nI (s_su A) - 1
  · obtain ⟨c, hc, rfl⟩ := (plc (by omega) x).mp h
    rw [b1_t h, if_neg (show ¬ (1 : Int32) = 0 by decide), if_pos h]
    refine ⟨fun _ => ⟨vp_in_nI (by omega) (by omega), trivial⟩, ?_, hR, FX.rf⟩
    show I 48 (nI c).toNatClampNeg = s_sb A (nI c).toNatClampNeg
    rw [nI_clamp (by omega)]
    exact hR.2.2.2.2.2.2.2 c hc
  · rw [b1_f h, if_pos rfl, if_neg h]
    exact ⟨fun z => absurd rfl z, rfl, hR, FX.rf⟩
theorem oX_spoil {A : sA} {I : mm_I} {x y : Int32} (hR : RX A I) (hV : VA A) : mm_Mi 103 [.ref 0, .int x, .int y] I (oR (oSpoil A x y) RX FX I) := by
  have hsu := hV.su
  have no : ¬ ((0 ≤ x ∧ x ≤ nI (s_su A) - 1) ∧ (1 ≤ y ∧ y ≤ 255)) → oR (oSpoil A x y) RX FX I (-1) I := fun h => by
    unfold oSpoil
    rw [if_neg h]
    exact ⟨rfl, hR, FX.rf⟩
  refine e_WS_spoil x y (sp_X_shas hsu hR.2.2.2.2.2.1 ⟨fun h => no (fun z => (b1_0.mp h) z.1), fun h => ⟨fun h2 => no (fun z => absurd h2 (fa_nlt z.2.1)), fun h2 => ⟨fun h3 => ?_, fun h3 => no (fun z => absurd h3 (fa_nlt z.2.2))⟩⟩⟩)
  have h := b1_n h
  obtain ⟨c, hc, rfl⟩ := (plc (by omega) x).mp h
  unfold oSpoil
  rw [if_pos ⟨h, h2, h3⟩]
  have v := vp_in_nI (n := c) (N := 4000) (by omega) (by omega)
  have ec : (nI c).toNatClampNeg = c := nI_clamp (by omega)
  have es : I 48 c = s_sb A c := hR.2.2.2.2.2.2.2 c hc
  refine ⟨v, v, v, ?_, ?_, FX.rf.up (by omega)⟩
  · rw [ec, up_a, if_pos rfl, es]
  · obtain ⟨ht, hs, ho, hp, hf, hk1, hk3, hk2⟩ := hR
    refine ⟨ht, hs, ho, hp, hf, hk1, hk3, fun i hi => ?_⟩
    rw [ec, up_a]
    show (if i = c then I 48 c ^^^ y else I 48 i) = upd (s_sb A) c (s_sb A c ^^^ y) i
    unfold upd
    by_cases hic : i = c
    · rw [if_pos hic, if_pos hic, es]
    · rw [if_neg hic, if_neg hic]
      exact hk2 i hi
theorem oX_drop {A : sA} {I : mm_I} {x : Int32} (hR : RX A I) (hV : VA A) : mm_Mi 104 [.ref 0, .int x] I (oR (oDrop A x) RX FX I) := by
  have hsu := hV.su
  have e : I 47 1 = nI (s_su A) := hR.2.2.2.2.2.1
  have no : ¬ (0 ≤ x ∧ x ≤ nI (s_su A)) → oR (oDrop A x) RX FX I (-1) I := fun h => by
    unfold oDrop
    rw [if_neg h]
    exact ⟨rfl, hR, FX.rf⟩
  refine e_WS_drop x ?_
  rw [e]
  refine ⟨fun h => no (fun z => absurd h (fa_nlt z.1)), fun h => ⟨fun h2 => ?_, fun h2 => no (fun z => absurd h2 (fa_nlt z.2))⟩⟩
  have hh : 0 ≤ x ∧ x ≤ nI (s_su A) := ⟨h, h2⟩
  obtain ⟨c, -, hc, rfl⟩ := btw (a := 0) (b := s_su A) rfl (nI_toInt (by omega)) hh
  unfold oDrop
  rw [if_pos hh]
  obtain ⟨ht, hs, ho, hp, hf, hk1, hk3, hk2⟩ := hR
  refine ⟨rfl, ⟨ht, hs, ho, hp, hf, ?_, hk3, fun i hi => hk2 i ?_⟩, FX.rf.up (by omega)⟩
  · show nI (s_su A) - nI c = nI (s_su A - (nI c).toNatClampNeg)
    rw [nI_clamp (by omega), pk_sub hc]
  · have hi : i < s_su A - (nI c).toNatClampNeg := hi
    omega
theorem lX_take {P : Int32 → mm_I → Prop} {r : Int32} {su : Nat} (hsu : su ≤ 4000) : ∀ (n c : Nat) (I : mm_I), c + n = su → 0 < c → I 47 1 = nI su → (∀ J, (∀ j, J 48 j = if c - 1 ≤ j ∧ j + 1 < su then I 48 (j + 1) else I 48 j) → (∀ a, a ≠ 48 → J a = I a) → P r (mm_up J 47 1 (nI su - 1))) → mm_W 105 27 [some (.ref 0), none, some (.int r), some (.int (nI c))] [] I (mm_qi 105 P) := by
  intro n
  induction n with
  | zero =>
    intro c I hc h0 e H
    refine c_WS_take_27 r (nI c) ⟨fun _ => ?_, fun h => ?_⟩
    · rw [e]
      exact H I (fun j => by rw [if_neg (by omega)]) (fun _ _ => rfl)
    · rw [e] at h
      exact absurd h (nI_nlt (by omega) (by omega))
  | succ n ih =>
    intro c I hc h0 e H
    refine c_WS_take_27 r (nI c) ⟨fun h => ?_, fun h => ?_⟩
    · rw [e] at h
      exact absurd h (nI_ge (by omega) (by omega))
    · have e1 : nI c - 1 = nI (c - 1) := by
        have := pk_sub (a := c) (b := 1) (by omega)
        exact this
      rw [e1, nI_clamp (n := c) (by omega), nI_clamp (n := c - 1) (by omega), nI_1]
      refine ⟨vp_in_nI (by omega) (by omega), vp_in_nI (by omega) (by omega), ih (c + 1) _ (by omega) (by omega) e (fun J hJ hJo => H J (fun j => ?_) (fun a ha => ?_))⟩
      · rw [hJ j, up_a, up_a]
        by_cases q : j = c - 1
        · subst q
          rw [if_neg (by omega), if_pos rfl, if_pos (by omega)]
          congr 1
          omega
        · by_cases q2 : c + 1 - 1 ≤ j ∧ j + 1 < su
          · rw [if_pos q2, if_neg (by omega), if_pos (by omega)]
          · rw [if_neg q2, if_neg q, if_neg (by omega)]
      · rw [hJo a ha, up_o ha]
theorem RX_k {A : sA} {I J : mm_I} {u : Nat} {g : Nat → Int32} (hR : RX A I) (h1 : J 47 1 = nI u) (h2 : J 47 2 = 0) (h3 : ∀ i, i < u → J 48 i = g i) (ho : ∀ a, a ≠ 47 → a ≠ 48 → J a = I a) : RX (s_N (s_F A 5 g) 8 u) J := by
  obtain ⟨⟨a1, a2⟩, ⟨b1, b2, b3, b4, b5⟩, ⟨c1, c2, c3⟩, ⟨d1, d2, d3, d4⟩, ⟨g1, g2, g3⟩, _⟩ := hR
  have f0 := ho 0 (by decide) (by decide); have f1 := ho 1 (by decide) (by decide); have f2 := ho 2 (by decide) (by decide); have f3 := ho 3 (by decide) (by decide); have f4 := ho 4 (by decide) (by decide); have f5 := ho 5 (by decide) (by decide); have f7 := ho 7 (by decide) (by decide); have f8 := ho 8 (by decide) (by decide); have f9 := ho 9 (by decide) (by decide); have f50 := ho 50 (by decide) (by decide); have f51 := ho 51 (by decide) (by decide); have f52 := ho 52 (by decide) (by decide)
  refine ⟨?_, ?_, ?_, ?_, ?_, h1, h2, h3⟩
  · unfold RXt; rw [f1, f2]; exact ⟨a1, a2⟩
  · unfold RXs; rw [f3, f4, f5]; exact ⟨b1, b2, b3, b4, b5⟩
  · unfold RXo; rw [f0]; exact ⟨c1, c2, c3⟩
  · unfold RXq; rw [f7, f8, f9]; exact ⟨d1, d2, d3, d4⟩
  · unfold RXf; rw [f50, f51, f52]; exact ⟨g1, g2, g3⟩
theorem oX_take {A : sA} {I : mm_I} {x : Int32} (hR : RX A I) (hV : VA A) : mm_Mi 105 [.ref 0, .int x] I (oR (oTake A x) RX FX I) := by
  have hsu := hV.su
  have e : I 47 1 = nI (s_su A) := hR.2.2.2.2.2.1
  refine e_WS_take x (sp_X_shas hsu e ⟨fun h => ?_, fun h => ?_⟩)
  · have h := b1_n h
    obtain ⟨c, hc, rfl⟩ := (plc (by omega) x).mp h
    have ec : (nI c).toNatClampNeg = c := nI_clamp (by omega)
    unfold oTake
    rw [if_pos h, ec, nI_1]
    refine ⟨vp_in_nI (by omega) (by omega), lX_take hsu (s_su A - (c + 1)) (c + 1) _ (by omega) (by omega) e (fun J hJ hJo => ⟨?_, ?_, ?_⟩)⟩
    · exact hR.2.2.2.2.2.2.2 c hc
    · refine RX_k hR ?_ ?_ (fun i hi => ?_) (fun a h1 h2 => by rw [up_o h1, hJo a h2])
      · show nI (s_su A) - 1 = nI (s_su A - 1)
        exact pk_sub (a := s_su A) (b := 1) (by omega)
      · show J 47 2 = 0
        rw [hJo 47 (by decide)]
        exact hR.2.2.2.2.2.2.1
      · show J 48 i = if i < c then s_sb A i else s_sb A (i + 1)
        rw [hJ i]
        by_cases q : i < c
        · rw [if_pos q, if_neg (by omega)]
          exact hR.2.2.2.2.2.2.2 i (by omega)
        · rw [if_neg q, if_pos (by omega)]
          exact hR.2.2.2.2.2.2.2 (i + 1) (by omega)
    · intro a ha
      rw [up_o (by omega), hJo a (by omega)]
  · rw [b1_0] at h
    unfold oTake
    rw [if_neg h]
    exact ⟨rfl, hR, FX.rf⟩
theorem sp_X_ready {P : Int32 → mm_I → Prop} {A : sA} {I : mm_I} (hR : RXs A I) (hV : VA A) (H : P (b1 (rdy A)) I) : mm_Mi 54 [.ref 3] I P := by
  have hch := hV.ch
  have e : (if (I 3 2) = 1 then (1 : Int32) else (if (I 3 2) = 2 then ((if (I 5 0) = (I 5 1) then (1 : Int32) else 0) : Int32) else 0)) = b1 (rdy A) := by
    rw [hR.1]
    by_cases h1 : s_ch A = 1
    · rw [if_pos (by rw [h1]; rfl), b1_t (Or.inl h1)]
    · have n1 : ¬ nI (s_ch A) = 1 := fun z => h1 ((nI_eq (b := 1) (by omega) (by omega)).mp z)
      rw [if_neg n1]
      by_cases h2 : s_ch A = 2
      · rw [if_pos (by rw [h2]; rfl), hR.2.2.2.1 0 (by omega), hR.2.2.2.1 1 (by omega)]
        have c0 := hV.cn (c := 0) (by omega)
        have c1 := hV.cn (c := 1) (by omega)
        by_cases h3 : s_cn A 0 = s_cn A 1
        · rw [if_pos (by rw [h3]), b1_t (Or.inr ⟨h2, h3⟩)]
        · rw [if_neg (fun z => h3 ((nI_eq (by omega) (by omega)).mp z)), b1_f (by rintro (z | z); exact h1 z; exact h3 z.2)]
      · have n2 : ¬ nI (s_ch A) = 2 := fun z => h2 ((nI_eq (b := 2) (by omega) (by omega)).mp z)
        rw [if_neg n2, b1_f (by rintro (z | z); exact h1 z; exact h2 z.1)]
  refine e_Sound_ready ?_
  rw [e]
  exact ⟨b1_01, H⟩
theorem sp_X_frames {P : Int32 → mm_I → Prop} {A : sA} {I : mm_I} {fr : Nat} (hR : RXs A I) (hV : VA A) (hf : 16 ≤ fr ∧ fr ≤ 64) (H : P (nI (nfs A fr)) I) : mm_Mi 55 [.ref 3, .int (nI fr)] I P := by
  have hc := hV.cn (c := 0) (by omega)
  refine e_Sound_frames _ (sp_X_ready hR hV ⟨fun h => ?_, fun h => ⟨fun z => absurd z (nI_nle (by omega) (by omega)), fun _ => ⟨nI_ne0 (by omega) (by omega), ?_⟩⟩⟩)
  · have : nfs A fr = 0 := if_neg (b1_0.mp h)
    rw [this] at H
    exact H
  · have h := b1_n h
    have e : (I 5 0 + nI fr - 1) / nI fr = nI (nfs A fr) := by
      have e1 := pk_sub (a := s_cn A 0 + fr) (b := 1) (by omega)
      rw [hR.2.2.2.1 0 (by omega), nI_add]
      show (nI (s_cn A 0 + fr) - nI 1) / _ = _
      rw [e1, pk_div (by omega) (by omega) (by omega)]
      unfold nfs
      rw [if_pos h]
    rw [e]
    exact H
theorem nfs_fr (A : sA) : nfs A (s_fr A) = nfr A := rfl
theorem oX_count {A : sA} {I : mm_I} {x : Int32} (hR : RX A I) (hV : VA A) : mm_Mi 116 [.ref 0, .int x] I (oR (oCount A x) RX FX I) := by
  have hR0 := hR
  have hch := hV.ch
  obtain ⟨ht, hs, ho, hp, hf, hk⟩ := hR
  have fin : ∀ r, r = (oCount A x).1 → oR (oCount A x) RX FX I r I := fun r e => ⟨e, hR0, FX.rf⟩
  refine e_WS_count x ⟨fun h => ?_, fun h => ?_, fun h => ?_, fun h => ?_, fun h => ?_, fun h => ?_, fun h => ?_, fun h => ?_, fun h => ?_, fun h => ?_, fun h => ?_, fun h0 h1 h2 h3 h4 h5 h6 h7 h8 h9 h10 => ?_⟩
  · subst h; exact fin _ hs.1
  · subst h; exact fin _ hs.2.1
  · subst h; exact fin _ ho.1
  · subst h; exact fin _ ho.2.1
  · subst h; exact fin _ ho.2.2
  · subst h
    refine sp_X_has hch hs.1 ?_
    by_cases hc : 0 < s_ch A
    · have hb : 0 ≤ (5 : Int32) - 5 ∧ (5 : Int32) - 5 ≤ nI (s_ch A) - 1 := (nch hch _).mpr ⟨0, hc, rfl⟩
      rw [b1_t hb, if_neg (show ¬ (1 : Int32) = 0 by decide)]
      refine ⟨fun _ => ⟨mm_vpc (by decide), trivial⟩, fin _ ?_⟩
      show I 5 0 = (if 0 < s_ch A then nI (s_cn A 0) else -1)
      rw [if_pos hc]
      exact hs.2.2.2.1 0 (by omega)
    · have hb : ¬ (0 ≤ (5 : Int32) - 5 ∧ (5 : Int32) - 5 ≤ nI (s_ch A) - 1) := fun z => by
        obtain ⟨d, hd, _⟩ := (nch hch _).mp z
        omega
      rw [b1_f hb, if_pos rfl]
      refine ⟨fun z => absurd rfl z, fin _ ?_⟩
      show (-1 : Int32) = (if 0 < s_ch A then nI (s_cn A 0) else -1)
      rw [if_neg hc]
  · subst h
    refine sp_X_has hch hs.1 ?_
    by_cases hc : 1 < s_ch A
    · have hb : 0 ≤ (6 : Int32) - 5 ∧ (6 : Int32) - 5 ≤ nI (s_ch A) - 1 := (nch hch _).mpr ⟨1, hc, rfl⟩
      rw [b1_t hb, if_neg (show ¬ (1 : Int32) = 0 by decide)]
      refine ⟨fun _ => ⟨mm_vpc (by decide), trivial⟩, fin _ ?_⟩
      show I 5 1 = (if 1 < s_ch A then nI (s_cn A 1) else -1)
      rw [if_pos hc]
      exact hs.2.2.2.1 1 (by omega)
    · have hb : ¬ (0 ≤ (6 : Int32) - 5 ∧ (6 : Int32) - 5 ≤ nI (s_ch A) - 1) := fun z => by
        obtain ⟨d, hd, e⟩ := (nch hch _).mp z
        have e : nI 1 = nI d := e
        have := (nI_eq (by omega) (by omega)).mp e
        omega
      rw [b1_f hb, if_pos rfl]
      refine ⟨fun z => absurd rfl z, fin _ ?_⟩
      show (-1 : Int32) = (if 1 < s_ch A then nI (s_cn A 1) else -1)
      rw [if_neg hc]
  · subst h
    have := hV.fr
    rw [ho.1]
    exact sp_X_frames (A := A) hs hV ⟨by omega, by omega⟩ (fin _ rfl)
  · subst h; exact fin _ hk.1
  · subst h; exact fin _ ht.1
  · subst h; exact fin _ hs.2.2.1
  · refine fin _ ?_
    unfold oCount
    rw [if_neg h0, if_neg h1, if_neg h2, if_neg h3, if_neg h4, if_neg h5, if_neg h6, if_neg h7, if_neg h8, if_neg h9, if_neg h10]
theorem oX_channel {A : sA} {I : mm_I} {x : Int32} (hR : RX A I) (hV : VA A) : mm_Mi 69 [.ref 0, .int x] I (oR (oChannel A x) RX FX I) := by
  have hR0 := hR
  obtain ⟨ht, hs, ho, hp, hf, hk⟩ := hR
  have hch := hV.ch
  have no : ¬ ((x = 8 ∨ x = 16) ∧ (s_ch A = 0 ∨ x = nI (s_wd A)) ∧ s_ch A < 2) → oR (oChannel A x) RX FX I (-1) I := fun h => by
    unfold oChannel
    rw [if_neg h]
    exact ⟨rfl, hR0, FX.rf⟩
  refine e_WS_channel x (sp_X_isWidth ⟨fun h => no (fun z => (b1_0.mp h) z.1), fun h => ?_⟩)
  have h1 := b1_n h
  rw [hs.1, hs.2.1]
  have yes : s_ch A < 2 → (s_ch A = 0 ∨ x = nI (s_wd A)) → oR (oChannel A x) RX FX I (nI (s_ch A) + 1 - 1) (mm_up (mm_up I 3 3 x) 3 2 (nI (s_ch A) + 1)) := fun hlt h2 => by
    unfold oChannel
    rw [if_pos ⟨h1, h2, hlt⟩, nI_1]
    refine ⟨nI_pred _, ⟨ht, ⟨rfl, ?_, hs.2.2.1, hs.2.2.2.1, hs.2.2.2.2⟩, ho, hp, hf, hk⟩, (FX.rf.up (by omega)).up (by omega)⟩
    show x = nI x.toNatClampNeg
    rcases h1 with rfl | rfl <;> decide
  refine ⟨fun h2 => ⟨fun h3 => ?_, fun h3 => ⟨fun h4 => ?_, fun h4 => no (fun z => ?_)⟩⟩, fun h2 => no (fun z => ?_)⟩
  · have h2 := (nI_ltI (b := 2) (by omega) (by omega)).mp h2
    refine yes h2 (Or.inl ?_)
    rcases Nat.eq_zero_or_pos (s_ch A) with z | z
    · exact z
    · exact absurd h3 (nI_nle z (by omega))
  · have h2 := (nI_ltI (b := 2) (by omega) (by omega)).mp h2
    exact yes h2 (Or.inr h4.symm)
  · rcases z.2.1 with y | y
    · rw [y] at h3
      exact absurd h3 (by decide)
    · exact h4 y.symm
  · have h2 := (nI_leI (a := 2) (by omega) (by omega)).mp h2
    omega
theorem ixX {c i : Nat} : nI c * (256 : Int32) + nI i = nI (256 * c + i) := by
  show nI c * nI 256 + _ = _
  rw [pk_mul, nI_add, Nat.mul_comm]
theorem sp_X_valueAt {P : Int32 → mm_I → Prop} {A : sA} {I : mm_I} {c i : Nat} (hR : RXs A I) (hV : VA A) (hc : c < 2) (hi : i < s_cn A c) (H : P (s_sm A c i) I) : mm_Mi 49 [.ref 3, .int (nI c), .int (nI i)] I P := by
  have := hV.cn hc
  refine e_Sound_valueAt _ _ ?_
  rw [ixX, nI_clamp (n := 256 * c + i) (by omega), hR.2.2.2.2 c i hc hi]
  exact ⟨vp_in_nI (by omega) (by omega), H⟩
abbrev okC (A : sA) (x y : Int32) : Prop := (0 ≤ x ∧ x ≤ nI (s_ch A) - 1) ∧ (0 ≤ y ∧ y ≤ nI (s_cn A x.toNatClampNeg) - 1)
theorem sp_X_holdsPlace {P : Int32 → mm_I → Prop} {A : sA} {I : mm_I} {x y : Int32} (hR : RXs A I) (hV : VA A) (H : P (b1 (okC A x y)) I) : mm_Mi 48 [.ref 3, .int x, .int y] I P := by
  have hch := hV.ch
  refine e_Sound_holdsPlace x y (sp_X_has hch hR.1 ?_)
  by_cases h : 0 ≤ x ∧ x ≤ nI (s_ch A) - 1
  · obtain ⟨c, hc, rfl⟩ := (nch hch x).mp h
    have hcn := hV.cn (c := c) (by omega)
    have v := vp_in_nI (n := c) (N := 2) (by omega) (by omega)
    have cc : (nI c).toNatClampNeg = c := nI_clamp (by omega)
    have e : (if y < 0 then (0 : Int32) else (if nI (s_cn A c) ≤ y then (0 : Int32) else 1)) = b1 (okC A (nI c) y) := by
      by_cases h2 : 0 ≤ y ∧ y ≤ nI (s_cn A c) - 1
      · rw [b1_t (⟨h, by rw [cc]; exact h2⟩ : okC A (nI c) y)]
        obtain ⟨i, hi, rfl⟩ := (plc (by omega) y).mp h2
        rw [if_neg (nI_pos (by omega)), if_neg (nI_ge (by omega) (by omega))]
      · rw [b1_f (fun z => h2 (by have := z.2; rw [cc] at this; exact this))]
        by_cases h3 : y < 0
        · rw [if_pos h3]
        · rw [if_neg h3]
          by_cases h4 : nI (s_cn A c) ≤ y
          · rw [if_pos h4]
          · obtain ⟨j, hj, rfl⟩ := nI_of h3
            exact absurd ((plc (by omega) _).mpr ⟨j, by
              rcases Nat.lt_or_ge j (s_cn A c) with z | z
              · exact z
              · exact absurd (nI_le z hj) h4, rfl⟩) h2
    rw [b1_t h, if_neg (show ¬ (1 : Int32) = 0 by decide), cc, hR.2.2.2.1 c (by omega), e]
    exact ⟨fun _ => ⟨fun _ => ⟨v, trivial⟩, trivial⟩, b1_01, H⟩
  · rw [b1_f h, if_pos rfl]
    rw [b1_f (fun z => h z.1)] at H
    exact ⟨fun z => absurd rfl z, Or.inl rfl, H⟩
theorem oX_sample {A : sA} {I : mm_I} {x y : Int32} (hR : RX A I) (hV : VA A) : mm_Mi 79 [.ref 0, .int x, .int y] I (oR (oSample A x y) RX FX I) := by
  have hch := hV.ch
  refine e_WS_sample x y (sp_X_holdsPlace hR.2.1 hV ⟨fun h => ?_, fun h => ?_⟩)
  · refine ⟨?_, hR, FX.rf⟩
    unfold oSample
    rw [if_neg (b1_0.mp h)]
  · have h := b1_n h
    have h0 := h
    obtain ⟨hx, hy⟩ := h
    obtain ⟨c, hc, rfl⟩ := (nch hch x).mp hx
    have hcn := hV.cn (c := c) (by omega)
    have cc : (nI c).toNatClampNeg = c := nI_clamp (by omega)
    rw [cc] at hy
    obtain ⟨i, hi, rfl⟩ := (plc (by omega) y).mp hy
    refine sp_X_valueAt hR.2.1 hV (by omega) hi ⟨?_, hR, FX.rf⟩
    unfold oSample
    rw [if_pos h0, cc, nI_clamp (by omega)]
