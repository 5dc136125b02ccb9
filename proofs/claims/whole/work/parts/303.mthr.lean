/-- the order of a told predictor, read off cells -/
theorem sp_M_orderOf {P : Int32 → mm_I → Prop} {I : mm_I} {tt p : Nat} (hs0 : tt = 62 ∨ tt = 64) (hp : p < 8) (H : P (nI (o_od (I tt) p)) I) : mm_Mi 144 [.int (nI p), .ref tt] I P := by
  refine e_M_orderOf hs0 (nI p) ⟨fun h => ?_, fun h => ?_⟩
  · have h5 : 5 ≤ p := (nI_leI (a := 5) (by omega) (by omega)).mp h
    have e0 : (3 : Int32) * (nI p - 5) = nI (3 * (p - 5)) := by
      have e1 := pk_sub (a := p) (b := 5) h5
      have e2 := pk_mul 3 (p - 5)
      show nI 3 * (nI p - nI 5) = _
      rw [e1, e2]
    have e1 : nI (3 * (p - 5)) + 1 = nI (3 * (p - 5) + 1) := nI_1 _
    have e2 : nI (3 * (p - 5)) + 2 = nI (3 * (p - 5) + 2) := nI_add _ 2
    rw [e0, e1, e2, nI_clamp (n := 3 * (p - 5)) (by omega), nI_clamp (n := 3 * (p - 5) + 1) (by omega), nI_clamp (n := 3 * (p - 5) + 2) (by omega)]
    refine ⟨vp_in_nI (by omega) (by omega), fun _ => ⟨vp_in_nI (by omega) (by omega), fun _ => ⟨vp_in_nI (by omega) (by omega), trivial⟩, trivial⟩, ?_⟩
    have e : (if I tt (3 * (p - 5) + 2) = 0 then (if I tt (3 * (p - 5) + 1) = 0 then (if I tt (3 * (p - 5)) = 0 then (0 : Int32) else 1) else 2) else 3) = nI (o_od (I tt) p) := by
      rw [show o_od (I tt) p = o_of (I tt) (p - 5) from if_neg (by omega)]
      unfold o_of
      by_cases h2 : I tt (3 * (p - 5) + 2) = 0
      · by_cases h1 : I tt (3 * (p - 5) + 1) = 0
        · by_cases h0 : I tt (3 * (p - 5)) = 0
          · simp [h0, h1, h2]; rfl
          · simp [h0, h1, h2]; rfl
        · simp [h1, h2]; rfl
      · simp [h2]; rfl
    rw [e]
    exact H
  · have h5 : p < 5 := (nI_ltI (b := 5) (by omega) (by omega)).mp h
    have : o_od (I tt) p = p := if_pos h5
    rw [this] at H
    exact H
theorem o_od_c {w w' : Nat → Int32} {p : Nat} (hp : p < 8) (h : ∀ j, j < 9 → w j = w' j) : o_od w p = o_od w' p := by
  unfold o_od o_of
  by_cases h5 : p < 5
  · rw [if_pos h5, if_pos h5]
  · rw [if_neg h5, if_neg h5, h _ (by omega), h _ (by omega), h _ (by omega)]
theorem o_of_le (w : Nat → Int32) (q : Nat) : o_of w q ≤ 3 := by
  unfold o_of
  split
  · omega
  · split
    · omega
    · split <;> omega
theorem o_od_le (w : Nat → Int32) (p : Nat) : o_od w p ≤ 4 := by
  unfold o_od
  split
  · omega
  · have := o_of_le w (p - 5); omega
def o_w3 (w : Nat → Int32) (q : Nat) (a b c : Int32) : Nat → Int32 := fun j => if j = 3 * q then a else if j = 3 * q + 1 then b else if j = 3 * q + 2 then c else w j
abbrev okW (a : Int32) : Prop := -31 ≤ a ∧ a ≤ 31
def oPred (A : sA) (x a b c s : Int32) : Int32 × sA := if (5 ≤ x ∧ x ≤ 7) ∧ okW a ∧ okW b ∧ okW c ∧ (0 ≤ s ∧ s ≤ 4) then (nI (o_of (o_w3 (s_wt A) (x.toNatClampNeg - 5) a b c) (x.toNatClampNeg - 5)), s_F (s_F A 3 (o_w3 (s_wt A) (x.toNatClampNeg - 5) a b c)) 4 (upd (s_sh A) (x.toNatClampNeg - 5) s)) else (-1, A)
theorem oM_predictor {A : sA} {I : mm_I} {x a b c s : Int32} (hR : RM A I) : mm_Mi 140 [.ref 58, .int x, .int a, .int b, .int c, .int s] I (oR (oPred A x a b c s) RM FM I) := by
  have hR0 := hR
  obtain ⟨ht, hs, ho, hp, hk⟩ := hR
  have no : ¬ ((5 ≤ x ∧ x ≤ 7) ∧ okW a ∧ okW b ∧ okW c ∧ (0 ≤ s ∧ s ≤ 4)) → oR (oPred A x a b c s) RM FM I (-1) (mm_up I 58 16 0) := fun h => by
    unfold oPred
    rw [if_neg h]
    exact ⟨rfl, hR0, FM.rf.up (by omega)⟩
  refine e_M_predictor x a b c s (sp_M_within ⟨fun h => no (fun z => b1_0.mp h z.1), fun h1 => sp_M_within ⟨fun h => no (fun z => b1_0.mp h z.2.1), fun h2 => sp_M_within ⟨fun h => no (fun z => b1_0.mp h z.2.2.1), fun h3 => sp_M_within ⟨fun h => no (fun z => b1_0.mp h z.2.2.2.1), fun h4 => sp_M_within ⟨fun h5 => ?_, fun h => no (fun z => b1_0.mp h z.2.2.2.2)⟩⟩⟩⟩⟩)
  have h1 := b1_n h1
  have h2 := b1_n h2
  have h3 := b1_n h3
  have h4 := b1_n h4
  have h5 := b1_n h5
  obtain ⟨p, hp5, hp7, rfl⟩ := btw (a := 5) (b := 7) rfl rfl h1
  have ep : (nI p).toNatClampNeg = p := nI_clamp (by omega)
  have e5 : nI p - 5 = nI (p - 5) := pk_sub (a := p) (b := 5) hp5
  have e0 : (3 : Int32) * nI (p - 5) = nI (3 * (p - 5)) := pk_mul 3 (p - 5)
  have e1 : nI (3 * (p - 5)) + 1 = nI (3 * (p - 5) + 1) := nI_1 _
  have e2 : nI (3 * (p - 5)) + 2 = nI (3 * (p - 5) + 2) := nI_add _ 2
  rw [e5, e0, e1, e2, nI_clamp (n := 3 * (p - 5)) (by omega), nI_clamp (n := 3 * (p - 5) + 1) (by omega), nI_clamp (n := 3 * (p - 5) + 2) (by omega), nI_clamp (n := p - 5) (by omega)]
  refine ⟨vp_in_nI (by omega) (by omega), vp_in_nI (by omega) (by omega), vp_in_nI (by omega) (by omega), vp_in_nI (by omega) (by omega), sp_M_orderOf (Or.inl rfl) (by omega) ?_⟩
  have hw : ∀ j, j < 9 → (mm_up (mm_up (mm_up (mm_up (mm_up I 58 16 0) 62 (3 * (p - 5)) a) 62 (3 * (p - 5) + 1) b) 62 (3 * (p - 5) + 2) c) 63 (p - 5) s) 62 j = o_w3 (s_wt A) (p - 5) a b c j := fun j hj => by
    rw [up_o (by decide), up_a, up_a, up_a]
    unfold o_w3
    by_cases q0 : j = 3 * (p - 5)
    · rw [if_neg (by omega), if_neg (by omega), if_pos q0, if_pos q0]
    · by_cases q1 : j = 3 * (p - 5) + 1
      · rw [if_neg (by omega), if_pos q1, if_neg q0, if_pos q1]
      · by_cases q2 : j = 3 * (p - 5) + 2
        · rw [if_pos q2, if_neg q0, if_neg q1, if_pos q2]
        · rw [if_neg q2, if_neg q1, if_neg q0, if_neg q0, if_neg q1, if_neg q2]
          exact hp.1 j hj
  unfold oPred
  rw [if_pos ⟨h1, h2, h3, h4, h5⟩, ep]
  refine ⟨?_, ⟨ht, hs, ho, ⟨hw, fun j hj => ?_⟩, hk⟩, ((((FM.rf.up (by omega)).up (by omega)).up (by omega)).up (by omega)).up (by omega)⟩
  · rw [o_od_c (by omega) hw]
    unfold o_od
    rw [if_neg (by omega)]
  · rw [up_a]
    show (if j = p - 5 then s else I 63 j) = upd (s_sh A) (p - 5) s j
    unfold upd
    by_cases q : j = p - 5
    · rw [if_pos q, if_pos q]
    · rw [if_neg q, if_neg q]
      exact hp.2 j hj
def oClear (A : sA) : Int32 × sA := (nI (s_ch A), (fun i => if i = 3 then 32 else if i = 4 then 1 else if i = 5 then 255 else if i = 8 then s_su A else 0, fun j => if j = 5 then s_sb A else if j = 6 then (fun _ => 1) else fun _ => 0))
theorem lM_clear2 {P : Int32 → mm_I → Prop} {r : Int32} : ∀ (n c : Nat) (I : mm_I), c + n = 3 → (∀ J, (∀ j, J 63 j = if c ≤ j ∧ j < 3 then 0 else I 63 j) → (∀ a, a ≠ 63 → J a = I a) → P r J) → mm_W 138 71 [some (.ref 58), some (.int r), some (.int (nI c))] [] I (mm_qi 138 P) := by
  intro n
  induction n with
  | zero =>
    intro c I hc H
    refine c_M_clear_71 r (nI c) ⟨fun _ => H I (fun j => by rw [if_neg (by omega)]) (fun _ _ => rfl), fun h => ?_⟩
    exact absurd h (nI_nlt (b := 3) (by omega) (by omega))
  | succ n ih =>
    intro c I hc H
    refine c_M_clear_71 r (nI c) ⟨fun h => absurd h (nI_ge (b := 3) (by omega) (by omega)), fun h => ?_⟩
    rw [nI_clamp (by omega), nI_1]
    refine ⟨vp_in_nI (by omega) (by omega), ih (c + 1) _ (by omega) (fun J hJ hJo => H J (fun j => ?_) (fun a ha => by rw [hJo a ha, up_o ha]))⟩
    rw [hJ j, up_a]
    by_cases q : j = c
    · subst q
      rw [if_neg (by omega), if_pos rfl, if_pos (by omega)]
    · by_cases q2 : c + 1 ≤ j ∧ j < 3
      · rw [if_pos q2, if_pos (by omega)]
      · rw [if_neg q2, if_neg q, if_neg (by omega)]
theorem lM_clear1 {P : Int32 → mm_I → Prop} {r : Int32} : ∀ (n c : Nat) (I : mm_I), c + n = 9 → (∀ J, (∀ j, J 62 j = if c ≤ j ∧ j < 9 then 0 else I 62 j) → (∀ a, a ≠ 62 → J a = I a) → mm_W 138 71 [some (.ref 58), some (.int r), some (.int 0)] [] J (mm_qi 138 P)) → mm_W 138 50 [some (.ref 58), some (.int r), some (.int (nI c))] [] I (mm_qi 138 P) := by
  intro n
  induction n with
  | zero =>
    intro c I hc H
    refine c_M_clear_50 r (nI c) ⟨fun _ => H I (fun j => by rw [if_neg (by omega)]) (fun _ _ => rfl), fun h => ?_⟩
    exact absurd h (nI_nlt (b := 9) (by omega) (by omega))
  | succ n ih =>
    intro c I hc H
    refine c_M_clear_50 r (nI c) ⟨fun h => absurd h (nI_ge (b := 9) (by omega) (by omega)), fun h => ?_⟩
    rw [nI_clamp (by omega), nI_1]
    refine ⟨vp_in_nI (by omega) (by omega), ih (c + 1) _ (by omega) (fun J hJ hJo => H J (fun j => ?_) (fun a ha => by rw [hJo a ha, up_o ha]))⟩
    rw [hJ j, up_a]
    by_cases q : j = c
    · subst q
      rw [if_neg (by omega), if_pos rfl, if_pos (by omega)]
    · by_cases q2 : c + 1 ≤ j ∧ j < 9
      · rw [if_pos q2, if_pos (by omega)]
      · rw [if_neg q2, if_neg q, if_neg (by omega)]
theorem oM_clear {A : sA} {I : mm_I} (hR : RM A I) : mm_Mi 138 [.ref 58] I (oR (oClear A) RM FM I) := by
  obtain ⟨ht, hs, ho, hp, hk⟩ := hR
  refine e_M_clear (lM_clear1 9 0 _ (by omega) (fun J hJ hJo => lM_clear2 3 0 _ (by omega) (fun K hK hKo => ⟨hs.1, ?_, ?_⟩)))
  · have k58 : K 58 = (mm_up (mm_up (mm_up (mm_up (mm_up (mm_up (mm_up (mm_up I 58 16 0) 58 1 0) 58 4 0) 58 5 0) 58 6 32) 58 7 1) 58 8 255) 58 9 1) 58 := by rw [hKo 58 (by decide), hJo 58 (by decide)]
    have k66 : K 66 = I 66 := by rw [hKo 66 (by decide), hJo 66 (by decide)]; rfl
    refine ⟨⟨?_, fun i hi => absurd hi (Nat.not_lt_zero i)⟩, ⟨?_, ?_, ?_, fun c hc => absurd hc (Nat.not_lt_zero c), fun c i hc => absurd hc (Nat.not_lt_zero c)⟩, ⟨?_, ?_, ?_⟩, ⟨fun j hj => ?_, fun j hj => ?_⟩, ⟨?_, fun i hi => ?_⟩⟩
    · rw [k58]; rfl
    · rw [k58]; rfl
    · rw [k58]; rfl
    · rw [k58]; rfl
    · rw [k58]; rfl
    · rw [k58]; rfl
    · rw [k58]; rfl
    · rw [hKo 62 (by decide), hJ j, if_pos (by omega)]; rfl
    · rw [hK j, if_pos (by omega)]; rfl
    · rw [k58]; exact hk.1
    · rw [k66]; exact hk.2 i hi
  · intro a ha
    rw [hKo a (by omega), hJo a (by omega), up_o (by omega), up_o (by omega), up_o (by omega), up_o (by omega), up_o (by omega), up_o (by omega), up_o (by omega), up_o (by omega)]
