/-! rows of a frame, joins -/
theorem VA.wb {A : sA} (h : VA A) : WB (s_wt A) (s_sh A) := ⟨h.2.2.2.2.2.2.2.2.2.2.2.2.2.1, h.2.2.2.2.2.2.2.2.2.2.2.2.2.2⟩
theorem VA.ef {A : sA} (h : VA A) : s_ef A ≤ 1 := h.2.2.2.2.2.1
theorem VA.al {A : sA} (h : VA A) : s_al A ≤ 255 ∧ s_al A % 2 = 1 := h.2.2.2.2.2.2.1
theorem VA.sm {A : sA} (h : VA A) {c i : Nat} (hc : c < s_ch A) (hi : i < s_cn A c) : -32768 ≤ (s_sm A c i).toInt ∧ (s_sm A c i).toInt ≤ 32767 := by
  have q := h.2.2.2.2.2.2.2.2.2.2.2.2.1 c i hc hi
  rcases h.wd (by omega) with z | z
  · rw [z] at q
    have e : ((2 ^ (8 - 1) : Nat) : Int) = 128 := rfl
    rw [e] at q
    omega
  · rw [z] at q
    have e : ((2 ^ (16 - 1) : Nat) : Int) = 32768 := rfl
    rw [e] at q
    omega
abbrev FrO (A : sA) (fr f : Nat) : Prop := rdy A ∧ fr * f < s_cn A 0 ∧ 16 ≤ fr ∧ fr ≤ 64
abbrev soO (A : sA) (sort : Nat) : Prop := sort = 0 ∨ (sort < 4 ∧ s_ch A = 2)
theorem o_rn_b {A : sA} {fr f : Nat} (h : FrO A fr f) : 1 ≤ o_rn A fr f ∧ o_rn A fr f ≤ 64 ∧ fr * f + o_rn A fr f ≤ s_cn A 0 := by
  obtain ⟨_, h1, h2, h3⟩ := h
  unfold o_rn
  by_cases q : fr ≤ s_cn A 0 - fr * f
  · rw [if_pos q]; omega
  · rw [if_neg q]; omega
theorem o_rx_b {A : sA} {fr f sort : Nat} (hV : VA A) (h : FrO A fr f) (hs : soO A sort) : XB (o_rx A fr f sort) (o_rn A fr f) := by
  intro i hi
  have b := o_rn_b h
  have hrd1 : s_ch A ≠ 0 ∧ (s_ch A = 2 → s_cn A 0 = s_cn A 1) := by rcases h.1 with z | z <;> (constructor <;> omega)
  have b0 := hV.sm (c := 0) (i := fr * f + i) (by omega) (by omega)
  unfold o_rx
  by_cases q0 : sort = 0
  · rw [if_pos q0]; omega
  · rcases hs with hs | ⟨h4, h2⟩
    · exact absurd hs q0
    · have q := hrd1.2 h2
      have b1 := hV.sm (c := 1) (i := fr * f + i) (by omega) (by omega)
      rw [if_neg q0]
      by_cases q1 : sort = 1
      · rw [if_pos q1]; omega
      · rw [if_neg q1]
        by_cases q2 : sort = 2
        · rw [if_pos q2, tI_sub (by omega) (by omega)]
          omega
        · rw [if_neg q2]
          have e : (s_sm A 0 (fr * f + i) + s_sm A 1 (fr * f + i)).toInt = (s_sm A 0 (fr * f + i)).toInt + (s_sm A 1 (fr * f + i)).toInt := tI_add (by omega) (by omega)
          have e1 : ((s_sm A 0 (fr * f + i) + s_sm A 1 (fr * f + i)) >>> ((1 : Int32) &&& 31)).toInt = (s_sm A 0 (fr * f + i) + s_sm A 1 (fr * f + i)).toInt >>> 1 := pk_shr _ _ 1 (by decide +kernel)
          rw [e1, e, Int.shiftRight_eq_div_pow]
          simp only [Nat.reducePow]
          omega
theorem o_rb_b {A : sA} {sort : Nat} (hV : VA A) : o_rb A sort ≤ 17 := by
  have := hV.wd0
  unfold o_rb
  by_cases q : sort = 2
  · rw [if_pos q]; omega
  · rw [if_neg q]; omega
theorem RM.pw {A : sA} {I : mm_I} (h : RM A I) (hV : VA A) : PWI (s_wt A) (s_sh A) (s_ef A) I := ⟨h.2.2.2.1.1, h.2.2.2.1.2, h.2.2.1.2.1, hV.ef⟩
/-- the bits of a sort of row -/
abbrev SB (A : sA) (fr f set sort : Nat) : Nat := hwB (s_wt A) (s_sh A) (o_rx A fr f sort) (o_rn A fr f) (o_rb A sort) (s_ef A) set
theorem hwB_b {w s x : Nat → Int32} {n b ef set : Nat} (hn : n ≤ 64) (hb : b ≤ 17) : hwB w s x n b ef set ≤ 1092 := by
  have nb : n * b ≤ 64 * 17 := Nat.mul_le_mul hn hb
  unfold hwB
  split
  · omega
  · split <;> omega
def F_ls (a j : Nat) : Bool := F_rw a j || F_rc a j || Nat.beq a 77
theorem F_ls_sc {a j : Nat} (h : F_sc a j = false) : F_ls a j = false := by
  refine mm_bf fun z => ?_
  have q : 67 ≤ a ∨ (a = 58 ∧ 16 ≤ j) := by
    simp only [F_ls, F_rw, F_rc, F_cs, F_er, F_cut, F_gr, F_sp, F_ru, Bool.or_eq_true, Bool.and_eq_true, mm_beq_iff] at z
    omega
  have : F_sc a j = true := by
    unfold F_sc
    rcases q with q | ⟨q1, q2⟩
    · rw [Nat.ble_eq_true_of_le q]
      simp only [Bool.or_true, Bool.true_or]
    · rw [q1, Nat.ble_eq_true_of_le q2]
      rfl
  rw [this] at h
  cases h
theorem sm.ls {I J : mm_I} (f : sm F_ls I J) : sm F_sc I J := f.le (fun _ _ h => F_ls_sc h)
theorem F_ls_p {a j : Nat} (h : F_ls a j = false) : F_rw a j = false ∧ F_rc a j = false := by
  unfold F_ls at h
  rw [Bool.or_eq_false_iff, Bool.or_eq_false_iff] at h
  exact h.1
theorem lM_laysSorts {P : mm_I → Prop} {A : sA} {I : mm_I} {f set : Nat} (hR : RM A I) (hV : VA A) (hF : FrO A (s_fr A) f) (hs : set < 256) (hs1 : set % 2 = 1)
    (H : ∀ J, (∀ q, soO A q → J 77 q = nI (SB A (s_fr A) f set q)) → sm F_ls I J → P J) : ∀ (r k : Nat) (J : mm_I), k + r = (if s_ch A = 2 then 4 else 1) → (∀ q, q < k → J 77 q = nI (SB A (s_fr A) f set q)) → sm F_ls I J → mm_W 169 2 [some (.ref 58), some (.int (nI f)), some (.int (nI set)), some (.int (nI k))] [] J (mm_qv 169 P) := by
  have hch := hV.ch
  have e0 : ∀ J : mm_I, sm F_ls I J → (if J 58 4 = 2 then (4 : Int32) else 1) = nI (if s_ch A = 2 then 4 else 1) := fun J f => by
    rw [f 58 4 rfl, hR.2.1.1]
    by_cases q : s_ch A = 2
    · rw [if_pos q, if_pos (by rw [q]; rfl)]; rfl
    · have q2 : ¬ nI (s_ch A) = 2 := fun z => q ((nI_eq (b := 2) (by omega) (by omega)).mp z)
      rw [if_neg q, if_neg q2]; rfl
  have n4 : (if s_ch A = 2 then 4 else 1) ≤ 4 := by split <;> omega
  intro r
  induction r with
  | zero =>
    intro k J hk hq hsm
    refine c_M_laysSorts_2 _ _ _ ?_
    rw [e0 J hsm]
    refine ⟨fun _ => H J (fun q hq2 => hq q ?_) hsm, fun h => absurd h (nI_nlt (by omega) (by omega))⟩
    rcases hq2 with z | ⟨z, z2⟩
    · by_cases y : s_ch A = 2
      · rw [if_pos y] at hk; omega
      · rw [if_neg y] at hk; omega
    · rw [if_pos z2] at hk; omega
  | succ r ih =>
    intro k J hk hq hsm
    have hso : soO A k := by
      by_cases y : s_ch A = 2
      · rw [if_pos y] at hk
        exact Or.inr ⟨by omega, y⟩
      · rw [if_neg y] at hk
        exact Or.inl (by omega)
    have hRJ := hR.sc hsm.ls
    refine c_M_laysSorts_2 _ _ _ ?_
    rw [e0 J hsm]
    refine ⟨fun h => absurd h (nI_ge (by omega) (by omega)), fun _ => ?_⟩
    refine sp_M_laysRow hRJ hV hF.1 hso (by have := hF.2.1; omega) (fun J1 a1 a2 => ?_)
    have f1 : sm F_ls I J1 := sm.tq hsm (a2.le (fun _ _ h => (F_ls_p h).1))
    have hR1 := hR.sc f1.ls
    refine sp_M_rowCosts (hR1.pw hV) hV.wb a1 (o_rx_b hV hF hso) (o_rn_b hF).1 (o_rb_b hV) hs hs1 (fun J2 b1 b2 b3 => ?_)
    have f2 : sm F_ls I J2 := sm.tq f1 (b3.le (fun _ _ h => (F_ls_p h).2))
    rw [nI_clamp (n := k) (by omega), nI_1]
    refine ⟨vp_in_nI (by omega) (by omega), ih (k + 1) _ (by omega) (fun q hq2 => ?_) (f2.up rfl)⟩
    rw [up_a]
    by_cases y : q = k
    · rw [if_pos y, y]
    · rw [if_neg y, b3 77 q rfl, a2 77 q rfl]
      exact hq q (by omega)
theorem sp_M_laysSorts {P : mm_I → Prop} {A : sA} {I : mm_I} {f set : Nat} (hR : RM A I) (hV : VA A) (hF : FrO A (s_fr A) f) (hs : set < 256) (hs1 : set % 2 = 1)
    (H : ∀ J, (∀ q, soO A q → J 77 q = nI (SB A (s_fr A) f set q)) → sm F_ls I J → P J) : mm_Mv 169 [.ref 58, .int (nI f), .int (nI set)] I P :=
  e_M_laysSorts _ _ (lM_laysSorts hR hV hF hs hs1 H (if s_ch A = 2 then 4 else 1) 0 I (by omega) (fun q hq => absurd hq (Nat.not_lt_zero q)) sm.rf)
def soF (j r : Nat) : Nat := if r = 0 then (if j = 2 then 2 else if j = 3 then 3 else 0) else (if j = 0 then 1 else if j = 2 then 1 else 2)
theorem soF_lt (j r : Nat) : soF j r < 4 := by
  unfold soF
  split
  · split
    · omega
    · split <;> omega
  · split
    · omega
    · split <;> omega
theorem sp_M_sortOf {P : Int32 → mm_I → Prop} {I : mm_I} {j r : Nat} (hj : j < 4) (hr : r < 2) (H : P (nI (soF j r)) I) : mm_Mi 150 [.int (nI j), .int (nI r)] I P := by
  refine e_M_sortOf _ _ ?_
  rcases (by omega : j = 0 ∨ j = 1 ∨ j = 2 ∨ j = 3) with rfl | rfl | rfl | rfl <;> rcases (by omega : r = 0 ∨ r = 1) with rfl | rfl <;> exact H
/-- the bits of a frame by a join -/
def jBt (A : sA) (fr f set j : Nat) : Nat := SB A fr f set (soF j 0) + (if s_ch A = 2 then SB A fr f set (soF j 1) else 0)
abbrev jOk (A : sA) (j : Nat) : Prop := j = 0 ∨ (j < 4 ∧ s_ch A = 2)
abbrev S77 (A : sA) (f set : Nat) (I : mm_I) : Prop := I 58 4 = nI (s_ch A) ∧ ∀ q, soO A q → I 77 q = nI (SB A (s_fr A) f set q)
theorem sp_M_joinedBits {P : Int32 → mm_I → Prop} {A : sA} {I : mm_I} {f set j : Nat} (hV : VA A) (h : S77 A f set I) (hj : jOk A j) (H : P (nI (jBt A (s_fr A) f set j)) I) : mm_Mi 170 [.ref 58, .int (nI j)] I P := by
  have hch := hV.ch
  have l0 := soF_lt j 0
  have l1 := soF_lt j 1
  refine e_M_joinedBits _ (sp_M_sortOf (r := 0) (by omega) (by omega) ⟨vp_in_nI l0 (by omega), ?_⟩)
  rw [h.1, nI_clamp (n := soF j 0) (by omega)]
  have s0 : soO A (soF j 0) := by
    rcases hj with rfl | ⟨z1, z2⟩
    · exact Or.inl rfl
    · exact Or.inr ⟨l0, z2⟩
  rw [h.2 _ s0]
  unfold jBt at H
  by_cases q : s_ch A = 2
  · have q1 : nI (s_ch A) = 2 := by rw [q]; rfl
    refine ⟨fun z => absurd q1 z, fun _ => sp_M_sortOf (r := 1) (by omega) (by omega) ⟨vp_in_nI l1 (by omega), ?_⟩⟩
    rw [nI_clamp (n := soF j 1) (by omega), h.2 _ (Or.inr ⟨l1, q⟩), nI_add]
    rw [if_pos q] at H
    exact H
  · have q1 : ¬ nI (s_ch A) = 2 := fun z => q ((nI_eq (b := 2) (by omega) (by omega)).mp z)
    refine ⟨fun _ => ?_, fun z => absurd z q1⟩
    rw [if_neg q] at H
    have e : nI (SB A (s_fr A) f set (soF j 0)) + 0 = nI (SB A (s_fr A) f set (soF j 0) + 0) := nI_add _ 0
    rw [e]
    exact H
def jNs (A : sA) (fr f set : Nat) : Nat → Nat
  | 0 => 0
  | k + 1 => if jBt A fr f set (k + 1) < jBt A fr f set (jNs A fr f set k) then k + 1 else jNs A fr f set k
def jOf (A : sA) (fr f set : Nat) : Nat := if s_ch A = 2 then jNs A fr f set 3 else 0
theorem jNs_le (A : sA) (fr f set : Nat) : ∀ k, jNs A fr f set k ≤ k := by
  intro k
  induction k with
  | zero => exact Nat.le_refl 0
  | succ k ih =>
    have e : jNs A fr f set (k + 1) = if jBt A fr f set (k + 1) < jBt A fr f set (jNs A fr f set k) then k + 1 else jNs A fr f set k := rfl
    rw [e]
    split <;> omega
theorem jOf_ok (A : sA) (fr f set : Nat) : jOk A (jOf A fr f set) := by
  unfold jOf
  have := jNs_le A fr f set 3
  by_cases q : s_ch A = 2
  · rw [if_pos q]; exact Or.inr ⟨by omega, q⟩
  · rw [if_neg q]; exact Or.inl rfl
theorem jBt_b {A : sA} {fr f set j : Nat} (hV : VA A) (hF : FrO A fr f) : jBt A fr f set j ≤ 2184 := by
  have n64 := (o_rn_b hF).2.1
  have a : SB A fr f set (soF j 0) ≤ 1092 := hwB_b (w := s_wt A) (s := s_sh A) (x := o_rx A fr f (soF j 0)) (ef := s_ef A) (set := set) n64 (o_rb_b hV (sort := soF j 0))
  have b : SB A fr f set (soF j 1) ≤ 1092 := hwB_b (w := s_wt A) (s := s_sh A) (x := o_rx A fr f (soF j 1)) (ef := s_ef A) (set := set) n64 (o_rb_b hV (sort := soF j 1))
  unfold jBt
  split <;> omega
theorem lM_joinNow {P : Int32 → mm_I → Prop} {A : sA} {I : mm_I} {f set : Nat} (hV : VA A) (hF : FrO A (s_fr A) f) (h2 : s_ch A = 2) (h : S77 A f set I) (H : P (nI (jNs A (s_fr A) f set 3)) I) : ∀ (r k : Nat), k + r = 3 → mm_W 171 4 [some (.ref 58), some (.int (nI (jNs A (s_fr A) f set k))), some (.int (nI (k + 1)))] [] I (mm_qi 171 P) := by
  have e2 : I 58 4 = 2 := by rw [h.1, h2]; rfl
  intro r
  induction r with
  | zero =>
    intro k hk
    have hk : k = 3 := by omega
    subst hk
    exact c_M_joinNow_4 _ _ ⟨fun _ => H, fun z => absurd z (by decide)⟩
  | succ r ih =>
    intro k hk
    have hl := jNs_le A (s_fr A) f set k
    have b1 := jBt_b (set := set) (j := k + 1) hV hF
    have b2 := jBt_b (set := set) (j := jNs A (s_fr A) f set k) hV hF
    refine c_M_joinNow_4 _ _ ⟨fun z => absurd z (nI_ge (b := 4) (by omega) (by omega)), fun _ => ⟨fun z => absurd e2 z, fun _ => ?_⟩⟩
    refine sp_M_joinedBits hV h (Or.inr ⟨by omega, h2⟩) (sp_M_joinedBits hV h (Or.inr ⟨by omega, h2⟩) ?_)
    have nx := ih (k + 1) (by omega)
    have e : jNs A (s_fr A) f set (k + 1) = if jBt A (s_fr A) f set (k + 1) < jBt A (s_fr A) f set (jNs A (s_fr A) f set k) then k + 1 else jNs A (s_fr A) f set k := rfl
    rw [nI_1]
    by_cases q : jBt A (s_fr A) f set (k + 1) < jBt A (s_fr A) f set (jNs A (s_fr A) f set k)
    · rw [if_pos q] at e
      rw [e] at nx
      rw [if_neg (nI_ge q (by omega))]
      exact nx
    · rw [if_neg q] at e
      rw [e] at nx
      rw [if_pos (nI_le (by omega) (by omega))]
      exact nx
theorem sp_M_joinNow {P : Int32 → mm_I → Prop} {A : sA} {I : mm_I} {f set : Nat} (hV : VA A) (hF : FrO A (s_fr A) f) (h : S77 A f set I) (H : P (nI (jOf A (s_fr A) f set)) I) : mm_Mi 171 [.ref 58] I P := by
  have hch := hV.ch
  unfold jOf at H
  by_cases q : s_ch A = 2
  · rw [if_pos q] at H
    exact e_M_joinNow (lM_joinNow hV hF q h H 3 0 (by omega))
  · rw [if_neg q] at H
    have q1 : ¬ I 58 4 = 2 := fun z => q ((nI_eq (b := 2) (by omega) (by omega)).mp (h.1.symm.trans z))
    exact e_M_joinNow (c_M_joinNow_4 _ _ ⟨fun z => absurd z (by decide), fun _ => ⟨fun _ => H, fun z => absurd z q1⟩⟩)
theorem sp_M_joinOf {P : Int32 → mm_I → Prop} {A : sA} {I : mm_I} {f set : Nat} (hR : RM A I) (hV : VA A) (hF : FrO A (s_fr A) f) (hs : set < 256) (hs1 : set % 2 = 1)
    (H : ∀ J, S77 A f set J → sm F_ls I J → P (nI (jOf A (s_fr A) f set)) J) : mm_Mi 172 [.ref 58, .int (nI f), .int (nI set)] I P := by
  refine e_M_joinOf _ _ (sp_M_laysSorts hR hV hF hs hs1 (fun J a1 a2 => ?_))
  have h77 : S77 A f set J := ⟨(a2 58 4 rfl).trans hR.2.1.1, a1⟩
  exact sp_M_joinNow hV hF h77 (H J h77 a2)
