/-! the class: the frames found -/
def FxX (S : fS) (I : mm_I) : Prop := (∀ k, k < 16 → I 55 k = S.2.1 k) ∧ (∀ k, k < 16 → I 56 k = S.2.2.1 k) ∧ ∀ k, k < 512 → I 57 k = S.2.2.2 k
def F_57 (a _ : Nat) : Bool := Nat.beq a 55 || Nat.beq a 56 || Nat.beq a 57
def F_fx (a j : Nat) : Bool := F_lx a j || F_57 a j
theorem F_fx_p {a j : Nat} (h : F_fx a j = false) : F_lx a j = false ∧ F_57 a j = false := by
  unfold F_fx at h
  rw [Bool.or_eq_false_iff] at h
  exact h
theorem sm.fxl {I J : mm_I} (f : sm F_lx I J) : sm F_fx I J := f.le (fun _ _ h => (F_fx_p h).1)
theorem sm.fx7 {I J : mm_I} (f : sm F_57 I J) : sm F_fx I J := f.le (fun _ _ h => (F_fx_p h).2)
theorem XxI_fx {A : sA} {I J : mm_I} (h : XxI A I) (f : sm F_fx I J) : XxI A J := by
  have e1 : J 47 = I 47 := f.fn 47 (fun _ => rfl)
  have e2 : J 48 = I 48 := f.fn 48 (fun _ => rfl)
  have e3 : J 50 = I 50 := f.fn 50 (fun _ => rfl)
  have e4 : J 51 = I 51 := f.fn 51 (fun _ => rfl)
  have e5 : J 52 = I 52 := f.fn 52 (fun _ => rfl)
  obtain ⟨h1, h2, h3, h4, h5, h6⟩ := h
  refine ⟨?_, (f 46 2 rfl).trans h2, (f 46 3 rfl).trans h3, (f 46 4 rfl).trans h4, (f 46 5 rfl).trans h5, ?_⟩
  · unfold SxI
    rw [e1, e2]
    exact h1
  · unfold RXq at h6 ⊢
    rw [e3, e4, e5]
    exact h6
theorem sm.fxs {I J : mm_I} (f : sm F_fx I J) : sm F_xs I J := f.le (fun a j h => by
  refine mm_bf fun z => ?_
  have q : (a = 46) ∨ (53 ≤ a ∧ a ≤ 57) := by
    simp only [F_fx, F_lx, F_rx, F_54, F_57, Bool.or_eq_true, Bool.and_eq_true, mm_beq_iff] at z
    omega
  have : F_xs a j = true := by
    unfold F_xs
    rcases q with q | ⟨q1, q2⟩
    · rw [q]; rfl
    · rw [Nat.ble_eq_true_of_le q1, Nat.ble_eq_true_of_le q2, Bool.and_self, Bool.or_true]
      rfl
  rw [this] at h
  cases h)
theorem lX_fg30 {P : mm_I → Prop} {I : mm_I} (h1 : ∀ k, k < 16 → I 55 k = -1 ∧ I 56 k = -1) (H : ∀ J, FxX fn0 J → sm F_57 I J → P J) : ∀ (r k : Nat) (J : mm_I), k + r = 512 → (∀ i, i < k → J 57 i = 0) → (∀ i, J 55 i = I 55 i ∧ J 56 i = I 56 i) → sm F_57 I J → mm_W 37 30 [some (.ref 46), some (.int (nI k))] [] J (mm_qv 37 P) := by
  intro r
  induction r with
  | zero =>
    intro k J hk h h5 hsm
    have hk : k = 512 := by omega
    subst hk
    exact c_Reader_forgetFound_30 _ ⟨fun _ => H J ⟨fun i hi => (h5 i).1.trans (h1 i hi).1, fun i hi => (h5 i).2.trans (h1 i hi).2, h⟩ hsm, fun z => absurd z (by decide)⟩
  | succ r ih =>
    intro k J hk h h5 hsm
    refine c_Reader_forgetFound_30 _ ⟨fun z => absurd z (nI_ge (b := 512) (by omega) (by omega)), fun _ => ⟨vp_in_nI (by omega) (by omega), ?_⟩⟩
    rw [nI_1, nI_clamp (n := k) (by omega)]
    refine ih (k + 1) _ (by omega) (fun i hi => ?_) (fun i => ⟨?_, ?_⟩) (hsm.up rfl)
    · rw [up_a]
      by_cases z : i = k
      · rw [if_pos z]
      · rw [if_neg z]; exact h i (by omega)
    · rw [up_o (by decide)]; exact (h5 i).1
    · rw [up_o (by decide)]; exact (h5 i).2
theorem lX_fg2 {P : mm_I → Prop} {I : mm_I} (H : ∀ J, FxX fn0 J → sm F_57 I J → P J) : ∀ (r k : Nat) (J : mm_I), k + r = 16 → (∀ i, i < k → J 55 i = -1 ∧ J 56 i = -1) → sm F_57 I J → mm_W 37 2 [some (.ref 46), some (.int (nI k))] [] J (mm_qv 37 P) := by
  intro r
  induction r with
  | zero =>
    intro k J hk h hsm
    have hk : k = 16 := by omega
    subst hk
    exact c_Reader_forgetFound_2 _ ⟨fun _ => lX_fg30 h (fun K a b => H K a (sm.tq hsm b)) 512 0 J (by omega) (fun i hi => absurd hi (Nat.not_lt_zero i)) (fun i => ⟨rfl, rfl⟩) sm.rf, fun z => absurd z (by decide)⟩
  | succ r ih =>
    intro k J hk h hsm
    refine c_Reader_forgetFound_2 _ ⟨fun z => absurd z (nI_ge (b := 16) (by omega) (by omega)), fun _ => ⟨vp_in_nI (by omega) (by omega), vp_in_nI (by omega) (by omega), ?_⟩⟩
    rw [nI_1, nI_clamp (n := k) (by omega)]
    refine ih (k + 1) _ (by omega) (fun i hi => ⟨?_, ?_⟩) ((hsm.up rfl).up rfl)
    · rw [up_o (by decide), up_a]
      by_cases z : i = k
      · rw [if_pos z]
      · rw [if_neg z]; exact (h i (by omega)).1
    · rw [up_a]
      by_cases z : i = k
      · rw [if_pos z]
      · rw [if_neg z, up_o (by decide)]; exact (h i (by omega)).2
theorem sp_X_forgetFound {P : mm_I → Prop} {I : mm_I} (H : ∀ J, FxX fn0 J → sm F_57 I J → P J) : mm_Mv 37 [.ref 46] I P :=
  e_Reader_forgetFound (lX_fg2 H 16 0 I (by omega) (fun i hi => absurd hi (Nat.not_lt_zero i)) sm.rf)
def sndI (A : sA) (n : Nat) (l r : Nat → Int32) (i : Nat) (g : Nat → Int32) : Nat → Int32 := if h_c A = 2 then sndC A n r 256 i (sndC A n l 0 i g) else sndC A n l 0 i g
theorem sndC_s {A : sA} {n b i k : Nat} {q g : Nat → Int32} : sndC A n q b (i + 1) g k = if k = b + h_f A * n + i then q i else sndC A n q b i g k := by
  unfold sndC
  by_cases z : k = b + h_f A * n + i
  · rw [if_pos z, if_pos (by omega)]
    congr 1
    omega
  · rw [if_neg z]
    by_cases y : b + h_f A * n ≤ k ∧ k < b + h_f A * n + i
    · rw [if_pos y, if_pos (by omega)]
    · rw [if_neg y, if_neg (by omega)]
theorem lX_kpf {P : mm_I → Prop} {A : sA} {n : Nat} {l r g : Nat → Int32} {I : mm_I} (hN : HdN A) (hn : n < h_n A) (h2 : I 46 2 = nI (h_c A)) (hl : ∀ i, i < h_z A n → I 53 i = l i) (hr : h_c A = 2 → ∀ i, i < h_z A n → I 54 i = r i)
    (H : ∀ J, (∀ k, k < 512 → J 57 k = sndU A n l r g k) → (∀ a, a ≠ 57 → J a = I a) → P J) : ∀ (d i : Nat) (J : mm_I), i + d = h_z A n → (∀ k, k < 512 → J 57 k = sndI A n l r i g k) → (∀ a, a ≠ 57 → J a = I a) → mm_W 38 41 [some (.ref 46), none, none, none, some (.int (nI (h_f A * n))), some (.int (nI (h_z A n))), some (.int (nI i))] [] J (mm_qv 38 P) := by
  have hz := h_z_b hN hn
  have hc := hN.1.2
  have hm := hN.2.2.2.1.2
  intro d
  induction d with
  | zero =>
    intro i J hi hJ ho
    have hi : i = h_z A n := by omega
    subst hi
    exact c_Reader_keepFound_41 _ _ _ ⟨fun _ => H J hJ ho, fun z => absurd z (nI_nlt (by omega) (by omega))⟩
  | succ d ih =>
    intro i J hi hJ ho
    have v := vp_in_nI (n := i) (N := 64) (by omega) (by omega)
    have v2 := vp_in_nI (n := h_f A * n + i) (N := 512) (by omega) (by omega)
    have e3 : (256 : Int32) + nI (h_f A * n) + nI i = nI (256 + h_f A * n + i) := by
      show nI 256 + _ + _ = _
      rw [nI_add, nI_add]
    refine c_Reader_keepFound_41 _ _ _ ⟨fun z => absurd z (nI_ge (by omega) (by omega)), fun _ => ⟨v, ?_⟩⟩
    rw [e3, nI_add, nI_1, nI_clamp (n := i) (by omega), nI_clamp (n := h_f A * n + i) (by omega), nI_clamp (n := 256 + h_f A * n + i) (by omega), ho 53 (by decide), ho 54 (by decide), ho 46 (by decide), hl i (by omega), h2]
    refine ⟨v2, ?_⟩
    rcases hc with c | c
    · have n2 : ¬ nI (h_c A) = 2 := by rw [c]; decide
      refine ⟨fun _ => ih (i + 1) _ (by omega) (fun k hk => ?_) (fun a ha => by rw [up_o ha]; exact ho a ha), fun y => absurd y n2⟩
      have e := hJ k hk
      unfold sndI at e ⊢
      rw [if_neg (by omega)] at e ⊢
      rw [sndC_s, up_a, Nat.zero_add, e]
    · have n2 : nI (h_c A) = 2 := by rw [c]; rfl
      rw [hr c i (by omega)]
      refine ⟨fun y => absurd n2 y, fun _ => ⟨v, vp_in_nI (by omega) (by omega), ih (i + 1) _ (by omega) (fun k hk => ?_) (fun a ha => by rw [up_o ha, up_o ha]; exact ho a ha)⟩⟩
      have e := hJ k hk
      unfold sndI at e ⊢
      rw [if_pos c] at e ⊢
      rw [sndC_s, up_a, up_a, e]
      by_cases z : k = 256 + h_f A * n + i
      · rw [if_pos z, if_pos z]
      · rw [if_neg z, if_neg z]
        by_cases y : k = h_f A * n + i
        · rw [if_pos y]
          unfold sndC
          rw [if_neg (by omega), if_pos (by omega)]
          congr 1
          omega
        · rw [if_neg y]
          unfold sndC
          by_cases x : 256 + h_f A * n ≤ k ∧ k < 256 + h_f A * n + i
          · rw [if_pos x, if_pos x]
          · rw [if_neg x, if_neg x]
            by_cases x2 : 0 + h_f A * n ≤ k ∧ k < 0 + h_f A * n + i
            · rw [if_pos x2, if_pos (by omega)]
            · rw [if_neg x2, if_neg (by omega)]
theorem sp_X_keepFound {P : mm_I → Prop} {A : sA} {pl : Nat} {t : Nat × (Nat → Int32) × (Nat → Int32)} {S : fS} {I : mm_I} (hN : HdN A) (hX : XxI A I) (hF : FxX S I) (hn : n_b A pl < h_n A) (hl : ∀ i, i < h_z A (n_b A pl) → I 53 i = t.2.1 i) (hr : h_c A = 2 → ∀ i, i < h_z A (n_b A pl) → I 54 i = t.2.2 i) (H : ∀ J, FxX (fnN A pl t S) J → sm F_57 I J → P J) : mm_Mv 38 [.ref 46, .int (nI (n_b A pl)), .int (nI pl), .int (nI t.1)] I P := by
  have hz := h_z_b hN hn
  have n16 := h_n_b hN
  have xo := XxI_of hN hX
  obtain ⟨_, f1, f2, _⟩ := hN.2.2.1
  obtain ⟨_, m1⟩ := hN.2.2.2.1
  have v := vp_in_nI (n := n_b A pl) (N := 16) (by omega) (by omega)
  have ef : nI (n_b A pl) * nI (h_f A) = nI (h_f A * n_b A pl) := by rw [pk_mul, Nat.mul_comm]
  have ez : (if nI (h_m A) - nI (h_f A * n_b A pl) < nI (h_f A) then (nI (h_m A) - nI (h_f A * n_b A pl) : Int32) else nI (h_f A)) = nI (h_z A (n_b A pl)) := by
    rw [pk_sub (by omega)]
    unfold h_z
    by_cases y : h_f A ≤ h_m A - h_f A * n_b A pl
    · rw [if_pos y, if_neg (nI_nlt y (by omega))]
    · rw [if_neg y, if_pos ((nI_ltI (by omega) (by omega)).mpr (by omega))]
  refine e_Reader_keepFound _ _ _ ⟨v, v, e_Math_min _ _ ?_⟩
  rw [nI_clamp (n := n_b A pl) (by omega), xo.2.2.1, xo.2.2.2, ef, ez]
  refine lX_kpf (I := mm_up (mm_up I 55 (n_b A pl) (nI pl)) 56 (n_b A pl) (nI t.1)) (A := A) (n := n_b A pl) (l := t.2.1) (r := t.2.2) (g := S.2.2.2) hN hn xo.1 hl hr (fun J a1 a2 => H J ⟨fun k hk => ?_, fun k hk => ?_, a1⟩ (fun a j h => ?_)) (h_z A (n_b A pl)) 0 _ (by omega) (fun k hk => ?_) (fun a _ => rfl)
  · rw [a2 55 (by decide), up_o (by decide), up_a]
    show _ = upd S.2.1 (n_b A pl) (nI pl) k
    unfold upd
    rw [hF.1 k hk]
  · rw [a2 56 (by decide), up_a, up_o (by decide)]
    show _ = upd S.2.2.1 (n_b A pl) (nI t.1) k
    unfold upd
    rw [hF.2.1 k hk]
  · unfold F_57 at h
    rw [Bool.or_eq_false_iff, Bool.or_eq_false_iff] at h
    have n7 : a ≠ 57 := fun z => by rw [z] at h; cases h.2
    have n6 : a ≠ 56 := fun z => by rw [z] at h; cases h.1.2
    have n5 : a ≠ 55 := fun z => by rw [z] at h; cases h.1.1
    rw [a2 a n7, up_o n6, up_o n5]
  · rw [show (mm_up (mm_up I 55 (n_b A pl) (nI pl)) 56 (n_b A pl) (nI t.1)) 57 k = I 57 k from rfl, hF.2.2 k hk]
    unfold sndI sndC
    by_cases c : h_c A = 2
    · rw [if_pos c, if_neg (by omega), if_neg (by omega)]
    · rw [if_neg c, if_neg (by omega)]
theorem fnS_b {A : sA} (h : 21 ≤ s_su A) : ∀ k, (fnS A k).1.2 ≤ s_su A := by
  intro k
  induction k with
  | zero => exact h
  | succ k ih =>
    show (fnT A (21 + k) (fnS A k)).1.2 ≤ s_su A
    by_cases q : 21 + k < (fnS A k).1.2
    · rw [fnT_sk q]; exact ih
    · cases e : fgO A (21 + k) with
      | none => rw [fnT_no (fun t ht => by rw [e] at ht; cases ht)]; exact ih
      | some t =>
        by_cases qn : n_b A (21 + k) < (fnS A k).1.1
        · rw [fnT_no (fun _ _ => qn)]; exact ih
        · rw [fnT_y q e qn]
          exact (fgO_len e).2.2.2
theorem FxX_lx {S : fS} {I J : mm_I} (h : FxX S I) (f : sm F_lx I J) : FxX S J := by
  have e1 : J 55 = I 55 := f.fn 55 (fun _ => rfl)
  have e2 : J 56 = I 56 := f.fn 56 (fun _ => rfl)
  have e3 : J 57 = I 57 := f.fn 57 (fun _ => rfl)
  unfold FxX
  rw [e1, e2, e3]
  exact h
theorem lX_find {P : mm_I → Prop} {A : sA} {I : mm_I} (hV : VA A) (hN : HdN A) (H : ∀ J, FxX (fnA A) J → XxI A J → sm F_fx I J → P J) : ∀ (r k : Nat) (J : mm_I), 21 + k + r = s_su A → XxI A J → FxX (fnS A k) J → sm F_fx I J → mm_W 36 12 [some (.ref 46), some (.int (nI (fnS A k).1.1)), some (.int (nI (fnS A k).1.2)), some (.int (nI (21 + k))), none, none] [] J (mm_qv 36 P) := by
  have hsu := hV.su
  have h21 := hN.2.2.2.2.2
  have n16 := h_n_b hN
  intro r
  induction r with
  | zero =>
    intro k J hk hX hF hsm
    have ek : k = s_su A - 21 := by omega
    subst ek
    refine c_Reader_find_12 _ _ _ ?_
    rw [hX.1.1]
    exact ⟨fun _ => H J hF hX hsm, fun z => absurd z (nI_nlt (by omega) (by omega))⟩
  | succ r ih =>
    intro k J hk hX hF hsm
    have e : fnS A (k + 1) = fnT A (21 + k) (fnS A k) := rfl
    have b2 := fnS_b h21 k
    have b3 := (fnS_inv (A := A) hsu k).2.2
    have same : fnT A (21 + k) (fnS A k) = fnS A k → ∀ K, sm F_lx J K → mm_W 36 12 [some (.ref 46), some (.int (nI (fnS A k).1.1)), some (.int (nI (fnS A k).1.2)), some (.int (nI (21 + k + 1))), none, none] [] K (mm_qv 36 P) := fun q K f => by
      have := ih (k + 1) K (by omega) (XxI_lx hX f)
      rw [e, q] at this
      exact this (FxX_lx hF f) (sm.tq hsm f.fxl)
    refine c_Reader_find_12 _ _ _ ?_
    rw [hX.1.1, nI_1]
    refine ⟨fun z => absurd z (nI_ge (by omega) (by omega)), fun _ => ⟨fun z => ?_, fun z => same (fnT_sk ((nI_ltI (by omega) (by omega)).mp z)) J sm.rf⟩⟩
    have z := (nI_leI (by omega) (by omega)).mp z
    refine sp_X_numberAt hV hN hX (by omega) (fun q => ⟨fun y => ?_, fun _ => ⟨fun y => ?_, fun y => ?_⟩⟩) (fun q => ⟨fun _ => same (fnT_no (fun t ht => absurd (fgO_len ht).1 q)) J sm.rf, fun y => absurd rfl y⟩)
    · have := q.2.2
      exact absurd y (fun y => nI_pos (n := n_b A (21 + k)) (by omega) (by rw [y]; decide))
    · have q3 := q.2.2
      have y := (nI_leI (by omega) (by omega)).mp y
      refine sp_X_lengthAt hV hN hX (by omega) (fun t ht K a1 a2 a3 => ⟨fun x => ?_, fun _ => ?_⟩) (fun ht K a3 => ⟨fun _ => same (fnT_no (fun t h2 => by rw [ht] at h2; cases h2)) K a3, fun x => absurd rfl x⟩)
      · have L := fgO_len ht
        exact absurd x (fun x => nI_pos (n := t.1) (by omega) (by rw [x]; decide))
      · have L := fgO_len ht
        refine sp_X_keepFound hN (XxI_lx hX a3) (FxX_lx hF a3) q3 a1 a2 (fun K2 d1 d2 => ?_)
        have en : fnT A (21 + k) (fnS A k) = fnN A (21 + k) t (fnS A k) := fnT_y (by omega) ht (by omega)
        have f2 := sm.tq a3.fxl d2.fx7
        have := ih (k + 1) K2 (by omega) (XxI_fx hX f2)
        rw [e, en] at this
        rw [nI_1, nI_add]
        exact this d1 (sm.tq hsm f2)
    · have q3 := q.2.2
      have y := (nI_ltI (by omega) (by omega)).mp y
      exact same (fnT_no (fun _ _ => y)) J sm.rf
theorem sp_X_find {P : mm_I → Prop} {A : sA} {I : mm_I} (hV : VA A) (hN : HdN A) (hX : XxI A I) (H : ∀ J, FxX (fnA A) J → XxI A J → sm F_fx I J → P J) : mm_Mv 36 [.ref 46] I P := by
  have h21 := hN.2.2.2.2.2
  refine e_Reader_find (sp_X_forgetFound (fun J a1 a2 => ?_))
  exact lX_find hV hN (fun K b1 b2 b3 => H K b1 b2 b3) (s_su A - 21) 0 J (by omega) (XxI_fx hX a2.fx7) a1 a2.fx7
