/-! the class: how a row is packed -/
theorem lX_isStill {P : Int32 → mm_I → Prop} {x : Nat → Int32} {I : mm_I} {rr n b : Nat} (hr : rwX rr) (hX : RwX rr x n b I) (h1 : 1 ≤ n) (H : P (b1 (stl x n)) I) : ∀ (r k : Nat), k + r = n → 1 ≤ k → (∀ i, i < k → x i = x 0) → mm_W 42 2 [some (.ref rr), some (.int (nI k))] [] I (mm_qi 42 P) := by
  have hn := hX.1
  intro r
  induction r with
  | zero =>
    intro k hk _ h
    have hk : k = n := by omega
    subst hk
    refine c_Row_isStill_2 hr _ ?_
    rw [hX.2.1]
    refine ⟨fun _ => ?_, fun z => absurd z (nI_nlt (by omega) (by omega))⟩
    rw [b1_t (show stl x k from h)] at H
    exact H
  | succ r ih =>
    intro k hk k1 h
    refine c_Row_isStill_2 hr _ ?_
    rw [hX.2.1, nI_clamp (n := k) (by omega), hX.2.2.2 k (by omega), hX.2.2.2 0 (by omega), nI_1]
    refine ⟨fun z => absurd z (nI_ge (by omega) (by omega)), fun _ => ⟨vp_in_nI (by omega) (by omega), fun z => ?_, fun z => ?_⟩⟩
    · refine ih (k + 1) (by omega) (by omega) (fun i hi => ?_)
      by_cases q : i = k
      · rw [q]; exact z
      · exact h i (by omega)
    · rw [b1_f (fun y : stl x n => z (y k (by omega)))] at H
      exact H
theorem sp_X_isStill {P : Int32 → mm_I → Prop} {x : Nat → Int32} {I : mm_I} {rr n b : Nat} (hr : rwX rr) (hX : RwX rr x n b I) (h1 : 1 ≤ n) (H : P (b1 (stl x n)) I) : mm_Mi 42 [.ref rr] I P :=
  e_Row_isStill hr (lX_isStill hr hX h1 H (n - 1) 1 (by omega) (Nat.le_refl 1) (fun i hi => by rw [show i = 0 by omega]))
theorem sp_X_firstBits {P : Int32 → mm_I → Prop} {I : mm_I} {rr o b : Nat} (hr : rwX rr) (e : I rr 2 = nI b) (H : P (nI (4 + b * o)) I) : mm_Mi 43 [.ref rr, .int (nI o)] I P := by
  refine e_Row_firstBits hr _ ?_
  have : (4 : Int32) + nI o * I rr 2 = nI (4 + b * o) := by
    rw [e, pk_mul]
    show nI 4 + _ = _
    rw [nI_add, Nat.mul_comm]
  rw [this]
  exact H
/-- a run kept -/
abbrev RkX (rr ef : Nat) (E : Nat → Int32) (m k : Nat) (I : mm_I) : Prop := I (rr + 2) k = nI ((rTo ef E m k).2 - (rTo ef E m k).1) ∧ I (rr + 3) k = nI (rPa ef E m k) ∧ I (rr + 5) k = nI (rBt ef E m k) ∧ (rPa ef E m k = 14 → I (rr + 4) k = nI (wMx E (8 * (rTo ef E m k).1) (rcn m (rTo ef E m k).1 (rTo ef E m k).2)))
def F_rk (rr a j : Nat) : Bool := (Nat.beq a rr && Nat.beq j 5) || (Nat.ble (rr + 2) a && Nat.ble a (rr + 5))
theorem F_rk_r {rr i : Nat} : F_rk rr rr 5 = true := by
  unfold F_rk
  rw [Nat.beq_refl]
  rfl
theorem F_rk_d {rr d i : Nat} (h1 : 2 ≤ d) (h2 : d ≤ 5) : F_rk rr (rr + d) i = true := by
  unfold F_rk
  rw [Nat.ble_eq_true_of_le (by omega), Nat.ble_eq_true_of_le (by omega), Bool.and_self, Bool.or_true]
theorem F_rk_o {rr a j : Nat} (h : a ≠ rr ∨ j ≠ 5) (h2 : a < rr + 2 ∨ rr + 5 < a) : F_rk rr a j = false := by
  refine mm_bf fun z => ?_
  unfold F_rk at z
  rw [Bool.or_eq_true, Bool.and_eq_true, Bool.and_eq_true, mm_beq_iff, mm_beq_iff] at z
  rcases z with ⟨z1, z2⟩ | ⟨z1, z2⟩
  · rcases h with y | y
    · exact y z1
    · exact y z2
  · have a1 := Nat.le_of_ble_eq_true z1
    have a2 := Nat.le_of_ble_eq_true z2
    omega
/-- the last run ends where the groups end -/
theorem rT_end {ef : Nat} {E : Nat → Int32} {m : Nat} (hm1 : 1 ≤ m) : 1 ≤ rCnt ef E m ∧ (rTo ef E m (rCnt ef E m - 1)).2 = Gm m := by
  have hGm : Gm m = (m + 7) / 8 := rfl
  by_cases q : ef = 1
  · have eT : rTo ef E m = wRu (spb E m) (Gm m) := if_pos q
    have eC : rCnt ef E m = wCt (Gm m) (bst (spb E m) (Gm m)) (Gm m) := if_pos q
    obtain ⟨_, _, h4⟩ := wTo_chn (c := spb E m) (G := Gm m) (way := bst (spb E m) (Gm m)) (Gm m)
    have hf : wFr (Gm m) (bst (spb E m) (Gm m)) (Gm m) = Gm m := by
      generalize hg : Gm m = G at *
      obtain ⟨g, rfl⟩ : ∃ g, G = g + 1 := ⟨G - 1, by omega⟩
      show (if ncut (g + 1) (bst (spb E m) (g + 1)) g then wFr (g + 1) (bst (spb E m) (g + 1)) g else g + 1) = g + 1
      rw [if_neg (fun z => by have := z.1; omega)]
    rw [hf] at h4
    rw [eC, eT]
    by_cases z : wCt (Gm m) (bst (spb E m) (Gm m)) (Gm m) = 0
    · rw [if_pos z] at h4; omega
    · rw [if_neg z] at h4
      exact ⟨by omega, h4.symm⟩
  · have eT : rTo ef E m = fun _ => (0, Gm m) := if_neg q
    have eC : rCnt ef E m = 1 := if_neg q
    rw [eC, eT]
    exact ⟨Nat.le_refl 1, rfl⟩
theorem lX_keep {P : mm_I → Prop} {E : Nat → Int32} {I : mm_I} {rr ef m : Nat} (hr : rwX rr) (hE : CtI E m I) (hB : EB E m) (h1 : 1 ≤ m) (hC : CkI ef E m I)
    (H : ∀ J, J rr 5 = nI (rCnt ef E m) → (∀ k, k < rCnt ef E m → RkX rr ef E m k J) → sm (F_rk rr) I J → P J) : ∀ (r k : Nat) (J : mm_I), k + r = rCnt ef E m → (1 ≤ k → J rr 5 = nI k) → (∀ i, i < k → RkX rr ef E m i J) → sm (F_rk rr) I J → mm_W 44 4 [some (.ref rr), some (.ref 11), some (.int (nI (if k = 0 then 0 else (rTo ef E m (k - 1)).2))), some (.int (nI k))] [] J (mm_qv 44 P) := by
  have hm := hE.1
  have hGm : Gm m = (m + 7) / 8 := rfl
  have c8 := rCnt_b (ef := ef) (E := E) hm
  have rt := (rT_ok (ef := ef) hm h1 hB).1
  have re := rT_end (ef := ef) (E := E) h1
  have g22 : 22 ≤ rr := by omega
  intro r
  induction r with
  | zero =>
    intro k J hk h5 hR hsm
    have hk : k = rCnt ef E m := by omega
    subst hk
    have e11 : J 11 2 = nI (Gm m) := (hsm 11 2 (F_rk_o (Or.inl (by omega)) (Or.inl (by omega)))).trans hE.2.2.1
    have fin := H J (h5 (by omega)) hR hsm
    rw [if_neg (by omega), re.2]
    refine c_Row_keepRuns_4 hr _ _ ⟨fun _ => fin, fun _ => ⟨fun _ => fin, fun z => ?_⟩⟩
    rw [e11] at z
    exact absurd z (nI_nlt (by omega) (by omega))
  | succ r ih =>
    intro k J hk h5 hR hsm
    obtain ⟨t1, t2, t3, _, _⟩ := rt k (by omega)
    obtain ⟨c1, c2, c3, c4⟩ := hC k (by omega)
    have cell : ∀ a i, 11 ≤ a → a ≤ 21 → J a i = I a i := fun a i h1 h2 => hsm a i (F_rk_o (Or.inl (by omega)) (Or.inl (by omega)))
    have e11 : J 11 2 = nI (Gm m) := (cell 11 2 (by omega) (by omega)).trans hE.2.2.1
    rw [← t3]
    generalize hF : (rTo ef E m k).1 = f at *
    have vf := vp_in_nI (n := f) (N := 8) (by omega) (by omega)
    have vk := vp_in_nI (n := k) (N := 8) (by omega) (by omega)
    refine c_Row_keepRuns_4 hr _ _ ⟨fun z => absurd z (nI_ge (b := 8) (by omega) (by omega)), fun _ => ⟨fun z => ?_, fun _ => ?_⟩⟩
    · rw [e11] at z
      exact absurd z (nI_ge (by omega) (by omega))
    · rw [nI_clamp (n := f) (by omega), nI_clamp (n := k) (by omega), cell 18 f (by omega) (by omega), cell 19 f (by omega) (by omega), cell 20 f (by omega) (by omega), cell 21 f (by omega) (by omega), c1, c2, c3, nI_add, nI_1, show f + ((rTo ef E m k).2 - f) = (rTo ef E m k).2 by omega]
      refine ⟨vf, vk, vf, vk, vf, vk, vf, vk, vf, ?_⟩
      have nx := ih (k + 1) (mm_up (mm_up (mm_up (mm_up (mm_up J (rr + 2) k (nI ((rTo ef E m k).2 - f))) (rr + 3) k (nI (rPa ef E m k))) (rr + 4) k (I 20 f)) (rr + 5) k (nI (rBt ef E m k))) rr 5 (nI (k + 1))) (by omega) (fun _ => by rw [up_a, if_pos rfl]) (fun i hi => ?_) (((((hsm.up (F_rk_d (by omega) (by omega))).up (F_rk_d (by omega) (by omega))).up (F_rk_d (by omega) (by omega))).up (F_rk_d (by omega) (by omega))).up (F_rk_r (i := 0)))
      · rw [if_neg (by omega), show k + 1 - 1 = k by omega] at nx
        exact nx
      · by_cases q : i = k
        · subst q
          rw [← hF] at c4
          refine ⟨?_, ?_, ?_, fun z => ?_⟩
          · rw [up_o (by omega), up_o (by omega), up_o (by omega), up_o (by omega), up_a, if_pos rfl, hF]
          · rw [up_o (by omega), up_o (by omega), up_o (by omega), up_a, if_pos rfl]
          · rw [up_o (by omega), up_a, if_pos rfl]
          · rw [up_o (by omega), up_o (by omega), up_a, if_pos rfl, ← hF]
            exact c4 z
        · obtain ⟨k1, k2, k3, k4⟩ := hR i (by omega)
          refine ⟨?_, ?_, ?_, fun z => ?_⟩
          · rw [up_o (by omega), up_o (by omega), up_o (by omega), up_o (by omega), up_a, if_neg q]; exact k1
          · rw [up_o (by omega), up_o (by omega), up_o (by omega), up_a, if_neg q, up_o (by omega)]; exact k2
          · rw [up_o (by omega), up_a, if_neg q, up_o (by omega), up_o (by omega), up_o (by omega)]; exact k3
          · rw [up_o (by omega), up_o (by omega), up_a, if_neg q, up_o (by omega), up_o (by omega)]; exact k4 z
theorem sp_X_keepRuns {P : mm_I → Prop} {E : Nat → Int32} {I : mm_I} {rr ef m : Nat} (hr : rwX rr) (hE : CtI E m I) (hB : EB E m) (h1 : 1 ≤ m) (hC : CkI ef E m I)
    (H : ∀ J, J rr 5 = nI (rCnt ef E m) → (∀ k, k < rCnt ef E m → RkX rr ef E m k J) → sm (F_rk rr) I J → P J) : mm_Mv 44 [.ref rr, .ref 11] I P :=
  e_Row_keepRuns hr (lX_keep hr hE hB h1 hC H (rCnt ef E m) 0 I (by omega) (fun h => absurd h (by omega)) (fun i hi => absurd hi (Nat.not_lt_zero i)) sm.rf)
/-- the bits of all runs, by the effort -/
theorem cut_X {P : Int32 → mm_I → Prop} {E : Nat → Int32} {I : mm_I} {m ef : Nat} (hef : ef ≤ 1) (hE : CtI E m I) (hB : EB E m) (h1 : 1 ≤ m) (H : ∀ J, CkI ef E m J → CtI E m J → sm F_ct I J → P (nI (rBits ef E m)) J) : (¬ nI ef = 0 → mm_Mi 6 [.ref 11] I P) ∧ (nI ef = 0 → mm_Mi 4 [.ref 11] I P) := by
  rcases (by omega : ef = 0 ∨ ef = 1) with rfl | rfl
  · exact ⟨fun z => absurd rfl z, fun _ => sp_X_cutNowhere hE hB h1 H⟩
  · exact ⟨fun _ => sp_X_cutForLeast hE hB h1 H, fun z => absurd z (by decide)⟩
abbrev c39 (rr : Nat) (ef set x5 x6 x7 : Int32) : mm_Ls := [some (.ref rr), some (.ref 6), some (.ref 11), some (.int ef), some (.int set), some (.int x5), some (.int x6), some (.int x7), none]
theorem lX_step {P : mm_I → Prop} {w s x : Nat → Int32} {I : mm_I} {rr n b ef set p : Nat} {x5 x6 : Int32} (hr : rwX rr) (hq : RXq 6 w s I) (hX : RwX rr x n b I) (hw : WB w s) (hx : XB x n) (hef : ef ≤ 1) (hs : set < 256) (hp : p < 8)
    (H1 : set / 2 ^ p % 2 = 1 → o_od w p < n → ∀ J, sm F_ct I J → mm_W 41 39 (c39 rr (nI ef) (nI set) (if x6 ≤ nI (mea w s x n b ef p) then x5 else nI p) (if x6 ≤ nI (mea w s x n b ef p) then x6 else nI (mea w s x n b ef p)) (nI (p + 1))) [] J (mm_qv 41 P))
    (H0 : ¬ (set / 2 ^ p % 2 = 1 ∧ o_od w p < n) → mm_W 41 39 (c39 rr (nI ef) (nI set) x5 x6 (nI (p + 1))) [] I (mm_qv 41 P)) : mm_W 41 39 (c39 rr (nI ef) (nI set) x5 x6 (nI p)) [] I (mm_qv 41 P) := by
  have hn := hX.1
  have o4 := o_od_le w p
  refine c_Row_choose_39 hr _ _ _ _ _ ⟨fun z => absurd z (nI_ge (b := 8) (by omega) (by omega)), fun _ => ?_⟩
  rw [setI hs hp, nI_1, nI_clamp (n := p) (by omega), hX.2.1, hq.2.2.1 p hp]
  have m2 : set / 2 ^ p % 2 < 2 := Nat.mod_lt _ (by omega)
  refine ⟨fun z => H0 (fun y => ?_), fun z => ⟨vp_in_nI (by omega) (by omega), fun y => H0 (fun k => ?_), fun y => ?_⟩⟩
  · have := (nI_eq (b := 0) (by omega) (by omega)).mp z
    omega
  · have := (nI_leI (by omega) (by omega)).mp y
    omega
  · have a : set / 2 ^ p % 2 = 1 := by
      have : set / 2 ^ p % 2 ≠ 0 := fun k => z (by rw [k]; rfl)
      omega
    have y := (nI_ltI (by omega) (by omega)).mp y
    have hB := er_b (x := x) (p := p) (n := n) hw hx hp (by omega)
    refine sp_X_load hr hp hq hX (by omega) hB (fun J a1 a2 => ?_)
    have hX2 := RwX_ct hX hr a2
    have hq2 := RXq_ct hq a2
    rcases (by omega : ef = 0 ∨ ef = 1) with e | e
    · subst e
      refine ⟨fun k => absurd rfl k, fun _ => ?_⟩
      have em : mea w s x n b 0 p = szs (o_er w s x p) (n - o_od w p) := if_neg (by decide)
      rw [a1.2.2.2.1, ← em]
      exact H1 a y J a2
    · subst e
      refine ⟨fun _ => ⟨vp_in_nI (by omega) (by omega), ?_⟩, fun k => absurd k (by decide)⟩
      rw [hq2.2.2.1 p hp]
      refine sp_X_firstBits hr hX2.2.2.1 (sp_X_cutForLeast a1 hB (by omega) (fun J2 _ _ b3 => ?_))
      have em : nI (4 + b * o_od w p) + nI (rBits 1 (o_er w s x p) (n - o_od w p)) = nI (mea w s x n b 1 p) := by
        have : mea w s x n b 1 p = cst w s x n b 1 p := if_pos rfl
        rw [nI_add, this]
        rfl
      rw [em]
      exact H1 a y J2 (sm.tq a2 b3)
/-- a row as it is packed -/
def RoX (rr : Nat) (w s x : Nat → Int32) (n b ef set : Nat) (I : mm_I) : Prop := RwX rr x n b I ∧ I rr 3 = nI (hwH w s x n b ef set) ∧ I rr 4 = nI (hwB w s x n b ef set) ∧ I rr 5 = nI (hwC w s x n b ef set) ∧ ∀ k, k < hwC w s x n b ef set → RkX rr ef (hwE w s x n b ef set) (hwM w s x n b ef set) k I
def F_ch (rr a j : Nat) : Bool := F_ct a j || (Nat.ble rr a && Nat.ble a (rr + 5))
theorem F_ch_p {rr a j : Nat} (h : F_ch rr a j = false) : F_ct a j = false ∧ (a < rr ∨ rr + 5 < a) := by
  unfold F_ch at h
  rw [Bool.or_eq_false_iff, Bool.and_eq_false_iff] at h
  refine ⟨h.1, ?_⟩
  rcases h.2 with z | z
  · rcases Nat.lt_or_ge a rr with y | y
    · exact Or.inl y
    · rw [Nat.ble_eq_true_of_le y] at z; cases z
  · rcases Nat.lt_or_ge (rr + 5) a with y | y
    · exact Or.inr y
    · rw [Nat.ble_eq_true_of_le y] at z; cases z
theorem sm.cc {rr : Nat} {I J : mm_I} (f : sm F_ct I J) : sm (F_ch rr) I J := f.le (fun _ _ h => (F_ch_p h).1)
theorem sm.ck {rr : Nat} {I J : mm_I} (f : sm (F_rk rr) I J) : sm (F_ch rr) I J := f.le (fun a j h => by
  have q := (F_ch_p h).2
  exact F_rk_o (Or.inl (by omega)) (by omega))
theorem F_ch_r {rr j : Nat} : F_ch rr rr j = true := by
  unfold F_ch
  rw [Nat.ble_eq_true_of_le (Nat.le_refl rr), Nat.ble_eq_true_of_le (by omega), Bool.and_self, Bool.or_true]
theorem mea_l {w s x : Nat → Int32} {n b ef p : Nat} (hw : WB w s) (hx : XB x n) (hn : n ≤ 64) (hb : b ≤ 17) (hp : p < 8) (ho : o_od w p ≤ n) : mea w s x n b ef p < 2147483647 := by
  have := mea_b (b := b) (ef := ef) hw hx hn hb hp ho
  omega
theorem lX_ch39 {P : mm_I → Prop} {w s x : Nat → Int32} {I : mm_I} {rr n b ef set : Nat} (hr : rwX rr) (hq : RXq 6 w s I) (hX : RwX rr x n b I) (hw : WB w s) (hx : XB x n) (h1 : 1 ≤ n) (hb : b ≤ 17) (hef : ef ≤ 1) (hs : set < 256)
    (H : ∀ J, sm F_ct I J → mm_W 41 39 (c39 rr (nI ef) (nI set) (nI (bpr w s x n b ef set 7)) (nI (mea w s x n b ef (bpr w s x n b ef set 7))) (nI 8)) [] J (mm_qv 41 P)) : ∀ (r k : Nat) (J : mm_I), k + r = 7 → sm F_ct I J → mm_W 41 39 (c39 rr (nI ef) (nI set) (nI (bpr w s x n b ef set k)) (nI (mea w s x n b ef (bpr w s x n b ef set k))) (nI (k + 1))) [] J (mm_qv 41 P) := by
  have hn := hX.1
  intro r
  induction r with
  | zero =>
    intro k J hk hsm
    have hk : k = 7 := by omega
    subst hk
    exact H J hsm
  | succ r ih =>
    intro k J hk hsm
    have bo := bpr_ok (w := w) (s := s) (x := x) (b := b) (ef := ef) (set := set) h1 k
    have m0 := mea_l (b := b) (ef := ef) hw hx hn hb (show bpr w s x n b ef set k < 8 by omega) (by omega)
    have e : bpr w s x n b ef set (k + 1) = if set / 2 ^ (k + 1) % 2 = 1 ∧ o_od w (k + 1) < n ∧ mea w s x n b ef (k + 1) < mea w s x n b ef (bpr w s x n b ef set k) then k + 1 else bpr w s x n b ef set k := rfl
    refine lX_step hr (RXq_ct hq hsm) (RwX_ct hX hr hsm) hw hx hef hs (by omega) (fun a1 a2 J2 a3 => ?_) (fun hno => ?_)
    · have m1 := mea_l (b := b) (ef := ef) hw hx hn hb (show k + 1 < 8 by omega) (by omega)
      have nx := ih (k + 1) J2 (by omega) (sm.tq hsm a3)
      by_cases q : mea w s x n b ef (k + 1) < mea w s x n b ef (bpr w s x n b ef set k)
      · rw [if_pos ⟨a1, a2, q⟩] at e
        rw [e] at nx
        have q2 : ¬ nI (mea w s x n b ef (bpr w s x n b ef set k)) ≤ nI (mea w s x n b ef (k + 1)) := nI_ge q (by omega)
        rw [if_neg q2, if_neg q2]
        exact nx
      · rw [if_neg (fun z => q z.2.2)] at e
        rw [e] at nx
        have q2 : nI (mea w s x n b ef (bpr w s x n b ef set k)) ≤ nI (mea w s x n b ef (k + 1)) := nI_le (by omega) (by omega)
        rw [if_pos q2, if_pos q2]
        exact nx
    · have nx := ih (k + 1) J (by omega) hsm
      rw [if_neg (fun z => hno ⟨z.1, z.2.1⟩)] at e
      rw [e] at nx
      exact nx
theorem sp_X_choose {P : mm_I → Prop} {w s x : Nat → Int32} {I : mm_I} {rr n b ef set : Nat} (hr : rwX rr) (hq : RXq 6 w s I) (hX : RwX rr x n b I) (hw : WB w s) (hx : XB x n) (h1 : 1 ≤ n) (hb : b ≤ 17) (hef : ef ≤ 1) (hs : set < 256) (hs1 : set % 2 = 1)
    (H : ∀ J, RoX rr w s x n b ef set J → sm (F_ch rr) I J → P J) : mm_Mv 41 [.ref rr, .ref 6, .ref 11, .int (nI ef), .int (nI set)] I P := by
  have hn := hX.1
  have g22 : 22 ≤ rr := by omega
  have X0 : RwX rr x n b (mm_up I rr 5 0) := by
    refine ⟨hn, ?_, ?_, fun i hi => ?_⟩
    · rw [up_a, if_neg (by decide)]; exact hX.2.1
    · rw [up_a, if_neg (by decide)]; exact hX.2.2.1
    · rw [up_o (by omega)]; exact hX.2.2.2 i hi
  have q0 : RXq 6 w s (mm_up I rr 5 0) := by
    unfold RXq
    rw [up_o (by omega), up_o (by omega), up_o (by omega)]
    exact hq
  have z0 : (mm_up I rr 5 0) rr 5 = 0 := by rw [up_a, if_pos rfl]
  have f0 : sm (F_ch rr) I (mm_up I rr 5 0) := sm.rf.up F_ch_r
  refine e_Row_choose hr _ _ ?_
  generalize mm_up I rr 5 0 = I0 at *
  have nb : n * b ≤ 64 * 17 := Nat.mul_le_mul hn hb
  refine sp_X_isStill hr X0 h1 ⟨fun hst => ?_, fun hst => ?_⟩
  · have hst := b1_0.mp hst
    -- not still
    have bo := bpr_ok (w := w) (s := s) (x := x) (b := b) (ef := ef) (set := set) h1 7
    have m0 := mea_l (b := b) (ef := ef) hw hx hn hb (show 0 < 8 by omega) (Nat.zero_le n)
    refine lX_step (p := 0) hr q0 X0 hw hx hef hs (by omega) (fun _ _ J a3 => ?_) (fun hno => ?_)
    · have q2 : ¬ (2147483647 : Int32) ≤ nI (mea w s x n b ef 0) := nI_ge (b := 2147483647) m0 (by omega)
      rw [if_neg q2, if_neg q2]
      refine lX_ch39 hr q0 X0 hw hx h1 hb hef hs (fun J2 b3 => ?_) 7 0 J (by omega) a3
      have hP : hwP w s x n b ef set = bpr w s x n b ef set 7 := rfl
      rw [← hP] at bo ⊢
      have X2 := RwX_ct X0 hr b3
      have Q2 := RXq_ct q0 b3
      have Z2 : J2 rr 5 = 0 := (b3 rr 5 (F_ct_f (Or.inr (by omega)))).trans z0
      have X3 : RwX rr x n b (mm_up J2 rr 3 (nI (hwP w s x n b ef set))) := by
        refine ⟨hn, ?_, ?_, fun i hi => ?_⟩
        · rw [up_a, if_neg (by decide)]; exact X2.2.1
        · rw [up_a, if_neg (by decide)]; exact X2.2.2.1
        · rw [up_o (by omega)]; exact X2.2.2.2 i hi
      have Q3 : RXq 6 w s (mm_up J2 rr 3 (nI (hwP w s x n b ef set))) := by
        unfold RXq
        rw [up_o (by omega), up_o (by omega), up_o (by omega)]
        exact Q2
      have h33 : (mm_up J2 rr 3 (nI (hwP w s x n b ef set))) rr 3 = nI (hwP w s x n b ef set) := by rw [up_a, if_pos rfl]
      have h35 : (mm_up J2 rr 3 (nI (hwP w s x n b ef set))) rr 5 = 0 := by rw [up_a, if_neg (by decide)]; exact Z2
      have f3 : sm (F_ch rr) I (mm_up J2 rr 3 (nI (hwP w s x n b ef set))) := (sm.tq f0 b3.cc).up F_ch_r
      refine c_Row_choose_39 hr _ _ _ _ _ ⟨fun _ => ?_, fun z => absurd z (by decide)⟩
      generalize mm_up J2 rr 3 (nI (hwP w s x n b ef set)) = I3 at *
      have hB := er_b (x := x) (p := hwP w s x n b ef set) (n := n) hw hx (by omega) (by omega)
      refine sp_X_load hr (by omega) Q3 X3 (by omega) hB (fun J4 c1 c2 => ⟨vp_in_nI (by omega) (by omega), ?_⟩)
      have X4 := RwX_ct X3 hr c2
      have Q4 := RXq_ct Q3 c2
      rw [nI_clamp (n := hwP w s x n b ef set) (by omega), Q4.2.2.1 _ (by omega)]
      refine sp_X_firstBits hr X4.2.2.1 ?_
      have rb := rBits_b (ef := ef) (E := o_er w s x (hwP w s x n b ef set)) (m := n - o_od w (hwP w s x n b ef set)) (by omega) hB
      have ob : b * o_od w (hwP w s x n b ef set) ≤ 17 * 64 := Nat.mul_le_mul hb (by omega)
      have ec : nI (4 + b * o_od w (hwP w s x n b ef set)) + nI (rBits ef (o_er w s x (hwP w s x n b ef set)) (n - o_od w (hwP w s x n b ef set))) = nI (cst w s x n b ef (hwP w s x n b ef set)) := nI_add _ _
      have cb : cst w s x n b ef (hwP w s x n b ef set) ≤ 1073742727 + 1200 := by
        unfold cst
        omega
      refine cut_X hef c1 hB (by omega) (fun J5 d1 d2 d3 => ?_)
      have X5 := RwX_ct X4 hr d3
      have ep : (4 : Int32) + J5 rr 1 * J5 rr 2 = nI (4 + n * b) := by
        rw [X5.2.1, X5.2.2.1, pk_mul]
        exact nI_add 4 _
      have h53 : J5 rr 3 = nI (hwP w s x n b ef set) := ((d3 rr 3 (F_ct_f (Or.inr (by omega)))).trans (c2 rr 3 (F_ct_f (Or.inr (by omega))))).trans h33
      have h55 : J5 rr 5 = 0 := ((d3 rr 5 (F_ct_f (Or.inr (by omega)))).trans (c2 rr 5 (F_ct_f (Or.inr (by omega))))).trans h35
      have f5 : sm (F_ch rr) I J5 := sm.tq (sm.tq f3 c2.cc) d3.cc
      rw [ec, ep]
      refine ⟨fun z => ?_, fun z => ?_⟩
      · have z := (nI_leI (by omega) (by omega)).mp z
        have eH : hwH w s x n b ef set = hwP w s x n b ef set := by
          unfold hwH
          rw [if_neg hst, if_pos z]
        have eB : hwB w s x n b ef set = cst w s x n b ef (hwP w s x n b ef set) := by
          unfold hwB
          rw [if_neg hst, if_pos z]
        have eC : hwC w s x n b ef set = rCnt ef (hwE w s x n b ef set) (hwM w s x n b ef set) := by
          unfold hwC
          rw [if_pos (by rw [eH]; omega)]
        have X6 : RwX rr x n b (mm_up J5 rr 4 (nI (cst w s x n b ef (hwP w s x n b ef set)))) := by
          refine ⟨hn, ?_, ?_, fun i hi => ?_⟩
          · rw [up_a, if_neg (by decide)]; exact X5.2.1
          · rw [up_a, if_neg (by decide)]; exact X5.2.2.1
          · rw [up_o (by omega)]; exact X5.2.2.2 i hi
        have oc : ∀ a, 11 ≤ a → a ≤ 21 → (mm_up J5 rr 4 (nI (cst w s x n b ef (hwP w s x n b ef set)))) a = J5 a := fun a h1 h2 => up_o (by omega)
        have C6 : CtI (o_er w s x (hwP w s x n b ef set)) (n - o_od w (hwP w s x n b ef set)) (mm_up J5 rr 4 (nI (cst w s x n b ef (hwP w s x n b ef set)))) := by
          unfold CtI
          rw [oc 11 (by omega) (by omega), oc 12 (by omega) (by omega)]
          exact d2
        have K6 : CkI ef (o_er w s x (hwP w s x n b ef set)) (n - o_od w (hwP w s x n b ef set)) (mm_up J5 rr 4 (nI (cst w s x n b ef (hwP w s x n b ef set)))) := by
          unfold CkI
          rw [oc 18 (by omega) (by omega), oc 19 (by omega) (by omega), oc 20 (by omega) (by omega), oc 21 (by omega) (by omega)]
          exact d1
        refine sp_X_keepRuns hr C6 hB (by omega) K6 (fun J7 g1 g2 g3 => H J7 ⟨⟨hn, ?_, ?_, fun i hi => ?_⟩, ?_, ?_, ?_, ?_⟩ (sm.tq (f5.up F_ch_r) g3.ck))
        · rw [g3 rr 1 (F_rk_o (Or.inr (by omega)) (Or.inl (by omega)))]; exact X6.2.1
        · rw [g3 rr 2 (F_rk_o (Or.inr (by omega)) (Or.inl (by omega)))]; exact X6.2.2.1
        · rw [g3 (rr + 1) i (F_rk_o (Or.inl (by omega)) (Or.inl (by omega)))]; exact X6.2.2.2 i hi
        · rw [g3 rr 3 (F_rk_o (Or.inr (by omega)) (Or.inl (by omega))), up_a, if_neg (by decide), h53, eH]
        · rw [g3 rr 4 (F_rk_o (Or.inr (by omega)) (Or.inl (by omega))), up_a, if_pos rfl, eB]
        · rw [g1, eC]; rfl
        · rw [eC]; exact g2
      · have z := (nI_ltI (by omega) (by omega)).mp z
        have eH : hwH w s x n b ef set = 9 := by
          unfold hwH
          rw [if_neg hst, if_neg (by omega)]
        have eB : hwB w s x n b ef set = 4 + n * b := by
          unfold hwB
          rw [if_neg hst, if_neg (by omega)]
        have eC : hwC w s x n b ef set = 0 := by
          unfold hwC
          rw [if_neg (by rw [eH]; omega)]
        refine H _ ⟨⟨hn, ?_, ?_, fun i hi => ?_⟩, ?_, ?_, ?_, fun k hk => by rw [eC] at hk; omega⟩ (((f5.up F_ch_r).up F_ch_r).up F_ch_r)
        · rw [up_a, if_neg (by decide), up_a, if_neg (by decide), up_a, if_neg (by decide)]; exact X5.2.1
        · rw [up_a, if_neg (by decide), up_a, if_neg (by decide), up_a, if_neg (by decide)]; exact X5.2.2.1
        · rw [up_o (by omega), up_o (by omega), up_o (by omega)]; exact X5.2.2.2 i hi
        · rw [up_a, if_neg (by decide), up_a, if_pos rfl, eH]; rfl
        · rw [up_a, if_pos rfl, eB]
        · rw [up_a, if_neg (by decide), up_a, if_neg (by decide), up_a, if_neg (by decide), h55, eC]; rfl
    · exact absurd ⟨by rw [Nat.pow_zero, Nat.div_one]; exact hs1, h1⟩ hno
  · have hst : stl x n := b1_n hst
    have eH : hwH w s x n b ef set = 8 := if_pos hst
    have eB : hwB w s x n b ef set = 4 + b := if_pos hst
    have eC : hwC w s x n b ef set = 0 := by
      unfold hwC
      rw [if_neg (by rw [eH]; omega)]
    have e4 : (4 : Int32) + I0 rr 2 = nI (4 + b) := by
      rw [X0.2.2.1]
      exact nI_add 4 _
    rw [e4]
    refine H _ ⟨⟨hn, ?_, ?_, fun i hi => ?_⟩, ?_, ?_, ?_, fun k hk => by rw [eC] at hk; omega⟩ ((f0.up F_ch_r).up F_ch_r)
    · rw [up_a, if_neg (by decide), up_a, if_neg (by decide)]; exact X0.2.1
    · rw [up_a, if_neg (by decide), up_a, if_neg (by decide)]; exact X0.2.2.1
    · rw [up_o (by omega), up_o (by omega)]; exact X0.2.2.2 i hi
    · rw [up_a, if_neg (by decide), up_a, if_pos rfl, eH]; rfl
    · rw [up_a, if_pos rfl, eB]
    · rw [up_a, if_neg (by decide), up_a, if_neg (by decide), z0, eC]; rfl
