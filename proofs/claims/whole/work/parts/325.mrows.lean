/-! bytes stay bytes; runs and rows written -/
def wB (W : wS) : Prop := ∀ i, i < W.1.1 → 0 ≤ (W.2 i).toInt ∧ (W.2 i).toInt < 256
theorem byte_and (v : Int32) : 0 ≤ (v &&& 255).toInt ∧ (v &&& 255).toInt < 256 := by
  obtain ⟨j, hj, e⟩ := pk_andE v (m := 255) 8 rfl
  have hj : j < 256 := hj
  rw [e, nI_toInt (by omega)]
  omega
theorem byte_or {b v : Int32} {s : Nat} (hb : 0 ≤ b.toInt ∧ b.toInt < 256) (hs : s < 8) : 0 ≤ (b ||| ((v &&& 1) <<< ((7 - nI s) &&& 31))).toInt ∧ (b ||| ((v &&& 1) <<< ((7 - nI s) &&& 31))).toInt < 256 := by
  obtain ⟨j, hj, e⟩ := pk_andE v (m := 1) 1 rfl
  have hj : j < 2 := hj
  obtain ⟨n, hn, rfl⟩ : ∃ n : Nat, n < 256 ∧ b = nI n := ⟨b.toInt.toNat, by omega, tI_nI (by omega) (by omega)⟩
  rw [e]
  have : ∀ s : Fin 8, ∀ j : Fin 2, ∀ n : Fin 256, 0 ≤ (nI n.val ||| (nI j.val <<< ((7 - nI s.val) &&& 31))).toInt ∧ (nI n.val ||| (nI j.val <<< ((7 - nI s.val) &&& 31))).toInt < 256 := by decide +kernel
  exact this ⟨s, hs⟩ ⟨j, hj⟩ ⟨n, hn⟩
theorem wB_by {W : wS} {v : Int32} (h : wB W) : wB (w_by W v) := by
  intro i hi
  have hi : i < W.1.1 + 1 := hi
  show 0 ≤ (if i = W.1.1 then v &&& 255 else W.2 i).toInt ∧ (if i = W.1.1 then v &&& 255 else W.2 i).toInt < 256
  by_cases q : i = W.1.1
  · rw [if_pos q]; exact byte_and v
  · rw [if_neg q]; exact h i (by omega)
theorem wB_b1 {W : wS} {v : Int32} {k : Nat} (hO : wOk W) (h : wB W) : wB (w_b1 W v k) := by
  have hs := w_b0_s hO
  have hb : wB (w_b0 W) := by
    unfold w_b0
    by_cases q : W.1.2 = 0
    · rw [if_pos q]; exact wB_by h
    · rw [if_neg q]; exact h
  have h8 : (w_b0 W).1.2 < 8 := by rw [hs.2]; exact hO.1
  intro i hi
  have hi : i < (w_b0 W).1.1 := hi
  unfold w_b1 w_or
  show 0 ≤ (if i = (w_b0 W).1.1 - 1 then _ else (w_b0 W).2 i).toInt ∧ (if i = (w_b0 W).1.1 - 1 then _ else (w_b0 W).2 i).toInt < 256
  by_cases q : i = (w_b0 W).1.1 - 1
  · rw [if_pos q]
    exact byte_or (hb _ (by omega)) h8
  · rw [if_neg q]
    exact hb i hi
theorem wB_bs {v : Int32} : ∀ (k : Nat) (W : wS), wOk W → wB W → wB (w_bs v k W) := by
  intro k
  induction k with
  | zero => intro W _ h; exact h
  | succ k ih => intro W hO h; exact ih _ (wps_b1 hO).1 (wB_b1 hO h)
theorem wB_zs : ∀ (k : Nat) (W : wS), wOk W → wB W → wB (w_zs k W) := by
  intro k
  induction k with
  | zero => intro W _ h; exact h
  | succ k ih => intro W hO h; exact ih _ (wps_bs 1 W hO).1 (wB_bs 1 W hO h)
theorem wB_it {E : Nat → Int32} {p w i : Nat} {W : wS} (hO : wOk W) (h : wB W) : wB (w_it E p w i W) := by
  unfold w_it
  by_cases q : p = 14
  · rw [if_pos q]; exact wB_bs _ _ hO h
  · rw [if_neg q]
    have a := wps_zs (fo (E i) / 2 ^ p) W hO
    exact wB_bs _ _ (wps_bs 1 _ a.1).1 (wB_bs _ _ a.1 (wB_zs _ _ hO h))
theorem wB_its {E : Nat → Int32} {p w i0 : Nat} : ∀ (k : Nat) (W : wS), wOk W → wB W → wB (w_its E p w i0 k W) := by
  intro k
  induction k with
  | zero => intro W _ h; exact h
  | succ k ih => intro W hO h; exact wB_it (wps_its k W hO).1 (ih W hO h)
theorem wB_rn {E : Nat → Int32} {m p a b : Nat} {W : wS} (hO : wOk W) (h : wB W) : wB (w_rn E m p a b W) := by
  have r0 := wps_rn0 (p := p) (a := a) (b := b) hO
  have b0 : wB (w_rn0 p a b W) := wB_bs _ _ (wps_bs 3 W hO).1 (wB_bs _ _ hO h)
  unfold w_rn
  by_cases q : p = 15
  · rw [if_pos q]; exact b0
  · rw [if_neg q]
    by_cases q2 : p = 14
    · rw [if_pos q2]; exact wB_its _ _ (wps_bs 5 _ r0.1).1 (wB_bs _ _ r0.1 b0)
    · rw [if_neg q2]; exact wB_its _ _ r0.1 b0
def w_xs (x : Nat → Int32) (b : Nat) : Nat → wS → wS
  | 0, W => W
  | k + 1, W => w_bs (x k) b (w_xs x b k W)
theorem wps_xs {x : Nat → Int32} {b : Nat} : ∀ (k : Nat) (W : wS), wOk W → wOk (w_xs x b k W) ∧ wps (w_xs x b k W) = wps W + b * k := by
  intro k
  induction k with
  | zero => intro W h; exact ⟨h, rfl⟩
  | succ k ih =>
    intro W h
    have a := ih W h
    have c := wps_bs (v := x k) b _ a.1
    refine ⟨c.1, ?_⟩
    show wps (w_bs (x k) b (w_xs x b k W)) = _
    rw [Nat.mul_succ]
    omega
theorem wB_xs {x : Nat → Int32} {b : Nat} : ∀ (k : Nat) (W : wS), wOk W → wB W → wB (w_xs x b k W) := by
  intro k
  induction k with
  | zero => intro W _ h; exact h
  | succ k ih => intro W hO h; exact wB_bs _ _ (wps_xs k W hO).1 (ih W hO h)
def w_rs (E : Nat → Int32) (m : Nat) (T : Nat → Nat × Nat) (pa : Nat → Nat) : Nat → wS → wS
  | 0, W => W
  | k + 1, W => w_rn E m (pa k) (T k).1 (T k).2 (w_rs E m T pa k W)
def suR (E : Nat → Int32) (m : Nat) (T : Nat → Nat × Nat) (pa : Nat → Nat) : Nat → Nat
  | 0 => 0
  | k + 1 => suR E m T pa k + rnB E m (pa k) (T k).1 (T k).2
theorem wps_rs {E : Nat → Int32} {m : Nat} {T : Nat → Nat × Nat} {pa : Nat → Nat} : ∀ (k : Nat) (W : wS), wOk W → wOk (w_rs E m T pa k W) ∧ wps (w_rs E m T pa k W) = wps W + suR E m T pa k := by
  intro k
  induction k with
  | zero => intro W h; exact ⟨h, rfl⟩
  | succ k ih =>
    intro W h
    have a := ih W h
    have c := wps_rn (E := E) (m := m) (p := pa k) (a := (T k).1) (b := (T k).2) a.1
    refine ⟨c.1, ?_⟩
    show wps (w_rn E m (pa k) (T k).1 (T k).2 (w_rs E m T pa k W)) = wps W + (suR E m T pa k + rnB E m (pa k) (T k).1 (T k).2)
    omega
theorem wB_rs {E : Nat → Int32} {m : Nat} {T : Nat → Nat × Nat} {pa : Nat → Nat} : ∀ (k : Nat) (W : wS), wOk W → wB W → wB (w_rs E m T pa k W) := by
  intro k
  induction k with
  | zero => intro W _ h; exact h
  | succ k ih => intro W hO h; exact wB_rn (wps_rs k W hO).1 (ih W hO h)
/-- the runs of a predictor -/
theorem rT_ok {ef : Nat} {E : Nat → Int32} {m : Nat} (hm : m ≤ 64) (hm1 : 1 ≤ m) (hB : EB E m) : (∀ k, k < rCnt ef E m → (rTo ef E m k).1 < (rTo ef E m k).2 ∧ (rTo ef E m k).2 ≤ Gm m ∧ ((rTo ef E m k).1 = if k = 0 then 0 else (rTo ef E m (k - 1)).2) ∧ rPa ef E m k < 16 ∧ rnB E m (rPa ef E m k) (rTo ef E m k).1 (rTo ef E m k).2 = rBt ef E m k) ∧ suR E m (rTo ef E m) (rPa ef E m) (rCnt ef E m) = rBits ef E m := by
  have hGm : Gm m = (m + 7) / 8 := rfl
  by_cases q : ef = 1
  · have eT : rTo ef E m = wRu (spb E m) (Gm m) := if_pos q
    have eC : rCnt ef E m = wCt (Gm m) (bst (spb E m) (Gm m)) (Gm m) := if_pos q
    have eB : rBits ef E m = wBt (spb E m) (Gm m) (bst (spb E m) (Gm m)) (Gm m) := if_pos q
    have eP : ∀ k, rPa ef E m k = par E m (rTo ef E m k).1 (rTo ef E m k).2 := fun k => if_pos q
    have eb : ∀ k, rBt ef E m k = spb E m (rTo ef E m k).1 (rTo ef E m k).2 := fun k => if_pos q
    obtain ⟨⟨h1, h2⟩, h3, h4⟩ := wTo_chn (c := spb E m) (G := Gm m) (way := bst (spb E m) (Gm m)) (Gm m)
    have hf := wFr_le (Gm m) (bst (spb E m) (Gm m)) (Gm m)
    have k1 : ∀ k, k < rCnt ef E m → (rTo ef E m k).1 < (rTo ef E m k).2 ∧ (rTo ef E m k).2 ≤ Gm m := fun k hk => by
      rw [eC] at hk
      rw [eT]
      have := h1 k hk
      exact ⟨this.1, Nat.le_trans this.2 hf⟩
    have k2 : ∀ k, k < rCnt ef E m → rnB E m (rPa ef E m k) (rTo ef E m k).1 (rTo ef E m k).2 = spb E m (rTo ef E m k).1 (rTo ef E m k).2 := fun k hk => by
      have a := k1 k hk
      rw [eP]
      exact rnB_eq a.1 (by omega) (prs_b hm hB (by omega) (by omega) 15 (by omega))
    refine ⟨fun k hk => ⟨(k1 k hk).1, (k1 k hk).2, ?_, ?_, ?_⟩, ?_⟩
    · rw [eC] at hk
      rw [eT]
      exact h2 k hk
    · rw [eP]
      have := prs_le E m (rTo ef E m k).1 (rTo ef E m k).2 15
      show prs E m _ _ 15 < 16
      omega
    · rw [k2 k hk, eb]
    · have s : ∀ n, n ≤ rCnt ef E m → suR E m (rTo ef E m) (rPa ef E m) n = suT (spb E m) (rTo ef E m) n := fun n => by
        induction n with
        | zero => intro _; rfl
        | succ n ih =>
          intro hn
          show suR E m (rTo ef E m) (rPa ef E m) n + rnB E m (rPa ef E m n) (rTo ef E m n).1 (rTo ef E m n).2 = suT (spb E m) (rTo ef E m) n + spb E m (rTo ef E m n).1 (rTo ef E m n).2
          rw [ih (by omega), k2 n (by omega)]
      rw [s _ (Nat.le_refl _), eB, eC, eT]
      exact h3
  · have eT : rTo ef E m = fun _ => (0, Gm m) := if_neg q
    have eC : rCnt ef E m = 1 := if_neg q
    have eB : rBits ef E m = bbN E m 0 (Gm m) (mnP E m) := if_neg q
    have eP : ∀ k, rPa ef E m k = mnP E m := fun k => if_neg q
    have eb : ∀ k, rBt ef E m k = bbN E m 0 (Gm m) (mnP E m) := fun k => if_neg q
    have bm := bbM_b hm hB
    have rq : rnB E m (mnP E m) 0 (Gm m) = bbN E m 0 (Gm m) (mnP E m) := rnB_eq (by omega) (by omega) (by omega)
    refine ⟨fun k hk => ?_, ?_⟩
    · rw [eC] at hk
      have k0 : k = 0 := by omega
      subst k0
      rw [eT, eP, eb]
      refine ⟨by show 0 < Gm m; omega, Nat.le_refl _, rfl, ?_, rq⟩
      rcases mnP_le E m with ⟨z, _⟩ | z <;> omega
    · rw [eC, eB]
      show 0 + rnB E m (rPa ef E m 0) (rTo ef E m 0).1 (rTo ef E m 0).2 = _
      rw [eT, eP, Nat.zero_add]
      exact rq
