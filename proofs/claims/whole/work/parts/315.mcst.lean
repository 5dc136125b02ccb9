/-! bounds of errors -/
abbrev WB (w s : Nat → Int32) : Prop := (∀ j, j < 9 → -31 ≤ (w j).toInt ∧ (w j).toInt ≤ 31) ∧ ∀ j, j < 3 → 0 ≤ (s j).toInt ∧ (s j).toInt ≤ 4
abbrev XB (x : Nat → Int32) (n : Nat) : Prop := ∀ i, i < n → -65535 ≤ (x i).toInt ∧ (x i).toInt ≤ 65535
theorem fix_b {j : Nat} (h : j < 20) : -31 ≤ (mm_fix j).toInt ∧ (mm_fix j).toInt ≤ 31 := by
  have : ∀ j : Fin 20, -31 ≤ (mm_fix j.val).toInt ∧ (mm_fix j.val).toInt ≤ 31 := by decide +kernel
  exact this ⟨j, h⟩
theorem mul_b {a b : Int32} (ha : -31 ≤ a.toInt ∧ a.toInt ≤ 31) (hb : -65535 ≤ b.toInt ∧ b.toInt ≤ 65535) : -2031585 ≤ (a * b).toInt ∧ (a * b).toInt ≤ 2031585 := by
  have h : (a.toInt * b.toInt).natAbs ≤ 31 * 65535 := by
    rw [Int.natAbs_mul]
    exact Nat.mul_le_mul (by omega) (by omega)
  have e : (a * b).toInt = a.toInt * b.toInt := tI_mul (by omega) (by omega)
  rw [e]
  omega
theorem gs_b {w s x : Nat → Int32} {n i p : Nat} (hw : WB w s) (hx : XB x n) (hp : p < 8) (hi : i ≤ n) (ho : o_od w p ≤ i) : ∀ k, k ≤ o_od w p → -(2031585 * (k : Int)) ≤ (o_gs w x i p k).toInt ∧ (o_gs w x i p k).toInt ≤ 2031585 * (k : Int) := by
  have o4 := o_od_le w p
  intro k
  induction k with
  | zero => intro _; show -(2031585 * ((0 : Nat) : Int)) ≤ (0 : Int32).toInt ∧ (0 : Int32).toInt ≤ 2031585 * ((0 : Nat) : Int); decide
  | succ k ih =>
    intro hk
    have i1 := ih (by omega)
    have wb : -31 ≤ (o_wk w p k).toInt ∧ (o_wk w p k).toInt ≤ 31 := by
      unfold o_wk
      by_cases q : p < 5
      · rw [if_pos q]; exact fix_b (by omega)
      · rw [if_neg q]
        have := o_od_3 w (p := p) (by omega)
        exact hw.1 _ (by omega)
    have mb := mul_b wb (hx (i - 1 - k) (by omega))
    have e : (o_gs w x i p k + o_wk w p k * x (i - 1 - k)).toInt = (o_gs w x i p k).toInt + (o_wk w p k * x (i - 1 - k)).toInt := tI_add (by omega) (by omega)
    show -(2031585 * ((k + 1 : Nat) : Int)) ≤ (o_gs w x i p k + o_wk w p k * x (i - 1 - k)).toInt ∧ (o_gs w x i p k + o_wk w p k * x (i - 1 - k)).toInt ≤ 2031585 * ((k + 1 : Nat) : Int)
    rw [e]
    generalize (o_gs w x i p k).toInt = A at i1
    generalize (o_wk w p k * x (i - 1 - k)).toInt = B at mb
    omega
theorem shr_b {a s : Int32} {B : Nat} (hs : 0 ≤ s.toInt ∧ s.toInt ≤ 4) (ha : -(B : Int) ≤ a.toInt ∧ a.toInt ≤ (B : Int)) : -(B : Int) ≤ (a >>> (s &&& 31)).toInt ∧ (a >>> (s &&& 31)).toInt ≤ (B : Int) := by
  obtain ⟨k, hk, rfl⟩ : ∃ k : Nat, k ≤ 4 ∧ s = nI k := ⟨s.toInt.toNat, by omega, tI_nI (by omega) (by omega)⟩
  have e : (a >>> (nI k &&& 31)).toInt = a.toInt >>> k := by
    refine pk_shr a _ k ?_
    have : ∀ p : Fin 5, ((nI p.val &&& 31).toBitVec.smod 32).toNat = p.val := by decide +kernel
    exact this ⟨k, by omega⟩
  rw [e, Int.shiftRight_eq_div_pow]
  rcases (by omega : k = 0 ∨ k = 1 ∨ k = 2 ∨ k = 3 ∨ k = 4) with rfl | rfl | rfl | rfl | rfl <;> (simp only [Nat.reducePow]; omega)
theorem er_b {w s x : Nat → Int32} {n p : Nat} (hw : WB w s) (hx : XB x n) (hp : p < 8) (ho : o_od w p ≤ n) : EB (o_er w s x p) (n - o_od w p) := by
  intro i hi
  have o4 := o_od_le w p
  have g := gs_b (p := p) (i := o_od w p + i) hw hx hp (by omega) (by omega) (o_od w p) (Nat.le_refl _)
  have xb := hx (o_od w p + i) (by omega)
  have gb : -8126340 ≤ (o_gu w s x (o_od w p + i) p).toInt ∧ (o_gu w s x (o_od w p + i) p).toInt ≤ 8126340 := by
    unfold o_gu
    by_cases q : p < 5
    · rw [if_pos q]; omega
    · rw [if_neg q]
      have := shr_b (a := o_gs w x (o_od w p + i) p (o_od w p)) (B := 2031585 * o_od w p) (hw.2 (p - 5) (by omega)) (by omega)
      omega
  unfold o_er
  rw [tI_sub (by omega) (by omega)]
  omega
/-! what a predictor costs -/
abbrev Gm (m : Nat) : Nat := (m + 7) / 8
def rBits (ef : Nat) (E : Nat → Int32) (m : Nat) : Nat := if ef = 1 then wBt (spb E m) (Gm m) (bst (spb E m) (Gm m)) (Gm m) else bbN E m 0 (Gm m) (mnP E m)
def rCnt (ef : Nat) (E : Nat → Int32) (m : Nat) : Nat := if ef = 1 then wCt (Gm m) (bst (spb E m) (Gm m)) (Gm m) else 1
def rTo (ef : Nat) (E : Nat → Int32) (m : Nat) : Nat → Nat × Nat := if ef = 1 then wRu (spb E m) (Gm m) else fun _ => (0, Gm m)
def rPa (ef : Nat) (E : Nat → Int32) (m k : Nat) : Nat := if ef = 1 then par E m (rTo ef E m k).1 (rTo ef E m k).2 else mnP E m
def rBt (ef : Nat) (E : Nat → Int32) (m k : Nat) : Nat := if ef = 1 then spb E m (rTo ef E m k).1 (rTo ef E m k).2 else bbN E m 0 (Gm m) (mnP E m)
abbrev RuE (ef : Nat) (E : Nat → Int32) (m : Nat) (I : mm_I) : Prop := RuI (rCnt ef E m) (rTo ef E m) (rPa ef E m) (rBt ef E m) I
abbrev PWI (w s : Nat → Int32) (ef : Nat) (I : mm_I) : Prop := (∀ j, j < 9 → I 62 j = w j) ∧ (∀ j, j < 3 → I 63 j = s j) ∧ I 58 7 = nI ef ∧ ef ≤ 1
def F_cs (a j : Nat) : Bool := F_er a j || F_cut a j
theorem F_cs_er {a j : Nat} (h : F_cs a j = false) : F_er a j = false ∧ F_cut a j = false := by
  unfold F_cs at h
  rw [Bool.or_eq_false_iff] at h
  exact h
abbrev cEr (w s x : Nat → Int32) (p : Nat) : Nat → Int32 := o_er w s x p
def cst (w s x : Nat → Int32) (n b ef p : Nat) : Nat := 4 + b * o_od w p + rBits ef (o_er w s x p) (n - o_od w p)
theorem mnP_le (E : Nat → Int32) (m : Nat) : mnP E m = 15 ∧ szs E m = 0 ∨ mnP E m < 14 := by
  unfold mnP
  by_cases q : szs E m = 0
  · rw [if_pos q]; exact Or.inl ⟨rfl, q⟩
  · rw [if_neg q]
    have := byM_le (mnF E m) 13 0
    omega
theorem bbM_b {E : Nat → Int32} {m : Nat} (hm : m ≤ 64) (hB : EB E m) : bbN E m 0 (Gm m) (mnP E m) ≤ 1073742727 := by
  have hGm : Gm m = (m + 7) / 8 := rfl
  rcases mnP_le E m with ⟨h, hz⟩ | h
  · rw [h]
    unfold bbN
    rw [if_pos rfl, sZs_1 (E := E) (m := m) (a := 0) (Gm m - 0) (by omega) (szs_0 m hz), if_neg (by decide)]
    decide
  · unfold bbN
    rw [if_neg (by omega), if_neg (by omega)]
    have := sBs_b (E := E) (a := 0) (p := mnP E m) (by omega) hB (Gm m - 0) (by omega)
    omega
theorem rBits_b {ef : Nat} {E : Nat → Int32} {m : Nat} (hm : m ≤ 64) (hB : EB E m) : rBits ef E m ≤ 1073742727 := by
  unfold rBits
  have hGm : Gm m = (m + 7) / 8 := rfl
  by_cases q : ef = 1
  · rw [if_pos q]
    have := wBt_b (c := spb E m) (G := Gm m) (way := bst (spb E m) (Gm m)) (fun a b hab hb => spb_b hm hB hab hb) (Gm m) (Nat.le_refl _)
    omega
  · rw [if_neg q]
    exact bbM_b hm hB
theorem sp_M_costs {P : Int32 → mm_I → Prop} {w s x : Nat → Int32} {I : mm_I} {n b ef p : Nat} (hW : PWI w s ef I) (hw : WB w s) (hX : RwI x n b I) (hx : XB x n) (hp : p < 8) (ho : o_od w p < n)
    (H : ∀ J, ErI (o_er w s x p) (n - o_od w p) J → RuE ef (o_er w s x p) (n - o_od w p) J → sm F_cs I J → P (nI (cst w s x n b ef p)) J) : mm_Mi 165 [.ref 58, .int (nI p)] I P := by
  obtain ⟨w1, w2, w3, w4⟩ := hW
  have hB := er_b (p := p) hw hx hp (by omega)
  refine e_M_costs _ (sp_M_laysErrors hp w1 w2 hX (by omega) (fun J1 a1 a2 => ?_))
  refine sp_M_orderOf (Or.inl rfl) hp ?_
  rw [o_od_c (w' := w) hp (fun j hj => (a2 62 j rfl).trans (w1 j hj)), a2 58 7 rfl, w3, a2 58 19 rfl, hX.2.2.1]
  have e4 : (4 : Int32) + nI b * nI (o_od w p) = nI (4 + b * o_od w p) := by
    show nI 4 + _ = _
    rw [pk_mul, nI_add]
  rw [e4]
  have er : ∀ J2 : mm_I, sm F_cut J1 J2 → ErI (o_er w s x p) (n - o_od w p) J2 ∧ sm F_cs I J2 := fun J2 f => by
    refine ⟨⟨a1.1, (f 58 21 rfl).trans a1.2.1, (f 58 22 rfl).trans a1.2.2.1, fun i hi => (f 68 i rfl).trans (a1.2.2.2 i hi)⟩, fun a j h => ?_⟩
    have h := F_cs_er h
    rw [f a j h.2, a2 a j h.1]
  by_cases q : ef = 1
  · have q1 : nI ef = 1 := by rw [q]; rfl
    refine ⟨fun z => absurd q1 z, fun _ => sp_M_runsWhole a1 hB (by omega) rfl (fun J2 b1 b2 => ?_)⟩
    rw [nI_add]
    obtain ⟨c1, c2⟩ := er J2 b2
    have := H J2 c1
    unfold RuE cst rBits rCnt rTo at this
    rw [if_pos q, if_pos q, if_pos q] at this
    refine this ⟨b1.1, fun k hk => ?_⟩ c2
    obtain ⟨d1, d2, d3⟩ := b1.2 k hk
    unfold rPa rBt rTo
    rw [if_pos q, if_pos q, if_pos q]
    exact ⟨d1, d2, d3⟩
  · have q1 : ¬ nI ef = 1 := fun z => q ((nI_eq (b := 1) (by omega) (by omega)).mp z)
    refine ⟨fun _ => sp_M_runByMean a1 hB (by omega) rfl (fun J2 b1 b2 => ?_), fun z => absurd z q1⟩
    rw [nI_add]
    obtain ⟨c1, c2⟩ := er J2 b2
    have := H J2 c1
    unfold RuE cst rBits rCnt rTo at this
    rw [if_neg q, if_neg q, if_neg q] at this
    refine this ⟨b1.1, fun k hk => ?_⟩ c2
    obtain ⟨d1, d2, d3⟩ := b1.2 k hk
    unfold rPa rBt
    rw [if_neg q, if_neg q]
    exact ⟨d1, d2, d3⟩
abbrev stl (x : Nat → Int32) (n : Nat) : Prop := ∀ i, i < n → x i = x 0
theorem lM_isStill {P : Int32 → mm_I → Prop} {x : Nat → Int32} {I : mm_I} {n b : Nat} (hX : RwI x n b I) (h1 : 1 ≤ n) (H : P (b1 (stl x n)) I) : ∀ (r k : Nat), k + r = n → (∀ i, i < k → x i = x 0) → mm_W 166 2 [some (.ref 58), some (.int (nI k))] [] I (mm_qi 166 P) := by
  have hn := hX.1
  intro r
  induction r with
  | zero =>
    intro k hk h
    have hk : k = n := by omega
    subst hk
    rw [b1_t h] at H
    refine c_M_isStill_2 _ ?_
    rw [hX.2.1]
    exact ⟨fun _ => H, fun h => absurd h (nI_nlt (by omega) (by omega))⟩
  | succ r ih =>
    intro k hk h
    refine c_M_isStill_2 _ ?_
    rw [hX.2.1, nI_clamp (n := k) (by omega), hX.2.2.2 k (by omega), hX.2.2.2 0 (by omega), nI_1]
    refine ⟨fun h => absurd h (nI_ge (by omega) (by omega)), fun _ => ⟨vp_in_nI (by omega) (by omega), fun q => ih (k + 1) (by omega) (fun i hi => ?_), fun q => ?_⟩⟩
    · by_cases z : i = k
      · rw [z]; exact q
      · exact h i (by omega)
    · rw [b1_f (fun z => q (z k (by omega)))] at H
      exact H
theorem sp_M_isStill {P : Int32 → mm_I → Prop} {x : Nat → Int32} {I : mm_I} {n b : Nat} (hX : RwI x n b I) (h1 : 1 ≤ n) (H : P (b1 (stl x n)) I) : mm_Mi 166 [.ref 58] I P :=
  e_M_isStill (lM_isStill hX h1 H (n - 1) 1 (by omega) (fun i hi => by rw [show i = 0 by omega]))
/-- by what predictors are compared -/
def mea (w s x : Nat → Int32) (n b ef p : Nat) : Nat := if ef = 1 then cst w s x n b ef p else szs (o_er w s x p) (n - o_od w p)
def bpr (w s x : Nat → Int32) (n b ef set : Nat) : Nat → Nat
  | 0 => 0
  | k + 1 => if set / 2 ^ (k + 1) % 2 = 1 ∧ o_od w (k + 1) < n ∧ mea w s x n b ef (k + 1) < mea w s x n b ef (bpr w s x n b ef set k) then k + 1 else bpr w s x n b ef set k
theorem bpr_ok {w s x : Nat → Int32} {n b ef set : Nat} (h1 : 1 ≤ n) : ∀ k, bpr w s x n b ef set k ≤ k ∧ o_od w (bpr w s x n b ef set k) < n := by
  intro k
  induction k with
  | zero => exact ⟨Nat.le_refl 0, h1⟩
  | succ k ih =>
    have e : bpr w s x n b ef set (k + 1) = if set / 2 ^ (k + 1) % 2 = 1 ∧ o_od w (k + 1) < n ∧ mea w s x n b ef (k + 1) < mea w s x n b ef (bpr w s x n b ef set k) then k + 1 else bpr w s x n b ef set k := rfl
    rw [e]
    by_cases q : set / 2 ^ (k + 1) % 2 = 1 ∧ o_od w (k + 1) < n ∧ mea w s x n b ef (k + 1) < mea w s x n b ef (bpr w s x n b ef set k)
    · rw [if_pos q]; exact ⟨Nat.le_refl _, q.2.1⟩
    · rw [if_neg q]; exact ⟨by omega, ih.2⟩
theorem mea_b {w s x : Nat → Int32} {n b ef p : Nat} (hw : WB w s) (hx : XB x n) (hn : n ≤ 64) (hb : b ≤ 17) (hp : p < 8) (ho : o_od w p ≤ n) : mea w s x n b ef p < 1100000000 := by
  have hB := er_b (p := p) hw hx hp ho
  unfold mea cst
  by_cases q : ef = 1
  · rw [if_pos q]
    have := rBits_b (ef := ef) (m := n - o_od w p) (by omega) hB
    have o4 := o_od_le w p
    have : b * o_od w p ≤ 17 * 4 := Nat.mul_le_mul hb o4
    omega
  · rw [if_neg q]
    have := szs_b hB (n - o_od w p) (Nat.le_refl _)
    omega
