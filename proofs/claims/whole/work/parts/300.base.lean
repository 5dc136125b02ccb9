/-! numbers -/
theorem tI_add {x y : Int32} (h1 : -2147483648 ≤ x.toInt + y.toInt) (h2 : x.toInt + y.toInt < 2147483648) : (x + y).toInt = x.toInt + y.toInt := by
  rw [Int32.toInt_add]
  exact Int.bmod_eq_of_le (by omega) (by omega)
theorem tI_sub {x y : Int32} (h1 : -2147483648 ≤ x.toInt - y.toInt) (h2 : x.toInt - y.toInt < 2147483648) : (x - y).toInt = x.toInt - y.toInt := by
  rw [Int32.toInt_sub]
  exact Int.bmod_eq_of_le (by omega) (by omega)
theorem tI_mul {x y : Int32} (h1 : -2147483648 ≤ x.toInt * y.toInt) (h2 : x.toInt * y.toInt < 2147483648) : (x * y).toInt = x.toInt * y.toInt := by
  rw [Int32.toInt_mul]
  exact Int.bmod_eq_of_le (by omega) (by omega)
theorem tI_neg {x : Int32} (h1 : -2147483648 < x.toInt) : (-x).toInt = -x.toInt := by
  have := Int32.toInt_lt x
  rw [Int32.toInt_neg]
  exact Int.bmod_eq_of_le (by omega) (by omega)
theorem tI_ext {x y : Int32} (h : x.toInt = y.toInt) : x = y := Int32.toInt_inj.mp h
theorem tI_nI {x : Int32} {n : Nat} (h : x.toInt = n) (hn : n < 2147483648) : x = nI n := tI_ext (by rw [h, nI_toInt (by omega)])
theorem tI_cl {x : Int32} {n : Nat} (h : x.toInt = n) : x.toNatClampNeg = n := by
  unfold Int32.toNatClampNeg
  rw [h]
  rfl
theorem le_I (x y : Int32) : x ≤ y ↔ x.toInt ≤ y.toInt := Int32.le_iff_toInt_le
theorem lt_I (x y : Int32) : x < y ↔ x.toInt < y.toInt := Int32.lt_iff_toInt_lt
theorem eq_I (x y : Int32) : x = y ↔ x.toInt = y.toInt := Int32.toInt_inj.symm
theorem vp_I {x : Int32} {n : Nat} (h1 : 0 ≤ x.toInt) (h2 : x.toInt < n) : vp_in x n := vp_in_iff.mpr ⟨h1, h2⟩
theorem I_rng (x : Int32) : -2147483648 ≤ x.toInt ∧ x.toInt < 2147483648 := ⟨Int32.le_toInt x, Int32.toInt_lt x⟩
/-- a truth as a number -/
def b1 (p : Prop) [Decidable p] : Int32 := if p then 1 else 0
theorem b1_t {p : Prop} [Decidable p] (h : p) : b1 p = 1 := if_pos h
theorem b1_f {p : Prop} [Decidable p] (h : ¬ p) : b1 p = 0 := if_neg h
theorem b1_0 {p : Prop} [Decidable p] : b1 p = 0 ↔ ¬ p := by
  unfold b1
  by_cases h : p
  · simp [h]
  · simp [h]
theorem b1_01 {p : Prop} [Decidable p] : b1 p = 0 ∨ b1 p = 1 := by
  by_cases h : p
  · exact Or.inr (b1_t h)
  · exact Or.inl (b1_f h)
theorem b1_c {p q : Prop} [Decidable p] [Decidable q] (h : p ↔ q) : b1 p = b1 q := by
  by_cases hp : p
  · rw [b1_t hp, b1_t (h.mp hp)]
  · rw [b1_f hp, b1_f (fun z => hp (h.mpr z))]
/-! stores -/
theorem up_g (I : mm_I) (a i : Nat) (v : Int32) (b j : Nat) : mm_up I a i v b j = if b = a ∧ j = i then v else I b j := by
  unfold mm_up
  by_cases h : b = a ∧ j = i
  · rw [if_pos h, h.1, h.2, Nat.beq_refl, Nat.beq_refl]; rfl
  · rw [if_neg h]
    have : (Nat.beq b a && Nat.beq j i) = false := mm_bf fun z => h (by
      rw [Bool.and_eq_true] at z
      exact ⟨(mm_beq_iff _ _).mp z.1, (mm_beq_iff _ _).mp z.2⟩)
    rw [this]; rfl
theorem up_a (I : mm_I) (a i : Nat) (v : Int32) (j : Nat) : mm_up I a i v a j = if j = i then v else I a j := by
  rw [up_g]
  by_cases h : j = i
  · rw [if_pos ⟨rfl, h⟩, if_pos h]
  · rw [if_neg (fun z => h z.2), if_neg h]
theorem up_o {I : mm_I} {a i : Nat} {v : Int32} {b : Nat} (h : b ≠ a) : mm_up I a i v b = I b := mm_up_ne h
/-! the state -/
abbrev sA : Type := (Nat → Nat) × (Nat → Nat → Int32)
abbrev s_tu (A : sA) : Nat := A.1 0
abbrev s_ch (A : sA) : Nat := A.1 1
abbrev s_wd (A : sA) : Nat := A.1 2
abbrev s_fr (A : sA) : Nat := A.1 3
abbrev s_ef (A : sA) : Nat := A.1 4
abbrev s_al (A : sA) : Nat := A.1 5
abbrev s_cn (A : sA) (c : Nat) : Nat := if c = 0 then A.1 6 else A.1 7
abbrev s_su (A : sA) : Nat := A.1 8
abbrev s_tb (A : sA) : Nat → Int32 := A.2 0
abbrev s_sm (A : sA) (c : Nat) : Nat → Int32 := if c = 0 then A.2 1 else A.2 2
abbrev s_wt (A : sA) : Nat → Int32 := A.2 3
abbrev s_sh (A : sA) : Nat → Int32 := A.2 4
abbrev s_sb (A : sA) : Nat → Int32 := A.2 5
abbrev s_sd (A : sA) : Int32 := A.2 6 0
def s_N (A : sA) (i v : Nat) : sA := (fun j => if j = i then v else A.1 j, A.2)
def s_F (A : sA) (i : Nat) (g : Nat → Int32) : sA := (A.1, fun j => if j = i then g else A.2 j)
def s_wg (A : sA) (p j : Nat) : Int32 := if p < 5 then mm_fix (4 * p + j) else s_wt A (3 * (p - 5) + j)
def o_of (w : Nat → Int32) (q : Nat) : Nat := if w (3 * q + 2) ≠ 0 then 3 else if w (3 * q + 1) ≠ 0 then 2 else if w (3 * q) ≠ 0 then 1 else 0
def o_od (w : Nat → Int32) (p : Nat) : Nat := if p < 5 then p else o_of w (p - 5)
def o_sf (s : Nat → Int32) (p : Nat) : Int32 := if p < 5 then 0 else s (p - 5)
/-- what can be -/
def VA (A : sA) : Prop := s_tu A ≤ 240 ∧ s_ch A ≤ 2 ∧ (s_ch A = 0 → s_wd A = 0) ∧ (s_ch A ≠ 0 → s_wd A = 8 ∨ s_wd A = 16) ∧ (16 ≤ s_fr A ∧ s_fr A ≤ 64 ∧ s_fr A % 8 = 0) ∧ s_ef A ≤ 1 ∧ (s_al A ≤ 255 ∧ s_al A % 2 = 1) ∧
  (∀ c, c < 2 → s_cn A c ≤ 256) ∧ (∀ c, c < 2 → s_ch A ≤ c → s_cn A c = 0) ∧ s_su A ≤ 4000 ∧
  (∀ i, i < s_tu A → 0 ≤ (s_tb A i).toInt ∧ (s_tb A i).toInt < 256) ∧ (∀ i, i < s_su A → 0 ≤ (s_sb A i).toInt ∧ (s_sb A i).toInt < 256) ∧
  (∀ c i, c < s_ch A → i < s_cn A c → -(2 ^ (s_wd A - 1) : Nat) ≤ (s_sm A c i).toInt ∧ (s_sm A c i).toInt < (2 ^ (s_wd A - 1) : Nat)) ∧
  (∀ j, j < 9 → -31 ≤ (s_wt A j).toInt ∧ (s_wt A j).toInt ≤ 31) ∧ (∀ j, j < 3 → 0 ≤ (s_sh A j).toInt ∧ (s_sh A j).toInt ≤ 4)
/-- the reference's cells -/
def RMt (A : sA) (I : mm_I) : Prop := I 58 1 = nI (s_tu A) ∧ ∀ i, i < s_tu A → I 59 i = s_tb A i
def RMs (A : sA) (I : mm_I) : Prop := I 58 4 = nI (s_ch A) ∧ I 58 5 = nI (s_wd A) ∧ I 58 9 = s_sd A ∧ (∀ c, c < s_ch A → I 61 c = nI (s_cn A c)) ∧ ∀ c i, c < s_ch A → i < s_cn A c → I 60 (256 * c + i) = s_sm A c i
def RMo (A : sA) (I : mm_I) : Prop := I 58 6 = nI (s_fr A) ∧ I 58 7 = nI (s_ef A) ∧ I 58 8 = nI (s_al A)
def RMp (A : sA) (I : mm_I) : Prop := (∀ j, j < 9 → I 62 j = s_wt A j) ∧ ∀ j, j < 3 → I 63 j = s_sh A j
def RMk (A : sA) (I : mm_I) : Prop := I 58 15 = nI (s_su A) ∧ ∀ i, i < s_su A → I 66 i = s_sb A i
def RM (A : sA) (I : mm_I) : Prop := RMt A I ∧ RMs A I ∧ RMo A I ∧ RMp A I ∧ RMk A I
/-- the class's cells -/
def RXt (A : sA) (I : mm_I) : Prop := I 1 1 = nI (s_tu A) ∧ ∀ i, i < s_tu A → I 2 i = s_tb A i
def RXs (A : sA) (I : mm_I) : Prop := I 3 2 = nI (s_ch A) ∧ I 3 3 = nI (s_wd A) ∧ I 3 4 = s_sd A ∧ (∀ c, c < 2 → I 5 c = nI (s_cn A c)) ∧ ∀ c i, c < 2 → i < s_cn A c → I 4 (256 * c + i) = s_sm A c i
def RXo (A : sA) (I : mm_I) : Prop := I 0 7 = nI (s_fr A) ∧ I 0 8 = nI (s_ef A) ∧ I 0 9 = nI (s_al A)
/-- a table of predictors at the cells d + 1, d + 2, d + 3 -/
def RXq (d : Nat) (w s : Nat → Int32) (I : mm_I) : Prop := (∀ p j, p < 5 → j < 4 → I (d + 1) (4 * p + j) = mm_fix (4 * p + j)) ∧ (∀ q j, q < 3 → j < 3 → I (d + 1) (4 * (5 + q) + j) = w (3 * q + j)) ∧ (∀ p, p < 8 → I (d + 2) p = nI (o_od w p)) ∧ ∀ p, p < 8 → I (d + 3) p = o_sf s p
/-- the part of the reader's table that never changes -/
def RXf (I : mm_I) : Prop := (∀ p j, p < 5 → j < 4 → I 50 (4 * p + j) = mm_fix (4 * p + j)) ∧ (∀ p, p < 5 → I 51 p = nI p) ∧ ∀ p, p < 5 → I 52 p = 0
def RXk (A : sA) (I : mm_I) : Prop := I 47 1 = nI (s_su A) ∧ I 47 2 = 0 ∧ ∀ i, i < s_su A → I 48 i = s_sb A i
def RX (A : sA) (I : mm_I) : Prop := RXt A I ∧ RXs A I ∧ RXo A I ∧ RXq 6 (s_wt A) (s_sh A) I ∧ RXf I ∧ RXk A I
def FM (I I' : mm_I) : Prop := ∀ a, a < 58 → I' a = I a
def FX (I I' : mm_I) : Prop := ∀ a, 58 ≤ a → I' a = I a
theorem FM.rf {I : mm_I} : FM I I := fun _ _ => rfl
theorem FX.rf {I : mm_I} : FX I I := fun _ _ => rfl
theorem FM.tr {I J K : mm_I} (h1 : FM I J) (h2 : FM J K) : FM I K := fun a h => (h2 a h).trans (h1 a h)
theorem FX.tr {I J K : mm_I} (h1 : FX I J) (h2 : FX J K) : FX I K := fun a h => (h2 a h).trans (h1 a h)
theorem FM.up {I J : mm_I} {a i : Nat} {v : Int32} (h : FM I J) (ha : 58 ≤ a) : FM I (mm_up J a i v) := fun b hb => by rw [up_o (by omega)]; exact h b hb
theorem FX.up {I J : mm_I} {a i : Nat} {v : Int32} (h : FX I J) (ha : a < 58) : FX I (mm_up J a i v) := fun b hb => by rw [up_o (by omega)]; exact h b hb
theorem RM.fx {A : sA} {I I' : mm_I} (h : RM A I) (f : FX I I') : RM A I' := by
  obtain ⟨⟨a1, a2⟩, ⟨b1, b2, b3, b4, b5⟩, ⟨c1, c2, c3⟩, ⟨d1, d2⟩, ⟨e1, e2⟩⟩ := h
  have f58 := f 58 (by omega); have f59 := f 59 (by omega); have f60 := f 60 (by omega); have f61 := f 61 (by omega); have f62 := f 62 (by omega); have f63 := f 63 (by omega); have f66 := f 66 (by omega)
  unfold RM RMt RMs RMo RMp RMk
  rw [f58, f59, f60, f61, f62, f63, f66]
  exact ⟨⟨a1, a2⟩, ⟨b1, b2, b3, b4, b5⟩, ⟨c1, c2, c3⟩, ⟨d1, d2⟩, ⟨e1, e2⟩⟩
theorem RX.fm {A : sA} {I I' : mm_I} (h : RX A I) (f : FM I I') : RX A I' := by
  obtain ⟨⟨a1, a2⟩, ⟨b1, b2, b3, b4, b5⟩, ⟨c1, c2, c3⟩, ⟨d1, d2, d3, d4⟩, ⟨g1, g2, g3⟩, ⟨e1, e2, e3⟩⟩ := h
  have g0 := f 0 (by omega); have f1 := f 1 (by omega); have f2 := f 2 (by omega); have f3 := f 3 (by omega); have f4 := f 4 (by omega); have f5 := f 5 (by omega); have f7 := f 7 (by omega); have f8 := f 8 (by omega); have f9 := f 9 (by omega); have f47 := f 47 (by omega); have f48 := f 48 (by omega); have f50 := f 50 (by omega); have f51 := f 51 (by omega); have f52 := f 52 (by omega)
  unfold RX RXt RXs RXo RXq RXf RXk
  rw [g0, f1, f2, f3, f4, f5, f7, f8, f9, f47, f48, f50, f51, f52]
  exact ⟨⟨a1, a2⟩, ⟨b1, b2, b3, b4, b5⟩, ⟨c1, c2, c3⟩, ⟨d1, d2, d3, d4⟩, ⟨g1, g2, g3⟩, ⟨e1, e2, e3⟩⟩
/-- what an operation comes to -/
abbrev oR (o : Int32 × sA) (R : sA → mm_I → Prop) (F : mm_I → mm_I → Prop) (I : mm_I) : Int32 → mm_I → Prop := fun r I' => r = o.1 ∧ R o.2 I' ∧ F I I'
