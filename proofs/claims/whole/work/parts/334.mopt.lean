/-! reads that go well, and those that don't -/
def btO (B : Nat → Int32) (p : Nat) : Int32 := (B (p / 8) >>> ((7 - nI (p % 8)) &&& 31)) &&& 1
def bvO (B : Nat → Int32) (p : Nat) : Nat → Int32
  | 0 => 0
  | k + 1 => 2 * bvO B p k + btO B (p + k)
theorem rdS_ok {B : Nat → Int32} {u p : Nat} : ∀ k, p + k ≤ 8 * u → rdS B u (p, 0) k = (bvO B p k, (p + k, 0)) := by
  intro k
  induction k with
  | zero => intro _; rfl
  | succ k ih =>
    intro h
    have i1 := ih (by omega)
    have no : ¬ ((p + k, 0).2 ≠ 0 ∨ 8 * u ≤ (p + k, 0).1) := by
      show ¬ (0 ≠ 0 ∨ 8 * u ≤ p + k)
      omega
    show (2 * (rdS B u (p, 0) k).1 + rdV B u (rdS B u (p, 0) k).2, rdN u (rdS B u (p, 0) k).2) = _
    rw [i1]
    unfold rdV rdN
    rw [if_neg no, if_neg no]
    rfl
theorem rdS_no {B : Nat → Int32} {u p : Nat} (hp : p ≤ 8 * u) : ∀ k, 8 * u < p + k → (rdS B u (p, 0) k).2.2 = 1 := by
  intro k
  induction k with
  | zero => intro h; omega
  | succ k ih =>
    intro h
    show (rdN u (rdS B u (p, 0) k).2).2 = 1
    by_cases q : 8 * u < p + k
    · have i1 := ih q
      unfold rdN
      rw [if_pos (Or.inl (by rw [i1]; decide))]
    · rw [rdS_ok k (by omega)]
      unfold rdN
      rw [if_pos (Or.inr (by show 8 * u ≤ p + k; omega))]
/-- some bits at a place -/
def oBs (B : Nat → Int32) (u k p : Nat) : Option (Int32 × Nat) := if p + k ≤ 8 * u then some (bvO B p k, p + k) else none
/-- the reader at a place, or broken -/
def RdO (u : Nat) (o : Option Nat) (I : mm_I) : Prop := match o with
  | some p => I 58 39 = nI p ∧ I 58 40 = 0 ∧ p ≤ 8 * u
  | none => I 58 40 = 1
theorem sp_M_oBs {P : Int32 → mm_I → Prop} {B : Nat → Int32} {u n p : Nat} {I : mm_I} (hn : n ≤ 40) (hu : u ≤ 4000) (hS : StI B u I) (hR : RdO u (some p) I) (H1 : ∀ v p', oBs B u n p = some (v, p') → ∀ J, RdO u (some p') J → sm F_rd I J → P v J) (H0 : oBs B u n p = none → ∀ v J, RdO u none J → sm F_rd I J → P v J) : mm_Mi 202 [.ref 58, .int (nI n)] I P := by
  obtain ⟨h1, h2, h3⟩ := hR
  refine sp_M_bits (q := (p, 0)) hn hu hS (by show p ≤ 32000; omega) (by show 0 ≤ 1; omega) ⟨h1, h2⟩ (fun J a1 a2 => ?_)
  by_cases q : p + n ≤ 8 * u
  · rw [rdS_ok n q] at a1 ⊢
    exact H1 (bvO B p n) (p + n) (if_pos q) J ⟨a1.1, a1.2, q⟩ a2
  · have e := rdS_no (B := B) h3 n (by omega)
    refine H0 (if_neg q) _ J ?_ a2
    show J 58 40 = 1
    rw [a1.2, e]
    rfl
