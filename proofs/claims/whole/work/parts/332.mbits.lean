/-- some bits read: the value so far, the reader -/
def rdS (B : Nat → Int32) (u : Nat) (q : Nat × Nat) : Nat → Int32 × (Nat × Nat)
  | 0 => (0, q)
  | k + 1 => (2 * (rdS B u q k).1 + rdV B u (rdS B u q k).2, rdN u (rdS B u q k).2)
theorem rdN_b {u : Nat} {q : Nat × Nat} (h2 : q.2 ≤ 1) : q.1 ≤ (rdN u q).1 ∧ (rdN u q).1 ≤ q.1 + 1 ∧ (rdN u q).2 ≤ 1 := by
  unfold rdN
  by_cases z : q.2 ≠ 0 ∨ 8 * u ≤ q.1
  · rw [if_pos z]
    show q.1 ≤ q.1 ∧ q.1 ≤ q.1 + 1 ∧ 1 ≤ 1
    omega
  · rw [if_neg z]
    show q.1 ≤ q.1 + 1 ∧ q.1 + 1 ≤ q.1 + 1 ∧ 0 ≤ 1
    omega
theorem rdN_u {u : Nat} {q : Nat × Nat} (h : q.1 ≤ 32000) (hu : u ≤ 4000) : (rdN u q).1 ≤ 32000 := by
  unfold rdN
  by_cases z : q.2 ≠ 0 ∨ 8 * u ≤ q.1
  · rw [if_pos z]; exact h
  · rw [if_neg z]
    show q.1 + 1 ≤ 32000
    omega
theorem rdS_b {B : Nat → Int32} {u : Nat} {q : Nat × Nat} (hq : q.1 ≤ 32000) (hq2 : q.2 ≤ 1) (hu : u ≤ 4000) : ∀ k, (rdS B u q k).2.1 ≤ 32000 ∧ (rdS B u q k).2.2 ≤ 1 := by
  intro k
  induction k with
  | zero => exact ⟨hq, hq2⟩
  | succ k ih => exact ⟨rdN_u ih.1 hu, (rdN_b ih.2).2.2⟩
/-- the store, for the reader -/
abbrev StI (B : Nat → Int32) (u : Nat) (I : mm_I) : Prop := I 58 15 = nI u ∧ ∀ i, i < u → I 66 i = B i
theorem StI_rd {B : Nat → Int32} {u : Nat} {I J : mm_I} (h : StI B u I) (f : sm F_rd I J) : StI B u J := ⟨(f 58 15 rfl).trans h.1, fun i hi => (f 66 i rfl).trans (h.2 i hi)⟩
theorem lM_bits {P : Int32 → mm_I → Prop} {B : Nat → Int32} {u n : Nat} {q : Nat × Nat} {I : mm_I} (hn : n ≤ 40) (hu : u ≤ 4000) (hS : StI B u I) (hq : q.1 ≤ 32000) (hq2 : q.2 ≤ 1) (H : ∀ J, RdI (rdS B u q n).2 J → sm F_rd I J → P (rdS B u q n).1 J) : ∀ (r k : Nat) (J : mm_I), k + r = n → RdI (rdS B u q k).2 J → sm F_rd I J → mm_W 202 4 [some (.ref 58), some (.int (nI n)), some (.int (rdS B u q k).1), some (.int (nI k))] [] J (mm_qi 202 P) := by
  intro r
  induction r with
  | zero =>
    intro k J hk hR hsm
    have hk : k = n := by omega
    subst hk
    exact c_M_bits_4 _ _ _ ⟨fun _ => H J hR hsm, fun h => absurd h (nI_nlt (by omega) (by omega))⟩
  | succ r ih =>
    intro k J hk hR hsm
    have hb := rdS_b (B := B) hq hq2 hu k
    have hS' := StI_rd hS hsm
    refine c_M_bits_4 _ _ _ ⟨fun h => absurd h (nI_ge (by omega) (by omega)), fun _ => sp_M_bit hu hS'.1 hS'.2 (by omega) hb.2 hR (fun J2 a1 a2 => ?_)⟩
    rw [nI_1]
    exact ih (k + 1) J2 (by omega) a1 (sm.tq hsm a2)
theorem sp_M_bits {P : Int32 → mm_I → Prop} {B : Nat → Int32} {u n : Nat} {q : Nat × Nat} {I : mm_I} (hn : n ≤ 40) (hu : u ≤ 4000) (hS : StI B u I) (hq : q.1 ≤ 32000) (hq2 : q.2 ≤ 1) (hR : RdI q I) (H : ∀ J, RdI (rdS B u q n).2 J → sm F_rd I J → P (rdS B u q n).1 J) : mm_Mi 202 [.ref 58, .int (nI n)] I P :=
  e_M_bits _ (lM_bits hn hu hS hq hq2 H n 0 I (by omega) hR sm.rf)
def rdG (B : Nat → Int32) (u n : Nat) (q : Nat × Nat) : Int32 := if n = 0 then 0 else ((rdS B u q n).1 <<< ((32 - nI n) &&& 31)) >>> ((32 - nI n) &&& 31)
theorem sp_M_signedBits {P : Int32 → mm_I → Prop} {B : Nat → Int32} {u n : Nat} {q : Nat × Nat} {I : mm_I} (hn : n ≤ 40) (hu : u ≤ 4000) (hS : StI B u I) (hq : q.1 ≤ 32000) (hq2 : q.2 ≤ 1) (hR : RdI q I) (H : ∀ J, RdI (rdS B u q n).2 J → sm F_rd I J → P (rdG B u n q) J) : mm_Mi 203 [.ref 58, .int (nI n)] I P := by
  refine e_M_signedBits _ ⟨fun z => ?_, fun z => ?_⟩
  · have n0 : ¬ n = 0 := fun y => z (by rw [y]; rfl)
    refine sp_M_bits hn hu hS hq hq2 hR (fun J a1 a2 => ?_)
    have := H J a1 a2
    unfold rdG at this
    rw [if_neg n0] at this
    exact this
  · have n0 : n = 0 := (nI_eq (b := 0) (by omega) (by omega)).mp z
    subst n0
    exact H I hR sm.rf
