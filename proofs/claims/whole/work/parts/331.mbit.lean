theorem hdC_0 {A : sA} (h : hdC A = 0) : 21 ≤ s_su A ∧ canH (s_sb A) 3 := by
  unfold hdC at h
  by_cases q1 : s_su A < 21
  · rw [if_pos q1] at h; exact absurd h (by decide)
  · rw [if_neg q1] at h
    by_cases q2 : ¬ (s_sb A 0 = 83 ∧ s_sb A 1 = 80)
    · rw [if_pos q2] at h; exact absurd h (by decide)
    · rw [if_neg q2] at h
      by_cases q3 : ¬ canH (s_sb A) 3
      · rw [if_pos q3] at h; exact absurd h (by decide)
      · exact ⟨by omega, Decidable.not_not.mp q3⟩
theorem isF_n0 {x : Int32} (h : o_isF x) : ¬ x = 0 := fun z => by
  obtain ⟨n, h1, h2, _, e⟩ := isF_nat h
  rw [z] at e
  exact nI_ne0 (n := n) (by omega) (by omega) e.symm
def oHolds (A : sA) (x : Int32) : Int32 × sA := (if hdC A = 0 ∧ (0 ≤ x ∧ x ≤ 256 * s_sb A 5 + s_sb A 6 - 1) then x / s_sb A 4 else -1, A)
theorem oM_holds {A : sA} {I : mm_I} {x : Int32} (hR : RM A I) (hV : VA A) : mm_Mi 213 [.ref 58, .int x] I (oR (oHolds A x) RM FM I) := by
  refine e_M_holds x (sp_M_headNow hR.th hV (fun J a1 f => ⟨fun h => finS hR f.hd (by rw [if_neg (fun z => h z.1)]), fun h => ?_⟩))
  obtain ⟨d1, d2, d3, d4, _⟩ := a1 h
  rw [d4]
  refine sp_M_within ⟨fun z => finS hR f.hd (by rw [if_neg (fun y => (b1_0.mp z) y.2)]), fun z => ?_⟩
  rw [d3]
  exact ⟨isF_n0 (hdC_0 h).2.1.2.2.1, finS hR f.hd (by rw [if_pos ⟨h, b1_n z⟩])⟩
/-! bits read: (place, broken) -/
def RdI (q : Nat × Nat) (I : mm_I) : Prop := I 58 39 = nI q.1 ∧ I 58 40 = nI q.2
def F_rd (a j : Nat) : Bool := Nat.beq a 58 && (Nat.beq j 39 || Nat.beq j 40)
def rdV (B : Nat → Int32) (u : Nat) (q : Nat × Nat) : Int32 := if q.2 ≠ 0 ∨ 8 * u ≤ q.1 then 0 else (B (q.1 / 8) >>> ((7 - nI (q.1 % 8)) &&& 31)) &&& 1
def rdN (u : Nat) (q : Nat × Nat) : Nat × Nat := if q.2 ≠ 0 ∨ 8 * u ≤ q.1 then (q.1, 1) else (q.1 + 1, 0)
theorem sp_M_bit {P : Int32 → mm_I → Prop} {B : Nat → Int32} {u : Nat} {q : Nat × Nat} {I : mm_I} (hu : u ≤ 4000) (e : I 58 15 = nI u) (hB : ∀ i, i < u → I 66 i = B i) (hq : q.1 ≤ 40000) (hq2 : q.2 ≤ 1) (hR : RdI q I) (H : ∀ J, RdI (rdN u q) J → sm F_rd I J → P (rdV B u q) J) : mm_Mi 201 [.ref 58] I P := by
  have bad : (q.2 ≠ 0 ∨ 8 * u ≤ q.1) → P 0 (mm_up I 58 40 1) := fun h => by
    have := H (mm_up I 58 40 1)
    unfold rdN rdV at this
    rw [if_pos h, if_pos h] at this
    exact this ⟨hR.1, rfl⟩ (sm.rf.up rfl)
  have e8 : (8 : Int32) * nI u = nI (8 * u) := pk_mul 8 u
  refine e_M_bit ?_
  rw [hR.1, hR.2, e, e8]
  refine ⟨fun h => bad (Or.inl (fun z => h (by rw [z]; rfl))), fun h => ⟨fun h2 => ?_, fun h2 => bad (Or.inr ((nI_leI (by omega) (by omega)).mp h2))⟩⟩
  have h0 : q.2 = 0 := (nI_eq (b := 0) (by omega) (by omega)).mp h
  have h2 := (nI_ltI (by omega) (by omega)).mp h2
  have ed : nI q.1 / 8 = nI (q.1 / 8) := pk_div (d := 8) (by omega) (by omega) (by omega)
  have er : nI q.1 - nI q.1 / 8 * 8 = nI (q.1 % 8) := pk_rem (d := 8) (by omega) (by omega) (by omega)
  have no : ¬ (q.2 ≠ 0 ∨ 8 * u ≤ q.1) := by omega
  rw [er, ed, nI_clamp (n := q.1 / 8) (by omega), hB _ (by omega), nI_1]
  have := H (mm_up I 58 39 (nI (q.1 + 1)))
  unfold rdN rdV at this
  rw [if_neg no, if_neg no] at this
  refine ⟨vp_in_nI (by omega) (by omega), this ⟨rfl, ?_⟩ (sm.rf.up rfl)⟩
  show I 58 40 = nI 0
  rw [hR.2, h0]
