/-! reading on when it is broken -/
theorem sp_M_bit0 {P : Int32 → mm_I → Prop} {I : mm_I} (h : I 58 40 = 1) (H : ∀ J, J 58 40 = 1 → sm F_rd I J → P 0 J) : mm_Mi 201 [.ref 58] I P := by
  refine e_M_bit ?_
  rw [h]
  exact ⟨fun _ => H _ rfl (sm.rf.up rfl), fun z => absurd z (by decide)⟩
theorem lM_bits0 {P : Int32 → mm_I → Prop} {n : Nat} {I : mm_I} (hn : n ≤ 40) (H : ∀ v J, J 58 40 = 1 → sm F_rd I J → P v J) : ∀ (r k : Nat) (v : Int32) (J : mm_I), k + r = n → J 58 40 = 1 → sm F_rd I J → mm_W 202 4 [some (.ref 58), some (.int (nI n)), some (.int v), some (.int (nI k))] [] J (mm_qi 202 P) := by
  intro r
  induction r with
  | zero =>
    intro k v J hk h hsm
    have hk : k = n := by omega
    subst hk
    exact c_M_bits_4 _ _ _ ⟨fun _ => H v J h hsm, fun z => absurd z (nI_nlt (by omega) (by omega))⟩
  | succ r ih =>
    intro k v J hk h hsm
    refine c_M_bits_4 _ _ _ ⟨fun z => absurd z (nI_ge (by omega) (by omega)), fun _ => sp_M_bit0 h (fun J2 a1 a2 => ?_)⟩
    rw [nI_1]
    exact ih (k + 1) _ J2 (by omega) a1 (sm.tq hsm a2)
theorem sp_M_bits0 {P : Int32 → mm_I → Prop} {n : Nat} {I : mm_I} (hn : n ≤ 40) (h : I 58 40 = 1) (H : ∀ v J, J 58 40 = 1 → sm F_rd I J → P v J) : mm_Mi 202 [.ref 58, .int (nI n)] I P :=
  e_M_bits _ (lM_bits0 hn H n 0 0 I (by omega) h sm.rf)
theorem sp_M_signed0 {P : Int32 → mm_I → Prop} {n : Nat} {I : mm_I} (hn : n ≤ 40) (h : I 58 40 = 1) (H : ∀ v J, J 58 40 = 1 → sm F_rd I J → P v J) : mm_Mi 203 [.ref 58, .int (nI n)] I P :=
  e_M_signedBits _ ⟨fun _ => sp_M_bits0 hn h (fun v J a b => H _ J a b), fun _ => H 0 I h sm.rf⟩
/-- a number of some bits with its sign -/
def sgO (B : Nat → Int32) (p n : Nat) : Int32 := if n = 0 then 0 else (bvO B p n <<< ((32 - nI n) &&& 31)) >>> ((32 - nI n) &&& 31)
theorem sp_M_oSg {P : Int32 → mm_I → Prop} {B : Nat → Int32} {u n p : Nat} {I : mm_I} (hn : n ≤ 40) (hu : u ≤ 4000) (hS : StI B u I) (hR : RdO u (some p) I) (H1 : p + n ≤ 8 * u → ∀ J, RdO u (some (p + n)) J → sm F_rd I J → P (sgO B p n) J) (H0 : ¬ p + n ≤ 8 * u → ∀ v J, RdO u none J → sm F_rd I J → P v J) : mm_Mi 203 [.ref 58, .int (nI n)] I P := by
  refine e_M_signedBits _ ⟨fun z => ?_, fun z => ?_⟩
  · have n0 : ¬ n = 0 := fun y => z (by rw [y]; rfl)
    refine sp_M_oBs hn hu hS hR (fun v p' e J a1 a2 => ?_) (fun e v J a1 a2 => ?_)
    · unfold oBs at e
      by_cases q : p + n ≤ 8 * u
      · rw [if_pos q] at e
        cases e
        have := H1 q J a1 a2
        unfold sgO at this
        rw [if_neg n0] at this
        exact this
      · rw [if_neg q] at e
        cases e
    · unfold oBs at e
      by_cases q : p + n ≤ 8 * u
      · rw [if_pos q] at e
        cases e
      · exact H0 q _ J a1 a2
  · have n0 : n = 0 := (nI_eq (b := 0) (by omega) (by omega)).mp z
    subst n0
    exact H1 hR.2.2 I hR sm.rf
