theorem mm_i2_inv {f : Int32 → Int32 → Int32} {n : Nat} {ls : mm_Ls} {st : List Value} {h : mm_H} {s' : mm_S} (hs : mm_i2 f n ls st h = some s') : ∃ x y r, st = .int y :: .int x :: r ∧ s' = (n, ls, .int (f x y) :: r, h) := by
  unfold mm_i2 at hs
  split at hs
  · exact ⟨_, _, _, rfl, (Option.some.inj hs).symm⟩
  · cases hs
theorem mm_i1_inv {f : Int32 → Value} {n : Nat} {ls : mm_Ls} {st : List Value} {h : mm_H} {s' : mm_S} (hs : mm_i1 f n ls st h = some s') : ∃ x r, st = .int x :: r ∧ s' = (n, ls, f x :: r, h) := by
  unfold mm_i1 at hs
  split at hs
  · exact ⟨_, _, rfl, (Option.some.inj hs).symm⟩
  · cases hs
theorem mm_l2_inv {f : Int64 → Int64 → Value} {n : Nat} {ls : mm_Ls} {st : List Value} {h : mm_H} {s' : mm_S} (hs : mm_l2 f n ls st h = some s') : ∃ x y r, st = .long y :: .long x :: r ∧ s' = (n, ls, f x y :: r, h) := by
  unfold mm_l2 at hs
  split at hs
  · exact ⟨_, _, _, rfl, (Option.some.inj hs).symm⟩
  · cases hs
theorem mm_l1_inv {f : Int64 → Value} {n : Nat} {ls : mm_Ls} {st : List Value} {h : mm_H} {s' : mm_S} (hs : mm_l1 f n ls st h = some s') : ∃ x r, st = .long x :: r ∧ s' = (n, ls, f x :: r, h) := by
  unfold mm_l1 at hs
  split at hs
  · exact ⟨_, _, rfl, (Option.some.inj hs).symm⟩
  · cases hs
theorem mm_li_inv {f : Int64 → Int32 → Int64} {n : Nat} {ls : mm_Ls} {st : List Value} {h : mm_H} {s' : mm_S} (hs : mm_li f n ls st h = some s') : ∃ x y r, st = .int y :: .long x :: r ∧ s' = (n, ls, .long (f x y) :: r, h) := by
  unfold mm_li at hs
  split at hs
  · exact ⟨_, _, _, rfl, (Option.some.inj hs).symm⟩
  · cases hs
theorem mm_dv_inv {f : Int32 → Int32 → Int32} {n : Nat} {ls : mm_Ls} {st : List Value} {h : mm_H} {s' : mm_S} (hs : mm_dv f n ls st h = some s') : ∃ x y r, st = .int y :: .int x :: r ∧ ¬ y = 0 ∧ s' = (n, ls, .int (f x y) :: r, h) := by
  unfold mm_dv at hs
  split at hs
  · split at hs
    · cases hs
    · rename_i hy
      exact ⟨_, _, _, rfl, hy, (Option.some.inj hs).symm⟩
  · cases hs
theorem mm_f2_inv {f : UInt32 → UInt32 → UInt32} {n : Nat} {ls : mm_Ls} {st : List Value} {h : mm_H} {s' : mm_S} (hs : mm_f2 f n ls st h = some s') : ∃ x y r, st = .float y :: .float x :: r ∧ vf_n32 (f x y) ∧ s' = (n, ls, .float (f x y) :: r, h) := by
  unfold mm_f2 at hs
  split at hs
  · split at hs
    · rename_i hy
      exact ⟨_, _, _, rfl, hy, (Option.some.inj hs).symm⟩
    · cases hs
  · cases hs
theorem mm_d2_inv {f : UInt64 → UInt64 → UInt64} {n : Nat} {ls : mm_Ls} {st : List Value} {h : mm_H} {s' : mm_S} (hs : mm_d2 f n ls st h = some s') : ∃ x y r, st = .double y :: .double x :: r ∧ vf_n64 (f x y) ∧ s' = (n, ls, .double (f x y) :: r, h) := by
  unfold mm_d2 at hs
  split at hs
  · split at hs
    · rename_i hy
      exact ⟨_, _, _, rfl, hy, (Option.some.inj hs).symm⟩
    · cases hs
  · cases hs
theorem mm_cond_inv {α : Type} {b : Bool} {x : Option α} {y : α} (h : (bif b then x else none) = some y) : b = true ∧ x = some y := by
  cases b with
  | true => exact ⟨rfl, h⟩
  | false => cases h
theorem mm_ldv_inv {T : Value → Bool} {n : Nat} {ls : mm_Ls} {st : List Value} {h : mm_H} {i : Nat} {s' : mm_S} (hs : mm_ldv T n ls st h i = some s') : ∃ v, mm_ld ls i = some v ∧ T v = true ∧ s' = (n, ls, v :: st, h) := by
  unfold mm_ldv at hs
  split at hs
  · rename_i v hv
    obtain ⟨h1, h2⟩ := mm_cond_inv hs
    exact ⟨v, hv, h1, (Option.some.inj h2).symm⟩
  · cases hs
theorem mm_stv_inv {T : Value → Bool} {w n : Nat} {ls : mm_Ls} {st : List Value} {h : mm_H} {i : Nat} {s' : mm_S} (hs : mm_stv T w n ls st h i = some s') : ∃ v r, st = v :: r ∧ T v = true ∧ i + w ≤ ls.length ∧ s' = (n, (bif Nat.beq w 2 then mm_s2 ls i v else mm_s1 ls i v), r, h) := by
  unfold mm_stv at hs
  split at hs
  · obtain ⟨h1, h2⟩ := mm_cond_inv hs
    rw [Bool.and_eq_true] at h1
    exact ⟨_, _, rfl, h1.1, Nat.le_of_ble_eq_true h1.2, (Option.some.inj h2).symm⟩
  · cases hs
theorem mm_bi_inv {f : Int32 → Bool} {t n : Nat} {ls : mm_Ls} {st : List Value} {h : mm_H} {s' : mm_S} (hs : mm_bi f t n ls st h = some s') : ∃ x r, st = .int x :: r ∧ s' = ((bif f x then t else n), ls, r, h) := by
  unfold mm_bi at hs
  split at hs
  · exact ⟨_, _, rfl, (Option.some.inj hs).symm⟩
  · cases hs
theorem mm_bi2_inv {f : Int32 → Int32 → Bool} {t n : Nat} {ls : mm_Ls} {st : List Value} {h : mm_H} {s' : mm_S} (hs : mm_bi2 f t n ls st h = some s') : ∃ x y r, st = .int y :: .int x :: r ∧ s' = ((bif f x y then t else n), ls, r, h) := by
  unfold mm_bi2 at hs
  split at hs
  · exact ⟨_, _, _, rfl, (Option.some.inj hs).symm⟩
  · cases hs
theorem mm_aid_inv {h : mm_H} {a c : Nat} (hs : mm_aid h a c = true) : a < mm_n h ∧ mm_K h a = c := by
  unfold mm_aid at hs
  rw [Bool.and_eq_true, mm_blt_iff, mm_beq_iff] at hs
  exact hs
theorem mm_inb_inv {i : Int32} {n : Nat} (h : mm_inb i n = true) : vp_in i n := by
  unfold mm_inb at h
  have h2 := of_decide_eq_true h
  exact h2
theorem mm_gf_inv {c s n : Nat} {ls : mm_Ls} {st : List Value} {h : mm_H} {s' : mm_S} (hs : mm_gf c s n ls st h = some s') : ∃ a r, st = .ref a :: r ∧ a < mm_n h ∧ mm_K h a = c ∧ s' = (n, ls, mm_fv h c a s :: r, h) := by
  unfold mm_gf at hs
  split at hs
  · obtain ⟨h1, h2⟩ := mm_cond_inv hs
    obtain ⟨h3, h4⟩ := mm_aid_inv h1
    exact ⟨_, _, rfl, h3, h4, (Option.some.inj h2).symm⟩
  · cases hs
theorem mm_ft2 {c s : Nat} (h : mm_ft c s = 2) : (∃ o, mm_ty c s = .object o) ∨ ∃ o, mm_ty c s = .array o := by
  unfold mm_ft at h
  split at h
  · cases h
  · cases h
  · rename_i o e
    exact Or.inl ⟨o, e⟩
  · rename_i o e
    exact Or.inr ⟨o, e⟩
  · cases h
theorem mm_ft0 {c s : Nat} (h : mm_ft c s = 0) : mm_ty c s = .int := by
  unfold mm_ft at h
  split at h
  · assumption
  all_goals cases h
theorem mm_ft1 {c s : Nat} (h : mm_ft c s = 1) : mm_ty c s = .boolean := by
  unfold mm_ft at h
  split at h
  · cases h
  · assumption
  all_goals cases h
/-- a field's store: what is stored, and the heap behind -/
def mm_pfR (c s a : Nat) (v : Value) (h h' : mm_H) : Prop :=
  (∃ x, v = .int x ∧ h' = (h.1, mm_up h.2 a s x) ∧ (mm_ft c s = 0 ∨ (mm_ft c s = 1 ∧ (x = 0 ∨ x = 1)))) ∨ ∃ b, v = .ref b ∧ h' = mm_sR h a s (some b) ∧ mm_ft c s = 2 ∧ b < mm_n h
theorem mm_pf_inv {k c s n : Nat} {ls : mm_Ls} {st : List Value} {h : mm_H} {s' : mm_S} (hs : mm_pf k c s n ls st h = some s') : ∃ v a r h', st = v :: .ref a :: r ∧ a < mm_n h ∧ mm_K h a = c ∧ (mm_fin c s = false ∨ (mm_md k = 2 ∧ mm_c k = c)) ∧ mm_pfR c s a v h h' ∧ s' = (n, ls, r, h') := by
  unfold mm_pf at hs
  split at hs
  · obtain ⟨h1, h2⟩ := mm_cond_inv hs
    rw [Bool.and_eq_true, Bool.or_eq_true, Bool.and_eq_true, mm_beq_iff, mm_beq_iff, Bool.not_eq_true'] at h1
    obtain ⟨h3, h4⟩ := mm_aid_inv h1.1
    split at h2
    · rename_i x
      cases h0 : Nat.beq (mm_ft c s) 0 with
      | true =>
        rw [h0] at h2
        exact ⟨_, _, _, _, rfl, h3, h4, h1.2, Or.inl ⟨x, rfl, rfl, Or.inl ((mm_beq_iff _ _).mp h0)⟩, (Option.some.inj h2).symm⟩
      | false =>
        rw [h0] at h2
        obtain ⟨h5, h6⟩ := mm_cond_inv h2
        rw [Bool.and_eq_true, mm_beq_iff, Bool.or_eq_true, beq_iff_eq, beq_iff_eq] at h5
        exact ⟨_, _, _, _, rfl, h3, h4, h1.2, Or.inl ⟨x, rfl, rfl, Or.inr h5⟩, (Option.some.inj h6).symm⟩
    · rename_i b
      obtain ⟨h5, h6⟩ := mm_cond_inv h2
      rw [Bool.and_eq_true, mm_beq_iff, mm_blt_iff] at h5
      exact ⟨_, _, _, _, rfl, h3, h4, h1.2, Or.inr ⟨b, rfl, rfl, h5⟩, (Option.some.inj h6).symm⟩
    · cases h2
  · cases hs
theorem mm_al_inv {c n : Nat} {ls : mm_Ls} {st : List Value} {h : mm_H} {s' : mm_S} (hs : mm_al c n ls st h = some s') : ∃ i a r, st = .int i :: .ref a :: r ∧
    ((c = 100 ∧ a = 5000 ∧ vp_in i 20 ∧ s' = (n, ls, .int (mm_fix i.toNatClampNeg) :: r, h)) ∨ (a < mm_n h ∧ mm_K h a = c ∧ vp_in i (mm_L h a) ∧ s' = (n, ls, .int (mm_G h a i.toNatClampNeg) :: r, h))) := by
  unfold mm_al at hs
  split at hs
  · rename_i i a r
    refine ⟨i, a, r, rfl, ?_⟩
    cases hb : (Nat.beq c 100 && Nat.beq a 5000) with
    | true =>
      rw [hb] at hs
      obtain ⟨h1, h2⟩ := mm_cond_inv hs
      rw [Bool.and_eq_true, mm_beq_iff, mm_beq_iff] at hb
      exact Or.inl ⟨hb.1, hb.2, mm_inb_inv h1, (Option.some.inj h2).symm⟩
    | false =>
      rw [hb] at hs
      obtain ⟨h1, h2⟩ := mm_cond_inv hs
      rw [Bool.and_eq_true] at h1
      obtain ⟨h3, h4⟩ := mm_aid_inv h1.1
      exact Or.inr ⟨h3, h4, mm_inb_inv h1.2, (Option.some.inj h2).symm⟩
  · cases hs
theorem mm_as_inv {c n : Nat} {ls : mm_Ls} {st : List Value} {h : mm_H} {s' : mm_S} (hs : mm_as c n ls st h = some s') : ∃ x i a r, st = .int x :: .int i :: .ref a :: r ∧ a < mm_n h ∧ mm_K h a = c ∧ vp_in i (mm_L h a) ∧ (c = 100 ∨ (x = 0 ∨ x = 1)) ∧ s' = (n, ls, r, (h.1, mm_up h.2 a i.toNatClampNeg x)) := by
  unfold mm_as at hs
  split at hs
  · obtain ⟨h1, h2⟩ := mm_cond_inv hs
    rw [Bool.and_eq_true, Bool.and_eq_true, Bool.or_eq_true, Bool.or_eq_true, mm_beq_iff, beq_iff_eq, beq_iff_eq] at h1
    obtain ⟨h3, h4⟩ := mm_aid_inv h1.1.1
    exact ⟨_, _, _, _, rfl, h3, h4, mm_inb_inv h1.1.2, h1.2, (Option.some.inj h2).symm⟩
  · cases hs
theorem mm_len_inv {n : Nat} {ls : mm_Ls} {st : List Value} {h : mm_H} {s' : mm_S} (hs : mm_len n ls st h = some s') : ∃ a r, st = .ref a :: r ∧ a < mm_n h ∧ mm_K h a = 100 ∧ s' = (n, ls, .int (Int32.ofNat (mm_L h a)) :: r, h) := by
  unfold mm_len at hs
  split at hs
  · obtain ⟨h1, h2⟩ := mm_cond_inv hs
    obtain ⟨h3, h4⟩ := mm_aid_inv h1
    exact ⟨_, _, rfl, h3, h4, (Option.some.inj h2).symm⟩
  · cases hs
theorem mm_nw1_inv {ng : Bool} {c s n : Nat} {ls : mm_Ls} {st : List Value} {h : mm_H} {s' : mm_S} (hs : mm_nw1 ng c s n ls st h = some s') : ng = true ∧ mm_n h < 4000 ∧ s' = (n, ls, .ref (mm_n h) :: st, mm_add h c s) := by
  unfold mm_nw1 at hs
  obtain ⟨h1, h2⟩ := mm_cond_inv hs
  rw [Bool.and_eq_true, mm_blt_iff] at h1
  exact ⟨h1.1, h1.2, (Option.some.inj h2).symm⟩
theorem mm_nwa_inv {ng : Bool} {c n : Nat} {ls : mm_Ls} {st : List Value} {h : mm_H} {s' : mm_S} (hs : mm_nwa ng c n ls st h = some s') : ∃ x r, st = .int x :: r ∧ ng = true ∧ mm_n h < 4000 ∧ vp_in x 10000 ∧ s' = (n, ls, .ref (mm_n h) :: r, mm_add h c x.toNatClampNeg) := by
  unfold mm_nwa at hs
  split at hs
  · obtain ⟨h1, h2⟩ := mm_cond_inv hs
    rw [Bool.and_eq_true, Bool.and_eq_true, mm_blt_iff] at h1
    exact ⟨_, _, rfl, h1.1.1, h1.1.2, mm_inb_inv h1.2, (Option.some.inj h2).symm⟩
  · cases hs
theorem mm_ad_lt {B t a n : Nat} (h : a < n) (hn : n ≤ 4000) : mm_ad B t a = B + a := by
  unfold mm_ad
  rw [mm_beq_f (by omega)]
  rfl
theorem mm_rv_ref {B t a n : Nat} (h : a < n) (hn : n ≤ 4000) : mm_rv B t (.ref a) = .ref (B + a) := by
  show Value.ref (mm_ad B t a) = _
  rw [mm_ad_lt h hn]
