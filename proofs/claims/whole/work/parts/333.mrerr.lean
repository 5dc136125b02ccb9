/-- zeros read -/
def rdZ (B : Nat → Int32) (u : Nat) : Nat → Nat × Nat → Nat → Nat × (Nat × Nat)
  | 0, q, z => (z, q)
  | r + 1, q, z => if q.2 ≠ 0 then (z, q) else if rdV B u q = 0 then rdZ B u r (rdN u q) (z + 1) else (z, rdN u q)
def rdZs (B : Nat → Int32) (u : Nat) (q : Nat × Nat) : Nat × (Nat × Nat) := rdZ B u 40000 q 0
/-- enough turns -/
def enR (u r : Nat) (q : Nat × Nat) : Prop := q.2 ≠ 0 ∨ (q.1 ≤ 8 * u ∧ 8 * u + 1 < r + q.1)
theorem enR_n {u r : Nat} {q : Nat × Nat} (h : enR u (r + 1) q) (h0 : q.2 = 0) : enR u r (rdN u q) := by
  unfold enR rdN at *
  by_cases z : q.2 ≠ 0 ∨ 8 * u ≤ q.1
  · rw [if_pos z]; exact Or.inl (by show 1 ≠ 0; omega)
  · rw [if_neg z]
    refine Or.inr ?_
    show q.1 + 1 ≤ 8 * u ∧ 8 * u + 1 < r + (q.1 + 1)
    omega
theorem rdZ_b {B : Nat → Int32} {u : Nat} (hu : u ≤ 4000) : ∀ (r : Nat) (q : Nat × Nat) (z : Nat), q.1 ≤ 32000 → q.2 ≤ 1 → (rdZ B u r q z).2.1 ≤ 32000 ∧ (rdZ B u r q z).2.2 ≤ 1 := by
  intro r
  induction r with
  | zero => intro q z h1 h2; exact ⟨h1, h2⟩
  | succ r ih =>
    intro q z h1 h2
    have e : rdZ B u (r + 1) q z = if q.2 ≠ 0 then (z, q) else if rdV B u q = 0 then rdZ B u r (rdN u q) (z + 1) else (z, rdN u q) := rfl
    rw [e]
    by_cases y : q.2 ≠ 0
    · rw [if_pos y]; exact ⟨h1, h2⟩
    · rw [if_neg y]
      by_cases x : rdV B u q = 0
      · rw [if_pos x]; exact ih _ _ (rdN_u h1 hu) (rdN_b h2).2.2
      · rw [if_neg x]; exact ⟨rdN_u h1 hu, (rdN_b h2).2.2⟩
def unf (v : Int32) : Int32 := if (v &&& 1) = 0 then v / 2 else (-(v + 1)) / 2
def reV (B : Nat → Int32) (u p w : Nat) (q : Nat × Nat) : Int32 := if p = 15 then 0 else if p = 14 then rdG B u w q else unf ((nI (rdZs B u q).1 <<< (nI p &&& 31)) + (rdS B u (rdZs B u q).2 p).1)
def reN (B : Nat → Int32) (u p w : Nat) (q : Nat × Nat) : Nat × Nat := if p = 15 then q else if p = 14 then (rdS B u q w).2 else (rdS B u (rdZs B u q).2 p).2
theorem lM_re22 {P : Int32 → mm_I → Prop} {B : Nat → Int32} {u p : Nat} (hu : u ≤ 4000) (hp : p < 14) : ∀ (r : Nat) (q : Nat × Nat) (z : Nat) (I : mm_I), enR u r q → q.1 ≤ 32000 → q.2 ≤ 1 → StI B u I → RdI q I → (∀ J, RdI (rdS B u (rdZ B u r q z).2 p).2 J → sm F_rd I J → P (unf ((nI (rdZ B u r q z).1 <<< (nI p &&& 31)) + (rdS B u (rdZ B u r q z).2 p).1)) J) → mm_W 204 22 [some (.ref 58), some (.int (nI p)), none, some (.int (nI z)), none] [] I (mm_qi 204 P) := by
  have fin : ∀ (v t : Int32) (J : mm_I), P (unf (t + v)) J → (¬ ((t + v) &&& 1) = 0 → P ((-((t + v) + 1)) / 2) J) ∧ (((t + v) &&& 1) = 0 → P ((t + v) / 2) J) := fun v t J h => by
    unfold unf at h
    refine ⟨fun y => ?_, fun y => ?_⟩
    · rw [if_neg y] at h; exact h
    · rw [if_pos y] at h; exact h
  intro r
  induction r with
  | zero =>
    intro q z I hr h1 h2 hS hR H
    have h0 : ¬ I 58 40 = 0 := by
      rw [hR.2]
      unfold enR at hr
      rcases hr with y | y
      · exact nI_ne0 (by omega) (by omega)
      · exact absurd y.2 (by omega)
    refine c_M_readError_22 _ _ ⟨fun _ => sp_M_bits (by omega) hu hS h1 h2 hR (fun J a1 a2 => fin _ _ J (H J a1 a2)), fun y => absurd y h0⟩
  | succ r ih =>
    intro q z I hr h1 h2 hS hR H
    have e : rdZ B u (r + 1) q z = if q.2 ≠ 0 then (z, q) else if rdV B u q = 0 then rdZ B u r (rdN u q) (z + 1) else (z, rdN u q) := rfl
    refine c_M_readError_22 _ _ ⟨fun y => ?_, fun y => ?_⟩
    · have q0 : q.2 ≠ 0 := fun x => y (by rw [hR.2, x]; rfl)
      rw [if_pos q0] at e
      rw [e] at H
      exact sp_M_bits (by omega) hu hS h1 h2 hR (fun J a1 a2 => fin _ _ J (H J a1 a2))
    · have q0 : q.2 = 0 := by
        rw [hR.2] at y
        exact (nI_eq (b := 0) (by omega) (by omega)).mp y
      rw [if_neg (fun x => x q0)] at e
      refine sp_M_bit hu hS.1 hS.2 (by omega) h2 hR (fun J a1 a2 => ⟨fun x => ?_, fun x => ?_⟩)
      · rw [if_neg x] at e
        rw [e] at H
        exact sp_M_bits (by omega) hu (StI_rd hS a2) (rdN_u h1 hu) (rdN_b h2).2.2 a1 (fun J2 b1 b2 => fin _ _ J2 (H J2 b1 (sm.tq a2 b2)))
      · rw [if_pos x] at e
        rw [e] at H
        rw [nI_1]
        exact ih _ _ J (enR_n hr q0) (rdN_u h1 hu) (rdN_b h2).2.2 (StI_rd hS a2) a1 (fun J2 b1 b2 => H J2 b1 (sm.tq a2 b2))
/-- a reader that is broken, or in the store -/
def rdO (u : Nat) (q : Nat × Nat) : Prop := q.2 ≤ 1 ∧ q.1 ≤ 32000 ∧ (q.2 ≠ 0 ∨ q.1 ≤ 8 * u)
theorem rdO_n {u : Nat} {q : Nat × Nat} (hu : u ≤ 4000) (h : rdO u q) : rdO u (rdN u q) := by
  obtain ⟨h1, h2, h3⟩ := h
  refine ⟨(rdN_b h1).2.2, rdN_u h2 hu, ?_⟩
  unfold rdN
  by_cases z : q.2 ≠ 0 ∨ 8 * u ≤ q.1
  · rw [if_pos z]; exact Or.inl (by show 1 ≠ 0; omega)
  · rw [if_neg z]; exact Or.inr (by show q.1 + 1 ≤ 8 * u; omega)
theorem rdO_s {B : Nat → Int32} {u : Nat} {q : Nat × Nat} (hu : u ≤ 4000) (h : rdO u q) : ∀ k, rdO u (rdS B u q k).2 := by
  intro k
  induction k with
  | zero => exact h
  | succ k ih => exact rdO_n hu ih
theorem rdO_z {B : Nat → Int32} {u : Nat} (hu : u ≤ 4000) : ∀ (r : Nat) (q : Nat × Nat) (z : Nat), rdO u q → rdO u (rdZ B u r q z).2 := by
  intro r
  induction r with
  | zero => intro q z h; exact h
  | succ r ih =>
    intro q z h
    have e : rdZ B u (r + 1) q z = if q.2 ≠ 0 then (z, q) else if rdV B u q = 0 then rdZ B u r (rdN u q) (z + 1) else (z, rdN u q) := rfl
    rw [e]
    by_cases y : q.2 ≠ 0
    · rw [if_pos y]; exact h
    · rw [if_neg y]
      by_cases x : rdV B u q = 0
      · rw [if_pos x]; exact ih _ _ (rdO_n hu h)
      · rw [if_neg x]; exact rdO_n hu h
theorem rdO_e {B : Nat → Int32} {u p w : Nat} {q : Nat × Nat} (hu : u ≤ 4000) (h : rdO u q) : rdO u (reN B u p w q) := by
  unfold reN
  by_cases y : p = 15
  · rw [if_pos y]; exact h
  · rw [if_neg y]
    by_cases x : p = 14
    · rw [if_pos x]; exact rdO_s hu h w
    · rw [if_neg x]; exact rdO_s hu (rdO_z hu _ _ _ h) p
theorem sp_M_readError {P : Int32 → mm_I → Prop} {B : Nat → Int32} {u p w : Nat} {q : Nat × Nat} {I : mm_I} (hu : u ≤ 4000) (hp : p < 16) (hw : w ≤ 40) (hq : rdO u q) (hS : StI B u I) (hR : RdI q I) (H : ∀ J, RdI (reN B u p w q) J → sm F_rd I J → P (reV B u p w q) J) : mm_Mi 204 [.ref 58, .int (nI p), .int (nI w)] I P := by
  refine e_M_readError _ _ ⟨fun y => ⟨fun x => ?_, fun x => ?_⟩, fun y => ?_⟩
  · have y0 : ¬ p = 15 := fun z => y (by rw [z]; rfl)
    have x0 : ¬ p = 14 := fun z => x (by rw [z]; rfl)
    refine lM_re22 (B := B) hu (by omega) 40000 q 0 I ?_ hq.2.1 hq.1 hS hR (fun J a1 a2 => ?_)
    · unfold enR
      have := hq.2.2
      omega
    · have := H J
      unfold reN reV at this
      rw [if_neg y0, if_neg x0, if_neg y0, if_neg x0] at this
      exact this a1 a2
  · have x0 : p = 14 := (nI_eq (b := 14) (by omega) (by omega)).mp x
    have y0 : ¬ p = 15 := by omega
    refine sp_M_signedBits hw hu hS hq.2.1 hq.1 hR (fun J a1 a2 => ?_)
    have := H J
    unfold reN reV at this
    rw [if_neg y0, if_pos x0, if_neg y0, if_pos x0] at this
    exact this a1 a2
  · have y0 : p = 15 := (nI_eq (b := 15) (by omega) (by omega)).mp y
    have := H I
    unfold reN reV at this
    rw [if_pos y0, if_pos y0] at this
    exact this hR sm.rf
