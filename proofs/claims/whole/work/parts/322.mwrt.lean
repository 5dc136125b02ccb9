/-! the writer -/
abbrev wS : Type := (Nat × Nat) × (Nat → Int32)
def w_by (W : wS) (v : Int32) : wS := ((W.1.1 + 1, 0), fun j => if j = W.1.1 then v &&& 255 else W.2 j)
def w_b0 (W : wS) : wS := if W.1.2 = 0 then w_by W 0 else W
def w_or (W : wS) (v : Int32) (k : Nat) : wS := ((W.1.1, (W.1.2 + 1) % 8), fun j => if j = W.1.1 - 1 then W.2 (W.1.1 - 1) ||| (((v >>> (nI k &&& 31)) &&& 1) <<< ((7 - nI W.1.2) &&& 31)) else W.2 j)
def w_b1 (W : wS) (v : Int32) (k : Nat) : wS := w_or (w_b0 W) v k
def w_bs (v : Int32) : Nat → wS → wS
  | 0, W => W
  | k + 1, W => w_bs v k (w_b1 W v k)
def wps (W : wS) : Nat := if W.1.2 = 0 then 8 * W.1.1 else 8 * (W.1.1 - 1) + W.1.2
def wOk (W : wS) : Prop := W.1.2 < 8 ∧ (W.1.2 ≠ 0 → 1 ≤ W.1.1)
theorem wOk_by (W : wS) (v : Int32) : wOk (w_by W v) := ⟨by show 0 < 8; omega, fun h => absurd rfl h⟩
theorem wps_by (W : wS) (v : Int32) : wps (w_by W v) = 8 * (W.1.1 + 1) := rfl
theorem w_b0_s {W : wS} (h : wOk W) : 1 ≤ (w_b0 W).1.1 ∧ (w_b0 W).1.2 = W.1.2 := by
  unfold w_b0
  by_cases q : W.1.2 = 0
  · rw [if_pos q, q]; exact ⟨Nat.le_add_left 1 W.1.1, rfl⟩
  · rw [if_neg q]; exact ⟨h.2 q, rfl⟩
theorem wps_b1 {W : wS} {v : Int32} {k : Nat} (h : wOk W) : wOk (w_b1 W v k) ∧ wps (w_b1 W v k) = wps W + 1 := by
  have hs := w_b0_s h
  have h8 := h.1
  have e1 : (w_b1 W v k).1 = ((w_b0 W).1.1, ((w_b0 W).1.2 + 1) % 8) := rfl
  unfold wOk wps
  rw [e1, hs.2]
  refine ⟨⟨by show (W.1.2 + 1) % 8 < 8; omega, fun _ => hs.1⟩, ?_⟩
  show (if (W.1.2 + 1) % 8 = 0 then 8 * (w_b0 W).1.1 else 8 * ((w_b0 W).1.1 - 1) + (W.1.2 + 1) % 8) = _
  by_cases q : W.1.2 = 0
  · have e2 : (w_b0 W).1.1 = W.1.1 + 1 := by
      unfold w_b0
      rw [if_pos q]
      rfl
    rw [e2, q, if_neg (by omega), if_pos rfl]
    omega
  · have e2 : (w_b0 W).1.1 = W.1.1 := by
      unfold w_b0
      rw [if_neg q]
    have := h.2 q
    rw [e2, if_neg q]
    by_cases q2 : W.1.2 = 7
    · rw [q2, if_pos rfl]; omega
    · rw [if_neg (by omega)]; omega
theorem wps_bs {v : Int32} : ∀ (k : Nat) (W : wS), wOk W → wOk (w_bs v k W) ∧ wps (w_bs v k W) = wps W + k := by
  intro k
  induction k with
  | zero => intro W h; exact ⟨h, rfl⟩
  | succ k ih =>
    intro W h
    have b := wps_b1 (v := v) (k := k) h
    have := ih (w_b1 W v k) b.1
    refine ⟨this.1, ?_⟩
    show wps (w_bs v k (w_b1 W v k)) = _
    omega
/-- the reference's writer -/
def WrI (W : wS) (I : mm_I) : Prop := I 58 15 = nI W.1.1 ∧ I 58 34 = nI W.1.2 ∧ ∀ i, i < W.1.1 → I 66 i = W.2 i
def F_wr (a j : Nat) : Bool := Nat.beq a 66 || (Nat.beq a 58 && (Nat.beq j 15 || Nat.beq j 34))
theorem sp_M_putsByte {P : mm_I → Prop} {I : mm_I} {W : wS} {v : Int32} (e : I 58 15 = nI W.1.1) (e2 : ∀ i, i < W.1.1 → I 66 i = W.2 i) (hu : W.1.1 < 4000) (H : ∀ J, WrI (w_by W v) J → sm F_wr I J → P J) : mm_Mv 187 [.ref 58, .int v] I P := by
  refine e_M_putsByte v ?_
  rw [e, nI_clamp (by omega), nI_1]
  refine ⟨vp_in_nI hu (by omega), H _ ⟨rfl, rfl, fun i hi => ?_⟩ (((sm.rf.up rfl).up rfl).up rfl)⟩
  have hi : i < W.1.1 + 1 := hi
  show (mm_up I 66 W.1.1 (v &&& 255)) 66 i = if i = W.1.1 then v &&& 255 else W.2 i
  rw [up_a]
  by_cases q : i = W.1.1
  · rw [if_pos q, if_pos q]
  · rw [if_neg q, if_neg q]
    exact e2 i (by omega)
theorem rem8 {s : Nat} (h : s < 8) : (nI s + 1) - (nI s + 1) / 8 * 8 = nI ((s + 1) % 8) := by
  rw [nI_1]
  exact pk_rem (d := 8) (by omega) (by omega) (by omega)
/-- one bit into the last byte -/
theorem WrI_or {W : wS} {I : mm_I} {v : Int32} {k : Nat} (h : WrI W I) (h8 : W.1.2 < 8) (h1 : 1 ≤ W.1.1) (hu : W.1.1 ≤ 4000) : WrI (w_or W v k) (mm_up (mm_up I 66 (W.1.1 - 1) (I 66 (W.1.1 - 1) ||| (((v >>> (nI k &&& 31)) &&& 1) <<< ((7 - nI W.1.2) &&& 31)))) 58 34 (nI ((W.1.2 + 1) % 8))) := by
  refine ⟨h.1, rfl, fun i hi => ?_⟩
  have hi : i < W.1.1 := hi
  show (mm_up I 66 (W.1.1 - 1) _) 66 i = if i = W.1.1 - 1 then _ else W.2 i
  rw [up_a, h.2.2 (W.1.1 - 1) (by omega)]
  by_cases q : i = W.1.1 - 1
  · rw [if_pos q, if_pos q]
  · rw [if_neg q, if_neg q]
    exact h.2.2 i hi
theorem lM_putsBits {P : mm_I → Prop} {v : Int32} : ∀ (k : Nat) (W : wS) (I : mm_I), k ≤ 31 → WrI W I → wOk W → wps W + k ≤ 32000 → (∀ J, WrI (w_bs v k W) J → sm F_wr I J → P J) → mm_W 188 4 [some (.ref 58), some (.int v), none, some (.int (nI k - 1))] [] I (mm_qv 188 P) := by
  intro k
  induction k with
  | zero =>
    intro W I _ hW hO hp H
    exact c_M_putsBits_4 _ _ ⟨fun _ => H I hW sm.rf, fun h => absurd h (by decide)⟩
  | succ k ih =>
    intro W I hk hW hO hp H
    have b := wps_b1 (v := v) (k := k) hO
    rw [nI_pred]
    have e2 : nI k + (-1) = nI k - 1 := by rw [Int32.sub_eq_add_neg]
    refine c_M_putsBits_4 _ _ ⟨fun h => absurd h (nI_pos (by omega)), fun _ => ⟨fun q => ?_, fun q => ?_⟩⟩
    · have q0 : W.1.2 ≠ 0 := fun z => q (by rw [hW.2.1, z]; rfl)
      have h1 := hO.2 q0
      have hu : W.1.1 ≤ 4000 := by
        unfold wps at hp
        rw [if_neg q0] at hp
        omega
      have e0 : w_b1 W v k = w_or W v k := by
        unfold w_b1 w_b0
        rw [if_neg q0]
      have e1 : I 58 15 - 1 = nI (W.1.1 - 1) := by rw [hW.1]; exact pk_sub (b := 1) h1
      have vv := vp_in_nI (n := W.1.1 - 1) (N := 4000) (by omega) (by omega)
      rw [e1, nI_clamp (n := W.1.1 - 1) (by omega), hW.2.1, rem8 hO.1, e2]
      refine ⟨vv, vv, ih (w_or W v k) _ (by omega) (WrI_or hW hO.1 h1 hu) (by rw [← e0]; exact b.1) (by rw [← e0]; omega) (fun J a1 a2 => H J ?_ (sm.tq ((sm.rf.up rfl).up rfl) a2))⟩
      show WrI (w_bs v k (w_b1 W v k)) J
      rw [e0]
      exact a1
    · have q0 : W.1.2 = 0 := by
        rw [hW.2.1] at q
        exact (nI_eq (b := 0) (by have := hO.1; omega) (by omega)).mp q
      have hu : W.1.1 < 4000 := by
        unfold wps at hp
        rw [if_pos q0] at hp
        omega
      refine sp_M_putsByte hW.1 hW.2.2 hu (fun J1 a1 a2 => ?_)
      have e0 : w_b1 W v k = w_or (w_by W 0) v k := by
        unfold w_b1 w_b0
        rw [if_pos q0]
      have u1 : (w_by W 0).1.1 = W.1.1 + 1 := rfl
      have s1 : (w_by W 0).1.2 = 0 := rfl
      have e1 : J1 58 15 - 1 = nI ((w_by W 0).1.1 - 1) := by rw [a1.1]; exact pk_sub (b := 1) (by omega)
      have vv := vp_in_nI (n := (w_by W 0).1.1 - 1) (N := 4000) (by omega) (by omega)
      rw [e1, nI_clamp (n := (w_by W 0).1.1 - 1) (by omega), a1.2.1, rem8 (wOk_by W 0).1, e2]
      refine ⟨vv, vv, ih (w_or (w_by W 0) v k) _ (by omega) (WrI_or a1 (wOk_by W 0).1 (by omega) (by omega)) (by rw [← e0]; exact b.1) (by rw [← e0]; omega) (fun J b1 b2 => H J ?_ (sm.tq a2 (sm.tq ((sm.rf.up rfl).up rfl) b2)))⟩
      show WrI (w_bs v k (w_b1 W v k)) J
      rw [e0]
      exact b1
theorem sp_M_putsBits {P : mm_I → Prop} {v : Int32} {k : Nat} {W : wS} {I : mm_I} (hk : k ≤ 31) (hW : WrI W I) (hO : wOk W) (hp : wps W + k ≤ 32000) (H : ∀ J, WrI (w_bs v k W) J → sm F_wr I J → P J) : mm_Mv 188 [.ref 58, .int v, .int (nI k)] I P :=
  e_M_putsBits _ _ (lM_putsBits k W I hk hW hO hp H)
/-! the check -/
def ck1 (c : Int32) : Int32 := (if c < 32768 then (2 * c : Int32) else (2 * c) ^^^ 4129) &&& 65535
def ck8 : Nat → Int32 → Int32
  | 0, c => c
  | n + 1, c => ck8 n (ck1 c)
def ckS (b : Nat → Int32) (a : Nat) : Nat → Int32
  | 0 => 65535
  | k + 1 => ck8 8 (ckS b a k ^^^ (256 * b (a + k)))
theorem lM_ck30 {P : Int32 → mm_I → Prop} {I : mm_I} {x2 x4 : Int32} : ∀ (r k : Nat) (c d : Int32), k + r = 8 → ck8 r c = d → mm_W 189 7 [some (.ref 58), none, some (.int x2), some (.int d), some (.int (x4 + 1)), none] [] I (mm_qi 189 P) → mm_W 189 30 [some (.ref 58), none, some (.int x2), some (.int c), some (.int x4), some (.int (nI k))] [] I (mm_qi 189 P) := by
  intro r
  induction r with
  | zero =>
    intro k c d hk e H
    have hk : k = 8 := by omega
    subst hk
    have e : c = d := e
    subst e
    exact c_M_checked_30 _ _ _ _ ⟨fun _ => H, fun h => absurd h (by decide)⟩
  | succ r ih =>
    intro k c d hk e H
    refine c_M_checked_30 _ _ _ _ ⟨fun h => absurd h (nI_ge (b := 8) (by omega) (by omega)), fun _ => ?_⟩
    rw [nI_1]
    exact ih (k + 1) (ck1 c) d (by omega) e H
theorem lM_checked {P : Int32 → mm_I → Prop} {I : mm_I} {B : Nat → Int32} {a b : Nat} (hb : b ≤ 4000) (hab : a ≤ b) (h : ∀ i, a ≤ i → i < b → I 66 i = B i) (H : P (ckS B a (b - a)) I) : ∀ (r k : Nat), k + r = b - a → mm_W 189 7 [some (.ref 58), none, some (.int (nI b)), some (.int (ckS B a k)), some (.int (nI (a + k))), none] [] I (mm_qi 189 P) := by
  intro r
  induction r with
  | zero =>
    intro k hk
    have hk : k = b - a := by omega
    subst hk
    exact c_M_checked_7 _ _ _ ⟨fun _ => H, fun z => absurd z (nI_nlt (by omega) (by omega))⟩
  | succ r ih =>
    intro k hk
    refine c_M_checked_7 _ _ _ ⟨fun z => absurd z (nI_ge (by omega) (by omega)), fun _ => ⟨vp_in_nI (by omega) (by omega), ?_⟩⟩
    rw [nI_clamp (by omega), h (a + k) (by omega) (by omega)]
    refine lM_ck30 8 0 _ (ckS B a (k + 1)) (by omega) rfl ?_
    rw [nI_1]
    exact ih (k + 1) (by omega)
theorem sp_M_checked {P : Int32 → mm_I → Prop} {I : mm_I} {B : Nat → Int32} {a b : Nat} (hb : b ≤ 4000) (hab : a ≤ b) (h : ∀ i, a ≤ i → i < b → I 66 i = B i) (H : P (ckS B a (b - a)) I) : mm_Mi 189 [.ref 58, .int (nI a), .int (nI b)] I P :=
  e_M_checked _ _ (lM_checked hb hab h H (b - a) 0 (by omega))
def w_ck (W : wS) (a : Nat) : wS := w_by (w_by W (ckS W.2 a (W.1.1 - a) >>> (8 &&& 31))) (ckS W.2 a (W.1.1 - a))
theorem sp_M_putsCheck {P : mm_I → Prop} {W : wS} {I : mm_I} {a : Nat} (hW : WrI W I) (ha : a ≤ W.1.1) (hu : W.1.1 + 2 ≤ 4000) (H : ∀ J, WrI (w_ck W a) J → sm F_wr I J → P J) : mm_Mv 190 [.ref 58, .int (nI a)] I P := by
  refine e_M_putsCheck _ ?_
  rw [hW.1]
  refine sp_M_checked (B := W.2) (by omega) ha (fun i _ hi => hW.2.2 i hi) (sp_M_putsByte hW.1 hW.2.2 (by omega) (fun J1 a1 a2 => ?_))
  exact sp_M_putsByte a1.1 a1.2.2 (by show W.1.1 + 1 < 4000; omega) (fun J2 b1 b2 => H J2 b1 (sm.tq a2 b2))
