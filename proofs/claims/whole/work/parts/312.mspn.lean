/-! spans and ways of the reference -/
def sBs (E : Nat → Int32) (m p a : Nat) : Nat → Nat
  | 0 => 7
  | j + 1 => sBs E m p a j + gBs E (a + j) p (ig m (a + j))
def sWs (E : Nat → Int32) (m a : Nat) : Nat → Nat
  | 0 => 1
  | j + 1 => if gWs E (a + j) (ig m (a + j)) ≤ sWs E m a j then sWs E m a j else gWs E (a + j) (ig m (a + j))
def sCs (m a : Nat) : Nat → Nat
  | 0 => 0
  | j + 1 => sCs m a j + ig m (a + j)
def sZs (E : Nat → Int32) (m a : Nat) : Nat → Nat
  | 0 => 1
  | j + 1 => if sZs E m a j = 0 then 0 else if gZs E (a + j) (ig m (a + j)) = 0 then 0 else 1
/-- the bits of a span by a parameter; 2 ^ 31: it can't be -/
def bbN (E : Nat → Int32) (m a b p : Nat) : Nat := if p = 15 then (if sZs E m a (b - a) = 0 then 2147483648 else 7) else if p = 14 then 12 + sWs E m a (b - a) * sCs m a (b - a) else sBs E m p a (b - a)
theorem gBs_b {E : Nat → Int32} {g p : Nat} (hp : p < 14) : ∀ k, (∀ i, i < k → -8388608 ≤ (E (8 * g + i)).toInt ∧ (E (8 * g + i)).toInt < 8388608) → gBs E g p k ≤ k * 16777230 := by
  intro k
  induction k with
  | zero => intro _; exact Nat.zero_le _
  | succ k ih =>
    intro h
    have i1 := ih (fun i hi => h i (by omega))
    have b := h k (by omega)
    have hl := fo_lt b.1 b.2
    have := Nat.div_le_self (fo (E (8 * g + k))) (2 ^ p)
    show gBs E g p k + (_ + 1 + p) ≤ _
    omega
theorem sBs_b {E : Nat → Int32} {m p a : Nat} (hp : p < 14) (hB : EB E m) : ∀ j, 8 * (a + j) ≤ m + 7 → sBs E m p a j ≤ 7 + j * 134217840 := by
  intro j
  induction j with
  | zero => intro _; exact Nat.le_refl 7
  | succ j ih =>
    intro h
    have i1 := ih (by omega)
    have h8 := ig_le m (a + j)
    have h9 := ig_m (m := m) (g := a + j) (by omega)
    have := gBs_b (E := E) (g := a + j) hp (ig m (a + j)) (fun i hi => hB _ (by omega))
    show sBs E m p a j + _ ≤ _
    omega
theorem sWs_b {E : Nat → Int32} {m a : Nat} (hB : EB E m) : ∀ j, 8 * (a + j) ≤ m + 7 → 1 ≤ sWs E m a j ∧ sWs E m a j ≤ 24 := by
  intro j
  induction j with
  | zero => intro _; exact ⟨Nat.le_refl 1, by show 1 ≤ 24; omega⟩
  | succ j ih =>
    intro h
    have i1 := ih (by omega)
    have h9 := ig_m (m := m) (g := a + j) (by omega)
    have := gWs_b (E := E) (g := a + j) (ig m (a + j)) (fun i hi => hB _ (by omega))
    show 1 ≤ (if _ then _ else _) ∧ (if _ then _ else _) ≤ 24
    split <;> omega
theorem sCs_b {m a : Nat} : ∀ j, 8 * (a + j) ≤ m + 7 → sCs m a j ≤ 8 * j := by
  intro j
  induction j with
  | zero => intro _; exact Nat.zero_le _
  | succ j ih =>
    intro h
    have i1 := ih (by omega)
    have h8 := ig_le m (a + j)
    show sCs m a j + _ ≤ _
    omega
theorem gZs_01 (E : Nat → Int32) (g : Nat) : ∀ k, gZs E g k = 0 ∨ gZs E g k = 1 := by
  intro k
  induction k with
  | zero => exact Or.inr rfl
  | succ k ih =>
    show (if _ then _ else _) = 0 ∨ (if _ then _ else _) = 1
    split
    · exact ih
    · exact Or.inl rfl
theorem sZs_01 (E : Nat → Int32) (m a : Nat) : ∀ j, sZs E m a j = 0 ∨ sZs E m a j = 1 := by
  intro j
  cases j with
  | zero => exact Or.inr rfl
  | succ j =>
    show (if _ then _ else (if _ then _ else _)) = 0 ∨ (if _ then _ else (if _ then _ else _)) = 1
    split
    · exact Or.inl rfl
    · split
      · exact Or.inl rfl
      · exact Or.inr rfl
/-- what the reference answers for it -/
def bbI (E : Nat → Int32) (m a b p : Nat) : Int32 := if p = 15 then (if sZs E m a (b - a) = 0 then -1 else 7) else nI (bbN E m a b p)
abbrev GEI (E : Nat → Int32) (m : Nat) (I : mm_I) : Prop := ErI E m I ∧ GrI E m ((m + 7) / 8) I
theorem lM_bitsBy {P : Int32 → mm_I → Prop} {E : Nat → Int32} {I : mm_I} {m a b p : Nat} (hG : GEI E m I) (hB : EB E m) (hab : a ≤ b) (hb : b ≤ (m + 7) / 8) (hp : p < 16) (H : P (bbI E m a b p) I) : ∀ (r j : Nat), j + r = b - a → mm_W 156 16 [some (.ref 58), none, some (.int (nI b)), some (.int (nI p)), some (.int (nI (if p < 14 then sBs E m p a j else 7))), some (.int (nI (sWs E m a j))), some (.int (nI (sCs m a j))), some (.int (nI (sZs E m a j))), some (.int (nI (a + j)))] [] I (mm_qi 156 P) := by
  obtain ⟨hE, hGr⟩ := hG
  have hm := hE.1
  intro r
  induction r with
  | zero =>
    intro j hj
    have hj : j = b - a := by omega
    refine c_M_bitsBy_16 _ _ _ _ _ _ _ ⟨fun _ => ?_, fun h => absurd h (nI_nlt (by omega) (by omega))⟩
    unfold bbI bbN at H
    rw [← hj] at H
    refine ⟨fun z => ?_, fun z => ?_⟩
    · have q15 : ¬ p = 15 := fun w => z (by rw [w]; rfl)
      rw [if_neg q15, if_neg q15] at H
      by_cases q : p = 14
      · have q2 : nI p = 14 := by rw [q]; rfl
        rw [if_pos q] at H
        rw [if_pos q2]
        have e : (12 : Int32) + nI (sWs E m a j) * nI (sCs m a j) = nI (12 + sWs E m a j * sCs m a j) := by
          rw [pk_mul]
          exact nI_add 12 _
        rw [e]
        exact H
      · have q2 : ¬ nI p = 14 := fun w => q ((nI_eq (b := 14) (by omega) (by omega)).mp w)
        rw [if_neg q] at H
        rw [if_neg q2, if_pos (by omega)]
        exact H
    · have q15 : p = 15 := (nI_eq (b := 15) (by omega) (by omega)).mp z
      rw [if_pos q15] at H
      rcases sZs_01 E m a j with w | w
      · rw [if_pos w] at H
        rw [w]
        exact H
      · rw [if_neg (by omega)] at H
        rw [w]
        exact H
  | succ r ih =>
    intro j hj
    refine c_M_bitsBy_16 _ _ _ _ _ _ _ ⟨fun h => absurd h (nI_ge (by omega) (by omega)), fun _ => ?_⟩
    obtain ⟨g1, g2, g3⟩ := hGr (a + j) (by omega)
    have va := vp_in_nI (n := a + j) (N := 8) (by omega) (by omega)
    have wb := gWs_b (E := E) (g := a + j) (ig m (a + j)) (fun i hi => hB _ (by have := ig_m (m := m) (g := a + j) (by omega); omega))
    have sb := sWs_b (E := E) (a := a) hB j (by omega)
    have e1 : (14 : Int32) * nI (a + j) + nI p = nI (14 * (a + j) + p) := by
      show nI 14 * _ + _ = _
      rw [pk_mul, nI_add]
    rw [e1, nI_clamp (n := a + j) (by omega), nI_clamp (n := 14 * (a + j) + p) (by omega), g2, g3, nI_1]
    refine ⟨fun z => ⟨vp_in_nI (by have := (nI_ltI (b := 14) (by omega) (by omega)).mp z; omega) (by omega), trivial⟩, va, fun _ => ⟨va, trivial⟩, fun _ => ⟨va, trivial⟩, ?_⟩
    refine sp_M_inGroup hm hE.2.1 (by omega) ?_
    have q1 : (if 14 ≤ nI p then (nI (if p < 14 then sBs E m p a j else 7) : Int32) else nI (if p < 14 then sBs E m p a j else 7) + I 69 (14 * (a + j) + p)) = nI (if p < 14 then sBs E m p a (j + 1) else 7) := by
      by_cases q : p < 14
      · have q2 : ¬ 14 ≤ nI p := nI_ge (b := 14) (by omega) (by omega)
        rw [if_neg q2, if_pos q, if_pos q, g1 p q, nI_add]
        rfl
      · have q2 : 14 ≤ nI p := nI_le (a := 14) (by omega) (by omega)
        rw [if_pos q2, if_neg q, if_neg q]
    have q2 : (if nI (gWs E (a + j) (ig m (a + j))) ≤ nI (sWs E m a j) then (nI (sWs E m a j) : Int32) else nI (gWs E (a + j) (ig m (a + j)))) = nI (sWs E m a (j + 1)) := by
      show _ = nI (if _ then _ else _)
      by_cases q : gWs E (a + j) (ig m (a + j)) ≤ sWs E m a j
      · rw [if_pos q, if_pos (nI_le q (by omega))]
      · rw [if_neg q, if_neg (nI_ge (by omega) (by omega))]
    have q3 : nI (sCs m a j) + nI (ig m (a + j)) = nI (sCs m a (j + 1)) := nI_add _ _
    have q4 : (if nI (sZs E m a j) = 0 then (0 : Int32) else (if nI (gZs E (a + j) (ig m (a + j))) = 0 then (0 : Int32) else 1)) = nI (sZs E m a (j + 1)) := by
      show _ = nI (if _ then _ else (if _ then _ else _))
      rcases sZs_01 E m a j with w | w <;> rcases gZs_01 E (a + j) (ig m (a + j)) with w2 | w2 <;> rw [w, w2] <;> rfl
    rw [q1, q2, q3, q4]
    exact ih (j + 1) (by omega)
theorem sp_M_bitsBy {P : Int32 → mm_I → Prop} {E : Nat → Int32} {I : mm_I} {m a b p : Nat} (hG : GEI E m I) (hB : EB E m) (hab : a ≤ b) (hb : b ≤ (m + 7) / 8) (hp : p < 16) (H : P (bbI E m a b p) I) : mm_Mi 156 [.ref 58, .int (nI a), .int (nI b), .int (nI p)] I P := by
  refine e_M_bitsBy _ _ _ ?_
  have := lM_bitsBy hG hB hab hb hp H (b - a) 0 (by omega)
  have e : nI (if p < 14 then sBs E m p a 0 else 7) = 7 := by
    by_cases q : p < 14
    · rw [if_pos q]; rfl
    · rw [if_neg q]; rfl
  rw [e] at this
  exact this
theorem bbN_b {E : Nat → Int32} {m a b p : Nat} (hm : m ≤ 64) (hB : EB E m) (hab : a ≤ b) (hb : b ≤ (m + 7) / 8) (hp : p < 15) : bbN E m a b p < 2147483648 ∧ bbI E m a b p = nI (bbN E m a b p) := by
  unfold bbI
  rw [if_neg (by omega)]
  refine ⟨?_, rfl⟩
  unfold bbN
  rw [if_neg (by omega)]
  by_cases q : p = 14
  · rw [if_pos q]
    have s1 := sWs_b (E := E) (a := a) hB (b - a) (by omega)
    have s2 := sCs_b (m := m) (a := a) (b - a) (by omega)
    have : sWs E m a (b - a) * sCs m a (b - a) ≤ 24 * 64 := Nat.mul_le_mul s1.2 (by omega)
    omega
  · rw [if_neg q]
    have := sBs_b (E := E) (a := a) (p := p) (by omega) hB (b - a) (by omega)
    omega
/-- the parameter -/
def prs (E : Nat → Int32) (m a b : Nat) : Nat → Nat
  | 0 => 0
  | k + 1 => if bbN E m a b (k + 1) < bbN E m a b (prs E m a b k) then k + 1 else prs E m a b k
theorem prs_le (E : Nat → Int32) (m a b : Nat) : ∀ k, prs E m a b k ≤ k := by
  intro k
  induction k with
  | zero => exact Nat.le_refl 0
  | succ k ih =>
    show (if bbN E m a b (k + 1) < bbN E m a b (prs E m a b k) then k + 1 else prs E m a b k) ≤ k + 1
    by_cases q : bbN E m a b (k + 1) < bbN E m a b (prs E m a b k)
    · rw [if_pos q]; exact Nat.le_refl _
    · rw [if_neg q]; omega
theorem prs_b {E : Nat → Int32} {m a b : Nat} (hm : m ≤ 64) (hB : EB E m) (hab : a ≤ b) (hb : b ≤ (m + 7) / 8) : ∀ k, k < 16 → bbN E m a b (prs E m a b k) < 2147483648 := by
  intro k
  induction k with
  | zero => intro _; exact (bbN_b hm hB hab hb (by show 0 < 15; omega)).1
  | succ k ih =>
    intro hk
    have := ih (by omega)
    show bbN E m a b (if _ then _ else _) < _
    split <;> omega
theorem bbI_ok {E : Nat → Int32} {m a b p : Nat} (h : bbN E m a b p < 2147483648) : bbI E m a b p = nI (bbN E m a b p) := by
  unfold bbI
  by_cases q : p = 15
  · unfold bbN at h ⊢
    rw [if_pos q] at h ⊢
    rw [if_pos q]
    by_cases q2 : sZs E m a (b - a) = 0
    · rw [if_pos q2] at h
      exact absurd h (by omega)
    · rw [if_neg q2, if_neg q2]
      rfl
  · rw [if_neg q]
theorem bbI_no {E : Nat → Int32} {m a b p : Nat} (hm : m ≤ 64) (hB : EB E m) (hab : a ≤ b) (hb : b ≤ (m + 7) / 8) (hp : p < 16) (h : ¬ bbN E m a b p < 2147483648) : bbI E m a b p = -1 := by
  have q : p = 15 := by
    rcases Nat.lt_or_ge p 15 with z | z
    · exact absurd (bbN_b hm hB hab hb z).1 h
    · omega
  unfold bbI
  unfold bbN at h
  rw [if_pos q] at h ⊢
  by_cases q2 : sZs E m a (b - a) = 0
  · rw [if_pos q2]
  · rw [if_neg q2] at h
    exact absurd h (by omega)
theorem lM_parameterOf {P : Int32 → mm_I → Prop} {E : Nat → Int32} {I : mm_I} {m a b : Nat} (hG : GEI E m I) (hB : EB E m) (hab : a ≤ b) (hb : b ≤ (m + 7) / 8) (H : P (nI (prs E m a b 15)) I) : ∀ (r k : Nat), k + r = 15 → mm_W 157 5 [some (.ref 58), some (.int (nI a)), some (.int (nI b)), some (.int (nI (prs E m a b k))), some (.int (nI (k + 1))), none] [] I (mm_qi 157 P) := by
  have hm := hG.1.1
  intro r
  induction r with
  | zero =>
    intro k hk
    have hk : k = 15 := by omega
    subst hk
    exact c_M_parameterOf_5 _ _ _ _ ⟨fun _ => H, fun h => absurd h (by decide)⟩
  | succ r ih =>
    intro k hk
    have nx := ih (k + 1) (by omega)
    have hpl := prs_le E m a b k
    have hpb := prs_b hm hB hab hb k (by omega)
    refine c_M_parameterOf_5 _ _ _ _ ⟨fun h => absurd h (nI_ge (b := 16) (by omega) (by omega)), fun _ => sp_M_bitsBy hG hB hab hb (by omega) ?_⟩
    rw [nI_1]
    by_cases q : bbN E m a b (k + 1) < 2147483648
    · rw [bbI_ok q]
      refine ⟨fun z => absurd z (nI_pos (by omega)), fun _ => sp_M_bitsBy hG hB hab hb (by omega) ?_⟩
      rw [bbI_ok hpb]
      have e : (if nI (bbN E m a b (prs E m a b k)) ≤ nI (bbN E m a b (k + 1)) then (nI (prs E m a b k) : Int32) else nI (k + 1)) = nI (prs E m a b (k + 1)) := by
        show _ = nI (if _ then _ else _)
        by_cases z : bbN E m a b (k + 1) < bbN E m a b (prs E m a b k)
        · rw [if_pos z, if_neg (nI_ge z (by omega))]
        · rw [if_neg z, if_pos (nI_le (by omega) (by omega))]
      rw [e]
      exact nx
    · rw [bbI_no hm hB hab hb (by omega) q]
      refine ⟨fun _ => ?_, fun z => absurd z (by decide)⟩
      have e : prs E m a b (k + 1) = prs E m a b k := by
        show (if _ then _ else _) = _
        rw [if_neg (by omega)]
      rw [e] at nx
      exact nx
theorem sp_M_parameterOf {P : Int32 → mm_I → Prop} {E : Nat → Int32} {I : mm_I} {m a b : Nat} (hG : GEI E m I) (hB : EB E m) (hab : a ≤ b) (hb : b ≤ (m + 7) / 8) (H : P (nI (prs E m a b 15)) I) : mm_Mi 157 [.ref 58, .int (nI a), .int (nI b)] I P :=
  e_M_parameterOf _ _ (lM_parameterOf hG hB hab hb H 15 0 (by omega))
abbrev par (E : Nat → Int32) (m a b : Nat) : Nat := prs E m a b 15
abbrev spb (E : Nat → Int32) (m a b : Nat) : Nat := bbN E m a b (par E m a b)
def F_sp (a _ : Nat) : Bool := Nat.beq a 75 || Nat.beq a 76
def SpI (E : Nat → Int32) (m : Nat) (I : mm_I) : Prop := ∀ a b, a < b → b ≤ (m + 7) / 8 → I 75 (9 * a + b) = nI (par E m a b) ∧ I 76 (9 * a + b) = nI (spb E m a b)
def SpP (E : Nat → Int32) (m A B : Nat) (I : mm_I) : Prop := ∀ a b, a < b → b ≤ (m + 7) / 8 → (a < A ∨ (a = A ∧ b < B)) → I 75 (9 * a + b) = nI (par E m a b) ∧ I 76 (9 * a + b) = nI (spb E m a b)
theorem GEI_sm {E : Nat → Int32} {m : Nat} {I J : mm_I} {F : Nat → Nat → Bool} (h : GEI E m I) (f : sm F I J) (h1 : F 58 21 = false) (h2 : F 58 22 = false) (h3 : ∀ j, F 68 j = false) (h4 : ∀ j, F 69 j = false) (h5 : ∀ j, F 70 j = false) (h6 : ∀ j, F 71 j = false) : GEI E m J := by
  obtain ⟨⟨a1, a2, a3, a4⟩, b⟩ := h
  refine ⟨⟨a1, (f _ _ h1).trans a2, (f _ _ h2).trans a3, fun i hi => (f _ _ (h3 i)).trans (a4 i hi)⟩, fun g hg => ?_⟩
  obtain ⟨c1, c2, c3⟩ := b g hg
  exact ⟨fun p hp => (f _ _ (h4 _)).trans (c1 p hp), (f _ _ (h5 _)).trans c2, (f _ _ (h6 _)).trans c3⟩
theorem GEI_sp {E : Nat → Int32} {m : Nat} {I J : mm_I} (h : GEI E m I) (f : sm F_sp I J) : GEI E m J := GEI_sm h f rfl rfl (fun _ => rfl) (fun _ => rfl) (fun _ => rfl) (fun _ => rfl)
theorem lM_ls14 {P : mm_I → Prop} {E : Nat → Int32} {I : mm_I} {m a : Nat} (hG : GEI E m I) (hB : EB E m) (ha : a < (m + 7) / 8)
    (H : ∀ J, SpP E m (a + 1) 0 J → sm F_sp I J → mm_W 158 2 [some (.ref 58), some (.int (nI (a + 1))), none, none] [] J (mm_qv 158 P)) : ∀ (r b : Nat) (J : mm_I), b + r = (m + 7) / 8 + 1 → a < b → SpP E m a b J → sm F_sp I J → mm_W 158 14 [some (.ref 58), some (.int (nI a)), some (.int (nI b)), none] [] J (mm_qv 158 P) := by
  have hm := hG.1.1
  intro r
  induction r with
  | zero =>
    intro b J hb hab hS hsm
    refine c_M_laysSpans_14 _ _ ?_
    rw [hsm 58 22 rfl, hG.1.2.2.1, nI_1]
    refine ⟨fun _ => H J (fun a' b' h1 h2 h3 => hS a' b' h1 h2 (by omega)) hsm, fun h => absurd h (nI_ge (by omega) (by omega))⟩
  | succ r ih =>
    intro b J hb hab hS hsm
    have hG' := GEI_sp hG hsm
    have e1 : (9 : Int32) * nI a + nI b = nI (9 * a + b) := by
      show nI 9 * _ + _ = _
      rw [pk_mul, nI_add]
    refine c_M_laysSpans_14 _ _ ?_
    rw [hsm 58 22 rfl, hG.1.2.2.1, e1, nI_clamp (n := 9 * a + b) (by omega), nI_1 b]
    have v := vp_in_nI (n := 9 * a + b) (N := 81) (by omega) (by omega)
    refine ⟨fun h => absurd h (nI_nlt (by omega) (by omega)), fun _ => sp_M_parameterOf hG' hB (by omega) (by omega) ⟨v, ?_⟩⟩
    have hG2 : GEI E m (mm_up J 75 (9 * a + b) (nI (prs E m a b 15))) := GEI_sp hG' (sm.rf.up rfl)
    have hpl := prs_le E m a b 15
    refine sp_M_bitsBy hG2 hB (by omega) (by omega) (by omega) ⟨v, ih (b + 1) _ (by omega) (by omega) (fun a' b' h1 h2 h3 => ?_) ((hsm.up rfl).up rfl)⟩
    rw [up_o (show (75 : Nat) ≠ 76 by decide), up_a, up_a, up_o (show (76 : Nat) ≠ 75 by decide)]
    by_cases q : a' = a ∧ b' = b
    · rw [q.1, q.2, if_pos rfl, if_pos rfl]
      exact ⟨rfl, bbI_ok (prs_b hm hB (by omega) (by omega) 15 (by omega))⟩
    · rw [if_neg (by omega), if_neg (by omega)]
      exact hS a' b' h1 h2 (by omega)
theorem lM_ls2 {P : mm_I → Prop} {E : Nat → Int32} {I : mm_I} {m : Nat} (hG : GEI E m I) (hB : EB E m)
    (H : ∀ J, SpI E m J → sm F_sp I J → P J) : ∀ (r a : Nat) (J : mm_I), a + r = (m + 7) / 8 → SpP E m a 0 J → sm F_sp I J → mm_W 158 2 [some (.ref 58), some (.int (nI a)), none, none] [] J (mm_qv 158 P) := by
  have hm := hG.1.1
  intro r
  induction r with
  | zero =>
    intro a J ha hS hsm
    refine c_M_laysSpans_2 _ ?_
    rw [hsm 58 22 rfl, hG.1.2.2.1]
    exact ⟨fun _ => H J (fun a' b' h1 h2 => hS a' b' h1 h2 (by omega)) hsm, fun h => absurd h (nI_nlt (by omega) (by omega))⟩
  | succ r ih =>
    intro a J ha hS hsm
    refine c_M_laysSpans_2 _ ?_
    rw [hsm 58 22 rfl, hG.1.2.2.1, nI_1]
    exact ⟨fun h => absurd h (nI_ge (by omega) (by omega)), fun _ => lM_ls14 hG hB (by omega) (fun J' h1 h2 => ih (a + 1) J' (by omega) h1 h2) ((m + 7) / 8 - a) (a + 1) J (by omega) (by omega) (fun a' b' h1 h2 h3 => hS a' b' h1 h2 (by omega)) hsm⟩
theorem sp_M_laysSpans {P : mm_I → Prop} {E : Nat → Int32} {I : mm_I} {m : Nat} (hG : GEI E m I) (hB : EB E m)
    (H : ∀ J, SpI E m J → sm F_sp I J → P J) : mm_Mv 158 [.ref 58] I P :=
  e_M_laysSpans (lM_ls2 hG hB H ((m + 7) / 8) 0 I (by omega) (fun a b h1 h2 h3 => by omega) sm.rf)
/-! ways -/
abbrev ncut (G way g : Nat) : Prop := g + 1 < G ∧ way / 2 ^ (G - 2 - g) % 2 = 0
def wFr (G way : Nat) : Nat → Nat
  | 0 => 0
  | g + 1 => if ncut G way g then wFr G way g else g + 1
def wBt (c : Nat → Nat → Nat) (G way : Nat) : Nat → Nat
  | 0 => 0
  | g + 1 => if ncut G way g then wBt c G way g else wBt c G way g + c (wFr G way g) (g + 1)
def wCt (G way : Nat) : Nat → Nat
  | 0 => 0
  | g + 1 => if ncut G way g then wCt G way g else wCt G way g + 1
def wTo (G way : Nat) : Nat → Nat → Nat × Nat
  | 0 => fun _ => (0, 0)
  | g + 1 => if ncut G way g then wTo G way g else fun k => if k = wCt G way g then (wFr G way g, g + 1) else wTo G way g k
theorem wFr_le (G way : Nat) : ∀ g, wFr G way g ≤ g := by
  intro g
  induction g with
  | zero => exact Nat.le_refl 0
  | succ g ih =>
    show (if ncut G way g then wFr G way g else g + 1) ≤ g + 1
    by_cases q : ncut G way g
    · rw [if_pos q]; omega
    · rw [if_neg q]; exact Nat.le_refl _
theorem wCt_le (G way : Nat) : ∀ g, wCt G way g ≤ g := by
  intro g
  induction g with
  | zero => exact Nat.le_refl 0
  | succ g ih =>
    show (if ncut G way g then wCt G way g else wCt G way g + 1) ≤ g + 1
    by_cases q : ncut G way g
    · rw [if_pos q]; omega
    · rw [if_neg q]; omega
/-- the bit of a way, as the code asks for it -/
theorem cutI {G way g : Nat} (hG : G ≤ 8) (hw : way < 128) (hg : g + 1 < G) : ((nI way >>> (((nI G - 2) - nI g) &&& 31)) &&& 1) = nI (way / 2 ^ (G - 2 - g) % 2) := by
  have e1 : nI G - 2 - nI g = nI (G - 2 - g) := by
    have a1 : nI G - 2 = nI (G - 2) := pk_sub (b := 2) (by omega)
    rw [a1]
    exact pk_sub (by omega)
  rw [e1, shrp (by omega) (by omega)]
  have hd := Nat.div_le_self way (2 ^ (G - 2 - g))
  exact pk_andN (by omega) 1 rfl
theorem lM_bitsOfWay {P : Int32 → mm_I → Prop} {E : Nat → Int32} {I : mm_I} {m way : Nat} (hm : m ≤ 64) (e : I 58 22 = nI ((m + 7) / 8)) (hS : SpI E m I) (hw : way < 128) (H : P (nI (wBt (spb E m) ((m + 7) / 8) way ((m + 7) / 8))) I) : ∀ (r g : Nat), g + r = (m + 7) / 8 → mm_W 159 7 [some (.ref 58), some (.int (nI way)), some (.int (nI (wBt (spb E m) ((m + 7) / 8) way g))), some (.int (nI (wFr ((m + 7) / 8) way g))), some (.int (nI g))] [] I (mm_qi 159 P) := by
  intro r
  generalize hGG : (m + 7) / 8 = G at e H
  have hG8 : G ≤ 8 := by omega
  induction r with
  | zero =>
    intro g hg
    have hg : g = G := by omega
    subst hg
    refine c_M_bitsOfWay_7 _ _ _ _ ?_
    rw [e]
    exact ⟨fun _ => H, fun h => absurd h (nI_nlt (by omega) (by omega))⟩
  | succ r ih =>
    intro g hg
    have nx := ih (g + 1) (by omega)
    have hf := wFr_le G way g
    have e1 : (9 : Int32) * nI (wFr G way g) + nI g + 1 = nI (9 * wFr G way g + (g + 1)) := by
      show nI 9 * _ + _ + nI 1 = _
      rw [pk_mul, nI_add, nI_add]
      rfl
    have e2 : nI G - 1 = nI (G - 1) := pk_sub (b := 1) (by omega)
    refine c_M_bitsOfWay_7 _ _ _ _ ?_
    rw [e, e1, e2, nI_clamp (n := 9 * wFr G way g + (g + 1)) (by omega), nI_1, (hS (wFr G way g) (g + 1) (by omega) (by omega)).2, nI_add]
    have v := vp_in_nI (n := 9 * wFr G way g + (g + 1)) (N := 81) (by omega) (by omega)
    refine ⟨fun h => absurd h (nI_ge (by omega) (by omega)), fun _ => ⟨fun _ => ⟨v, trivial⟩, fun _ => ⟨fun _ => ⟨v, trivial⟩, trivial⟩, ?_⟩⟩
    by_cases q : g + 1 < G
    · rw [if_neg (nI_ge (a := g) (b := G - 1) (by omega) (by omega)), if_neg (nI_ge (a := g) (b := G - 1) (by omega) (by omega)), cutI hG8 hw q]
      by_cases q2 : way / 2 ^ (G - 2 - g) % 2 = 0
      · have q3 : nI (way / 2 ^ (G - 2 - g) % 2) = 0 := by rw [q2]; rfl
        rw [if_pos q3, if_pos q3]
        have a1 : wBt (spb E m) G way (g + 1) = wBt (spb E m) G way g := if_pos ⟨q, q2⟩
        have a2 : wFr G way (g + 1) = wFr G way g := if_pos ⟨q, q2⟩
        rw [a1, a2] at nx
        exact nx
      · have q3 : ¬ nI (way / 2 ^ (G - 2 - g) % 2) = 0 := nI_ne0 (by omega) (by omega)
        rw [if_neg q3, if_neg q3]
        have a1 : wBt (spb E m) G way (g + 1) = wBt (spb E m) G way g + spb E m (wFr G way g) (g + 1) := if_neg (fun z => q2 z.2)
        have a2 : wFr G way (g + 1) = g + 1 := if_neg (fun z => q2 z.2)
        rw [a1, a2] at nx
        exact nx
    · rw [if_pos (nI_le (a := G - 1) (b := g) (by omega) (by omega)), if_pos (nI_le (a := G - 1) (b := g) (by omega) (by omega))]
      have a1 : wBt (spb E m) G way (g + 1) = wBt (spb E m) G way g + spb E m (wFr G way g) (g + 1) := if_neg (fun z => q z.1)
      have a2 : wFr G way (g + 1) = g + 1 := if_neg (fun z => q z.1)
      rw [a1, a2] at nx
      exact nx
theorem sp_M_bitsOfWay {P : Int32 → mm_I → Prop} {E : Nat → Int32} {I : mm_I} {m way : Nat} (hm : m ≤ 64) (e : I 58 22 = nI ((m + 7) / 8)) (hS : SpI E m I) (hw : way < 128) (H : P (nI (wBt (spb E m) ((m + 7) / 8) way ((m + 7) / 8))) I) : mm_Mi 159 [.ref 58, .int (nI way)] I P :=
  e_M_bitsOfWay _ (lM_bitsOfWay hm e hS hw H ((m + 7) / 8) 0 (by omega))
/-- how many bits are set -/
def pcf : Nat → Nat → Nat
  | 0, _ => 0
  | k + 1, v => v % 2 + pcf k (v / 2)
theorem pcf_0 : ∀ k, pcf k 0 = 0 := by
  intro k
  induction k with
  | zero => rfl
  | succ k ih => show 0 % 2 + pcf k (0 / 2) = 0; rw [show (0 : Nat) / 2 = 0 from rfl, ih]
theorem lM_cutsOf {P : Int32 → mm_I → Prop} {I : mm_I} : ∀ (k v c : Nat), v < 2 ^ k → v < 128 → P (nI (c + pcf k v)) I → mm_W 160 4 [none, some (.int (nI c)), some (.int (nI v))] [] I (mm_qi 160 P) := by
  intro k
  induction k with
  | zero =>
    intro v c hv hv2 H
    have hv : v = 0 := by omega
    subst hv
    exact c_M_cutsOf_4 _ _ ⟨fun _ => H, fun h => absurd h (by decide)⟩
  | succ k ih =>
    intro v c hv hv2 H
    refine c_M_cutsOf_4 _ _ ⟨fun h => ?_, fun h => ?_⟩
    · have h : v ≤ 0 := (nI_leI (b := 0) (by omega) (by omega)).mp h
      have h : v = 0 := by omega
      subst h
      rw [pcf_0] at H
      exact H
    · have e1 : nI v &&& 1 = nI (v % 2) := pk_andN (by omega) 1 rfl
      have e2 : nI v >>> (1 &&& 31) = nI (v / 2) := shrp (p := 1) (by omega) (by omega)
      rw [e1, e2, nI_add]
      refine ih (v / 2) (c + v % 2) (by rw [Nat.pow_succ] at hv; omega) (by omega) ?_
      have e3 : c + v % 2 + pcf k (v / 2) = c + pcf (k + 1) v := by show _ = c + (v % 2 + pcf k (v / 2)); omega
      rw [e3]
      exact H
abbrev pcn (v : Nat) : Nat := pcf 7 v
theorem sp_M_cutsOf {P : Int32 → mm_I → Prop} {I : mm_I} {v : Nat} (hv : v < 128) (H : P (nI (pcn v)) I) : mm_Mi 160 [.int (nI v)] I P :=
  e_M_cutsOf _ (lM_cutsOf 7 v 0 (by omega) hv (by rw [Nat.zero_add]; exact H))
