/-! the class: the parameter of a run; one run by the mean -/
theorem gBs_q {E : Nat → Int32} {g p : Nat} : ∀ k, gBs E g p k = qGB E g p k + k * (1 + p) := by
  intro k
  induction k with
  | zero => rw [Nat.zero_mul]; rfl
  | succ k ih =>
    show gBs E g p k + (fo (E (8 * g + k)) / 2 ^ p + 1 + p) = qGB E g p k + fo (E (8 * g + k)) / 2 ^ p + (k + 1) * (1 + p)
    have ms : (k + 1) * (1 + p) = k * (1 + p) + (1 + p) := Nat.succ_mul _ _
    rw [ih, ms]
    omega
theorem qGS_m {E : Nat → Int32} {m p a : Nat} : ∀ j, qGS E m p a ≤ qGS E m p (a + j) := by
  intro j
  induction j with
  | zero => exact Nat.le_refl _
  | succ j ih => exact Nat.le_trans ih (Nat.le_add_right _ _)
theorem sBs_q {E : Nat → Int32} {m p a : Nat} : ∀ j, sBs E m p a j = 7 + (qGS E m p (a + j) - qGS E m p a) + sCs m a j * (1 + p) := by
  intro j
  induction j with
  | zero =>
    show 7 = 7 + (qGS E m p a - qGS E m p a) + 0 * (1 + p)
    rw [Nat.sub_self, Nat.zero_mul]
  | succ j ih =>
    have q := qGS_m (E := E) (m := m) (p := p) (a := a) j
    show sBs E m p a j + gBs E (a + j) p (ig m (a + j)) = 7 + (qGS E m p (a + j) + qGB E (a + j) p (ig m (a + j)) - qGS E m p a) + (sCs m a j + ig m (a + j)) * (1 + p)
    rw [ih, gBs_q, Nat.add_mul]
    omega
theorem gZs_q {E : Nat → Int32} {g : Nat} : ∀ k, (gZs E g k = 0 ↔ ¬ qGB E g 0 k = 0) := by
  intro k
  induction k with
  | zero => exact ⟨fun z => absurd z (by show ¬ 1 = 0; omega), fun z => absurd rfl z⟩
  | succ k ih =>
    show (if fo (E (8 * g + k)) = 0 then gZs E g k else 0) = 0 ↔ ¬ qGB E g 0 k + fo (E (8 * g + k)) / 2 ^ 0 = 0
    rw [Nat.pow_zero, Nat.div_one]
    by_cases q : fo (E (8 * g + k)) = 0
    · rw [if_pos q, q, Nat.add_zero]; exact ih
    · rw [if_neg q]
      exact ⟨fun _ => by omega, fun _ => rfl⟩
theorem sZs_q {E : Nat → Int32} {m a : Nat} : ∀ j, (sZs E m a j = 0 ↔ ¬ qGS E m 0 (a + j) = qGS E m 0 a) := by
  intro j
  induction j with
  | zero => exact ⟨fun z => absurd z (by show ¬ 1 = 0; omega), fun z => absurd rfl z⟩
  | succ j ih =>
    have q := qGS_m (E := E) (m := m) (p := 0) (a := a) j
    have gz := gZs_q (E := E) (g := a + j) (ig m (a + j))
    show (if sZs E m a j = 0 then 0 else if gZs E (a + j) (ig m (a + j)) = 0 then 0 else 1) = 0 ↔ ¬ qGS E m 0 (a + j) + qGB E (a + j) 0 (ig m (a + j)) = qGS E m 0 a
    by_cases z1 : sZs E m a j = 0
    · rw [if_pos z1]
      have := ih.mp z1
      exact ⟨fun _ => by omega, fun _ => rfl⟩
    · rw [if_neg z1]
      have e : qGS E m 0 (a + j) = qGS E m 0 a := by
        by_cases y : qGS E m 0 (a + j) = qGS E m 0 a
        · exact y
        · exact absurd (ih.mpr y) z1
      by_cases z2 : gZs E (a + j) (ig m (a + j)) = 0
      · rw [if_pos z2]
        have := gz.mp z2
        exact ⟨fun _ => by omega, fun _ => rfl⟩
      · rw [if_neg z2]
        have : qGB E (a + j) 0 (ig m (a + j)) = 0 := by
          by_cases y : qGB E (a + j) 0 (ig m (a + j)) = 0
          · exact y
          · exact absurd (gz.mpr y) z2
        exact ⟨fun y => absurd y (by omega), fun y => absurd (by omega) y⟩
theorem qGB_b {E : Nat → Int32} {m g p : Nat} (hB : EB E m) : ∀ k, 8 * g + k ≤ m → qGB E g p k ≤ k * 16777216 := by
  intro k
  induction k with
  | zero => intro _; exact Nat.zero_le _
  | succ k ih =>
    intro h
    have a := ih (by omega)
    have f := fo_lt (hB (8 * g + k) (by omega)).1 (hB (8 * g + k) (by omega)).2
    have d : fo (E (8 * g + k)) / 2 ^ p ≤ fo (E (8 * g + k)) := Nat.div_le_self _ _
    show qGB E g p k + fo (E (8 * g + k)) / 2 ^ p ≤ (k + 1) * 16777216
    omega
theorem qGS_b {E : Nat → Int32} {m p : Nat} (hB : EB E m) : ∀ g, 8 * g ≤ m + 7 → qGS E m p g ≤ g * 134217728 := by
  intro g
  induction g with
  | zero => intro _; exact Nat.zero_le _
  | succ g ih =>
    intro h
    have a := ih (by omega)
    have b := qGB_b (p := p) hB (ig m g) (ig_m (m := m) (g := g) (by omega))
    have c := ig_le m g
    show qGS E m p g + qGB E g p (ig m g) ≤ (g + 1) * 134217728
    omega
theorem prs_min {E : Nat → Int32} {m a b : Nat} : ∀ k, (∀ p, p ≤ k → bbN E m a b (prs E m a b k) ≤ bbN E m a b p) ∧ ∀ p, p < prs E m a b k → bbN E m a b (prs E m a b k) < bbN E m a b p := by
  intro k
  induction k with
  | zero => exact ⟨fun p hp => by rw [show p = 0 by omega]; exact Nat.le_refl _, fun p hp => absurd hp (Nat.not_lt_zero p)⟩
  | succ k ih =>
    have e : prs E m a b (k + 1) = if bbN E m a b (k + 1) < bbN E m a b (prs E m a b k) then k + 1 else prs E m a b k := rfl
    have l := prs_le E m a b k
    rw [e]
    by_cases q : bbN E m a b (k + 1) < bbN E m a b (prs E m a b k)
    · rw [if_pos q]
      refine ⟨fun p hp => ?_, fun p hp => ?_⟩
      · by_cases z : p = k + 1
        · rw [z]; exact Nat.le_refl _
        · have := ih.1 p (by omega); omega
      · have := ih.1 p (by omega); omega
    · rw [if_neg q]
      refine ⟨fun p hp => ?_, ih.2⟩
      by_cases z : p = k + 1
      · rw [z]; omega
      · exact ih.1 p (by omega)
theorem par_eq {E : Nat → Int32} {m a b q : Nat} (hm : m ≤ 64) (hB : EB E m) (hab : a ≤ b) (hb : b ≤ (m + 7) / 8) (hz : sZs E m a (b - a) = 0) (h14 : q ≤ 14) (h1 : ∀ p, p ≤ 14 → bbN E m a b q ≤ bbN E m a b p) (h2 : ∀ p, p < q → bbN E m a b q < bbN E m a b p) : par E m a b = q := by
  have mn := prs_min (E := E) (m := m) (a := a) (b := b) 15
  have bq := (bbN_b hm hB hab hb (show q < 15 by omega)).1
  have f15 : bbN E m a b 15 = 2147483648 := by
    unfold bbN
    rw [if_pos rfl, if_pos hz]
  have l := prs_le E m a b 15
  have m1 := mn.1 q (by omega)
  show prs E m a b 15 = q
  have n15 : prs E m a b 15 ≠ 15 := fun z => by
    rw [z, f15] at m1
    omega
  have m2 := h1 (prs E m a b 15) (by omega)
  rcases Nat.lt_trichotomy (prs E m a b 15) q with z | z | z
  · have := h2 _ z; omega
  · exact z
  · have := mn.2 q z; omega
theorem par_15 {E : Nat → Int32} {m a b : Nat} (hab : a < b) (hb : 8 * b ≤ m + 7) (hz : ¬ sZs E m a (b - a) = 0) : par E m a b = 15 ∧ spb E m a b = 7 := by
  have f15 : bbN E m a b 15 = 7 := by
    unfold bbN
    rw [if_pos rfl, if_neg hz]
  have c1 : 1 ≤ sCs m a (b - a) := by
    rw [sCs_eq hab hb]
    unfold rcn
    split <;> omega
  have low : ∀ p, p ≤ 14 → 7 < bbN E m a b p := fun p hp => by
    unfold bbN
    rw [if_neg (by omega)]
    by_cases z : p = 14
    · rw [if_pos z]; omega
    · rw [if_neg z, sBs_q]
      have : sCs m a (b - a) ≤ sCs m a (b - a) * (1 + p) := Nat.le_mul_of_pos_right _ (by omega)
      omega
  have l := prs_le E m a b 14
  have e : prs E m a b 15 = if bbN E m a b 15 < bbN E m a b (prs E m a b 14) then 15 else prs E m a b 14 := rfl
  rw [if_pos (by have := low _ l; omega)] at e
  exact ⟨e, by show bbN E m a b (prs E m a b 15) = 7; rw [e, f15]⟩
def F_fp (a j : Nat) : Bool := Nat.beq a 11 && (Nat.beq j 13 || Nat.beq j 14)
theorem sm.fp {I J : mm_I} (f : sm F_fp I J) : sm F_ct I J := f.le (fun a j h => by
  refine mm_bf fun z => ?_
  simp only [F_fp, Bool.and_eq_true, mm_beq_iff] at z
  unfold F_ct at h
  rw [z.1] at h
  cases h)
theorem CtI_fp {E : Nat → Int32} {m : Nat} {I J : mm_I} (h : CtI E m I) (f : sm F_fp I J) : CtI E m J := ⟨h.1, (f 11 1 rfl).trans h.2.1, (f 11 2 rfl).trans h.2.2.1, (f 11 3 rfl).trans h.2.2.2.1, fun i hi => (f 12 i rfl).trans (h.2.2.2.2 i hi)⟩
theorem MgI_fp {E : Nat → Int32} {m G : Nat} {c : Nat → Int32} {I J : mm_I} (h : MgI E m G c I) (f : sm F_fp I J) : MgI E m G c J := MgI_mg h f (fun _ => rfl) (fun _ => rfl) (fun _ => rfl)
theorem own_I {E : Nat → Int32} {m a b p : Nat} (hB : EB E m) (hab : a ≤ b) (hb : 8 * b ≤ m + 7) (hp : p < 14) (x y : Int32) (c : Int32) (hx : x = c + nI (qGS E m p b)) (hy : y = c + nI (qGS E m p a)) : 7 + (x - y) + nI (sCs m a (b - a)) * (1 + nI p) = nI (bbN E m a b p) := by
  have q := qGS_m (E := E) (m := m) (p := p) (a := a) (b - a)
  rw [show a + (b - a) = b by omega] at q
  have e1 : (1 : Int32) + nI p = nI (1 + p) := nI_add 1 p
  rw [hx, hy, i_csub, pk_sub q, e1, pk_mul]
  show nI 7 + _ + _ = _
  rw [nI_add, nI_add]
  unfold bbN
  rw [if_neg (by omega), if_neg (by omega), sBs_q, show a + (b - a) = b by omega]
theorem lX_fp78 {P : mm_I → Prop} {E : Nat → Int32} {I : mm_I} {m G a b : Nat} {c : Nat → Int32} (hm : m ≤ 64) (hB : EB E m) (hG : G = Gm m) (hI : MgI E m G c I) (hab : a < b) (hb : b ≤ G) (hz : sZs E m a (b - a) = 0)
    (H : ∀ J, J 11 13 = nI (par E m a b) → J 11 14 = nI (spb E m a b) → sm F_fp I J → P J) : ∀ (k q : Nat) (J : mm_I), k ≤ 14 → k ≤ q → q ≤ 14 → (∀ p, k ≤ p → p ≤ 14 → bbN E m a b q ≤ bbN E m a b p) → (∀ p, k ≤ p → p < q → bbN E m a b q < bbN E m a b p) → J 11 13 = nI q → J 11 14 = nI (bbN E m a b q) → sm F_fp I J →
      mm_W 9 78 [some (.ref 11), none, none, none, some (.int (nI (14 * a))), some (.int (nI (14 * b))), some (.int (nI (sCs m a (b - a)))), some (.int (nI k - 1)), none, none] [] J (mm_qv 9 P) := by
  have hGm : Gm m = (m + 7) / 8 := rfl
  intro k
  induction k with
  | zero =>
    intro q J _ _ h14 h1 h2 e13 e14 hsm
    have pe := par_eq hm hB (by omega) (by omega) hz h14 (fun p hp => h1 p (Nat.zero_le _) hp) (fun p hp => h2 p (Nat.zero_le _) hp)
    refine c_Cutter_findParameter_78 _ _ _ _ ⟨fun _ => H J ?_ ?_ hsm, fun z => absurd z (by decide)⟩
    · rw [pe]; exact e13
    · show J 11 14 = nI (bbN E m a b (par E m a b))
      rw [pe]; exact e14
  | succ k ih =>
    intro q J hk hkq h14 h1 h2 e13 e14 hsm
    have M := MgI_fp hI hsm
    have ek : nI (k + 1) - 1 = nI k := nI_pred k
    have ow := own_I hB (show a ≤ b by omega) (show 8 * b ≤ m + 7 by omega) (show k < 14 by omega) (J 15 (14 * b + k)) (J 15 (14 * a + k)) (c k) (M.1 b k hb (by omega)) (M.1 a k (by omega) (by omega))
    have bk := (bbN_b hm hB (show a ≤ b by omega) (show b ≤ (m + 7) / 8 by omega) (show k < 15 by omega)).1
    have bq := (bbN_b hm hB (show a ≤ b by omega) (show b ≤ (m + 7) / 8 by omega) (show q < 15 by omega)).1
    rw [ek]
    refine c_Cutter_findParameter_78 _ _ _ _ ⟨fun z => absurd z (nI_pos (by omega)), fun _ => ?_⟩
    rw [nI_add, nI_add, nI_clamp (n := 14 * b + k) (by omega), nI_clamp (n := 14 * a + k) (by omega), ow, e14, i_m1]
    refine ⟨vp_in_nI (by omega) (by omega), vp_in_nI (by omega) (by omega), fun z => ?_, fun z => ?_⟩
    · have z := (nI_ltI (by omega) (by omega)).mp z
      refine ih q J (by omega) (by omega) h14 (fun p hp hp14 => ?_) (fun p hp hpq => ?_) e13 e14 hsm
      · by_cases y : p = k
        · rw [y]; omega
        · exact h1 p (by omega) hp14
      · by_cases y : p = k
        · rw [y]; omega
        · exact h2 p (by omega) hpq
    · have z := (nI_leI (by omega) (by omega)).mp z
      refine ih k _ (by omega) (Nat.le_refl k) (by omega) (fun p hp hp14 => ?_) (fun p hp hpq => absurd hpq (by omega)) rfl rfl ((hsm.up rfl).up rfl)
      by_cases y : p = k
      · rw [y]; exact Nat.le_refl _
      · have := h1 p (by omega) hp14; omega
theorem sp_X_findParameter {P : mm_I → Prop} {E : Nat → Int32} {I : mm_I} {m G a b : Nat} {c : Nat → Int32} (hm : m ≤ 64) (hB : EB E m) (hG : G = Gm m) (hI : MgI E m G c I) (hab : a < b) (hb : b ≤ G)
    (H : ∀ J, J 11 13 = nI (par E m a b) → J 11 14 = nI (spb E m a b) → sm F_fp I J → P J) : mm_Mv 9 [.ref 11, .int (nI a), .int (nI b), .int (nI (sWs E m a (b - a)))] I P := by
  have hGm : Gm m = (m + 7) / 8 := rfl
  have e1 : nI a * (14 : Int32) = nI (14 * a) := by
    show nI a * nI 14 = _
    rw [pk_mul, Nat.mul_comm]
  have e2 : nI b * (14 : Int32) = nI (14 * b) := by
    show nI b * nI 14 = _
    rw [pk_mul, Nat.mul_comm]
  have sb : I 13 b = nI (stN m b) := hI.2.1 b hb (by omega)
  have sa : I 13 a = nI (stN m a) := hI.2.1 a (by omega) (by omega)
  have es : nI (stN m b) - nI (stN m a) = nI (sCs m a (b - a)) := by
    have l : stN m a ≤ stN m b := by
      unfold stN
      split <;> split <;> omega
    rw [pk_sub l, sCs_eq hab (by omega)]
    congr 1
    unfold stN rcn
    split <;> split <;> omega
  have qa := qGS_b (p := 0) hB a (show 8 * a ≤ m + 7 by omega)
  have qb := qGS_b (p := 0) hB b (show 8 * b ≤ m + 7 by omega)
  have i0b := hI.1 b 0 hb (by omega)
  have i0a := hI.1 a 0 (by omega) (by omega)
  rw [Nat.add_zero] at i0b i0a
  have sz := sZs_q (E := E) (m := m) (a := a) (b - a)
  rw [show a + (b - a) = b by omega] at sz
  have ceq : (I 15 (14 * b) = I 15 (14 * a)) ↔ qGS E m 0 b = qGS E m 0 a := by
    rw [i0b, i0a]
    constructor
    · intro z
      have z2 : nI (qGS E m 0 b) - nI (qGS E m 0 a) = 0 := by
        rw [← i_csub (c 0), z]
        exact Int32.sub_self _
      have q := qGS_m (E := E) (m := m) (p := 0) (a := a) (b - a)
      rw [show a + (b - a) = b by omega] at q
      rw [pk_sub q] at z2
      have := (nI_eq (b := 0) (by omega) (by omega)).mp z2
      omega
    · intro z
      rw [z]
  refine e_Cutter_findParameter _ _ _ ?_
  rw [e1, e2, nI_clamp (n := 14 * a) (by omega), nI_clamp (n := 14 * b) (by omega), nI_clamp (n := a) (by omega), nI_clamp (n := b) (by omega), sa, sb, es]
  refine ⟨vp_in_nI (by omega) (by omega), vp_in_nI (by omega) (by omega), fun z => ⟨vp_in_nI (by omega) (by omega), vp_in_nI (by omega) (by omega), ?_⟩, fun z => ?_⟩
  · have hz : sZs E m a (b - a) = 0 := sz.mpr (fun y => z (ceq.mpr y))
    have e14 : 12 + nI (sCs m a (b - a)) * nI (sWs E m a (b - a)) = nI (bbN E m a b 14) := by
      rw [pk_mul]
      show nI 12 + _ = _
      rw [nI_add]
      unfold bbN
      rw [if_neg (by omega), if_pos rfl, Nat.mul_comm]
    rw [e14]
    exact lX_fp78 hm hB hG hI hab hb hz H 14 14 _ (Nat.le_refl _) (Nat.le_refl _) (Nat.le_refl _) (fun p h1 h2 => by rw [show p = 14 by omega]; exact Nat.le_refl _) (fun p h1 h2 => by omega) rfl rfl ((sm.rf.up rfl).up rfl)
  · have p15 := par_15 (E := E) hab (show 8 * b ≤ m + 7 by omega) (fun y => (sz.mp y) (ceq.mp z))
    refine H _ ?_ ?_ ((sm.rf.up rfl).up rfl)
    · rw [p15.1]; rfl
    · rw [p15.2]; rfl
/-! one run by the mean -/
def CkI (ef : Nat) (E : Nat → Int32) (m : Nat) (I : mm_I) : Prop := ∀ k, k < rCnt ef E m → I 18 (rTo ef E m k).1 = nI ((rTo ef E m k).2 - (rTo ef E m k).1) ∧ I 19 (rTo ef E m k).1 = nI (rPa ef E m k) ∧ I 21 (rTo ef E m k).1 = nI (rBt ef E m k) ∧ (rPa ef E m k = 14 → I 20 (rTo ef E m k).1 = nI (wMx E (8 * (rTo ef E m k).1) (rcn m (rTo ef E m k).1 (rTo ef E m k).2)))
theorem lX_cn16 {P : Int32 → mm_I → Prop} {E : Nat → Int32} {I : mm_I} {m p : Nat} (hE : CtI E m I) (hB : EB E m) (hp : p < 14) (H : P (nI (7 + smB E p 0 m)) (mm_up (mm_up (mm_up I 18 0 (nI (Gm m))) 19 0 (nI p)) 21 0 (nI (7 + smB E p 0 m)))) : ∀ (r k : Nat), k + r = m → mm_W 4 16 [some (.ref 11), some (.int (nI p)), some (.int (nI (7 + smB E p 0 k))), some (.int (nI k))] [] I (mm_qi 4 P) := by
  have hm := hE.1
  intro r
  induction r with
  | zero =>
    intro k hk
    have hk : k = m := by omega
    subst hk
    refine c_Cutter_cutNowhere_16 _ _ _ ?_
    rw [hE.2.1, hE.2.2.1]
    exact ⟨fun _ => H, fun z => absurd z (nI_nlt (by omega) (by omega))⟩
  | succ r ih =>
    intro k hk
    have bb := hB k (by omega)
    have fl := fo_lt bb.1 bb.2
    refine c_Cutter_cutNowhere_16 _ _ _ ?_
    rw [hE.2.1, nI_clamp (n := k) (by omega), hE.2.2.2.2 k (by omega), nI_1]
    refine ⟨fun z => absurd z (nI_ge (by omega) (by omega)), fun _ => ⟨vp_in_nI (by omega) (by omega), sp_X_unsigned bb.1 bb.2 ?_⟩⟩
    have e : nI (7 + smB E p 0 k) + (nI (fo (E k)) >>> (nI p &&& 31) + 1 + nI p) = nI (7 + smB E p 0 (k + 1)) := by
      rw [shrp (by omega) (by omega), nI_1, nI_add, nI_add]
      congr 1
      show _ = 7 + (smB E p 0 k + (fo (E (0 + k)) / 2 ^ p + 1 + p))
      rw [Nat.zero_add, Nat.add_assoc]
    rw [e]
    exact ih (k + 1) (by omega)
theorem sp_X_cutNowhere {P : Int32 → mm_I → Prop} {E : Nat → Int32} {I : mm_I} {m : Nat} (hE : CtI E m I) (hB : EB E m) (h1 : 1 ≤ m) (H : ∀ J, CkI 0 E m J → CtI E m J → sm F_ct I J → P (nI (rBits 0 E m)) J) : mm_Mi 4 [.ref 11] I P := by
  have hm := hE.1
  have hGm : Gm m = (m + 7) / 8 := rfl
  have eB : rBits 0 E m = bbN E m 0 (Gm m) (mnP E m) := if_neg (by decide)
  have fin : ∀ v, v = bbN E m 0 (Gm m) (mnP E m) → P (nI v) (mm_up (mm_up (mm_up I 18 0 (nI (Gm m))) 19 0 (nI (mnP E m))) 21 0 (nI v)) := fun v hv => by
    have := H (mm_up (mm_up (mm_up I 18 0 (nI (Gm m))) 19 0 (nI (mnP E m))) 21 0 (nI v)) (fun k hk => ?_) ⟨hE.1, hE.2.1, hE.2.2.1, hE.2.2.2.1, hE.2.2.2.2⟩ (((sm.rf.up rfl).up rfl).up rfl)
    · rw [eB, ← hv] at this
      exact this
    · have k0 : k = 0 := by
        have : rCnt 0 E m = 1 := if_neg (by decide)
        omega
      subst k0
      have eT : rTo 0 E m = fun _ => (0, Gm m) := if_neg (by decide)
      have eP : rPa 0 E m 0 = mnP E m := if_neg (by decide)
      have eb : rBt 0 E m 0 = bbN E m 0 (Gm m) (mnP E m) := if_neg (by decide)
      rw [eT, eP, eb]
      refine ⟨?_, ?_, ?_, fun z => ?_⟩
      · show nI (Gm m) = nI (Gm m - 0)
        rw [Nat.sub_zero]
      · show nI (mnP E m) = _
        rfl
      · show nI v = _
        rw [hv]
      · rcases mnP_le E m with ⟨y, _⟩ | y <;> omega
  refine e_Cutter_cutNowhere (sp_X_pOM hE hB h1 ⟨fun z => ?_, fun z => ?_⟩)
  · have z15 : mnP E m = 15 := (nI_eq (b := 15) (by rcases mnP_le E m with ⟨y, _⟩ | y <;> omega) (by omega)).mp z
    have e7 : (7 : Nat) = bbN E m 0 (Gm m) (mnP E m) := by
      rcases mnP_le E m with ⟨y1, y2⟩ | y
      · rw [y1]
        unfold bbN
        rw [if_pos rfl, if_neg]
        rw [sZs_1 (Gm m - 0) (by omega) (szs_0 m y2)]
        omega
      · omega
    rw [hE.2.2.1]
    exact fin 7 e7
  · have z14 : mnP E m < 14 := by
      rcases mnP_le E m with ⟨y1, _⟩ | y
      · exact absurd (by rw [y1]; rfl) z
      · exact y
    refine lX_cn16 hE hB z14 (fin _ ?_) m 0 (by omega)
    unfold bbN
    rw [if_neg (by omega), if_neg (by omega), Nat.sub_zero, sBs_sm (Gm m) (by omega)]
    have c0 := sCs_eq (m := m) (a := 0) (b := Gm m) (by omega) (by omega)
    rw [Nat.sub_zero] at c0
    rw [c0]
    have : rcn m 0 (Gm m) = m := by
      unfold rcn
      rw [if_pos (by omega)]
      omega
    rw [this, Nat.mul_zero]
