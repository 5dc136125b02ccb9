/-! the class: groups measured, the parameter of a run -/
theorem i_m1 (x : Int32) : x + (-1) = x - 1 := by
  rw [Int32.sub_eq_add_neg]
theorem i_csub (c x y : Int32) : (c + x) - (c + y) = x - y := by
  apply Int32.toBitVec_inj.mp
  rw [Int32.toBitVec_sub, Int32.toBitVec_add, Int32.toBitVec_add, Int32.toBitVec_sub]
  bv_omega
theorem i_or {a b : Nat} (ha : a < 2147483648) (hb : b < 2147483648) : nI a ||| nI b = nI (a ||| b) := by
  apply Int32.toBitVec_inj.mp
  apply BitVec.eq_of_toNat_eq
  have hab : a ||| b < 2 ^ 31 := Nat.or_lt_two_pow (n := 31) ha hb
  have na : (nI a).toBitVec.toNat = a := Nat.mod_eq_of_lt (by omega)
  have nb : (nI b).toBitVec.toNat = b := Nat.mod_eq_of_lt (by omega)
  have nab : (nI (a ||| b)).toBitVec.toNat = a ||| b := Nat.mod_eq_of_lt (by omega)
  rw [Int32.toBitVec_or, BitVec.toNat_or, na, nb, nab]
theorem wo_or (a b : Nat) : wo (a ||| b) = if wo b ≤ wo a then wo a else wo b := by
  have la := wo_lt a
  have lb := wo_lt b
  have pa := wo_pos a
  have pb := wo_pos b
  have a1 : a ≤ a ||| b := Nat.left_le_or
  have b1 : b ≤ a ||| b := Nat.right_le_or
  have lab := wo_lt (a ||| b)
  have pab := wo_pos (a ||| b)
  have ua : wo a ≤ wo (a ||| b) := wo_le pab (by omega)
  have ub : wo b ≤ wo (a ||| b) := wo_le pab (by omega)
  have up : ∀ w, wo a ≤ w → wo b ≤ w → wo (a ||| b) ≤ w := fun w h1 h2 => by
    refine wo_le (by omega) (Nat.or_lt_two_pow ?_ ?_)
    · exact Nat.lt_of_lt_of_le la (Nat.pow_le_pow_right (by omega) h1)
    · exact Nat.lt_of_lt_of_le lb (Nat.pow_le_pow_right (by omega) h2)
  by_cases q : wo b ≤ wo a
  · rw [if_pos q]
    have := up (wo a) (Nat.le_refl _) q
    omega
  · rw [if_neg q]
    have := up (wo b) (by omega) (Nat.le_refl _)
    omega
def qGB (E : Nat → Int32) (g p : Nat) : Nat → Nat
  | 0 => 0
  | k + 1 => qGB E g p k + fo (E (8 * g + k)) / 2 ^ p
def qGS (E : Nat → Int32) (m p : Nat) : Nat → Nat
  | 0 => 0
  | g + 1 => qGS E m p g + qGB E g p (ig m g)
def stN (m g : Nat) : Nat := if m ≤ 8 * g then m else 8 * g
def MgI (E : Nat → Int32) (m G : Nat) (c : Nat → Int32) (I : mm_I) : Prop := (∀ g p, g ≤ G → p < 14 → I 15 (14 * g + p) = c p + nI (qGS E m p g)) ∧ (∀ g, g ≤ G → 0 < G → I 13 g = nI (stN m g)) ∧ ∀ g, g < G → I 14 g = nI (gWs E g (ig m g))
def F_mg (a _ : Nat) : Bool := Nat.beq a 13 || Nat.beq a 14 || Nat.beq a 15
theorem sm.mg {I J : mm_I} (f : sm F_mg I J) : sm F_ct I J := f.le (fun a j h => by
  refine mm_bf fun z => ?_
  simp only [F_mg, Bool.or_eq_true, mm_beq_iff] at z
  unfold F_ct at h
  rcases z with (z | z) | z <;> (rw [z] at h; cases h))
theorem CtI_mg {E : Nat → Int32} {m : Nat} {I J : mm_I} (h : CtI E m I) (f : sm F_mg I J) : CtI E m J := ⟨h.1, (f 11 1 rfl).trans h.2.1, (f 11 2 rfl).trans h.2.2.1, (f 11 3 rfl).trans h.2.2.2.1, fun i hi => (f 12 i rfl).trans (h.2.2.2.2 i hi)⟩
theorem lX_widthOf {P : Int32 → mm_I → Prop} {I : mm_I} {u : Nat} (hu : u < 16777216) (H : P (nI (wo u)) I) : ∀ (r w : Nat), w + r = wo u → 1 ≤ w → mm_W 8 2 [some (.int (nI u)), some (.int (nI w))] [] I (mm_qi 8 P) := by
  have w24 : wo u ≤ 24 := wo_le (by omega) (by show u < 2 ^ 24; omega)
  intro r
  induction r with
  | zero =>
    intro w hw h1
    have hw : w = wo u := by omega
    subst hw
    have l := wo_lt u
    refine c_Cutter_widthOf_2 _ _ ⟨fun _ => H, fun _ => ?_⟩
    rw [shrp (by omega) (by omega), Nat.div_eq_of_lt l]
    exact ⟨fun _ => H, fun z => absurd z (by decide)⟩
  | succ r ih =>
    intro w hw h1
    have g : 2 ^ w ≤ u := by
      rcases Nat.lt_or_ge u (2 ^ w) with z | z
      · have := wo_le h1 z
        omega
      · exact z
    have d : 0 < u / 2 ^ w := Nat.div_pos g (Nat.two_pow_pos w)
    have dl : u / 2 ^ w ≤ u := Nat.div_le_self _ _
    refine c_Cutter_widthOf_2 _ _ ⟨fun z => absurd z (nI_ge (b := 31) (by omega) (by omega)), fun _ => ?_⟩
    rw [shrp (by omega) (by omega), nI_1]
    exact ⟨fun z => absurd z (nI_nle d (by omega)), fun _ => ih (w + 1) (by omega) (by omega)⟩
theorem sp_X_widthOf {P : Int32 → mm_I → Prop} {I : mm_I} {u : Nat} (hu : u < 16777216) (H : P (nI (wo u)) I) : mm_Mi 8 [.int (nI u)] I P := by
  have := wo_pos u
  exact e_Cutter_widthOf _ (lX_widthOf hu H (wo u - 1) 1 (by omega) (Nat.le_refl 1))
/-- the quotients of the group in the making -/
def QgI (E : Nat → Int32) (m g k q : Nat) (c : Nat → Int32) (J : mm_I) : Prop := ∀ p, p < 14 → J 15 (14 * (g + 1) + p) = c p + nI (qGS E m p g + qGB E g p (if p < q then k + 1 else k))
/-- what stays while a group is measured -/
def MgK (E : Nat → Int32) (m g : Nat) (c : Nat → Int32) (J : mm_I) : Prop := (∀ g' p, g' ≤ g → p < 14 → J 15 (14 * g' + p) = c p + nI (qGS E m p g')) ∧ (∀ g', g' ≤ g + 1 → J 13 g' = nI (stN m g')) ∧ ∀ g', g' < g → J 14 g' = nI (gWs E g' (ig m g'))
theorem MgK_15 {E : Nat → Int32} {m g : Nat} {c : Nat → Int32} {J : mm_I} {i : Nat} {v : Int32} (h : MgK E m g c J) (hi : 14 * (g + 1) ≤ i) : MgK E m g c (mm_up J 15 i v) := by
  refine ⟨fun g' p hg hp => ?_, h.2.1, h.2.2⟩
  have : 14 * g' ≤ 14 * g := Nat.mul_le_mul_left 14 hg
  rw [up_a, if_neg (by omega)]
  exact h.1 g' p hg hp
theorem fo_div0 {u p q : Nat} (h : u / 2 ^ q = 0) (hp : q ≤ p) : u / 2 ^ p = 0 := by
  rw [Nat.div_eq_zero_iff] at h ⊢
  rcases h with h | h
  · have := Nat.two_pow_pos q; omega
  · exact Or.inr (Nat.lt_of_lt_of_le h (Nat.pow_le_pow_right (by omega) hp))
theorem lX_mg134 {P : mm_I → Prop} {E : Nat → Int32} {I : mm_I} {m g k : Nat} {c : Nat → Int32} {x4 : Int32} (hE : CtI E m I) (hB : EB E m) (hg : 8 * g + k < m)
    (H : ∀ J, QgI E m g (k + 1) 0 c J → MgK E m g c J → sm F_mg I J → mm_W 7 99 [some (.ref 11), some (.int (nI g)), none, some (.int (nI (14 * (g + 1)))), some (.int x4), some (.int (nI (8 * g + (k + 1)))), none, none] [] J (mm_qv 7 P)) : ∀ (r q : Nat) (J : mm_I), q + r = 14 → QgI E m g k q c J → MgK E m g c J → sm F_mg I J → mm_W 7 134 [some (.ref 11), some (.int (nI g)), none, some (.int (nI (14 * (g + 1)))), some (.int x4), some (.int (nI (8 * g + k))), some (.int (nI (fo (E (8 * g + k))))), some (.int (nI q))] [] J (mm_qv 7 P) := by
  have hm := hE.1
  have fl := fo_lt (hB (8 * g + k) hg).1 (hB (8 * g + k) hg).2
  have done : ∀ (q : Nat) (J : mm_I), (∀ p, q ≤ p → p < 14 → fo (E (8 * g + k)) / 2 ^ p = 0) → QgI E m g k q c J → QgI E m g (k + 1) 0 c J := fun q J h0 h p hp => by
    rw [h p hp, if_neg (Nat.not_lt_zero p)]
    by_cases z : p < q
    · rw [if_pos z]
    · rw [if_neg z]
      show _ = c p + nI (qGS E m p g + (qGB E g p k + fo (E (8 * g + k)) / 2 ^ p))
      rw [h0 p (by omega) hp, Nat.add_zero]
  intro r
  induction r with
  | zero =>
    intro q J hq hQ hK hsm
    have hq : q = 14 := by omega
    subst hq
    refine c_Cutter_measureGroups_134 _ _ _ _ _ _ ⟨fun _ => ?_, fun z => absurd z (by decide)⟩
    rw [nI_1]
    exact H J (done 14 J (fun p a b => by omega) hQ) hK hsm
  | succ r ih =>
    intro q J hq hQ hK hsm
    refine c_Cutter_measureGroups_134 _ _ _ _ _ _ ⟨fun z => absurd z (nI_ge (b := 14) (by omega) (by omega)), fun _ => ?_⟩
    rw [shrp (by omega) (by omega), nI_add, nI_clamp (n := 14 * (g + 1) + q) (by omega), nI_1, nI_1]
    have dl : fo (E (8 * g + k)) / 2 ^ q ≤ fo (E (8 * g + k)) := Nat.div_le_self _ _
    have v := vp_in_nI (n := 14 * (g + 1) + q) (N := 126) (by omega) (by omega)
    refine ⟨fun z => ?_, fun z => ⟨v, v, ?_⟩⟩
    · have z0 : fo (E (8 * g + k)) / 2 ^ q = 0 := by
        rcases Nat.eq_zero_or_pos (fo (E (8 * g + k)) / 2 ^ q) with y | y
        · exact y
        · exact absurd z (nI_nle y (by omega))
      exact H J (done q J (fun p a _ => fo_div0 z0 a) hQ) hK hsm
    · have e0 := hQ q (by omega)
      rw [if_neg (Nat.lt_irrefl q)] at e0
      rw [e0, Int32.add_assoc, nI_add, Nat.add_assoc]
      refine ih (q + 1) _ (by omega) (fun p hp => ?_) (MgK_15 hK (by omega)) (hsm.up rfl)
      rw [up_a]
      by_cases y : p = q
      · rw [if_pos (by omega), y, if_pos (by omega)]
        rfl
      · rw [if_neg (by omega), hQ p hp]
        by_cases w : p < q
        · rw [if_pos w, if_pos (by omega)]
        · rw [if_neg w, if_neg (by omega)]
theorem stN_ig {m g : Nat} (h : 8 * g < m) : stN m (g + 1) = 8 * g + ig m g ∧ ig m g ≤ 8 ∧ 1 ≤ ig m g := by
  unfold stN ig
  split <;> split <;> omega
theorem lX_mg99 {P : mm_I → Prop} {E : Nat → Int32} {I : mm_I} {m g : Nat} {c : Nat → Int32} (hE : CtI E m I) (hB : EB E m) (hg : 8 * g < m)
    (H : ∀ J, MgI E m (g + 1) c J → sm F_mg I J → mm_W 7 2 [some (.ref 11), some (.int (nI (g + 1))), none, none, none, none, none, none] [] J (mm_qv 7 P)) : ∀ (r k u : Nat) (J : mm_I), k + r = ig m g → u < 16777216 → wo u = gWs E g k → QgI E m g k 0 c J → MgK E m g c J → sm F_mg I J → mm_W 7 99 [some (.ref 11), some (.int (nI g)), none, some (.int (nI (14 * (g + 1)))), some (.int (nI u)), some (.int (nI (8 * g + k))), none, none] [] J (mm_qv 7 P) := by
  have hm := hE.1
  have si := stN_ig hg
  have im : 8 * g + ig m g ≤ m := ig_m (by omega)
  intro r
  induction r with
  | zero =>
    intro k u J hk hu hw hQ hK hsm
    have hk : k = ig m g := by omega
    subst hk
    refine c_Cutter_measureGroups_99 _ _ _ _ ?_
    rw [nI_1, nI_clamp (n := g + 1) (by omega), hK.2.1 (g + 1) (Nat.le_refl _), si.1]
    refine ⟨vp_in_nI (by omega) (by omega), fun _ => sp_X_widthOf hu ⟨vp_in_nI (by omega) (by omega), ?_⟩, fun z => absurd z (nI_nlt (by omega) (by omega))⟩
    rw [hw, nI_clamp (n := g) (by omega)]
    refine H _ ⟨fun g' p h1 hp => ?_, fun g' h1 _ => hK.2.1 g' h1, fun g' h1 => ?_⟩ (hsm.up rfl)
    · rw [up_o (by decide)]
      by_cases y : g' = g + 1
      · rw [y, hQ p hp, if_neg (Nat.not_lt_zero p)]
        rfl
      · exact hK.1 g' p (by omega) hp
    · rw [up_a]
      by_cases y : g' = g
      · rw [if_pos y, y]
      · rw [if_neg y]
        exact hK.2.2 g' (by omega)
  | succ r ih =>
    intro k u J hk hu hw hQ hK hsm
    have C := CtI_mg hE hsm
    have bb := hB (8 * g + k) (by omega)
    have fl := fo_lt bb.1 bb.2
    refine c_Cutter_measureGroups_99 _ _ _ _ ?_
    rw [nI_1, nI_clamp (n := g + 1) (by omega), hK.2.1 (g + 1) (Nat.le_refl _), si.1, nI_clamp (n := 8 * g + k) (by omega), C.2.2.2.2 _ (by omega)]
    refine ⟨vp_in_nI (by omega) (by omega), fun z => absurd z (nI_ge (by omega) (by omega)), fun _ => ⟨vp_in_nI (by omega) (by omega), sp_X_unsigned bb.1 bb.2 ?_⟩⟩
    rw [i_or (by omega) (by omega)]
    have uo : u ||| fo (E (8 * g + k)) < 2 ^ 24 := Nat.or_lt_two_pow (n := 24) hu fl
    refine lX_mg134 hE hB (by omega) (fun J2 a1 a2 a3 => ih (k + 1) _ J2 (by omega) uo ?_ a1 a2 a3) 14 0 J (by omega) hQ hK hsm
    rw [wo_or, hw]
    rfl
theorem lX_mg23 {P : mm_I → Prop} {E : Nat → Int32} {I : mm_I} {m g : Nat} {c : Nat → Int32} (hE : CtI E m I) (hB : EB E m) (hg : 8 * g < m) (hI : MgI E m g c I) 
    (H : ∀ J, MgI E m (g + 1) c J → sm F_mg I J → mm_W 7 2 [some (.ref 11), some (.int (nI (g + 1))), none, none, none, none, none, none] [] J (mm_qv 7 P)) : ∀ (r k : Nat) (J : mm_I), k + r = 14 → (∀ p, p < k → J 15 (14 * (g + 1) + p) = c p + nI (qGS E m p g)) → (∀ g' p, g' ≤ g → p < 14 → J 15 (14 * g' + p) = c p + nI (qGS E m p g')) → (∀ a, a ≠ 15 → J a = I a) → mm_W 7 23 [some (.ref 11), some (.int (nI g)), some (.int (nI (14 * g))), some (.int (nI (14 * (g + 1)))), some (.int (nI k)), none, none, none] [] J (mm_qv 7 P) := by
  have hm := hE.1
  intro r
  induction r with
  | zero =>
    intro k J hk h1 h2 h3
    have hk : k = 14 := by omega
    subst hk
    have f11 := h3 11 (by decide)
    have f12 := h3 12 (by decide)
    have f13 := h3 13 (by decide)
    have f14 := h3 14 (by decide)
    have e8 : nI g * (8 : Int32) = nI (8 * g) := by
      show nI g * nI 8 = _
      rw [pk_mul, Nat.mul_comm]
    have e88 : nI (8 * g) + 8 = nI (8 * g + 8) := nI_add _ 8
    have vg := vp_in_nI (n := g) (N := 9) (by omega) (by omega)
    refine c_Cutter_measureGroups_23 _ _ _ _ ⟨fun _ => ⟨vg, vg, ?_⟩, fun z => absurd z (by decide)⟩
    rw [e8, nI_clamp (n := g) (by omega), up_a, if_pos rfl, e88, nI_1, nI_clamp (n := g + 1) (by omega)]
    refine e_Math_min _ _ ⟨vp_in_nI (by omega) (by omega), vg, ?_⟩
    have es : (if nI (8 * g + 8) < J 11 1 then (nI (8 * g + 8) : Int32) else J 11 1) = nI (stN m (g + 1)) := by
      rw [f11, hE.2.1]
      unfold stN
      by_cases q : m ≤ 8 * (g + 1)
      · rw [if_pos q, if_neg (nI_nlt (by omega) (by omega))]
      · rw [if_neg q, if_pos (nI_lt (by omega) (by omega))]
        congr 1
    rw [es]
    have e13 : (mm_up (mm_up J 13 g (nI (8 * g))) 13 (g + 1) (nI (stN m (g + 1)))) 13 g = nI (8 * g) := by
      rw [up_a, if_neg (by omega), up_a, if_pos rfl]
    rw [e13]
    have fs : sm F_mg I (mm_up (mm_up J 13 g (nI (8 * g))) 13 (g + 1) (nI (stN m (g + 1)))) := by
      have f0 : sm F_mg I J := fun a j h => by
        by_cases z : a = 15
        · subst z; cases h
        · rw [h3 a z]
      exact (f0.up rfl).up rfl
    refine lX_mg99 hE hB hg (fun J2 a1 a2 => H J2 a1 a2) (ig m g) 0 0 _ (by omega) (by omega) rfl (fun p hp => ?_) ⟨fun g' p hg' hp => ?_, fun g' hg' => ?_, fun g' hg' => ?_⟩ fs
    · rw [up_o (by decide), up_o (by decide), h1 p hp, if_neg (Nat.not_lt_zero p)]
      rfl
    · rw [up_o (by decide), up_o (by decide)]
      exact h2 g' p hg' hp
    · rw [up_a, up_a]
      by_cases y : g' = g + 1
      · rw [if_pos y, y]
      · rw [if_neg y]
        by_cases y2 : g' = g
        · rw [if_pos y2, y2]
          unfold stN
          rw [if_neg (by omega)]
        · rw [if_neg y2, f13]
          exact hI.2.1 g' (by omega) (by omega)
    · rw [up_o (by decide), up_o (by decide), f14]
      exact hI.2.2 g' hg'
  | succ r ih =>
    intro k J hk h1 h2 h3
    refine c_Cutter_measureGroups_23 _ _ _ _ ⟨fun z => absurd z (nI_ge (b := 14) (by omega) (by omega)), fun _ => ?_⟩
    rw [nI_add, nI_add, nI_1, nI_clamp (n := 14 * g + k) (by omega), nI_clamp (n := 14 * (g + 1) + k) (by omega), h2 g k (Nat.le_refl g) (by omega)]
    refine ⟨vp_in_nI (by omega) (by omega), vp_in_nI (by omega) (by omega), ih (k + 1) _ (by omega) (fun p hp => ?_) (fun g' p hg' hp => ?_) (fun a ha => by rw [up_o ha]; exact h3 a ha)⟩
    · rw [up_a]
      by_cases y : p = k
      · rw [y, if_pos rfl]
      · rw [if_neg (by omega)]
        exact h1 p (by omega)
    · have : 14 * g' ≤ 14 * g := Nat.mul_le_mul_left 14 hg'
      rw [up_a, if_neg (by omega)]
      exact h2 g' p hg' hp
theorem MgI_mg {E : Nat → Int32} {m G : Nat} {c : Nat → Int32} {I J : mm_I} {F : Nat → Nat → Bool} (h : MgI E m G c I) (f : sm F I J) (h1 : ∀ j, F 13 j = false) (h2 : ∀ j, F 14 j = false) (h3 : ∀ j, F 15 j = false) : MgI E m G c J := ⟨fun g p a b => (f 15 _ (h3 _)).trans (h.1 g p a b), fun g a b => (f 13 g (h1 g)).trans (h.2.1 g a b), fun g a => (f 14 g (h2 g)).trans (h.2.2 g a)⟩
theorem lX_mg2 {P : mm_I → Prop} {E : Nat → Int32} {I : mm_I} {m : Nat} {c : Nat → Int32} (hE : CtI E m I) (hB : EB E m) (H : ∀ J, MgI E m (Gm m) c J → sm F_mg I J → P J) : ∀ (r g : Nat) (J : mm_I), g + r = Gm m → MgI E m g c J → sm F_mg I J → mm_W 7 2 [some (.ref 11), some (.int (nI g)), none, none, none, none, none, none] [] J (mm_qv 7 P) := by
  have hm := hE.1
  have hG : Gm m = (m + 7) / 8 := rfl
  intro r
  induction r with
  | zero =>
    intro g J hg hI hsm
    have hg : g = Gm m := by omega
    subst hg
    have C := CtI_mg hE hsm
    refine c_Cutter_measureGroups_2 _ ⟨fun _ => H J hI hsm, fun z => ?_⟩
    rw [C.2.2.1] at z
    exact absurd z (nI_nlt (by omega) (by omega))
  | succ r ih =>
    intro g J hg hI hsm
    have C := CtI_mg hE hsm
    have e1 : nI g * (14 : Int32) = nI (14 * g) := by
      show nI g * nI 14 = _
      rw [pk_mul, Nat.mul_comm]
    have e2 : nI (14 * g) + 14 = nI (14 * (g + 1)) := nI_add _ 14
    refine c_Cutter_measureGroups_2 _ ⟨fun z => ?_, fun _ => ?_⟩
    · rw [C.2.2.1] at z
      exact absurd z (nI_ge (by omega) (by omega))
    · rw [e1, e2]
      exact lX_mg23 C hB (by omega) hI (fun J2 a1 a2 => ih (g + 1) J2 (by omega) a1 (sm.tq hsm a2)) 14 0 J (by omega) (fun p hp => absurd hp (Nat.not_lt_zero p)) hI.1 (fun _ _ => rfl)
theorem sp_X_measureGroups {P : mm_I → Prop} {E : Nat → Int32} {I : mm_I} {m : Nat} (hE : CtI E m I) (hB : EB E m) (H : ∀ c J, MgI E m (Gm m) c J → sm F_mg I J → P J) : mm_Mv 7 [.ref 11] I P := by
  refine e_Cutter_measureGroups (lX_mg2 (c := fun p => I 15 p) hE hB (fun J a1 a2 => H _ J a1 a2) (Gm m) 0 I (by omega) ⟨fun g p hg hp => ?_, fun g _ h => absurd h (Nat.lt_irrefl 0), fun g h => absurd h (Nat.not_lt_zero g)⟩ sm.rf)
  have : g = 0 := by omega
  subst this
  show I 15 (14 * 0 + p) = I 15 p + nI 0
  rw [show 14 * 0 + p = p by omega]
  exact (Int32.add_zero _).symm
