/-! the class: guesses, residuals, the mean -/
theorem shr0 (v : Int32) : v >>> ((0 : Int32) &&& 31) = v := by
  apply tI_ext
  rw [pk_shr v ((0 : Int32) &&& 31) 0 (by decide +kernel)]
  exact Int.shiftRight_zero _
abbrev gsX (dd vv : Nat) : Prop := (dd = 6 ∧ vv = 23) ∨ (dd = 6 ∧ vv = 29) ∨ (dd = 6 ∧ vv = 35) ∨ (dd = 6 ∧ vv = 41) ∨ (dd = 49 ∧ vv = 53) ∨ (dd = 49 ∧ vv = 54)
theorem RXq_w {d : Nat} {w s : Nat → Int32} {I : mm_I} {p k : Nat} (h : RXq d w s I) (hp : p < 8) (hk : k < o_od w p) : I (d + 1) (4 * p + k) = o_wk w p k := by
  have o4 := o_od_le w p
  unfold o_wk
  by_cases q : p < 5
  · rw [if_pos q]
    exact h.1 p k q (by omega)
  · rw [if_neg q]
    have o3 := o_od_3 w q
    have := h.2.1 (p - 5) k (by omega) (by omega)
    rw [show 4 * (5 + (p - 5)) + k = 4 * p + k by omega] at this
    exact this
theorem lX_guess {P : Int32 → mm_I → Prop} {I : mm_I} {dd vv : Nat} {w s x : Nat → Int32} {i p : Nat} (hs0 : gsX dd vv) (hp : p < 8) (ho : o_od w p ≤ i) (hi : i ≤ 64) (hq : RXq dd w s I) (hx : ∀ j, j < i → I vv j = x j) (H : P (o_gu w s x i p) I) : ∀ (r k : Nat), k + r = o_od w p → mm_W 22 14 [some (.ref dd), some (.int (nI p)), some (.ref vv), some (.int (nI i)), some (.int (o_gs w x i p k)), some (.int (nI (o_od w p))), some (.int (nI (k + 1)))] [] I (mm_qi 22 P) := by
  have o4 := o_od_le w p
  intro r
  induction r with
  | zero =>
    intro k hk
    have hk : k = o_od w p := by omega
    subst hk
    refine c_Pred_guess_14 hs0 _ _ _ _ _ ⟨fun _ => ⟨vp_in_nI (by omega) (by omega), ?_⟩, fun z => absurd z (nI_ge (by omega) (by omega))⟩
    rw [nI_clamp (n := p) (by omega), hq.2.2.2 p hp]
    unfold o_gu at H
    unfold o_sf
    by_cases q : p < 5
    · rw [if_pos q] at H ⊢
      rw [shr0]
      exact H
    · rw [if_neg q] at H ⊢
      exact H
  | succ r ih =>
    intro k hk
    have e4 : nI p * (4 : Int32) + nI (k + 1) - 1 = nI (4 * p + k) := by
      show nI p * nI 4 + _ - 1 = _
      rw [pk_mul, nI_add, Nat.mul_comm]
      exact pk_sub (a := 4 * p + (k + 1)) (b := 1) (by omega)
    have ei : nI i - nI (k + 1) = nI (i - 1 - k) := by
      rw [pk_sub (by omega), show i - (k + 1) = i - 1 - k by omega]
    refine c_Pred_guess_14 hs0 _ _ _ _ _ ⟨fun z => absurd z (nI_nlt (by omega) (by omega)), fun _ => ⟨fun z => absurd z (nI_nlt (by omega) (by omega)), fun _ => ?_⟩⟩
    rw [e4, ei, nI_clamp (n := 4 * p + k) (by omega), nI_clamp (n := i - 1 - k) (by omega), RXq_w hq hp (by omega), hx _ (by omega), nI_1]
    exact ⟨vp_in_nI (by omega) (by omega), vp_in_nI (by omega) (by omega), ih (k + 1) (by omega)⟩
theorem sp_X_guess {P : Int32 → mm_I → Prop} {I : mm_I} {dd vv : Nat} {w s x : Nat → Int32} {i p : Nat} (hs0 : gsX dd vv) (hp : p < 8) (ho : o_od w p ≤ i) (hi : i ≤ 64) (hq : RXq dd w s I) (hx : ∀ j, j < i → I vv j = x j) (H : P (o_gu w s x i p) I) : mm_Mi 22 [.ref dd, .int (nI p), .ref vv, .int (nI i)] I P := by
  refine e_Pred_guess hs0 _ _ ⟨vp_in_nI (by omega) (by omega), ?_⟩
  rw [nI_clamp (n := p) (by omega), hq.2.2.1 p hp]
  exact lX_guess hs0 hp ho hi hq hx H (o_od w p) 0 (by omega)
abbrev rwX (rr : Nat) : Prop := rr = 22 ∨ rr = 28 ∨ rr = 34 ∨ rr = 40
theorem rwX_g {rr : Nat} (h : rwX rr) : gsX 6 (rr + 1) := by
  rcases h with rfl | rfl | rfl | rfl
  · exact Or.inl ⟨rfl, rfl⟩
  · exact Or.inr (Or.inl ⟨rfl, rfl⟩)
  · exact Or.inr (Or.inr (Or.inl ⟨rfl, rfl⟩))
  · exact Or.inr (Or.inr (Or.inr (Or.inl ⟨rfl, rfl⟩)))
/-- a row of the class -/
def RwX (rr : Nat) (x : Nat → Int32) (n b : Nat) (I : mm_I) : Prop := n ≤ 64 ∧ I rr 1 = nI n ∧ I rr 2 = nI b ∧ ∀ i, i < n → I (rr + 1) i = x i
/-- the cutter of the class -/
def CtI (E : Nat → Int32) (m : Nat) (I : mm_I) : Prop := m ≤ 64 ∧ I 11 1 = nI m ∧ I 11 2 = nI (Gm m) ∧ I 11 3 = nI (szs E m) ∧ ∀ i, i < m → I 12 i = E i
/-- the cutter's cells -/
def F_ct (a _ : Nat) : Bool := Nat.ble 11 a && Nat.ble a 21
theorem F_ct_f {a j : Nat} (h : a < 11 ∨ 21 < a) : F_ct a j = false := by
  unfold F_ct
  rcases h with z | z
  · rw [show Nat.ble 11 a = false from mm_bf fun k => by have := Nat.le_of_ble_eq_true k; omega]; rfl
  · rw [show Nat.ble a 21 = false from mm_bf fun k => by have := Nat.le_of_ble_eq_true k; omega, Bool.and_false]
theorem RwX_ct {rr : Nat} {x : Nat → Int32} {n b : Nat} {I J : mm_I} (h : RwX rr x n b I) (hr : rwX rr) (f : sm F_ct I J) : RwX rr x n b J := by
  have g : 21 < rr := by omega
  exact ⟨h.1, (f rr 1 (F_ct_f (Or.inr g))).trans h.2.1, (f rr 2 (F_ct_f (Or.inr g))).trans h.2.2.1, fun i hi => (f (rr + 1) i (F_ct_f (Or.inr (by omega)))).trans (h.2.2.2 i hi)⟩
theorem RXq_ct {w s : Nat → Int32} {I J : mm_I} (h : RXq 6 w s I) (f : sm F_ct I J) : RXq 6 w s J :=
  ⟨fun p j hp hj => (f 7 _ rfl).trans (h.1 p j hp hj), fun q j hq hj => (f 7 _ rfl).trans (h.2.1 q j hq hj), fun p hp => (f 8 p rfl).trans (h.2.2.1 p hp), fun p hp => (f 9 p rfl).trans (h.2.2.2 p hp)⟩
theorem lX_load {P : mm_I → Prop} {w s x : Nat → Int32} {I : mm_I} {rr n b p : Nat} (hr : rwX rr) (hp : p < 8) (hq : RXq 6 w s I) (hx : RwX rr x n b I) (ho : o_od w p ≤ n) (hB : EB (o_er w s x p) (n - o_od w p)) (H : ∀ J, CtI (o_er w s x p) (n - o_od w p) J → sm F_ct I J → P J) : ∀ (r k : Nat) (J : mm_I), k + r = n - o_od w p → J 11 1 = nI k → J 11 3 = nI (szs (o_er w s x p) k) → (∀ i, i < k → J 12 i = o_er w s x p i) → sm F_ct I J → mm_W 2 18 [some (.ref 11), some (.ref rr), some (.ref 6), some (.int (nI p)), some (.int (nI (o_od w p + k))), none] [] J (mm_qv 2 P) := by
  have hn := hx.1
  intro r
  induction r with
  | zero =>
    intro k J hk h1 h3 h12 hsm
    have X := RwX_ct hx hr hsm
    refine c_Cutter_load_18 hr _ _ ⟨fun _ => ?_, fun z => ?_⟩
    · have hk : k = n - o_od w p := by omega
      subst hk
      have e : (J 11 1 + 8 - 1) / 8 = nI (Gm (n - o_od w p)) := by
        rw [h1]
        have e1 : nI (n - o_od w p) + 8 - 1 = nI (n - o_od w p + 7) := by
          have : nI (n - o_od w p) + 8 = nI (n - o_od w p + 8) := nI_add _ 8
          rw [this]
          exact pk_sub (a := n - o_od w p + 8) (b := 1) (by omega)
        rw [e1]
        exact pk_div (d := 8) (by omega) (by omega) (by omega)
      rw [e]
      exact H _ ⟨by omega, h1, rfl, h3, h12⟩ (hsm.up rfl)
    · rw [X.2.1] at z
      exact absurd z (nI_nlt (by omega) (by omega))
  | succ r ih =>
    intro k J hk h1 h3 h12 hsm
    have X := RwX_ct hx hr hsm
    refine c_Cutter_load_18 hr _ _ ⟨fun z => ?_, fun _ => ⟨vp_in_nI (by omega) (by omega), ?_⟩⟩
    · rw [X.2.1] at z
      exact absurd z (nI_ge (by omega) (by omega))
    · refine sp_X_guess (rwX_g hr) hp (by omega) (by omega) (RXq_ct hq hsm) (fun j hj => X.2.2.2 j (by omega)) ?_
      rw [h1, nI_clamp (n := k) (by omega), nI_clamp (n := o_od w p + k) (by omega), X.2.2.2 _ (by omega), nI_1, nI_1, h3]
      have eE : x (o_od w p + k) - o_gu w s x (o_od w p + k) p = o_er w s x p k := rfl
      rw [eE, abs_I (hB k (by omega)).1, nI_add]
      refine ⟨vp_in_nI (by omega) (by omega), ih (k + 1) _ (by omega) rfl rfl (fun i hi => ?_) (((hsm.up rfl).up rfl).up rfl)⟩
      rw [up_o (by decide), up_o (by decide), up_a]
      by_cases q : i = k
      · rw [if_pos q, q]
      · rw [if_neg q]
        exact h12 i (by omega)
theorem sp_X_load {P : mm_I → Prop} {w s x : Nat → Int32} {I : mm_I} {rr n b p : Nat} (hr : rwX rr) (hp : p < 8) (hq : RXq 6 w s I) (hx : RwX rr x n b I) (ho : o_od w p ≤ n) (hB : EB (o_er w s x p) (n - o_od w p)) (H : ∀ J, CtI (o_er w s x p) (n - o_od w p) J → sm F_ct I J → P J) : mm_Mv 2 [.ref 11, .ref rr, .ref 6, .int (nI p)] I P := by
  refine e_Cutter_load hr _ ⟨vp_in_nI (by omega) (by omega), ?_⟩
  rw [nI_clamp (n := p) (by omega), hq.2.2.1 p hp]
  exact lX_load hr hp hq hx ho hB H (n - o_od w p) 0 _ (by omega) rfl rfl (fun i hi => absurd hi (Nat.not_lt_zero i)) ((sm.rf.up rfl).up rfl)
/-! the mean -/
theorem cmpI (a b : Int) : (compare a b = .gt ↔ b < a) ∧ (compare a b = .lt ↔ a < b) := by
  show (compareOfLessAndEq a b = .gt ↔ b < a) ∧ (compareOfLessAndEq a b = .lt ↔ a < b)
  unfold compareOfLessAndEq
  by_cases h1 : a < b
  · rw [if_pos h1]
    exact ⟨⟨fun z => (by cases z), fun z => by omega⟩, ⟨fun _ => h1, fun _ => rfl⟩⟩
  · rw [if_neg h1]
    by_cases h2 : a = b
    · rw [if_pos h2]
      exact ⟨⟨fun z => (by cases z), fun z => by omega⟩, ⟨fun z => (by cases z), fun z => by omega⟩⟩
    · rw [if_neg h2]
      exact ⟨⟨fun _ => by omega, fun _ => rfl⟩, ⟨fun z => (by cases z), fun z => by omega⟩⟩
theorem cmpV_g (o : Ordering) : (0 < Op.cmpValue (some o) .g ↔ o = .gt) ∧ (Op.cmpValue (some o) .l < 0 ↔ o = .lt) := by
  cases o <;> decide
theorem ord_fl {a b : FP.Core.Datum} (ha : pD a) (hb : pD b) : (0 < Op.cmpValue (FP.Core.order a b) .g) ↔ (Op.cmpValue (FP.Core.order b a) .l < 0) := by
  rcases ha with rfl | ⟨c, q, rfl⟩ <;> rcases hb with rfl | ⟨d, r, rfl⟩
  · decide
  · have e1 : FP.Core.order (.inf false) (.fin false d r) = some .gt := rfl
    have e2 : FP.Core.order (.fin false d r) (.inf false) = some .lt := rfl
    rw [e1, e2]
    decide
  · have e1 : FP.Core.order (.inf false) (.fin false c q) = some .gt := rfl
    have e2 : FP.Core.order (.fin false c q) (.inf false) = some .lt := rfl
    rw [e1, e2]
    decide
  · unfold FP.Core.order
    rw [(cmpV_g _).1, (cmpV_g _).2, (cmpI _ _).1, (cmpI _ _).2, Int.min_comm r q]
theorem pwF_p {k : Nat} (h : k < 14) : pD (FP.Core.val32 (pwF k)) := by
  have : ∀ k : Fin 14, nzD (FP.Core.val32 (pwF k.val)) = true := by decide +kernel
  have := this ⟨k, h⟩
  simp only at this
  generalize FP.Core.val32 (pwF k) = d at this ⊢
  match d, this with
  | .fin false (c + 1) q, _ => exact Or.inr ⟨_, _, rfl⟩
theorem cmp_fl {v : UInt32} {k : Nat} (hv : pD (FP.Core.val32 v)) (hk : k < 14) : (0 < Op.cmpValue (FP.fcmp (pwF k) v) .g) ↔ (Op.cmpValue (FP.fcmp v (pwF k)) .l < 0) := ord_fl (pwF_p hk) hv
theorem sp_X_meanSize {P : UInt32 → mm_I → Prop} {E : Nat → Int32} {I : mm_I} {m : Nat} (hE : CtI E m I) (hB : EB E m) (h1 : 1 ≤ m) (H : P (mnF E m) I) : mm_Mf 3 [.ref 11] I P := by
  have hm := hE.1
  refine e_Cutter_meanSize ?_
  rw [hE.2.1, hE.2.2.2.1]
  exact ⟨fun z => absurd z (nI_nle (by omega) (by omega)), fun _ => ⟨vf32_of (mnF_p hB h1 hm), H⟩⟩
theorem lX_pOM {P : Int32 → mm_I → Prop} {I : mm_I} {v : UInt32} (hv : pD (FP.Core.val32 v)) (H : P (nI (byM v 13 0)) I) : ∀ (r k : Nat), k + r = 13 → byM v r k = byM v 13 0 → mm_W 5 19 [none, some (.float v), some (.int (nI k)), some (.float (pwF k))] [] I (mm_qi 5 P) := by
  intro r
  induction r with
  | zero =>
    intro k hk hb
    have hb : k = byM v 13 0 := hb
    refine c_Cutter_parameterOfMean_19 _ _ _ ⟨fun _ => ?_, fun z => absurd z (nI_nlt (b := 13) (by omega) (by omega))⟩
    rw [hb]
    exact H
  | succ r ih =>
    intro k hk hb
    have e : byM v (r + 1) k = if (Op.cmpValue (FP.fcmp v (pwF k)) .l) < 0 then k else byM v r (k + 1) := rfl
    have fl := cmp_fl hv (show k < 14 by omega)
    refine c_Cutter_parameterOfMean_19 _ _ _ ⟨fun z => absurd z (nI_ge (b := 13) (by omega) (by omega)), fun _ => ⟨fun z => ?_, fun z => ?_⟩⟩
    · rw [if_pos (fl.mp z)] at e
      rw [show k = byM v 13 0 from e.symm.trans hb]
      exact H
    · have nl : ¬ (Op.cmpValue (FP.fcmp v (pwF k)) .l) < 0 := fun y => absurd (fl.mpr y) (fa_nlt z)
      rw [if_neg nl] at e
      rw [nI_1]
      exact ⟨pwF_n (by omega), ih (k + 1) (by omega) (e.symm.trans hb)⟩
theorem sp_X_pOM {P : Int32 → mm_I → Prop} {E : Nat → Int32} {I : mm_I} {m : Nat} (hE : CtI E m I) (hB : EB E m) (h1 : 1 ≤ m) (H : P (nI (mnP E m)) I) : mm_Mi 5 [.ref 11] I P := by
  have hm := hE.1
  have sb := szs_b hB m (Nat.le_refl m)
  refine e_Cutter_parameterOfMean ?_
  rw [hE.2.2.2.1]
  unfold mnP at H
  refine ⟨fun z => ?_, fun z => ?_⟩
  · have z0 : ¬ szs E m = 0 := fun y => z (by rw [y]; rfl)
    rw [if_neg z0] at H
    exact sp_X_meanSize hE hB h1 (lX_pOM (mnF_p hB h1 hm) H 13 0 (by omega) rfl)
  · have z0 : szs E m = 0 := (nI_eq (b := 0) (by omega) (by omega)).mp z
    rw [if_pos z0] at H
    exact H
theorem sp_X_unsigned {P : Int32 → mm_I → Prop} {I : mm_I} {v : Int32} (h1 : -8388608 ≤ v.toInt) (h2 : v.toInt < 8388608) (H : P (nI (fo v)) I) : mm_Mi 1 [.int v] I P := by
  refine e_Cutter_unsigned v ?_
  rw [fo_eq h1 h2]
  exact H
