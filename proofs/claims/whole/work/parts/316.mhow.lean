/-! which predictor, how a row is -/
theorem setI {set p : Nat} (hs : set < 256) (hp : p < 8) : ((nI set >>> (nI p &&& 31)) &&& 1) = nI (set / 2 ^ p % 2) := by
  rw [shrp (by omega) (by omega)]
  have hd := Nat.div_le_self set (2 ^ p)
  exact pk_andN (by omega) 1 rfl
theorem PWI_sm {w s : Nat → Int32} {ef : Nat} {I J : mm_I} {F : Nat → Nat → Bool} (h : PWI w s ef I) (f : sm F I J) (h1 : ∀ j, F 62 j = false) (h2 : ∀ j, F 63 j = false) (h3 : F 58 7 = false) : PWI w s ef J :=
  ⟨fun j hj => (f 62 j (h1 j)).trans (h.1 j hj), fun j hj => (f 63 j (h2 j)).trans (h.2.1 j hj), (f 58 7 h3).trans h.2.2.1, h.2.2.2⟩
theorem RwI_sm {x : Nat → Int32} {n b : Nat} {I J : mm_I} {F : Nat → Nat → Bool} (h : RwI x n b I) (f : sm F I J) (h1 : F 58 18 = false) (h2 : F 58 19 = false) (h3 : ∀ j, F 67 j = false) : RwI x n b J :=
  ⟨h.1, (f _ _ h1).trans h.2.1, (f _ _ h2).trans h.2.2.1, fun i hi => (f 67 i (h3 i)).trans (h.2.2.2 i hi)⟩
theorem sm.cs {I J : mm_I} (f : sm F_er I J) : sm F_cs I J := f.le (fun a j h => (F_cs_er h).1)
/-- one predictor measured -/
theorem mea_M {Q : Int32 → mm_I → Prop} {w s x : Nat → Int32} {I : mm_I} {n b ef p : Nat} (hW : PWI w s ef I) (hw : WB w s) (hX : RwI x n b I) (hx : XB x n) (hp : p < 8) (ho : o_od w p < n)
    (H : ∀ J, sm F_cs I J → Q (nI (mea w s x n b ef p)) J) :
    (¬ I 58 7 = 1 → mm_Mv 151 [.ref 58, .int (nI p)] I (fun I64 => mm_Mi 162 [.ref 58] I64 Q)) ∧ (I 58 7 = 1 → mm_Mi 165 [.ref 58, .int (nI p)] I Q) := by
  rw [hW.2.2.1]
  have h1 := hW.2.2.2
  refine ⟨fun z => ?_, fun z => ?_⟩
  · have q : ¬ ef = 1 := fun y => z (by rw [y]; rfl)
    refine sp_M_laysErrors hp hW.1 hW.2.1 hX (by omega) (fun J1 a1 a2 => sp_M_sizes a1 (er_b hw hx hp (by omega)) ?_)
    have := H J1 a2.cs
    unfold mea at this
    rw [if_neg q] at this
    exact this
  · have q : ef = 1 := (nI_eq (b := 1) (by omega) (by omega)).mp z
    refine sp_M_costs hW hw hX hx hp ho (fun J1 a1 a2 a3 => ?_)
    have := H J1 a3
    unfold mea at this
    rw [if_pos q] at this
    exact this
theorem lM_predictorFor {P : Int32 → mm_I → Prop} {w s x : Nat → Int32} {I : mm_I} {n b ef set : Nat} (hW : PWI w s ef I) (hw : WB w s) (hX : RwI x n b I) (hx : XB x n) (h1 : 1 ≤ n) (hb : b ≤ 17) (hs : set < 256)
    (H : ∀ J, sm F_cs I J → P (nI (bpr w s x n b ef set 7)) J) : ∀ (r k : Nat) (J : mm_I), k + r = 7 → sm F_cs I J → mm_W 167 7 [some (.ref 58), some (.int (nI set)), some (.int (nI (bpr w s x n b ef set k))), some (.int (nI (mea w s x n b ef (bpr w s x n b ef set k)))), some (.int (nI (k + 1))), none] [] J (mm_qi 167 P) := by
  have hn := hX.1
  intro r
  induction r with
  | zero =>
    intro k J hk hsm
    have hk : k = 7 := by omega
    subst hk
    exact c_M_predictorFor_7 _ _ _ _ ⟨fun _ => H J hsm, fun h => absurd h (by decide)⟩
  | succ r ih =>
    intro k J hk hsm
    have hW' := PWI_sm hW hsm (fun _ => rfl) (fun _ => rfl) rfl
    have hX' := RwI_sm hX hsm rfl rfl (fun _ => rfl)
    have bo := bpr_ok (w := w) (s := s) (x := x) (b := b) (ef := ef) (set := set) h1 k
    have mb1 := mea_b (b := b) (ef := ef) (p := bpr w s x n b ef set k) hw hx hn hb (by omega) (by omega)
    have eb : bpr w s x n b ef set (k + 1) = if set / 2 ^ (k + 1) % 2 = 1 ∧ o_od w (k + 1) < n ∧ mea w s x n b ef (k + 1) < mea w s x n b ef (bpr w s x n b ef set k) then k + 1 else bpr w s x n b ef set k := rfl
    have skip : ¬ (set / 2 ^ (k + 1) % 2 = 1 ∧ o_od w (k + 1) < n) → mm_W 167 7 [some (.ref 58), some (.int (nI set)), some (.int (nI (bpr w s x n b ef set k))), some (.int (nI (mea w s x n b ef (bpr w s x n b ef set k)))), some (.int (nI (k + 1 + 1))), none] [] J (mm_qi 167 P) := fun q => by
      rw [if_neg (fun z => q ⟨z.1, z.2.1⟩)] at eb
      have nx := ih (k + 1) J (by omega) hsm
      rw [eb] at nx
      exact nx
    refine c_M_predictorFor_7 _ _ _ _ ⟨fun h => absurd h (nI_ge (b := 8) (by omega) (by omega)), fun _ => ?_⟩
    rw [setI hs (by omega), nI_1 (k + 1)]
    refine ⟨fun h => skip (fun z => ?_), fun h => sp_M_orderOf (Or.inl rfl) (by omega) ?_⟩
    · rw [z.1] at h
      exact absurd h (by decide)
    · have hbit : set / 2 ^ (k + 1) % 2 = 1 := by
        have : ¬ set / 2 ^ (k + 1) % 2 = 0 := fun z => h (by rw [z]; rfl)
        omega
      have o4 := o_od_le w (k + 1)
      rw [o_od_c (w' := w) (by omega) hW'.1, hX'.2.1]
      refine ⟨fun h2 => ?_, fun h2 => skip (fun z => ?_)⟩
      · have h2 := (nI_ltI (by omega) (by omega)).mp h2
        have mb2 := mea_b (b := b) (ef := ef) (p := k + 1) hw hx hn hb (by omega) (by omega)
        refine mea_M hW' hw hX' hx (by omega) h2 (fun J' f => ?_)
        have nx := ih (k + 1) J' (by omega) (sm.tq hsm f)
        rw [if_neg (nI_pos (by omega)), if_neg (nI_pos (by omega))]
        by_cases q : mea w s x n b ef (k + 1) < mea w s x n b ef (bpr w s x n b ef set k)
        · rw [if_pos ⟨hbit, h2, q⟩] at eb
          rw [eb] at nx
          rw [if_pos (nI_lt q (by omega)), if_pos (nI_lt q (by omega))]
          exact nx
        · rw [if_neg (fun z => q z.2.2)] at eb
          rw [eb] at nx
          rw [if_neg (nI_nlt (by omega) (by omega)), if_neg (nI_nlt (by omega) (by omega))]
          exact nx
      · have h2 := (nI_leI (by omega) (by omega)).mp h2
        omega
theorem sp_M_predictorFor {P : Int32 → mm_I → Prop} {w s x : Nat → Int32} {I : mm_I} {n b ef set : Nat} (hW : PWI w s ef I) (hw : WB w s) (hX : RwI x n b I) (hx : XB x n) (h1 : 1 ≤ n) (hb : b ≤ 17) (hs : set < 256) (hs1 : set % 2 = 1)
    (H : ∀ J, sm F_cs I J → P (nI (bpr w s x n b ef set 7)) J) : mm_Mi 167 [.ref 58, .int (nI set)] I P := by
  have hn := hX.1
  refine e_M_predictorFor _ (c_M_predictorFor_7 _ _ _ _ ⟨fun h => absurd h (by decide), fun _ => ?_⟩)
  have e0 : ((nI set >>> ((0 : Int32) &&& 31)) &&& 1) = nI (set / 2 ^ 0 % 2) := setI hs (p := 0) (by omega)
  rw [e0]
  have es : set / 2 ^ 0 % 2 = 1 := by rw [Nat.pow_zero, Nat.div_one]; exact hs1
  refine ⟨fun h => absurd h (by rw [es]; decide), fun _ => sp_M_orderOf (p := 0) (Or.inl rfl) (by omega) ?_⟩
  have o0 : o_od (I 62) 0 = 0 := rfl
  rw [o0, hX.2.1]
  refine ⟨fun _ => ?_, fun h => absurd ((nI_leI (by omega) (by omega)).mp h) (by omega)⟩
  refine mea_M (p := 0) hW hw hX hx (by omega) (show o_od w 0 < n from h1) (fun J f => ?_)
  rw [if_pos (by decide), if_pos (by decide)]
  exact lM_predictorFor hW hw hX hx h1 hb hs H 7 0 J (by omega) f
/-- how a row is -/
def hwP (w s x : Nat → Int32) (n b ef set : Nat) : Nat := bpr w s x n b ef set 7
def hwH (w s x : Nat → Int32) (n b ef set : Nat) : Nat := if stl x n then 8 else if cst w s x n b ef (hwP w s x n b ef set) ≤ 4 + n * b then hwP w s x n b ef set else 9
def hwB (w s x : Nat → Int32) (n b ef set : Nat) : Nat := if stl x n then 4 + b else if cst w s x n b ef (hwP w s x n b ef set) ≤ 4 + n * b then cst w s x n b ef (hwP w s x n b ef set) else 4 + n * b
def hwE (w s x : Nat → Int32) (n b ef set : Nat) : Nat → Int32 := o_er w s x (hwP w s x n b ef set)
def hwM (w s x : Nat → Int32) (n b ef set : Nat) : Nat := n - o_od w (hwP w s x n b ef set)
def hwC (w s x : Nat → Int32) (n b ef set : Nat) : Nat := if hwH w s x n b ef set < 8 then rCnt ef (hwE w s x n b ef set) (hwM w s x n b ef set) else 0
def F_rc (a j : Nat) : Bool := F_cs a j || (Nat.beq a 58 && Nat.beq j 32)
theorem sm.rc {I J : mm_I} (f : sm F_cs I J) : sm F_rc I J := f.le (fun a j h => by
  unfold F_rc at h
  rw [Bool.or_eq_false_iff] at h
  exact h.1)
abbrev HwI (w s x : Nat → Int32) (n b ef set : Nat) (I : mm_I) : Prop := I 58 32 = nI (hwH w s x n b ef set) ∧ RuI (hwC w s x n b ef set) (rTo ef (hwE w s x n b ef set) (hwM w s x n b ef set)) (rPa ef (hwE w s x n b ef set) (hwM w s x n b ef set)) (rBt ef (hwE w s x n b ef set) (hwM w s x n b ef set)) I
theorem sp_M_rowCosts {P : Int32 → mm_I → Prop} {w s x : Nat → Int32} {I : mm_I} {n b ef set : Nat} (hW : PWI w s ef I) (hw : WB w s) (hX : RwI x n b I) (hx : XB x n) (h1 : 1 ≤ n) (hb : b ≤ 17) (hs : set < 256) (hs1 : set % 2 = 1)
    (H : ∀ J, HwI w s x n b ef set J → (hwH w s x n b ef set < 8 → ErI (hwE w s x n b ef set) (hwM w s x n b ef set) J) → sm F_rc I J → P (nI (hwB w s x n b ef set)) J) : mm_Mi 168 [.ref 58, .int (nI set)] I P := by
  have hn := hX.1
  have f0 : sm F_cs I (mm_up I 58 29 0) := sm.rf.up rfl
  have hX0 := RwI_sm hX f0 rfl rfl (fun _ => rfl)
  have hW0 := PWI_sm hW f0 (fun _ => rfl) (fun _ => rfl) rfl
  refine e_M_rowCosts _ (sp_M_isStill hX0 h1 ⟨fun h => ?_, fun h => ?_⟩)
  · have q := b1_0.mp h
    have bo := bpr_ok (w := w) (s := s) (x := x) (b := b) (ef := ef) (set := set) h1 7
    refine sp_M_predictorFor hW0 hw hX0 hx h1 hb hs hs1 (fun J1 f1 => ?_)
    have f2 : sm F_rc I (mm_up J1 58 32 (nI (bpr w s x n b ef set 7))) := ((sm.tq f0 f1).rc).up rfl
    have hX1 := RwI_sm hX f2 rfl rfl (fun _ => rfl)
    have hW1 := PWI_sm hW f2 (fun _ => rfl) (fun _ => rfl) rfl
    refine sp_M_costs hW1 hw hX1 hx (by omega) bo.2 (fun J2 a1 a2 a3 => ?_)
    have f3 := sm.tq f2 a3.rc
    have hX2 := RwI_sm hX f3 rfl rfl (fun _ => rfl)
    have e4 : (4 : Int32) + nI n * nI b = nI (4 + n * b) := by
      show nI 4 + _ = _
      rw [pk_mul, nI_add]
    have nb : n * b ≤ 64 * 17 := Nat.mul_le_mul hn hb
    have hB := er_b (p := bpr w s x n b ef set 7) hw hx (by omega) (by omega)
    have rb := rBits_b (ef := ef) (m := n - o_od w (bpr w s x n b ef set 7)) (by omega) hB
    have o4 := o_od_le w (bpr w s x n b ef set 7)
    have ob : b * o_od w (bpr w s x n b ef set 7) ≤ 17 * 4 := Nat.mul_le_mul hb o4
    have ec : cst w s x n b ef (bpr w s x n b ef set 7) = 4 + b * o_od w (bpr w s x n b ef set 7) + rBits ef (o_er w s x (bpr w s x n b ef set 7)) (n - o_od w (bpr w s x n b ef set 7)) := rfl
    rw [hX2.2.1, hX2.2.2.1, e4]
    have eh := H
    refine ⟨fun z => ?_, fun z => ?_⟩
    · have z := (nI_ltI (by omega) (by omega)).mp z
      have z' : ¬ cst w s x n b ef (hwP w s x n b ef set) ≤ 4 + n * b := by unfold hwP; omega
      have e9 : hwH w s x n b ef set = 9 := by
        unfold hwH
        rw [if_neg q, if_neg z']
      have eB : hwB w s x n b ef set = 4 + n * b := by
        unfold hwB
        rw [if_neg q, if_neg z']
      have eC : hwC w s x n b ef set = 0 := by
        unfold hwC
        rw [e9, if_neg (by omega)]
      have := H (mm_up (mm_up J2 58 32 9) 58 29 0)
      rw [eB] at this
      refine this ⟨?_, ?_⟩ (fun y => absurd y (by omega)) ((f3.up rfl).up rfl)
      · rw [e9]; rfl
      · rw [eC]
        exact ⟨rfl, fun k hk => absurd hk (Nat.not_lt_zero k)⟩
    · have z := (nI_leI (by omega) (by omega)).mp z
      have z' : cst w s x n b ef (hwP w s x n b ef set) ≤ 4 + n * b := z
      have eH : hwH w s x n b ef set = hwP w s x n b ef set := by
        unfold hwH
        rw [if_neg q, if_pos z']
      have eB : hwB w s x n b ef set = cst w s x n b ef (hwP w s x n b ef set) := by
        unfold hwB
        rw [if_neg q, if_pos z']
      have hlt : hwP w s x n b ef set < 8 := by unfold hwP; omega
      have eC : hwC w s x n b ef set = rCnt ef (hwE w s x n b ef set) (hwM w s x n b ef set) := by
        unfold hwC
        rw [eH, if_pos hlt]
      have := H J2
      rw [eB] at this
      refine this ⟨?_, ?_⟩ (fun _ => a1) f3
      · rw [eH, a3 58 32 rfl]; rfl
      · rw [eC]
        exact a2
  · have q := b1_n h
    have eH : hwH w s x n b ef set = 8 := if_pos q
    have eB : hwB w s x n b ef set = 4 + b := if_pos q
    have eC : hwC w s x n b ef set = 0 := by
      unfold hwC
      rw [eH, if_neg (by omega)]
    have e4 : (4 : Int32) + (mm_up I 58 29 0) 58 19 = nI (4 + b) := by
      show nI 4 + I 58 19 = _
      rw [hX.2.2.1, nI_add]
    rw [e4]
    have := H (mm_up (mm_up I 58 29 0) 58 32 8)
    rw [eB] at this
    refine this ⟨?_, ?_⟩ (fun y => absurd y (by omega)) (f0.rc.up rfl)
    · rw [eH]; rfl
    · rw [eC]
      exact ⟨rfl, fun k hk => absurd hk (Nat.not_lt_zero k)⟩
