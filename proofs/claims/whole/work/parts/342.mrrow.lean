/-! a row read -/
def rbO (w s : Nat → Int32) (by_ od : Nat) (e : Nat → Int32) : Nat → Nat → Int32
  | 0 => e
  | k + 1 => upd (rbO w s by_ od e k) (od + k) (rbO w s by_ od e k (od + k) + o_gu w s (rbO w s by_ od e k) (od + k) by_)
def rowO (B : Nat → Int32) (u : Nat) (w s : Nat → Int32) (size nb p : Nat) : Option (Nat × (Nat → Int32)) :=
  if 8 * u < p + 4 then none else if 9 < bvN B p 4 then none else
  if bvN B p 4 = 8 then (if 8 * u < p + 4 + nb then none else some (p + 4 + nb, fun _ => sgO B (p + 4) nb)) else
  if bvN B p 4 = 9 then (if 8 * u < p + 4 + nb * size then none else some (p + 4 + nb * size, fun i => sgO B (p + 4 + nb * i) nb)) else
  if size ≤ o_od w (bvN B p 4) then none else if 8 * u < p + 4 + nb * o_od w (bvN B p 4) then none else
  match ruO B u (o_od w (bvN B p 4)) size 9 0 (p + 4 + nb * o_od w (bvN B p 4)) (fun i => sgO B (p + 4 + nb * i) nb) with
  | none => none
  | some t => some (t.1, rbO w s (bvN B p 4) (o_od w (bvN B p 4)) t.2 (size - o_od w (bvN B p 4)))
def F_78 (row a j : Nat) : Bool := Nat.beq a 78 && (Nat.ble (64 * row) j && Nat.ble (j + 1) (64 * row + 64))
def F_rr (row a j : Nat) : Bool := F_ro a j || F_78 row a j
theorem sm.rr {row : Nat} {I J : mm_I} (f : sm F_ro I J) : sm (F_rr row) I J := f.le (fun a j h => by
  unfold F_rr at h
  rw [Bool.or_eq_false_iff] at h
  exact h.1)
theorem sm.rr7 {row : Nat} {I J : mm_I} (f : sm (F_78 row) I J) : sm (F_rr row) I J := f.le (fun a j h => by
  unfold F_rr at h
  rw [Bool.or_eq_false_iff] at h
  exact h.2)
theorem F_78_t {row i : Nat} (hi : i < 64) : F_78 row 78 (64 * row + i) = true := by
  unfold F_78
  rw [Nat.ble_eq_true_of_le (by omega), Nat.ble_eq_true_of_le (by omega)]
  rfl
theorem lM_ry83 {P : mm_I → Prop} {B : Nat → Int32} {u nb n p : Nat} {x1 x2 x4 : Int32} {I : mm_I} (hu : u ≤ 4000) (hnb : nb ≤ 31) (hn : n ≤ 64) (hS : StI B u I)
    (H1 : p + nb * n ≤ 8 * u → ∀ J, RdO u (some (p + nb * n)) J → (∀ i, i < n → J 79 i = sgO B (p + nb * i) nb) → sm F_ro I J → mm_W 206 83 [some (.ref 58), some (.int x1), some (.int x2), some (.int (nI nb)), some (.int x4), some (.int (nI n)), some (.int (nI n))] [] J (mm_qv 206 P))
    (H0 : ¬ p + nb * n ≤ 8 * u → ∀ J, RdO u none J → sm F_ro I J → mm_W 206 83 [some (.ref 58), some (.int x1), some (.int x2), some (.int (nI nb)), some (.int x4), some (.int (nI n)), some (.int (nI n))] [] J (mm_qv 206 P)) :
    ∀ (r k : Nat) (J : mm_I), k + r = n → sm F_ro I J → ((RdO u (some (p + nb * k)) J ∧ ∀ i, i < k → J 79 i = sgO B (p + nb * i) nb) ∨ (¬ p + nb * n ≤ 8 * u ∧ RdO u none J)) → mm_W 206 83 [some (.ref 58), some (.int x1), some (.int x2), some (.int (nI nb)), some (.int x4), some (.int (nI n)), some (.int (nI k))] [] J (mm_qv 206 P) := by
  intro r
  induction r with
  | zero =>
    intro k J hk hsm h
    have hk : k = n := by omega
    subst hk
    rcases h with ⟨h1, h2⟩ | ⟨h1, h2⟩
    · exact H1 h1.2.2 J h1 h2 hsm
    · exact H0 h1 J h2 hsm
  | succ r ih =>
    intro k J hk hsm h
    have mm : nb * k + nb ≤ nb * n := by rw [← Nat.mul_succ]; exact Nat.mul_le_mul_left nb (by omega)
    refine c_M_readsRow_83 _ _ _ _ _ _ ⟨fun z => absurd z (nI_ge (by omega) (by omega)), fun _ => ?_⟩
    have v := vp_in_nI (n := k) (N := 64) (by omega) (by omega)
    rw [nI_1, nI_clamp (n := k) (by omega)]
    rcases h with ⟨h1, h2⟩ | ⟨h1, h2⟩
    · refine sp_M_oSg (by omega) hu (StI_ro hS hsm) h1 (fun c J2 a1 a2 => ⟨v, ?_⟩) (fun c v2 J2 a1 a2 => ⟨v, ?_⟩)
      · refine ih (k + 1) _ (by omega) ((sm.tq hsm a2.ro).up rfl) (Or.inl ⟨?_, fun i hi => ?_⟩)
        · rw [Nat.mul_succ, ← Nat.add_assoc]
          exact RdO_up a1
        · rw [up_a]
          by_cases z : i = k
          · rw [if_pos z, z]
          · rw [if_neg z, a2 79 i rfl]
            exact h2 i (by omega)
      · exact ih (k + 1) _ (by omega) ((sm.tq hsm a2.ro).up rfl) (Or.inr ⟨by omega, RdO_up a1⟩)
    · exact sp_M_signed0 (by omega) h2 (fun v2 J2 a1 a2 => ⟨v, ih (k + 1) _ (by omega) ((sm.tq hsm a2.ro).up rfl) (Or.inr ⟨h1, a1⟩)⟩)
theorem lM_ry215b {P : mm_I → Prop} {x1 x2 x6 : Int32} {I : mm_I} (h : I 58 40 = 1) (H : P I) : mm_W 206 215 [some (.ref 58), some (.int x1), some (.int x2), none, none, none, some (.int x6)] [] I (mm_qv 206 P) :=
  c_M_readsRow_215 _ _ _ ⟨fun _ => H, fun _ => ⟨fun _ => H, fun z => by rw [h] at z; exact absurd z (by decide)⟩⟩
theorem lM_ry215 {P : mm_I → Prop} {x : Nat → Int32} {u size row p : Nat} {I : mm_I} (hrow : row < 2) (hs : size ≤ 64) (hR : RdO u (some p) I) (hx : ∀ i, i < size → I 79 i = x i) (H : ∀ J, RdO u (some p) J → (∀ i, i < size → J 78 (64 * row + i) = x i) → sm (F_78 row) I J → P J) : ∀ (r k : Nat) (J : mm_I), k + r = size → (∀ i, i < k → J 78 (64 * row + i) = x i) → sm (F_78 row) I J → mm_W 206 215 [some (.ref 58), some (.int (nI row)), some (.int (nI size)), none, none, none, some (.int (nI k))] [] J (mm_qv 206 P) := by
  intro r
  induction r with
  | zero =>
    intro k J hk h hsm
    have hk : k = size := by omega
    subst hk
    refine c_M_readsRow_215 _ _ _ ⟨fun _ => H J ⟨(hsm 58 39 rfl).trans hR.1, (hsm 58 40 rfl).trans hR.2.1, hR.2.2⟩ h hsm, fun z => absurd z (nI_nlt (by omega) (by omega))⟩
  | succ r ih =>
    intro k J hk h hsm
    have e1 : (64 : Int32) * nI row + nI k = nI (64 * row + k) := by
      show nI 64 * _ + _ = _
      rw [pk_mul, nI_add]
    refine c_M_readsRow_215 _ _ _ ⟨fun z => absurd z (nI_ge (by omega) (by omega)), fun _ => ⟨fun z => absurd ((hsm 58 40 rfl).trans hR.2.1) z, fun _ => ?_⟩⟩
    rw [e1, nI_clamp (n := k) (by omega), nI_clamp (n := 64 * row + k) (by omega), nI_1, hsm 79 k rfl, hx k (by omega)]
    refine ⟨vp_in_nI (by omega) (by omega), vp_in_nI (by omega) (by omega), ih (k + 1) _ (by omega) (fun i hi => ?_) (hsm.up (F_78_t (by omega)))⟩
    rw [up_a]
    by_cases z : i = k
    · rw [z, if_pos rfl]
    · rw [if_neg (by omega)]
      exact h i (by omega)
theorem lM_ry118 {P : mm_I → Prop} {v : Int32} {u size : Nat} {o : Option Nat} {x1 : Int32} {I : mm_I} (hs : size ≤ 64) (H : ∀ J, RdO u o J → (∀ i, i < size → J 79 i = v) → sm F_ro I J → mm_W 206 215 [some (.ref 58), some (.int x1), some (.int (nI size)), none, none, none, some (.int 0)] [] J (mm_qv 206 P)) : ∀ (r k : Nat) (J : mm_I), k + r = size → 1 ≤ k → RdO u o J → (∀ i, i < k → J 79 i = v) → sm F_ro I J → mm_W 206 118 [some (.ref 58), some (.int x1), some (.int (nI size)), none, none, none, some (.int (nI k))] [] J (mm_qv 206 P) := by
  intro r
  induction r with
  | zero =>
    intro k J hk h1 hR h hsm
    have hk : k = size := by omega
    subst hk
    exact c_M_readsRow_118 _ _ _ ⟨fun _ => H J hR h hsm, fun z => absurd z (nI_nlt (by omega) (by omega))⟩
  | succ r ih =>
    intro k J hk h1 hR h hsm
    refine c_M_readsRow_118 _ _ _ ⟨fun z => absurd z (nI_ge (by omega) (by omega)), fun _ => ⟨vp_in_nI (by omega) (by omega), ?_⟩⟩
    rw [nI_clamp (n := k) (by omega), nI_1, h 0 (by omega)]
    refine ih (k + 1) _ (by omega) (by omega) (RdO_up hR) (fun i hi => ?_) (hsm.up rfl)
    rw [up_a]
    by_cases z : i = k
    · rw [if_pos z]
    · rw [if_neg z]
      exact h i (by omega)
theorem lM_ry164 {P : mm_I → Prop} {w s e : Nat → Int32} {u size p by_ : Nat} {x1 : Int32} {I : mm_I} (hs : size ≤ 64) (hby : by_ < 8) (ho : o_od w by_ ≤ size) (hw : ∀ j, j < 9 → I 64 j = w j) (hsh : ∀ j, j < 3 → I 65 j = s j)
    (H : ∀ J, RdO u (some p) J → (∀ i, i < size → J 79 i = rbO w s by_ (o_od w by_) e (size - o_od w by_) i) → sm F_ro I J → mm_W 206 215 [some (.ref 58), some (.int x1), some (.int (nI size)), none, none, none, some (.int 0)] [] J (mm_qv 206 P)) : ∀ (r k : Nat) (J : mm_I), o_od w by_ + k + r = size → RdO u (some p) J → (∀ i, i < size → J 79 i = rbO w s by_ (o_od w by_) e k i) → sm F_ro I J → mm_W 206 164 [some (.ref 58), some (.int x1), some (.int (nI size)), none, some (.int (nI by_)), none, some (.int (nI (o_od w by_ + k)))] [] J (mm_qv 206 P) := by
  intro r
  induction r with
  | zero =>
    intro k J hk hR h hsm
    have hk : k = size - o_od w by_ := by omega
    subst hk
    exact c_M_readsRow_164 _ _ _ _ ⟨fun _ => H J hR h hsm, fun z => absurd z (nI_nlt (by omega) (by omega))⟩
  | succ r ih =>
    intro k J hk hR h hsm
    have v := vp_in_nI (n := o_od w by_ + k) (N := 64) (by omega) (by omega)
    refine c_M_readsRow_164 _ _ _ _ ⟨fun z => absurd z (nI_ge (by omega) (by omega)), fun _ => ⟨fun z => absurd hR.2.1 z, fun _ => ⟨v, ?_⟩⟩⟩
    refine sp_M_guessed (w := w) (s := s) (x := rbO w s by_ (o_od w by_) e k) (Or.inr ⟨rfl, rfl, rfl⟩) hby (by omega) (by omega) (fun j hj => (hsm 64 j rfl).trans (hw j hj)) (fun j hj => (hsm 65 j rfl).trans (hsh j hj)) (fun j hj => h j (by omega)) ⟨v, ?_⟩
    rw [nI_clamp (n := o_od w by_ + k) (by omega), nI_1, h _ (by omega)]
    refine ih (k + 1) _ (by omega) (RdO_up hR) (fun i hi => ?_) (hsm.up rfl)
    rw [up_a]
    show _ = upd (rbO w s by_ (o_od w by_) e k) (o_od w by_ + k) _ i
    unfold upd
    by_cases z : i = o_od w by_ + k
    · rw [if_pos z, if_pos z]
    · rw [if_neg z, if_neg z]
      exact h i hi
theorem sp_M_readsRow {P : mm_I → Prop} {B w s : Nat → Int32} {u size nb p row : Nat} {I : mm_I} (hu : u ≤ 4000) (hs : size ≤ 64) (h1 : 1 ≤ size) (hnb : nb ≤ 31) (hrow : row < 2) (hS : StI B u I) (hR : RdO u (some p) I) (hw : ∀ j, j < 9 → I 64 j = w j) (hsh : ∀ j, j < 3 → I 65 j = s j)
    (H1 : ∀ p' x, rowO B u w s size nb p = some (p', x) → ∀ J, RdO u (some p') J → (∀ i, i < size → J 78 (64 * row + i) = x i) → sm (F_rr row) I J → P J)
    (H0 : rowO B u w s size nb p = none → ∀ J, RdO u none J → sm (F_rr row) I J → P J) : mm_Mv 206 [.ref 58, .int (nI row), .int (nI size), .int (nI nb)] I P := by
  refine e_M_readsRow _ _ _ (sp_M_oBn (n := 4) (by omega) hu hS hR (fun c J a1 a2 => ?_) (fun c m J m1 a1 a2 => ?_))
  · -- the bits are there
    have S1 := StI_rd hS a2
    have v4 := (bvN_e (B := B) (p := p) (k := 4) (by omega)).2
    generalize hh : bvN B p 4 = how at *
    have v4 : how < 16 := v4
    have i9 : ((9 : Int32) < nI how) ↔ 9 < how := nI_ltI (a := 9) (by omega) (by omega)
    have j9 : (nI how ≤ 9) ↔ how ≤ 9 := nI_leI (b := 9) (by omega) (by omega)
    have i8 : (8 ≤ nI how) ↔ 8 ≤ how := nI_leI (a := 8) (by omega) (by omega)
    have j8 : (nI how < 8) ↔ how < 8 := nI_ltI (b := 8) (by omega) (by omega)
    have q8 : (nI how = 8) ↔ how = 8 := nI_eq (b := 8) (by omega) (by omega)
    have er : rowO B u w s size nb p = if 9 < how then none else
      if how = 8 then (if 8 * u < p + 4 + nb then none else some (p + 4 + nb, fun _ => sgO B (p + 4) nb)) else
      if how = 9 then (if 8 * u < p + 4 + nb * size then none else some (p + 4 + nb * size, fun i => sgO B (p + 4 + nb * i) nb)) else
      if size ≤ o_od w how then none else if 8 * u < p + 4 + nb * o_od w how then none else
      match ruO B u (o_od w how) size 9 0 (p + 4 + nb * o_od w how) (fun i => sgO B (p + 4 + nb * i) nb) with
      | none => none
      | some t => some (t.1, rbO w s how (o_od w how) t.2 (size - o_od w how)) := by
      unfold rowO
      rw [if_neg (by omega), hh]
    refine ⟨fun z => ?_, fun z => ?_⟩
    · exact H0 (by rw [er, if_pos (i9.mp z)]) _ rfl (a2.ro.rr.up rfl)
    · have z := j9.mp z
      rw [if_neg (by omega)] at er
      have big : 8 ≤ nI how → mm_W 206 83 [some (.ref 58), some (.int (nI row)), some (.int (nI size)), some (.int (nI nb)), some (.int (nI how)), some (.int (if nI how = 8 then (1 : Int32) else nI size)), some (.int 0)] [] J (mm_qv 206 P) := fun y => by
        have y := i8.mp y
        by_cases x8 : how = 8
        · rw [if_pos (q8.mpr x8)]
          rw [if_pos x8] at er
          have m1 : nb * 1 = nb := Nat.mul_one nb
          refine lM_ry83 (p := p + 4) (n := 1) hu hnb (by omega) S1 (fun c1 J2 b1 b2 b3 => ?_) (fun c1 J2 b1 b3 => ?_) 1 0 J (by omega) sm.rf (Or.inl ⟨a1, fun i hi => absurd hi (Nat.not_lt_zero i)⟩)
          · refine c_M_readsRow_83 _ _ _ _ _ _ ⟨fun _ => ⟨fun x => absurd (q8.mpr x8) x, fun _ => ?_⟩, fun x => absurd x (by decide)⟩
            rw [if_neg (by omega)] at er
            have v0 : J2 79 0 = sgO B (p + 4) nb := b2 0 (by omega)
            rw [m1] at b1
            refine lM_ry118 (u := u) (o := some (p + 4 + nb)) (v := sgO B (p + 4) nb) hs (fun J3 c1 c2 c3 => ?_) (size - 1) 1 J2 (by omega) (Nat.le_refl 1) b1 (fun i hi => by rw [show i = 0 by omega]; exact v0) sm.rf
            exact lM_ry215 hrow hs c1 c2 (fun J4 d1 d2 d3 => H1 _ _ er J4 d1 d2 (sm.tq (sm.tq (sm.tq a2.ro b3) c3).rr d3.rr7)) size 0 J3 (by omega) (fun i hi => absurd hi (Nat.not_lt_zero i)) sm.rf
          · refine c_M_readsRow_83 _ _ _ _ _ _ ⟨fun _ => ⟨fun x => absurd (q8.mpr x8) x, fun _ => ?_⟩, fun x => absurd x (by decide)⟩
            rw [if_pos (by omega)] at er
            refine lM_ry118 (u := u) (o := none) (v := J2 79 0) hs (fun J3 c1 c2 c3 => ?_) (size - 1) 1 J2 (by omega) (Nat.le_refl 1) b1 (fun i hi => by rw [show i = 0 by omega]) sm.rf
            exact lM_ry215b c1 (H0 er J3 c1 (sm.tq (sm.tq a2.ro b3) c3).rr)
        · rw [if_neg (fun x => x8 (q8.mp x))]
          have x9 : how = 9 := by omega
          rw [if_neg x8, if_pos x9] at er
          refine lM_ry83 (p := p + 4) (n := size) hu hnb hs S1 (fun c1 J2 b1 b2 b3 => ?_) (fun c1 J2 b1 b3 => ?_) size 0 J (by omega) sm.rf (Or.inl ⟨a1, fun i hi => absurd hi (Nat.not_lt_zero i)⟩)
          · refine c_M_readsRow_83 _ _ _ _ _ _ ⟨fun _ => ⟨fun _ => ⟨fun _ => ?_, fun x => absurd (j8.mp x) (by omega)⟩, fun x => absurd (q8.mp x) x8⟩, fun x => absurd x (nI_nlt (by omega) (by omega))⟩
            rw [if_neg (by omega)] at er
            exact lM_ry215 hrow hs b1 b2 (fun J4 d1 d2 d3 => H1 _ _ er J4 d1 d2 (sm.tq (sm.tq a2.ro b3).rr d3.rr7)) size 0 J2 (by omega) (fun i hi => absurd hi (Nat.not_lt_zero i)) sm.rf
          · refine c_M_readsRow_83 _ _ _ _ _ _ ⟨fun _ => ⟨fun _ => ⟨fun _ => ?_, fun x => absurd (j8.mp x) (by omega)⟩, fun x => absurd (q8.mp x) x8⟩, fun x => absurd x (nI_nlt (by omega) (by omega))⟩
            rw [if_pos (by omega)] at er
            exact lM_ry215b b1 (H0 er J2 b1 (sm.tq a2.ro b3).rr)
      refine ⟨fun y => ⟨fun _ => ⟨big, fun x => absurd (j8.mp x) (by have := i8.mp y; omega)⟩, fun x => absurd a1.2.1 x⟩, fun y => ?_⟩
      have y := j8.mp y
      have eo : o_od (J 64) how = o_od w how := o_od_c y (fun j hj => (a2 64 j rfl).trans (hw j hj))
      have o4 := o_od_le w how
      refine sp_M_orderOf (Or.inr rfl) y ?_
      rw [eo]
      rw [if_neg (by omega), if_neg (by omega)] at er
      refine ⟨fun x => ⟨fun _ => ⟨fun x8 => absurd (i8.mp x8) (by omega), fun _ => sp_M_orderOf (Or.inr rfl) y ?_⟩, fun x0 => absurd a1.2.1 x0⟩, fun x => ?_⟩
      · have x := (nI_ltI (by omega) (by omega)).mp x
        rw [eo]
        rw [if_neg (by omega)] at er
        refine lM_ry83 (p := p + 4) (n := o_od w how) hu hnb (by omega) S1 (fun c1 J2 b1 b2 b3 => ?_) (fun c1 J2 b1 b3 => ?_) (o_od w how) 0 J (by omega) sm.rf (Or.inl ⟨a1, fun i hi => absurd hi (Nat.not_lt_zero i)⟩)
        · refine c_M_readsRow_83 _ _ _ _ _ _ ⟨fun _ => ⟨fun _ => ⟨fun x8 => absurd (i8.mp x8) (by omega), fun _ => ?_⟩, fun x8 => absurd (q8.mp x8) (by omega)⟩, fun x => absurd x (nI_nlt (by omega) (by omega))⟩
          rw [if_neg (by omega)] at er
          have f2 := sm.tq a2.ro b3
          refine sp_M_readsRuns (e := fun i => sgO B (p + 4 + nb * i) nb) hu hs x (StI_ro S1 b3) b1 b2 (fun p' e' h J3 c1 c2 c3 => ?_) (fun h J3 c1 c3 => ?_)
          · rw [h] at er
            have f3 := sm.tq f2 c3
            refine lM_ry164 (w := w) (s := s) (e := e') (u := u) (p := p') hs y (by omega) (fun j hj => (f3 64 j rfl).trans (hw j hj)) (fun j hj => (f3 65 j rfl).trans (hsh j hj)) (fun J4 d1 d2 d3 => ?_) (size - o_od w how) 0 J3 (by omega) c1 c2 sm.rf
            exact lM_ry215 hrow hs d1 d2 (fun J5 g1 g2 g3 => H1 _ _ er J5 g1 g2 (sm.tq (sm.tq f3 d3).rr g3.rr7)) size 0 J4 (by omega) (fun i hi => absurd hi (Nat.not_lt_zero i)) sm.rf
          · rw [h] at er
            have f3 := sm.tq f2 c3
            have n0 : ¬ J3 58 40 = 0 := fun x0 => by rw [show J3 58 40 = 1 from c1] at x0; exact absurd x0 (by decide)
            have fin := lM_ry215b (P := P) (x1 := nI row) (x2 := nI size) (x6 := 0) c1 (H0 er J3 c1 f3.rr)
            exact c_M_readsRow_164 _ _ _ _ ⟨fun _ => fin, fun _ => ⟨fun _ => fin, fun x0 => absurd x0 n0⟩⟩
        · refine c_M_readsRow_83 _ _ _ _ _ _ ⟨fun _ => ⟨fun _ => ⟨fun x8 => absurd (i8.mp x8) (by omega), fun _ => ?_⟩, fun x8 => absurd (q8.mp x8) (by omega)⟩, fun x => absurd x (nI_nlt (by omega) (by omega))⟩
          rw [if_pos (by omega)] at er
          have f2 := sm.tq a2.ro b3
          have n0 : ¬ J2 58 40 = 0 := fun x0 => by rw [show J2 58 40 = 1 from b1] at x0; exact absurd x0 (by decide)
          have fin := lM_ry215b (P := P) (x1 := nI row) (x2 := nI size) (x6 := 0) b1 (H0 er J2 b1 f2.rr)
          exact sp_M_readsRuns0 b1 (c_M_readsRow_164 _ _ _ _ ⟨fun _ => fin, fun _ => ⟨fun _ => fin, fun x0 => absurd x0 n0⟩⟩)
      · have x := (nI_leI (by omega) (by omega)).mp x
        exact H0 (by rw [er, if_pos x]) _ rfl (a2.ro.rr.up rfl)
  · have er : rowO B u w s size nb p = none := by
      unfold rowO
      rw [if_pos (by omega)]
    have m1 : m < 16 := m1
    have n0 : ¬ J 58 40 = 0 := fun x0 => by rw [show J 58 40 = 1 from a1] at x0; exact absurd x0 (by decide)
    have k := H0 er J a1 a2.ro.rr
    have k1 := H0 er (mm_up J 58 40 1) rfl (a2.ro.rr.up rfl)
    refine ⟨fun _ => k1, fun _ => ⟨fun _ => ⟨fun x0 => absurd x0 n0, fun _ => k⟩, fun y => ?_⟩⟩
    have y := (nI_ltI (b := 8) (by omega) (by omega)).mp y
    exact sp_M_orderOf (Or.inr rfl) y ⟨fun _ => ⟨fun x0 => absurd x0 n0, fun _ => k⟩, fun _ => k1⟩
