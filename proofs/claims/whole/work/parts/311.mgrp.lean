/-! groups of the reference -/
def fo (v : Int32) : Nat := if v.toInt < 0 then (-2 * v.toInt - 1).toNat else (2 * v.toInt).toNat
def wo (u : Nat) : Nat := if u < 2 then 1 else Nat.log2 u + 1
theorem wo_pos (u : Nat) : 1 ≤ wo u := by
  unfold wo
  split <;> omega
theorem wo_lt (u : Nat) : u < 2 ^ wo u := by
  unfold wo
  by_cases h : u < 2
  · rw [if_pos h]; omega
  · rw [if_neg h]
    exact (Nat.log2_lt (by omega)).mp (by omega)
theorem wo_le {u w : Nat} (h1 : 1 ≤ w) (h : u < 2 ^ w) : wo u ≤ w := by
  unfold wo
  by_cases q : u < 2
  · rw [if_pos q]; exact h1
  · rw [if_neg q]
    have := (Nat.log2_lt (n := u) (by omega)).mpr h
    omega
abbrev EB (E : Nat → Int32) (m : Nat) : Prop := ∀ i, i < m → -8388608 ≤ (E i).toInt ∧ (E i).toInt < 8388608
theorem fo_lt {v : Int32} (h1 : -8388608 ≤ v.toInt) (h2 : v.toInt < 8388608) : fo v < 16777216 := by
  unfold fo
  by_cases q : v.toInt < 0
  · rw [if_pos q]; omega
  · rw [if_neg q]; omega
theorem fo_eq {v : Int32} (h1 : -8388608 ≤ v.toInt) (h2 : v.toInt < 8388608) : (if 0 ≤ v then (2 * v : Int32) else (-2) * v - 1) = nI (fo v) := by
  have t2 : (2 : Int32).toInt = 2 := rfl
  have tm : (-2 : Int32).toInt = -2 := rfl
  have t1 : (1 : Int32).toInt = 1 := rfl
  have hl := fo_lt h1 h2
  refine tI_nI ?_ (by omega)
  unfold fo
  by_cases q : v.toInt < 0
  · have q0 : ¬ 0 ≤ v := fun z => by rw [le_I] at z; have z : 0 ≤ v.toInt := z; omega
    rw [if_neg q0, if_pos q]
    have e1 : ((-2 : Int32) * v).toInt = -2 * v.toInt := by rw [tI_mul (by rw [tm]; omega) (by rw [tm]; omega), tm]
    rw [tI_sub (by rw [e1, t1]; omega) (by rw [e1, t1]; omega), e1, t1]
    omega
  · have q0 : 0 ≤ v := by rw [le_I]; show 0 ≤ v.toInt; omega
    rw [if_pos q0, if_neg q, tI_mul (by rw [t2]; omega) (by rw [t2]; omega), t2]
    omega
theorem sp_M_folded {P : Int32 → mm_I → Prop} {I : mm_I} {v : Int32} (h1 : -8388608 ≤ v.toInt) (h2 : v.toInt < 8388608) (H : P (nI (fo v)) I) : mm_Mi 152 [.int v] I P := by
  refine e_M_folded v ?_
  rw [fo_eq h1 h2]
  exact H
theorem shl1 {k : Nat} (h : k < 31) : (1 : Int32) <<< (nI k &&& 31) = nI (2 ^ k) := by
  have : ∀ k : Fin 31, (1 : Int32) <<< (nI k.val &&& 31) = nI (2 ^ k.val) := by decide +kernel
  exact this ⟨k, h⟩
theorem lM_widthOf {P : Int32 → mm_I → Prop} {I : mm_I} {v : Int32} (h1 : -8388608 ≤ v.toInt) (h2 : v.toInt < 8388608) (H : P (nI (wo (fo v))) I) : ∀ (r w : Nat), w + r = wo (fo v) → 1 ≤ w → mm_W 153 2 [some (.int v), some (.int (nI w))] [] I (mm_qi 153 P) := by
  have hl := fo_lt h1 h2
  have hm : wo (fo v) ≤ 24 := wo_le (by omega) (by omega)
  intro r
  have key : ∀ w, 1 ≤ w → w ≤ 24 → ((v < -(nI (2 ^ (w - 1))) ∨ (nI (2 ^ (w - 1)) - 1) < v) ↔ ¬ fo v < 2 ^ w) := fun w hw hw2 => by
    have e2 : 2 ^ w = 2 * 2 ^ (w - 1) := by
      rw [show w = (w - 1) + 1 by omega, Nat.pow_succ]
      simp only [Nat.add_sub_cancel]
      omega
    have hp : 2 ^ (w - 1) ≤ 2 ^ 23 := Nat.pow_le_pow_right (by omega) (by omega)
    have hp1 : 0 < 2 ^ (w - 1) := Nat.pow_pos (by omega)
    rw [e2]
    generalize 2 ^ (w - 1) = q at hp hp1
    have t1 : (1 : Int32).toInt = 1 := rfl
    rw [lt_I, lt_I, tI_neg (by rw [nI_toInt (by omega)]; omega), tI_sub (by rw [nI_toInt (by omega), t1]; omega) (by rw [nI_toInt (by omega), t1]; omega), nI_toInt (by omega), t1]
    unfold fo
    by_cases z : v.toInt < 0
    · rw [if_pos z]; omega
    · rw [if_neg z]; omega
  induction r with
  | zero =>
    intro w hw hw1
    have hw : w = wo (fo v) := by omega
    have k := key w hw1 (by omega)
    have e : nI w - 1 = nI (w - 1) := pk_sub (b := 1) hw1
    have hlt := wo_lt (fo v)
    rw [← hw] at hlt H
    refine c_M_widthOf_2 _ _ ?_
    rw [e, shl1 (by omega)]
    exact ⟨fun z => absurd hlt (k.mp (Or.inl z)), fun _ => ⟨fun _ => H, fun z => absurd hlt (k.mp (Or.inr z))⟩⟩
  | succ r ih =>
    intro w hw hw1
    have k := key w hw1 (by omega)
    have e : nI w - 1 = nI (w - 1) := pk_sub (b := 1) hw1
    have hge : ¬ fo v < 2 ^ w := fun z => by
      have := wo_le hw1 z
      omega
    have nx := ih (w + 1) (by omega) (by omega)
    refine c_M_widthOf_2 _ _ ?_
    rw [e, shl1 (by omega), nI_1]
    refine ⟨fun _ => nx, fun z1 => ⟨fun z2 => ?_, fun _ => nx⟩⟩
    rcases k.mpr hge with z | z
    · exact absurd z (fa_nlt z1)
    · exact absurd z (fa_nlt z2)
theorem sp_M_widthOf {P : Int32 → mm_I → Prop} {I : mm_I} {v : Int32} (h1 : -8388608 ≤ v.toInt) (h2 : v.toInt < 8388608) (H : P (nI (wo (fo v))) I) : mm_Mi 153 [.int v] I P :=
  e_M_widthOf v (lM_widthOf h1 h2 H (wo (fo v) - 1) 1 (by have := wo_pos (fo v); omega) (by omega))
def ig (m g : Nat) : Nat := if 8 ≤ m - 8 * g then 8 else m - 8 * g
theorem ig_le (m g : Nat) : ig m g ≤ 8 := by
  unfold ig
  split <;> omega
theorem ig_m {m g : Nat} (h : 8 * g ≤ m) : 8 * g + ig m g ≤ m := by
  unfold ig
  split <;> omega
theorem sp_M_inGroup {P : Int32 → mm_I → Prop} {I : mm_I} {m g : Nat} (hm : m ≤ 64) (e : I 58 21 = nI m) (hg : 8 * g ≤ m) (H : P (nI (ig m g)) I) : mm_Mi 154 [.ref 58, .int (nI g)] I P := by
  refine e_M_inGroup _ ?_
  have e1 : I 58 21 - 8 * nI g = nI (m - 8 * g) := by
    rw [e]
    show _ - nI 8 * _ = _
    rw [pk_mul, pk_sub hg]
  have e2 : (if 8 ≤ nI (m - 8 * g) then (8 : Int32) else nI (m - 8 * g)) = nI (ig m g) := by
    unfold ig
    by_cases q : 8 ≤ m - 8 * g
    · have q2 : (8 : Int32) ≤ nI (m - 8 * g) := nI_le (a := 8) q (by omega)
      rw [if_pos q, if_pos q2]; rfl
    · have q2 : ¬ (8 : Int32) ≤ nI (m - 8 * g) := nI_ge (b := 8) (by omega) (by omega)
      rw [if_neg q, if_neg q2]
  rw [e1, e2]
  exact H
def gBs (E : Nat → Int32) (g p : Nat) : Nat → Nat
  | 0 => 0
  | k + 1 => gBs E g p k + (fo (E (8 * g + k)) / 2 ^ p + 1 + p)
def gWs (E : Nat → Int32) (g : Nat) : Nat → Nat
  | 0 => 1
  | k + 1 => if wo (fo (E (8 * g + k))) ≤ gWs E g k then gWs E g k else wo (fo (E (8 * g + k)))
def gZs (E : Nat → Int32) (g : Nat) : Nat → Nat
  | 0 => 1
  | k + 1 => if fo (E (8 * g + k)) = 0 then gZs E g k else 0
def F_gr (a _ : Nat) : Bool := Nat.beq a 69 || Nat.beq a 70 || Nat.beq a 71
def GrI (E : Nat → Int32) (m G : Nat) (I : mm_I) : Prop := ∀ g, g < G → (∀ p, p < 14 → I 69 (14 * g + p) = nI (gBs E g p (ig m g))) ∧ I 70 g = nI (gWs E g (ig m g)) ∧ I 71 g = nI (gZs E g (ig m g))
theorem gWs_b {E : Nat → Int32} {g : Nat} : ∀ k, (∀ i, i < k → -8388608 ≤ (E (8 * g + i)).toInt ∧ (E (8 * g + i)).toInt < 8388608) → 1 ≤ gWs E g k ∧ gWs E g k ≤ 24 := by
  intro k
  induction k with
  | zero => intro _; exact ⟨Nat.le_refl 1, by show 1 ≤ 24; omega⟩
  | succ k ih =>
    intro h
    have i1 := ih (fun i hi => h i (by omega))
    have b := h k (by omega)
    have hl := fo_lt b.1 b.2
    have hm : wo (fo (E (8 * g + k))) ≤ 24 := wo_le (by omega) (by omega)
    have hp := wo_pos (fo (E (8 * g + k)))
    show 1 ≤ (if _ then _ else _) ∧ (if _ then _ else _) ≤ 24
    by_cases q : wo (fo (E (8 * g + k))) ≤ gWs E g k
    · rw [if_pos q]; exact i1
    · rw [if_neg q]; exact ⟨hp, hm⟩
theorem shrp {u p : Nat} (hu : u < 2147483648) (hp : p < 31) : nI u >>> (nI p &&& 31) = nI (u / 2 ^ p) := by
  refine pk_shrN hu _ p ?_
  have : ∀ p : Fin 31, ((nI p.val &&& 31).toBitVec.smod 32).toNat = p.val := by decide +kernel
  exact this ⟨p, hp⟩
/-- inside a group: k errors are laid, and q sums more -/
def gIn (E : Nat → Int32) (m g k q : Nat) (I J : mm_I) : Prop := (∀ p, p < 14 → J 69 (14 * g + p) = nI (gBs E g p (if p < q then k + 1 else k))) ∧ J 70 g = nI (gWs E g k) ∧ J 71 g = nI (gZs E g k) ∧ GrI E m g J ∧ sm F_gr I J
theorem lM_lg82 {P : mm_I → Prop} {E : Nat → Int32} {I : mm_I} {m g k : Nat} (hE : ErI E m I) (hB : EB E m) (hg : 8 * g + k < m) (hk : k < 8)
    (H : ∀ J, gIn E m g (k + 1) 0 I J → mm_W 155 55 [some (.ref 58), some (.int (nI g)), some (.int (nI (8 * g + (k + 1)))), none, none] [] J (mm_qv 155 P)) : ∀ (r q : Nat) (J : mm_I), q + r = 14 → gIn E m g k q I J → mm_W 155 82 [some (.ref 58), some (.int (nI g)), some (.int (nI (8 * g + k))), some (.int (nI (fo (E (8 * g + k))))), some (.int (nI q))] [] J (mm_qv 155 P) := by
  have hm := hE.1
  have b := hB (8 * g + k) hg
  have hl := fo_lt b.1 b.2
  have vg := vp_in_nI (n := g) (N := 8) (by omega) (by omega)
  have wb := gWs_b (E := E) (g := g) k (fun i hi => hB _ (by omega))
  have wb1 := gWs_b (E := E) (g := g) (k + 1) (fun i hi => hB _ (by omega))
  intro r
  induction r with
  | zero =>
    intro q J hq hJ
    have hq : q = 14 := by omega
    subst hq
    obtain ⟨j1, j2, j3, j4, j5⟩ := hJ
    refine c_M_laysGroups_82 _ _ _ _ ⟨fun _ => ⟨vp_in_nI (by omega) (by omega), ?_⟩, fun h => absurd h (by decide)⟩
    have e68 : J 68 (nI (8 * g + k)).toNatClampNeg = E (8 * g + k) := by
      rw [nI_clamp (by omega), j5 68 _ rfl]
      exact hE.2.2.2 _ hg
    rw [e68]
    refine sp_M_widthOf b.1 b.2 ⟨vg, ?_⟩
    rw [nI_clamp (n := g) (by omega), j2, nI_1]
    have hm24 : wo (fo (E (8 * g + k))) ≤ 24 := wo_le (by omega) (by omega)
    have f1 : ∀ p, p < 14 → J 69 (14 * g + p) = nI (gBs E g p (k + 1)) := fun p hp => by rw [j1 p hp, if_pos hp]
    have gz : ∀ J' : mm_I, (∀ j, J' 69 j = J 69 j) → (∀ g', g' ≠ g → J' 70 g' = J 70 g' ∧ J' 71 g' = J 71 g') → J' 70 g = nI (gWs E g (k + 1)) → J' 71 g = nI (gZs E g (k + 1)) → sm F_gr I J' → gIn E m g (k + 1) 0 I J' := fun J' a1 a2 a3 a4 a5 => by
      refine ⟨fun p hp => ?_, a3, a4, fun g' hg' => ?_, a5⟩
      · rw [if_neg (by omega), a1]; exact f1 p hp
      · obtain ⟨c1, c2, c3⟩ := j4 g' hg'
        have c4 := a2 g' (by omega)
        refine ⟨fun p hp => by rw [a1]; exact c1 p hp, by rw [c4.1]; exact c2, by rw [c4.2]; exact c3⟩
    have nz : ∀ z : nI (fo (E (8 * g + k))) = 0, gZs E g (k + 1) = gZs E g k := fun z => by
      show (if _ then _ else _) = _
      rw [if_pos]
      exact (nI_eq (b := 0) (by omega) (by omega)).mp z
    have zz : ∀ z : ¬ nI (fo (E (8 * g + k))) = 0, gZs E g (k + 1) = 0 := fun z => by
      show (if _ then _ else _) = _
      rw [if_neg]
      intro w
      rw [w] at z
      exact z rfl
    refine ⟨fun h => ?_, fun h => ⟨vg, ?_⟩⟩
    · have hw := (nI_leI (by omega) (by omega)).mp h
      have gw : gWs E g (k + 1) = gWs E g k := by
        show (if _ then _ else _) = _
        rw [if_pos hw]
      refine ⟨fun z => H J (gz J (fun _ => rfl) (fun _ _ => ⟨rfl, rfl⟩) (by rw [gw]; exact j2) (by rw [nz z]; exact j3) j5), fun z => ⟨vg, H _ (gz _ (fun _ => rfl) (fun g' hg' => ⟨rfl, by rw [up_a, if_neg hg']⟩) (by rw [gw]; exact j2) (by rw [zz z, up_a, if_pos rfl]; rfl) (j5.up rfl))⟩⟩
    · have hw := (nI_ltI (by omega) (by omega)).mp h
      have gw : gWs E g (k + 1) = wo (fo (E (8 * g + k))) := by
        show (if _ then _ else _) = _
        rw [if_neg (by omega)]
      refine ⟨fun z => H _ (gz _ (fun _ => rfl) (fun g' hg' => ⟨by rw [up_a, if_neg hg'], rfl⟩) (by rw [gw, up_a, if_pos rfl]) (by rw [nz z]; exact j3) (j5.up rfl)), fun z => ⟨vg, H _ (gz _ (fun _ => rfl) (fun g' hg' => ⟨by rw [up_o (by decide), up_a, if_neg hg'], by rw [up_a, if_neg hg']; rfl⟩) (by rw [gw, up_o (by decide), up_a, if_pos rfl]) (by rw [zz z, up_a, if_pos rfl]; rfl) ((j5.up rfl).up rfl))⟩⟩
  | succ r ih =>
    intro q J hq hJ
    obtain ⟨j1, j2, j3, j4, j5⟩ := hJ
    have e1 : (14 : Int32) * nI g + nI q = nI (14 * g + q) := by
      show nI 14 * _ + _ = _
      rw [pk_mul, nI_add]
    refine c_M_laysGroups_82 _ _ _ _ ⟨fun h => absurd h (nI_ge (b := 14) (by omega) (by omega)), fun _ => ?_⟩
    rw [e1, nI_clamp (n := 14 * g + q) (by omega), shrp (by omega) (by omega), nI_1 q, nI_1 (fo (E (8 * g + k)) / 2 ^ q), nI_add, j1 q (by omega), if_neg (by omega), nI_add]
    refine ⟨vp_in_nI (by omega) (by omega), vp_in_nI (by omega) (by omega), ih (q + 1) _ (by omega) ⟨fun p hp => ?_, j2, j3, fun g' hg' => ?_, j5.up rfl⟩⟩
    · rw [up_a]
      by_cases z : p = q
      · rw [if_pos (by omega), z, if_pos (by omega)]
        rfl
      · rw [if_neg (by omega), j1 p hp]
        by_cases z2 : p < q
        · rw [if_pos z2, if_pos (by omega)]
        · rw [if_neg z2, if_neg (by omega)]
    · obtain ⟨c1, c2, c3⟩ := j4 g' hg'
      refine ⟨fun p hp => ?_, c2, c3⟩
      rw [up_a, if_neg (by omega)]
      exact c1 p hp
theorem lM_lg55 {P : mm_I → Prop} {E : Nat → Int32} {I : mm_I} {m g : Nat} (hE : ErI E m I) (hB : EB E m) (hg : 8 * g < m)
    (H : ∀ J, GrI E m (g + 1) J → sm F_gr I J → mm_W 155 2 [some (.ref 58), some (.int (nI (g + 1))), none, none, none] [] J (mm_qv 155 P)) : ∀ (r k : Nat) (J : mm_I), k + r = ig m g → gIn E m g k 0 I J → mm_W 155 55 [some (.ref 58), some (.int (nI g)), some (.int (nI (8 * g + k))), none, none] [] J (mm_qv 155 P) := by
  have hm := hE.1
  have h8 := ig_le m g
  have h9 := ig_m (m := m) (g := g) (by omega)
  have e1 : ∀ c : Nat, (8 : Int32) * nI g + nI c = nI (8 * g + c) := fun c => by
    show nI 8 * _ + _ = _
    rw [pk_mul, nI_add]
  intro r
  induction r with
  | zero =>
    intro k J hk hJ
    have hk : k = ig m g := by omega
    obtain ⟨j1, j2, j3, j4, j5⟩ := hJ
    refine c_M_laysGroups_55 _ _ (sp_M_inGroup hm (by rw [j5 58 21 rfl]; exact hE.2.1) (by omega) ?_)
    rw [e1, nI_1]
    refine ⟨fun _ => H J (fun g' hg' => ?_) j5, fun h => absurd h (nI_nlt (by omega) (by omega))⟩
    by_cases q : g' = g
    · subst q
      rw [← hk]
      exact ⟨fun p hp => by rw [j1 p hp, if_neg (by omega)], j2, j3⟩
    · exact j4 g' (by omega)
  | succ r ih =>
    intro k J hk hJ
    have j5 := hJ.2.2.2.2
    refine c_M_laysGroups_55 _ _ (sp_M_inGroup hm (by rw [j5 58 21 rfl]; exact hE.2.1) (by omega) ?_)
    rw [e1]
    refine ⟨fun h => absurd h (nI_ge (by omega) (by omega)), fun _ => ⟨vp_in_nI (by omega) (by omega), ?_⟩⟩
    have e68 : J 68 (nI (8 * g + k)).toNatClampNeg = E (8 * g + k) := by
      rw [nI_clamp (by omega), j5 68 _ rfl]
      exact hE.2.2.2 _ (by omega)
    have b := hB (8 * g + k) (by omega)
    rw [e68]
    exact sp_M_folded b.1 b.2 (lM_lg82 hE hB (by omega) (by omega) (fun J' h' => ih (k + 1) J' (by omega) h') 14 0 J (by omega) hJ)
theorem lM_lg26 {P : mm_I → Prop} {E : Nat → Int32} {I : mm_I} {m g : Nat} (hE : ErI E m I) (hB : EB E m) (hg : 8 * g < m)
    (H : ∀ J, GrI E m (g + 1) J → sm F_gr I J → mm_W 155 2 [some (.ref 58), some (.int (nI (g + 1))), none, none, none] [] J (mm_qv 155 P)) : ∀ (r q : Nat) (J : mm_I), q + r = 14 → (∀ p, p < q → J 69 (14 * g + p) = 0) → J 70 g = 1 → J 71 g = 1 → GrI E m g J → sm F_gr I J → mm_W 155 26 [some (.ref 58), some (.int (nI g)), some (.int (nI q)), none, none] [] J (mm_qv 155 P) := by
  have hm := hE.1
  intro r
  induction r with
  | zero =>
    intro q J hq j1 j2 j3 j4 j5
    have hq : q = 14 := by omega
    subst hq
    refine c_M_laysGroups_26 _ _ ⟨fun _ => ?_, fun h => absurd h (by decide)⟩
    have e8 : (8 : Int32) * nI g = nI (8 * g + 0) := pk_mul 8 g
    rw [e8]
    exact lM_lg55 hE hB hg H (ig m g) 0 J (by omega) ⟨fun p hp => by rw [j1 p hp, if_neg (by omega)]; rfl, j2, j3, j4, j5⟩
  | succ r ih =>
    intro q J hq j1 j2 j3 j4 j5
    have e1 : (14 : Int32) * nI g + nI q = nI (14 * g + q) := by
      show nI 14 * _ + _ = _
      rw [pk_mul, nI_add]
    refine c_M_laysGroups_26 _ _ ⟨fun h => absurd h (nI_ge (b := 14) (by omega) (by omega)), fun _ => ?_⟩
    rw [e1, nI_clamp (n := 14 * g + q) (by omega), nI_1]
    refine ⟨vp_in_nI (by omega) (by omega), ih (q + 1) _ (by omega) (fun p hp => ?_) j2 j3 (fun g' hg' => ?_) (j5.up rfl)⟩
    · rw [up_a]
      by_cases z : p = q
      · rw [if_pos (by omega)]
      · rw [if_neg (by omega)]; exact j1 p (by omega)
    · obtain ⟨c1, c2, c3⟩ := j4 g' hg'
      refine ⟨fun p hp => ?_, c2, c3⟩
      rw [up_a, if_neg (by omega)]
      exact c1 p hp
theorem lM_lg2 {P : mm_I → Prop} {E : Nat → Int32} {I : mm_I} {m : Nat} (hE : ErI E m I) (hB : EB E m)
    (H : ∀ J, GrI E m ((m + 7) / 8) J → sm F_gr I J → P J) : ∀ (r g : Nat) (J : mm_I), g + r = (m + 7) / 8 → GrI E m g J → sm F_gr I J → mm_W 155 2 [some (.ref 58), some (.int (nI g)), none, none, none] [] J (mm_qv 155 P) := by
  have hm := hE.1
  intro r
  induction r with
  | zero =>
    intro g J hg j4 j5
    have hg : g = (m + 7) / 8 := by omega
    refine c_M_laysGroups_2 _ ⟨fun _ => H J (by rw [← hg]; exact j4) j5, fun h => ?_⟩
    rw [j5 58 22 rfl, hE.2.2.1] at h
    exact absurd h (nI_nlt (by omega) (by omega))
  | succ r ih =>
    intro g J hg j4 j5
    have vg := vp_in_nI (n := g) (N := 8) (by omega) (by omega)
    refine c_M_laysGroups_2 _ ⟨fun h => ?_, fun _ => ⟨vg, vg, ?_⟩⟩
    · rw [j5 58 22 rfl, hE.2.2.1] at h
      exact absurd h (nI_ge (by omega) (by omega))
    · rw [nI_clamp (by omega)]
      refine lM_lg26 hE hB (by omega) (fun J' a b => ih (g + 1) J' (by omega) a b) 14 0 _ (by omega) (fun p hp => absurd hp (Nat.not_lt_zero p)) ?_ ?_ (fun g' hg' => ?_) ((j5.up rfl).up rfl)
      · rw [up_o (by decide), up_a, if_pos rfl]
      · rw [up_a, if_pos rfl]
      · obtain ⟨c1, c2, c3⟩ := j4 g' hg'
        refine ⟨c1, ?_, ?_⟩
        · rw [up_o (by decide), up_a, if_neg (by omega)]; exact c2
        · rw [up_a, if_neg (by omega)]; exact c3
theorem sp_M_laysGroups {P : mm_I → Prop} {E : Nat → Int32} {I : mm_I} {m : Nat} (hE : ErI E m I) (hB : EB E m)
    (H : ∀ J, GrI E m ((m + 7) / 8) J → sm F_gr I J → P J) : mm_Mv 155 [.ref 58] I P :=
  e_M_laysGroups (lM_lg2 hE hB H ((m + 7) / 8) 0 I (by omega) (fun g hg => absurd hg (Nat.not_lt_zero g)) sm.rf)
