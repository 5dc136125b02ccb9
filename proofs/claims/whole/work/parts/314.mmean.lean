/-! floats that are no NaN and 0 or more -/
abbrev pD (d : FP.Core.Datum) : Prop := d = .inf false ∨ ∃ c q, d = .fin false c q
theorem pD_rr {f : FP.Core.Fmt} {A B : Nat} {e : Int} : pD (FP.Core.roundRatio f false A B e) := by
  unfold FP.Core.roundRatio FP.Core.roundAt FP.Core.settle FP.Core.bound
  split
  · exact Or.inr ⟨_, _, rfl⟩
  · split
    · split
      · exact Or.inr ⟨_, _, rfl⟩
      · exact Or.inl rfl
    · split
      · exact Or.inr ⟨_, _, rfl⟩
      · exact Or.inl rfl
theorem enc32 {d : FP.Core.Datum} (h : FP.Core.fits FP.Core.b32 d) (hp : pD d) : FP.Core.encode FP.Core.b32 d ≤ 2139095040 := by
  have t : FP.Core.b32.tails = 8388608 := by decide
  have x : FP.Core.b32.exps = 256 := by decide
  have q1 : FP.Core.b32.qmin = -149 := by decide
  have q2 : FP.Core.b32.qmax = 104 := by decide
  rcases hp with rfl | ⟨c, q, rfl⟩
  · show FP.Core.assemble FP.Core.b32 false (FP.Core.b32.exps - 1) 0 ≤ _
    unfold FP.Core.assemble
    rw [t, x]
    decide
  · obtain ⟨h1, h2, h3, h4⟩ := h
    have p2 : (2 : Nat) ^ FP.Core.b32.p = 16777216 := by decide
    rw [p2] at h1
    rw [q1] at h2
    rw [q2] at h3
    unfold FP.Core.encode FP.Core.assemble
    simp only [Bool.toNat_false, Nat.zero_mul, Nat.zero_add]
    rw [t, q1]
    by_cases z : c < 8388608
    · rw [if_pos z]; omega
    · rw [if_neg z]; omega
theorem vf32_of {r : UInt32} (h : pD (FP.Core.val32 r)) : vf_n32 r := by
  have hn : FP.Core.val32 r ≠ .nan := by
    intro z
    rw [z] at h
    rcases h with h | ⟨c, q, h⟩ <;> cases h
  have e := FP.Core.of32_val32 hn
  have b := enc32 (FP.Core.val32_fits r) h
  have hr : r.toNat ≤ 2139095040 := by
    rw [← e]
    unfold FP.Core.of32
    rw [UInt32.toNat_ofNat_of_lt' (by show _ < 4294967296; omega)]
    exact b
  unfold vf_n32
  rw [UInt32.le_iff_toNat_le, UInt32.toNat_and]
  exact Nat.le_trans Nat.and_le_left hr
/-- a whole number as a float -/
theorem i2f_v {n : Nat} (hn : n < 2147483648) : FP.Core.val32 (FP.i2f (nI n)) = FP.Core.roundRatio FP.Core.b32 false n 1 0 := by
  have := FP.Core.val32_i2f (nI n)
  rw [nI_toInt hn] at this
  rw [this]
  unfold FP.Core.ofInt FP.Core.round
  rw [show decide ((n : Int) < 0) = false from decide_eq_false (by omega)]
  rfl
/-- a number above 0 -/
def nzD (d : FP.Core.Datum) : Bool := match d with
  | .fin false (_ + 1) _ => true
  | _ => false
theorem nzD_i {m : Nat} (h1 : 1 ≤ m) (h2 : m < 1025) : nzD (FP.Core.val32 (FP.i2f (nI m))) = true := by
  have : ∀ m : Fin 1024, nzD (FP.Core.val32 (FP.i2f (nI (m.val + 1)))) = true := by decide +kernel
  have := this ⟨m - 1, by omega⟩
  rw [show m - 1 + 1 = m by omega] at this
  exact this
theorem pD_i {n : Nat} (hn : n < 2147483648) : pD (FP.Core.val32 (FP.i2f (nI n))) := by
  rw [i2f_v hn]
  exact pD_rr
theorem pD_div {a b : UInt32} (ha : pD (FP.Core.val32 a)) (hb : nzD (FP.Core.val32 b) = true) : pD (FP.Core.val32 (FP.fdiv a b)) := by
  have e : FP.Core.val32 (FP.fdiv a b) = _ := FP.Core.val32_fdiv a b
  rw [e]
  generalize FP.Core.val32 b = d at hb
  rcases ha with ha | ⟨c, q, ha⟩
  · rw [ha]
    match d, hb with
    | .fin false (k + 1) r, _ => exact Or.inl rfl
  · rw [ha]
    match d, hb with
    | .fin false (k + 1) r, _ =>
      have e2 : FP.Core.quotient FP.Core.b32 (.fin false c q) (.fin false (k + 1) r) = (if k + 1 = 0 then (if c = 0 then .nan else .inf (false != false)) else FP.Core.roundRatio FP.Core.b32 (false != false) c (k + 1) (q - r)) := rfl
      rw [e2, if_neg (by omega)]
      exact pD_rr
def szs (E : Nat → Int32) : Nat → Nat
  | 0 => 0
  | k + 1 => szs E k + (E k).toInt.natAbs
theorem szs_b {E : Nat → Int32} {m : Nat} (hB : EB E m) : ∀ k, k ≤ m → szs E k ≤ k * 8388608 := by
  intro k
  induction k with
  | zero => intro _; exact Nat.zero_le _
  | succ k ih =>
    intro hk
    have := ih (by omega)
    have b := hB k (by omega)
    show szs E k + (E k).toInt.natAbs ≤ _
    omega
theorem abs_I {v : Int32} (h : -8388608 ≤ v.toInt) : (if 0 ≤ v then (v : Int32) else -v) = nI v.toInt.natAbs := by
  have r := I_rng v
  refine tI_nI ?_ (by omega)
  by_cases q : 0 ≤ v
  · rw [if_pos q]
    rw [le_I] at q
    have q : 0 ≤ v.toInt := q
    omega
  · rw [if_neg q]
    rw [le_I] at q
    have q : ¬ 0 ≤ v.toInt := q
    rw [tI_neg (by omega)]
    omega
theorem lM_sizes {P : Int32 → mm_I → Prop} {E : Nat → Int32} {I : mm_I} {m : Nat} (hE : ErI E m I) (hB : EB E m) (H : P (nI (szs E m)) I) : ∀ (r k : Nat), k + r = m → mm_W 162 4 [some (.ref 58), some (.int (nI (szs E k))), some (.int (nI k))] [] I (mm_qi 162 P) := by
  have hm := hE.1
  intro r
  induction r with
  | zero =>
    intro k hk
    have hk : k = m := by omega
    subst hk
    refine c_M_sizes_4 _ _ ?_
    rw [hE.2.1]
    exact ⟨fun _ => H, fun h => absurd h (nI_nlt (by omega) (by omega))⟩
  | succ r ih =>
    intro k hk
    refine c_M_sizes_4 _ _ ?_
    rw [hE.2.1, nI_clamp (n := k) (by omega), hE.2.2.2 k (by omega), abs_I (hB k (by omega)).1, nI_add, nI_1]
    have v := vp_in_nI (n := k) (N := 64) (by omega) (by omega)
    exact ⟨fun h => absurd h (nI_ge (by omega) (by omega)), fun _ => ⟨v, fun _ => ⟨v, trivial⟩, fun _ => ⟨v, trivial⟩, ih (k + 1) (by omega)⟩⟩
theorem sp_M_sizes {P : Int32 → mm_I → Prop} {E : Nat → Int32} {I : mm_I} {m : Nat} (hE : ErI E m I) (hB : EB E m) (H : P (nI (szs E m)) I) : mm_Mi 162 [.ref 58] I P :=
  e_M_sizes (lM_sizes hE hB H m 0 (by omega))
/-- the mean -/
def mnF (E : Nat → Int32) (m : Nat) : UInt32 := FP.fdiv (FP.i2f (nI (szs E m))) (FP.i2f (nI m))
theorem mnF_p {E : Nat → Int32} {m : Nat} (hB : EB E m) (h1 : 1 ≤ m) (h2 : m ≤ 64) : pD (FP.Core.val32 (mnF E m)) := by
  have := szs_b hB m (Nat.le_refl m)
  exact pD_div (pD_i (by omega)) (nzD_i h1 (by omega))
theorem sp_M_meanNow {P : UInt32 → mm_I → Prop} {E : Nat → Int32} {I : mm_I} {m : Nat} (hE : ErI E m I) (hB : EB E m) (h1 : 1 ≤ m) (H : P (mnF E m) I) : mm_Mf 163 [.ref 58] I P := by
  refine e_M_meanNow (sp_M_sizes hE hB ?_)
  rw [hE.2.1]
  exact ⟨vf32_of (mnF_p hB h1 hE.1), H⟩
/-- powers of two as floats -/
def pwF : Nat → UInt32
  | 0 => FP.fconst1
  | k + 1 => FP.fmul (pwF k) FP.fconst2
theorem pwF_n {k : Nat} (h : k < 13) : vf_n32 (FP.fmul (pwF k) FP.fconst2) := by
  have : ∀ k : Fin 13, FP.fmul (pwF k.val) FP.fconst2 &&& 0x7fffffff ≤ 0x7f800000 := by decide +kernel
  exact this ⟨k, h⟩
/-- the parameter by the mean, k being tried -/
def byM (v : UInt32) : Nat → Nat → Nat
  | 0, k => k
  | r + 1, k => if (Op.cmpValue (FP.fcmp v (pwF k)) .l) < 0 then k else byM v r (k + 1)
theorem byM_le (v : UInt32) : ∀ r k, byM v r k ≤ k + r := by
  intro r
  induction r with
  | zero => intro k; exact Nat.le_refl k
  | succ r ih =>
    intro k
    have := ih (k + 1)
    show (if (Op.cmpValue (FP.fcmp v (pwF k)) .l) < 0 then k else byM v r (k + 1)) ≤ k + (r + 1)
    split
    · omega
    · omega
def mnP (E : Nat → Int32) (m : Nat) : Nat := if szs E m = 0 then 15 else byM (mnF E m) 13 0
theorem lM_runByMean {P : Int32 → mm_I → Prop} {I : mm_I} {v : UInt32} (H : ∀ p, p = byM v 13 0 → mm_Mi 156 [.ref 58, .int 0, .int (I 58 22), .int (nI p)] (mm_up (mm_up (mm_up I 58 29 1) 72 0 (I 58 22)) 73 0 (nI p)) (fun r79 I79 => P r79 (mm_up I79 74 0 r79))) : ∀ (r k : Nat), k + r = 13 → byM v r k = byM v 13 0 → mm_W 164 23 [some (.ref 58), some (.int (nI k)), some (.float v), some (.float (pwF k))] [] I (mm_qi 164 P) := by
  intro r
  induction r with
  | zero =>
    intro k hk hb
    have hk : k = 13 := by omega
    subst hk
    exact c_M_runByMean_23 _ _ _ ⟨fun _ => H 13 hb, fun h => absurd h (by decide)⟩
  | succ r ih =>
    intro k hk hb
    have eb : byM v (r + 1) k = if (Op.cmpValue (FP.fcmp v (pwF k)) .l) < 0 then k else byM v r (k + 1) := rfl
    refine c_M_runByMean_23 _ _ _ ⟨fun h => absurd h (nI_ge (b := 13) (by omega) (by omega)), fun _ => ⟨fun h => ?_, fun h => ⟨pwF_n (by omega), ?_⟩⟩⟩
    · rw [if_pos h] at eb
      exact H k (eb.symm.trans hb)
    · rw [if_neg (fa_nlt h)] at eb
      rw [nI_1]
      exact ih (k + 1) (by omega) (eb.symm.trans hb)
theorem szs_0 {E : Nat → Int32} : ∀ k, szs E k = 0 → ∀ i, i < k → fo (E i) = 0 := by
  intro k
  induction k with
  | zero => intro _ i hi; exact absurd hi (Nat.not_lt_zero i)
  | succ k ih =>
    intro h i hi
    have h : szs E k + (E k).toInt.natAbs = 0 := h
    by_cases q : i = k
    · subst q
      unfold fo
      rw [if_neg (by omega)]
      omega
    · exact ih (by omega) i (by omega)
theorem gZs_1 {E : Nat → Int32} {g : Nat} : ∀ k, (∀ i, i < k → fo (E (8 * g + i)) = 0) → gZs E g k = 1 := by
  intro k
  induction k with
  | zero => intro _; rfl
  | succ k ih =>
    intro h
    show (if fo (E (8 * g + k)) = 0 then gZs E g k else 0) = 1
    rw [if_pos (h k (by omega))]
    exact ih (fun i hi => h i (by omega))
theorem sZs_1 {E : Nat → Int32} {m a : Nat} : ∀ j, 8 * (a + j) ≤ m + 7 → (∀ i, i < m → fo (E i) = 0) → sZs E m a j = 1 := by
  intro j
  induction j with
  | zero => intro _ _; rfl
  | succ j ih =>
    intro hj h
    have i1 := ih (by omega) h
    have h9 := ig_m (m := m) (g := a + j) (by omega)
    have g1 := gZs_1 (E := E) (g := a + j) (ig m (a + j)) (fun i hi => h _ (by omega))
    show (if sZs E m a j = 0 then 0 else if gZs E (a + j) (ig m (a + j)) = 0 then 0 else 1) = 1
    rw [if_neg (by omega), if_neg (by omega)]
theorem sp_M_runByMean {P : Int32 → mm_I → Prop} {E : Nat → Int32} {I : mm_I} {m G : Nat} (hE : ErI E m I) (hB : EB E m) (hm1 : 1 ≤ m) (hGG : (m + 7) / 8 = G)
    (H : ∀ J, RuI 1 (fun _ => (0, G)) (fun _ => mnP E m) (fun _ => bbN E m 0 G (mnP E m)) J → sm F_cut I J → P (nI (bbN E m 0 G (mnP E m))) J) : mm_Mi 164 [.ref 58] I P := by
  subst hGG
  have hm := hE.1
  have sb := szs_b hB m (Nat.le_refl m)
  refine e_M_runByMean (sp_M_laysGroups hE hB (fun J1 a1 a2 => ?_))
  have hE1 : ErI E m J1 := ⟨hm, (a2 58 21 rfl).trans hE.2.1, (a2 58 22 rfl).trans hE.2.2.1, fun i hi => (a2 68 i rfl).trans (hE.2.2.2 i hi)⟩
  have fin : ∀ p, p = mnP E m → bbN E m 0 ((m + 7) / 8) p < 2147483648 → p < 16 → mm_Mi 156 [.ref 58, .int 0, .int (J1 58 22), .int (nI p)] (mm_up (mm_up (mm_up J1 58 29 1) 72 0 (J1 58 22)) 73 0 (nI p)) (fun r79 I79 => P r79 (mm_up I79 74 0 r79)) := fun p hp hok hp2 => by
    rw [hE1.2.2.1]
    have hG2 : GEI E m (mm_up (mm_up (mm_up J1 58 29 1) 72 0 (nI ((m + 7) / 8))) 73 0 (nI p)) := GEI_sm (F := F_ru) ⟨hE1, a1⟩ (((sm.rf.up rfl).up rfl).up rfl) rfl rfl (fun _ => rfl) (fun _ => rfl) (fun _ => rfl) (fun _ => rfl)
    refine sp_M_bitsBy (a := 0) (b := (m + 7) / 8) hG2 hB (by omega) (by omega) hp2 ?_
    rw [bbI_ok hok, hp]
    refine H _ ⟨rfl, fun k hk => ?_⟩ (fun a j h => ?_)
    · have hk : k = 0 := by omega
      subst hk
      exact ⟨rfl, rfl, rfl⟩
    · unfold F_cut at h
      rw [Bool.or_eq_false_iff, Bool.or_eq_false_iff] at h
      have q := (((((sm.rf (F := F_ru) (I := J1)).up (a := 58) (i := 29) (v := 1) rfl).up (a := 72) (i := 0) (v := nI ((m + 7) / 8)) rfl).up (a := 73) (i := 0) (v := nI (mnP E m)) rfl).up (a := 74) (i := 0) (v := nI (bbN E m 0 ((m + 7) / 8) (mnP E m))) rfl) a j h.2
      rw [q, a2 a j h.1.1]
  have ok14 : ∀ p, p < 15 → bbN E m 0 ((m + 7) / 8) p < 2147483648 := fun p hp => (bbN_b hm hB (by omega) (by omega) hp).1
  refine sp_M_sizes hE1 hB ⟨fun h => ?_, fun h => ?_⟩
  · have hz : szs E m = 0 := by
      have := (nI_leI (b := 0) (by omega) (by omega)).mp h
      omega
    have e15 : mnP E m = 15 := if_pos hz
    refine fin 15 e15.symm ?_ (by omega)
    unfold bbN
    rw [if_pos rfl, sZs_1 (E := E) (m := m) (a := 0) ((m + 7) / 8 - 0) (by omega) (szs_0 m hz), if_neg (by decide)]
    decide
  · have hz : ¬ szs E m = 0 := by
      have := (nI_ltI (a := 0) (by omega) (by omega)).mp h
      omega
    have eM : mnP E m = byM (mnF E m) 13 0 := if_neg hz
    have bl := byM_le (mnF E m) 13 0
    exact sp_M_meanNow hE1 hB hm1 (lM_runByMean (fun p hp => fin p (hp.trans eM.symm) (ok14 p (by omega)) (by omega)) 13 0 (by omega) rfl)
