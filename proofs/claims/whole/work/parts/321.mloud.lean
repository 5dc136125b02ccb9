theorem enc64 {d : FP.Core.Datum} (h : FP.Core.fits FP.Core.b64 d) (hp : pD d) : FP.Core.encode FP.Core.b64 d ≤ 9218868437227405312 := by
  have t : FP.Core.b64.tails = 4503599627370496 := by decide
  have x : FP.Core.b64.exps = 2048 := by decide
  have q1 : FP.Core.b64.qmin = -1074 := by decide
  have q2 : FP.Core.b64.qmax = 971 := by decide
  rcases hp with rfl | ⟨c, q, rfl⟩
  · show FP.Core.assemble FP.Core.b64 false (FP.Core.b64.exps - 1) 0 ≤ _
    unfold FP.Core.assemble
    rw [t, x]
    decide
  · obtain ⟨h1, h2, h3, h4⟩ := h
    have p2 : (2 : Nat) ^ FP.Core.b64.p = 9007199254740992 := by decide
    rw [p2] at h1
    rw [q1] at h2
    rw [q2] at h3
    unfold FP.Core.encode FP.Core.assemble
    simp only [Bool.toNat_false, Nat.zero_mul, Nat.zero_add]
    rw [t, q1]
    by_cases z : c < 4503599627370496
    · rw [if_pos z]; omega
    · rw [if_neg z]; omega
theorem vf64_of {r : UInt64} (h : pD (FP.Core.val64 r)) : vf_n64 r := by
  have hn : FP.Core.val64 r ≠ .nan := by
    intro z
    rw [z] at h
    rcases h with h | ⟨c, q, h⟩ <;> cases h
  have e := FP.Core.of64_val64 hn
  have b := enc64 (FP.Core.val64_fits r) h
  have hr : r.toNat ≤ 9218868437227405312 := by
    rw [← e]
    unfold FP.Core.of64
    rw [UInt64.toNat_ofNat_of_lt' (by show _ < 18446744073709551616; omega)]
    exact b
  unfold vf_n64
  rw [UInt64.le_iff_toNat_le, UInt64.toNat_and]
  exact Nat.le_trans Nat.and_le_left hr
theorem nzD_d {m : Nat} (h1 : 1 ≤ m) (h2 : m ≤ 256) : nzD (FP.Core.val64 (FP.i2d (nI m))) = true := by
  have : ∀ m : Fin 256, nzD (FP.Core.val64 (FP.i2d (nI (m.val + 1)))) = true := by decide +kernel
  have := this ⟨m - 1, by omega⟩
  rw [show m - 1 + 1 = m by omega] at this
  exact this
theorem pD_l {a : Int64} (h : 0 ≤ a.toInt) : pD (FP.Core.val64 (FP.l2d a)) := by
  have e : FP.Core.val64 (FP.l2d a) = _ := FP.Core.val64_l2d a
  rw [e]
  unfold FP.Core.ofInt FP.Core.round
  rw [show decide (a.toInt < 0) = false from decide_eq_false (by omega)]
  exact pD_rr
theorem pD_ddiv {a b : UInt64} (ha : pD (FP.Core.val64 a)) (hb : nzD (FP.Core.val64 b) = true) : pD (FP.Core.val64 (FP.ddiv a b)) := by
  have e : FP.Core.val64 (FP.ddiv a b) = _ := FP.Core.val64_ddiv a b
  rw [e]
  generalize FP.Core.val64 b = d at hb
  rcases ha with ha | ⟨c, q, ha⟩
  · rw [ha]
    match d, hb with
    | .fin false (k + 1) r, _ => exact Or.inl rfl
  · rw [ha]
    match d, hb with
    | .fin false (k + 1) r, _ =>
      have e2 : FP.Core.quotient FP.Core.b64 (.fin false c q) (.fin false (k + 1) r) = (if k + 1 = 0 then (if c = 0 then .nan else .inf (false != false)) else FP.Core.roundRatio FP.Core.b64 (false != false) c (k + 1) (q - r)) := rfl
      rw [e2, if_neg (by omega)]
      exact pD_rr
theorem cmp_ge64 {r : UInt64} (h : pD (FP.Core.val64 r)) : (Op.cmpValue (FP.dcmp r r) .l) = 0 := by
  have e : FP.dcmp r r = FP.Core.order (FP.Core.val64 r) (FP.Core.val64 r) := rfl
  rw [e]
  rcases h with z | ⟨c, q, z⟩
  · rw [z]
    rfl
  · rw [z]
    unfold FP.Core.order
    simp only [cmpI_s]
    rfl
theorem sp_doubleBits {P : Int64 → mm_I → Prop} {I : mm_I} {v : UInt64} (h : pD (FP.Core.val64 v)) (H : P v.toInt64 I) : mm_Ml 221 [.double v] I P := by
  refine e_Double_doubleToLongBits v (e_Double_isNaN v ?_)
  rw [cmp_ge64 h, if_pos rfl]
  exact ⟨Or.inl rfl, fun z => absurd rfl z, fun _ => H⟩
def lds (x : Nat → Int32) : Nat → Int64
  | 0 => 0
  | k + 1 => lds x k + (x k).toInt64 * (x k).toInt64
theorem lds_b {x : Nat → Int32} {n : Nat} (hn : n ≤ 256) (hx : ∀ i, i < n → -32768 ≤ (x i).toInt ∧ (x i).toInt ≤ 32767) : ∀ k, k ≤ n → 0 ≤ (lds x k).toInt ∧ (lds x k).toInt ≤ 1073741824 * (k : Int) := by
  intro k
  induction k with
  | zero => intro _; show 0 ≤ (0 : Int64).toInt ∧ (0 : Int64).toInt ≤ 1073741824 * ((0 : Nat) : Int); decide
  | succ k ih =>
    intro hk
    have i1 := ih (by omega)
    have b := hx k (by omega)
    have p1 : 0 ≤ (x k).toInt * (x k).toInt := by
      rcases Int.le_total 0 (x k).toInt with z | z
      · exact Int.mul_nonneg z z
      · exact Int.mul_nonneg_of_nonpos_of_nonpos z z
    have p2 : ((x k).toInt * (x k).toInt).natAbs ≤ 32768 * 32768 := by
      rw [Int.natAbs_mul]
      exact Nat.mul_le_mul (by omega) (by omega)
    have e1 : ((x k).toInt64 * (x k).toInt64).toInt = (x k).toInt * (x k).toInt := by
      rw [Int64.toInt_mul, Int32.toInt_toInt64]
      exact Int.bmod_eq_of_le (by omega) (by omega)
    have e2 : (lds x k + (x k).toInt64 * (x k).toInt64).toInt = (lds x k).toInt + (x k).toInt * (x k).toInt := by
      rw [Int64.toInt_add, e1]
      exact Int.bmod_eq_of_le (by omega) (by omega)
    show 0 ≤ (lds x k + (x k).toInt64 * (x k).toInt64).toInt ∧ (lds x k + (x k).toInt64 * (x k).toInt64).toInt ≤ 1073741824 * ((k + 1 : Nat) : Int)
    rw [e2]
    omega
def ldF (A : sA) (c : Nat) : UInt64 := FP.ddiv (FP.l2d (lds (s_sm A c) (s_cn A c))) (FP.i2d (nI (s_cn A c)))
abbrev okL (A : sA) (x z : Int32) : Prop := (0 ≤ x ∧ x ≤ nI (s_ch A) - 1) ∧ (0 ≤ z ∧ z ≤ 1) ∧ s_cn A x.toNatClampNeg ≠ 0
def oLoud (A : sA) (x z : Int32) : Int32 × sA := (if okL A x z then (if z = 0 then (((ldF A x.toNatClampNeg).toInt64 >>> ((32 : Int32).toInt64 &&& 63)).toInt32 : Int32) else (ldF A x.toNatClampNeg).toInt64.toInt32) else 0, A)
theorem ldF_p {A : sA} (hV : VA A) {c : Nat} (hc : c < s_ch A) (h0 : s_cn A c ≠ 0) : pD (FP.Core.val64 (ldF A c)) := by
  have hch := hV.ch
  have hcn := hV.cn (c := c) (by omega)
  have b := lds_b (x := s_sm A c) hcn (fun i hi => hV.sm hc hi) (s_cn A c) (Nat.le_refl _)
  exact pD_ddiv (pD_l b.1) (nzD_d (by omega) hcn)
theorem lM_loud {P : Int32 → mm_I → Prop} {A : sA} {I : mm_I} {c : Nat} {z : Int32} (hR : RM A I) (hV : VA A) (hc : c < s_ch A) (h0 : s_cn A c ≠ 0)
    (H : P (if z = 0 then (((ldF A c).toInt64 >>> ((32 : Int32).toInt64 &&& 63)).toInt32 : Int32) else (ldF A c).toInt64.toInt32) I) : ∀ (r k : Nat), k + r = s_cn A c → mm_W 219 43 [some (.ref 58), some (.int (nI c)), some (.int z), some (.long (lds (s_sm A c) k)), none, some (.int (nI k)), none] [] I (mm_qi 219 P) := by
  have hch := hV.ch
  have hcn := hV.cn (c := c) (by omega)
  have vc := vp_in_nI (n := c) (N := 2) (by omega) (by omega)
  have e61 : I 61 (nI c).toNatClampNeg = nI (s_cn A c) := by rw [nI_clamp (by omega)]; exact hR.2.1.2.2.2.1 c hc
  intro r
  induction r with
  | zero =>
    intro k hk
    have hk : k = s_cn A c := by omega
    refine c_M_loud_43 _ _ _ _ ⟨vc, ?_⟩
    rw [e61, hk]
    have hp := ldF_p hV hc h0
    exact ⟨fun _ => ⟨vc, vf64_of hp, sp_doubleBits hp H⟩, fun h => absurd h (nI_nlt (by omega) (by omega))⟩
  | succ r ih =>
    intro k hk
    refine c_M_loud_43 _ _ _ _ ⟨vc, ?_⟩
    rw [e61, ix512 (by omega) (by omega), nI_clamp (n := 256 * c + k) (by omega), hR.2.1.2.2.2.2 c k hc (by omega), nI_1]
    have v := vp_in_nI (n := 256 * c + k) (N := 512) (by omega) (by omega)
    exact ⟨fun h => absurd h (nI_ge (by omega) (by omega)), fun _ => ⟨v, v, ih (k + 1) (by omega)⟩⟩
theorem oM_loud {A : sA} {I : mm_I} {x z : Int32} (hR : RM A I) (hV : VA A) : mm_Mi 219 [.ref 58, .int x, .int z] I (oT (oLoud A x z) (if okL A x z then 0 else 1) RM FM I) := by
  have hch := hV.ch
  have no : ¬ okL A x z → oT (oLoud A x z) (if okL A x z then 0 else 1) RM FM I 0 (mm_up I 58 16 1) := fun h => ⟨fin0 hR (by rw [if_neg h]), by rw [if_neg h]; rfl⟩
  refine e_M_loud x z (sp_M_isChannel ⟨fun h => no fun w => (b1_0.mp h) ?_, fun h => sp_M_within ⟨fun h2 => no fun w => (b1_0.mp h2) w.2.1, fun h2 => ?_⟩⟩)
  · have := w.1
    rw [← hR.2.1.1] at this
    exact this
  · have hx := b1_n h
    have hx : 0 ≤ x ∧ x ≤ I 58 4 - 1 := hx
    rw [hR.2.1.1] at hx
    have hx0 := hx
    obtain ⟨c, hc, rfl⟩ := (nch hch x).mp hx
    have cc : (nI c).toNatClampNeg = c := nI_clamp (by omega)
    have hcn := hV.cn (c := c) (by omega)
    have e61 : (mm_up I 58 16 1) 61 (nI c).toNatClampNeg = nI (s_cn A c) := by rw [cc]; exact hR.2.1.2.2.2.1 c hc
    rw [e61]
    refine ⟨vp_in_nI (by omega) (by omega), fun h3 => ?_, fun h3 => no fun w => w.2.2 ?_⟩
    · have h0 : s_cn A c ≠ 0 := fun y => h3 (by rw [y]; rfl)
      have ok : okL A (nI c) z := ⟨hx0, b1_n h2, by rw [cc]; exact h0⟩
      have hR2 : RM A (mm_up (mm_up I 58 16 1) 58 16 0) := hR.th.th
      refine lM_loud hR2 hV hc h0 ⟨⟨?_, hR2, (FM.rf.up (by omega)).up (by omega)⟩, by rw [if_pos ok]; rfl⟩ (s_cn A c) 0 (by omega)
      unfold oLoud
      rw [if_pos ok, cc]
    · rw [cc]
      exact (nI_eq (b := 0) (by omega) (by omega)).mp h3
