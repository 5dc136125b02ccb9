/-! floats: halved and doubled exactly -/
theorem fxfits {c : Nat} {q : Int} (h1 : c < 16777216) (h2 : 8388608 ≤ c) (h3 : -149 ≤ q) (h4 : q ≤ 104) : FP.Core.fits FP.Core.b32 (.fin false c q) := by
  have t : FP.Core.b32.tails = 8388608 := by decide
  have p2 : (2 : Nat) ^ FP.Core.b32.p = 16777216 := by decide
  have q1 : FP.Core.b32.qmin = -149 := by decide
  have q2 : FP.Core.b32.qmax = 104 := by decide
  exact ⟨by rw [p2]; exact h1, by rw [q1]; exact h3, by rw [q2]; exact h4, Or.inr (by rw [t]; exact h2)⟩
/-- a number that is not too small -/
abbrev fxN (v : UInt32) (c : Nat) (q : Int) : Prop := FP.Core.val32 v = .fin false c q ∧ 8388608 ≤ c ∧ c < 16777216
theorem fxN_q {v : UInt32} {c : Nat} {q : Int} (h : fxN v c q) : -149 ≤ q ∧ q ≤ 104 := by
  have f := FP.Core.val32_fits v
  rw [h.1] at f
  have q1 : FP.Core.b32.qmin = -149 := by decide
  have q2 : FP.Core.b32.qmax = 104 := by decide
  have f2 := f.2.1
  have f3 := f.2.2.1
  rw [q1] at f2
  rw [q2] at f3
  exact ⟨f2, f3⟩
theorem fxN_p {v : UInt32} {c : Nat} {q : Int} (h : fxN v c q) : pD (FP.Core.val32 v) := Or.inr ⟨c, q, h.1⟩
theorem fxhf {v : UInt32} {c : Nat} {q : Int} (h : fxN v c q) (hq : -149 + 1 ≤ q) : fxN (FP.fdiv v FP.fconst2) c (q - 1) := by
  have qq := fxN_q h
  have two : FP.Core.val32 FP.fconst2 = .fin false 8388608 (-22) := by decide +kernel
  refine ⟨?_, h.2⟩
  rw [FP.Core.val32_fdiv, h.1, two]
  show (if 8388608 = 0 then (if c = 0 then FP.Core.Datum.nan else FP.Core.Datum.inf (false != false)) else FP.Core.roundRatio FP.Core.b32 (false != false) c 8388608 (q - (-22))) = _
  rw [if_neg (by decide)]
  refine FP.Core.roundRatio_exact FP.Core.good_b32 (by decide) (fxfits h.2.2 h.2.1 (by omega) (by omega)) ?_
  rw [show (q - (-22) - (q - 1)).toNat = 23 by omega, show (q - 1 - (q - (-22))).toNat = 0 by omega, Nat.pow_zero, Nat.mul_one]
theorem fxdb {v : UInt32} {c : Nat} {q : Int} (h : fxN v c q) (hq : q ≤ 104 - 1) : fxN (FP.fmul v FP.fconst2) c (q + 1) := by
  have qq := fxN_q h
  have two : FP.Core.val32 FP.fconst2 = .fin false 8388608 (-22) := by decide +kernel
  refine ⟨?_, h.2⟩
  rw [FP.Core.val32_fmul, h.1, two]
  show FP.Core.roundRatio FP.Core.b32 (false != false) (c * 8388608) 1 (q + (-22)) = _
  refine FP.Core.roundRatio_exact FP.Core.good_b32 (by decide) (fxfits h.2.2 h.2.1 (by omega) (by omega)) ?_
  rw [show (q + (-22) - (q + 1)).toNat = 0 by omega, show (q + 1 - (q + (-22))).toNat = 23 by omega, Nat.pow_zero, Nat.mul_one, Nat.mul_one]
theorem fxup {v : UInt32} {c : Nat} (h : fxN v c (-23)) : fxN (FP.fmul v 1258291200) c 0 := by
  have two : FP.Core.val32 1258291200 = .fin false 8388608 0 := by decide +kernel
  refine ⟨?_, h.2⟩
  rw [FP.Core.val32_fmul, h.1, two]
  show FP.Core.roundRatio FP.Core.b32 (false != false) (c * 8388608) 1 (-23 + 0) = _
  refine FP.Core.roundRatio_exact FP.Core.good_b32 (by decide) (fxfits h.2.2 h.2.1 (by omega) (by omega)) ?_
  rw [show (-23 + 0 - (0 : Int)).toNat = 0 by omega, show ((0 : Int) - (-23 + 0)).toNat = 23 by omega, Nat.pow_zero, Nat.mul_one, Nat.mul_one]
theorem fxcm {v : UInt32} {c : Nat} {q : Int} (h : fxN v c q) {k : UInt32} {r : Int} (hk : FP.Core.val32 k = .fin false 8388608 r) : (q < r → FP.fcmp v k = some .lt) ∧ (r ≤ q → FP.fcmp v k = some .lt → False) := by
  have e : FP.fcmp v k = some (compare ((c * 2 ^ (q - min q r).toNat : Nat) : Int) ((8388608 * 2 ^ (r - min q r).toNat : Nat) : Int)) := by
    show FP.Core.order (FP.Core.val32 v) (FP.Core.val32 k) = _
    rw [h.1, hk]
    rfl
  rw [e]
  refine ⟨fun z => ?_, fun z y => ?_⟩
  · congr 1
    rw [(cmpI _ _).2]
    rw [show min q r = q by omega, show (q - q).toNat = 0 by omega, Nat.pow_zero, Nat.mul_one]
    obtain ⟨d, hd⟩ : ∃ d, (r - q).toNat = d + 1 := ⟨(r - q).toNat - 1, by omega⟩
    rw [hd, Nat.pow_succ]
    have := Nat.two_pow_pos d
    have k1 : 8388608 * (2 ^ d * 2) = 16777216 * 2 ^ d := by
      rw [Nat.mul_comm (2 ^ d) 2, ← Nat.mul_assoc]
    rw [k1]
    have k2 : 16777216 * 1 ≤ 16777216 * 2 ^ d := Nat.mul_le_mul_left _ this
    have := h.2.2
    omega
  · have y := Option.some.inj y
    rw [(cmpI _ _).2] at y
    rw [show min q r = r by omega, show (r - r).toNat = 0 by omega, Nat.pow_zero, Nat.mul_one] at y
    have p := Nat.two_pow_pos (q - r).toNat
    have k2 : c * 1 ≤ c * 2 ^ (q - r).toNat := Nat.mul_le_mul_left _ p
    have := h.2.1
    omega
theorem fxbits {v : UInt32} {c : Nat} {q : Int} (h : fxN v c q) : v = UInt32.ofNat (((q - -149).toNat + 1) * 8388608 + (c - 8388608)) := by
  have hn : FP.Core.val32 v ≠ .nan := by rw [h.1]; intro z; cases z
  have e := FP.Core.of32_val32 hn
  rw [h.1] at e
  rw [← e]
  have t : FP.Core.b32.tails = 8388608 := by decide
  have q1 : FP.Core.b32.qmin = -149 := by decide
  have h1 := h.2.1
  unfold FP.Core.of32 FP.Core.encode FP.Core.assemble
  rw [t, q1]
  show UInt32.ofNat (if c < 8388608 then (false.toNat * FP.Core.b32.exps + 0) * 8388608 + c else (false.toNat * FP.Core.b32.exps + ((q - -149).toNat + 1)) * 8388608 + (c - 8388608)) = _
  rw [if_neg (by omega)]
  simp only [Bool.toNat_false, Nat.zero_mul, Nat.zero_add]
theorem fxz {v : UInt32} (h : FP.Core.val32 v = .fin false 0 (-149)) : v = 0 := by
  have hn : FP.Core.val32 v ≠ .nan := by rw [h]; intro z; cases z
  have e := FP.Core.of32_val32 hn
  rw [h] at e
  rw [← e]
  decide +kernel
theorem rn_b32 {s : Bool} {A B : Nat} {e lo hi : Int} (hA : 0 < A) (hB : 0 < B) (h1 : ¬ FP.Core.Below A B (lo - e)) (h2 : FP.Core.Below A B (hi - e)) (h3 : -149 + 23 ≤ lo) (h4 : hi - 23 ≤ 104) : ∃ c q, FP.Core.roundRatio FP.Core.b32 s A B e = .fin s c q ∧ 8388608 ≤ c ∧ c < 16777216 ∧ lo - 23 ≤ q ∧ q ≤ hi - 23 := by
  have t : FP.Core.b32.tails = 8388608 := by decide
  have p2 : (2 : Nat) ^ FP.Core.b32.p = 16777216 := by decide
  have pp : FP.Core.b32.p = 23 + 1 := by decide
  have q1 : FP.Core.b32.qmin = -149 := by decide
  have q2 : FP.Core.b32.qmax = 104 := by decide
  have ls := FP.Core.leading_spec hA hB
  have l1 := FP.Core.lt_of_below h1 ls.2
  have l2 := FP.Core.lt_of_below ls.1 h2
  have Q : FP.Core.quantum FP.Core.b32 A B e = FP.Core.leading A B + e - 23 := by
    unfold FP.Core.quantum
    rw [q1, pp]
    omega
  have lowN : 8388608 ≤ FP.Core.nearest (FP.Core.unitsNum A e (FP.Core.quantum FP.Core.b32 A B e)) (FP.Core.unitsDen B e (FP.Core.quantum FP.Core.b32 A B e)) := by
    refine FP.Core.nearest_ge (FP.Core.unitsDen_pos hB _ _) ?_
    have nb : ¬ FP.Core.Below A B (FP.Core.quantum FP.Core.b32 A B e - e + (23 : Nat)) := by
      rw [Q, show FP.Core.leading A B + e - 23 - e + ((23 : Nat) : Int) = FP.Core.leading A B by omega]
      exact ls.1
    rw [← FP.Core.units_below] at nb
    have e2 : (2 : Nat) ^ 23 = 8388608 := by decide
    rw [e2] at nb
    omega
  unfold FP.Core.roundRatio
  rw [if_neg (by omega)]
  unfold FP.Core.roundAt FP.Core.settle FP.Core.bound
  rw [p2, t, q2]
  by_cases z : FP.Core.nearest (FP.Core.unitsNum A e (FP.Core.quantum FP.Core.b32 A B e)) (FP.Core.unitsDen B e (FP.Core.quantum FP.Core.b32 A B e)) < 16777216
  · rw [if_pos z, if_pos (by rw [Q]; omega)]
    exact ⟨_, _, rfl, lowN, z, by rw [Q]; omega, by rw [Q]; omega⟩
  · rw [if_neg z, if_pos (by rw [Q]; omega)]
    exact ⟨_, _, rfl, Nat.le_refl _, by decide, by rw [Q]; omega, by rw [Q]; omega⟩
theorem fxdv {a b : UInt32} {c d : Nat} {q r : Int} (ha : fxN a c q) (hb : fxN b d r) (h1 : -149 + 23 + 1 ≤ q - r) (h2 : q - r + 1 - 23 ≤ 104) : ∃ c' q', fxN (FP.fdiv a b) c' q' := by
  have e : FP.Core.val32 (FP.fdiv a b) = FP.Core.roundRatio FP.Core.b32 (false != false) c d (q - r) := by
    rw [FP.Core.val32_fdiv, ha.1, hb.1]
    show (if d = 0 then _ else _) = _
    rw [if_neg (by have := hb.2.1; omega)]
  have a1 := ha.2.1
  have a2 := ha.2.2
  have b1 := hb.2.1
  have b2 := hb.2.2
  obtain ⟨c', q', k1, k2, k3, _⟩ := rn_b32 (s := (false != false)) (A := c) (B := d) (e := q - r) (lo := q - r - 1) (hi := q - r + 1) (by omega) (by omega) (by
    rw [show q - r - 1 - (q - r) = ((0 : Nat) : Int) - (1 : Nat) by omega, FP.Core.below_iff]
    omega) (by
    rw [show q - r + 1 - (q - r) = ((1 : Nat) : Int) - (0 : Nat) by omega, FP.Core.below_iff]
    omega) (by omega) (by omega)
  exact ⟨c', q', by rw [e]; exact k1, k2, k3⟩
theorem dxfits {c : Nat} {q : Int} (h1 : c < 9007199254740992) (h2 : 4503599627370496 ≤ c) (h3 : -1074 ≤ q) (h4 : q ≤ 971) : FP.Core.fits FP.Core.b64 (.fin false c q) := by
  have t : FP.Core.b64.tails = 4503599627370496 := by decide
  have p2 : (2 : Nat) ^ FP.Core.b64.p = 9007199254740992 := by decide
  have q1 : FP.Core.b64.qmin = -1074 := by decide
  have q2 : FP.Core.b64.qmax = 971 := by decide
  exact ⟨by rw [p2]; exact h1, by rw [q1]; exact h3, by rw [q2]; exact h4, Or.inr (by rw [t]; exact h2)⟩
/-- a number that is not too small -/
abbrev dxN (v : UInt64) (c : Nat) (q : Int) : Prop := FP.Core.val64 v = .fin false c q ∧ 4503599627370496 ≤ c ∧ c < 9007199254740992
theorem dxN_q {v : UInt64} {c : Nat} {q : Int} (h : dxN v c q) : -1074 ≤ q ∧ q ≤ 971 := by
  have f := FP.Core.val64_fits v
  rw [h.1] at f
  have q1 : FP.Core.b64.qmin = -1074 := by decide
  have q2 : FP.Core.b64.qmax = 971 := by decide
  have f2 := f.2.1
  have f3 := f.2.2.1
  rw [q1] at f2
  rw [q2] at f3
  exact ⟨f2, f3⟩
theorem dxN_p {v : UInt64} {c : Nat} {q : Int} (h : dxN v c q) : pD (FP.Core.val64 v) := Or.inr ⟨c, q, h.1⟩
theorem dxhf {v : UInt64} {c : Nat} {q : Int} (h : dxN v c q) (hq : -1074 + 1 ≤ q) : dxN (FP.ddiv v 4611686018427387904) c (q - 1) := by
  have qq := dxN_q h
  have two : FP.Core.val64 4611686018427387904 = .fin false 4503599627370496 (-51) := by decide +kernel
  refine ⟨?_, h.2⟩
  rw [FP.Core.val64_ddiv, h.1, two]
  show (if 4503599627370496 = 0 then (if c = 0 then FP.Core.Datum.nan else FP.Core.Datum.inf (false != false)) else FP.Core.roundRatio FP.Core.b64 (false != false) c 4503599627370496 (q - (-51))) = _
  rw [if_neg (by decide)]
  refine FP.Core.roundRatio_exact FP.Core.good_b64 (by decide) (dxfits h.2.2 h.2.1 (by omega) (by omega)) ?_
  rw [show (q - (-51) - (q - 1)).toNat = 52 by omega, show (q - 1 - (q - (-51))).toNat = 0 by omega, Nat.pow_zero, Nat.mul_one]
theorem dxdb {v : UInt64} {c : Nat} {q : Int} (h : dxN v c q) (hq : q ≤ 971 - 1) : dxN (FP.dmul v 4611686018427387904) c (q + 1) := by
  have qq := dxN_q h
  have two : FP.Core.val64 4611686018427387904 = .fin false 4503599627370496 (-51) := by decide +kernel
  refine ⟨?_, h.2⟩
  rw [FP.Core.val64_dmul, h.1, two]
  show FP.Core.roundRatio FP.Core.b64 (false != false) (c * 4503599627370496) 1 (q + (-51)) = _
  refine FP.Core.roundRatio_exact FP.Core.good_b64 (by decide) (dxfits h.2.2 h.2.1 (by omega) (by omega)) ?_
  rw [show (q + (-51) - (q + 1)).toNat = 0 by omega, show (q + 1 - (q + (-51))).toNat = 52 by omega, Nat.pow_zero, Nat.mul_one, Nat.mul_one]
theorem dxup {v : UInt64} {c : Nat} (h : dxN v c (-52)) : dxN (FP.dmul v 4841369599423283200) c 0 := by
  have two : FP.Core.val64 4841369599423283200 = .fin false 4503599627370496 0 := by decide +kernel
  refine ⟨?_, h.2⟩
  rw [FP.Core.val64_dmul, h.1, two]
  show FP.Core.roundRatio FP.Core.b64 (false != false) (c * 4503599627370496) 1 (-52 + 0) = _
  refine FP.Core.roundRatio_exact FP.Core.good_b64 (by decide) (dxfits h.2.2 h.2.1 (by omega) (by omega)) ?_
  rw [show (-52 + 0 - (0 : Int)).toNat = 0 by omega, show ((0 : Int) - (-52 + 0)).toNat = 52 by omega, Nat.pow_zero, Nat.mul_one, Nat.mul_one]
theorem dxcm {v : UInt64} {c : Nat} {q : Int} (h : dxN v c q) {k : UInt64} {r : Int} (hk : FP.Core.val64 k = .fin false 4503599627370496 r) : (q < r → FP.dcmp v k = some .lt) ∧ (r ≤ q → FP.dcmp v k = some .lt → False) := by
  have e : FP.dcmp v k = some (compare ((c * 2 ^ (q - min q r).toNat : Nat) : Int) ((4503599627370496 * 2 ^ (r - min q r).toNat : Nat) : Int)) := by
    show FP.Core.order (FP.Core.val64 v) (FP.Core.val64 k) = _
    rw [h.1, hk]
    rfl
  rw [e]
  refine ⟨fun z => ?_, fun z y => ?_⟩
  · congr 1
    rw [(cmpI _ _).2]
    rw [show min q r = q by omega, show (q - q).toNat = 0 by omega, Nat.pow_zero, Nat.mul_one]
    obtain ⟨d, hd⟩ : ∃ d, (r - q).toNat = d + 1 := ⟨(r - q).toNat - 1, by omega⟩
    rw [hd, Nat.pow_succ]
    have := Nat.two_pow_pos d
    have k1 : 4503599627370496 * (2 ^ d * 2) = 9007199254740992 * 2 ^ d := by
      rw [Nat.mul_comm (2 ^ d) 2, ← Nat.mul_assoc]
    rw [k1]
    have k2 : 9007199254740992 * 1 ≤ 9007199254740992 * 2 ^ d := Nat.mul_le_mul_left _ this
    have := h.2.2
    omega
  · have y := Option.some.inj y
    rw [(cmpI _ _).2] at y
    rw [show min q r = r by omega, show (r - r).toNat = 0 by omega, Nat.pow_zero, Nat.mul_one] at y
    have p := Nat.two_pow_pos (q - r).toNat
    have k2 : c * 1 ≤ c * 2 ^ (q - r).toNat := Nat.mul_le_mul_left _ p
    have := h.2.1
    omega
theorem dxbits {v : UInt64} {c : Nat} {q : Int} (h : dxN v c q) : v = UInt64.ofNat (((q - -1074).toNat + 1) * 4503599627370496 + (c - 4503599627370496)) := by
  have hn : FP.Core.val64 v ≠ .nan := by rw [h.1]; intro z; cases z
  have e := FP.Core.of64_val64 hn
  rw [h.1] at e
  rw [← e]
  have t : FP.Core.b64.tails = 4503599627370496 := by decide
  have q1 : FP.Core.b64.qmin = -1074 := by decide
  have h1 := h.2.1
  unfold FP.Core.of64 FP.Core.encode FP.Core.assemble
  rw [t, q1]
  show UInt64.ofNat (if c < 4503599627370496 then (false.toNat * FP.Core.b64.exps + 0) * 4503599627370496 + c else (false.toNat * FP.Core.b64.exps + ((q - -1074).toNat + 1)) * 4503599627370496 + (c - 4503599627370496)) = _
  rw [if_neg (by omega)]
  simp only [Bool.toNat_false, Nat.zero_mul, Nat.zero_add]
theorem dxz {v : UInt64} (h : FP.Core.val64 v = .fin false 0 (-1074)) : v = 0 := by
  have hn : FP.Core.val64 v ≠ .nan := by rw [h]; intro z; cases z
  have e := FP.Core.of64_val64 hn
  rw [h] at e
  rw [← e]
  decide +kernel
theorem rn_b64 {s : Bool} {A B : Nat} {e lo hi : Int} (hA : 0 < A) (hB : 0 < B) (h1 : ¬ FP.Core.Below A B (lo - e)) (h2 : FP.Core.Below A B (hi - e)) (h3 : -1074 + 52 ≤ lo) (h4 : hi - 52 ≤ 971) : ∃ c q, FP.Core.roundRatio FP.Core.b64 s A B e = .fin s c q ∧ 4503599627370496 ≤ c ∧ c < 9007199254740992 ∧ lo - 52 ≤ q ∧ q ≤ hi - 52 := by
  have t : FP.Core.b64.tails = 4503599627370496 := by decide
  have p2 : (2 : Nat) ^ FP.Core.b64.p = 9007199254740992 := by decide
  have pp : FP.Core.b64.p = 52 + 1 := by decide
  have q1 : FP.Core.b64.qmin = -1074 := by decide
  have q2 : FP.Core.b64.qmax = 971 := by decide
  have ls := FP.Core.leading_spec hA hB
  have l1 := FP.Core.lt_of_below h1 ls.2
  have l2 := FP.Core.lt_of_below ls.1 h2
  have Q : FP.Core.quantum FP.Core.b64 A B e = FP.Core.leading A B + e - 52 := by
    unfold FP.Core.quantum
    rw [q1, pp]
    omega
  have lowN : 4503599627370496 ≤ FP.Core.nearest (FP.Core.unitsNum A e (FP.Core.quantum FP.Core.b64 A B e)) (FP.Core.unitsDen B e (FP.Core.quantum FP.Core.b64 A B e)) := by
    refine FP.Core.nearest_ge (FP.Core.unitsDen_pos hB _ _) ?_
    have nb : ¬ FP.Core.Below A B (FP.Core.quantum FP.Core.b64 A B e - e + (52 : Nat)) := by
      rw [Q, show FP.Core.leading A B + e - 52 - e + ((52 : Nat) : Int) = FP.Core.leading A B by omega]
      exact ls.1
    rw [← FP.Core.units_below] at nb
    have e2 : (2 : Nat) ^ 52 = 4503599627370496 := by decide
    rw [e2] at nb
    omega
  unfold FP.Core.roundRatio
  rw [if_neg (by omega)]
  unfold FP.Core.roundAt FP.Core.settle FP.Core.bound
  rw [p2, t, q2]
  by_cases z : FP.Core.nearest (FP.Core.unitsNum A e (FP.Core.quantum FP.Core.b64 A B e)) (FP.Core.unitsDen B e (FP.Core.quantum FP.Core.b64 A B e)) < 9007199254740992
  · rw [if_pos z, if_pos (by rw [Q]; omega)]
    exact ⟨_, _, rfl, lowN, z, by rw [Q]; omega, by rw [Q]; omega⟩
  · rw [if_neg z, if_pos (by rw [Q]; omega)]
    exact ⟨_, _, rfl, Nat.le_refl _, by decide, by rw [Q]; omega, by rw [Q]; omega⟩
theorem dxdv {a b : UInt64} {c d : Nat} {q r : Int} (ha : dxN a c q) (hb : dxN b d r) (h1 : -1074 + 52 + 1 ≤ q - r) (h2 : q - r + 1 - 52 ≤ 971) : ∃ c' q', dxN (FP.ddiv a b) c' q' := by
  have e : FP.Core.val64 (FP.ddiv a b) = FP.Core.roundRatio FP.Core.b64 (false != false) c d (q - r) := by
    rw [FP.Core.val64_ddiv, ha.1, hb.1]
    show (if d = 0 then _ else _) = _
    rw [if_neg (by have := hb.2.1; omega)]
  have a1 := ha.2.1
  have a2 := ha.2.2
  have b1 := hb.2.1
  have b2 := hb.2.2
  obtain ⟨c', q', k1, k2, k3, _⟩ := rn_b64 (s := (false != false)) (A := c) (B := d) (e := q - r) (lo := q - r - 1) (hi := q - r + 1) (by omega) (by omega) (by
    rw [show q - r - 1 - (q - r) = ((0 : Nat) : Int) - (1 : Nat) by omega, FP.Core.below_iff]
    omega) (by
    rw [show q - r + 1 - (q - r) = ((1 : Nat) : Int) - (0 : Nat) by omega, FP.Core.below_iff]
    omega) (by omega) (by omega)
  exact ⟨c', q', by rw [e]; exact k1, k2, k3⟩
