/-! the bits of a float, of a double -/
theorem cmpV_ng {r : Option Ordering} (h : Op.cmpValue r .g < 0) : r = some .lt := by
  cases r with
  | none => exact absurd h (by decide)
  | some o => exact congrArg some ((by cases o; rfl; exact absurd h (by decide); exact absurd h (by decide) : o = .lt))
theorem cmpV_nl {o : Ordering} (h : Op.cmpValue (some o) .l < 0) : o = .lt := (cmpV_g o).2.mp h
theorem cmpV_lt (op : Jvm.ClassFile.CmpOp) : Op.cmpValue (some .lt) op < 0 := by cases op <;> decide
theorem fxso {v : UInt32} {c : Nat} {q : Int} (h : fxN v c q) {k : UInt32} {d : Nat} {r : Int} (hk : FP.Core.val32 k = .fin false d r) : ∃ o, FP.fcmp v k = some o := by
  refine ⟨compare (FP.Core.signed false (FP.Core.inUnits c q (min q r))) (FP.Core.signed false (FP.Core.inUnits d r (min q r))), ?_⟩
  show FP.Core.order (FP.Core.val32 v) (FP.Core.val32 k) = _
  rw [h.1, hk]
  rfl
theorem dxso {v : UInt64} {c : Nat} {q : Int} (h : dxN v c q) {k : UInt64} {d : Nat} {r : Int} (hk : FP.Core.val64 k = .fin false d r) : ∃ o, FP.dcmp v k = some o := by
  refine ⟨compare (FP.Core.signed false (FP.Core.inUnits c q (min q r))) (FP.Core.signed false (FP.Core.inUnits d r (min q r))), ?_⟩
  show FP.Core.order (FP.Core.val64 v) (FP.Core.val64 k) = _
  rw [h.1, hk]
  rfl
theorem f2i_N {y : UInt32} {c : Nat} (h : fxN y c 0) : FP.f2i y = nI c := by
  have e : FP.f2i y = FP.Core.toI (FP.Core.val32 y) := rfl
  have h2 := h.2.2
  rw [e, h.1]
  show Int32.ofInt (max (-2 ^ 31) (min (2 ^ 31 - 1) (((c * 2 ^ (0 : Int).toNat / 2 ^ (-0 : Int).toNat : Nat) : Int)))) = _
  have t : c * 2 ^ (0 : Int).toNat / 2 ^ (-0 : Int).toNat = c := by
    rw [show (0 : Int).toNat = 0 from rfl, show (-0 : Int).toNat = 0 from rfl, Nat.pow_zero, Nat.mul_one, Nat.div_one]
  rw [t, show max (-2 ^ 31) (min (2 ^ 31 - 1) (c : Int)) = (c : Int) by omega]
  rfl
theorem d2l_N {y : UInt64} {c : Nat} (h : dxN y c 0) : FP.d2l y = lN c := by
  have e : FP.d2l y = FP.Core.toL (FP.Core.val64 y) := rfl
  have h2 := h.2.2
  rw [e, h.1]
  show Int64.ofInt (max (-2 ^ 63) (min (2 ^ 63 - 1) (((c * 2 ^ (0 : Int).toNat / 2 ^ (-0 : Int).toNat : Nat) : Int)))) = _
  have t : c * 2 ^ (0 : Int).toNat / 2 ^ (-0 : Int).toNat = c := by
    rw [show (0 : Int).toNat = 0 from rfl, show (-0 : Int).toNat = 0 from rfl, Nat.pow_zero, Nat.mul_one, Nat.div_one]
  rw [t, show max (-2 ^ 63) (min (2 ^ 63 - 1) (c : Int)) = (c : Int) by omega]
  rfl
theorem fin_f {v x : UInt32} {c p : Nat} {q0 : Int} (h0 : fxN v c q0) (hx : fxN x c (-23)) (hp : (p : Int) = 150 + q0) : (nI p <<< ((23 : Int32) &&& 31)) + (FP.f2i (FP.fmul x 1258291200) - 8388608) = v.toInt32 := by
  have qq := fxN_q h0
  have h1 := h0.2.1
  have e1 : nI c - 8388608 = nI (c - 8388608) := pk_sub (b := 8388608) h1
  rw [f2i_N (fxup hx), pk_shlN _ 23 (by decide +kernel) (by omega), e1, nI_add, fxbits h0]
  have e2 : (q0 - -149).toNat + 1 = p := by omega
  rw [e2]
  rfl
theorem lX_fb36 {P : Int32 → mm_I → Prop} {I : mm_I} {v : UInt32} {c : Nat} {q0 : Int} (h0 : fxN v c q0) (H : P v.toInt32 I) : ∀ (n p : Nat) (x : UInt32) (q : Int), fxN x c q → (p : Int) + q = 127 + q0 → q ≤ -23 → (-23 - q).toNat = n → mm_W 121 36 [none, some (.int (nI p)), some (.float x)] [] I (mm_qi 121 P) := by
  have qq := fxN_q h0
  have one : FP.Core.val32 FP.fconst1 = .fin false 8388608 (-23) := by decide +kernel
  intro n
  induction n with
  | zero =>
    intro p x q hx hp hq hn
    have q23 : q = -23 := by omega
    subst q23
    refine c_WS_floatBits_36 _ _ ⟨fun _ => ⟨vf32_of (fxN_p (fxup hx)), ?_⟩, fun z => ?_⟩
    · rw [fin_f h0 hx (by omega)]
      exact H
    · exact absurd (cmpV_ng z) (fun y => (fxcm hx one).2 (by omega) y)
  | succ n ih =>
    intro p x q hx hp hq hn
    have lt := (fxcm hx one).1 (by omega)
    have qx := fxN_q hx
    refine c_WS_floatBits_36 _ _ ?_
    rw [lt]
    refine ⟨fun z => absurd (cmpV_lt .g) (fa_nlt z), fun _ => ⟨fun z => absurd z (nI_ge (a := 1) (b := p) (by omega) (by omega)), fun _ => ⟨vf32_of (fxN_p (fxdb hx (by omega))), ?_⟩⟩⟩
    obtain ⟨p', rfl⟩ : ∃ p', p = p' + 1 := ⟨p - 1, by omega⟩
    rw [pk_m1]
    exact ih p' _ (q + 1) (fxdb hx (by omega)) (by omega) (by omega) (by omega)
theorem lX_fb13 {P : Int32 → mm_I → Prop} {I : mm_I} {v : UInt32} {c : Nat} {q0 : Int} (h0 : fxN v c q0) (H : P v.toInt32 I) : ∀ (n p : Nat) (x : UInt32) (q : Int), fxN x c q → (p : Int) + q = 127 + q0 → (q + 23).toNat = n → mm_W 121 13 [none, some (.int (nI p)), some (.float x)] [] I (mm_qi 121 P) := by
  have qq := fxN_q h0
  have two : FP.Core.val32 FP.fconst2 = .fin false 8388608 (-22) := by decide +kernel
  intro n
  induction n with
  | zero =>
    intro p x q hx hp hn
    have lt := (fxcm hx two).1 (by omega)
    have qx := fxN_q hx
    refine c_WS_floatBits_13 _ _ ?_
    rw [lt]
    exact ⟨fun _ => lX_fb36 h0 H _ p x q hx hp (by omega) rfl, fun z => absurd (cmpV_lt .l) (fa_nlt z)⟩
  | succ n ih =>
    intro p x q hx hp hn
    have nl := (fxcm hx two).2 (by omega)
    obtain ⟨o, ho⟩ := fxso hx two
    refine c_WS_floatBits_13 _ _ ⟨fun z => ?_, fun _ => ⟨fun z => absurd z (nI_ge (b := 254) (by omega) (by omega)), fun _ => ⟨vf32_of (fxN_p (fxhf hx (by omega))), ?_⟩⟩⟩
    · rw [ho] at z
      rw [ho, cmpV_nl z] at nl
      exact absurd rfl nl
    · rw [nI_1]
      exact ih (p + 1) _ (q - 1) (fxhf hx (by omega)) (by omega) (by omega)
/-- a float that is 0, or not too small -/
abbrev fOk (v : UInt32) : Prop := FP.Core.val32 v = .fin false 0 (-149) ∨ ∃ c q, fxN v c q
theorem sp_X_floatBits {P : Int32 → mm_I → Prop} {I : mm_I} {v : UInt32} (h : fOk v) (H : P v.toInt32 I) : mm_Mi 121 [.float v] I P := by
  have zero : FP.Core.val32 FP.fconst0 = .fin false 0 (-149) := by decide +kernel
  rcases h with z | ⟨c, q, h⟩
  · have e := fxz z
    subst e
    refine e_WS_floatBits _ ⟨fun y => absurd y (by decide +kernel), fun _ => H⟩
  · have gt : FP.fcmp v FP.fconst0 = some .gt := by
      show FP.Core.order (FP.Core.val32 v) (FP.Core.val32 FP.fconst0) = _
      rw [h.1, zero]
      show some (compare ((c * 2 ^ (q - min q (-149)).toNat : Nat) : Int) ((0 * 2 ^ (-149 - min q (-149)).toNat : Nat) : Int)) = _
      congr 1
      rw [(cmpI _ _).1, Nat.zero_mul]
      have p := Nat.two_pow_pos (q - min q (-149)).toNat
      have k2 : c * 1 ≤ c * 2 ^ (q - min q (-149)).toNat := Nat.mul_le_mul_left _ p
      have := h.2.1
      omega
    refine e_WS_floatBits _ ?_
    rw [gt]
    refine ⟨fun _ => lX_fb13 h H _ 127 v q h (by omega) rfl, fun y => absurd y (by decide)⟩
theorem sh52 {p : Nat} (h : p < 2048) : lN p <<< ((52 : Int32).toInt64 &&& 63) = lN (p * 4503599627370496) := by
  apply Int64.toBitVec_inj.mp
  apply BitVec.eq_of_toNat_eq
  have hs : (((52 : Int32).toInt64 &&& 63).toBitVec.smod 64).toNat = 52 := by decide +kernel
  have n1 : (lN p).toBitVec.toNat = p := Nat.mod_eq_of_lt (by omega)
  have n2 : (lN (p * 4503599627370496)).toBitVec.toNat = (p * 4503599627370496) % 2 ^ 64 := by
    unfold lN
    exact BitVec.toNat_ofNat _ _
  generalize (52 : Int32).toInt64 &&& 63 = s at *
  show ((lN p).toBitVec <<< (s.toBitVec.smod 64).toNat).toNat = _
  rw [hs, BitVec.toNat_shiftLeft, n1, n2, Nat.shiftLeft_eq]
theorem fin_d {v x : UInt64} {c p : Nat} {q0 : Int} (h0 : dxN v c q0) (hx : dxN x c (-52)) (hp : (p : Int) = 1075 + q0) : (lN p <<< ((52 : Int32).toInt64 &&& 63)) + (FP.d2l (FP.dmul x 4841369599423283200) - 4503599627370496) = v.toInt64 := by
  have qq := dxN_q h0
  have h1 := h0.2.1
  have e1 : lN c - 4503599627370496 = lN (c - 4503599627370496) := lN_sub (b := 4503599627370496) h1
  rw [d2l_N (dxup hx), sh52 (by omega), e1, lN_add, dxbits h0]
  have e2 : (q0 - -1074).toNat + 1 = p := by omega
  rw [e2]
  rfl
theorem lX_db47 {P : Int64 → mm_I → Prop} {I : mm_I} {v : UInt64} {c : Nat} {q0 : Int} (h0 : dxN v c q0) (H : P v.toInt64 I) : ∀ (n p : Nat) (x : UInt64) (q : Int), dxN x c q → (p : Int) + q = 1023 + q0 → q ≤ -52 → (-52 - q).toNat = n → mm_W 122 47 [none, none, some (.long (lN p)), none, some (.double x), none] [] I (mm_ql 122 P) := by
  have qq := dxN_q h0
  have one : FP.Core.val64 FP.dconst1 = .fin false 4503599627370496 (-52) := by decide +kernel
  intro n
  induction n with
  | zero =>
    intro p x q hx hp hq hn
    have q23 : q = -52 := by omega
    subst q23
    refine c_WS_doubleBits_47 _ _ ⟨fun _ => ⟨vf64_of (dxN_p (dxup hx)), ?_⟩, fun z => ?_⟩
    · rw [fin_d h0 hx (by omega)]
      exact H
    · exact absurd (cmpV_ng z) (fun y => (dxcm hx one).2 (by omega) y)
  | succ n ih =>
    intro p x q hx hp hq hn
    have lt := (dxcm hx one).1 (by omega)
    have qx := dxN_q hx
    refine c_WS_doubleBits_47 _ _ ?_
    rw [lt]
    refine ⟨fun z => absurd (cmpV_lt .g) (fa_nlt z), fun _ => ⟨fun z => ?_, fun _ => ⟨vf64_of (dxN_p (dxdb hx (by omega))), ?_⟩⟩⟩
    · rw [lg_cmp_le] at z
      have := (lN_le (b := 1) (by omega) (by omega)).mp z
      omega
    · have e : lN p - 1 = lN (p - 1) := lN_sub (b := 1) (by omega)
      rw [e]
      exact ih (p - 1) _ (q + 1) (dxdb hx (by omega)) (by omega) (by omega) (by omega)
theorem lX_db15 {P : Int64 → mm_I → Prop} {I : mm_I} {v : UInt64} {c : Nat} {q0 : Int} (h0 : dxN v c q0) (H : P v.toInt64 I) : ∀ (n p : Nat) (x : UInt64) (q : Int), dxN x c q → (p : Int) + q = 1023 + q0 → (q + 52).toNat = n → mm_W 122 15 [none, none, some (.long (lN p)), none, some (.double x), none] [] I (mm_ql 122 P) := by
  have qq := dxN_q h0
  have two : FP.Core.val64 4611686018427387904 = .fin false 4503599627370496 (-51) := by decide +kernel
  intro n
  induction n with
  | zero =>
    intro p x q hx hp hn
    have lt := (dxcm hx two).1 (by omega)
    have qx := dxN_q hx
    refine c_WS_doubleBits_15 _ _ ?_
    rw [lt]
    exact ⟨fun _ => lX_db47 h0 H _ p x q hx hp (by omega) rfl, fun z => absurd (cmpV_lt .l) (fa_nlt z)⟩
  | succ n ih =>
    intro p x q hx hp hn
    have nl := (dxcm hx two).2 (by omega)
    obtain ⟨o, ho⟩ := dxso hx two
    refine c_WS_doubleBits_15 _ _ ⟨fun z => ?_, fun _ => ⟨fun z => ?_, fun _ => ⟨vf64_of (dxN_p (dxhf hx (by omega))), ?_⟩⟩⟩
    · rw [ho] at z
      rw [ho, cmpV_nl z] at nl
      exact absurd rfl nl
    · rw [lg_cmp_ge] at z
      have := (lN_le (a := 2046) (by omega) (by omega)).mp z
      omega
    · rw [lN_1]
      exact ih (p + 1) _ (q - 1) (dxhf hx (by omega)) (by omega) (by omega)
abbrev dOk (v : UInt64) : Prop := FP.Core.val64 v = .fin false 0 (-1074) ∨ ∃ c q, dxN v c q
theorem sp_X_doubleBits {P : Int64 → mm_I → Prop} {I : mm_I} {v : UInt64} (h : dOk v) (H : P v.toInt64 I) : mm_Ml 122 [.double v] I P := by
  have zero : FP.Core.val64 FP.dconst0 = .fin false 0 (-1074) := by decide +kernel
  rcases h with z | ⟨c, q, h⟩
  · have e := dxz z
    subst e
    refine e_WS_doubleBits _ ⟨fun y => absurd y (by decide +kernel), fun _ => H⟩
  · have gt : FP.dcmp v FP.dconst0 = some .gt := by
      show FP.Core.order (FP.Core.val64 v) (FP.Core.val64 FP.dconst0) = _
      rw [h.1, zero]
      show some (compare ((c * 2 ^ (q - min q (-1074)).toNat : Nat) : Int) ((0 * 2 ^ (-1074 - min q (-1074)).toNat : Nat) : Int)) = _
      congr 1
      rw [(cmpI _ _).1, Nat.zero_mul]
      have p := Nat.two_pow_pos (q - min q (-1074)).toNat
      have k2 : c * 1 ≤ c * 2 ^ (q - min q (-1074)).toNat := Nat.mul_le_mul_left _ p
      have := h.2.1
      omega
    refine e_WS_doubleBits _ ?_
    rw [gt]
    refine ⟨fun _ => lX_db15 h H _ 1023 v q h (by omega) rfl, fun y => absurd y (by decide)⟩
/-! whole numbers as floats; their quotients -/
theorem int_f {n : Nat} (h1 : 1 ≤ n) (h2 : n < 2147483648) : ∃ c q, fxN (FP.i2f (nI n)) c q ∧ -23 ≤ q ∧ q ≤ 8 := by
  obtain ⟨c, q, k1, k2, k3, k4, k5⟩ := rn_b32 (s := false) (A := n) (B := 1) (e := 0) (lo := 0) (hi := 31) (by omega) (by omega) (by
    rw [show (0 : Int) - 0 = ((0 : Nat) : Int) - (0 : Nat) by omega, FP.Core.below_iff]
    omega) (by
    rw [show (31 : Int) - 0 = ((31 : Nat) : Int) - (0 : Nat) by omega, FP.Core.below_iff]
    omega) (by omega) (by omega)
  exact ⟨c, q, ⟨by rw [i2f_v h2]; exact k1, k2, k3⟩, by omega, by omega⟩
theorem quo_f {a b : Nat} (ha : a < 2147483648) (hb1 : 1 ≤ b) (hb : b < 2147483648) : fOk (FP.fdiv (FP.i2f (nI a)) (FP.i2f (nI b))) := by
  obtain ⟨d, r, h3, h4, h5⟩ := int_f hb1 hb
  by_cases z : a = 0
  · refine Or.inl ?_
    rw [FP.Core.val32_fdiv, h3.1, z]
    have e0 : FP.Core.val32 (FP.i2f (nI 0)) = .fin false 0 (-149) := by decide +kernel
    rw [e0]
    show (if d = 0 then (if 0 = 0 then FP.Core.Datum.nan else FP.Core.Datum.inf (false != false)) else FP.Core.roundRatio FP.Core.b32 (false != false) 0 d (-149 - r)) = _
    rw [if_neg (by have := h3.2.1; omega)]
    rfl
  · obtain ⟨c, q, h6, h7, h8⟩ := int_f (show 1 ≤ a by omega) ha
    exact Or.inr (fxdv h6 h3 (by omega) (by omega))
theorem long_d {n : Nat} (h1 : 1 ≤ n) (h2 : n < 9223372036854775808) : ∃ c q, dxN (FP.l2d (lN n)) c q ∧ -52 ≤ q ∧ q ≤ 11 := by
  obtain ⟨c, q, k1, k2, k3, k4, k5⟩ := rn_b64 (s := false) (A := n) (B := 1) (e := 0) (lo := 0) (hi := 63) (by omega) (by omega) (by
    rw [show (0 : Int) - 0 = ((0 : Nat) : Int) - (0 : Nat) by omega, FP.Core.below_iff]
    omega) (by
    rw [show (63 : Int) - 0 = ((63 : Nat) : Int) - (0 : Nat) by omega, FP.Core.below_iff]
    omega) (by omega) (by omega)
  have ev : FP.Core.val64 (FP.l2d (lN n)) = FP.Core.roundRatio FP.Core.b64 false n 1 0 := by
    have et : (lN n).toInt = (n : Int) := lg_ofNat_toInt (show n < 2 ^ 63 from h2)
    rw [FP.Core.val64_l2d, et]
    unfold FP.Core.ofInt FP.Core.round
    rw [show decide ((n : Int) < 0) = false from decide_eq_false (by omega)]
    rfl
  exact ⟨c, q, ⟨by rw [ev]; exact k1, k2, k3⟩, by omega, by omega⟩
theorem int_d {n : Nat} (h1 : 1 ≤ n) (h2 : n < 2147483648) : ∃ c q, dxN (FP.i2d (nI n)) c q ∧ -52 ≤ q ∧ q ≤ 11 := by
  obtain ⟨c, q, k1, k2, k3, k4, k5⟩ := rn_b64 (s := false) (A := n) (B := 1) (e := 0) (lo := 0) (hi := 63) (by omega) (by omega) (by
    rw [show (0 : Int) - 0 = ((0 : Nat) : Int) - (0 : Nat) by omega, FP.Core.below_iff]
    omega) (by
    rw [show (63 : Int) - 0 = ((63 : Nat) : Int) - (0 : Nat) by omega, FP.Core.below_iff]
    omega) (by omega) (by omega)
  have ev : FP.Core.val64 (FP.i2d (nI n)) = FP.Core.roundRatio FP.Core.b64 false n 1 0 := by
    rw [FP.Core.val64_i2d, nI_toInt h2]
    unfold FP.Core.ofInt FP.Core.round
    rw [show decide ((n : Int) < 0) = false from decide_eq_false (by omega)]
    rfl
  exact ⟨c, q, ⟨by rw [ev]; exact k1, k2, k3⟩, by omega, by omega⟩
theorem quo_d {a : Int64} {b : Nat} (ha : 0 ≤ a.toInt) (hb1 : 1 ≤ b) (hb : b < 2147483648) : dOk (FP.ddiv (FP.l2d a) (FP.i2d (nI b))) := by
  obtain ⟨d, r, h3, h4, h5⟩ := int_d hb1 hb
  have al := Int64.toInt_lt a
  have ea : a = lN a.toInt.toNat := by
    apply Int64.toInt_inj.mp
    have : (lN a.toInt.toNat).toInt = (a.toInt.toNat : Int) := lg_ofNat_toInt (by omega)
    rw [this]
    omega
  have hn : a.toInt.toNat < 9223372036854775808 := by omega
  generalize a.toInt.toNat = n at ea hn
  subst ea
  by_cases z : n = 0
  · refine Or.inl ?_
    rw [FP.Core.val64_ddiv, h3.1, z]
    have e0 : FP.Core.val64 (FP.l2d (lN 0)) = .fin false 0 (-1074) := by decide +kernel
    rw [e0]
    show (if d = 0 then (if 0 = 0 then FP.Core.Datum.nan else FP.Core.Datum.inf (false != false)) else FP.Core.roundRatio FP.Core.b64 (false != false) 0 d (-1074 - r)) = _
    rw [if_neg (by have := h3.2.1; omega)]
    rfl
  · obtain ⟨c, q, h6, h7, h8⟩ := long_d (show 1 ≤ n by omega) hn
    exact Or.inr (dxdv h6 h3 (by omega) (by omega))
theorem hi32 (r : Int64) : (((r.toUInt64 >>> ((32 : Int32).toInt64.toUInt64 &&& Int64.toUInt64 63)).toInt64).toInt32 : Int32) = (r >>> ((32 : Int32).toInt64 &&& 63)).toInt32 := by
  apply Int32.toBitVec_inj.mp
  show (r.toBitVec >>> 32).signExtend 32 = (r.toBitVec.sshiftRight 32).signExtend 32
  rw [BitVec.signExtend_eq_setWidth_of_le _ (by decide), BitVec.signExtend_eq_setWidth_of_le _ (by decide)]
  apply BitVec.eq_of_getLsbD_eq
  intro i hi
  rw [BitVec.getLsbD_setWidth, BitVec.getLsbD_setWidth, BitVec.getLsbD_ushiftRight, BitVec.getLsbD_sshiftRight]
  have h1 : ¬ 64 ≤ i := by omega
  have h2 : 32 + i < 64 := by omega
  simp only [h1, h2, decide_false, Bool.not_false, Bool.true_and, if_true]
