/-! the class: the writer -/
def WxI (W : wS) (I : mm_I) : Prop := I 47 1 = nI W.1.1 ∧ I 47 2 = nI ((8 - W.1.2) % 8) ∧ ∀ i, i < W.1.1 → I 48 i = W.2 i
def F_wx (a j : Nat) : Bool := Nat.beq a 48 || (Nat.beq a 47 && (Nat.beq j 1 || Nat.beq j 2))
theorem sp_X_putByte {P : mm_I → Prop} {I : mm_I} {W : wS} {v : Int32} (e : I 47 1 = nI W.1.1) (e2 : ∀ i, i < W.1.1 → I 48 i = W.2 i) (hu : W.1.1 < 4000) (H : ∀ J, J 47 1 = nI (W.1.1 + 1) → (∀ i, i < W.1.1 + 1 → J 48 i = (w_by W v).2 i) → J 47 2 = I 47 2 → sm F_wx I J → P J) : mm_Mv 58 [.ref 47, .int v] I P := by
  refine e_Store_putByte _ ?_
  rw [e, nI_clamp (n := W.1.1) (by omega), nI_1]
  refine ⟨fun z => absurd z (nI_ge (b := 4000) (by omega) (by omega)), fun _ => ⟨vp_in_nI (by omega) (by omega), H _ rfl (fun i hi => ?_) rfl ((sm.rf.up rfl).up rfl)⟩⟩
  rw [up_o (by decide), up_a]
  show _ = if i = W.1.1 then v &&& 255 else W.2 i
  by_cases q : i = W.1.1
  · rw [if_pos q, if_pos q]
  · rw [if_neg q, if_neg q]
    exact e2 i (by omega)
theorem pb_X {P : mm_I → Prop} {I : mm_I} {W : wS} {v : Int32} (e : I 47 1 = nI W.1.1) (e2 : ∀ i, i < W.1.1 → I 48 i = W.2 i) (e0 : I 47 2 = 0) (hu : W.1.1 < 4000) (H : ∀ J, WxI (w_by W v) J → sm F_wx I J → P J) : mm_Mv 58 [.ref 47, .int v] I P :=
  sp_X_putByte e e2 hu (fun J a1 a2 a3 a4 => H J ⟨a1, (by rw [a3, e0]; show (0 : Int32) = nI ((8 - 0) % 8); decide), a2⟩ a4)
theorem lX_putBits {P : mm_I → Prop} {v : Int32} : ∀ (k : Nat) (W : wS) (I : mm_I), k ≤ 31 → WxI W I → wOk W → wps W + k ≤ 32000 → (∀ J, WxI (w_bs v k W) J → sm F_wx I J → P J) → mm_W 59 4 [some (.ref 47), some (.int v), none, some (.int (nI k - 1))] [] I (mm_qv 59 P) := by
  intro k
  induction k with
  | zero =>
    intro W I _ hW _ _ H
    exact c_Store_putBits_4 _ _ ⟨fun _ => H I hW sm.rf, fun z => absurd z (by decide)⟩
  | succ k ih =>
    intro W I hk hW hO hc H
    have ek : nI (k + 1) - 1 = nI k := nI_pred k
    have ok1 := wps_b1 (v := v) (k := k) hO
    have u0 := used_le hO (by omega)
    have h8 := hO.1
    rw [ek]
    refine c_Store_putBits_4 _ _ ⟨fun z => absurd z (nI_pos (by omega)), fun _ => ?_⟩
    rw [i_m1, hW.1, hW.2.1]
    refine ⟨fun z => ?_, fun z => ?_⟩
    · have s0 : W.1.2 ≠ 0 := fun y => z (by rw [y]; rfl)
      have u1 := hO.2 s0
      have e0 : w_b0 W = W := if_neg s0
      have e8 : (8 - W.1.2) % 8 = 8 - W.1.2 := Nat.mod_eq_of_lt (by omega)
      have e9 : nI (8 - W.1.2) - 1 = nI (7 - W.1.2) := by
        have := pk_sub (a := 8 - W.1.2) (b := 1) (by omega)
        rw [show 8 - W.1.2 - 1 = 7 - W.1.2 by omega] at this
        exact this
      have e7 : (7 : Int32) - nI W.1.2 = nI (7 - W.1.2) := pk_sub (a := 7) (by omega)
      have eu : nI W.1.1 - 1 = nI (W.1.1 - 1) := pk_sub (b := 1) (by omega)
      have vu := vp_in_nI (n := W.1.1 - 1) (N := 4000) (by omega) (by omega)
      rw [e8, e9, eu, nI_clamp (n := W.1.1 - 1) (by omega)]
      refine ⟨fun y => absurd y (nI_nle (by omega) (by omega)), fun _ => ⟨vu, vu, ?_⟩⟩
      refine ih (w_b1 W v k) _ (by omega) ⟨?_, ?_, fun i hi => ?_⟩ ok1.1 (by omega) (fun J a1 a2 => H J a1 (sm.tq ((sm.rf.up rfl).up rfl) a2))
      · unfold w_b1
        rw [e0]
        exact hW.1
      · unfold w_b1
        rw [e0]
        show nI (7 - W.1.2) = nI ((8 - (W.1.2 + 1) % 8) % 8)
        congr 1
        by_cases y : W.1.2 = 7
        · rw [y]
        · rw [Nat.mod_eq_of_lt (show W.1.2 + 1 < 8 by omega), Nat.mod_eq_of_lt (show 8 - (W.1.2 + 1) < 8 by omega)]
          omega
      · unfold w_b1 at hi ⊢
        rw [e0] at hi ⊢
        have hi : i < W.1.1 := hi
        rw [up_a]
        show _ = if i = W.1.1 - 1 then W.2 (W.1.1 - 1) ||| (((v >>> (nI k &&& 31)) &&& 1) <<< ((7 - nI W.1.2) &&& 31)) else W.2 i
        rw [e7]
        by_cases q : i = W.1.1 - 1
        · rw [if_pos q, if_pos q, hW.2.2 _ (by omega)]
        · rw [if_neg q, if_neg q, up_o (by decide)]
          exact hW.2.2 i hi
    · have s0 : W.1.2 = 0 := by
        by_cases y : W.1.2 = 0
        · exact y
        · rw [Nat.mod_eq_of_lt (by omega)] at z
          have := (nI_eq (b := 0) (by omega) (by omega)).mp z
          omega
      have e0 : w_b0 W = w_by W 0 := if_pos s0
      have u2 : W.1.1 + 1 ≤ 4000 := by
        have : wps W = 8 * W.1.1 := if_pos s0
        omega
      refine sp_X_putByte (W := W) hW.1 hW.2.2 (by omega) (fun J a1 a2 a3 a4 => ?_)
      have eu : nI (W.1.1 + 1) - 1 = nI W.1.1 := nI_pred _
      have vu := vp_in_nI (n := W.1.1) (N := 4000) (by omega) (by omega)
      rw [a1, eu, nI_clamp (n := W.1.1) (by omega)]
      refine ⟨fun y => absurd y (nI_nle (by omega) (by omega)), fun _ => ⟨vu, vu, ?_⟩⟩
      refine ih (w_b1 W v k) _ (by omega) ⟨?_, ?_, fun i hi => ?_⟩ ok1.1 (by omega) (fun K b1 b2 => H K b1 (sm.tq (((a4.up rfl).up rfl).up rfl) b2))
      · unfold w_b1
        rw [e0]
        exact a1
      · unfold w_b1
        rw [e0]
        show (8 : Int32) - 1 = nI ((8 - (0 + 1) % 8) % 8)
        decide
      · unfold w_b1 at hi ⊢
        rw [e0] at hi ⊢
        have hi : i < W.1.1 + 1 := hi
        rw [up_a]
        show _ = if i = W.1.1 + 1 - 1 then (w_by W 0).2 (W.1.1 + 1 - 1) ||| (((v >>> (nI k &&& 31)) &&& 1) <<< ((7 - nI 0) &&& 31)) else (w_by W 0).2 i
        rw [show W.1.1 + 1 - 1 = W.1.1 by omega]
        by_cases q : i = W.1.1
        · rw [if_pos q, if_pos q, a2 _ (by omega)]
          rfl
        · rw [if_neg q, if_neg q, up_o (by decide), up_o (by decide)]
          exact a2 i hi
theorem sp_X_putBits {P : mm_I → Prop} {v : Int32} {k : Nat} {W : wS} {I : mm_I} (hk : k ≤ 31) (hW : WxI W I) (hO : wOk W) (hp : wps W + k ≤ 32000) (H : ∀ J, WxI (w_bs v k W) J → sm F_wx I J → P J) : mm_Mv 59 [.ref 47, .int v, .int (nI k)] I P :=
  e_Store_putBits _ _ (lX_putBits k W I hk hW hO hp H)
/-! checks -/
theorem i_xor {a b : Nat} (ha : a < 65536) (hb : b < 65536) : nI a ^^^ nI b = nI (a ^^^ b) ∧ a ^^^ b < 65536 := by
  have hab : a ^^^ b < 2 ^ 16 := Nat.xor_lt_two_pow (n := 16) ha hb
  refine ⟨?_, hab⟩
  apply Int32.toBitVec_inj.mp
  apply BitVec.eq_of_toNat_eq
  have na : (nI a).toBitVec.toNat = a := Nat.mod_eq_of_lt (by omega)
  have nb : (nI b).toBitVec.toNat = b := Nat.mod_eq_of_lt (by omega)
  have nab : (nI (a ^^^ b)).toBitVec.toNat = a ^^^ b := Nat.mod_eq_of_lt (by omega)
  rw [Int32.toBitVec_xor, BitVec.toNat_xor, na, nb, nab]
theorem ck_1 {n : Nat} (h : n < 65536) : (if nI n < 32768 then (nI n <<< ((1 : Int32) &&& 31) : Int32) else ((nI n <<< ((1 : Int32) &&& 31)) ^^^ 4129) &&& 65535) = ck1 (nI n) ∧ ∃ m, m < 65536 ∧ ck1 (nI n) = nI m := by
  have e1 : nI n <<< ((1 : Int32) &&& 31) = 2 * nI n := by
    rw [pk_shlN _ 1 (by decide +kernel) (by omega)]
    show nI (n * 2 ^ 1) = nI 2 * nI n
    rw [pk_mul, Nat.mul_comm]
  refine ⟨?_, ?_⟩
  · unfold ck1
    rw [e1]
    by_cases q : nI n < 32768
    · rw [if_pos q, if_pos q]
      have q := (nI_ltI (b := 32768) (by omega) (by omega)).mp q
      have e2 : (2 : Int32) * nI n = nI (2 * n) := pk_mul 2 n
      rw [e2, pk_andN (by omega) (m := 65535) 16 (by decide +kernel), Nat.mod_eq_of_lt (by omega)]
    · rw [if_neg q, if_neg q]
  · unfold ck1
    obtain ⟨m, hm, e⟩ := pk_andE (if nI n < 32768 then (2 * nI n : Int32) else (2 * nI n) ^^^ 4129) (m := 65535) 16 (by decide +kernel)
    exact ⟨m, hm, e⟩
theorem ck_8 : ∀ (k n : Nat), n < 65536 → ∃ m, m < 65536 ∧ ck8 k (nI n) = nI m := by
  intro k
  induction k with
  | zero => intro n h; exact ⟨n, h, rfl⟩
  | succ k ih =>
    intro n h
    obtain ⟨m, hm, e⟩ := (ck_1 h).2
    show ∃ m, m < 65536 ∧ ck8 k (ck1 (nI n)) = nI m
    rw [e]
    exact ih m hm
theorem lX_ck37 {P : Int32 → mm_I → Prop} {I : mm_I} {x2 x4 : Int32} : ∀ (r k n : Nat) (d : Int32), k + r = 8 → n < 65536 → ck8 r (nI n) = d → mm_W 62 6 [some (.ref 47), none, some (.int x2), some (.int d), some (.int (x4 + 1)), none] [] I (mm_qi 62 P) → mm_W 62 37 [some (.ref 47), none, some (.int x2), some (.int (nI n)), some (.int x4), some (.int (nI k))] [] I (mm_qi 62 P) := by
  intro r
  induction r with
  | zero =>
    intro k n d hk _ e H
    have e : nI n = d := e
    rw [← e] at H
    exact c_Store_checkOf_37 _ _ _ _ ⟨fun _ => H, fun z => absurd z (nI_nlt (b := 8) (by omega) (by omega))⟩
  | succ r ih =>
    intro k n d hk hn e H
    obtain ⟨m, hm, em⟩ := (ck_1 hn).2
    refine c_Store_checkOf_37 _ _ _ _ ⟨fun z => absurd z (nI_ge (b := 8) (by omega) (by omega)), fun _ => ?_⟩
    rw [(ck_1 hn).1, em, nI_1]
    refine ih (k + 1) m d (by omega) hm ?_ H
    rw [← em]
    exact e
theorem ckS_n {B : Nat → Int32} {a : Nat} : ∀ k, (∀ i, i < k → 0 ≤ (B (a + i)).toInt ∧ (B (a + i)).toInt < 256) → ∃ n, n < 65536 ∧ ckS B a k = nI n := by
  intro k
  induction k with
  | zero => intro _; exact ⟨65535, by omega, rfl⟩
  | succ k ih =>
    intro h
    obtain ⟨n, hn, e⟩ := ih (fun i hi => h i (by omega))
    have b := h k (by omega)
    have eb : B (a + k) = nI (B (a + k)).toInt.toNat := tI_nI (by omega) (by omega)
    have e2 : (256 : Int32) * B (a + k) = nI (256 * (B (a + k)).toInt.toNat) := by
      conv => lhs; rw [eb]
      exact pk_mul 256 _
    have x := i_xor hn (show 256 * (B (a + k)).toInt.toNat < 65536 by omega)
    show ∃ n, n < 65536 ∧ ck8 8 (ckS B a k ^^^ (256 * B (a + k))) = nI n
    rw [e, e2, x.1]
    exact ck_8 8 _ x.2
theorem lX_checkOf {P : Int32 → mm_I → Prop} {I : mm_I} {B : Nat → Int32} {a b u : Nat} (hu : u ≤ 4000) (hb : b ≤ u) (hab : a ≤ b) (e : I 47 1 = nI u) (h : ∀ i, a ≤ i → i < b → I 48 i = B i) (hB : ∀ i, a ≤ i → i < b → 0 ≤ (B i).toInt ∧ (B i).toInt < 256) (H : P (ckS B a (b - a)) I) : ∀ (r k : Nat), k + r = b - a → mm_W 62 6 [some (.ref 47), none, some (.int (nI b)), some (.int (ckS B a k)), some (.int (nI (a + k))), none] [] I (mm_qi 62 P) := by
  intro r
  induction r with
  | zero =>
    intro k hk
    have hk : k = b - a := by omega
    subst hk
    exact c_Store_checkOf_6 _ _ _ ⟨fun _ => H, fun z => absurd z (nI_nlt (by omega) (by omega))⟩
  | succ r ih =>
    intro k hk
    have ok := (plc (n := u) (by omega) (nI (a + k))).mpr ⟨a + k, by omega, rfl⟩
    refine c_Store_checkOf_6 _ _ _ ⟨fun z => absurd z (nI_ge (by omega) (by omega)), fun _ => sp_X_shas hu e ⟨fun z => absurd (b1_0.mp z) (fun y => y ok), fun _ => ⟨vp_in_nI (by omega) (by omega), ?_⟩⟩⟩
    rw [nI_clamp (n := a + k) (by omega), h _ (by omega) (by omega)]
    obtain ⟨n, hn, en⟩ := ckS_n (B := B) (a := a) k (fun i hi => hB _ (by omega) (by omega))
    have bb := hB (a + k) (by omega) (by omega)
    have eb : B (a + k) = nI (B (a + k)).toInt.toNat := tI_nI (by omega) (by omega)
    have e2 : (256 : Int32) * B (a + k) = nI (256 * (B (a + k)).toInt.toNat) := by
      conv => lhs; rw [eb]
      exact pk_mul 256 _
    have e3 : B (a + k) <<< ((8 : Int32) &&& 31) = nI (256 * (B (a + k)).toInt.toNat) := by
      conv => lhs; rw [eb]
      rw [pk_shlN _ 8 (by decide +kernel) (by omega)]
      congr 1
      omega
    have x := i_xor hn (show 256 * (B (a + k)).toInt.toNat < 65536 by omega)
    have es : ckS B a (k + 1) = ck8 8 (nI (n ^^^ (256 * (B (a + k)).toInt.toNat))) := by
      show ck8 8 (ckS B a k ^^^ (256 * B (a + k))) = _
      rw [en, e2, x.1]
    rw [en, e3, x.1]
    refine lX_ck37 8 0 _ _ (by omega) x.2 rfl ?_
    rw [← es, nI_1]
    exact ih (k + 1) (by omega)
theorem sp_X_checkOf {P : Int32 → mm_I → Prop} {I : mm_I} {B : Nat → Int32} {a b u : Nat} (hu : u ≤ 4000) (hb : b ≤ u) (hab : a ≤ b) (e : I 47 1 = nI u) (h : ∀ i, a ≤ i → i < b → I 48 i = B i) (hB : ∀ i, a ≤ i → i < b → 0 ≤ (B i).toInt ∧ (B i).toInt < 256) (H : P (ckS B a (b - a)) I) : mm_Mi 62 [.ref 47, .int (nI a), .int (nI b)] I P :=
  e_Store_checkOf _ _ (lX_checkOf hu hb hab e h hB H (b - a) 0 (by omega))
theorem sp_X_putCheck {P : mm_I → Prop} {W : wS} {I : mm_I} {a : Nat} (e : I 47 1 = nI W.1.1) (e2 : ∀ i, i < W.1.1 → I 48 i = W.2 i) (e0 : I 47 2 = 0) (hB : wB W) (ha : a ≤ W.1.1) (hu : W.1.1 + 2 ≤ 4000) (H : ∀ J, WxI (w_ck W a) J → sm F_wx I J → P J) : mm_Mv 61 [.ref 47, .int (nI a)] I P := by
  refine e_Store_putCheck _ ?_
  have e1 := e
  rw [e]
  refine sp_X_checkOf (B := W.2) (u := W.1.1) (by omega) (Nat.le_refl _) ha e1 (fun i _ hi => e2 i hi) (fun i _ hi => hB i hi) ?_
  refine pb_X e1 e2 e0 (by omega) (fun J a1 a2 => ?_)
  have n1 : (w_by W (ckS W.2 a (W.1.1 - a) >>> ((8 : Int32) &&& 31))).1.1 = W.1.1 + 1 := rfl
  refine pb_X a1.1 a1.2.2 (by rw [a1.2.1]; show nI ((8 - 0) % 8) = (0 : Int32); decide) (by omega) (fun K b1 b2 => H K b1 (sm.tq a2 b2))
