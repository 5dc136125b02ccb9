/-! the class: bits read -/
def RdX (u : Nat) (o : Option Nat) (I : mm_I) : Prop := match o with
  | some p => I 46 6 = nI p ∧ I 46 7 = 0 ∧ p ≤ 8 * u
  | none => I 46 7 = 1
def F_rx (a j : Nat) : Bool := Nat.beq a 46 && (Nat.beq j 6 || Nat.beq j 7)
theorem SxI_rx {B : Nat → Int32} {u : Nat} {I J : mm_I} (h : SxI B u I) (f : sm F_rx I J) : SxI B u J := ⟨(f 47 1 rfl).trans h.1, fun i hi => (f 48 i rfl).trans (h.2 i hi)⟩
theorem or2 {n b : Nat} (hn : n < 1073741824) (hb : b < 2) : (nI n <<< ((1 : Int32) &&& 31)) ||| nI b = nI (2 * n + b) := by
  rw [pk_shlN _ 1 (by decide +kernel) (by omega), i_or (by omega) (by omega)]
  have e : 2 ^ 1 * n + b = 2 ^ 1 * n ||| b := Nat.two_pow_add_eq_or_of_lt (i := 1) (by omega) n
  congr 1
  rw [Nat.mul_comm n, ← e]
theorem lX_bits {P : Int32 → mm_I → Prop} {B : Nat → Int32} {u n p : Nat} {I : mm_I} (hn : n ≤ 31) (hu : u ≤ 4000) (hS : SxI B u I) (hp : p + n ≤ 8 * u) (H : ∀ J, RdX u (some (p + n)) J → sm F_rx I J → P (bvO B p n) J) : ∀ (r k : Nat) (J : mm_I), k + r = n → RdX u (some (p + k)) J → sm F_rx I J → mm_W 28 37 [some (.ref 46), some (.int (nI n)), some (.int (bvO B p k)), some (.int (nI k))] [] J (mm_qi 28 P) := by
  intro r
  induction r with
  | zero =>
    intro k J hk hR hsm
    have hk : k = n := by omega
    subst hk
    exact c_Reader_readBits_37 _ _ _ ⟨fun _ => H J hR hsm, fun z => absurd z (nI_nlt (by omega) (by omega))⟩
  | succ r ih =>
    intro k J hk hR hsm
    have S1 := SxI_rx hS hsm
    have e3 : nI (p + k) >>> ((3 : Int32) &&& 31) = nI ((p + k) / 8) := pk_shrN (by omega) _ 3 (by decide +kernel)
    have e7 : nI (p + k) &&& 7 = nI ((p + k) % 8) := pk_andN (by omega) (m := 7) 3 (by decide +kernel)
    refine c_Reader_readBits_37 _ _ _ ⟨fun z => absurd z (nI_ge (by omega) (by omega)), fun _ => ?_⟩
    rw [hR.1, e3, e7, nI_clamp (n := (p + k) / 8) (by omega), S1.2 _ (by omega), nI_1 k, nI_1 (p + k)]
    refine ⟨vp_in_nI (by omega) (by omega), ?_⟩
    obtain ⟨m, m1, m2⟩ := bvO_n B p k
    obtain ⟨b, b0, b2⟩ := btO_01 B (p + k)
    have ev : (bvO B p k <<< ((1 : Int32) &&& 31)) ||| ((B ((p + k) / 8) >>> ((7 - nI ((p + k) % 8)) &&& 31)) &&& 1) = bvO B p (k + 1) := by
      show _ ||| btO B (p + k) = 2 * bvO B p k + btO B (p + k)
      have h3 : 2 ^ k ≤ 2 ^ 30 := Nat.pow_le_pow_right (by omega) (by omega)
      rw [m2, b2, or2 (by omega) b0, dbl]
    rw [ev]
    exact ih (k + 1) _ (by omega) ⟨rfl, hR.2.1, by omega⟩ (hsm.up rfl)
theorem sp_X_bits {P : Int32 → mm_I → Prop} {B : Nat → Int32} {u n p : Nat} {I : mm_I} (hn : n ≤ 31) (hu : u ≤ 4000) (hS : SxI B u I) (hR : RdX u (some p) I) (H1 : p + n ≤ 8 * u → ∀ J, RdX u (some (p + n)) J → sm F_rx I J → P (bvO B p n) J) (H0 : ¬ p + n ≤ 8 * u → ∀ J, RdX u none J → sm F_rx I J → P 0 J) : mm_Mi 28 [.ref 46, .int (nI n)] I P := by
  have h8 := hR.2.2
  have e8 : nI u * 8 - nI p = nI (8 * u - p) := by
    show nI u * nI 8 - _ = _
    rw [pk_mul, Nat.mul_comm, pk_sub (by omega)]
  refine e_Reader_readBits _ ⟨fun z => absurd hR.2.1 z, fun _ => ?_⟩
  rw [hS.1, hR.1, e8]
  refine ⟨fun z => ?_, fun z => ?_⟩
  · have z := (nI_leI (by omega) (by omega)).mp z
    exact lX_bits hn hu hS (by omega) (H1 (by omega)) n 0 I (by omega) hR sm.rf
  · have z := (nI_ltI (by omega) (by omega)).mp z
    exact H0 (by omega) _ rfl (sm.rf.up rfl)
theorem sp_X_bits0 {P : Int32 → mm_I → Prop} {x : Int32} {I : mm_I} (h : I 46 7 = 1) (H : ∀ J, J 46 7 = 1 → sm F_rx I J → P 0 J) : mm_Mi 28 [.ref 46, .int x] I P :=
  e_Reader_readBits _ ⟨fun _ => H _ rfl (sm.rf.up rfl), fun z => by rw [h] at z; exact absurd z (by decide)⟩
theorem sp_X_signed {P : Int32 → mm_I → Prop} {B : Nat → Int32} {u n p : Nat} {I : mm_I} (hn : n ≤ 31) (hu : u ≤ 4000) (hS : SxI B u I) (hR : RdX u (some p) I) (H1 : p + n ≤ 8 * u → ∀ J, RdX u (some (p + n)) J → sm F_rx I J → P (sgO B p n) J) (H0 : ¬ p + n ≤ 8 * u → ∀ v J, RdX u none J → sm F_rx I J → P v J) : mm_Mi 29 [.ref 46, .int (nI n)] I P := by
  refine e_Reader_readSigned _ (sp_X_bits hn hu hS hR (fun c J a1 a2 => ?_) (fun c J a1 a2 => H0 c _ J a1 a2))
  have := H1 c J a1 a2
  unfold sgO at this
  by_cases q : n = 0
  · rw [if_pos q] at this
    rw [if_neg (by rw [q]; decide)]
    exact this
  · rw [if_neg q] at this
    have q1 : (1 : Int32) ≤ nI n := (nI_leI (a := 1) (by omega) (by omega)).mpr (by omega)
    rw [if_pos q1]
    exact this
theorem sp_X_signed0 {P : Int32 → mm_I → Prop} {x : Int32} {I : mm_I} (h : I 46 7 = 1) (H : ∀ v J, J 46 7 = 1 → sm F_rx I J → P v J) : mm_Mi 29 [.ref 46, .int x] I P :=
  e_Reader_readSigned _ (sp_X_bits0 h (fun J a1 a2 => H _ J a1 a2))
theorem unf_X {m : Nat} (hm : m < 2147483647) : (if (nI m &&& 1) = 0 then (nI m >>> ((1 : Int32) &&& 31) : Int32) else (-(nI m >>> ((1 : Int32) &&& 31))) - 1) = unf (nI m) := by
  have e1 : nI m &&& 1 = nI (m % 2) := pk_andN (by omega) (m := 1) 1 (by decide +kernel)
  have e2 : nI m >>> ((1 : Int32) &&& 31) = nI (m / 2) := pk_shrN (by omega) _ 1 (by decide +kernel)
  unfold unf
  rw [e1, e2]
  by_cases q : nI (m % 2) = 0
  · rw [if_pos q, if_pos q]
    exact (pk_div (d := 2) (by omega) (by omega) (by omega)).symm
  · rw [if_neg q, if_neg q]
    have q1 : m % 2 = 1 := by
      have : ¬ m % 2 = 0 := fun z => q (by rw [z]; rfl)
      omega
    rw [nI_1]
    apply tI_ext
    have t1 : (nI (m + 1)).toInt = ((m + 1 : Nat) : Int) := nI_toInt (by omega)
    have t2 : (nI (m / 2)).toInt = ((m / 2 : Nat) : Int) := nI_toInt (by omega)
    have n1 : (-(nI (m + 1))).toInt = -((m + 1 : Nat) : Int) := by
      rw [Int32.toInt_neg, t1]
      exact Int.bmod_eq_of_le (by omega) (by omega)
    have n2 : (-(nI (m / 2))).toInt = -((m / 2 : Nat) : Int) := by
      rw [Int32.toInt_neg, t2]
      exact Int.bmod_eq_of_le (by omega) (by omega)
    rw [Int32.toInt_sub, n2, Int32.toInt_div, n1]
    have o1 : (1 : Int32).toInt = 1 := rfl
    have o2 : (2 : Int32).toInt = 2 := rfl
    rw [o1, o2]
    have k : (-((m + 1 : Nat) : Int)).tdiv 2 = -((m / 2 : Nat) : Int) - 1 := by
      rw [Int.neg_tdiv]
      have : ((m + 1 : Nat) : Int).tdiv 2 = ((m + 1) / 2 : Nat) := by
        rw [Int.ofNat_tdiv] <;> rfl
      rw [this]
      omega
    rw [k]
theorem rdS_1 {B : Nat → Int32} {u p : Nat} : ∀ k, (rdS B u (p, 1) k).2.2 = 1 := by
  intro k
  induction k with
  | zero => rfl
  | succ k ih =>
    show (rdN u (rdS B u (p, 1) k).2).2 = 1
    unfold rdN
    rw [if_pos (Or.inl (by rw [ih]; decide))]
theorem lX_sp2b {P : Int32 → mm_I → Prop} {x1 x2 : Int32} {I : mm_I} (h : I 46 7 = 1) (H : ∀ v J, J 46 7 = 1 → sm F_rx I J → P v J) : mm_W 30 2 [some (.ref 46), some (.int x1), some (.int x2), none] [] I (mm_qi 30 P) :=
  c_Reader_readSplit_2 _ _ ⟨fun _ => sp_X_bits0 h (fun J a1 a2 => H _ J a1 a2), fun _ => ⟨fun _ => sp_X_bits0 h (fun J a1 a2 => H _ J a1 a2), fun z => by rw [h] at z; exact absurd z (by decide)⟩⟩
theorem lX_sp2 {P : Int32 → mm_I → Prop} {B : Nat → Int32} {u by_ : Nat} (hu : u ≤ 4000) (hby : by_ < 14) : ∀ (r p z : Nat) (I : mm_I), z + 1 ≤ p → enR u r (p, 0) → SxI B u I → RdX u (some p) I →
    ((rdS B u (rdZ B u r (p, 0) z).2 by_).2.2 = 0 → ∀ J, RdX u (some (rdS B u (rdZ B u r (p, 0) z).2 by_).2.1) J → sm F_rx I J → P (unf ((nI (rdZ B u r (p, 0) z).1 <<< (nI by_ &&& 31)) + (rdS B u (rdZ B u r (p, 0) z).2 by_).1)) J) →
    ((rdS B u (rdZ B u r (p, 0) z).2 by_).2.2 = 1 → ∀ v J, RdX u none J → sm F_rx I J → P v J) → mm_W 30 2 [some (.ref 46), some (.int (nI by_)), some (.int (nI z)), none] [] I (mm_qi 30 P) := by
  intro r
  induction r with
  | zero =>
    intro p z I _ hr _ hR
    have h8 := hR.2.2
    unfold enR at hr
    rcases hr with y | y
    · exact absurd rfl y
    · exact absurd y.2 (by show ¬ (8 * u + 1 < 0 + p); omega)
  | succ r ih =>
    intro p z I hz hr hS hR H1 H0
    have h8 := hR.2.2
    have e : rdZ B u (r + 1) (p, 0) z = if (p, 0).2 ≠ 0 then (z, (p, 0)) else if rdV B u (p, 0) = 0 then rdZ B u r (rdN u (p, 0)) (z + 1) else (z, rdN u (p, 0)) := rfl
    rw [if_neg (fun x => x rfl)] at e
    refine c_Reader_readSplit_2 _ _ ⟨fun y => absurd y (nI_ge (b := 32000) (a := z) (by omega) (by omega)), fun _ => ⟨fun y => absurd hR.2.1 y, fun _ => ?_⟩⟩
    refine sp_X_bits (n := 1) (by omega) hu hS hR (fun c J a1 a2 => ?_) (fun c J a1 a2 => ⟨fun y => absurd rfl y, fun _ => ?_⟩)
    · have no : ¬ ((p, 0).2 ≠ 0 ∨ 8 * u ≤ (p, 0).1) := by
        show ¬ (0 ≠ 0 ∨ 8 * u ≤ p)
        omega
      have en : rdN u (p, 0) = (p + 1, 0) := if_neg no
      have ev : rdV B u (p, 0) = btO B p := if_neg no
      have eb : bvO B p 1 = btO B p := by
        show 2 * 0 + btO B (p + 0) = btO B p
        rw [Nat.add_zero, Int32.mul_zero, Int32.zero_add]
      have S1 := SxI_rx hS a2
      rw [ev, en] at e
      rw [eb]
      refine ⟨fun y => ?_, fun y => ?_⟩
      · rw [if_neg y] at e
        rw [e] at H1 H0
        refine sp_X_bits (p := p + 1) (by omega) hu S1 a1 (fun c2 J2 b1 b2 => ?_) (fun c2 J2 b1 b2 => H0 (rdS_no (by omega) by_ (by omega)) _ J2 b1 (sm.tq a2 b2))
        have eo := rdS_ok (B := B) by_ c2
        simp only [eo] at H1
        have g := H1 trivial J2 b1 (sm.tq a2 b2)
        obtain ⟨m, m1, m2⟩ := bvO_n B (p + 1) by_
        have h2 : 2 ^ by_ ≤ 2 ^ 13 := Nat.pow_le_pow_right (by omega) (by omega)
        have h3 : z * 2 ^ by_ ≤ 32000 * 2 ^ 13 := Nat.mul_le_mul (by omega) h2
        have es : nI z <<< (nI by_ &&& 31) = nI (z * 2 ^ by_) := by
          refine pk_shlN _ by_ ?_ (by omega)
          have : ∀ k, k < 14 → ((nI k &&& 31).toBitVec.smod 32).toNat = k := by decide +kernel
          exact this by_ hby
        rw [m2, es, nI_add] at g ⊢
        rw [unf_X (by omega)]
        exact g
      · rw [if_pos y] at e
        rw [e] at H1 H0
        rw [nI_1]
        have er : enR u r (p + 1, 0) := by
          have := enR_n hr rfl
          rw [en] at this
          exact this
        exact ih (p + 1) (z + 1) J (by omega) er S1 a1 (fun h J2 b1 b2 => H1 h J2 b1 (sm.tq a2 b2)) (fun h v J2 b1 b2 => H0 h v J2 b1 (sm.tq a2 b2))
    · have yes : ((p, 0).2 ≠ 0 ∨ 8 * u ≤ (p, 0).1) := Or.inr (by show 8 * u ≤ p; omega)
      have en : rdN u (p, 0) = (p, 1) := if_pos yes
      have ev : rdV B u (p, 0) = 0 := if_pos yes
      rw [ev, en, if_pos rfl] at e
      have ez : rdZ B u r (p, 1) (z + 1) = (z + 1, (p, 1)) := by
        cases r with
        | zero => rfl
        | succ r => exact if_pos (by show 1 ≠ 0; decide)
      rw [e, ez] at H0
      exact lX_sp2b a1 (fun v J2 b1 b2 => H0 (rdS_1 by_) v J2 b1 (sm.tq a2 b2))
theorem sp_X_split {P : Int32 → mm_I → Prop} {B : Nat → Int32} {u by_ w p : Nat} {I : mm_I} (hu : u ≤ 4000) (hby : by_ < 14) (hp : 1 ≤ p) (hS : SxI B u I) (hR : RdX u (some p) I)
    (H1 : (reN B u by_ w (p, 0)).2 = 0 → ∀ J, RdX u (some (reN B u by_ w (p, 0)).1) J → sm F_rx I J → P (reV B u by_ w (p, 0)) J)
    (H0 : (reN B u by_ w (p, 0)).2 = 1 → ∀ v J, RdX u none J → sm F_rx I J → P v J) : mm_Mi 30 [.ref 46, .int (nI by_)] I P := by
  have y0 : ¬ by_ = 15 := by omega
  have x0 : ¬ by_ = 14 := by omega
  have h8 := hR.2.2
  unfold reN reV at H1
  unfold reN at H0
  rw [if_neg y0, if_neg x0] at H0
  rw [if_neg y0, if_neg x0, if_neg y0, if_neg x0] at H1
  refine e_Reader_readSplit _ (lX_sp2 (B := B) hu hby 40000 p 0 I (by omega) (Or.inr ⟨h8, ?_⟩) hS hR H1 H0)
  show 8 * u + 1 < 40000 + p
  omega
