/-! the class: the head read -/
def RXh (w s : Nat → Int32) (n : Nat) (I : mm_I) : Prop := (∀ p j, p < 5 → j < 4 → I 50 (4 * p + j) = mm_fix (4 * p + j)) ∧ (∀ q j, q < n → j < 3 → I 50 (4 * (5 + q) + j) = w (3 * q + j)) ∧ (∀ p, p < 5 + n → I 51 p = nI (o_od w p)) ∧ ∀ p, p < 5 + n → I 52 p = o_sf s p
theorem RXh_0 {w s : Nat → Int32} {I : mm_I} (h : RXf I) : RXh w s 0 I := by
  obtain ⟨h1, h2, h3⟩ := h
  refine ⟨h1, fun q j hq => absurd hq (Nat.not_lt_zero q), fun p hp => ?_, fun p hp => ?_⟩
  · have hp : p < 5 := hp
    rw [h2 p hp]
    unfold o_od
    rw [if_pos hp]
  · have hp : p < 5 := hp
    rw [h3 p hp]
    unfold o_sf
    rw [if_pos hp]
theorem RXh_3 {w s : Nat → Int32} {I : mm_I} (h : RXh w s 3 I) : RXq 49 w s I := h
theorem F_xs_50 {j : Nat} (h : 20 ≤ j) : F_xs 50 j = true := by
  unfold F_xs
  rw [Nat.ble_eq_true_of_le h]
  rfl
theorem F_xs_51 {j : Nat} (h : 5 ≤ j) : F_xs 51 j = true := by
  unfold F_xs
  rw [Nat.ble_eq_true_of_le h]
  rfl
theorem F_xs_52 {j : Nat} (h : 5 ≤ j) : F_xs 52 j = true := by
  unfold F_xs
  rw [Nat.ble_eq_true_of_le h]
  rfl
theorem sp_X_tellh {P : mm_I → Prop} {n : Nat} {w s : Nat → Int32} {a b c z : Int32} {I : mm_I} (hn : n < 3) (hq : RXh w s n I) (ea : a = w (3 * n)) (eb : b = w (3 * n + 1)) (ec : c = w (3 * n + 2)) (ez : z = s n) (H : ∀ J, RXh w s (n + 1) J → sm F_xs I J → (∀ e, e ≠ 50 → e ≠ 51 → e ≠ 52 → J e = I e) → P J) : mm_Mv 20 [.ref 49, .int (nI (5 + n)), .int a, .int b, .int c, .int z] I P := by
  obtain ⟨d1, d2, d3, d4⟩ := hq
  have e0 : nI (5 + n) * (4 : Int32) = nI (4 * (5 + n)) := by
    show nI (5 + n) * nI 4 = _
    rw [pk_mul, Nat.mul_comm]
  have e2 : nI (4 * (5 + n)) + 2 = nI (4 * (5 + n) + 2) := nI_add _ 2
  refine e_Pred_tell (Or.inr rfl) _ _ _ _ _ ⟨fun y => absurd y (nI_nlt (b := 5) (by omega) (by omega)), fun _ => ⟨fun _ => ?_, fun y => absurd y (nI_ge (b := 8) (by omega) (by omega))⟩⟩
  rw [e0, e2, nI_1, nI_clamp (n := 4 * (5 + n)) (by omega), nI_clamp (n := 4 * (5 + n) + 1) (by omega), nI_clamp (n := 4 * (5 + n) + 2) (by omega), nI_clamp (n := 5 + n) (by omega)]
  have vp := vp_in_nI (n := 5 + n) (N := 8) (by omega) (by omega)
  refine ⟨vp_in_nI (by omega) (by omega), vp_in_nI (by omega) (by omega), vp_in_nI (by omega) (by omega), vp, vp, H _ ⟨fun q j hq hj => ?_, fun q j hq hj => ?_, fun q hq => ?_, fun q hq => ?_⟩ (((((sm.rf.up (F_xs_50 (by omega))).up (F_xs_50 (by omega))).up (F_xs_50 (by omega))).up (F_xs_52 (by omega))).up (F_xs_51 (by omega))) (fun e h1 h2 h3 => by rw [up_o h2, up_o h3, up_o h1, up_o h1, up_o h1])⟩
  · rw [up_o (by decide), up_o (by decide), up_a, up_a, up_a, if_neg (by omega), if_neg (by omega), if_neg (by omega)]
    exact d1 q j hq hj
  · rw [up_o (by decide), up_o (by decide), up_a, up_a, up_a]
    by_cases z0 : q = n
    · rw [z0]
      rcases (by omega : j = 0 ∨ j = 1 ∨ j = 2) with rfl | rfl | rfl
      · rw [if_neg (by omega), if_neg (by omega), if_pos (by omega), ea]; rfl
      · rw [if_neg (by omega), if_pos (by omega), eb]
      · rw [if_pos (by omega), ec]
    · rw [if_neg (by omega), if_neg (by omega), if_neg (by omega)]
      exact d2 q j (by omega) hj
  · rw [up_a]
    by_cases z0 : q = 5 + n
    · rw [if_pos z0]
      unfold o_od
      rw [if_neg (show ¬ q < 5 by omega), z0, show 5 + n - 5 = n by omega]
      unfold o_of
      rw [← ea, ← eb, ← ec]
      by_cases c0 : c = 0
      · rw [if_pos c0, if_neg (show ¬ (c ≠ 0) from fun y => y c0)]
        by_cases b0 : b = 0
        · rw [if_pos b0, if_neg (show ¬ (b ≠ 0) from fun y => y b0)]
          by_cases a0 : a = 0
          · rw [if_pos a0, if_neg (show ¬ (a ≠ 0) from fun y => y a0)]; rfl
          · rw [if_neg a0, if_pos (show a ≠ 0 from a0)]; rfl
        · rw [if_neg b0, if_pos (show b ≠ 0 from b0)]; rfl
      · rw [if_neg c0, if_pos (show c ≠ 0 from c0)]; rfl
    · rw [if_neg z0, up_o (by decide), up_o (by decide), up_o (by decide), up_o (by decide)]
      exact d3 q (by omega)
  · rw [up_o (by decide), up_a]
    by_cases z0 : q = 5 + n
    · rw [if_pos z0, z0]
      unfold o_sf
      rw [if_neg (by omega), show 5 + n - 5 = n by omega, ez]
    · rw [if_neg z0, up_o (by decide), up_o (by decide), up_o (by decide)]
      exact d4 q (by omega)
/-- the store, for the class's reader -/
abbrev SxI (B : Nat → Int32) (u : Nat) (I : mm_I) : Prop := I 47 1 = nI u ∧ ∀ i, i < u → I 48 i = B i
theorem RX.sx {A : sA} {I : mm_I} (h : RX A I) : SxI (s_sb A) (s_su A) I := ⟨h.2.2.2.2.2.1, h.2.2.2.2.2.2.2⟩
theorem SxI_xs {B : Nat → Int32} {u : Nat} {I J : mm_I} (h : SxI B u I) (f : sm F_xs I J) : SxI B u J := by
  have e1 := f.xo (a := 47) (by omega)
  have e2 := f.xo (a := 48) (by omega)
  unfold SxI
  rw [e1, e2]
  exact h
theorem sp_X_hasCheck {P : Int32 → mm_I → Prop} {I : mm_I} {B : Nat → Int32} {a b u : Nat} (hu : u ≤ 4000) (hab : a ≤ b) (hb : b ≤ 5000) (hS : SxI B u I) (hB : ∀ i, i < u → 0 ≤ (B i).toInt ∧ (B i).toInt < 256) (H1 : b + 2 ≤ u → ckS B a (b - a) = 256 * B b + B (b + 1) → P 1 I) (H0 : ¬ (b + 2 ≤ u ∧ ckS B a (b - a) = 256 * B b + B (b + 1)) → P 0 I) : mm_Mi 63 [.ref 47, .int (nI a), .int (nI b)] I P := by
  refine e_Store_hasCheck _ _ (sp_X_shas hu hS.1 ⟨fun z => ?_, fun _ => sp_X_shas hu hS.1 ⟨fun z => ?_, fun z => ?_⟩⟩)
  · refine H0 (fun y => (b1_0.mp z) ((plc (by omega) _).mpr ⟨b, by omega, rfl⟩))
  · refine H0 (fun y => (b1_0.mp z) ((plc (by omega) _).mpr ⟨b + 1, by omega, nI_1 b⟩))
  · have z := b1_n z
    rw [nI_1] at z ⊢
    obtain ⟨c, c1, c2⟩ := (plc (by omega) _).mp z
    have c2 := (nI_eq (by omega) (by omega)).mp c2
    refine sp_X_checkOf (B := B) hu (by omega) hab hS.1 (fun i _ hi => hS.2 i (by omega)) (fun i _ hi => hB i (by omega)) ?_
    rw [nI_clamp (n := b) (by omega), nI_clamp (n := b + 1) (by omega), hS.2 b (by omega), hS.2 (b + 1) (by omega), Int32.mul_comm (B b) 256]
    refine ⟨vp_in_nI (by omega) (by omega), vp_in_nI (by omega) (by omega), ?_⟩
    by_cases q : ckS B a (b - a) = 256 * B b + B (b + 1)
    · rw [if_pos q]
      exact ⟨Or.inr rfl, H1 (by omega) q⟩
    · rw [if_neg q]
      exact ⟨Or.inl rfl, H0 (fun y => q y.2)⟩
/-- the head as the class keeps it -/
def HxI (A : sA) (I : mm_I) : Prop := I 46 2 = s_sb A 2 ∧ I 46 3 = s_sb A 3 ∧ I 46 4 = s_sb A 4 ∧ I 46 5 = 256 * s_sb A 5 + s_sb A 6 ∧ RXq 49 (hWt (s_sb A)) (hSh (s_sb A)) I
abbrev hxF (A : sA) (I : mm_I) : Prop := I 46 2 = s_sb A 2 ∧ I 46 3 = s_sb A 3 ∧ I 46 4 = s_sb A 4 ∧ I 46 5 = 256 * s_sb A 5 + s_sb A 6
theorem lX_hd131 {P : Int32 → mm_I → Prop} {A : sA} {I : mm_I} (hV : VA A) (hS : 21 ≤ s_su A) (hm : s_sb A 0 = 83 ∧ s_sb A 1 = 80) (hR : RX A I)
    (H : ∀ J, HxI A J → sm F_xs I J → P (hdC A) J) : ∀ (r k : Nat) (J : mm_I), k + r = 3 → hxF A J → RXh (hWt (s_sb A)) (hSh (s_sb A)) k J → sm F_xs I J → mm_W 24 131 [some (.ref 46), some (.ref 48), some (.int (b1 (canH (s_sb A) k))), some (.int (nI (5 + k))), none] [] J (mm_qi 24 P) := by
  have hsu := hV.su
  intro r
  induction r with
  | zero =>
    intro k J hk h1 h2 hsm
    have hk : k = 3 := by omega
    subst hk
    have hd : HxI A J := ⟨h1.1, h1.2.1, h1.2.2.1, h1.2.2.2, h2⟩
    have g := H J hd hsm
    unfold hdC at g
    rw [if_neg (by omega), if_neg (fun z => z hm)] at g
    refine c_Reader_readHead_131 _ _ ⟨fun _ => ⟨fun q => ?_, fun q => ?_⟩, fun h => absurd h (by decide)⟩
    · have q := b1_n q
      rw [if_neg (fun z => z q)] at g
      refine sp_X_hasCheck (a := 0) (b := 19) hsu (by omega) (by omega) (SxI_xs hR.sx hsm) (fun i hi => hV.by hi) (fun _ y => ?_) (fun y => ?_)
      · rw [if_pos y] at g
        rw [if_neg (show ¬ (1 : Int32) = 0 by decide)]
        exact g
      · rw [if_neg (fun z => y ⟨by omega, z⟩)] at g
        rw [if_pos rfl]
        exact g
    · rw [if_pos (b1_0.mp q)] at g
      exact g
  | succ r ih =>
    intro k J hk h1 h2 hsm
    have e5 : nI (5 + k) - 5 = nI k := by
      have := pk_sub (a := 5 + k) (b := 5) (by omega)
      rw [show 5 + k - 5 = k by omega] at this
      exact this
    have e7 : (7 : Int32) + nI k * 4 = nI (7 + 4 * k) := by
      show nI 7 + nI k * nI 4 = _
      rw [pk_mul, nI_add, Nat.mul_comm]
    have e9 : nI (7 + 4 * k) + 2 = nI (7 + 4 * k + 2) := nI_add _ 2
    have e10 : nI (7 + 4 * k) + 3 = nI (7 + 4 * k + 3) := nI_add _ 3
    have v0 := vp_in_nI (n := 7 + 4 * k) (N := 4000) (by omega) (by omega)
    have v1 := vp_in_nI (n := 7 + 4 * k + 1) (N := 4000) (by omega) (by omega)
    have v2 := vp_in_nI (n := 7 + 4 * k + 2) (N := 4000) (by omega) (by omega)
    have v3 := vp_in_nI (n := 7 + 4 * k + 3) (N := 4000) (by omega) (by omega)
    have S1 := SxI_xs hR.sx hsm
    have by8 : ∀ i, i < s_su A → (s_sb A i).toInt8.toInt32 = sg8 (s_sb A i) := fun i hi => by
      have b := hV.byn hi
      rw [b.1]
      exact i8_all _ b.2
    have wt : ∀ j, j < 3 → (s_sb A (7 + 4 * k + j)).toInt8.toInt32 = hWt (s_sb A) (3 * k + j) := fun j hj => by
      rw [by8 _ (by omega)]
      unfold hWt
      rw [show (3 * k + j) / 3 = k by omega, show (3 * k + j) % 3 = j by omega]
    have sh : s_sb A (7 + 4 * k + 3) = hSh (s_sb A) k := by
      unfold hSh
      congr 1
      omega
    have b10 := hV.by (i := 7 + 4 * k + 3) (by omega)
    have tl : ∀ c, c = b1 (canH (s_sb A) (k + 1)) → mm_Mv 20 [.ref 49, .int (nI (5 + k)), .int (s_sb A (7 + 4 * k)).toInt8.toInt32, .int (s_sb A (7 + 4 * k + 1)).toInt8.toInt32, .int (s_sb A (7 + 4 * k + 2)).toInt8.toInt32, .int (s_sb A (7 + 4 * k + 3))] J (fun I199 => mm_W 24 131 [some (.ref 46), some (.ref 48), some (.int c), some (.int (nI (5 + k) + 1)), none] [] I199 (mm_qi 24 P)) := fun c e => by
      rw [e]
      refine sp_X_tellh (n := k) (by omega) h2 (wt 0 (by omega)) (wt 1 (by omega)) (wt 2 (by omega)) sh (fun J2 a1 a2 a3 => ?_)
      rw [nI_1, show 5 + k + 1 = 5 + (k + 1) by omega]
      have a46 : J2 46 = J 46 := a3 46 (by decide) (by decide) (by decide)
      refine ih (k + 1) J2 (by omega) ?_ a1 (sm.tq hsm a2)
      unfold hxF
      rw [a46]
      exact h1
    refine c_Reader_readHead_131 _ _ ⟨fun h => absurd h (nI_ge (b := 8) (by omega) (by omega)), fun _ => ?_⟩
    rw [e5, e7, e9, e10, nI_1 (7 + 4 * k), nI_clamp (n := 7 + 4 * k) (by omega), nI_clamp (n := 7 + 4 * k + 1) (by omega), nI_clamp (n := 7 + 4 * k + 2) (by omega), nI_clamp (n := 7 + 4 * k + 3) (by omega)]
    rw [S1.2 (7 + 4 * k) (by omega), S1.2 (7 + 4 * k + 1) (by omega), S1.2 (7 + 4 * k + 2) (by omega), S1.2 (7 + 4 * k + 3) (by omega)]
    refine ⟨fun q => ⟨v0, v1, v2, v3, tl 0 ?_⟩, fun q => ⟨v3, sp_X_isShift ⟨v0, v1, v2, v3, ?_⟩⟩⟩
    · have q := b1_0.mp q
      rw [b1_f (fun z => q ⟨z.1, fun j hj => z.2 j (by omega)⟩)]
    · have q := b1_n q
      rw [S1.2 (7 + 4 * k) (by omega), S1.2 (7 + 4 * k + 1) (by omega), S1.2 (7 + 4 * k + 2) (by omega), S1.2 (7 + 4 * k + 3) (by omega)]
      refine tl _ ?_
      have p0 : (0 : Int32) ≤ s_sb A (7 + 4 * k + 3) := by
        rw [le_I]
        exact b10.1
      by_cases y : s_sb A (7 + 4 * k + 3) ≤ 4
      · have c1 : canH (s_sb A) (k + 1) := ⟨q.1, fun j hj => by
          by_cases z : j = k
          · rw [z, ← sh]; exact y
          · exact q.2 j (by omega)⟩
        rw [b1_t c1, b1_t ⟨p0, y⟩]
        rfl
      · rw [b1_f (fun z => y z.2), b1_f (fun z => y (by rw [sh]; exact z.2 k (by omega)))]
        rfl
theorem sp_X_readHead {P : Int32 → mm_I → Prop} {A : sA} {I : mm_I} (hR : RX A I) (hV : VA A) (H : ∀ J, (hdC A = 0 → HxI A J) → sm F_xs I J → P (hdC A) J) : mm_Mi 24 [.ref 46] I P := by
  have hsu := hV.su
  have hB := hR.sx.2
  refine e_Reader_readHead ?_
  rw [hR.sx.1]
  refine ⟨fun h => ?_, fun h => ?_⟩
  · have hS : 21 ≤ s_su A := (nI_leI (a := 21) (by omega) (by omega)).mp h
    rw [hB 0 (by omega), hB 1 (by omega), hB 2 (by omega), hB 3 (by omega), hB 4 (by omega), hB 5 (by omega), hB 6 (by omega), Int32.mul_comm (s_sb A 5) 256]
    have no : ¬ (s_sb A 0 = 83 ∧ s_sb A 1 = 80) → P 2 I := fun q => by
      have e : hdC A = 2 := by
        unfold hdC
        rw [if_neg (by omega), if_pos q]
      have := H I (fun z => absurd (e.symm.trans z) (by decide)) sm.rf
      rw [e] at this
      exact this
    refine ⟨fun q => no (fun z => q z.1), fun q => ⟨fun q2 => ?_, fun q2 => no (fun z => q2 z.2)⟩⟩
    have f4 : sm F_xs I (mm_up (mm_up (mm_up (mm_up I 46 2 (s_sb A 2)) 46 3 (s_sb A 3)) 46 4 (s_sb A 4)) 46 5 (256 * s_sb A 5 + s_sb A 6)) := ((((sm.rf.up rfl).up rfl).up rfl).up rfl)
    have go : ∀ c, c = b1 (canH (s_sb A) 0) → mm_W 24 131 [some (.ref 46), some (.ref 48), some (.int c), some (.int 5), none] [] (mm_up (mm_up (mm_up (mm_up I 46 2 (s_sb A 2)) 46 3 (s_sb A 3)) 46 4 (s_sb A 4)) 46 5 (256 * s_sb A 5 + s_sb A 6)) (mm_qi 24 P) := fun c e => by
      rw [e]
      exact lX_hd131 hV hS ⟨q, q2⟩ hR (fun J a1 a2 => H J (fun _ => a1) a2) 3 0 _ (by omega) ⟨rfl, rfl, rfl, rfl⟩ (RXh_0 (hR.xs f4).2.2.2.2.1) f4
    have c0 : ∀ p : Prop, (canH (s_sb A) 0 → p) → ¬ p → (0 : Int32) = b1 (canH (s_sb A) 0) := fun p a b => (b1_f (fun z => b (a z))).symm
    refine ⟨fun z => go 0 (c0 _ (fun w => w.1.1.1) (fun w => absurd z (fa_nlt w))), fun z => ⟨fun y => go 0 (c0 _ (fun w => w.1.1.2) (fun w => absurd y (fa_nlt w))), fun y => sp_X_isWidth ⟨fun x => go 0 (c0 _ (fun w => w.1.2.1) (b1_0.mp x)), fun x => sp_X_isFrame (go _ ?_)⟩⟩⟩
    have x := b1_n x
    show (if b1 (o_isF (s_sb A 4)) = 0 then (0 : Int32) else (if 256 < 256 * s_sb A 5 + s_sb A 6 then (0 : Int32) else 1)) = b1 (canH (s_sb A) 0)
    by_cases f : o_isF (s_sb A 4)
    · rw [b1_t f, if_neg (by decide)]
      by_cases m : 256 < 256 * s_sb A 5 + s_sb A 6
      · rw [if_pos m]
        exact c0 _ (fun w => w.1.2.2.2) (fun w => absurd m (fa_nlt w))
      · have q3 : canH (s_sb A) 0 := ⟨⟨⟨z, y⟩, x, f, fa_nlt' m⟩, fun j hj => absurd hj (Nat.not_lt_zero j)⟩
        rw [if_neg m, b1_t q3]
    · rw [b1_f f, if_pos rfl]
      exact c0 _ (fun w => w.1.2.2.1) f
  · have hS : s_su A < 21 := (nI_ltI (b := 21) (by omega) (by omega)).mp h
    have e : hdC A = 1 := if_pos hS
    have := H I (fun z => absurd (e.symm.trans z) (by decide)) sm.rf
    rw [e] at this
    exact this
theorem oX_head {A : sA} {I : mm_I} (hR : RX A I) (hV : VA A) : mm_Mi 106 [.ref 0] I (oR (oHead A) RX FX I) :=
  e_WS_head (sp_X_readHead hR hV (fun _ _ f => finX hR f rfl))
theorem oX_holds {A : sA} {I : mm_I} {x : Int32} (hR : RX A I) (hV : VA A) : mm_Mi 109 [.ref 0, .int x] I (oR (oHolds A x) RX FX I) := by
  refine e_WS_holds x (sp_X_readHead hR hV (fun J a1 f => ⟨fun h => finX hR f (by rw [if_neg (fun z => h z.1)]), fun h => ?_⟩))
  obtain ⟨d1, d2, d3, d4, _⟩ := a1 h
  have hN := hd_n hV h
  obtain ⟨em, hm⟩ := hN.2.2.2.1
  obtain ⟨ef, hf, _⟩ := hN.2.2.1
  have no : ¬ (0 ≤ x ∧ x ≤ 256 * s_sb A 5 + s_sb A 6 - 1) → oR (oHolds A x) RX FX I (-1) J := fun z => finX hR f (by rw [if_neg (fun y => z y.2)])
  rw [d4, d3]
  refine ⟨fun z => no (fun y => absurd z (fa_nlt y.1)), fun z => ⟨fun y => no (fun w => ?_), fun y => ⟨fun _ => ⟨isF_n0 (hdC_0 h).2.1.2.2.1, finX hR f ?_⟩, fun w => ?_⟩⟩⟩
  · rw [em] at w y
    obtain ⟨c, c1, c2⟩ := (plc (by omega) _).mp w
    rw [c2] at y
    exact absurd y (nI_ge (by omega) (by omega))
  · have w : 0 ≤ x ∧ x ≤ 256 * s_sb A 5 + s_sb A 6 - 1 := by
      rw [em] at y ⊢
      obtain ⟨j, hj, rfl⟩ := nI_of (fa_nlt z)
      exact (plc (by omega) _).mpr ⟨j, (nI_ltI (by omega) (by omega)).mp y, rfl⟩
    rw [if_pos ⟨h, w⟩]
  · rw [ef] at w
    exact absurd w (nI_nle (by omega) (by omega))
