/-! the class: fill, feed, predictor, clear -/
theorem bv_by (x : BitVec 64) (s : Nat) (hs : s ≤ 56) : ((x >>> s).setWidth 32 &&& 255#32) = ((x.sshiftRight s).setWidth 32 &&& 255#32) := by
  apply BitVec.eq_of_getLsbD_eq
  intro i hi
  rw [BitVec.getLsbD_and, BitVec.getLsbD_and, BitVec.getLsbD_setWidth, BitVec.getLsbD_setWidth, BitVec.getLsbD_ushiftRight, BitVec.getLsbD_sshiftRight]
  by_cases q : i < 8
  · have h1 : ¬ 64 ≤ i := by omega
    have h2 : s + i < 64 := by omega
    simp only [hi, h1, h2, decide_true, decide_false, Bool.true_and, Bool.not_false, if_true]
  · have : (255#32).getLsbD i = false := by
      rw [BitVec.getLsbD_ofNat]
      have : (255 : Nat).testBit i = false := Nat.testBit_lt_two_pow (Nat.lt_of_lt_of_le (show 255 < 2 ^ 8 by decide) (Nat.pow_le_pow_right (by omega) (by omega)))
      rw [this, Bool.and_false]
    rw [this, Bool.and_false, Bool.and_false]
theorem bv_dr (x : BitVec 32) : ((x >>> 16) &&& 32767#32) = ((x.sshiftRight 16) &&& 32767#32) := by
  apply BitVec.eq_of_getLsbD_eq
  intro i hi
  rw [BitVec.getLsbD_and, BitVec.getLsbD_and, BitVec.getLsbD_ushiftRight, BitVec.getLsbD_sshiftRight]
  by_cases q : i < 15
  · have h1 : ¬ 32 ≤ i := by omega
    have h2 : 16 + i < 32 := by omega
    simp only [h1, h2, decide_false, Bool.true_and, Bool.not_false, if_true]
  · have : (32767#32).getLsbD i = false := by
      rw [BitVec.getLsbD_ofNat]
      have : (32767 : Nat).testBit i = false := Nat.testBit_lt_two_pow (Nat.lt_of_lt_of_le (show 32767 < 2 ^ 15 by decide) (Nat.pow_le_pow_right (by omega) (by omega)))
      rw [this, Bool.and_false]
    rw [this, Bool.and_false, Bool.and_false]
theorem dr_I (x : Int32) : (((x.toUInt32 >>> ((16 : Int32).toUInt32 &&& Int32.toUInt32 31)).toInt32) &&& 32767) = o_drw x := by
  unfold o_drw
  apply Int32.toBitVec_inj.mp
  rw [Int32.toBitVec_and, Int32.toBitVec_and]
  exact bv_dr x.toBitVec
theorem by_I (w : Int64) {m : Nat} (hm : m < 8) : ((((w.toUInt64 >>> ((nI (8 * m)).toInt64.toUInt64 &&& Int64.toUInt64 63)).toInt64).toInt32) &&& 255) = o_by w (7 - m) := by
  unfold o_by
  rw [show 56 - 8 * (7 - m) = 8 * m by omega]
  apply Int32.toBitVec_inj.mp
  rw [Int32.toBitVec_and, Int32.toBitVec_and]
  have k : ∀ s, s ≤ 56 → ((w.toBitVec >>> s).signExtend 32 &&& 255#32) = ((w.toBitVec.sshiftRight s).signExtend 32 &&& 255#32) := fun s hs => by
    rw [BitVec.signExtend_eq_setWidth_of_le _ (by decide), BitVec.signExtend_eq_setWidth_of_le _ (by decide)]
    exact bv_by w.toBitVec s hs
  rcases (by omega : m = 0 ∨ m = 1 ∨ m = 2 ∨ m = 3 ∨ m = 4 ∨ m = 5 ∨ m = 6 ∨ m = 7) with rfl | rfl | rfl | rfl | rfl | rfl | rfl | rfl
  · exact k 0 (by omega)
  · exact k 8 (by omega)
  · exact k 16 (by omega)
  · exact k 24 (by omega)
  · exact k 32 (by omega)
  · exact k 40 (by omega)
  · exact k 48 (by omega)
  · exact k 56 (by omega)
def F_tx (a j : Nat) : Bool := Nat.beq a 2 || (Nat.beq a 1 && Nat.beq j 1)
theorem lX_push {P : mm_I → Prop} {w : Int64} : ∀ (n u : Nat) (I : mm_I), n ≤ 8 → u + n ≤ 240 → I 1 1 = nI u → (∀ J, J 1 1 = nI (u + n) → (∀ i, J 2 i = if u ≤ i ∧ i < u + n then o_by w (8 - n + (i - u)) else I 2 i) → sm F_tx I J → P J) → mm_W 65 3 [some (.ref 1), some (.long w), none, some (.int (nI (8 * n) - 8))] [] I (mm_qv 65 P) := by
  intro n
  induction n with
  | zero =>
    intro u I hn hu e H
    refine c_Tape_push_3 _ _ ⟨fun _ => H I e (fun i => by rw [if_neg (by omega)]) sm.rf, fun z => absurd z (by decide)⟩
  | succ n ih =>
    intro u I hn hu e H
    have e8 : nI (8 * (n + 1)) - 8 = nI (8 * n) := by
      have := pk_sub (a := 8 * (n + 1)) (b := 8) (by omega)
      rw [show 8 * (n + 1) - 8 = 8 * n by omega] at this
      exact this
    have em : nI (8 * n) + (-8) = nI (8 * n) - 8 := by
      apply tI_ext
      rw [tI_add (by rw [nI_toInt (by omega)]; show _ ≤ _ + (-8 : Int); omega) (by rw [nI_toInt (by omega)]; show _ + (-8 : Int) < _; omega), tI_sub (by rw [nI_toInt (by omega)]; show _ ≤ _ - (8 : Int); omega) (by rw [nI_toInt (by omega)]; show _ - (8 : Int) < _; omega)]
      rfl
    rw [e8]
    refine c_Tape_push_3 _ _ ⟨fun z => absurd z (nI_pos (by omega)), fun _ => ?_⟩
    rw [e]
    refine ⟨fun z => absurd z (nI_ge (b := 240) (by omega) (by omega)), fun _ => ⟨vp_in_nI (by omega) (by omega), ?_⟩⟩
    rw [by_I w (show n < 8 by omega), nI_clamp (n := u) (by omega), nI_1, em]
    refine ih (u + 1) _ (by omega) (by omega) rfl (fun J a1 a2 a3 => H J ?_ (fun i => ?_) (sm.tq ((sm.rf.up rfl).up rfl) a3))
    · rw [a1]; congr 1; omega
    · rw [a2 i, up_o (by decide), up_a]
      by_cases q : i = u
      · rw [if_neg (by omega), if_pos q, if_pos (by omega)]
        congr 1
        omega
      · by_cases q2 : u + 1 ≤ i ∧ i < u + 1 + n
        · rw [if_pos q2, if_pos (by omega)]
          congr 1
          omega
        · rw [if_neg q2, if_neg q, if_neg (by omega)]
theorem sp_X_push {P : mm_I → Prop} {w : Int64} {u : Nat} {I : mm_I} (hu : u + 8 ≤ 240) (e : I 1 1 = nI u) (H : ∀ J, J 1 1 = nI (u + 8) → (∀ i, J 2 i = if u ≤ i ∧ i < u + 8 then o_by w (i - u) else I 2 i) → sm F_tx I J → P J) : mm_Mv 65 [.ref 1, .long w] I P :=
  e_Tape_push w (lX_push (w := w) 8 u I (by omega) hu e (fun J a1 a2 a3 => H J a1 (fun i => by rw [a2 i]; congr 2; omega) a3))
theorem oX_feed {A : sA} {I : mm_I} {a b c : Int64} (hR : RX A I) (hV : VA A) : mm_Mi 68 [.ref 0, .long a, .long b, .long c] I (oR (oFeed A a b c) RX FX I) := by
  have hR0 := hR
  obtain ⟨ht, hs, ho, hp, hf, hk⟩ := hR
  have htu := hV.tu
  have e24 : I 1 1 + 24 = nI (s_tu A + 24) := by rw [ht.1]; exact nI_add _ 24
  refine e_WS_feed a b c ?_
  rw [e24]
  refine ⟨fun h => ?_, fun h => ?_⟩
  · have h : s_tu A + 24 ≤ 240 := (nI_leI (b := 240) (by omega) (by omega)).mp h
    refine sp_X_push (u := s_tu A) (by omega) ht.1 (fun J1 a1 a2 a3 => sp_X_push (u := s_tu A + 8) (by omega) a1 (fun J2 b1 b2 b3 => sp_X_push (u := s_tu A + 8 + 8) (by omega) b1 (fun J3 c1 c2 c3 => ?_)))
    have hsm := sm.tq (sm.tq a3 b3) c3
    have fo : ∀ a, a ≠ 1 → a ≠ 2 → J3 a = I a := fun a h1 h2 => hsm.fn a (fun j => by
      unfold F_tx
      rw [mm_beq_f h1, mm_beq_f h2]
      rfl)
    unfold oFeed
    rw [if_pos h]
    have f0 := fo 0 (by decide) (by decide); have f3 := fo 3 (by decide) (by decide); have f4 := fo 4 (by decide) (by decide); have f5 := fo 5 (by decide) (by decide); have f7 := fo 7 (by decide) (by decide); have f8 := fo 8 (by decide) (by decide); have f9 := fo 9 (by decide) (by decide); have f47 := fo 47 (by decide) (by decide); have f48 := fo 48 (by decide) (by decide); have f50 := fo 50 (by decide) (by decide); have f51 := fo 51 (by decide) (by decide); have f52 := fo 52 (by decide) (by decide)
    refine ⟨c1, ⟨⟨c1, fun i hi => ?_⟩, ?_, ?_, ?_, ?_, ?_⟩, fun a ha => fo a (by omega) (by omega)⟩
    · have hi : i < s_tu A + 24 := hi
      show J3 2 i = if i < s_tu A then s_tb A i else o_b3 a b c (i - s_tu A)
      rw [c2 i, b2 i, a2 i]
      unfold o_b3
      by_cases q : i < s_tu A
      · rw [if_neg (by omega), if_neg (by omega), if_neg (by omega), if_pos q]
        exact ht.2 i q
      · rw [if_neg q]
        by_cases q1 : i - s_tu A < 8
        · rw [if_neg (by omega), if_neg (by omega), if_pos (by omega), if_pos q1]
        · rw [if_neg q1]
          by_cases q2 : i - s_tu A < 16
          · rw [if_neg (by omega), if_pos (by omega), if_pos q2]
            congr 1
          · rw [if_neg q2, if_pos (by omega)]
            congr 1
    · unfold RXs; rw [f3, f4, f5]; exact hs
    · unfold RXo; rw [f0]; exact ho
    · unfold RXq; rw [f7, f8, f9]; exact hp
    · unfold RXf; rw [f50, f51, f52]; exact hf
    · unfold RXk; rw [f47, f48]; exact hk
  · unfold oFeed
    rw [if_neg (fun z => absurd h (nI_nlt (a := 240) (by omega) (by omega)))]
    exact ⟨rfl, hR0, FX.rf⟩
/-! fill -/
theorem hd_I {w : Nat} (hw : w = 8 ∨ w = 16) (v : Int32) : (if -(if nI w = 8 then (128 : Int32) else 32768) < (if v < (if nI w = 8 then (128 : Int32) else 32768) - 1 then (v : Int32) else (if nI w = 8 then (128 : Int32) else 32768) - 1) then ((if v < (if nI w = 8 then (128 : Int32) else 32768) - 1 then (v : Int32) else (if nI w = 8 then (128 : Int32) else 32768) - 1) : Int32) else -(if nI w = 8 then (128 : Int32) else 32768)) = o_hd w v := by
  have k : ∀ lo hi : Int32, lo.toInt < hi.toInt → (if lo < (if v < hi then (v : Int32) else hi) then ((if v < hi then (v : Int32) else hi) : Int32) else lo) = (if v ≤ hi then (if lo ≤ v then v else lo) else hi) := fun lo hi h => by
    have e1 := lt_I v hi
    have e2 := le_I v hi
    have e3 := le_I lo v
    have e4 := lt_I lo v
    have e5 := lt_I lo hi
    by_cases q1 : v.toInt < hi.toInt
    · rw [if_pos (e1.mpr q1), if_pos (e2.mpr (by omega))]
      by_cases q2 : lo.toInt < v.toInt
      · rw [if_pos (e4.mpr q2), if_pos (e3.mpr (by omega))]
      · rw [if_neg (fun z => q2 (e4.mp z))]
        by_cases q3 : lo.toInt = v.toInt
        · rw [if_pos (e3.mpr (by omega))]
          exact tI_ext q3
        · rw [if_neg (fun z => by have := e3.mp z; omega)]
    · rw [if_neg (fun z => q1 (e1.mp z)), if_pos (e5.mpr h)]
      by_cases q2 : v.toInt = hi.toInt
      · rw [if_pos (e2.mpr (by omega)), if_pos (e3.mpr (by omega))]
        exact (tI_ext q2).symm
      · rw [if_neg (fun z => by have := e2.mp z; omega)]
  rcases hw with rfl | rfl
  · exact k (-128) 127 (by decide)
  · exact k (-32768) 32767 (by decide)
theorem sp_X_held {P : Int32 → mm_I → Prop} {I : mm_I} {w : Nat} {v : Int32} (hw : w = 8 ∨ w = 16) (e : I 3 3 = nI w) (H : P (o_hd w v) I) : mm_Mi 52 [.ref 3, .int v] I P := by
  refine e_Sound_held v (e_Math_min _ _ (e_Math_max _ _ ?_))
  rw [e, hd_I hw]
  exact H
theorem RX_sd {A : sA} {J : mm_I} {v : Int32} (h : RX A J) : RX (s_F A 6 (fun _ => v)) (mm_up J 3 4 v) :=
  ⟨h.1, ⟨h.2.1.1, h.2.1.2.1, rfl, h.2.1.2.2.2.1, h.2.1.2.2.2.2⟩, h.2.2.1, h.2.2.2.1, h.2.2.2.2.1, h.2.2.2.2.2⟩
theorem grx.c9 {c n0 m : Nat} {T : Nat → Int32} {I J : mm_I} {v : Int32} (h : grx c n0 m T I J) : grx c n0 m T I (mm_up J 3 4 v) := by
  obtain ⟨h1, h2, h3, h4⟩ := h
  refine ⟨h1, h2, fun a q1 q2 q3 => ?_, fun j hj => ?_⟩
  · rw [up_o q1]; exact h3 a q1 q2 q3
  · rw [up_a, if_neg hj, h4 j hj]
theorem grx.rs {A : sA} {I J : mm_I} {c N : Nat} {T : Nat → Int32} {v : Int32} (hR : RX A I) (hV : VA A) (hc : c < s_ch A) (hN : s_cn A c + N ≤ 256) (h9 : J 3 4 = v) (h : grx c (s_cn A c) N T I J) : RX (s_F (o_app A c T N) 6 (fun _ => v)) J := by
  have := RX_sd (v := v) (grx.rm (J := mm_up J 3 4 (I 3 4)) hR hV hc hN rfl h.c9)
  rw [up_id h9] at this
  exact this
theorem sp_X_filled {P : Int32 → mm_I → Prop} {A : sA} {I J : mm_I} {s0 : Int32} {c k : Nat} {kind x y : Int32} (hR : RXs A I) (hV : VA A) (hc : c < s_ch A) (hk : s_cn A c + k < 256) (hg : grx c (s_cn A c) k (fun j => o_hd (s_wd A) (o_fl A s0 c kind x y j)) I J) (h9 : J 3 4 = if kind = 3 then o_sds s0 k else I 3 4)
    (hkd : 0 ≤ kind ∧ kind ≤ 4) (h2 : kind = 2 → 1 ≤ y ∧ y ≤ 64) (h3 : kind = 3 → 0 ≤ x ∧ x ≤ 32767) (h4 : kind = 4 → 0 ≤ y ∧ y ≤ 255)
    (H : ∀ J', (kind = 3 → J' = mm_up J 3 4 (o_sds s0 (k + 1))) → (¬ kind = 3 → J' = J) → P (o_fl A s0 c kind x y k) J') : mm_Mi 73 [.ref 0, .int (nI c), .int kind, .int (nI k), .int x, .int y] J P := by
  have hch := hV.ch
  refine e_WS_filled _ _ _ _ _ ⟨fun h => ?_, fun h => ⟨fun z => ?_, fun z => ?_⟩, fun h => ⟨fun z => ?_, fun z => ?_⟩, fun h => ?_, fun n1 n2 n3 n4 => ?_⟩
  · have := H J (fun z => absurd (h.symm.trans z) (by decide)) (fun _ => rfl)
    unfold o_fl at this
    rw [if_neg (by rw [h]; decide), if_pos h] at this
    exact this
  · have a := (h2 h).1
    rw [le_I] at a z
    have a : 1 ≤ y.toInt := a
    have z : y.toInt ≤ 0 := z
    omega
  · have := H J (fun z => absurd (h.symm.trans z) (by decide)) (fun _ => rfl)
    unfold o_fl at this
    rw [if_neg (by rw [h]; decide), if_neg (by rw [h]; decide), if_pos h] at this
    refine ⟨fun w => ?_, this⟩
    rw [w] at z
    exact absurd z (by decide)
  · rw [if_pos h] at h9
    refine e_Sound_draw ?_
    rw [h9, dr_I]
    refine ⟨fun z => ?_, ?_⟩
    · obtain ⟨q1, q2⟩ := h3 h
      rw [le_I] at q1 q2
      have q1 : 0 ≤ x.toInt := q1
      have q2 : x.toInt ≤ 32767 := q2
      have t2 : (2 : Int32).toInt = 2 := rfl
      have t1 : (1 : Int32).toInt = 1 := rfl
      have e2 : (2 * x).toInt = 2 * x.toInt := by rw [tI_mul (by rw [t2]; omega) (by rw [t2]; omega), t2]
      have e3 : (2 * x + 1).toInt = 2 * x.toInt + 1 := by rw [tI_add (by rw [e2, t1]; omega) (by rw [e2, t1]; omega), e2, t1]
      rw [z] at e3
      have e3 : (0 : Int) = 2 * x.toInt + 1 := e3
      omega
    · have := H _ (fun _ => rfl) (fun z => absurd h z)
      unfold o_fl at this
      rw [if_neg (by rw [h]; decide), if_neg (by rw [h]; decide), if_neg (by rw [h]; decide), if_pos h] at this
      exact this
  · exact absurd z (fa_nlt (h3 h).1)
  · have n0 : ¬ kind = 0 := by rw [h]; decide
    have n1 : ¬ kind = 1 := by rw [h]; decide
    have n2 : ¬ kind = 2 := by rw [h]; decide
    have n3 : ¬ kind = 3 := by rw [h]; decide
    rw [if_neg n3] at h9
    have := H J (fun z => absurd z n3) (fun _ => rfl)
    unfold o_fl at this
    rw [if_neg n0, if_neg n1, if_neg n2, if_neg n3] at this
    obtain ⟨Y, hY, rfl⟩ := btw0 (m := 255) (by omega) (h4 h)
    have cY : (nI Y).toNatClampNeg = Y := nI_clamp (by omega)
    have cc : (nI c).toNatClampNeg = c := nI_clamp (by omega)
    have h5 : J 5 c = nI (s_cn A c + k) := by rw [hg.1 c, if_pos rfl]
    have e1c : (1 : Int32) - nI c = nI (1 - c) := pk_sub (a := 1) (b := c) (by omega)
    have o5 : J 5 (1 - c) = nI (s_cn A (1 - c)) := by rw [hg.1, if_neg (by omega)]; exact hR.2.2.2.1 (1 - c) (by omega)
    have hcn := hV.cn (c := 1 - c) (by omega)
    have h32 : J 3 2 = nI (s_ch A) := by rw [hg.2.2.2 2 (by decide)]; exact hR.1
    rw [cY] at this
    rw [cc, h5, e1c]
    refine ⟨vp_in_nI (by omega) (by omega), e_Sound_orZero _ _ (e_Sound_holdsPlace _ _ (sp_X_has hch h32 ?_))⟩
    have c1 : (nI (1 - c)).toNatClampNeg = 1 - c := nI_clamp (by omega)
    rw [c1, o5]
    have v1 := vp_in_nI (n := 1 - c) (N := 2) (by omega) (by omega)
    have x0 : x + 0 = x := by
      apply tI_ext
      have := I_rng x
      rw [tI_add (by show _ ≤ x.toInt + 0; omega) (by show x.toInt + 0 < _; omega)]
      show x.toInt + 0 = x.toInt
      omega
    by_cases q1 : s_ch A = 2
    · have ok := (nch hch (nI (1 - c))).mpr ⟨1 - c, by omega, rfl⟩
      rw [b1_t ok, if_neg (show ¬ (1 : Int32) = 0 by decide)]
      by_cases q2 : Y ≤ s_cn A c + k
      · have e3 : nI (s_cn A c + k) - nI Y = nI (s_cn A c + k - Y) := pk_sub q2
        rw [e3, if_neg (nI_pos (by omega))]
        by_cases q3 : s_cn A c + k - Y < s_cn A (1 - c)
        · rw [if_neg (nI_ge (by omega) (by omega))]
          rw [if_pos ⟨q1, q2, q3⟩] at this
          refine ⟨fun _ => ⟨fun _ => ⟨v1, trivial⟩, trivial⟩, Or.inr rfl, fun z => absurd z (by decide), fun _ => e_Sound_valueAt _ _ ?_⟩
          rw [ixX, nI_clamp (n := 256 * (1 - c) + (s_cn A c + k - Y)) (by omega)]
          have o4 : J 4 (256 * (1 - c) + (s_cn A c + k - Y)) = s_sm A (1 - c) (s_cn A c + k - Y) := by
            rw [hg.2.1, if_neg (by omega)]
            exact hR.2.2.2.2 (1 - c) _ (by omega) q3
          rw [o4]
          exact ⟨vp_in_nI (by omega) (by omega), this⟩
        · rw [if_pos (nI_le (by omega) (by omega))]
          rw [if_neg (fun z => q3 z.2.2)] at this
          refine ⟨fun _ => ⟨fun _ => ⟨v1, trivial⟩, trivial⟩, Or.inl rfl, fun _ => ?_, fun z => absurd rfl z⟩
          rw [x0]
          exact this
      · have e3 : nI (s_cn A c + k) - nI Y < 0 := pk_sneg (by omega) (by omega)
        rw [if_pos e3]
        rw [if_neg (fun z => q2 z.2.1)] at this
        refine ⟨fun _ => ⟨fun _ => ⟨v1, trivial⟩, trivial⟩, Or.inl rfl, fun _ => ?_, fun z => absurd rfl z⟩
        rw [x0]
        exact this
    · have nok : ¬ (0 ≤ nI (1 - c) ∧ nI (1 - c) ≤ nI (s_ch A) - 1) := fun z => by
        obtain ⟨d, hd, e⟩ := (nch hch _).mp z
        have := (nI_eq (by omega) (by omega)).mp e
        omega
      rw [b1_f nok, if_pos rfl]
      rw [if_neg (fun z => q1 z.1)] at this
      refine ⟨fun z => absurd rfl z, Or.inl rfl, fun _ => ?_, fun z => absurd rfl z⟩
      rw [x0]
      exact this
  · have k0 : kind = 0 := by
      by_cases n0 : kind = 0
      · exact n0
      · exact absurd (kd4 hkd n0 n1 n2 n3) n4
    have := H J (fun z => absurd z n3) (fun _ => rfl)
    unfold o_fl at this
    rw [if_pos k0] at this
    exact this
theorem lX_fill {P : Int32 → mm_I → Prop} {A : sA} {I : mm_I} {c N : Nat} {kind x y s0 : Int32} (hR : RX A I) (hV : VA A) (hc : c < s_ch A) (hN : s_cn A c + N ≤ 256)
    (hkd : 0 ≤ kind ∧ kind ≤ 4) (h2 : kind = 2 → 1 ≤ y ∧ y ≤ 64) (h3 : kind = 3 → 0 ≤ x ∧ x ≤ 32767) (h4 : kind = 4 → 0 ≤ y ∧ y ≤ 255)
    (H : ∀ J, grx c (s_cn A c) N (fun j => o_hd (s_wd A) (o_fl A s0 c kind x y j)) I J → J 3 4 = (if kind = 3 then o_sds s0 N else I 3 4) → P (nI (s_cn A c + N)) J) : ∀ (r k : Nat) (J : mm_I), k + r = N → grx c (s_cn A c) k (fun j => o_hd (s_wd A) (o_fl A s0 c kind x y j)) I J → J 3 4 = (if kind = 3 then o_sds s0 k else I 3 4) → mm_W 71 74 [some (.ref 0), some (.int (nI c)), some (.int kind), some (.int (nI N)), some (.int x), some (.int y), some (.int (nI k))] [] J (mm_qi 71 P) := by
  intro r
  have hch := hV.ch
  have vc := vp_in_nI (n := c) (N := 2) (by omega) (by omega)
  induction r with
  | zero =>
    intro k J hk hg h9
    have hk : k = N := by omega
    subst hk
    refine c_WS_fill_74 _ _ _ _ _ _ ⟨fun _ => ⟨vc, ?_⟩, fun h => absurd h (nI_nlt (by omega) (by omega))⟩
    rw [nI_clamp (by omega), hg.1 c, if_pos rfl]
    exact H J hg h9
  | succ r ih =>
    intro k J hk hg h9
    refine c_WS_fill_74 _ _ _ _ _ _ ⟨fun h => absurd h (nI_ge (by omega) (by omega)), fun _ => ?_⟩
    refine sp_X_filled hR.2.1 hV hc (by omega) hg h9 hkd h2 h3 h4 (fun J' e3 en => ?_)
    have hg' : grx c (s_cn A c) k (fun j => o_hd (s_wd A) (o_fl A s0 c kind x y j)) I J' := by
      by_cases q : kind = 3
      · rw [e3 q]; exact hg.c9
      · rw [en q]; exact hg
    have h9' : J' 3 4 = if kind = 3 then o_sds s0 (k + 1) else I 3 4 := by
      by_cases q : kind = 3
      · rw [e3 q, if_pos q, up_a, if_pos rfl]
      · rw [en q, if_neg q, h9, if_neg q]
    refine sp_X_held (w := s_wd A) (hV.wd (by omega)) (by rw [hg'.2.2.2 3 (by decide)]; exact hR.2.1.2.1) (sp_X_put hch (by rw [hg'.2.2.2 2 (by decide)]; exact hR.2.1.1) hc (n := s_cn A c + k) (by omega) (by rw [hg'.1 c, if_pos rfl]) ?_)
    rw [nI_1]
    exact ih (k + 1) _ (by omega) hg'.st h9'
theorem sp_X_canFill {P : Int32 → mm_I → Prop} {I : mm_I} {k x y : Int32} (H1 : (0 ≤ k ∧ k ≤ 4) → (-65536 ≤ x ∧ x ≤ 65536) → (-65536 ≤ y ∧ y ≤ 65536) → (k = 2 → 1 ≤ y ∧ y ≤ 64) → (k = 3 → 0 ≤ x ∧ x ≤ 32767) → (k = 4 → 0 ≤ y ∧ y ≤ 255) → P 1 I)
    (H0 : ¬ ((0 ≤ k ∧ k ≤ 4) ∧ (-65536 ≤ x ∧ x ≤ 65536) ∧ (-65536 ≤ y ∧ y ≤ 65536) ∧ (k = 2 → 1 ≤ y ∧ y ≤ 64) ∧ (k = 3 → 0 ≤ x ∧ x ≤ 32767) ∧ (k = 4 → 0 ≤ y ∧ y ≤ 255)) → P 0 I) : mm_Mi 72 [.int k, .int x, .int y] I P := by
  have no3 : ∀ a b : Int32, ¬ a = b → k = a → k = b → False := fun a b h e1 e2 => h (e1.symm.trans e2)
  refine e_WS_canFill _ _ _ ⟨fun h => H0 (fun z => absurd h (fa_nlt z.2.1.1)), fun a1 => ⟨fun h => H0 (fun z => absurd h (fa_nlt z.2.1.2)), fun a2 => ⟨fun h => H0 (fun z => absurd h (fa_nlt z.2.2.1.1)), fun a3 => ⟨fun a4 => ?_, fun h => H0 (fun z => absurd h (fa_nlt z.2.2.1.2))⟩⟩⟩⟩
  refine ⟨fun e => ?_, fun e => ?_, fun e => ?_, fun e => ?_, fun e => ?_, fun n0 n1 n2 n3 n4 => ?_⟩
  · exact H1 (by rw [e]; decide) ⟨a1, a2⟩ ⟨a3, a4⟩ (fun z => (no3 0 2 (by decide) e z).elim) (fun z => (no3 0 3 (by decide) e z).elim) (fun z => (no3 0 4 (by decide) e z).elim)
  · exact H1 (by rw [e]; decide) ⟨a1, a2⟩ ⟨a3, a4⟩ (fun z => (no3 1 2 (by decide) e z).elim) (fun z => (no3 1 3 (by decide) e z).elim) (fun z => (no3 1 4 (by decide) e z).elim)
  · rw [if2]
    refine ⟨b1_01, ?_⟩
    by_cases q : 1 ≤ y ∧ y ≤ 64
    · rw [b1_t q]
      exact H1 (by rw [e]; decide) ⟨a1, a2⟩ ⟨a3, a4⟩ (fun _ => q) (fun z => (no3 2 3 (by decide) e z).elim) (fun z => (no3 2 4 (by decide) e z).elim)
    · rw [b1_f q]
      exact H0 (fun z => q (z.2.2.2.1 e))
  · rw [if2]
    refine ⟨b1_01, ?_⟩
    by_cases q : 0 ≤ x ∧ x ≤ 32767
    · rw [b1_t q]
      exact H1 (by rw [e]; decide) ⟨a1, a2⟩ ⟨a3, a4⟩ (fun z => (no3 3 2 (by decide) e z).elim) (fun _ => q) (fun z => (no3 3 4 (by decide) e z).elim)
    · rw [b1_f q]
      exact H0 (fun z => q (z.2.2.2.2.1 e))
  · have e255 : (if y < 0 then (0 : Int32) else (if 256 ≤ y then (0 : Int32) else 1)) = b1 (0 ≤ y ∧ y ≤ 255) := by
      rw [← if2]
      have : (256 ≤ y) ↔ (255 < y) := by
        rw [le_I, lt_I]
        show (256 : Int) ≤ y.toInt ↔ (255 : Int) < y.toInt
        omega
      by_cases q : (255 : Int32) < y
      · rw [if_pos (this.mpr q), if_pos q]
      · rw [if_neg (fun z => q (this.mp z)), if_neg q]
    rw [e255]
    refine ⟨b1_01, ?_⟩
    by_cases q : 0 ≤ y ∧ y ≤ 255
    · rw [b1_t q]
      exact H1 (by rw [e]; decide) ⟨a1, a2⟩ ⟨a3, a4⟩ (fun z => (no3 4 2 (by decide) e z).elim) (fun z => (no3 4 3 (by decide) e z).elim) (fun _ => q)
    · rw [b1_f q]
      exact H0 (fun z => q (z.2.2.2.2.2 e))
  · exact H0 (fun z => n4 (kd4 z.1 n0 n1 n2 n3))
theorem oX_fill {A : sA} {I : mm_I} {x kind n X Y : Int32} (hR : RX A I) (hV : VA A) : mm_Mi 71 [.ref 0, .int x, .int kind, .int n, .int X, .int Y] I (oR (oFill A x kind n X Y) RX FX I) := by
  have hR0 := hR
  obtain ⟨ht, hs, ho, hp, hf, hk⟩ := hR
  have hch := hV.ch
  have no : ¬ o_cf A x kind n X Y → oR (oFill A x kind n X Y) RX FX I (-1) I := fun h => by
    unfold oFill
    rw [if_neg h]
    exact ⟨rfl, hR0, FX.rf⟩
  refine e_WS_fill _ _ _ _ _ (sp_X_has hch hs.1 ⟨fun h => no fun z => (b1_0.mp h) z.1, fun h => ⟨fun h2 => no fun z => absurd h2 (fa_nlt z.2.2.1.1), fun h2 => ⟨fun h3 => no fun z => absurd h3 (fa_nlt z.2.2.1.2), fun h3 => ?_⟩⟩⟩)
  have hx := b1_n h
  have hx0 := hx
  obtain ⟨c, hc, rfl⟩ := (nch hch x).mp hx
  obtain ⟨N, hN1, hN, rfl⟩ := btw1 (m := 64) (by omega) ⟨h2, h3⟩
  have hcn := hV.cn (c := c) (by omega)
  have cc : (nI c).toNatClampNeg = c := nI_clamp (by omega)
  have cN : (nI N).toNatClampNeg = N := nI_clamp (by omega)
  have e256 : (256 : Int32) - nI (s_cn A c) = nI (256 - s_cn A c) := pk_sub (a := 256) hcn
  rw [cc, hs.2.2.2.1 c (by omega), e256]
  refine ⟨vp_in_nI (by omega) (by omega), fun h4 => no fun z => ?_, fun h4 => ?_⟩
  · have := z.2.2.2.2.2.2.2.2
    rw [cc, cN] at this
    exact absurd h4 (nI_nlt (by omega) (by omega))
  have q5 : s_cn A c + N ≤ 256 := by have := (nI_leI (by omega) (by omega)).mp h4; omega
  refine sp_X_canFill (fun k1 k2 k3 k4 k5 k6 => ⟨fun _ => ?_, fun z => absurd z (by decide)⟩) (fun hno => ⟨fun z => absurd rfl z, fun _ => no fun z => hno ⟨z.2.1, z.2.2.2.1, z.2.2.2.2.1, z.2.2.2.2.2.1, z.2.2.2.2.2.2.1, z.2.2.2.2.2.2.2.1⟩⟩)
  have q : o_cf A (nI c) kind (nI N) X Y := ⟨hx0, k1, ⟨h2, h3⟩, k2, k3, k4, k5, k6, by rw [cc, cN]; exact q5⟩
  have fin : ∀ (I1 : mm_I), (∀ a, a ≠ 3 → I1 a = I a) → (∀ j, j ≠ 4 → I1 3 j = I 3 j) → I1 3 4 = o_s0 A kind Y → ∀ J, grx c (s_cn A c) N (fun j => o_hd (s_wd A) (o_fl A (o_s0 A kind Y) c kind X Y j)) I1 J → J 3 4 = (if kind = 3 then o_sds (o_s0 A kind Y) N else I1 3 4) → oR (oFill A (nI c) kind (nI N) X Y) RX FX I (nI (s_cn A c + N)) J := fun I1 f1 f2 f3 J hg h9 => by
    unfold oFill
    rw [if_pos q, cc, cN]
    refine ⟨rfl, ?_, fun a ha => (hg.fx a ha).trans (f1 a (by omega))⟩
    have hR1 : RX (s_F A 6 (fun _ => o_s0 A kind Y)) I1 := by
      have g0 := f1 0 (by decide); have g1 := f1 1 (by decide); have g2 := f1 2 (by decide); have g4 := f1 4 (by decide); have g5 := f1 5 (by decide); have g7 := f1 7 (by decide); have g8 := f1 8 (by decide); have g9 := f1 9 (by decide); have g47 := f1 47 (by decide); have g48 := f1 48 (by decide); have g50 := f1 50 (by decide); have g51 := f1 51 (by decide); have g52 := f1 52 (by decide)
      unfold RX RXt RXs RXo RXq RXf RXk
      rw [g0, g1, g2, g4, g5, g7, g8, g9, g47, g48, g50, g51, g52, f2 2 (by decide), f2 3 (by decide), f3]
      exact ⟨ht, ⟨hs.1, hs.2.1, rfl, hs.2.2.2.1, hs.2.2.2.2⟩, ho, hp, hf, hk⟩
    have h9' : J 3 4 = o_s1 A kind Y N := by
      unfold o_s1
      rw [h9, f3]
      by_cases z : kind = 3
      · rw [if_pos z, if_pos z]
      · rw [if_neg z, if_neg z]
        unfold o_s0
        rw [if_neg (fun w => z w.1)]
    have := grx.rs (A := s_F A 6 (fun _ => o_s0 A kind Y)) (v := o_s1 A kind Y N) hR1 hV hc q5 h9' hg
    rcases (by omega : c = 0 ∨ c = 1) with rfl | rfl
    · exact this
    · exact this
  refine ⟨fun z => ?_, fun z => ⟨fun z2 => ?_, fun z2 => ?_⟩⟩
  · refine lX_fill (A := A) (s0 := o_s0 A kind Y) hR0 hV hc q5 k1 k4 k5 k6 (fin _ (fun a _ => rfl) (fun j _ => rfl) ?_) N 0 _ (by omega) (grx.z (hs.2.2.2.1 c (by omega))) (by rw [if_neg z])
    unfold o_s0
    rw [if_neg (fun w => z w.1)]
    exact hs.2.2.1
  · have e0 : I 3 4 = o_s0 A kind Y := by
      unfold o_s0
      rw [if_neg (fun w => w.2 z2)]
      exact hs.2.2.1
    refine lX_fill (A := A) (s0 := o_s0 A kind Y) hR0 hV hc q5 k1 k4 k5 k6 (fin _ (fun a _ => rfl) (fun j _ => rfl) e0) N 0 _ (by omega) (grx.z (hs.2.2.2.1 c (by omega))) ?_
    rw [if_pos z, e0]
    rfl
  · have e0 : (mm_up I 3 4 Y) 3 4 = o_s0 A kind Y := by
      unfold o_s0
      rw [if_pos ⟨z, z2⟩]
      rfl
    refine lX_fill (A := s_F A 6 (fun _ => Y)) (s0 := o_s0 A kind Y) (RX_sd hR0) hV hc q5 k1 k4 k5 k6 (fin _ (fun a ha => up_o ha) (fun j h9 => by rw [up_a, if_neg h9]) e0) N 0 _ (by omega) (grx.z (hs.2.2.2.1 c (by omega))) ?_
    rw [if_pos z, e0]
    rfl
