/-! what can be stays so -/
theorem VA_frame {A : sA} {x : Int32} (h : VA A) : VA (oFrame A x).2 := by
  unfold oFrame
  by_cases q : o_isF x
  · rw [if_pos q]
    obtain ⟨n, h1, h2, h3, rfl⟩ := isF_nat q
    have e : (nI n).toNatClampNeg = n := nI_clamp (by omega)
    show VA (s_N A 3 (nI n).toNatClampNeg)
    rw [e]
    exact VA_fr h ⟨h1, h2, h3⟩
  · rw [if_neg q]; exact h
theorem VA_effort {A : sA} {x : Int32} (h : VA A) : VA (oEffort A x).2 := by
  unfold oEffort
  by_cases q : 0 ≤ x ∧ x ≤ 1
  · rw [if_pos q]
    obtain ⟨n, h1, h2, rfl⟩ := btw (a := 0) (b := 1) rfl rfl q
    have e : (nI n).toNatClampNeg = n := nI_clamp (by omega)
    show VA (s_N A 4 (nI n).toNatClampNeg)
    rw [e]
    obtain ⟨k1, k2, k3, k4, k5, k6, k7, k8, k9, k10, k11, k12, k13, k14, k15⟩ := h
    exact ⟨k1, k2, k3, k4, k5, h2, k7, k8, k9, k10, k11, k12, k13, k14, k15⟩
  · rw [if_neg q]; exact h
theorem VA_allow {A : sA} {x : Int32} (h : VA A) : VA (oAllow A x).2 := by
  unfold oAllow
  by_cases q : 0 ≤ x ∧ x ≤ 255
  · rw [if_pos q]
    obtain ⟨n, h1, h2, rfl⟩ := btw (a := 0) (b := 255) rfl rfl q
    have e := (or1_all n (by omega)).2
    show VA (s_N A 5 (nI n ||| 1).toNatClampNeg)
    obtain ⟨k1, k2, k3, k4, k5, k6, k7, k8, k9, k10, k11, k12, k13, k14, k15⟩ := h
    exact ⟨k1, k2, k3, k4, k5, k6, e, k8, k9, k10, k11, k12, k13, k14, k15⟩
  · rw [if_neg q]; exact h
theorem VA_sb {A : sA} {g : Nat → Int32} {u : Nat} (h : VA A) (hu : u ≤ 4000) (hg : ∀ i, i < u → 0 ≤ (g i).toInt ∧ (g i).toInt < 256) : VA (s_N (s_F A 5 g) 8 u) := by
  obtain ⟨k1, k2, k3, k4, k5, k6, k7, k8, k9, k10, k11, k12, k13, k14, k15⟩ := h
  exact ⟨k1, k2, k3, k4, k5, k6, k7, k8, k9, hu, k11, hg, k13, k14, k15⟩
theorem x_xor {a b : Nat} (ha : a < 256) (hb : b < 256) : 0 ≤ (nI a ^^^ nI b).toInt ∧ (nI a ^^^ nI b).toInt < 256 := by
  have h8 : a ^^^ b < 2 ^ 8 := Nat.xor_lt_two_pow (n := 8) ha hb
  rw [(i_xor (by omega) (by omega)).1, nI_toInt (by omega)]
  omega
theorem VA_spoil {A : sA} {x y : Int32} (h : VA A) : VA (oSpoil A x y).2 := by
  have hsu := h.su
  unfold oSpoil
  by_cases q : (0 ≤ x ∧ x ≤ nI (s_su A) - 1) ∧ (1 ≤ y ∧ y ≤ 255)
  · rw [if_pos q]
    obtain ⟨c, hc, rfl⟩ := (plc (by omega) x).mp q.1
    obtain ⟨n, n1, n2, rfl⟩ := btw (a := 1) (b := 255) rfl rfl q.2
    have ec : (nI c).toNatClampNeg = c := nI_clamp (by omega)
    show VA (s_F A 5 (upd (s_sb A) (nI c).toNatClampNeg (s_sb A (nI c).toNatClampNeg ^^^ nI n)))
    rw [ec]
    have b := h.byn hc
    obtain ⟨k1, k2, k3, k4, k5, k6, k7, k8, k9, k10, k11, k12, k13, k14, k15⟩ := h
    refine ⟨k1, k2, k3, k4, k5, k6, k7, k8, k9, k10, k11, fun i hi => ?_, k13, k14, k15⟩
    show 0 ≤ (upd (s_sb A) c (s_sb A c ^^^ nI n) i).toInt ∧ (upd (s_sb A) c (s_sb A c ^^^ nI n) i).toInt < 256
    unfold upd
    by_cases z : i = c
    · rw [if_pos z, b.1]
      exact x_xor b.2 (by omega)
    · rw [if_neg z]
      exact k12 i hi
  · rw [if_neg q]; exact h
theorem VA_drop {A : sA} {x : Int32} (h : VA A) : VA (oDrop A x).2 := by
  unfold oDrop
  by_cases q : 0 ≤ x ∧ x ≤ nI (s_su A)
  · rw [if_pos q]
    obtain ⟨k1, k2, k3, k4, k5, k6, k7, k8, k9, k10, k11, k12, k13, k14, k15⟩ := h
    refine ⟨k1, k2, k3, k4, k5, k6, k7, k8, k9, Nat.le_trans (Nat.sub_le _ _) k10, k11, fun i hi => k12 i (Nat.lt_of_lt_of_le hi (Nat.sub_le _ _)), k13, k14, k15⟩
  · rw [if_neg q]; exact h
theorem VA_take {A : sA} {x : Int32} (h : VA A) : VA (oTake A x).2 := by
  have hsu := h.su
  unfold oTake
  by_cases q : 0 ≤ x ∧ x ≤ nI (s_su A) - 1
  · rw [if_pos q]
    refine VA_sb h (by omega) (fun i hi => ?_)
    show 0 ≤ (if i < x.toNatClampNeg then s_sb A i else s_sb A (i + 1)).toInt ∧ (if i < x.toNatClampNeg then s_sb A i else s_sb A (i + 1)).toInt < 256
    by_cases z : i < x.toNatClampNeg
    · rw [if_pos z]; exact h.by (by omega)
    · rw [if_neg z]; exact h.by (by omega)
  · rw [if_neg q]; exact h
theorem VA_pack {A : sA} (h : VA A) : VA (oPack A).2 := by
  unfold oPack
  by_cases q : rdy A
  · rw [if_pos q]
    have a := w_fs_ok h (nfr A) (Nat.le_refl _)
    have b := szB_c h (Nat.le_refl (nfr A))
    refine VA_aW h ?_ a.1
    rw [a.2]
    show szB A (s_fr A) (s_al A) (nfr A) ≤ 4000
    omega
  · rw [if_neg q]; exact h
theorem VA_channel {A : sA} {x : Int32} (h : VA A) : VA (oChannel A x).2 := by
  unfold oChannel
  by_cases q : (x = 8 ∨ x = 16) ∧ (s_ch A = 0 ∨ x = nI (s_wd A)) ∧ s_ch A < 2
  · rw [if_pos q]
    have w16 := h.wd0
    obtain ⟨k1, k2, k3, k4, k5, k6, k7, k8, k9, k10, k11, k12, k13, k14, k15⟩ := h
    have e : x.toNatClampNeg = 8 ∨ x.toNatClampNeg = 16 := by
      rcases q.1 with z | z
      · rw [z]; exact Or.inl rfl
      · rw [z]; exact Or.inr rfl
    have same : s_ch A ≠ 0 → x.toNatClampNeg = s_wd A := fun z => by
      rcases q.2.1 with y | y
      · exact absurd y z
      · rw [y, nI_clamp (by omega)]
    refine ⟨k1, Nat.succ_le_of_lt q.2.2, fun z => absurd z (Nat.succ_ne_zero _), fun _ => e, k5, k6, k7, k8, fun c hc z => k9 c hc (Nat.le_of_succ_le z), k10, k11, k12, fun c i hc hi => ?_, k14, k15⟩
    have hc : c < s_ch A + 1 := hc
    have hi : i < s_cn A c := hi
    show -(2 ^ (x.toNatClampNeg - 1) : Nat) ≤ (s_sm A c i).toInt ∧ (s_sm A c i).toInt < (2 ^ (x.toNatClampNeg - 1) : Nat)
    by_cases z : c < s_ch A
    · rw [same (by omega)]
      exact k13 c i z hi
    · have : s_cn A c = 0 := k9 c (by omega) (by omega)
      omega
  · rw [if_neg q]; exact h
theorem VA_pred {A : sA} {x a b c s : Int32} (h : VA A) : VA (oPred A x a b c s).2 := by
  unfold oPred
  by_cases q : (5 ≤ x ∧ x ≤ 7) ∧ okW a ∧ okW b ∧ okW c ∧ (0 ≤ s ∧ s ≤ 4)
  · rw [if_pos q]
    obtain ⟨q1, qa, qb, qc, qs⟩ := q
    have tw : ∀ v : Int32, okW v → -31 ≤ v.toInt ∧ v.toInt ≤ 31 := fun v z => by
      obtain ⟨z1, z2⟩ := z
      rw [le_I] at z1 z2
      exact ⟨z1, z2⟩
    obtain ⟨k1, k2, k3, k4, k5, k6, k7, k8, k9, k10, k11, k12, k13, k14, k15⟩ := h
    refine ⟨k1, k2, k3, k4, k5, k6, k7, k8, k9, k10, k11, k12, k13, fun j hj => ?_, fun j hj => ?_⟩
    · show -31 ≤ (o_w3 (s_wt A) (x.toNatClampNeg - 5) a b c j).toInt ∧ (o_w3 (s_wt A) (x.toNatClampNeg - 5) a b c j).toInt ≤ 31
      unfold o_w3
      split
      · exact tw a qa
      · split
        · exact tw b qb
        · split
          · exact tw c qc
          · exact k14 j hj
    · show 0 ≤ (upd (s_sh A) (x.toNatClampNeg - 5) s j).toInt ∧ (upd (s_sh A) (x.toNatClampNeg - 5) s j).toInt ≤ 4
      unfold upd
      split
      · rw [le_I, le_I] at qs
        exact qs
      · exact k15 j hj
  · rw [if_neg q]; exact h
theorem z_toI : (0 : Int32).toInt = 0 := rfl
theorem VA_clear {A : sA} (h : VA A) : VA (oClear A).2 := by
  obtain ⟨k1, k2, k3, k4, k5, k6, k7, k8, k9, k10, k11, k12, k13, k14, k15⟩ := h
  refine ⟨Nat.zero_le _, Nat.zero_le _, fun _ => rfl, fun z => absurd rfl z, ⟨by show 16 ≤ 32; omega, by show 32 ≤ 64; omega, by show 32 % 8 = 0; rfl⟩, Nat.le_refl _, ⟨by show 255 ≤ 255; omega, by show 255 % 2 = 1; rfl⟩, fun c hc => ?_, fun c hc _ => ?_, k10, fun i hi => absurd hi (Nat.not_lt_zero i), k12, fun c i hc => absurd hc (Nat.not_lt_zero c), fun j hj => ?_, fun j hj => ?_⟩
  · rcases (by omega : c = 0 ∨ c = 1) with rfl | rfl <;> exact Nat.zero_le _
  · rcases (by omega : c = 0 ∨ c = 1) with rfl | rfl <;> rfl
  · show -31 ≤ (0 : Int32).toInt ∧ (0 : Int32).toInt ≤ 31
    rw [z_toI]; omega
  · show 0 ≤ (0 : Int32).toInt ∧ (0 : Int32).toInt ≤ 4
    rw [z_toI]; omega
theorem by_b (w : Int64) (j : Nat) : 0 ≤ (o_by w j).toInt ∧ (o_by w j).toInt < 256 := by
  unfold o_by
  obtain ⟨k, hk, e⟩ := pk_andE ((w >>> ((nI (56 - 8 * j)).toInt64 &&& 63)).toInt32) (m := 255) 8 (by decide +kernel)
  rw [e, nI_toInt (by omega)]
  omega
theorem VA_feed {A : sA} {a b c : Int64} (h : VA A) : VA (oFeed A a b c).2 := by
  unfold oFeed
  by_cases q : s_tu A + 24 ≤ 240
  · rw [if_pos q]
    obtain ⟨k1, k2, k3, k4, k5, k6, k7, k8, k9, k10, k11, k12, k13, k14, k15⟩ := h
    refine ⟨q, k2, k3, k4, k5, k6, k7, k8, k9, k10, fun i hi => ?_, k12, k13, k14, k15⟩
    show 0 ≤ (if i < s_tu A then s_tb A i else o_b3 a b c (i - s_tu A)).toInt ∧ (if i < s_tu A then s_tb A i else o_b3 a b c (i - s_tu A)).toInt < 256
    by_cases z : i < s_tu A
    · rw [if_pos z]; exact k11 i z
    · rw [if_neg z]
      unfold o_b3
      split
      · exact by_b _ _
      · split <;> exact by_b _ _
  · rw [if_neg q]; exact h
abbrev inB (w : Nat) (v : Int32) : Prop := -(2 ^ (w - 1) : Nat) ≤ v.toInt ∧ v.toInt < (2 ^ (w - 1) : Nat)
theorem VA_app {A : sA} {c N : Nat} {T : Nat → Int32} (h : VA A) (hc : c < s_ch A) (hN : s_cn A c + N ≤ 256) (hT : ∀ j, j < N → inB (s_wd A) (T j)) : VA (o_app A c T N) := by
  have hch := h.ch
  obtain ⟨k1, k2, k3, k4, k5, k6, k7, k8, k9, k10, k11, k12, k13, k14, k15⟩ := h
  have cn : ∀ d, d < 2 → s_cn (o_app A c T N) d = if d = c then s_cn A c + N else s_cn A d := fun d hd => o_sc_cn (by omega) hd
  have sm : ∀ d, d < 2 → s_sm (o_app A c T N) d = if d = c then (fun i => if i < s_cn A c then s_sm A c i else T (i - s_cn A c)) else s_sm A d := fun d hd => o_sc_sm (by omega) hd
  have g8 : ∀ d, d < 2 → s_cn (o_app A c T N) d ≤ 256 := fun d hd => by
    rw [cn d hd]
    by_cases z : d = c
    · rw [if_pos z]; exact hN
    · rw [if_neg z]; exact k8 d hd
  have g9 : ∀ d, d < 2 → s_ch A ≤ d → s_cn (o_app A c T N) d = 0 := fun d hd z => by
    rw [cn d hd, if_neg (by omega)]
    exact k9 d hd z
  have g13 : ∀ d i, d < s_ch A → i < s_cn (o_app A c T N) d → inB (s_wd A) (s_sm (o_app A c T N) d i) := fun d i hd hi => by
    rw [cn d (by omega)] at hi
    rw [sm d (by omega)]
    by_cases z : d = c
    · rw [if_pos z] at hi ⊢
      show inB (s_wd A) (if i < s_cn A c then s_sm A c i else T (i - s_cn A c))
      by_cases y : i < s_cn A c
      · rw [if_pos y]; exact k13 c i hc y
      · rw [if_neg y]; exact hT _ (by omega)
    · rw [if_neg z] at hi ⊢
      exact k13 d i hd hi
  rcases (by omega : c = 0 ∨ c = 1) with rfl | rfl
  · exact ⟨k1, k2, k3, k4, k5, k6, k7, g8, g9, k10, k11, k12, g13, k14, k15⟩
  · exact ⟨k1, k2, k3, k4, k5, k6, k7, g8, g9, k10, k11, k12, g13, k14, k15⟩
theorem sg8_b {n : Nat} (h : n < 256) : inB 8 (sg8 (nI n)) := by
  have : ∀ n, n < 256 → -128 ≤ (sg8 (nI n)).toInt ∧ (sg8 (nI n)).toInt < 128 := by decide +kernel
  exact this n h
theorem sg16_b {n : Nat} (h : n < 65536) : inB 16 (sg16 (nI n)) := by
  unfold sg16
  by_cases q : nI n < 32768
  · rw [if_pos q]
    have q := (nI_ltI (b := 32768) (by omega) (by omega)).mp q
    show -(2 ^ (16 - 1) : Nat) ≤ (nI n).toInt ∧ (nI n).toInt < (2 ^ (16 - 1) : Nat)
    rw [nI_toInt (by omega)]
    omega
  · rw [if_neg q]
    have q : 32768 ≤ n := by
      rcases Nat.lt_or_ge n 32768 with z | z
      · exact absurd ((nI_ltI (b := 32768) (by omega) (by omega)).mpr z) q
      · exact z
    show -(2 ^ (16 - 1) : Nat) ≤ (nI n - 65536).toInt ∧ (nI n - 65536).toInt < (2 ^ (16 - 1) : Nat)
    have e : (nI n - 65536).toInt = (n : Int) - 65536 := by
      rw [Int32.toInt_sub, nI_toInt (by omega)]
      have : (65536 : Int32).toInt = 65536 := rfl
      rw [this]
      exact Int.bmod_eq_of_le (by omega) (by omega)
    rw [e]
    omega
theorem VA_samples {A : sA} {x n : Int32} (h : VA A) : VA (oSamples A x n).2 := by
  have hch := h.ch
  unfold oSamples
  by_cases q : (0 ≤ x ∧ x ≤ nI (s_ch A) - 1) ∧ (0 ≤ n ∧ n ≤ 256) ∧ n.toNatClampNeg * (s_wd A / 8) ≤ s_tu A ∧ s_cn A x.toNatClampNeg + n.toNatClampNeg ≤ 256
  · rw [if_pos q]
    obtain ⟨q1, q2, q3, q4⟩ := q
    obtain ⟨c, hc, rfl⟩ := (nch hch x).mp q1
    have ec : (nI c).toNatClampNeg = c := nI_clamp (by omega)
    rw [ec] at q4 ⊢
    have v : VA (o_app A c (o_smp A) n.toNatClampNeg) := by
      refine VA_app h hc q4 (fun j hj => ?_)
      unfold o_smp
      have hw := h.wd (by omega)
      by_cases z : s_wd A = 8
      · rw [if_pos z, z]
        rw [z] at q3
        have b := h.tb (i := j) (by omega)
        rw [b.1]
        exact sg8_b b.2
      · have z : s_wd A = 16 := by omega
        rw [if_neg (by omega), z]
        rw [z] at q3
        have b1 := h.tb (i := 2 * j) (by omega)
        have b2 := h.tb (i := 2 * j + 1) (by omega)
        have e : (256 : Int32) * s_tb A (2 * j) + s_tb A (2 * j + 1) = nI (256 * (s_tb A (2 * j)).toNatClampNeg + (s_tb A (2 * j + 1)).toNatClampNeg) := by
          conv => lhs; rw [b1.1, b2.1]
          show nI 256 * _ + _ = _
          rw [pk_mul, nI_add]
        rw [e]
        exact sg16_b (by omega)
    obtain ⟨k1, k2, k3, k4, k5, k6, k7, k8, k9, k10, k11, k12, k13, k14, k15⟩ := v
    exact ⟨Nat.zero_le _, k2, k3, k4, k5, k6, k7, k8, k9, k10, fun i hi => absurd hi (Nat.not_lt_zero i), k12, k13, k14, k15⟩
  · rw [if_neg q]; exact h
theorem hd_b {w : Nat} (hw : w = 8 ∨ w = 16) (v : Int32) : inB w (o_hd w v) := by
  have e1 : (127 : Int32).toInt = 127 := rfl
  have e2 : (-128 : Int32).toInt = -128 := rfl
  have e3 : (32767 : Int32).toInt = 32767 := rfl
  have e4 : (-32768 : Int32).toInt = -32768 := rfl
  unfold o_hd
  rcases hw with rfl | rfl
  · rw [if_pos rfl, if_pos rfl]
    by_cases q : v ≤ 127
    · rw [if_pos q]
      by_cases p : (-128 : Int32) ≤ v
      · rw [if_pos p]
        rw [le_I] at q p
        show -(2 ^ (8 - 1) : Nat) ≤ v.toInt ∧ v.toInt < (2 ^ (8 - 1) : Nat)
        omega
      · rw [if_neg p]
        show -(2 ^ (8 - 1) : Nat) ≤ (-128 : Int32).toInt ∧ (-128 : Int32).toInt < (2 ^ (8 - 1) : Nat)
        omega
    · rw [if_neg q]
      show -(2 ^ (8 - 1) : Nat) ≤ (127 : Int32).toInt ∧ (127 : Int32).toInt < (2 ^ (8 - 1) : Nat)
      omega
  · rw [if_neg (show ¬ (16 : Nat) = 8 by decide), if_neg (show ¬ (16 : Nat) = 8 by decide)]
    by_cases q : v ≤ 32767
    · rw [if_pos q]
      by_cases p : (-32768 : Int32) ≤ v
      · rw [if_pos p]
        rw [le_I] at q p
        show -(2 ^ (16 - 1) : Nat) ≤ v.toInt ∧ v.toInt < (2 ^ (16 - 1) : Nat)
        omega
      · rw [if_neg p]
        show -(2 ^ (16 - 1) : Nat) ≤ (-32768 : Int32).toInt ∧ (-32768 : Int32).toInt < (2 ^ (16 - 1) : Nat)
        omega
    · rw [if_neg q]
      show -(2 ^ (16 - 1) : Nat) ≤ (32767 : Int32).toInt ∧ (32767 : Int32).toInt < (2 ^ (16 - 1) : Nat)
      omega
theorem VA_fill {A : sA} {x kind n X Y : Int32} (h : VA A) : VA (oFill A x kind n X Y).2 := by
  have hch := h.ch
  unfold oFill
  by_cases q : o_cf A x kind n X Y
  · rw [if_pos q]
    have q1 := q.1
    have q4 := q.2.2.2.2.2.2.2.2
    obtain ⟨c, hc, rfl⟩ := (nch hch x).mp q1
    have ec : (nI c).toNatClampNeg = c := nI_clamp (by omega)
    rw [ec] at q4 ⊢
    have v : VA (o_app A c (o_flT A c kind X Y) n.toNatClampNeg) := VA_app h hc q4 (fun j hj => hd_b (h.wd (by omega)) _)
    obtain ⟨k1, k2, k3, k4, k5, k6, k7, k8, k9, k10, k11, k12, k13, k14, k15⟩ := v
    exact ⟨k1, k2, k3, k4, k5, k6, k7, k8, k9, k10, k11, k12, k13, k14, k15⟩
  · rw [if_neg q]; exact h
