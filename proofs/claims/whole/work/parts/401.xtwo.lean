/-! the class: samples and fill -/
def grx (c n0 m : Nat) (T : Nat → Int32) (I J : mm_I) : Prop := (∀ d, J 5 d = if d = c then nI (n0 + m) else I 5 d) ∧ (∀ i, J 4 i = if 256 * c + n0 ≤ i ∧ i < 256 * c + n0 + m then T (i - (256 * c + n0)) else I 4 i) ∧ (∀ a, a ≠ 3 → a ≠ 4 → a ≠ 5 → J a = I a) ∧ ∀ j, j ≠ 4 → J 3 j = I 3 j
theorem grx.st {c n0 m : Nat} {T : Nat → Int32} {I J : mm_I} (h : grx c n0 m T I J) : grx c n0 (m + 1) T I (mm_up (mm_up J 4 (256 * c + (n0 + m)) (T m)) 5 c (nI (n0 + m + 1))) := by
  obtain ⟨h1, h2, h3, h4⟩ := h
  refine ⟨fun d => ?_, fun i => ?_, fun a q1 q2 q3 => ?_, fun j hj => ?_⟩
  · rw [up_a, up_o (by decide), h1 d]
    by_cases q : d = c
    · rw [if_pos q, if_pos q]; rfl
    · rw [if_neg q, if_neg q, if_neg q]
  · rw [up_o (by decide), up_a, h2 i]
    by_cases q : i = 256 * c + (n0 + m)
    · rw [if_pos q, if_pos (by omega)]
      congr 1
      omega
    · rw [if_neg q]
      by_cases q2 : 256 * c + n0 ≤ i ∧ i < 256 * c + n0 + m
      · rw [if_pos q2, if_pos (by omega)]
      · rw [if_neg q2, if_neg (by omega)]
  · rw [up_o q3, up_o q2, h3 a q1 q2 q3]
  · rw [up_o (by decide), up_o (by decide), h4 j hj]
theorem grx.z {c n0 : Nat} {T : Nat → Int32} {I : mm_I} (e : I 5 c = nI n0) : grx c n0 0 T I I := by
  refine ⟨fun d => ?_, fun i => ?_, fun a _ _ _ => rfl, fun j _ => rfl⟩
  · by_cases q : d = c
    · rw [if_pos q, q]; exact e
    · rw [if_neg q]
  · rw [if_neg (by omega)]
theorem RX_sc {A : sA} {I J : mm_I} {c m : Nat} {g : Nat → Int32} (hR : RX A I) (hV : VA A) (hc : c < s_ch A) (h58 : ∀ j, J 3 j = I 3 j) (ho : ∀ a, a ≠ 3 → a ≠ 4 → a ≠ 5 → J a = I a) (h61 : ∀ d, J 5 d = if d = c then nI m else I 5 d) (h60 : ∀ i, i < m → J 4 (256 * c + i) = g i) (h60o : ∀ d i, d < 2 → d ≠ c → i < 256 → J 4 (256 * d + i) = I 4 (256 * d + i)) : RX (o_sc A c g m) J := by
  have hch := hV.ch
  obtain ⟨ht, hs, ⟨o1, o2, o3⟩, hp, hf, hk⟩ := hR
  obtain ⟨q1, q2, q3, q4, q5, q6, q7, q8, q9, q10, q11, q12⟩ := o_sc_o (A := A) (m := m) (g := g) (show c < 2 by omega)
  have f0 := ho 0 (by decide) (by decide) (by decide); have f1 := ho 1 (by decide) (by decide) (by decide); have f2 := ho 2 (by decide) (by decide) (by decide); have f7 := ho 7 (by decide) (by decide) (by decide); have f8 := ho 8 (by decide) (by decide) (by decide); have f9 := ho 9 (by decide) (by decide) (by decide); have f47 := ho 47 (by decide) (by decide) (by decide); have f48 := ho 48 (by decide) (by decide) (by decide); have f50 := ho 50 (by decide) (by decide) (by decide); have f51 := ho 51 (by decide) (by decide) (by decide); have f52 := ho 52 (by decide) (by decide) (by decide)
  unfold RX RXt RXs RXo RXq RXf RXk
  rw [q1, q2, q3, q4, q5, q6, q7, q8, q9, q10, q11, q12, f0, f1, f2, f7, f8, f9, f47, f48, f50, f51, f52, h58 2, h58 3, h58 4]
  refine ⟨ht, ⟨hs.1, hs.2.1, hs.2.2.1, fun d hd => ?_, fun d i hd hi => ?_⟩, ⟨o1, o2, o3⟩, hp, hf, hk⟩
  · rw [h61 d, o_sc_cn (by omega) (by omega)]
    by_cases q : d = c
    · rw [if_pos q, if_pos q]
    · rw [if_neg q, if_neg q]
      exact hs.2.2.2.1 d hd
  · rw [o_sc_cn (by omega) (by omega)] at hi
    rw [o_sc_sm (by omega) (by omega)]
    by_cases q : d = c
    · rw [if_pos q] at hi ⊢
      subst q
      exact h60 i hi
    · rw [if_neg q] at hi ⊢
      have := hV.cn (c := d) (by omega)
      rw [h60o d i (by omega) q (by omega)]
      exact hs.2.2.2.2 d i hd hi
theorem grx.rm {A : sA} {I J : mm_I} {c N : Nat} {T : Nat → Int32} (hR : RX A I) (hV : VA A) (hc : c < s_ch A) (hN : s_cn A c + N ≤ 256) (h9 : J 3 4 = I 3 4) (h : grx c (s_cn A c) N T I J) : RX (o_app A c T N) J := by
  obtain ⟨h1, h2, h3, h4⟩ := h
  have hch := hV.ch
  refine RX_sc hR hV hc (fun j => ?_) h3 h1 (fun i hi => ?_) (fun d i hd hdc hi => ?_)
  · by_cases q : j = 4
    · rw [q]; exact h9
    · exact h4 j q
  · rw [h2]
    by_cases q : i < s_cn A c
    · rw [if_neg (by omega), if_pos q]
      exact hR.2.1.2.2.2.2 c i (by omega) q
    · rw [if_pos (by omega), if_neg q]
      congr 1
      omega
  · rw [h2, if_neg (by omega)]
theorem grx.fx {I J : mm_I} {c n0 m : Nat} {T : Nat → Int32} (h : grx c n0 m T I J) : FX I J := fun a ha => h.2.2.1 a (by omega) (by omega) (by omega)
theorem sp_X_put {P : mm_I → Prop} {I : mm_I} {ch c n : Nat} {v : Int32} (hch : ch ≤ 2) (e2 : I 3 2 = nI ch) (hc : c < ch) (hn : n < 256) (e : I 5 c = nI n) (H : P (mm_up (mm_up I 4 (256 * c + n) v) 5 c (nI (n + 1)))) : mm_Mv 51 [.ref 3, .int (nI c), .int v] I P := by
  have vc := vp_in_nI (n := c) (N := 2) (by omega) (by omega)
  have ok := (nch hch (nI c)).mpr ⟨c, hc, rfl⟩
  refine e_Sound_put _ _ (sp_X_has hch e2 ?_)
  rw [b1_t ok, nI_clamp (n := c) (by omega), e, ixX, nI_clamp (n := 256 * c + n) (by omega), nI_1]
  exact ⟨fun z => absurd z (by decide), fun _ => ⟨vc, fun z => absurd z (nI_ge (b := 256) (by omega) (by omega)), fun _ => ⟨vc, vp_in_nI (by omega) (by omega), vc, vc, H⟩⟩⟩
/-! bytes of the tape -/
theorem i8_all : ∀ n, n < 256 → (nI n).toInt8.toInt32 = sg8 (nI n) := by decide +kernel
theorem sg_16 {a b : Nat} (ha : a < 256) (hb : b < 256) : sg8 (nI a) * 256 + nI b = sg16 (256 * nI a + nI b) := by
  have e1 : (256 : Int32) * nI a + nI b = nI (256 * a + b) := by
    show nI 256 * _ + _ = _
    rw [pk_mul, nI_add]
  have e2 : nI a * (256 : Int32) + nI b = nI (256 * a + b) := by
    show nI a * nI 256 + _ = _
    rw [pk_mul, nI_add, Nat.mul_comm]
  rw [e1]
  unfold sg8 sg16
  by_cases q : a < 128
  · have l1 : nI a < 128 := (nI_ltI (b := 128) (by omega) (by omega)).mpr q
    have l2 : nI (256 * a + b) < 32768 := (nI_ltI (b := 32768) (by omega) (by omega)).mpr (by omega)
    rw [if_pos l1, if_pos l2, e2]
  · have l1 : ¬ nI a < 128 := fun z => q ((nI_ltI (b := 128) (by omega) (by omega)).mp z)
    have l2 : ¬ nI (256 * a + b) < 32768 := fun z => by have := (nI_ltI (b := 32768) (by omega) (by omega)).mp z; omega
    rw [if_neg l1, if_neg l2, ← e2]
    have t256 : (256 : Int32).toInt = 256 := rfl
    have t65 : (65536 : Int32).toInt = 65536 := rfl
    have ta : (nI a).toInt = a := nI_toInt (by omega)
    have tb : (nI b).toInt = b := nI_toInt (by omega)
    have s1 : (nI a - 256).toInt = (a : Int) - 256 := by rw [tI_sub (by rw [ta, t256]; omega) (by rw [ta, t256]; omega), ta, t256]
    have s2 : ((nI a - 256) * 256).toInt = ((a : Int) - 256) * 256 := by rw [tI_mul (by rw [s1, t256]; omega) (by rw [s1, t256]; omega), s1, t256]
    have s3 : ((nI a - 256) * 256 + nI b).toInt = ((a : Int) - 256) * 256 + b := by rw [tI_add (by rw [s2, tb]; omega) (by rw [s2, tb]; omega), s2, tb]
    have r2 : (nI a * 256 + nI b - 65536).toInt = (256 * a + b : Int) - 65536 := by
      have tc : (nI (256 * a + b)).toInt = ((256 * a + b : Nat) : Int) := nI_toInt (by omega)
      rw [e2, tI_sub (by rw [tc, t65]; omega) (by rw [tc, t65]; omega), tc, t65]
      omega
    apply tI_ext
    rw [s3, r2]
    omega
theorem VA.tb {A : sA} (h : VA A) {i : Nat} (hi : i < s_tu A) : s_tb A i = nI (s_tb A i).toNatClampNeg ∧ (s_tb A i).toNatClampNeg < 256 := by
  have b := h.2.2.2.2.2.2.2.2.2.2.1 i hi
  have e : s_tb A i = nI (s_tb A i).toInt.toNat := tI_nI (by omega) (by omega)
  have c : (s_tb A i).toNatClampNeg = (s_tb A i).toInt.toNat := by
    conv => lhs; rw [e]
    exact nI_clamp (by omega)
  rw [c]
  exact ⟨e, by omega⟩
theorem sp_X_signedAt {P : Int32 → mm_I → Prop} {A : sA} {I : mm_I} {k w : Nat} (ht : RXt A I) (hV : VA A) (hw : s_wd A = 8 ∧ w = 1 ∨ s_wd A = 16 ∧ w = 2) (hk : (k + 1) * w ≤ s_tu A) (H : P (o_smp A k) I) : mm_Mi 66 [.ref 1, .int (nI k * nI w), .int (nI w)] I P := by
  have htu := hV.tu
  rw [pk_mul]
  rcases hw with ⟨hw, rfl⟩ | ⟨hw, rfl⟩
  · have b0 := hV.tb (i := k) (by omega)
    have e0 : I 2 (k * 1) = s_tb A k := by rw [Nat.mul_one]; exact ht.2 k (by omega)
    refine e_Tape_signedAt _ _ ⟨fun z => absurd z (nI_pos (by omega)), fun _ => ⟨fun z => absurd z (by decide), fun _ => ⟨fun _ => ⟨vp_in_nI (by omega) (by omega), ?_⟩, fun z => ?_⟩⟩⟩
    · rw [nI_clamp (n := k * 1) (by omega), e0, b0.1, i8_all _ b0.2, ← b0.1]
      refine c_Tape_signedAt_33 _ _ _ _ ⟨fun _ => ?_, fun z => absurd z (by decide)⟩
      unfold o_smp at H
      rw [if_pos hw] at H
      exact H
    · exact absurd z (nI_nlt (a := 239) (by omega) (by omega))
  · have b0 := hV.tb (i := 2 * k) (by omega)
    have b1 := hV.tb (i := 2 * k + 1) (by omega)
    have e0 : I 2 (k * 2) = s_tb A (2 * k) := by rw [Nat.mul_comm]; exact ht.2 _ (by omega)
    have e1 : I 2 (k * 2 + 1) = s_tb A (2 * k + 1) := by rw [Nat.mul_comm]; exact ht.2 _ (by omega)
    refine e_Tape_signedAt _ _ ⟨fun z => absurd z (nI_pos (by omega)), fun _ => ⟨fun z => absurd z (by decide), fun _ => ⟨fun _ => ⟨vp_in_nI (by omega) (by omega), ?_⟩, fun z => ?_⟩⟩⟩
    · rw [nI_clamp (n := k * 2) (by omega), e0, b0.1, i8_all _ b0.2]
      refine c_Tape_signedAt_33 _ _ _ _ ⟨fun z => absurd z (by decide), fun _ => ?_⟩
      rw [nI_1, nI_clamp (n := k * 2 + 1) (by omega), e1, b1.1]
      refine ⟨vp_in_nI (by omega) (by omega), c_Tape_signedAt_33 _ _ _ _ ⟨fun _ => ?_, fun z => absurd z (by decide)⟩⟩
      unfold o_smp at H
      rw [if_neg (by omega), b0.1, b1.1] at H
      rw [sg_16 b0.2 b1.2]
      exact H
    · exact absurd z (nI_nlt (a := 238) (by omega) (by omega))
theorem RX_t0 {A : sA} {J : mm_I} (h : RX A J) : RX (s_N A 0 0) (mm_up J 1 1 0) :=
  ⟨⟨rfl, fun i hi => absurd hi (Nat.not_lt_zero i)⟩, h.2.1, h.2.2.1, h.2.2.2.1, h.2.2.2.2.1, h.2.2.2.2.2⟩
theorem lX_samples {P : Int32 → mm_I → Prop} {A : sA} {I : mm_I} {c N w : Nat} (hR : RX A I) (hV : VA A) (hc : c < s_ch A) (hN : s_cn A c + N ≤ 256) (hw : s_wd A = 8 ∧ w = 1 ∨ s_wd A = 16 ∧ w = 2) (ht : N * w ≤ s_tu A) (H : ∀ J, grx c (s_cn A c) N (o_smp A) I J → J 3 4 = I 3 4 → P (nI (s_cn A c + N)) (mm_up J 1 1 0)) : ∀ (r k : Nat) (J : mm_I), k + r = N → grx c (s_cn A c) k (o_smp A) I J → J 3 4 = I 3 4 → mm_W 70 63 [some (.ref 0), some (.int (nI c)), some (.int (nI N)), some (.int (nI w)), some (.int (nI k))] [] J (mm_qi 70 P) := by
  intro r
  have hch := hV.ch
  have htu := hV.tu
  have vc := vp_in_nI (n := c) (N := 2) (by omega) (by omega)
  induction r with
  | zero =>
    intro k J hk hg h9
    have hk : k = N := by omega
    subst hk
    refine c_WS_samples_63 _ _ _ _ ⟨fun _ => ⟨vc, ?_⟩, fun h => absurd h (nI_nlt (by omega) (by omega))⟩
    rw [nI_clamp (by omega), hg.1 c, if_pos rfl]
    exact H J hg h9
  | succ r ih =>
    intro k J hk hg h9
    refine c_WS_samples_63 _ _ _ _ ⟨fun h => absurd h (nI_ge (by omega) (by omega)), fun _ => ?_⟩
    have f1 := hg.2.2.1 1 (by decide) (by decide) (by decide)
    have f2 := hg.2.2.1 2 (by decide) (by decide) (by decide)
    have t1 : RXt A J := by unfold RXt; rw [f1, f2]; exact hR.1
    have m1 : (k + 1) * w ≤ N * w := Nat.mul_le_mul_right w (by omega)
    refine sp_X_signedAt t1 hV hw (by omega) (sp_X_put hch (by rw [hg.2.2.2 2 (by decide)]; exact hR.2.1.1) hc (n := s_cn A c + k) (by omega) (by rw [hg.1 c, if_pos rfl]) ?_)
    rw [nI_1]
    exact ih (k + 1) _ (by omega) hg.st h9
theorem oX_samples {A : sA} {I : mm_I} {x n : Int32} (hR : RX A I) (hV : VA A) : mm_Mi 70 [.ref 0, .int x, .int n] I (oR (oSamples A x n) RX FX I) := by
  have hR0 := hR
  obtain ⟨ht, hs, ho, hp, hf, hk⟩ := hR
  have hch := hV.ch
  have htu := hV.tu
  have no : ¬ ((0 ≤ x ∧ x ≤ nI (s_ch A) - 1) ∧ (0 ≤ n ∧ n ≤ 256) ∧ n.toNatClampNeg * (s_wd A / 8) ≤ s_tu A ∧ s_cn A x.toNatClampNeg + n.toNatClampNeg ≤ 256) → oR (oSamples A x n) RX FX I (-1) I := fun h => by
    unfold oSamples
    rw [if_neg h]
    exact ⟨rfl, hR0, FX.rf⟩
  refine e_WS_samples x n (sp_X_has hch hs.1 ⟨fun h => no fun z => (b1_0.mp h) z.1, fun h => ⟨fun h2 => no fun z => absurd h2 (fa_nlt z.2.1.1), fun h2 => ?_⟩⟩)
  have hx := b1_n h
  have hx0 := hx
  obtain ⟨c, hc, rfl⟩ := (nch hch x).mp hx
  have hcn := hV.cn (c := c) (by omega)
  have cc : (nI c).toNatClampNeg = c := nI_clamp (by omega)
  have e256 : (256 : Int32) - nI (s_cn A c) = nI (256 - s_cn A c) := pk_sub (a := 256) hcn
  rw [cc, hs.2.2.2.1 c (by omega), e256]
  rw [cc] at no
  refine ⟨vp_in_nI (by omega) (by omega), fun h3 => ?_, fun h3 => no fun z => ?_⟩
  · obtain ⟨N, hN, rfl⟩ := btw0 (m := 256 - s_cn A c) (by omega) ⟨h2, h3⟩
    have cN : (nI N).toNatClampNeg = N := nI_clamp (by omega)
    rw [cN] at no
    obtain ⟨w, hw⟩ : ∃ w, s_wd A = 8 ∧ w = 1 ∨ s_wd A = 16 ∧ w = 2 := by
      rcases hV.wd (show s_ch A ≠ 0 by omega) with z | z
      · exact ⟨1, Or.inl ⟨z, rfl⟩⟩
      · exact ⟨2, Or.inr ⟨z, rfl⟩⟩
    have ew : s_wd A / 8 = w := by rcases hw with z | z <;> omega
    have w2 : w ≤ 2 := by rcases hw with z | z <;> omega
    have ew2 : I 3 3 / 8 = nI w := by
      rw [hs.2.1, ← ew]
      have := hV.wd0
      exact pk_div (d := 8) (by omega) (by omega) (by omega)
    have hb : N * w ≤ 512 := by
      have : N * w ≤ N * 2 := Nat.mul_le_mul_left N w2
      omega
    have n256 : (0 : Int32) ≤ nI N ∧ nI N ≤ 256 := ⟨nI_pos' (by omega), nI_le (b := 256) (by omega) (by omega)⟩
    rw [ew2, pk_mul, ht.1]
    rw [ew] at no
    refine ⟨fun h4 => ?_, fun h4 => no fun z => absurd h4 (nI_nlt (by omega) (by omega))⟩
    have q1 := (nI_leI (by omega) (by omega)).mp h4
    refine lX_samples hR0 hV hc (by omega) hw q1 (fun J hg h9 => ?_) N 0 _ (by omega) (grx.z (hs.2.2.2.1 c (by omega))) rfl
    unfold oSamples
    rw [cc, cN, ew, if_pos ⟨hx0, n256, q1, by omega⟩]
    exact ⟨rfl, RX_t0 (hg.rm hR0 hV hc (by omega) h9), FX.up hg.fx (by omega)⟩
  · obtain ⟨m, hm, rfl⟩ := btw0 (m := 256) (by omega) z.2.1
    have := z.2.2.2
    rw [nI_clamp (by omega)] at this
    exact absurd h3 (nI_nlt (by omega) (by omega))
