/-! samples and fill of the reference -/
def grw (c n0 m : Nat) (T : Nat → Int32) (I J : mm_I) : Prop := (∀ d, J 61 d = if d = c then nI (n0 + m) else I 61 d) ∧ (∀ i, J 60 i = if 256 * c + n0 ≤ i ∧ i < 256 * c + n0 + m then T (i - (256 * c + n0)) else I 60 i) ∧ (∀ a, a ≠ 58 → a ≠ 60 → a ≠ 61 → J a = I a) ∧ ∀ j, j ≠ 9 → J 58 j = I 58 j
theorem grw.st {c n0 m : Nat} {T : Nat → Int32} {I J : mm_I} (h : grw c n0 m T I J) : grw c n0 (m + 1) T I (mm_up (mm_up J 60 (256 * c + (n0 + m)) (T m)) 61 c (nI (n0 + m + 1))) := by
  obtain ⟨h1, h2, h3, h4⟩ := h
  refine ⟨fun d => ?_, fun i => ?_, fun a q1 q2 q3 => ?_, fun j hj => ?_⟩
  · rw [up_a, up_o (by decide), h1 d]
    by_cases q : d = c
    · rw [if_pos q, if_pos q]; rfl
    · rw [if_neg q, if_neg q, if_neg q]
  · rw [up_o (by decide), up_a, h2 i]
    by_cases q : i = 256 * c + (n0 + m)
    · rw [if_pos q, if_pos (by omega)]
      congr 1
      omega
    · rw [if_neg q]
      by_cases q2 : 256 * c + n0 ≤ i ∧ i < 256 * c + n0 + m
      · rw [if_pos q2, if_pos (by omega)]
      · rw [if_neg q2, if_neg (by omega)]
  · rw [up_o q3, up_o q2, h3 a q1 q2 q3]
  · rw [up_o (by decide), up_o (by decide), h4 j hj]
theorem grw.z {c n0 : Nat} {T : Nat → Int32} {I : mm_I} (e : I 61 c = nI n0) : grw c n0 0 T I I := by
  refine ⟨fun d => ?_, fun i => ?_, fun a _ _ _ => rfl, fun j _ => rfl⟩
  · by_cases q : d = c
    · rw [if_pos q, q]; exact e
    · rw [if_neg q]
  · rw [if_neg (by omega)]
def o_smp (A : sA) (k : Nat) : Int32 := if s_wd A = 8 then sg8 (s_tb A k) else sg16 (256 * s_tb A (2 * k) + s_tb A (2 * k + 1))
abbrev o_app (A : sA) (c : Nat) (T : Nat → Int32) (N : Nat) : sA := o_sc A c (fun i => if i < s_cn A c then s_sm A c i else T (i - s_cn A c)) (s_cn A c + N)
theorem grw.rm {A : sA} {I J : mm_I} {c N : Nat} {T : Nat → Int32} (hR : RM A I) (hV : VA A) (hc : c < s_ch A) (hN : s_cn A c + N ≤ 256) (h9 : J 58 9 = I 58 9) (h : grw c (s_cn A c) N T I J) : RM (o_app A c T N) J := by
  obtain ⟨h1, h2, h3, h4⟩ := h
  have hch := hV.ch
  refine RM_sc hR hV hc (fun j hj => ?_) h3 h1 (fun i hi => ?_) (fun d i hd hdc hi => ?_)
  · by_cases q : j = 9
    · rw [q]; exact h9
    · exact h4 j q
  · rw [h2]
    by_cases q : i < s_cn A c
    · rw [if_neg (by omega), if_pos q]
      exact hR.2.1.2.2.2.2 c i hc q
    · rw [if_pos (by omega), if_neg q]
      congr 1
      omega
  · rw [h2, if_neg (by omega)]
theorem grw.fm {I J : mm_I} {c n0 m : Nat} {T : Nat → Int32} (h : grw c n0 m T I J) : FM I J := fun a ha => h.2.2.1 a (by omega) (by omega) (by omega)
theorem grw.th {c n0 m : Nat} {T : Nat → Int32} {I J : mm_I} {v : Int32} (h : grw c n0 m T I J) : grw c n0 m T (mm_up I 58 16 v) (mm_up J 58 16 v) := by
  obtain ⟨h1, h2, h3, h4⟩ := h
  refine ⟨h1, h2, fun a q1 q2 q3 => ?_, fun j hj => ?_⟩
  · rw [up_o q1, up_o q1]; exact h3 a q1 q2 q3
  · rw [up_a, up_a, h4 j hj]
theorem lM_samples {P : Int32 → mm_I → Prop} {A : sA} {I : mm_I} {c N : Nat} (hR : RM A I) (hV : VA A) (hc : c < s_ch A) (hN : s_cn A c + N ≤ 256) (ht : N * (s_wd A / 8) ≤ s_tu A) (H : ∀ J, grw c (s_cn A c) N (o_smp A) I J → J 58 9 = I 58 9 → P (nI (s_cn A c + N)) (mm_up J 58 1 0)) : ∀ (r k : Nat) (J : mm_I), k + r = N → grw c (s_cn A c) k (o_smp A) I J → J 58 9 = I 58 9 → mm_W 133 58 [some (.ref 58), some (.int (nI c)), some (.int (nI N)), some (.int (nI k))] [] J (mm_qi 133 P) := by
  intro r
  have hch := hV.ch
  have htu := hV.tu
  have vc := vp_in_nI (n := c) (N := 2) (by omega) (by omega)
  induction r with
  | zero =>
    intro k J hk hg h9
    have hk : k = N := by omega
    subst hk
    refine c_M_samples_58 _ _ _ ⟨fun _ => ⟨vc, ?_⟩, fun h => absurd h (nI_nlt (by omega) (by omega))⟩
    rw [nI_clamp (by omega), hg.1 c, if_pos rfl]
    exact H J hg h9
  | succ r ih =>
    intro k J hk hg h9
    refine c_M_samples_58 _ _ _ ⟨fun h => absurd h (nI_ge (by omega) (by omega)), fun _ => ?_⟩
    have h585 : J 58 5 = nI (s_wd A) := by rw [hg.2.2.2 5 (by decide)]; exact hR.2.1.2.1
    have h59 : ∀ i, i < s_tu A → J 59 i = s_tb A i := fun i hi => by rw [hg.2.2.1 59 (by decide) (by decide) (by decide)]; exact hR.1.2 i hi
    have h61 : J 61 c = nI (s_cn A c + k) := by rw [hg.1 c, if_pos rfl]
    rw [h585]
    rcases hV.wd (show s_ch A ≠ 0 by omega) with hw | hw
    · rw [hw] at ht ⊢
      refine ⟨fun z => absurd rfl z, fun _ => ⟨vp_in_nI (by omega) (by omega), ?_⟩⟩
      rw [nI_clamp (by omega), h59 k (by omega)]
      refine sp_M_signed8 (sp_M_puts (n := s_cn A c + k) (by omega) (by omega) h61 ?_)
      rw [nI_1]
      have e : sg8 (s_tb A k) = o_smp A k := by unfold o_smp; rw [if_pos hw]
      rw [e]
      exact ih (k + 1) _ (by omega) hg.st h9
    · rw [hw] at ht ⊢
      refine ⟨fun _ => ?_, fun z => absurd z (by decide)⟩
      have e2 : (2 : Int32) * nI k = nI (2 * k) := pk_mul 2 k
      rw [e2, nI_1, nI_clamp (by omega), nI_clamp (by omega), h59 _ (by omega), h59 _ (by omega)]
      refine ⟨vp_in_nI (by omega) (by omega), vp_in_nI (by omega) (by omega), ?_⟩
      refine sp_M_signed16 (sp_M_puts (n := s_cn A c + k) (by omega) (by omega) h61 ?_)
      rw [nI_1]
      have e : sg16 (256 * s_tb A (2 * k) + s_tb A (2 * k + 1)) = o_smp A k := by unfold o_smp; rw [if_neg (by omega)]
      rw [e]
      exact ih (k + 1) _ (by omega) hg.st h9
theorem RM_t0 {A : sA} {J : mm_I} (h : RM A J) : RM (s_N A 0 0) (mm_up J 58 1 0) :=
  ⟨⟨rfl, fun i hi => absurd hi (Nat.not_lt_zero i)⟩, h.2.1, h.2.2.1, h.2.2.2.1, h.2.2.2.2⟩
def oSamples (A : sA) (x n : Int32) : Int32 × sA := if (0 ≤ x ∧ x ≤ nI (s_ch A) - 1) ∧ (0 ≤ n ∧ n ≤ 256) ∧ n.toNatClampNeg * (s_wd A / 8) ≤ s_tu A ∧ s_cn A x.toNatClampNeg + n.toNatClampNeg ≤ 256 then (nI (s_cn A x.toNatClampNeg + n.toNatClampNeg), s_N (o_app A x.toNatClampNeg (o_smp A) n.toNatClampNeg) 0 0) else (-1, A)
theorem btw0 {x : Int32} {m : Nat} (hm : m < 2147483648) (h : 0 ≤ x ∧ x ≤ nI m) : ∃ n, n ≤ m ∧ x = nI n := by
  obtain ⟨h1, h2⟩ := h
  rw [le_I] at h1 h2
  rw [nI_toInt hm] at h2
  have h1 : 0 ≤ x.toInt := h1
  exact ⟨x.toInt.toNat, by omega, tI_nI (by omega) (by omega)⟩
theorem oM_samples {A : sA} {I : mm_I} {x n : Int32} (hR : RM A I) (hV : VA A) : mm_Mi 133 [.ref 58, .int x, .int n] I (oR (oSamples A x n) RM FM I) := by
  have hR0 := hR
  obtain ⟨ht, hs, ho, hp, hk⟩ := hR
  have hch := hV.ch
  have htu := hV.tu
  have no : ¬ ((0 ≤ x ∧ x ≤ nI (s_ch A) - 1) ∧ (0 ≤ n ∧ n ≤ 256) ∧ n.toNatClampNeg * (s_wd A / 8) ≤ s_tu A ∧ s_cn A x.toNatClampNeg + n.toNatClampNeg ≤ 256) → oR (oSamples A x n) RM FM I (-1) (mm_up I 58 16 0) := fun h => by
    unfold oSamples
    rw [if_neg h]
    exact ⟨rfl, hR0, FM.rf.up (by omega)⟩
  refine e_M_samples x n (sp_M_isChannel ⟨fun h => no fun z => (b1_0.mp h) ?_, fun h => sp_M_within ⟨fun h2 => no fun z => (b1_0.mp h2) z.2.1, fun h2 => ?_⟩⟩)
  · have := z.1
    rw [← hs.1] at this
    exact this
  · have hx := b1_n h
    have hx : 0 ≤ x ∧ x ≤ I 58 4 - 1 := hx
    rw [hs.1] at hx
    have hn := b1_n h2
    have hx0 := hx
    have hn0 := hn
    obtain ⟨c, hc, rfl⟩ := (nch hch x).mp hx
    obtain ⟨N, hN, rfl⟩ := btw0 (m := 256) (by omega) hn
    have hcn := hV.cn (c := c) (by omega)
    have hwd := hV.wd (show s_ch A ≠ 0 by omega)
    show (I 58 1 < nI N * (I 58 5 / 8) → _) ∧ (nI N * (I 58 5 / 8) ≤ I 58 1 → _ ∧ (I 61 _ + _ ≤ _ → _) ∧ (_ < I 61 _ + _ → _))
    have e1 : nI N * (I 58 5 / 8) = nI (N * (s_wd A / 8)) := by
      rw [hs.2.1]
      rcases hwd with z | z
      · rw [z]; exact pk_mul N 1
      · rw [z]; exact pk_mul N 2
    have hb : N * (s_wd A / 8) ≤ 512 := by
      rcases hwd with z | z
      · rw [z]; omega
      · rw [z]; omega
    rw [e1, ht.1, nI_clamp (by omega), hs.2.2.2.1 c hc, nI_add]
    have cc : (nI c).toNatClampNeg = c := nI_clamp (by omega)
    have cN : (nI N).toNatClampNeg = N := nI_clamp (by omega)
    rw [cc, cN] at no
    refine ⟨fun h => no fun z => ?_, fun h => ⟨vp_in_nI (by omega) (by omega), fun h3 => ?_, fun h3 => no fun z => ?_⟩⟩
    · exact absurd h (nI_nlt (by omega) (by omega))
    · have q1 := (nI_leI (by omega) (by omega)).mp h
      have q2 : s_cn A c + N ≤ 256 := (nI_leI (b := 256) (by omega) (by omega)).mp h3
      refine lM_samples (A := A) (I := mm_up I 58 16 0) hR0.th hV hc q2 q1 (fun J hg h9 => ?_) N 0 _ (by omega) (grw.z (hs.2.2.2.1 c hc)) rfl
      unfold oSamples
      rw [cc, cN, if_pos ⟨hx0, hn0, q1, q2⟩]
      refine ⟨rfl, RM_t0 (hg.rm hR0.th hV hc q2 h9), FM.up ?_ (by omega)⟩
      exact (FM.rf.up (by omega)).tr hg.fm
    · exact absurd h3 (nI_nlt (a := 256) (by omega) (by omega))
/-- a seed after k drawings -/
def o_sds (s : Int32) : Nat → Int32
  | 0 => s
  | k + 1 => 1103515245 * o_sds s k + 12345
def o_drw (s : Int32) : Int32 := (s >>> (16 &&& 31)) &&& 32767
def o_hd (w : Nat) (v : Int32) : Int32 := if v ≤ (if w = 8 then 127 else 32767) then (if (if w = 8 then -128 else -32768) ≤ v then v else (if w = 8 then -128 else -32768)) else (if w = 8 then 127 else 32767)
def o_fl (A : sA) (s0 : Int32) (c : Nat) (kind x y : Int32) (k : Nat) : Int32 :=
  if kind = 0 then x else if kind = 1 then x + nI k * y else if kind = 2 then (if (nI k / y - nI k / y / 2 * 2) = 0 then x else -x)
  else if kind = 3 then (o_drw (o_sds s0 (k + 1)) - o_drw (o_sds s0 (k + 1)) / (2 * x + 1) * (2 * x + 1)) - x
  else (if s_ch A = 2 ∧ y.toNatClampNeg ≤ s_cn A c + k ∧ s_cn A c + k - y.toNatClampNeg < s_cn A (1 - c) then x + s_sm A (1 - c) (s_cn A c + k - y.toNatClampNeg) else x)
theorem sp_M_held {P : Int32 → mm_I → Prop} {I : mm_I} {w : Nat} {v : Int32} (hw : w = 8 ∨ w = 16) (e : I 58 5 = nI w) (H : P (o_hd w v) I) : mm_Mi 134 [.ref 58, .int v] I P := by
  refine e_M_held v ?_
  rw [e]
  rcases hw with rfl | rfl
  · exact H
  · exact H
/-- what is filled in, and the seed behind it -/
theorem sp_M_filled {P : Int32 → mm_I → Prop} {A : sA} {I J : mm_I} {s0 : Int32} {c k : Nat} {kind x y : Int32} (hR : RMs A I) (hV : VA A) (hc : c < s_ch A) (hk : s_cn A c + k < 256) (hg : grw c (s_cn A c) k (fun j => o_hd (s_wd A) (o_fl A s0 c kind x y j)) I J) (h9 : J 58 9 = if kind = 3 then o_sds s0 k else I 58 9)
    (h2 : kind = 2 → 1 ≤ y ∧ y ≤ 64) (h3 : kind = 3 → 0 ≤ x ∧ x ≤ 32767) (h4 : ¬ kind = 0 → ¬ kind = 1 → ¬ kind = 2 → ¬ kind = 3 → 0 ≤ y ∧ y ≤ 255)
    (H : ∀ J', (kind = 3 → J' = mm_up J 58 9 (o_sds s0 (k + 1))) → (¬ kind = 3 → J' = J) → P (o_fl A s0 c kind x y k) J') : mm_Mi 136 [.ref 58, .int (nI c), .int kind, .int (nI k), .int x, .int y] J P := by
  have hch := hV.ch
  refine e_M_filled (nI c) kind (nI k) x y ⟨fun h => ?_, fun h => ?_, fun h => ?_, fun h => ?_, fun n0 n1 n2 n3 => ?_⟩
  · have := H J (fun z => absurd (h.symm.trans z) (by decide)) (fun _ => rfl)
    unfold o_fl at this
    rw [if_pos h] at this
    exact this
  · have := H J (fun z => absurd (h.symm.trans z) (by decide)) (fun _ => rfl)
    unfold o_fl at this
    rw [if_neg (by rw [h]; decide), if_pos h] at this
    exact this
  · have := H J (fun z => absurd (h.symm.trans z) (by decide)) (fun _ => rfl)
    unfold o_fl at this
    rw [if_neg (by rw [h]; decide), if_neg (by rw [h]; decide), if_pos h] at this
    refine ⟨fun z => ?_, this⟩
    have := (h2 h).1
    rw [z] at this
    exact absurd this (by decide)
  · rw [if_pos h] at h9
    refine e_M_drawn ?_
    rw [h9]
    refine ⟨fun z => ?_, ?_⟩
    · obtain ⟨q1, q2⟩ := h3 h
      rw [le_I] at q1 q2
      have q1 : 0 ≤ x.toInt := q1
      have q2 : x.toInt ≤ 32767 := q2
      have t2 : (2 : Int32).toInt = 2 := rfl
      have t1 : (1 : Int32).toInt = 1 := rfl
      have e2 : (2 * x).toInt = 2 * x.toInt := by rw [tI_mul (by rw [t2]; omega) (by rw [t2]; omega), t2]
      have e3 : (2 * x + 1).toInt = 2 * x.toInt + 1 := by rw [tI_add (by rw [e2, t1]; omega) (by rw [e2, t1]; omega), e2, t1]
      rw [z] at e3
      have e3 : (0 : Int) = 2 * x.toInt + 1 := e3
      omega
    · have := H _ (fun _ => rfl) (fun z => absurd h z)
      unfold o_fl at this
      rw [if_neg (by rw [h]; decide), if_neg (by rw [h]; decide), if_neg (by rw [h]; decide), if_pos h] at this
      exact this
  · rw [if_neg n3] at h9
    have := H J (fun z => absurd z n3) (fun _ => rfl)
    unfold o_fl at this
    rw [if_neg n0, if_neg n1, if_neg n2, if_neg n3] at this
    obtain ⟨Y, hY, rfl⟩ := btw0 (m := 255) (by omega) (h4 n0 n1 n2 n3)
    have cY : (nI Y).toNatClampNeg = Y := nI_clamp (by omega)
    have cc : (nI c).toNatClampNeg = c := nI_clamp (by omega)
    have h61 : J 61 c = nI (s_cn A c + k) := by rw [hg.1 c, if_pos rfl]
    have h584 : J 58 4 = nI (s_ch A) := by rw [hg.2.2.2 4 (by decide)]; exact hR.1
    rw [cc, h61, h584]
    rw [cY] at this
    refine ⟨vp_in_nI (by omega) (by omega), ?_⟩
    by_cases q1 : s_ch A = 2
    · have e2 : nI (s_ch A) = 2 := by rw [q1]; rfl
      have e1c : (1 : Int32) - nI c = nI (1 - c) := pk_sub (a := 1) (b := c) (by omega)
      have o61 : J 61 (1 - c) = nI (s_cn A (1 - c)) := by rw [hg.1, if_neg (by omega)]; exact hR.2.2.2.1 (1 - c) (by omega)
      have hcn := hV.cn (c := 1 - c) (by omega)
      rw [e1c, nI_clamp (n := 1 - c) (by omega), o61, if_pos e2]
      by_cases q2 : Y ≤ s_cn A c + k
      · have e3 : nI (s_cn A c + k) - nI Y = nI (s_cn A c + k - Y) := pk_sub q2
        rw [e3, ix512 (by omega) (by omega), if_neg (nI_pos (by omega))]
        by_cases q3 : s_cn A c + k - Y < s_cn A (1 - c)
        · rw [if_neg (nI_ge (by omega) (by omega)), nI_clamp (n := 256 * (1 - c) + (s_cn A c + k - Y)) (by omega)]
          rw [if_pos ⟨q1, q2, q3⟩] at this
          refine ⟨fun _ => ⟨fun _ => ⟨vp_in_nI (by omega) (by omega), fun _ => ⟨vp_in_nI (by omega) (by omega), trivial⟩, trivial⟩, trivial⟩, ?_⟩
          have o60 : J 60 (256 * (1 - c) + (s_cn A c + k - Y)) = s_sm A (1 - c) (s_cn A c + k - Y) := by
            rw [hg.2.1, if_neg (by omega)]
            exact hR.2.2.2.2 (1 - c) _ (by omega) q3
          rw [o60]
          exact this
        · rw [if_pos (nI_le (by omega) (by omega))]
          rw [if_neg (fun z => q3 z.2.2)] at this
          refine ⟨fun _ => ⟨fun _ => ⟨vp_in_nI (by omega) (by omega), fun z => absurd z (nI_nlt (by omega) (by omega)), trivial⟩, trivial⟩, this⟩
      · have e3 : nI (s_cn A c + k) - nI Y < 0 := pk_sneg (by omega) (by omega)
        rw [if_pos e3]
        rw [if_neg (fun z => q2 z.2.1)] at this
        exact ⟨fun _ => ⟨fun z => absurd z (fa_nle e3), trivial⟩, this⟩
    · have e2 : ¬ nI (s_ch A) = 2 := fun z => q1 ((nI_eq (b := 2) (by omega) (by omega)).mp z)
      rw [if_neg e2]
      rw [if_neg (fun z => q1 z.1)] at this
      exact ⟨fun z => absurd z e2, this⟩
