theorem up_id {J : mm_I} {a i : Nat} {v w : Int32} (h : J a i = v) : mm_up (mm_up J a i w) a i v = J := by
  funext b j
  rw [up_g, up_g]
  by_cases q : b = a ∧ j = i
  · rw [if_pos q, q.1, q.2, h]
  · rw [if_neg q, if_neg q]
theorem RM_sd {A : sA} {J : mm_I} {v : Int32} (h : RM A J) : RM (s_F A 6 (fun _ => v)) (mm_up J 58 9 v) :=
  ⟨h.1, ⟨h.2.1.1, h.2.1.2.1, rfl, h.2.1.2.2.2.1, h.2.1.2.2.2.2⟩, h.2.2.1, h.2.2.2.1, h.2.2.2.2⟩
theorem grw.c9 {c n0 m : Nat} {T : Nat → Int32} {I J : mm_I} {v : Int32} (h : grw c n0 m T I J) : grw c n0 m T I (mm_up J 58 9 v) := by
  obtain ⟨h1, h2, h3, h4⟩ := h
  refine ⟨h1, h2, fun a q1 q2 q3 => ?_, fun j hj => ?_⟩
  · rw [up_o q1]; exact h3 a q1 q2 q3
  · rw [up_a, if_neg hj, h4 j hj]
theorem grw.rs {A : sA} {I J : mm_I} {c N : Nat} {T : Nat → Int32} {v : Int32} (hR : RM A I) (hV : VA A) (hc : c < s_ch A) (hN : s_cn A c + N ≤ 256) (h9 : J 58 9 = v) (h : grw c (s_cn A c) N T I J) : RM (s_F (o_app A c T N) 6 (fun _ => v)) J := by
  have := RM_sd (v := v) (grw.rm (J := mm_up J 58 9 (I 58 9)) hR hV hc hN rfl h.c9)
  rw [up_id h9] at this
  exact this
theorem lM_fill {P : Int32 → mm_I → Prop} {A : sA} {I : mm_I} {c N : Nat} {kind x y s0 : Int32} (hR : RM A I) (hV : VA A) (hc : c < s_ch A) (hN : s_cn A c + N ≤ 256)
    (h2 : kind = 2 → 1 ≤ y ∧ y ≤ 64) (h3 : kind = 3 → 0 ≤ x ∧ x ≤ 32767) (h4 : ¬ kind = 0 → ¬ kind = 1 → ¬ kind = 2 → ¬ kind = 3 → 0 ≤ y ∧ y ≤ 255)
    (H : ∀ J, grw c (s_cn A c) N (fun j => o_hd (s_wd A) (o_fl A s0 c kind x y j)) I J → J 58 9 = (if kind = 3 then o_sds s0 N else I 58 9) → P (nI (s_cn A c + N)) J) : ∀ (r k : Nat) (J : mm_I), k + r = N → grw c (s_cn A c) k (fun j => o_hd (s_wd A) (o_fl A s0 c kind x y j)) I J → J 58 9 = (if kind = 3 then o_sds s0 k else I 58 9) → mm_W 137 143 [some (.ref 58), some (.int (nI c)), some (.int kind), some (.int (nI N)), some (.int x), some (.int y), some (.int (nI k))] [] J (mm_qi 137 P) := by
  intro r
  have hch := hV.ch
  have vc := vp_in_nI (n := c) (N := 2) (by omega) (by omega)
  induction r with
  | zero =>
    intro k J hk hg h9
    have hk : k = N := by omega
    subst hk
    refine c_M_fill_143 _ _ _ _ _ _ ⟨fun _ => ⟨vc, ?_⟩, fun h => absurd h (nI_nlt (by omega) (by omega))⟩
    rw [nI_clamp (by omega), hg.1 c, if_pos rfl]
    exact H J hg h9
  | succ r ih =>
    intro k J hk hg h9
    refine c_M_fill_143 _ _ _ _ _ _ ⟨fun h => absurd h (nI_ge (by omega) (by omega)), fun _ => ?_⟩
    refine sp_M_filled hR.2.1 hV hc (by omega) hg h9 h2 h3 h4 (fun J' e3 en => ?_)
    have hg' : grw c (s_cn A c) k (fun j => o_hd (s_wd A) (o_fl A s0 c kind x y j)) I J' := by
      by_cases q : kind = 3
      · rw [e3 q]; exact hg.c9
      · rw [en q]; exact hg
    have h9' : J' 58 9 = if kind = 3 then o_sds s0 (k + 1) else I 58 9 := by
      by_cases q : kind = 3
      · rw [e3 q, if_pos q, up_a, if_pos rfl]
      · rw [en q, if_neg q, h9, if_neg q]
    refine sp_M_held (w := s_wd A) (hV.wd (by omega)) (by rw [hg'.2.2.2 5 (by decide)]; exact hR.2.1.2.1) (sp_M_puts (n := s_cn A c + k) (by omega) (by omega) (by rw [hg'.1 c, if_pos rfl]) ?_)
    rw [nI_1]
    exact ih (k + 1) _ (by omega) hg'.st h9'
abbrev o_cf (A : sA) (x kind n X Y : Int32) : Prop := (0 ≤ x ∧ x ≤ nI (s_ch A) - 1) ∧ (0 ≤ kind ∧ kind ≤ 4) ∧ (1 ≤ n ∧ n ≤ 64) ∧ (-65536 ≤ X ∧ X ≤ 65536) ∧ (-65536 ≤ Y ∧ Y ≤ 65536) ∧ (kind = 2 → 1 ≤ Y ∧ Y ≤ 64) ∧ (kind = 3 → 0 ≤ X ∧ X ≤ 32767) ∧ (kind = 4 → 0 ≤ Y ∧ Y ≤ 255) ∧ s_cn A x.toNatClampNeg + n.toNatClampNeg ≤ 256
def o_s0 (A : sA) (kind Y : Int32) : Int32 := if kind = 3 ∧ ¬ Y = 0 then Y else s_sd A
def o_s1 (A : sA) (kind Y : Int32) (N : Nat) : Int32 := if kind = 3 then o_sds (o_s0 A kind Y) N else s_sd A
def o_flT (A : sA) (c : Nat) (kind X Y : Int32) (j : Nat) : Int32 := o_hd (s_wd A) (o_fl A (o_s0 A kind Y) c kind X Y j)
def oFill (A : sA) (x kind n X Y : Int32) : Int32 × sA := if o_cf A x kind n X Y then (nI (s_cn A x.toNatClampNeg + n.toNatClampNeg), s_F (o_app A x.toNatClampNeg (o_flT A x.toNatClampNeg kind X Y) n.toNatClampNeg) 6 (fun _ => o_s1 A kind Y n.toNatClampNeg)) else (-1, A)
theorem kd4 {kind : Int32} (h : 0 ≤ kind ∧ kind ≤ 4) (n0 : ¬ kind = 0) (n1 : ¬ kind = 1) (n2 : ¬ kind = 2) (n3 : ¬ kind = 3) : kind = 4 := by
  obtain ⟨n, hn, rfl⟩ := btw0 (m := 4) (by omega) h
  have a0 : n ≠ 0 := fun z => n0 (by rw [z]; rfl)
  have a1 : n ≠ 1 := fun z => n1 (by rw [z]; rfl)
  have a2 : n ≠ 2 := fun z => n2 (by rw [z]; rfl)
  have a3 : n ≠ 3 := fun z => n3 (by rw [z]; rfl)
  rw [show n = 4 by omega]
  rfl
theorem btw1 {x : Int32} {m : Nat} (hm : m < 2147483648) (h : 1 ≤ x ∧ x ≤ nI m) : ∃ n, 1 ≤ n ∧ n ≤ m ∧ x = nI n := by
  obtain ⟨h1, h2⟩ := h
  rw [le_I] at h1 h2
  rw [nI_toInt hm] at h2
  have h1 : 1 ≤ x.toInt := h1
  exact ⟨x.toInt.toNat, by omega, by omega, tI_nI (by omega) (by omega)⟩
theorem oM_fill {A : sA} {I : mm_I} {x kind n X Y : Int32} (hR : RM A I) (hV : VA A) : mm_Mi 137 [.ref 58, .int x, .int kind, .int n, .int X, .int Y] I (oR (oFill A x kind n X Y) RM FM I) := by
  have hR0 := hR
  obtain ⟨ht, hs, ho, hp, hk⟩ := hR
  have hch := hV.ch
  have no : ¬ o_cf A x kind n X Y → oR (oFill A x kind n X Y) RM FM I (-1) (mm_up I 58 16 0) := fun h => by
    unfold oFill
    rw [if_neg h]
    exact ⟨rfl, hR0, FM.rf.up (by omega)⟩
  refine e_M_fill x kind n X Y (sp_M_isChannel ⟨fun h => no fun z => (b1_0.mp h) ?_, fun h => sp_M_within ⟨fun h2 => no fun z => (b1_0.mp h2) z.2.1, fun h2 => sp_M_within ⟨fun h3 => no fun z => (b1_0.mp h3) z.2.2.1, fun h3 => sp_M_within ⟨fun h4 => no fun z => (b1_0.mp h4) z.2.2.2.1, fun h4 => sp_M_within ⟨fun h5 => ?_, fun h5 => no fun z => (b1_0.mp h5) z.2.2.2.2.1⟩⟩⟩⟩⟩)
  · have := z.1
    rw [← hs.1] at this
    exact this
  have hx := b1_n h
  have hx : 0 ≤ x ∧ x ≤ I 58 4 - 1 := hx
  rw [hs.1] at hx
  have hkd := b1_n h2
  have hn := b1_n h3
  have hX := b1_n h4
  have hY := b1_n h5
  have hx0 := hx
  have hn0 := hn
  obtain ⟨c, hc, rfl⟩ := (nch hch x).mp hx
  obtain ⟨N, hN1, hN, rfl⟩ := btw1 (m := 64) (by omega) hn
  have hcn := hV.cn (c := c) (by omega)
  have cc : (nI c).toNatClampNeg = c := nI_clamp (by omega)
  have cN : (nI N).toNatClampNeg = N := nI_clamp (by omega)
  have last : (kind = 2 → 1 ≤ Y ∧ Y ≤ 64) → (kind = 3 → 0 ≤ X ∧ X ≤ 32767) → (kind = 4 → 0 ≤ Y ∧ Y ≤ 255) → mm_W 137 108 [some (.ref 58), some (.int (nI c)), some (.int kind), some (.int (nI N)), some (.int X), some (.int Y), none] [] (mm_up I 58 16 0) (mm_qi 137 (oR (oFill A (nI c) kind (nI N) X Y) RM FM I)) := fun q2 q3 q4 => by
    refine c_M_fill_108 _ _ _ _ _ ⟨vp_in_nI (by omega) (by omega), ?_⟩
    have e61 : (mm_up I 58 16 0) 61 (nI c).toNatClampNeg + nI N = nI (s_cn A c + N) := by
      rw [cc]
      show I 61 c + nI N = _
      rw [hs.2.2.2.1 c hc, nI_add]
    rw [e61]
    refine ⟨fun h => ?_, fun h => no fun z => ?_⟩
    · have q5 : s_cn A c + N ≤ 256 := (nI_leI (b := 256) (by omega) (by omega)).mp h
      have q : o_cf A (nI c) kind (nI N) X Y := ⟨hx0, hkd, hn0, hX, hY, q2, q3, q4, by rw [cc, cN]; exact q5⟩
      have q4' : ¬ kind = 0 → ¬ kind = 1 → ¬ kind = 2 → ¬ kind = 3 → 0 ≤ Y ∧ Y ≤ 255 := fun n0 n1 n2 n3 => q4 (kd4 hkd n0 n1 n2 n3)
      have fin : ∀ (I1 : mm_I), (∀ a, a ≠ 58 → I1 a = I a) → (∀ j, j ≠ 16 → j ≠ 9 → I1 58 j = I 58 j) → I1 58 9 = o_s0 A kind Y → ∀ J, grw c (s_cn A c) N (fun j => o_hd (s_wd A) (o_fl A (o_s0 A kind Y) c kind X Y j)) I1 J → J 58 9 = (if kind = 3 then o_sds (o_s0 A kind Y) N else I1 58 9) → oR (oFill A (nI c) kind (nI N) X Y) RM FM I (nI (s_cn A c + N)) J := fun I1 f1 f2 f3 J hg h9 => by
        unfold oFill
        rw [if_pos q, cc, cN]
        refine ⟨rfl, ?_, fun a ha => (hg.fm a ha).trans (f1 a (by omega))⟩
        have hR1 : RM (s_F A 6 (fun _ => o_s0 A kind Y)) I1 := by
          have g59 := f1 59 (by decide); have g60 := f1 60 (by decide); have g61 := f1 61 (by decide); have g62 := f1 62 (by decide); have g63 := f1 63 (by decide); have g66 := f1 66 (by decide)
          unfold RM RMt RMs RMo RMp RMk
          rw [g59, g60, g61, g62, g63, g66, f2 1 (by decide) (by decide), f2 4 (by decide) (by decide), f2 5 (by decide) (by decide), f2 6 (by decide) (by decide), f2 7 (by decide) (by decide), f2 8 (by decide) (by decide), f2 15 (by decide) (by decide), f3]
          exact ⟨ht, ⟨hs.1, hs.2.1, rfl, hs.2.2.2.1, hs.2.2.2.2⟩, ho, hp, hk⟩
        have h9' : J 58 9 = o_s1 A kind Y N := by
          unfold o_s1
          rw [h9, f3]
          by_cases z : kind = 3
          · rw [if_pos z, if_pos z]
          · rw [if_neg z, if_neg z]
            unfold o_s0
            rw [if_neg (fun w => z w.1)]
        have := grw.rs (A := s_F A 6 (fun _ => o_s0 A kind Y)) (v := o_s1 A kind Y N) hR1 hV hc q5 h9' hg
        rcases (by omega : c = 0 ∨ c = 1) with rfl | rfl
        · exact this
        · exact this
      refine ⟨fun z => ?_, fun z => ⟨fun z2 => ?_, fun z2 => ?_⟩⟩
      · refine lM_fill (A := A) (s0 := o_s0 A kind Y) hR0.th hV hc q5 q2 q3 q4' (fin _ (fun a ha => up_o ha) (fun j h16 h9 => by rw [up_a, if_neg h16]) ?_) N 0 _ (by omega) (grw.z (hs.2.2.2.1 c hc)) (by rw [if_neg z])
        unfold o_s0
        rw [if_neg (fun w => z w.1)]
        exact hs.2.2.1
      · have e0 : (mm_up I 58 16 0) 58 9 = o_s0 A kind Y := by
          unfold o_s0
          rw [if_neg (fun w => w.2 z2)]
          exact hs.2.2.1
        refine lM_fill (A := A) (s0 := o_s0 A kind Y) hR0.th hV hc q5 q2 q3 q4' (fin _ (fun a ha => up_o ha) (fun j h16 h9 => by rw [up_a, if_neg h16]) e0) N 0 _ (by omega) (grw.z (hs.2.2.2.1 c hc)) ?_
        rw [if_pos z, e0]
        rfl
      · have e0 : (mm_up (mm_up I 58 16 0) 58 9 Y) 58 9 = o_s0 A kind Y := by
          unfold o_s0
          rw [if_pos ⟨z, z2⟩]
          rfl
        refine lM_fill (A := s_F A 6 (fun _ => Y)) (s0 := o_s0 A kind Y) (RM_sd hR0.th) hV hc q5 q2 q3 q4' (fin _ (fun a ha => by rw [up_o ha, up_o ha]) (fun j h16 h9 => by rw [up_a, if_neg h9, up_a, if_neg h16]) e0) N 0 _ (by omega) (grw.z (hs.2.2.2.1 c hc)) ?_
        rw [if_pos z, e0]
        rfl
    · have := z.2.2.2.2.2.2.2.2
      rw [cc, cN] at this
      exact absurd h (nI_nlt (a := 256) (by omega) (by omega))
  have mid : (kind = 2 → 1 ≤ Y ∧ Y ≤ 64) → mm_W 137 74 [some (.ref 58), some (.int (nI c)), some (.int kind), some (.int (nI N)), some (.int X), some (.int Y), none] [] (mm_up I 58 16 0) (mm_qi 137 (oR (oFill A (nI c) kind (nI N) X Y) RM FM I)) := fun q2 => by
    have mid2 : (kind = 3 → 0 ≤ X ∧ X ≤ 32767) → mm_W 137 91 [some (.ref 58), some (.int (nI c)), some (.int kind), some (.int (nI N)), some (.int X), some (.int Y), none] [] (mm_up I 58 16 0) (mm_qi 137 (oR (oFill A (nI c) kind (nI N) X Y) RM FM I)) := fun q3 => by
      refine c_M_fill_91 _ _ _ _ _ ⟨fun z => last q2 q3 (fun w => absurd w z), fun z => sp_M_within ⟨fun w => no fun v => (b1_0.mp w) (v.2.2.2.2.2.2.2.1 z), fun w => last q2 q3 (fun _ => b1_n w)⟩⟩
    refine c_M_fill_74 _ _ _ _ _ ⟨fun z => mid2 (fun w => absurd w z), fun z => sp_M_within ⟨fun w => no fun v => (b1_0.mp w) (v.2.2.2.2.2.2.1 z), fun w => mid2 (fun _ => b1_n w)⟩⟩
  exact ⟨fun z => mid (fun w => absurd w z), fun z => sp_M_within ⟨fun w => no fun v => (b1_0.mp w) (v.2.2.2.2.2.1 z), fun w => mid (fun _ => b1_n w)⟩⟩
