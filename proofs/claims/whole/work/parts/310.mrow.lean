/-! rows and errors of the reference -/
def o_wk (w : Nat → Int32) (p k : Nat) : Int32 := if p < 5 then mm_fix (4 * p + k) else w (3 * (p - 5) + k)
def o_gs (w x : Nat → Int32) (i p : Nat) : Nat → Int32
  | 0 => 0
  | k + 1 => o_gs w x i p k + o_wk w p k * x (i - 1 - k)
def o_gu (w s x : Nat → Int32) (i p : Nat) : Int32 := if p < 5 then o_gs w x i p (o_od w p) else o_gs w x i p (o_od w p) >>> (s (p - 5) &&& 31)
theorem o_od_3 (w : Nat → Int32) {p : Nat} (hp : ¬ p < 5) : o_od w p ≤ 3 := by
  unfold o_od
  have := o_of_le w (p - 5)
  rw [if_neg hp]; omega
theorem lM_guessed {P : Int32 → mm_I → Prop} {I : mm_I} {vv tt uu : Nat} {w s x : Nat → Int32} {i p : Nat} (hs0 : (vv = 67 ∧ tt = 62 ∧ uu = 63) ∨ (vv = 79 ∧ tt = 64 ∧ uu = 65)) (hp : p < 8) (ho : o_od w p ≤ i) (hi : i ≤ 64) (hw : ∀ j, j < 9 → I tt j = w j) (hs : ∀ j, j < 3 → I uu j = s j) (hx : ∀ j, j < i → I vv j = x j) (H : P (o_gu w s x i p) I) : ∀ (r k : Nat), k + r = o_od w p → mm_W 145 6 [some (.ref vv), some (.int (nI i)), some (.int (nI p)), some (.ref tt), some (.ref uu), some (.int (o_gs w x i p k)), some (.int (nI k))] [] I (mm_qi 145 P) := by
  have ho4 := o_od_le w p
  have eo : o_od (I tt) p = o_od w p := o_od_c hp hw
  have ht : tt = 62 ∨ tt = 64 := by rcases hs0 with h | h; exact Or.inl h.2.1; exact Or.inr h.2.1
  have i5 : (5 ≤ nI p) ↔ 5 ≤ p := nI_leI (a := 5) (by omega) (by omega)
  have l5 : (nI p < 5) ↔ p < 5 := nI_ltI (b := 5) (by omega) (by omega)
  have e5 : 5 ≤ p → nI p - 5 = nI (p - 5) := fun h => pk_sub (b := 5) h
  intro r
  induction r with
  | zero =>
    intro k hk
    refine c_M_guessed_6 hs0 _ _ _ _ (sp_M_orderOf ht hp ?_)
    rw [eo]
    refine ⟨fun _ => ?_, fun h => absurd h (nI_nlt (by omega) (by omega))⟩
    have hk : k = o_od w p := by omega
    unfold o_gu at H
    by_cases q : 5 ≤ p
    · rw [if_neg (by omega)] at H
      rw [if_pos (i5.mpr q), e5 q, nI_clamp (by omega), hs _ (by omega), hk]
      exact ⟨fun _ => ⟨vp_in_nI (by omega) (by omega), trivial⟩, H⟩
    · rw [if_pos (by omega)] at H
      rw [if_neg (fun z => q (i5.mp z)), hk]
      exact ⟨fun z => absurd (i5.mp z) q, H⟩
  | succ r ih =>
    intro k hk
    refine c_M_guessed_6 hs0 _ _ _ _ (sp_M_orderOf ht hp ?_)
    rw [eo]
    refine ⟨fun h => absurd h (nI_ge (by omega) (by omega)), fun _ => ?_⟩
    have e1 : nI i - 1 - nI k = nI (i - 1 - k) := by
      have a1 : nI i - 1 = nI (i - 1) := pk_sub (b := 1) (by omega)
      rw [a1]
      exact pk_sub (by omega)
    rw [e1, nI_clamp (n := i - 1 - k) (by omega), hx _ (by omega), nI_1]
    have nxt := ih (k + 1) (by omega)
    by_cases q : 5 ≤ p
    · have o3 := o_od_3 w (p := p) (by omega)
      have e3 : (3 : Int32) * (nI p - 5) + nI k = nI (3 * (p - 5) + k) := by
        rw [e5 q]
        show nI 3 * _ + _ = _
        rw [pk_mul, nI_add]
      rw [if_pos (i5.mpr q), e3, nI_clamp (n := 3 * (p - 5) + k) (by omega), hw _ (by omega)]
      refine ⟨fun _ => ⟨vp_in_nI (by omega) (by omega), trivial⟩, fun z => absurd (l5.mp z) (by omega), vp_in_nI (by omega) (by omega), ?_⟩
      have e : o_gs w x i p (k + 1) = o_gs w x i p k + w (3 * (p - 5) + k) * x (i - 1 - k) := by
        show _ + o_wk w p k * _ = _
        unfold o_wk
        rw [if_neg (by omega)]
      rw [← e]
      exact nxt
    · have e4 : (4 : Int32) * nI p + nI k = nI (4 * p + k) := by
        show nI 4 * _ + _ = _
        rw [pk_mul, nI_add]
      rw [if_neg (fun z => q (i5.mp z)), e4, nI_clamp (n := 4 * p + k) (by omega)]
      refine ⟨fun z => absurd (i5.mp z) q, fun _ => ⟨vp_in_nI (by omega) (by omega), trivial⟩, vp_in_nI (by omega) (by omega), ?_⟩
      have e : o_gs w x i p (k + 1) = o_gs w x i p k + mm_fix (4 * p + k) * x (i - 1 - k) := by
        show _ + o_wk w p k * _ = _
        unfold o_wk
        rw [if_pos (by omega)]
      rw [← e]
      exact nxt
theorem sp_M_guessed {P : Int32 → mm_I → Prop} {I : mm_I} {vv tt uu : Nat} {w s x : Nat → Int32} {i p : Nat} (hs0 : (vv = 67 ∧ tt = 62 ∧ uu = 63) ∨ (vv = 79 ∧ tt = 64 ∧ uu = 65)) (hp : p < 8) (ho : o_od w p ≤ i) (hi : i ≤ 64) (hw : ∀ j, j < 9 → I tt j = w j) (hs : ∀ j, j < 3 → I uu j = s j) (hx : ∀ j, j < i → I vv j = x j) (H : P (o_gu w s x i p) I) : mm_Mi 145 [.ref vv, .int (nI i), .int (nI p), .ref tt, .ref uu] I P :=
  e_M_guessed hs0 _ _ (lM_guessed hs0 hp ho hi hw hs hx H (o_od w p) 0 (by omega))
/-- what is scratch of the reference -/
def F_sc (a j : Nat) : Bool := Nat.beq a 64 || Nat.beq a 65 || Nat.ble 67 a || (Nat.beq a 58 && Nat.ble 16 j)
theorem RM.sc {A : sA} {I J : mm_I} (h : RM A I) (f : sm F_sc I J) : RM A J := by
  obtain ⟨⟨a1, a2⟩, ⟨b1, b2, b3, b4, b5⟩, ⟨c1, c2, c3⟩, ⟨d1, d2⟩, ⟨e1, e2⟩⟩ := h
  have f59 := f.fn 59 (fun _ => rfl); have f60 := f.fn 60 (fun _ => rfl); have f61 := f.fn 61 (fun _ => rfl); have f62 := f.fn 62 (fun _ => rfl); have f63 := f.fn 63 (fun _ => rfl); have f66 := f.fn 66 (fun _ => rfl)
  unfold RM RMt RMs RMo RMp RMk
  rw [f59, f60, f61, f62, f63, f66, f 58 1 rfl, f 58 4 rfl, f 58 5 rfl, f 58 6 rfl, f 58 7 rfl, f 58 8 rfl, f 58 9 rfl, f 58 15 rfl]
  exact ⟨⟨a1, a2⟩, ⟨b1, b2, b3, b4, b5⟩, ⟨c1, c2, c3⟩, ⟨d1, d2⟩, ⟨e1, e2⟩⟩
theorem sm.sFM {I J : mm_I} (f : sm F_sc I J) : FM I J := fun a ha => f.fn a (fun j => by
  unfold F_sc
  rw [mm_beq_f (show ¬ a = 64 by omega), mm_beq_f (show ¬ a = 65 by omega), mm_beq_f (show ¬ a = 58 by omega)]
  have : Nat.ble 67 a = false := mm_bf fun z => by have := Nat.le_of_ble_eq_true z; omega
  rw [this]
  rfl)
def F_rw (a j : Nat) : Bool := Nat.beq a 67 || (Nat.beq a 58 && (Nat.beq j 18 || Nat.beq j 19))
def F_er (a j : Nat) : Bool := Nat.beq a 68 || (Nat.beq a 58 && (Nat.beq j 21 || Nat.beq j 22))
def RwI (x : Nat → Int32) (n b : Nat) (I : mm_I) : Prop := n ≤ 64 ∧ I 58 18 = nI n ∧ I 58 19 = nI b ∧ ∀ i, i < n → I 67 i = x i
def ErI (E : Nat → Int32) (m : Nat) (I : mm_I) : Prop := m ≤ 64 ∧ I 58 21 = nI m ∧ I 58 22 = nI ((m + 7) / 8) ∧ ∀ i, i < m → I 68 i = E i
/-- the numbers of a row -/
def o_rx (A : sA) (fr f sort i : Nat) : Int32 := if sort = 0 then s_sm A 0 (fr * f + i) else if sort = 1 then s_sm A 1 (fr * f + i) else if sort = 2 then s_sm A 0 (fr * f + i) - s_sm A 1 (fr * f + i) else (s_sm A 0 (fr * f + i) + s_sm A 1 (fr * f + i)) >>> (1 &&& 31)
def o_rn (A : sA) (fr f : Nat) : Nat := if fr ≤ s_cn A 0 - fr * f then fr else s_cn A 0 - fr * f
def o_rb (A : sA) (sort : Nat) : Nat := if sort = 2 then s_wd A + 1 else s_wd A
theorem srt4 {sort : Nat} (h : sort < 4) (a b c d : Int32) : (if nI sort = 0 then (a : Int32) else (if nI sort = 1 then (b : Int32) else (if nI sort = 2 then (c : Int32) else d))) = if sort = 0 then a else if sort = 1 then b else if sort = 2 then c else d := by
  rcases (by omega : sort = 0 ∨ sort = 1 ∨ sort = 2 ∨ sort = 3) with rfl | rfl | rfl | rfl
  · rfl
  · rfl
  · rfl
  · rfl
theorem lM_laysRow {P : mm_I → Prop} {A : sA} {I : mm_I} {f sort : Nat} (hR : RM A I) (hV : VA A) (hrd : rdy A) (hsort : sort = 0 ∨ (sort < 4 ∧ s_ch A = 2)) (hfr : s_fr A * f ≤ s_cn A 0) (H : ∀ J, RwI (o_rx A (s_fr A) f sort) (o_rn A (s_fr A) f) (o_rb A sort) J → sm F_rw I J → P J) : ∀ (r k : Nat) (J : mm_I), k + r = o_rn A (s_fr A) f → J 58 18 = nI (o_rn A (s_fr A) f) → J 58 19 = nI (o_rb A sort) → (∀ i, i < k → J 67 i = o_rx A (s_fr A) f sort i) → sm F_rw I J → mm_W 149 66 [some (.ref 58), none, some (.int (nI sort)), some (.int (nI (s_fr A * f))), some (.int (nI k)), none, none] [] J (mm_qv 149 P) := by
  have hf := hV.fr
  have hcn := hV.cn (c := 0) (by omega)
  have hch := hV.ch
  have hn : o_rn A (s_fr A) f ≤ 64 ∧ s_fr A * f + o_rn A (s_fr A) f ≤ s_cn A 0 := by
    unfold o_rn
    by_cases q : s_fr A ≤ s_cn A 0 - s_fr A * f
    · rw [if_pos q]; omega
    · rw [if_neg q]; omega
  have hrd1 : s_ch A ≠ 0 ∧ (s_ch A = 2 → s_cn A 0 = s_cn A 1) := by rcases hrd with z | z <;> (constructor <;> omega)
  intro r
  induction r with
  | zero =>
    intro k J hk h18 h19 h67 hsm
    refine c_M_laysRow_66 _ _ _ ⟨fun _ => H J ⟨hn.1, h18, h19, ?_⟩ hsm, fun h => ?_⟩
    · rw [← hk]; exact h67
    · rw [h18] at h
      exact absurd h (nI_nlt (by omega) (by omega))
  | succ r ih =>
    intro k J hk h18 h19 h67 hsm
    refine c_M_laysRow_66 _ _ _ ?_
    rw [h18]
    refine ⟨fun h => absurd h (nI_ge (by omega) (by omega)), fun _ => ?_⟩
    have e1 : nI (s_fr A * f) + nI k = nI (s_fr A * f + k) := nI_add _ _
    have e2 : (256 : Int32) + nI (s_fr A * f) + nI k = nI (256 + s_fr A * f + k) := by
      show nI 256 + _ + _ = _
      rw [nI_add, nI_add]
    rw [e1, e2, nI_clamp (n := s_fr A * f + k) (by omega), nI_clamp (n := 256 + s_fr A * f + k) (by omega), nI_clamp (n := k) (by omega), nI_1]
    refine ⟨vp_in_nI (by omega) (by omega), vp_in_nI (by omega) (by omega), vp_in_nI (by omega) (by omega), ?_⟩
    have j0 : J 60 (s_fr A * f + k) = s_sm A 0 (s_fr A * f + k) := by
      rw [hsm 60 _ rfl]
      have := hR.2.1.2.2.2.2 0 (s_fr A * f + k) (by omega) (by omega)
      rw [Nat.mul_zero, Nat.zero_add] at this
      exact this
    have j1 : s_ch A = 2 → J 60 (256 + s_fr A * f + k) = s_sm A 1 (s_fr A * f + k) := fun h2 => by
      rw [hsm 60 _ rfl]
      have q := hrd1.2 h2
      have := hR.2.1.2.2.2.2 1 (s_fr A * f + k) (by omega) (by omega)
      rw [Nat.mul_one, ← Nat.add_assoc] at this
      exact this
    refine ih (k + 1) _ (by omega) h18 h19 (fun i hi => ?_) (hsm.up rfl)
    rw [up_a]
    by_cases q : i = k
    · rw [if_pos q, q, j0, srt4 (by omega)]
      unfold o_rx
      rcases hsort with h0 | ⟨h4, h2⟩
      · rw [if_pos h0, if_pos h0]
      · rw [j1 h2]
    · rw [if_neg q]
      exact h67 i (by omega)
theorem sp_M_laysRow {P : mm_I → Prop} {A : sA} {I : mm_I} {f sort : Nat} (hR : RM A I) (hV : VA A) (hrd : rdy A) (hsort : sort = 0 ∨ (sort < 4 ∧ s_ch A = 2)) (hfr : s_fr A * f ≤ s_cn A 0) (H : ∀ J, RwI (o_rx A (s_fr A) f sort) (o_rn A (s_fr A) f) (o_rb A sort) J → sm F_rw I J → P J) : mm_Mv 149 [.ref 58, .int (nI f), .int (nI sort)] I P := by
  have hf := hV.fr
  have hcn := hV.cn (c := 0) (by omega)
  have hch0 : 0 < s_ch A := by rcases hrd with z | z <;> omega
  refine e_M_laysRow _ _ ?_
  have e1 : I 58 6 * nI f = nI (s_fr A * f) := by rw [hR.2.2.1.1, pk_mul]
  have e2 : I 61 0 - nI (s_fr A * f) = nI (s_cn A 0 - s_fr A * f) := by rw [hR.2.1.2.2.2.1 0 hch0]; exact pk_sub hfr
  rw [e1, e2, hR.2.2.1.1, hR.2.1.2.1]
  have e3 : (if nI (s_fr A) ≤ nI (s_cn A 0 - s_fr A * f) then (nI (s_fr A) : Int32) else nI (s_cn A 0 - s_fr A * f)) = nI (o_rn A (s_fr A) f) := by
    unfold o_rn
    by_cases q : s_fr A ≤ s_cn A 0 - s_fr A * f
    · rw [if_pos q, if_pos (nI_le q (by omega))]
    · rw [if_neg q, if_neg (nI_ge (by omega) (by omega))]
  have hs4 : sort < 4 := by omega
  have e4 : (if nI sort = 2 then (nI (s_wd A) + 1 : Int32) else nI (s_wd A)) = nI (o_rb A sort) := by
    unfold o_rb
    rw [nI_1]
    by_cases q : sort = 2
    · rw [if_pos q, if_pos (by rw [q]; rfl)]
    · have q2 : ¬ nI sort = 2 := fun z => q ((nI_eq (b := 2) (by omega) (by omega)).mp z)
      rw [if_neg q, if_neg q2]
  rw [e3, e4]
  exact lM_laysRow hR hV hrd hsort hfr H (o_rn A (s_fr A) f) 0 _ (by omega) rfl rfl (fun i hi => absurd hi (Nat.not_lt_zero i)) ((sm.rf.up (F := F_rw) rfl).up rfl)
/-- the errors of a row by a predictor -/
def o_er (w s x : Nat → Int32) (p i : Nat) : Int32 := x (o_od w p + i) - o_gu w s x (o_od w p + i) p
theorem lM_laysErrors {P : mm_I → Prop} {w s x : Nat → Int32} {I : mm_I} {n b p : Nat} (hp : p < 8) (hw : ∀ j, j < 9 → I 62 j = w j) (hs : ∀ j, j < 3 → I 63 j = s j) (hx : RwI x n b I) (ho : o_od w p ≤ n) (H : ∀ J, ErI (o_er w s x p) (n - o_od w p) J → sm F_er I J → P J) : ∀ (r k : Nat) (J : mm_I), k + r = n - o_od w p → J 58 21 = nI (n - o_od w p) → J 58 22 = nI ((n - o_od w p + 7) / 8) → (∀ i, i < k → J 68 i = o_er w s x p i) → sm F_er I J → mm_W 151 35 [some (.ref 58), some (.int (nI p)), some (.int (nI (o_od w p))), some (.int (nI k))] [] J (mm_qv 151 P) := by
  obtain ⟨hn, _, _, hx⟩ := hx
  intro r
  induction r with
  | zero =>
    intro k J hk h21 h22 h68 hsm
    refine c_M_laysErrors_35 _ _ _ ⟨fun _ => H J ⟨by omega, h21, h22, ?_⟩ hsm, fun h => ?_⟩
    · rw [← hk]; exact h68
    · rw [h21] at h
      exact absurd h (nI_nlt (by omega) (by omega))
  | succ r ih =>
    intro k J hk h21 h22 h68 hsm
    refine c_M_laysErrors_35 _ _ _ ?_
    rw [h21]
    refine ⟨fun h => absurd h (nI_ge (by omega) (by omega)), fun _ => ?_⟩
    rw [nI_add, nI_clamp (n := o_od w p + k) (by omega), nI_clamp (n := k) (by omega)]
    refine ⟨vp_in_nI (by omega) (by omega), ?_⟩
    refine sp_M_guessed (w := w) (s := s) (x := x) (Or.inl ⟨rfl, rfl, rfl⟩) hp (by omega) (by omega) (fun j hj => (hsm 62 j rfl).trans (hw j hj)) (fun j hj => (hsm 63 j rfl).trans (hs j hj)) (fun j hj => (hsm 67 j rfl).trans (hx j (by omega))) ?_
    rw [nI_1]
    refine ⟨vp_in_nI (by omega) (by omega), ih (k + 1) _ (by omega) h21 h22 (fun i hi => ?_) (hsm.up rfl)⟩
    rw [up_a]
    by_cases q : i = k
    · rw [if_pos q, q, hsm 67 _ rfl, hx _ (by omega)]
      rfl
    · rw [if_neg q]
      exact h68 i (by omega)
theorem sp_M_laysErrors {P : mm_I → Prop} {w s x : Nat → Int32} {I : mm_I} {n b p : Nat} (hp : p < 8) (hw : ∀ j, j < 9 → I 62 j = w j) (hs : ∀ j, j < 3 → I 63 j = s j) (hx : RwI x n b I) (ho : o_od w p ≤ n) (H : ∀ J, ErI (o_er w s x p) (n - o_od w p) J → sm F_er I J → P J) : mm_Mv 151 [.ref 58, .int (nI p)] I P := by
  have hn := hx.1
  refine e_M_laysErrors _ (sp_M_orderOf (Or.inl rfl) hp ?_)
  rw [o_od_c hp hw, hx.2.1, pk_sub ho]
  have e : (nI (n - o_od w p) + 7) / 8 = nI ((n - o_od w p + 7) / 8) := by
    show (_ + nI 7) / nI 8 = _
    rw [nI_add, pk_div (by omega) (by omega) (by omega)]
  rw [e]
  exact lM_laysErrors hp hw hs hx ho H (n - o_od w p) 0 _ (by omega) rfl rfl (fun i hi => absurd hi (Nat.not_lt_zero i)) ((sm.rf.up (F := F_er) rfl).up rfl)
