/-! cutting of the reference -/
/-- the best way of those up to k -/
def bwy (c : Nat → Nat → Nat) (G : Nat) : Nat → Nat
  | 0 => 0
  | k + 1 => if wBt c G (k + 1) G < wBt c G (bwy c G k) G ∨ (wBt c G (k + 1) G = wBt c G (bwy c G k) G ∧ pcn (k + 1) < pcn (bwy c G k)) then k + 1 else bwy c G k
theorem bwy_le (c : Nat → Nat → Nat) (G : Nat) : ∀ k, bwy c G k ≤ k := by
  intro k
  induction k with
  | zero => exact Nat.le_refl 0
  | succ k ih =>
    show (if wBt c G (k + 1) G < wBt c G (bwy c G k) G ∨ (wBt c G (k + 1) G = wBt c G (bwy c G k) G ∧ pcn (k + 1) < pcn (bwy c G k)) then k + 1 else bwy c G k) ≤ k + 1
    split
    · exact Nat.le_refl _
    · omega
theorem bbN_le14 {E : Nat → Int32} {m a b : Nat} : ∀ k, 14 ≤ k → bbN E m a b (prs E m a b k) ≤ bbN E m a b 14 := by
  have mono : ∀ k, bbN E m a b (prs E m a b (k + 1)) ≤ bbN E m a b (prs E m a b k) ∧ bbN E m a b (prs E m a b (k + 1)) ≤ bbN E m a b (k + 1) := fun k => by
    have e : prs E m a b (k + 1) = if bbN E m a b (k + 1) < bbN E m a b (prs E m a b k) then k + 1 else prs E m a b k := rfl
    rw [e]
    by_cases q : bbN E m a b (k + 1) < bbN E m a b (prs E m a b k)
    · rw [if_pos q]; omega
    · rw [if_neg q]; omega
  intro k hk
  obtain ⟨d, rfl⟩ : ∃ d, k = 14 + d := ⟨k - 14, by omega⟩
  induction d with
  | zero => exact (mono 13).2
  | succ d ih => exact Nat.le_trans (mono (14 + d)).1 (ih (by omega))
theorem spb_b {E : Nat → Int32} {m a b : Nat} (hm : m ≤ 64) (hB : EB E m) (hab : a ≤ b) (hb : b ≤ (m + 7) / 8) : spb E m a b ≤ 1548 := by
  have := bbN_le14 (E := E) (m := m) (a := a) (b := b) 15 (by omega)
  have e : bbN E m a b 14 = 12 + sWs E m a (b - a) * sCs m a (b - a) := rfl
  have s1 := sWs_b (E := E) (a := a) hB (b - a) (by omega)
  have s2 := sCs_b (m := m) (a := a) (b - a) (by omega)
  have : sWs E m a (b - a) * sCs m a (b - a) ≤ 24 * 64 := Nat.mul_le_mul s1.2 (by omega)
  show bbN E m a b (prs E m a b 15) ≤ 1548
  omega
theorem wBt_b {c : Nat → Nat → Nat} {G way : Nat} (hc : ∀ a b, a ≤ b → b ≤ G → c a b ≤ 1548) : ∀ g, g ≤ G → wBt c G way g ≤ 1548 * g := by
  intro g
  induction g with
  | zero => intro _; exact Nat.zero_le _
  | succ g ih =>
    intro hg
    have := ih (by omega)
    have h2 := hc (wFr G way g) (g + 1) (by have := wFr_le G way g; omega) hg
    have e : wBt c G way (g + 1) = if ncut G way g then wBt c G way g else wBt c G way g + c (wFr G way g) (g + 1) := rfl
    rw [e]
    split <;> omega
def F_ru (a j : Nat) : Bool := Nat.beq a 72 || Nat.beq a 73 || Nat.beq a 74 || (Nat.beq a 58 && Nat.beq j 29)
/-- runs: how many, where each is, by what, its bits -/
def RuI (cnt : Nat) (T : Nat → Nat × Nat) (by_ bt : Nat → Nat) (I : mm_I) : Prop := I 58 29 = nI cnt ∧ ∀ k, k < cnt → I 72 k = nI (T k).2 ∧ I 73 k = nI (by_ k) ∧ I 74 k = nI (bt k)
theorem lM_rw84 {P : Int32 → mm_I → Prop} {E : Nat → Int32} {I : mm_I} {m way : Nat} {L : Int32} (hm : m ≤ 64) (e : I 58 22 = nI ((m + 7) / 8)) (hS : SpI E m I) (hw : way < 128) (H : ∀ J, RuI (wCt ((m + 7) / 8) way ((m + 7) / 8)) (wTo ((m + 7) / 8) way ((m + 7) / 8)) (fun k => par E m (wTo ((m + 7) / 8) way ((m + 7) / 8) k).1 (wTo ((m + 7) / 8) way ((m + 7) / 8) k).2) (fun k => spb E m (wTo ((m + 7) / 8) way ((m + 7) / 8) k).1 (wTo ((m + 7) / 8) way ((m + 7) / 8) k).2) J → sm F_ru I J → P L J) : ∀ (r g : Nat) (J : mm_I), g + r = (m + 7) / 8 → RuI (wCt ((m + 7) / 8) way g) (wTo ((m + 7) / 8) way g) (fun k => par E m (wTo ((m + 7) / 8) way g k).1 (wTo ((m + 7) / 8) way g k).2) (fun k => spb E m (wTo ((m + 7) / 8) way g k).1 (wTo ((m + 7) / 8) way g k).2) J → sm F_ru I J → mm_W 161 84 [some (.ref 58), some (.int (nI way)), some (.int L), some (.int (nI (wFr ((m + 7) / 8) way g))), some (.int (nI g))] [] J (mm_qi 161 P) := by
  intro r
  generalize hGG : (m + 7) / 8 = G at e H
  have hG8 : G ≤ 8 := by omega
  induction r with
  | zero =>
    intro g J hg hR hsm
    have hg : g = G := by omega
    subst hg
    refine c_M_runsWhole_84 _ _ _ _ ?_
    rw [hsm 58 22 rfl, e]
    exact ⟨fun _ => H J hR hsm, fun h => absurd h (nI_nlt (by omega) (by omega))⟩
  | succ r ih =>
    intro g J hg hR hsm
    have hf := wFr_le G way g
    have hc := wCt_le G way g
    have e1 : (9 : Int32) * nI (wFr G way g) + nI g + 1 = nI (9 * wFr G way g + (g + 1)) := by
      show nI 9 * _ + _ + nI 1 = _
      rw [pk_mul, nI_add, nI_add]
      rfl
    have e2 : nI G - 1 = nI (G - 1) := pk_sub (b := 1) (by omega)
    have hs := hS (wFr G way g) (g + 1) (by omega) (by omega)
    have v := vp_in_nI (n := 9 * wFr G way g + (g + 1)) (N := 81) (by omega) (by omega)
    have vc := vp_in_nI (n := wCt G way g) (N := 8) (by omega) (by omega)
    obtain ⟨r1, r2⟩ := hR
    refine c_M_runsWhole_84 _ _ _ _ ?_
    rw [hsm 58 22 rfl, e, e1, e2, r1, nI_clamp (n := 9 * wFr G way g + (g + 1)) (by omega), nI_clamp (n := wCt G way g) (by omega), hsm 75 _ rfl, hsm 76 _ rfl, hs.1, hs.2, nI_1 g, nI_1 (wCt G way g)]
    have cut : ¬ ncut G way g → mm_W 161 84 [some (.ref 58), some (.int (nI way)), some (.int L), some (.int (nI (g + 1))), some (.int (nI (g + 1)))] [] (mm_up (mm_up (mm_up (mm_up J 72 (wCt G way g) (nI (g + 1))) 73 (wCt G way g) (nI (par E m (wFr G way g) (g + 1)))) 74 (wCt G way g) (nI (spb E m (wFr G way g) (g + 1)))) 58 29 (nI (wCt G way g + 1))) (mm_qi 161 P) := fun q => by
      have a2 : wFr G way (g + 1) = g + 1 := if_neg q
      have a3 : wCt G way (g + 1) = wCt G way g + 1 := if_neg q
      have a4 : wTo G way (g + 1) = fun k => if k = wCt G way g then (wFr G way g, g + 1) else wTo G way g k := if_neg q
      have nx := ih (g + 1) (mm_up (mm_up (mm_up (mm_up J 72 (wCt G way g) (nI (g + 1))) 73 (wCt G way g) (nI (par E m (wFr G way g) (g + 1)))) 74 (wCt G way g) (nI (spb E m (wFr G way g) (g + 1)))) 58 29 (nI (wCt G way g + 1))) (by omega)
      rw [a2, a3, a4] at nx
      refine nx ⟨rfl, fun k hk => ?_⟩ ((((hsm.up rfl).up rfl).up rfl).up rfl)
      rw [up_o (show (72 : Nat) ≠ 58 by decide), up_o (show (72 : Nat) ≠ 74 by decide), up_o (show (72 : Nat) ≠ 73 by decide), up_a, up_o (show (73 : Nat) ≠ 58 by decide), up_o (show (73 : Nat) ≠ 74 by decide), up_a, up_o (show (74 : Nat) ≠ 58 by decide), up_a, up_o (show (73 : Nat) ≠ 72 by decide), up_o (show (74 : Nat) ≠ 73 by decide), up_o (show (74 : Nat) ≠ 72 by decide)]
      by_cases z : k = wCt G way g
      · simp only [if_pos z]
        exact ⟨trivial, trivial, trivial⟩
      · simp only [if_neg z]
        exact r2 k (by omega)
    refine ⟨fun h => absurd h (nI_ge (by omega) (by omega)), fun _ => ⟨fun h => ⟨vc, v, vc, v, vc, cut (fun z => ?_)⟩, fun h => ?_⟩⟩
    · have := (nI_leI (by omega) (by omega)).mp h
      omega
    · have h := (nI_ltI (by omega) (by omega)).mp h
      rw [cutI hG8 hw (by omega)]
      refine ⟨fun q => ⟨vc, v, vc, v, vc, cut (fun z => q (by rw [z.2]; rfl))⟩, fun q => ?_⟩
      have q2 : way / 2 ^ (G - 2 - g) % 2 = 0 := (nI_eq (b := 0) (by omega) (by omega)).mp q
      have q3 : ncut G way g := ⟨by omega, q2⟩
      have a2 : wFr G way (g + 1) = wFr G way g := if_pos q3
      have a3 : wCt G way (g + 1) = wCt G way g := if_pos q3
      have a4 : wTo G way (g + 1) = wTo G way g := if_pos q3
      have nx := ih (g + 1) J (by omega)
      rw [a2, a3, a4] at nx
      exact nx ⟨r1, r2⟩ hsm
def bst (c : Nat → Nat → Nat) (G : Nat) : Nat := bwy c G (2 ^ (G - 1) - 1)
theorem lM_rw18 {P : Int32 → mm_I → Prop} {E : Nat → Int32} {I : mm_I} {m G : Nat} (hm : m ≤ 64) (hGG : (m + 7) / 8 = G) (hG1 : 1 ≤ G) (hB : EB E m) (e : I 58 22 = nI G) (hS : SpI E m I) (H : mm_W 161 84 [some (.ref 58), some (.int (nI (bst (spb E m) G))), some (.int (nI (wBt (spb E m) G (bst (spb E m) G) G))), some (.int 0), some (.int 0)] [] (mm_up I 58 29 0) (mm_qi 161 P)) : ∀ (r k : Nat), k + r = 2 ^ (G - 1) - 1 → mm_W 161 18 [some (.ref 58), some (.int (nI (bwy (spb E m) G k))), some (.int (nI (wBt (spb E m) G (bwy (spb E m) G k) G))), some (.int (nI (k + 1))), none] [] I (mm_qi 161 P) := by
  have hG8 : G ≤ 8 := by omega
  have hp1 : 2 ^ (G - 1) ≤ 2 ^ 7 := Nat.pow_le_pow_right (by omega) (by omega)
  have hp0 : 0 < 2 ^ (G - 1) := Nat.pow_pos (by omega)
  have e1 : (1 : Int32) <<< ((nI G - 1) &&& 31) = nI (2 ^ (G - 1)) := by
    have a1 : nI G - 1 = nI (G - 1) := pk_sub (b := 1) hG1
    rw [a1]
    exact shl1 (by omega)
  have wb : ∀ way, wBt (spb E m) G way G ≤ 1548 * G := fun way => wBt_b (fun a b hab hb => spb_b hm hB hab (by omega)) G (Nat.le_refl G)
  have pb : ∀ v, v < 128 → pcn v ≤ 7 := by
    have : ∀ v : Fin 128, pcn v.val ≤ 7 := by decide +kernel
    exact fun v hv => this ⟨v, hv⟩
  intro r
  induction r with
  | zero =>
    intro k hk
    have hk : k = 2 ^ (G - 1) - 1 := by omega
    refine c_M_runsWhole_18 _ _ _ ?_
    rw [e, e1]
    refine ⟨fun _ => ?_, fun h => absurd h (nI_nlt (by omega) (by omega))⟩
    unfold bst at H
    rw [← hk] at H
    exact H
  | succ r ih =>
    intro k hk
    have nx := ih (k + 1) (by omega)
    have hbl := bwy_le (spb E m) G k
    have w1 := wb (k + 1)
    have w2 := wb (bwy (spb E m) G k)
    have eb : bwy (spb E m) G (k + 1) = if wBt (spb E m) G (k + 1) G < wBt (spb E m) G (bwy (spb E m) G k) G ∨ (wBt (spb E m) G (k + 1) G = wBt (spb E m) G (bwy (spb E m) G k) G ∧ pcn (k + 1) < pcn (bwy (spb E m) G k)) then k + 1 else bwy (spb E m) G k := rfl
    refine c_M_runsWhole_18 _ _ _ ?_
    rw [e, e1]
    refine ⟨fun h => absurd h (nI_ge (by omega) (by omega)), fun _ => ?_⟩
    subst hGG
    refine sp_M_bitsOfWay hm e hS (by omega) ?_
    rw [nI_1]
    refine ⟨fun h => ?_, fun h => ⟨fun h2 => ?_, fun h2 => ?_⟩⟩
    · have h := (nI_ltI (by omega) (by omega)).mp h
      rw [if_neg (by omega)] at eb
      rw [eb] at nx
      exact nx
    · have h := (nI_leI (by omega) (by omega)).mp h
      have h2 : ¬ wBt (spb E m) ((m + 7) / 8) (k + 1) ((m + 7) / 8) = wBt (spb E m) ((m + 7) / 8) (bwy (spb E m) ((m + 7) / 8) k) ((m + 7) / 8) := fun z => h2 (by rw [z])
      rw [if_pos (by omega)] at eb
      rw [eb] at nx
      exact nx
    · have h2 := (nI_eq (by omega) (by omega)).mp h2
      refine sp_M_cutsOf (by omega) (sp_M_cutsOf (by omega) ?_)
      have p1 := pb (k + 1) (by omega)
      have p2 := pb (bwy (spb E m) ((m + 7) / 8) k) (by omega)
      by_cases q : pcn (k + 1) < pcn (bwy (spb E m) ((m + 7) / 8) k)
      · rw [if_pos (nI_lt q (by omega)), if_pos (nI_lt q (by omega))]
        rw [if_pos (Or.inr ⟨h2, q⟩)] at eb
        rw [eb] at nx
        exact nx
      · rw [if_neg (nI_nlt (by omega) (by omega)), if_neg (nI_nlt (by omega) (by omega))]
        rw [if_neg (by rintro (z | z); omega; exact q z.2)] at eb
        rw [eb] at nx
        exact nx
def F_cut (a j : Nat) : Bool := F_gr a j || F_sp a j || F_ru a j
abbrev wRu (c : Nat → Nat → Nat) (G : Nat) : Nat → Nat × Nat := wTo G (bst c G) G
theorem bst_lt {c : Nat → Nat → Nat} {G : Nat} (hG : G ≤ 8) : bst c G < 128 := by
  unfold bst
  have := bwy_le c G (2 ^ (G - 1) - 1)
  have hp1 : 2 ^ (G - 1) ≤ 2 ^ 7 := Nat.pow_le_pow_right (by omega) (by omega)
  have hp0 : 0 < 2 ^ (G - 1) := Nat.pow_pos (by omega)
  omega
theorem sp_M_runsWhole {P : Int32 → mm_I → Prop} {E : Nat → Int32} {I : mm_I} {m G : Nat} (hE : ErI E m I) (hB : EB E m) (hm1 : 1 ≤ m) (hGG : (m + 7) / 8 = G)
    (H : ∀ J, RuI (wCt G (bst (spb E m) G) G) (wRu (spb E m) G) (fun k => par E m (wRu (spb E m) G k).1 (wRu (spb E m) G k).2) (fun k => spb E m (wRu (spb E m) G k).1 (wRu (spb E m) G k).2) J → sm F_cut I J → P (nI (wBt (spb E m) G (bst (spb E m) G) G)) J) : mm_Mi 161 [.ref 58] I P := by
  have hm := hE.1
  refine e_M_runsWhole (sp_M_laysGroups hE hB (fun J1 a1 a2 => ?_))
  have hE1 : ErI E m J1 := ⟨hm, (a2 58 21 rfl).trans hE.2.1, (a2 58 22 rfl).trans hE.2.2.1, fun i hi => (a2 68 i rfl).trans (hE.2.2.2 i hi)⟩
  refine sp_M_laysSpans ⟨hE1, a1⟩ hB (fun J2 b1 b2 => ?_)
  have e22 : J2 58 22 = nI ((m + 7) / 8) := (b2 58 22 rfl).trans hE1.2.2.1
  refine sp_M_bitsOfWay (way := 0) hm e22 b1 (by omega) ?_
  subst hGG
  have hb := bst_lt (c := spb E m) (G := (m + 7) / 8) (by omega)
  refine lM_rw18 hm rfl (by omega) hB e22 b1 ?_ (2 ^ ((m + 7) / 8 - 1) - 1) 0 (by omega)
  refine lM_rw84 (I := mm_up J2 58 29 0) hm e22 (fun a b h1 h2 => b1 a b h1 h2) hb (fun J3 c1 c2 => H J3 c1 (fun a j h => ?_)) ((m + 7) / 8) 0 _ (by omega) ⟨rfl, fun k hk => absurd hk (Nat.not_lt_zero k)⟩ sm.rf
  unfold F_cut at h
  rw [Bool.or_eq_false_iff, Bool.or_eq_false_iff] at h
  rw [c2 a j h.2, up_g, if_neg, b2 a j h.1.2, a2 a j h.1.1]
  rintro ⟨rfl, rfl⟩
  exact absurd h.2 (by decide)
