/-! the class: cut for the least -/
theorem dpV_b {c : Nat → Nat → Nat} {G : Nat} (hc : ∀ a b, a ≤ b → b ≤ G → c a b ≤ 1548) : ∀ n f, f ≤ G → G - f ≤ n → (dpV c G f).1 ≤ 1548 * n ∧ (dpV c G f).2.1 ≤ n := by
  intro n
  induction n with
  | zero =>
    intro f hf hn
    rw [show f = G by omega, dpV_G]
    exact ⟨Nat.zero_le _, Nat.zero_le _⟩
  | succ n ih =>
    intro f hf hn
    by_cases q : f = G
    · rw [q, dpV_G]
      exact ⟨Nat.zero_le _, Nat.zero_le _⟩
    · have pp := (dpI_p (c := c) (T := dpV c G) (f := f) (G - f) (by omega)).1
      rw [← dpV_f (by omega)] at pp
      obtain ⟨p1, p2, p3⟩ := pp
      generalize (dpV c G f).2.2 = N at *
      have i := ih (f + N) (by omega) (by omega)
      have b := hc f (f + N) (by omega) (by omega)
      rw [p3]
      show c f (f + N) + (dpV c G (f + N)).1 ≤ _ ∧ 1 + (dpV c G (f + N)).2.1 ≤ _
      omega
abbrev dV (E : Nat → Int32) (m : Nat) : Nat → Nat × Nat × Nat := dpV (spb E m) (Gm m)
/-- the cells of the groups from one on -/
def DvI (E : Nat → Int32) (m f0 : Nat) (I : mm_I) : Prop := (∀ t, f0 ≤ t → t ≤ Gm m → I 16 t = nI (dV E m t).1 ∧ I 17 t = nI (dV E m t).2.1) ∧ ∀ t, f0 ≤ t → t < Gm m → I 18 t = nI (dV E m t).2.2 ∧ I 19 t = nI (par E m t (t + (dV E m t).2.2)) ∧ I 20 t = nI (sWs E m t (dV E m t).2.2) ∧ I 21 t = nI (spb E m t (t + (dV E m t).2.2))
/-- the cells of the group in the making -/
def DjI (E : Nat → Int32) (m f j : Nat) (I : mm_I) : Prop := I 16 f = nI (dpI (spb E m) (dV E m) f j).1 ∧ I 17 f = nI (dpI (spb E m) (dV E m) f j).2.1 ∧ I 18 f = nI (dpI (spb E m) (dV E m) f j).2.2 ∧ I 19 f = nI (par E m f (f + (dpI (spb E m) (dV E m) f j).2.2)) ∧ I 20 f = nI (sWs E m f (dpI (spb E m) (dV E m) f j).2.2) ∧ I 21 f = nI (spb E m f (f + (dpI (spb E m) (dV E m) f j).2.2))
def F_dp (a j : Nat) : Bool := (Nat.ble 16 a && Nat.ble a 21) || F_fp a j
theorem sm.dp {I J : mm_I} (f : sm F_dp I J) : sm F_ct I J := f.le (fun a j h => by
  refine mm_bf fun z => ?_
  unfold F_dp at z
  rw [Bool.or_eq_true, Bool.and_eq_true] at z
  unfold F_ct at h
  rcases z with ⟨z1, z2⟩ | z
  · have a1 := Nat.le_of_ble_eq_true z1
    rw [Nat.ble_eq_true_of_le (show 11 ≤ a by omega), z2] at h
    cases h
  · simp only [F_fp, Bool.and_eq_true, mm_beq_iff] at z
    rw [z.1] at h
    cases h)
theorem sm.fd {I J : mm_I} (f : sm F_fp I J) : sm F_dp I J := f.le (fun a j h => by
  unfold F_dp at h
  rw [Bool.or_eq_false_iff] at h
  exact h.2)
theorem CtI_dp {E : Nat → Int32} {m : Nat} {I J : mm_I} (h : CtI E m I) (f : sm F_dp I J) : CtI E m J := ⟨h.1, (f 11 1 rfl).trans h.2.1, (f 11 2 rfl).trans h.2.2.1, (f 11 3 rfl).trans h.2.2.2.1, fun i hi => (f 12 i rfl).trans (h.2.2.2.2 i hi)⟩
theorem MgI_dp {E : Nat → Int32} {m G : Nat} {c : Nat → Int32} {I J : mm_I} (h : MgI E m G c I) (f : sm F_dp I J) : MgI E m G c J := MgI_mg h f (fun _ => rfl) (fun _ => rfl) (fun _ => rfl)
theorem DvI_fp {E : Nat → Int32} {m f0 : Nat} {I J : mm_I} (h : DvI E m f0 I) (f : sm F_fp I J) : DvI E m f0 J := ⟨fun t a b => ⟨(f 16 t rfl).trans (h.1 t a b).1, (f 17 t rfl).trans (h.1 t a b).2⟩, fun t a b => ⟨(f 18 t rfl).trans (h.2 t a b).1, (f 19 t rfl).trans (h.2 t a b).2.1, (f 20 t rfl).trans (h.2 t a b).2.2.1, (f 21 t rfl).trans (h.2 t a b).2.2.2⟩⟩
theorem DjI_fp {E : Nat → Int32} {m f j : Nat} {I J : mm_I} (h : DjI E m f j I) (g : sm F_fp I J) : DjI E m f j J := ⟨(g 16 f rfl).trans h.1, (g 17 f rfl).trans h.2.1, (g 18 f rfl).trans h.2.2.1, (g 19 f rfl).trans h.2.2.2.1, (g 20 f rfl).trans h.2.2.2.2.1, (g 21 f rfl).trans h.2.2.2.2.2⟩
theorem spb_1548 {E : Nat → Int32} {m : Nat} (hm : m ≤ 64) (hB : EB E m) : ∀ a b, a ≤ b → b ≤ Gm m → spb E m a b ≤ 1548 := fun a b h1 h2 => spb_b hm hB h1 h2
theorem lX_cf41 {P : Int32 → mm_I → Prop} {E : Nat → Int32} {I : mm_I} {m f : Nat} {c : Nat → Int32} (hE : CtI E m I) (hB : EB E m) (hI : MgI E m (Gm m) c I) (hf : f < Gm m)
    (H : ∀ J, DvI E m f J → sm F_dp I J → mm_W 6 31 [some (.ref 11), some (.int (nI f - 1)), none, none, none, none] [] J (mm_qi 6 P)) : ∀ (r j : Nat) (J : mm_I), j + r = Gm m - f → (1 ≤ j → DjI E m f j J) → DvI E m (f + 1) J → sm F_dp I J → mm_W 6 41 [some (.ref 11), some (.int (nI f)), some (.int (nI (sWs E m f j))), some (.int (nI (f + j + 1))), none, none] [] J (mm_qi 6 P) := by
  have hm := hE.1
  have hGm : Gm m = (m + 7) / 8 := rfl
  have c1548 := spb_1548 hm hB
  intro r
  induction r with
  | zero =>
    intro j J hj hD hV hsm
    have C := CtI_dp hE hsm
    have hj : j = Gm m - f := by omega
    subst hj
    refine c_Cutter_cutForLeast_41 _ _ _ ⟨fun _ => ?_, fun z => ?_⟩
    · rw [i_m1]
      have D := hD (by omega)
      unfold DjI at D
      rw [← dpV_f hf] at D
      refine H J ⟨fun t a b => ?_, fun t a b => ?_⟩ hsm
      · by_cases q : t = f
        · rw [q]; exact ⟨D.1, D.2.1⟩
        · exact hV.1 t (by omega) b
      · by_cases q : t = f
        · rw [q]; exact ⟨D.2.2.1, D.2.2.2.1, D.2.2.2.2.1, D.2.2.2.2.2⟩
        · exact hV.2 t (by omega) b
    · rw [C.2.2.1] at z
      exact absurd z (nI_ge (by omega) (by omega))
  | succ r ih =>
    intro j J hj hD hV hsm
    have C := CtI_dp hE hsm
    have M := MgI_dp hI hsm
    have e1 : nI (f + j + 1) - 1 = nI (f + j) := nI_pred _
    have ew : (if nI (sWs E m f j) < nI (gWs E (f + j) (ig m (f + j))) then (nI (gWs E (f + j) (ig m (f + j))) : Int32) else nI (sWs E m f j)) = nI (sWs E m f (j + 1)) := by
      have b1 := sWs_b (a := f) hB j (by omega)
      have b2 := sWs_b (a := f) hB (j + 1) (by omega)
      have e : sWs E m f (j + 1) = if gWs E (f + j) (ig m (f + j)) ≤ sWs E m f j then sWs E m f j else gWs E (f + j) (ig m (f + j)) := rfl
      by_cases q : gWs E (f + j) (ig m (f + j)) ≤ sWs E m f j
      · rw [if_pos q] at e
        rw [if_neg (nI_nlt q (by omega)), e]
      · rw [if_neg q] at e
        rw [if_pos (nI_lt (by omega) (by omega)), e]
    refine c_Cutter_cutForLeast_41 _ _ _ ⟨fun z => ?_, fun _ => ?_⟩
    · rw [C.2.2.1] at z
      exact absurd z (nI_nlt (by omega) (by omega))
    · rw [e1, nI_clamp (n := f + j) (by omega), M.2.2 (f + j) (by omega)]
      refine ⟨vp_in_nI (by omega) (by omega), e_Math_max _ _ ?_⟩
      rw [ew]
      have fp := sp_X_findParameter (P := fun I66 => vp_in (nI (f + j + 1)) 9 ∧ vp_in (nI (f + j + 1)) 9 ∧ (nI (f + j + 1) = nI f + 1 → vp_in (nI f) 9 ∧ vp_in (nI f) 9 ∧ vp_in (nI f) 8 ∧ vp_in (nI f) 8 ∧ vp_in (nI f) 8 ∧ vp_in (nI f) 8 ∧ mm_W 6 41 [some (.ref 11), some (.int (nI f)), some (.int (nI (sWs E m f (j + 1)))), some (.int (nI (f + j + 1) + 1)), none, none] [] (mm_up (mm_up (mm_up (mm_up (mm_up (mm_up I66 16 (nI f).toNatClampNeg ((I66 11 14) + (I66 16 (nI (f + j + 1)).toNatClampNeg))) 17 (nI f).toNatClampNeg (1 + (I66 17 (nI (f + j + 1)).toNatClampNeg))) 18 (nI f).toNatClampNeg (nI (f + j + 1) - nI f)) 19 (nI f).toNatClampNeg (I66 11 13)) 20 (nI f).toNatClampNeg (nI (sWs E m f (j + 1)))) 21 (nI f).toNatClampNeg (I66 11 14)) (mm_qi 6 P)) ∧ (¬ nI (f + j + 1) = nI f + 1 → vp_in (nI f) 9 ∧ (((I66 11 14) + (I66 16 (nI (f + j + 1)).toNatClampNeg)) < (I66 16 (nI f).toNatClampNeg) → vp_in (nI f) 9 ∧ vp_in (nI f) 9 ∧ vp_in (nI f) 8 ∧ vp_in (nI f) 8 ∧ vp_in (nI f) 8 ∧ vp_in (nI f) 8 ∧ mm_W 6 41 [some (.ref 11), some (.int (nI f)), some (.int (nI (sWs E m f (j + 1)))), some (.int (nI (f + j + 1) + 1)), none, none] [] (mm_up (mm_up (mm_up (mm_up (mm_up (mm_up I66 16 (nI f).toNatClampNeg ((I66 11 14) + (I66 16 (nI (f + j + 1)).toNatClampNeg))) 17 (nI f).toNatClampNeg (1 + (I66 17 (nI (f + j + 1)).toNatClampNeg))) 18 (nI f).toNatClampNeg (nI (f + j + 1) - nI f)) 19 (nI f).toNatClampNeg (I66 11 13)) 20 (nI f).toNatClampNeg (nI (sWs E m f (j + 1)))) 21 (nI f).toNatClampNeg (I66 11 14)) (mm_qi 6 P)) ∧ ((I66 16 (nI f).toNatClampNeg) ≤ ((I66 11 14) + (I66 16 (nI (f + j + 1)).toNatClampNeg)) → vp_in (nI f) 9 ∧ (¬ ((I66 11 14) + (I66 16 (nI (f + j + 1)).toNatClampNeg)) = (I66 16 (nI f).toNatClampNeg) → mm_W 6 41 [some (.ref 11), some (.int (nI f)), some (.int (nI (sWs E m f (j + 1)))), some (.int (nI (f + j + 1) + 1)), none, none] [] I66 (mm_qi 6 P)) ∧ (((I66 11 14) + (I66 16 (nI (f + j + 1)).toNatClampNeg)) = (I66 16 (nI f).toNatClampNeg) → vp_in (nI f) 9 ∧ ((I66 17 (nI f).toNatClampNeg) < (1 + (I66 17 (nI (f + j + 1)).toNatClampNeg)) → mm_W 6 41 [some (.ref 11), some (.int (nI f)), some (.int (nI (sWs E m f (j + 1)))), some (.int (nI (f + j + 1) + 1)), none, none] [] I66 (mm_qi 6 P)) ∧ ((1 + (I66 17 (nI (f + j + 1)).toNatClampNeg)) ≤ (I66 17 (nI f).toNatClampNeg) → vp_in (nI f) 9 ∧ vp_in (nI f) 9 ∧ vp_in (nI f) 8 ∧ vp_in (nI f) 8 ∧ vp_in (nI f) 8 ∧ vp_in (nI f) 8 ∧ mm_W 6 41 [some (.ref 11), some (.int (nI f)), some (.int (nI (sWs E m f (j + 1)))), some (.int (nI (f + j + 1) + 1)), none, none] [] (mm_up (mm_up (mm_up (mm_up (mm_up (mm_up I66 16 (nI f).toNatClampNeg ((I66 11 14) + (I66 16 (nI (f + j + 1)).toNatClampNeg))) 17 (nI f).toNatClampNeg (1 + (I66 17 (nI (f + j + 1)).toNatClampNeg))) 18 (nI f).toNatClampNeg (nI (f + j + 1) - nI f)) 19 (nI f).toNatClampNeg (I66 11 13)) 20 (nI f).toNatClampNeg (nI (sWs E m f (j + 1)))) 21 (nI f).toNatClampNeg (I66 11 14)) (mm_qi 6 P)))))) (a := f) (b := f + j + 1) hm hB rfl M (by omega) (by omega) (fun J2 a1 a2 a3 => ?_)
      · rw [show f + j + 1 - f = j + 1 by omega] at fp
        exact fp
      have V2 := DvI_fp hV a3
      have g16 := (V2.1 (f + j + 1) (by omega) (by omega)).1
      have g17 := (V2.1 (f + j + 1) (by omega) (by omega)).2
      have cb := c1548 f (f + j + 1) (by omega) (by omega)
      have vb : (dV E m (f + j + 1)).1 ≤ 1548 * 8 ∧ (dV E m (f + j + 1)).2.1 ≤ 8 := dpV_b c1548 8 (f + j + 1) (by omega) (by omega)
      have e14 : nI (spb E m f (f + j + 1)) + nI (dV E m (f + j + 1)).1 = nI (dpC (spb E m) (dV E m) f (j + 1)).1 := nI_add _ _
      have e15 : (1 : Int32) + nI (dV E m (f + j + 1)).2.1 = nI (dpC (spb E m) (dV E m) f (j + 1)).2.1 := nI_add 1 _
      have b14 : (dpC (spb E m) (dV E m) f (j + 1)).1 ≤ 1548 + 1548 * 8 := by
        show spb E m f (f + (j + 1)) + (dV E m (f + (j + 1))).1 ≤ _
        rw [show f + (j + 1) = f + j + 1 by omega]
        have := vb.1
        omega
      have b15 : (dpC (spb E m) (dV E m) f (j + 1)).2.1 ≤ 9 := by
        show 1 + (dV E m (f + (j + 1))).2.1 ≤ _
        rw [show f + (j + 1) = f + j + 1 by omega]
        have := vb.2
        omega
      have e3 : nI (f + j + 1) - nI f = nI (dpC (spb E m) (dV E m) f (j + 1)).2.2 := by
        rw [pk_sub (by omega)]
        congr 1
        show f + j + 1 - f = j + 1
        omega
      have v9 := vp_in_nI (n := f) (N := 9) (by omega) (by omega)
      have v8 := vp_in_nI (n := f) (N := 8) (by omega) (by omega)
      have v9j := vp_in_nI (n := f + j + 1) (N := 9) (by omega) (by omega)
      rw [nI_clamp (n := f) (by omega), nI_clamp (n := f + j + 1) (by omega), a1, a2, g16, g17, e14, e15, e3, nI_1 (f + j + 1), nI_1 f]
      have ee : dpI (spb E m) (dV E m) f (j + 1) = if j = 0 ∨ (dpC (spb E m) (dV E m) f (j + 1)).1 < (dpI (spb E m) (dV E m) f j).1 ∨ ((dpC (spb E m) (dV E m) f (j + 1)).1 = (dpI (spb E m) (dV E m) f j).1 ∧ (dpC (spb E m) (dV E m) f (j + 1)).2.1 ≤ (dpI (spb E m) (dV E m) f j).2.1) then dpC (spb E m) (dV E m) f (j + 1) else dpI (spb E m) (dV E m) f j := rfl
      have f2 := sm.tq hsm a3.fd
      have take : (j = 0 ∨ (dpC (spb E m) (dV E m) f (j + 1)).1 < (dpI (spb E m) (dV E m) f j).1 ∨ ((dpC (spb E m) (dV E m) f (j + 1)).1 = (dpI (spb E m) (dV E m) f j).1 ∧ (dpC (spb E m) (dV E m) f (j + 1)).2.1 ≤ (dpI (spb E m) (dV E m) f j).2.1)) → mm_W 6 41 [some (.ref 11), some (.int (nI f)), some (.int (nI (sWs E m f (j + 1)))), some (.int (nI (f + j + 1 + 1))), none, none] [] (mm_up (mm_up (mm_up (mm_up (mm_up (mm_up J2 16 f (nI (dpC (spb E m) (dV E m) f (j + 1)).1)) 17 f (nI (dpC (spb E m) (dV E m) f (j + 1)).2.1)) 18 f (nI (dpC (spb E m) (dV E m) f (j + 1)).2.2)) 19 f (nI (par E m f (f + j + 1)))) 20 f (nI (sWs E m f (j + 1)))) 21 f (nI (spb E m f (f + j + 1)))) (mm_qi 6 P) := fun q => by
        rw [if_pos q] at ee
        refine ih (j + 1) _ (by omega) (fun _ => ?_) ⟨fun t a b => ?_, fun t a b => ?_⟩ ((((((f2.up rfl).up rfl).up rfl).up rfl).up rfl).up rfl)
        · unfold DjI
          rw [ee]
          refine ⟨?_, ?_, ?_, ?_, ?_, ?_⟩
          · rw [up_o (by decide), up_o (by decide), up_o (by decide), up_o (by decide), up_o (by decide), up_a, if_pos rfl]
          · rw [up_o (by decide), up_o (by decide), up_o (by decide), up_o (by decide), up_a, if_pos rfl]
          · rw [up_o (by decide), up_o (by decide), up_o (by decide), up_a, if_pos rfl]
          · rw [up_o (by decide), up_o (by decide), up_a, if_pos rfl]
            rfl
          · rw [up_o (by decide), up_a, if_pos rfl]
            rfl
          · rw [up_a, if_pos rfl]
            rfl
        · have k := V2.1 t a b
          refine ⟨?_, ?_⟩
          · rw [up_o (by decide), up_o (by decide), up_o (by decide), up_o (by decide), up_o (by decide), up_a, if_neg (by omega)]
            exact k.1
          · rw [up_o (by decide), up_o (by decide), up_o (by decide), up_o (by decide), up_a, if_neg (by omega), up_o (by decide)]
            exact k.2
        · have k := V2.2 t a b
          refine ⟨?_, ?_, ?_, ?_⟩
          · rw [up_o (by decide), up_o (by decide), up_o (by decide), up_a, if_neg (by omega), up_o (by decide), up_o (by decide)]
            exact k.1
          · rw [up_o (by decide), up_o (by decide), up_a, if_neg (by omega), up_o (by decide), up_o (by decide), up_o (by decide)]
            exact k.2.1
          · rw [up_o (by decide), up_a, if_neg (by omega), up_o (by decide), up_o (by decide), up_o (by decide), up_o (by decide)]
            exact k.2.2.1
          · rw [up_a, if_neg (by omega), up_o (by decide), up_o (by decide), up_o (by decide), up_o (by decide), up_o (by decide)]
            exact k.2.2.2
      have keep : ¬ (j = 0 ∨ (dpC (spb E m) (dV E m) f (j + 1)).1 < (dpI (spb E m) (dV E m) f j).1 ∨ ((dpC (spb E m) (dV E m) f (j + 1)).1 = (dpI (spb E m) (dV E m) f j).1 ∧ (dpC (spb E m) (dV E m) f (j + 1)).2.1 ≤ (dpI (spb E m) (dV E m) f j).2.1)) → mm_W 6 41 [some (.ref 11), some (.int (nI f)), some (.int (nI (sWs E m f (j + 1)))), some (.int (nI (f + j + 1 + 1))), none, none] [] J2 (mm_qi 6 P) := fun q => by
        rw [if_neg q] at ee
        refine ih (j + 1) _ (by omega) (fun _ => ?_) V2 f2
        unfold DjI
        rw [ee]
        exact DjI_fp (hD (by omega)) a3
      refine ⟨v9j, v9j, fun z => ⟨v9, v9, v8, v8, v8, v8, take (Or.inl ?_)⟩, fun z => ?_⟩
      · have := (nI_eq (by omega) (by omega)).mp z
        omega
      · have j0 : ¬ j = 0 := fun y => z (by rw [y])
        have D := DjI_fp (hD (by omega)) a3
        have pd := (dpI_p (c := spb E m) (T := dV E m) (f := f) j (by omega)).1
        have bI : (dpI (spb E m) (dV E m) f j).1 ≤ 1548 + 1548 * 8 ∧ (dpI (spb E m) (dV E m) f j).2.1 ≤ 9 := by
          rw [pd.2.2]
          generalize (dpI (spb E m) (dV E m) f j).2.2 = N at *
          have b1 := c1548 f (f + N) (by omega) (by omega)
          have b2 : (dV E m (f + N)).1 ≤ 1548 * 8 ∧ (dV E m (f + N)).2.1 ≤ 8 := dpV_b c1548 8 (f + N) (by omega) (by omega)
          show spb E m f (f + N) + (dV E m (f + N)).1 ≤ _ ∧ 1 + (dV E m (f + N)).2.1 ≤ _
          have b21 := b2.1
          have b22 := b2.2
          omega
        rw [D.1, D.2.1]
        refine ⟨v9, fun y => ⟨v9, v9, v8, v8, v8, v8, take (Or.inr (Or.inl ((nI_ltI (by omega) (by omega)).mp y)))⟩, fun y => ⟨v9, fun x => keep ?_, fun x => ⟨v9, fun w => keep ?_, fun w => ⟨v9, v9, v8, v8, v8, v8, take (Or.inr (Or.inr ⟨(nI_eq (by omega) (by omega)).mp x, (nI_leI (by omega) (by omega)).mp w⟩))⟩⟩⟩⟩
        · have y := (nI_leI (by omega) (by omega)).mp y
          have x : ¬ (dpC (spb E m) (dV E m) f (j + 1)).1 = (dpI (spb E m) (dV E m) f j).1 := fun k => x (by rw [k])
          omega
        · have x := (nI_eq (by omega) (by omega)).mp x
          have w := (nI_ltI (by omega) (by omega)).mp w
          omega
theorem lX_cf31 {P : Int32 → mm_I → Prop} {E : Nat → Int32} {I : mm_I} {m : Nat} {c : Nat → Int32} (hE : CtI E m I) (hB : EB E m) (hI : MgI E m (Gm m) c I) (H : ∀ J, DvI E m 0 J → sm F_dp I J → P (nI (dV E m 0).1) J) : ∀ (k : Nat) (J : mm_I), k ≤ Gm m → DvI E m k J → sm F_dp I J → mm_W 6 31 [some (.ref 11), some (.int (nI k - 1)), none, none, none, none] [] J (mm_qi 6 P) := by
  have hm := hE.1
  have hGm : Gm m = (m + 7) / 8 := rfl
  intro k
  induction k with
  | zero =>
    intro J hk hV hsm
    refine c_Cutter_cutForLeast_31 _ ⟨fun _ => ?_, fun z => absurd z (by decide)⟩
    rw [(hV.1 0 (Nat.le_refl 0) (Nat.zero_le _)).1]
    exact H J hV hsm
  | succ k ih =>
    intro J hk hV hsm
    have ek : nI (k + 1) - 1 = nI k := nI_pred k
    rw [ek]
    refine c_Cutter_cutForLeast_31 _ ⟨fun z => absurd z (nI_pos (by omega)), fun _ => ?_⟩
    rw [nI_1]
    exact lX_cf41 (CtI_dp hE hsm) hB (MgI_dp hI hsm) (by omega) (fun J2 a1 a2 => ih J2 (by omega) a1 (sm.tq hsm a2)) (Gm m - k) 0 J (by omega) (fun h => absurd h (by omega)) hV sm.rf
theorem sp_X_cutForLeast {P : Int32 → mm_I → Prop} {E : Nat → Int32} {I : mm_I} {m : Nat} (hE : CtI E m I) (hB : EB E m) (h1 : 1 ≤ m) (H : ∀ J, CkI 1 E m J → CtI E m J → sm F_ct I J → P (nI (rBits 1 E m)) J) : mm_Mi 6 [.ref 11] I P := by
  have hm := hE.1
  have hGm : Gm m = (m + 7) / 8 := rfl
  have dr := dp_runs (c := spb E m) (G := Gm m) (by omega) (by omega)
  refine e_Cutter_cutForLeast (sp_X_measureGroups hE hB (fun c J a1 a2 => ?_))
  have C := CtI_mg hE a2
  have vG := vp_in_nI (n := Gm m) (N := 9) (by omega) (by omega)
  rw [C.2.2.1, nI_clamp (n := Gm m) (by omega)]
  refine ⟨vG, vG, ?_⟩
  have f0 : sm F_dp J (mm_up (mm_up J 16 (Gm m) 0) 17 (Gm m) 0) := (sm.rf.up rfl).up rfl
  refine lX_cf31 (CtI_dp C f0) hB (MgI_dp a1 f0) (fun J2 b1 b2 => ?_) (Gm m) _ (Nat.le_refl _) ⟨fun t a b => ?_, fun t a b => by omega⟩ sm.rf
  · have f2 := sm.tq f0 b2
    have eB : rBits 1 E m = (dV E m 0).1 := by
      have : rBits 1 E m = wBt (spb E m) (Gm m) (bst (spb E m) (Gm m)) (Gm m) := if_pos rfl
      rw [this, dr.1]
    rw [← eB]
    refine H J2 (fun k hk => ?_) (CtI_dp C f2) (sm.tq a2.mg f2.dp)
    have eT0 : rTo 1 E m = wRu (spb E m) (Gm m) := if_pos rfl
    have eT : rTo 1 E m k = wTo (Gm m) (bst (spb E m) (Gm m)) (Gm m) k := congrFun eT0 k
    have eC : rCnt 1 E m = wCt (Gm m) (bst (spb E m) (Gm m)) (Gm m) := if_pos rfl
    have eP : rPa 1 E m k = par E m (rTo 1 E m k).1 (rTo 1 E m k).2 := if_pos rfl
    have eb : rBt 1 E m k = spb E m (rTo 1 E m k).1 (rTo 1 E m k).2 := if_pos rfl
    rw [eC] at hk
    have d := dr.2 k hk
    rw [eP, eb, eT]
    generalize wTo (Gm m) (bst (spb E m) (Gm m)) (Gm m) k = T at *
    obtain ⟨f, t⟩ := T
    simp only at d ⊢
    obtain ⟨d1, d2⟩ := d
    have v := b1.2 f (Nat.zero_le _) d1
    have pp := (dpI_p (c := spb E m) (T := dV E m) (f := f) (Gm m - f) (by omega)).1
    have ef : dV E m f = dpI (spb E m) (dV E m) f (Gm m - f) := dpV_f d1
    rw [← ef] at pp
    have d2 : t = f + (dV E m f).2.2 := d2
    have dt : t - f = (dV E m f).2.2 := by omega
    rw [← d2] at v
    refine ⟨by rw [dt]; exact v.1, v.2.1, v.2.2.2, fun _ => ?_⟩
    rw [v.2.2.1, sWs_wm _ (by omega), ← dt, sCs_eq (by omega) (by omega)]
  · have tG : t = Gm m := by omega
    subst tG
    have z : dV E m (Gm m) = (0, 0, 0) := dpV_G
    rw [z]
    refine ⟨?_, ?_⟩
    · rw [up_o (by decide), up_a, if_pos rfl]; rfl
    · rw [up_a, if_pos rfl]; rfl
