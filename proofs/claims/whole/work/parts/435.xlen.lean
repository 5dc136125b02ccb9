theorem lX_laE {P : Int32 → mm_I → Prop} {A : sA} {pl n j p : Nat} {x y : Nat → Int32} {I : mm_I} (hV : VA A) (hN : HdN A) (hX : XxI A I) (hR : RdX (s_su A) (some p) I) (hp : 8 * pl + 20 ≤ p) (hj : j < 4) (hn : n < h_n A) (hx : ∀ i, i < h_z A n → I 53 i = x i) (hy : h_c A = 2 → ∀ i, i < h_z A n → I 54 i = y i) (hj0 : h_c A = 1 → j = 0)
    (H1 : ∀ t, fgE A pl n j p x y = some t → ∀ J, (∀ i, i < h_z A n → J 53 i = t.2.1 i) → (h_c A = 2 → ∀ i, i < h_z A n → J 54 i = t.2.2 i) → sm F_lx I J → P (nI t.1) J)
    (H0 : fgE A pl n j p x y = none → ∀ J, sm F_lx I J → P (-1) J) : mm_Mi 63 [.ref 47, .int (nI pl), .int (((I 46 6) + 7) / 8)] I (fun r162 I162 =>
            (¬ r162 = 0 →
              mm_Mv 34 [.ref 46, .int (nI j), .int (nI (h_z A n))] I162 (fun I174 =>
              mm_Mi 35 [.ref 46, .ref 53, .int (nI (h_z A n))] I174 (fun r183 I183 =>
              (r183 = 0 → P (-1) I183) ∧
              (¬ r183 = 0 →
                (¬ (I183 46 2) = 2 → P (((((I 46 6) + 7) / 8) + 2) - nI pl) I183) ∧
                ((I183 46 2) = 2 →
                  mm_Mi 35 [.ref 46, .ref 54, .int (nI (h_z A n))] I183 (fun r203 I203 =>
                  (¬ r203 = 0 → P (((((I 46 6) + 7) / 8) + 2) - nI pl) I203) ∧
                  (r203 = 0 → P (-1) I203))))))) ∧
            (r162 = 0 → P (-1) I162)) := by
  have hsu := hV.su
  have hz := h_z_b hN hn
  have hc := hN.1.2
  have hw := hN.2.1.2
  have xo := XxI_of hN hX
  have h8 := hR.2.2
  have ed : (nI p + 7) / 8 = nI ((p + 7) / 8) := by
    show (_ + nI 7) / nI 8 = _
    rw [nI_add, pk_div (by omega) (by omega) (by omega)]
  have er : (nI ((p + 7) / 8) + 2 - nI pl) = nI ((p + 7) / 8 + 2 - pl) := by
    have e2' : nI ((p + 7) / 8) + 2 = nI ((p + 7) / 8 + 2) := nI_add _ 2
    rw [e2']
    exact pk_sub (by omega)
  rw [hR.1, ed, er]
  refine sp_X_hasCheck (B := s_sb A) hsu (by omega) (by omega) hX.1 (fun i hi => hV.by hi) (fun z q => ⟨fun _ => ?_, fun k => absurd k (by decide)⟩) (fun z => ⟨fun k => absurd rfl k, fun _ => ?_⟩)
  · have okc : ∀ i, i < h_z A n → (okP (h_c A) (h_w A) j (I 53 i) (I 54 i) ↔ okP (h_c A) (h_w A) j (x i) (y i)) := fun i hi => by
      rw [hx i hi]
      rcases hc with c | c
      · have j0 := hj0 c
        subst j0
        have : ∀ b, okP (h_c A) (h_w A) 0 (x i) b ↔ inW (h_w A) (x i) := fun b => by
          constructor
          · intro q
            have := q.1
            rw [pL0] at this
            exact this
          · intro q
            refine ⟨?_, fun k => by omega⟩
            rw [pL0]
            exact q
        rw [this, this]
      · rw [hy c i hi]
    refine sp_X_part hj hz.2.1 (fun J a1 a2 => ?_)
    have J3 : J 46 3 = nI (h_w A) := (a2 46 3 rfl).trans xo.2.1
    have J2 : J 46 2 = nI (h_c A) := (a2 46 2 rfl).trans xo.1
    have no : ¬ (∀ i, i < h_z A n → okP (h_c A) (h_w A) j (I 53 i) (I 54 i)) → P (-1) J := fun k => by
      refine H0 ?_ J a2.lx5
      unfold fgE
      rw [if_neg (fun c => k (fun i hi => (okc i hi).mpr (c.2.2 i hi)))]
    have yes : (∀ i, i < h_z A n → okP (h_c A) (h_w A) j (I 53 i) (I 54 i)) → P (nI ((p + 7) / 8 + 2 - pl)) J := fun k => by
      have cc : fgC A pl n j p x y := ⟨z, q, fun i hi => (okc i hi).mp (k i hi)⟩
      have ee : fgE A pl n j p x y = some ((p + 7) / 8 + 2 - pl, fun i => pLo j (x i) (y i), fun i => pRo j (x i) (y i)) := if_pos cc
      refine H1 _ ee J (fun i hi => ?_) (fun c i hi => ?_) a2.lx5
      · rw [(a1 i hi).1, hx i hi]
        rcases hc with c | c
        · rw [hj0 c]
          show pLo 0 (x i) _ = pLo 0 (x i) (y i)
          rw [pL0, pL0]
        · rw [hy c i hi]
      · rw [(a1 i hi).2, hx i hi, hy c i hi]
    refine sp_X_isOfWidth (Or.inl rfl) hz.2.1 J3 hw (fun k => ⟨fun v => absurd v (by decide), fun _ => ?_⟩) (fun k => ⟨fun _ => no (fun v => k (fun i hi => by rw [(a1 i hi).1]; exact (v i hi).1)), fun v => absurd rfl v⟩)
    rw [J2]
    rcases hc with c | c
    · have n2 : ¬ nI (h_c A) = 2 := by rw [c]; decide
      exact ⟨fun _ => yes (fun i hi => ⟨by rw [← (a1 i hi).1]; exact k i hi, fun v => by omega⟩), fun v => absurd v n2⟩
    · have n2 : nI (h_c A) = 2 := by rw [c]; rfl
      refine ⟨fun v => absurd n2 v, fun _ => sp_X_isOfWidth (Or.inr rfl) hz.2.1 J3 hw (fun k2 => ⟨fun _ => yes (fun i hi => ⟨by rw [← (a1 i hi).1]; exact k i hi, fun _ => by rw [← (a1 i hi).2]; exact k2 i hi⟩), fun v => absurd v (by decide)⟩) (fun k2 => ⟨fun v => absurd rfl v, fun _ => no (fun v => k2 (fun i hi => by rw [(a1 i hi).2]; exact (v i hi).2 c))⟩)⟩
  · refine H0 ?_ I sm.rf
    unfold fgE
    rw [if_neg (fun c => z ⟨c.1, c.2.1⟩)]
theorem RdX_xv {vv u : Nat} {p : Option Nat} {I : mm_I} (h : RdX u p I) (hv : vv2 vv) : vv2 vv ∧ RdX u p I := ⟨hv, h⟩
theorem sp_X_lengthAt {P : Int32 → mm_I → Prop} {A : sA} {I : mm_I} {pl : Nat} (hV : VA A) (hN : HdN A) (hX : XxI A I) (hpl : pl ≤ 4000)
    (H1 : ∀ t, fgO A pl = some t → ∀ J, (∀ i, i < h_z A (n_b A pl) → J 53 i = t.2.1 i) → (h_c A = 2 → ∀ i, i < h_z A (n_b A pl) → J 54 i = t.2.2 i) → sm F_lx I J → P (nI t.1) J)
    (H0 : fgO A pl = none → ∀ J, sm F_lx I J → P (-1) J) : mm_Mi 27 [.ref 46, .int (nI pl)] I P := by
  have hsu := hV.su
  have n16 := h_n_b hN
  refine e_Reader_lengthAt _ (sp_X_numberAt hV hN hX hpl (fun q => ⟨fun _ => ?_, fun z => ?_⟩) (fun q => ⟨fun z => absurd rfl z, fun _ => H0 (if_neg q) I sm.rf⟩))
  · have hn : n_b A pl < h_n A := q.2.2
    have hz := h_z_b hN hn
    have xo := XxI_of hN hX
    have hc := hN.1.2
    have hw := hN.2.1.2
    obtain ⟨_, f1, f2, _⟩ := hN.2.2.1
    obtain ⟨_, m1⟩ := hN.2.2.2.1
    have j4 : fjn A pl < 4 := by
      unfold fjn
      split
      · exact (bvN_e (B := s_sb A) (p := 8 * pl + 16) (k := 2) (by omega)).2
      · omega
    have nb : ∀ r, fnb A (fjn A pl) r ≤ 31 := fun r => by
      unfold fnb
      split <;> omega
    have fo : fgO A pl = if 8 * s_su A < fp0 A pl then none else fgR A pl := if_pos q
    have fe : fgR A pl = match fRw A pl 0 (fp0 A pl) with
      | none => none
      | some t => if h_c A = 2 then (match fRw A pl 1 t.1 with
        | none => none
        | some t2 => fgE A pl (n_b A pl) (fjn A pl) t2.1 t.2 t2.2) else fgE A pl (n_b A pl) (fjn A pl) t.1 t.2 (fun _ => 0) := rfl
    have ez : (if nI (h_m A) - nI (n_b A pl) * nI (h_f A) < nI (h_f A) then (nI (h_m A) - nI (n_b A pl) * nI (h_f A) : Int32) else nI (h_f A)) = nI (h_z A (n_b A pl)) := by
      rw [pk_mul, Nat.mul_comm, pk_sub (by omega)]
      unfold h_z
      by_cases y : h_f A ≤ h_m A - h_f A * n_b A pl
      · rw [if_pos y, if_neg (nI_nlt y (by omega))]
      · rw [if_neg y, if_pos ((nI_ltI (by omega) (by omega)).mpr (by omega))]
    have e8 : (nI pl + 2) * 8 = nI (8 * pl + 16) := by
      have : nI pl + 2 = nI (pl + 2) := nI_add _ 2
      rw [this]
      show _ * nI 8 = _
      rw [pk_mul]
      congr 1
      omega
    refine e_Math_min _ _ ?_
    rw [xo.2.2.1, xo.2.2.2, ez, e8]
    have f0 : sm F_rx I (mm_up (mm_up I 46 6 (nI (8 * pl + 16))) 46 7 0) := (sm.rf.up rfl).up rfl
    have X0 := XxI_lx hX f0.lxr
    have o0 := XxI_of hN X0
    have R0 : RdX (s_su A) (some (8 * pl + 16)) (mm_up (mm_up I 46 6 (nI (8 * pl + 16))) 46 7 0) := ⟨rfl, rfl, by have := q.1; omega⟩
    rw [xo.1]
    rcases hc with c | c
    · have n2 : ¬ nI (h_c A) = 2 := by rw [c]; decide
      have p0 : fp0 A pl = 8 * pl + 16 := if_neg (by omega)
      have j0 : fjn A pl = 0 := if_neg (by omega)
      rw [if_neg (by rw [p0]; have := q.1; omega)] at fo
      have ew : nI (h_w A) = nI (fnb A (fjn A pl) 0) := by
        unfold fnb
        rw [if_neg (fun q => by omega)]
        rfl
      refine ⟨fun _ => ?_, fun y => absurd y n2⟩
      rw [xo.2.1, ew]
      refine sp_X_readRow (w := hWt (s_sb A)) (s := hSh (s_sb A)) (Or.inl rfl) hsu hz.2.1 hz.1 (nb 0) X0.1 X0.2.2.2.2.2 R0 (fun p' x h J a1 a2 a3 => ?_) (fun h J a1 a3 => ?_)
      · have m : 8 * pl + 16 + 4 ≤ p' := rowO_m h
        have fl := sm.tq f0.lxr (a3.lxv (Or.inl rfl))
        have X1 := XxI_lx hX fl
        have o1 := XxI_of hN X1
        rw [show fRw A pl 0 (fp0 A pl) = some (p', x) by rw [p0]; exact h] at fe
        simp only at fe
        rw [if_neg (by omega)] at fe
        rw [o1.1]
        refine ⟨fun _ => ⟨fun y => absurd a1.2.1 y, fun _ => ?_⟩, fun y => absurd y n2⟩
        have := lX_laE (P := P) (pl := pl) (n := n_b A pl) (j := fjn A pl) (p := p') (x := x) (y := fun _ => 0) hV hN X1 a1 (by omega) j4 hn a2 (fun k => by omega) (fun _ => j0) (fun t g J2 b1 b2 b3 => H1 t (fo.trans (fe.trans g)) J2 b1 b2 (sm.tq fl b3)) (fun g J2 b3 => H0 (fo.trans (fe.trans g)) J2 (sm.tq fl b3))
        rw [j0] at this
        exact this
      · rw [show fRw A pl 0 (fp0 A pl) = none by rw [p0]; exact h] at fe
        have fl := sm.tq f0.lxr (a3.lxv (Or.inl rfl))
        have o1 := XxI_of hN (XxI_lx hX fl)
        have b : ¬ J 46 7 = 0 := fun y => by rw [show J 46 7 = 1 from a1] at y; exact absurd y (by decide)
        rw [o1.1]
        exact ⟨fun _ => ⟨fun _ => H0 (fo.trans fe) J fl, fun y => absurd y b⟩, fun y => absurd y n2⟩
    · have n2 : nI (h_c A) = 2 := by rw [c]; rfl
      have p0 : fp0 A pl = 8 * pl + 18 := if_pos c
      have ej : fjn A pl = bvN (s_sb A) (8 * pl + 16) 2 := if_pos c
      have w2 := bvN_e (B := s_sb A) (p := 8 * pl + 16) (k := 2) (by omega)
      rw [p0] at fo
      have bad : ∀ (j : Int32) (J : mm_I), fgO A pl = none → J 46 7 = 1 → sm F_lx I J → (¬ (J 46 2) = 2 → (¬ (J 46 7) = 0 → P (-1) J) ∧ ((J 46 7) = 0 → mm_Mi 63 [.ref 47, .int (nI pl), .int (((J 46 6) + 7) / 8)] J (fun r162 I162 => (¬ r162 = 0 → mm_Mv 34 [.ref 46, .int j, .int (nI (h_z A (n_b A pl)))] I162 (fun I174 => mm_Mi 35 [.ref 46, .ref 53, .int (nI (h_z A (n_b A pl)))] I174 (fun r183 I183 => (r183 = 0 → P (-1) I183) ∧ (¬ r183 = 0 → (¬ (I183 46 2) = 2 → P (((((J 46 6) + 7) / 8) + 2) - nI pl) I183) ∧ ((I183 46 2) = 2 → mm_Mi 35 [.ref 46, .ref 54, .int (nI (h_z A (n_b A pl)))] I183 (fun r203 I203 => (¬ r203 = 0 → P (((((J 46 6) + 7) / 8) + 2) - nI pl) I203) ∧ (r203 = 0 → P (-1) I203))))))) ∧ (r162 = 0 → P (-1) I162)))) ∧ ((J 46 2) = 2 → mm_Mv 31 [.ref 46, .ref 54, .int (nI (h_z A (n_b A pl))), .int (if j = 1 then ((J 46 3) + 1 : Int32) else (if j = 3 then ((J 46 3) + 1 : Int32) else (J 46 3)))] J (fun I133 => (¬ (I133 46 7) = 0 → P (-1) I133) ∧ ((I133 46 7) = 0 → mm_Mi 63 [.ref 47, .int (nI pl), .int (((I133 46 6) + 7) / 8)] I133 (fun r162 I162 => (¬ r162 = 0 → mm_Mv 34 [.ref 46, .int j, .int (nI (h_z A (n_b A pl)))] I162 (fun I174 => mm_Mi 35 [.ref 46, .ref 53, .int (nI (h_z A (n_b A pl)))] I174 (fun r183 I183 => (r183 = 0 → P (-1) I183) ∧ (¬ r183 = 0 → (¬ (I183 46 2) = 2 → P (((((I133 46 6) + 7) / 8) + 2) - nI pl) I183) ∧ ((I183 46 2) = 2 → mm_Mi 35 [.ref 46, .ref 54, .int (nI (h_z A (n_b A pl)))] I183 (fun r203 I203 => (¬ r203 = 0 → P (((((I133 46 6) + 7) / 8) + 2) - nI pl) I203) ∧ (r203 = 0 → P (-1) I203))))))) ∧ (r162 = 0 → P (-1) I162))))) := fun j J e0 a1 fl => by
        have X1 := XxI_lx hX fl
        have o1 := XxI_of hN X1
        have b : ¬ J 46 7 = 0 := fun y => by rw [a1] at y; exact absurd y (by decide)
        refine ⟨fun y => absurd (o1.1.trans n2) y, fun _ => ?_⟩
        refine sp_X_readRow0 (u := s_su A) (Or.inr rfl) hz.2.1 hz.1 X1.2.2.2.2.2 a1 (fun K b1 b2 => ?_)
        have b' : ¬ K 46 7 = 0 := fun y => by rw [show K 46 7 = 1 from b1] at y; exact absurd y (by decide)
        exact ⟨fun _ => H0 e0 K (sm.tq fl (b2.lxv (Or.inr rfl))), fun y => absurd y b'⟩
      refine ⟨fun y => absurd n2 y, fun _ => sp_X_bits (n := 2) (by omega) hsu X0.1 R0 (fun c1 J1 a1 a2 => ?_) (fun c1 J1 a1 a2 => ?_)⟩
      · rw [w2.1, ← ej]
        rw [if_neg (by omega)] at fo
        have fl1 := sm.tq f0 a2
        have X1 := XxI_lx hX fl1.lxr
        have o1 := XxI_of hN X1
        have e2 : (nI (fjn A pl) = 2) ↔ fjn A pl = 2 := nI_eq (b := 2) (by omega) (by omega)
        have e1 : (nI (fjn A pl) = 1) ↔ fjn A pl = 1 := nI_eq (b := 1) (by omega) (by omega)
        have e3 : (nI (fjn A pl) = 3) ↔ fjn A pl = 3 := nI_eq (b := 3) (by omega) (by omega)
        have ew0 : (if nI (fjn A pl) = 2 then (nI (h_w A) + 1 : Int32) else nI (h_w A)) = nI (fnb A (fjn A pl) 0) := by
          have ifa : ∀ a : Int32, (if nI (fjn A pl) = 2 then (a + 1 : Int32) else a) = if fjn A pl = 2 then a + 1 else a := fun a => by
            by_cases k : fjn A pl = 2
            · rw [if_pos k, if_pos (e2.mpr k)]
            · rw [if_neg k, if_neg (fun z => k (e2.mp z))]
          rw [ifa]
          unfold fnb soF
          rw [if_pos rfl]
          rcases (by omega : fjn A pl = 0 ∨ fjn A pl = 1 ∨ fjn A pl = 2 ∨ fjn A pl = 3) with k | k | k | k <;> rw [k, c]
          · rfl
          · rfl
          · exact nI_1 _
          · rfl
        have ew1 : (if nI (fjn A pl) = 1 then (nI (h_w A) + 1 : Int32) else (if nI (fjn A pl) = 3 then (nI (h_w A) + 1 : Int32) else nI (h_w A))) = nI (fnb A (fjn A pl) 1) := by
          have ifa : (if nI (fjn A pl) = 1 then (nI (h_w A) + 1 : Int32) else (if nI (fjn A pl) = 3 then (nI (h_w A) + 1 : Int32) else nI (h_w A))) = if fjn A pl = 1 then nI (h_w A) + 1 else (if fjn A pl = 3 then nI (h_w A) + 1 else nI (h_w A)) := by
            by_cases k : fjn A pl = 1
            · rw [if_pos k, if_pos (e1.mpr k)]
            · rw [if_neg k, if_neg (fun z => k (e1.mp z))]
              by_cases k3 : fjn A pl = 3
              · rw [if_pos k3, if_pos (e3.mpr k3)]
              · rw [if_neg k3, if_neg (fun z => k3 (e3.mp z))]
          rw [ifa]
          unfold fnb soF
          rw [if_neg (show ¬ (1 : Nat) = 0 by decide)]
          rcases (by omega : fjn A pl = 0 ∨ fjn A pl = 1 ∨ fjn A pl = 2 ∨ fjn A pl = 3) with k | k | k | k <;> rw [k, c]
          · rfl
          · exact nI_1 _
          · rfl
          · exact nI_1 _
        rw [o1.2.1, ew0]
        refine sp_X_readRow (w := hWt (s_sb A)) (s := hSh (s_sb A)) (Or.inl rfl) hsu hz.2.1 hz.1 (nb 0) X1.1 X1.2.2.2.2.2 a1 (fun p' x h J a1 a2 a3 => ?_) (fun h J a1 a3 => ?_)
        · have m : 8 * pl + 16 + 2 + 4 ≤ p' := rowO_m h
          have fl := sm.tq fl1.lxr (a3.lxv (Or.inl rfl))
          have X2 := XxI_lx hX fl
          have o2 := XxI_of hN X2
          rw [show fRw A pl 0 (fp0 A pl) = some (p', x) by rw [p0]; exact h] at fe
          simp only at fe
          rw [if_pos c] at fe
          rw [o2.1, o2.2.1, ew1]
          refine ⟨fun y => absurd n2 y, fun _ => ?_⟩
          refine sp_X_readRow (w := hWt (s_sb A)) (s := hSh (s_sb A)) (Or.inr rfl) hsu hz.2.1 hz.1 (nb 1) X2.1 X2.2.2.2.2.2 a1 (fun p2 x2 h2 K b1 b2 b3 => ?_) (fun h2 K b1 b3 => ?_)
          · have m2 : p' + 4 ≤ p2 := rowO_m h2
            have fl3 := sm.tq fl (b3.lxv (Or.inr rfl))
            rw [show fRw A pl 1 p' = some (p2, x2) from h2] at fe
            refine ⟨fun y => absurd b1.2.1 y, fun _ => ?_⟩
            exact lX_laE (P := P) (pl := pl) (n := n_b A pl) (j := fjn A pl) (p := p2) (x := x) (y := x2) hV hN (XxI_lx hX fl3) b1 (by omega) j4 hn (fun i hi => by rw [b3 53 i rfl]; exact a2 i hi) (fun _ => b2) (fun k => by omega) (fun t g J2 d1 d2 d3 => H1 t (fo.trans (fe.trans g)) J2 d1 d2 (sm.tq fl3 d3)) (fun g J2 d3 => H0 (fo.trans (fe.trans g)) J2 (sm.tq fl3 d3))
          · have fl3 := sm.tq fl (b3.lxv (Or.inr rfl))
            rw [show fRw A pl 1 p' = none from h2] at fe
            have b' : ¬ K 46 7 = 0 := fun y => by rw [show K 46 7 = 1 from b1] at y; exact absurd y (by decide)
            exact ⟨fun _ => H0 (fo.trans fe) K fl3, fun y => absurd y b'⟩
        · have fl := sm.tq fl1.lxr (a3.lxv (Or.inl rfl))
          rw [show fRw A pl 0 (fp0 A pl) = none by rw [p0]; exact h] at fe
          exact bad (nI (fjn A pl)) J (fo.trans fe) a1 fl
      · rw [if_pos (by omega)] at fo
        have fl1 := sm.tq f0 a2
        have X1 := XxI_lx hX fl1.lxr
        refine sp_X_readRow0 (u := s_su A) (Or.inl rfl) hz.2.1 hz.1 X1.2.2.2.2.2 a1 (fun K b1 b2 => ?_)
        exact bad 0 K fo b1 (sm.tq fl1.lxr (b2.lxv (Or.inl rfl)))
  · have hn : n_b A pl < h_n A := q.2.2
    exact absurd z (fun z => nI_pos (n := n_b A pl) (by omega) (by rw [z]; decide))
