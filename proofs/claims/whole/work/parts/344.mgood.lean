/-! a frame at a place -/
def fjn (A : sA) (pl : Nat) : Nat := if h_c A = 2 then bvN (s_sb A) (8 * pl + 16) 2 else 0
def fnb (A : sA) (j r : Nat) : Nat := h_w A + (if h_c A = 2 ∧ soF j r = 2 then 1 else 0)
def fp0 (A : sA) (pl : Nat) : Nat := if h_c A = 2 then 8 * pl + 18 else 8 * pl + 16
abbrev fgC (A : sA) (pl n j p : Nat) (x y : Nat → Int32) : Prop := (p + 7) / 8 + 2 ≤ s_su A ∧ ckS (s_sb A) pl ((p + 7) / 8 - pl) = 256 * s_sb A ((p + 7) / 8) + s_sb A ((p + 7) / 8 + 1) ∧ ∀ i, i < h_z A n → okP (h_c A) (h_w A) j (x i) (y i)
def fgE (A : sA) (pl n j p : Nat) (x y : Nat → Int32) : Option (Nat × (Nat → Int32) × (Nat → Int32)) := if fgC A pl n j p x y then some ((p + 7) / 8 + 2 - pl, fun i => pLo j (x i) (y i), fun i => pRo j (x i) (y i)) else none
abbrev fRw (A : sA) (pl r p : Nat) : Option (Nat × (Nat → Int32)) := rowO (s_sb A) (s_su A) (hWt (s_sb A)) (hSh (s_sb A)) (h_z A (n_b A pl)) (fnb A (fjn A pl) r) p
def fgR (A : sA) (pl : Nat) : Option (Nat × (Nat → Int32) × (Nat → Int32)) := match fRw A pl 0 (fp0 A pl) with
  | none => none
  | some t => if h_c A = 2 then (match fRw A pl 1 t.1 with
    | none => none
    | some t2 => fgE A pl (n_b A pl) (fjn A pl) t2.1 t.2 t2.2) else fgE A pl (n_b A pl) (fjn A pl) t.1 t.2 (fun _ => 0)
abbrev fgQ (A : sA) (pl : Nat) : Prop := pl + 2 ≤ s_su A ∧ s_sb A pl = 165 ∧ n_b A pl < h_n A
def fgO (A : sA) (pl : Nat) : Option (Nat × (Nat → Int32) × (Nat → Int32)) := if fgQ A pl then (if 8 * s_su A < fp0 A pl then none else fgR A pl) else none
theorem fgE_len {A : sA} {pl n j p : Nat} {x y : Nat → Int32} {t : Nat × (Nat → Int32) × (Nat → Int32)} (h : fgE A pl n j p x y = some t) (hp : 8 * pl + 20 ≤ p) : pl + 5 ≤ s_su A ∧ 5 ≤ t.1 ∧ pl + t.1 ≤ s_su A := by
  unfold fgE at h
  by_cases q : fgC A pl n j p x y
  · rw [if_pos q] at h
    cases h
    have := q.1
    show pl + 5 ≤ s_su A ∧ 5 ≤ (p + 7) / 8 + 2 - pl ∧ pl + ((p + 7) / 8 + 2 - pl) ≤ s_su A
    omega
  · rw [if_neg q] at h; cases h
theorem fgR_len {A : sA} {pl : Nat} {t : Nat × (Nat → Int32) × (Nat → Int32)} (h : fgR A pl = some t) : pl + 5 ≤ s_su A ∧ 5 ≤ t.1 ∧ pl + t.1 ≤ s_su A := by
  have f0 : 8 * pl + 16 ≤ fp0 A pl := by
    unfold fp0
    split <;> omega
  unfold fgR at h
  cases h1 : fRw A pl 0 (fp0 A pl) with
  | none => rw [h1] at h; cases h
  | some a =>
    rw [h1] at h
    have m1 := rowO_m h1
    simp only at h
    by_cases q : h_c A = 2
    · rw [if_pos q] at h
      cases h2 : fRw A pl 1 a.1 with
      | none => rw [h2] at h; cases h
      | some b =>
        rw [h2] at h
        have m2 := rowO_m h2
        exact fgE_len h (by omega)
    · rw [if_neg q] at h
      exact fgE_len h (by omega)
theorem fgO_len {A : sA} {pl : Nat} {t : Nat × (Nat → Int32) × (Nat → Int32)} (h : fgO A pl = some t) : fgQ A pl ∧ pl + 5 ≤ s_su A ∧ 5 ≤ t.1 ∧ pl + t.1 ≤ s_su A := by
  unfold fgO at h
  by_cases q : fgQ A pl
  · rw [if_pos q] at h
    by_cases q2 : 8 * s_su A < fp0 A pl
    · rw [if_pos q2] at h; cases h
    · rw [if_neg q2] at h
      exact ⟨q, fgR_len h⟩
  · rw [if_neg q] at h; cases h
theorem h_z_b {A : sA} (h : HdN A) {n : Nat} (hn : n < h_n A) : 1 ≤ h_z A n ∧ h_z A n ≤ 64 ∧ h_f A * n < h_m A ∧ h_f A * n + h_z A n ≤ h_m A ∧ h_z A n ≤ h_f A := by
  obtain ⟨_, _, ⟨_, f1, f2, _⟩, ⟨_, m1⟩, _⟩ := h
  have a : h_f A * n < h_m A := by
    unfold h_n at hn
    have b : (n + 1) * h_f A ≤ h_m A + h_f A - 1 := (Nat.le_div_iff_mul_le (by omega)).mp hn
    rw [Nat.succ_mul, Nat.mul_comm] at b
    omega
  unfold h_z
  split <;> omega
theorem h_n_b {A : sA} (h : HdN A) : h_n A ≤ 16 := by
  obtain ⟨_, _, ⟨_, f1, f2, _⟩, ⟨_, m1⟩, _⟩ := h
  unfold h_n
  have : (h_m A + h_f A - 1) / h_f A < 17 := by
    rw [Nat.div_lt_iff_lt_mul (by omega)]
    have : 17 * 16 ≤ 17 * h_f A := Nat.mul_le_mul_left 17 f1
    omega
  omega
theorem sp_M_headFrames {P : Int32 → mm_I → Prop} {A : sA} {I : mm_I} (hN : HdN A) (hI : HdI (s_sb A) I) (H : P (nI (h_n A)) I) : mm_Mi 200 [.ref 58] I P := by
  obtain ⟨_, _, ⟨e4, f1, f2, _⟩, ⟨em, m1⟩, _⟩ := hN
  have e1 : nI (h_m A) + nI (h_f A) - 1 = nI (h_m A + h_f A - 1) := by
    rw [nI_add]
    exact pk_sub (b := 1) (by omega)
  refine e_M_headFrames ?_
  rw [hI.2.2.1, hI.2.2.2.1, e4, em, e1, pk_div (by omega) (by omega) (by omega)]
  exact ⟨nI_ne0 (by omega) (by omega), H⟩
theorem sp_M_sizeAt {P : Int32 → mm_I → Prop} {A : sA} {I : mm_I} {n : Nat} (hN : HdN A) (hI : HdI (s_sb A) I) (hn : n < h_n A) (H : P (nI (h_z A n)) I) : mm_Mi 208 [.ref 58, .int (nI n)] I P := by
  have hz := h_z_b hN hn
  obtain ⟨_, _, ⟨e4, f1, f2, _⟩, ⟨em, m1⟩, _⟩ := hN
  refine e_M_sizeAt _ ?_
  rw [hI.2.2.1, hI.2.2.2.1, e4, em, pk_mul, pk_sub (by omega)]
  have e3 : (if nI (h_f A) ≤ nI (h_m A - h_f A * n) then (nI (h_f A) : Int32) else nI (h_m A - h_f A * n)) = nI (h_z A n) := by
    unfold h_z
    by_cases q : h_f A ≤ h_m A - h_f A * n
    · rw [if_pos q, if_pos (nI_le q (by omega))]
    · rw [if_neg q, if_neg (nI_ge (by omega) (by omega))]
  rw [e3]
  exact H
def F_la (a j : Nat) : Bool := Nat.beq a 78 || F_ro a j
theorem F_la_p {a j : Nat} (h : F_la a j = false) : F_ro a j = false ∧ Nat.beq a 78 = false := by
  unfold F_la at h
  rw [Bool.or_eq_false_iff] at h
  exact ⟨h.2, h.1⟩
theorem sm.la {I J : mm_I} (f : sm F_ro I J) : sm F_la I J := f.le (fun a j h => (F_la_p h).1)
theorem sm.la7 {I J : mm_I} (f : sm F_7 I J) : sm F_la I J := f.le (fun a j h => (F_la_p h).2)
theorem sm.lar {row : Nat} {I J : mm_I} (f : sm (F_rr row) I J) : sm F_la I J := f.le (fun a j h => by
  have q := F_la_p h
  unfold F_rr F_78
  rw [q.1, q.2]
  rfl)
theorem StI_la {B : Nat → Int32} {u : Nat} {I J : mm_I} (h : StI B u I) (f : sm F_la I J) : StI B u J := ⟨(f 58 15 rfl).trans h.1, fun i hi => (f 66 i rfl).trans (h.2 i hi)⟩
theorem HdI_la {B : Nat → Int32} {I J : mm_I} (h : HdI B I) (f : sm F_la I J) : HdI B J := ⟨(f 58 35 rfl).trans h.1, (f 58 36 rfl).trans h.2.1, (f 58 37 rfl).trans h.2.2.1, (f 58 38 rfl).trans h.2.2.2.1, fun j hj => (f 64 j rfl).trans (h.2.2.2.2.1 j hj), fun j hj => (f 65 j rfl).trans (h.2.2.2.2.2 j hj)⟩
theorem lM_la102b {P : Int32 → mm_I → Prop} {x1 x3 x4 x5 : Int32} {I : mm_I} (h : I 58 40 = 1) (H : P (-1) I) : mm_W 209 102 [some (.ref 58), some (.int x1), none, some (.int x3), some (.int x4), some (.int x5)] [] I (mm_qi 209 P) := by
  have n0 : ¬ I 58 40 = 0 := fun z => by rw [h] at z; exact absurd z (by decide)
  exact c_M_lengthAt_102 _ _ _ _ ⟨fun _ => ⟨fun _ => H, fun z => absurd z n0⟩, fun _ => ⟨fun _ => ⟨fun _ => H, fun z => absurd z n0⟩, fun z => absurd z n0⟩⟩
theorem pL0 (a b : Int32) : pLo 0 a b = a := by
  unfold pLo
  rw [if_neg (by decide), if_neg (by decide)]
theorem lM_la102e {P : Int32 → mm_I → Prop} {A : sA} {pl n j p : Nat} {x y : Nat → Int32} {I : mm_I} (hV : VA A) (hN : HdN A) (hS : StI (s_sb A) (s_su A) I) (hI : HdI (s_sb A) I) (hR : RdO (s_su A) (some p) I) (hp : 8 * pl + 20 ≤ p) (hj : j < 4) (hn : n < h_n A) (hx : ∀ i, i < h_z A n → I 78 i = x i) (hy : h_c A = 2 → ∀ i, i < h_z A n → I 78 (64 + i) = y i) (hj0 : h_c A = 1 → j = 0)
    (H1 : ∀ t, fgE A pl n j p x y = some t → ∀ J, (∀ i, i < h_z A n → J 78 i = t.2.1 i) → (h_c A = 2 → ∀ i, i < h_z A n → J 78 (64 + i) = t.2.2 i) → sm F_la I J → P (nI t.1) J)
    (H0 : fgE A pl n j p x y = none → ∀ J, sm F_la I J → P (-1) J) : mm_W 209 102 [some (.ref 58), some (.int (nI pl)), none, some (.int (nI (h_z A n))), some (.int (nI j)), some (.int (nI (h_c A)))] [] I (mm_qi 209 P) := by
  have hsu := hV.su
  have hz := h_z_b hN hn
  obtain ⟨⟨e2, hc⟩, ⟨e3, hw⟩, _⟩ := hN
  have h35 : I 58 35 = nI (h_c A) := hI.1.trans e2
  have h36 : I 58 36 = nI (h_w A) := hI.2.1.trans e3
  have h8 := hR.2.2
  have ed : (nI p + 7) / 8 = nI ((p + 7) / 8) := by
    show (_ + nI 7) / nI 8 = _
    rw [nI_add, pk_div (by omega) (by omega) (by omega)]
  have e2' : nI ((p + 7) / 8) + 2 = nI ((p + 7) / 8 + 2) := nI_add _ 2
  refine c_M_lengthAt_102 _ _ _ _ ⟨fun _ => ⟨fun z => absurd hR.2.1 z, fun _ => ?_⟩, fun z => ?_⟩
  · rw [hR.1, ed, e2', hS.1, nI_1]
    refine ⟨fun z => ?_, fun z => ?_⟩
    · have z := (nI_ltI (by omega) (by omega)).mp z
      refine H0 ?_ I sm.rf
      unfold fgE
      rw [if_neg (fun q => by have := q.1; omega)]
    · have z := (nI_leI (by omega) (by omega)).mp z
      refine sp_M_checked (B := s_sb A) (by omega) (by omega) (fun i _ hi => hS.2 i (by omega)) ?_
      rw [nI_clamp (n := (p + 7) / 8) (by omega), nI_clamp (n := (p + 7) / 8 + 1) (by omega), hS.2 _ (by omega), hS.2 _ (by omega)]
      refine ⟨vp_in_nI (by omega) (by omega), vp_in_nI (by omega) (by omega), fun q => ?_, fun q => ?_⟩
      · refine H0 ?_ I sm.rf
        unfold fgE
        rw [if_neg (fun c => q c.2.1)]
      · have okc : ∀ i, i < h_z A n → (okP (h_c A) (h_w A) j (I 78 i) (I 78 (64 + i)) ↔ okP (h_c A) (h_w A) j (x i) (y i)) := fun i hi => by
          rw [hx i hi]
          rcases hc with c | c
          · have j0 := hj0 c
            subst j0
            have : ∀ b, okP (h_c A) (h_w A) 0 (x i) b ↔ inW (h_w A) (x i) := fun b => by
              constructor
              · intro q
                have := q.1
                rw [pL0] at this
                exact this
              · intro q
                refine ⟨?_, fun k => by omega⟩
                rw [pL0]
                exact q
            rw [this, this]
          · rw [hy c i hi]
        have er : (nI ((p + 7) / 8 + 2) - nI pl) = nI ((p + 7) / 8 + 2 - pl) := pk_sub (by omega)
        rw [er]
        refine sp_M_parts hj hz.2.1 h36 hw h35 hc (fun ok J a1 a2 => ⟨fun _ => ?_, fun y => absurd y (by decide)⟩) (fun ok J a2 => ⟨fun y => absurd rfl y, fun _ => ?_⟩)
        · have cc : fgC A pl n j p x y := ⟨z, q, fun i hi => (okc i hi).mp (ok i hi)⟩
          have ee : fgE A pl n j p x y = some ((p + 7) / 8 + 2 - pl, fun i => pLo j (x i) (y i), fun i => pRo j (x i) (y i)) := if_pos cc
          refine H1 _ ee J (fun i hi => ?_) (fun c i hi => ?_) a2.la7
          · rw [(a1 i hi).1, hx i hi]
            rcases hc with c | c
            · rw [hj0 c]
              show pLo 0 (x i) _ = pLo 0 (x i) (y i)
              rw [pL0, pL0]
            · rw [hy c i hi]
          · rw [(a1 i hi).2, hx i hi, hy c i hi]
        · refine H0 ?_ J a2.la7
          unfold fgE
          rw [if_neg (fun c => ok (fun i hi => (okc i hi).mpr (c.2.2 i hi)))]
  · rw [h35] at z
    exact absurd z (nI_nlt (by omega) (by omega))
theorem lM_la102 {P : Int32 → mm_I → Prop} {A : sA} {pl : Nat} {I : mm_I} (hV : VA A) (hN : HdN A) (hS : StI (s_sb A) (s_su A) I) (hI : HdI (s_sb A) I) (hR : RdO (s_su A) (some (fp0 A pl)) I) (hn : n_b A pl < h_n A)
    (H1 : ∀ t, fgR A pl = some t → ∀ J, (∀ i, i < h_z A (n_b A pl) → J 78 i = t.2.1 i) → (h_c A = 2 → ∀ i, i < h_z A (n_b A pl) → J 78 (64 + i) = t.2.2 i) → sm F_la I J → P (nI t.1) J)
    (H0 : fgR A pl = none → ∀ J, sm F_la I J → P (-1) J) : mm_W 209 102 [some (.ref 58), some (.int (nI pl)), none, some (.int (nI (h_z A (n_b A pl)))), some (.int (nI (fjn A pl))), some (.int 0)] [] I (mm_qi 209 P) := by
  have hsu := hV.su
  have hz := h_z_b hN hn
  have hN' := hN
  obtain ⟨⟨e2, hc⟩, ⟨e3, hw⟩, _⟩ := hN
  have h35 : I 58 35 = nI (h_c A) := hI.1.trans e2
  have h36 : I 58 36 = nI (h_w A) := hI.2.1.trans e3
  have j4 : fjn A pl < 4 := by
    unfold fjn
    split
    · exact (bvN_e (B := s_sb A) (p := 8 * pl + 16) (k := 2) (by omega)).2
    · omega
  have f0 : 8 * pl + 16 ≤ fp0 A pl := by
    unfold fp0
    split <;> omega
  have nb : ∀ r, fnb A (fjn A pl) r ≤ 31 := fun r => by
    unfold fnb
    split <;> omega
  have fe : fgR A pl = match fRw A pl 0 (fp0 A pl) with
    | none => none
    | some t => if h_c A = 2 then (match fRw A pl 1 t.1 with
      | none => none
      | some t2 => fgE A pl (n_b A pl) (fjn A pl) t2.1 t.2 t2.2) else fgE A pl (n_b A pl) (fjn A pl) t.1 t.2 (fun _ => 0) := rfl
  refine c_M_lengthAt_102 _ _ _ _ ⟨fun z => ?_, fun _ => ⟨fun z => absurd hR.2.1 z, fun _ => ?_⟩⟩
  · rw [h35] at z
    exact absurd z (nI_ge (a := 0) (by omega) (by omega))
  · rw [h35, h36]
    rcases hc with c | c
    · have n2 : ¬ nI (h_c A) = 2 := by rw [c]; decide
      have ew : nI (h_w A) + 0 = nI (fnb A (fjn A pl) 0) := by
        unfold fnb
        rw [if_neg (fun q => by omega)]
        exact nI_add _ 0
      have j0 : fjn A pl = 0 := if_neg (by omega)
      rw [ew]
      refine ⟨fun _ => sp_M_readsRow (row := 0) (w := hWt (s_sb A)) (s := hSh (s_sb A)) hsu hz.2.1 hz.1 (nb 0) (by omega) hS hR hI.2.2.2.2.1 hI.2.2.2.2.2 (fun p' x h J a1 a2 a3 => ?_) (fun h J a1 a3 => ?_), fun y => absurd y n2⟩
      · have m := rowO_m h
        rw [show fRw A pl 0 (fp0 A pl) = some (p', x) from h] at fe
        simp only at fe
        rw [if_neg (by omega)] at fe
        have a2 : ∀ i, i < h_z A (n_b A pl) → J 78 i = x i := fun i hi => by
          have := a2 i hi
          rw [show 64 * 0 + i = i by omega] at this
          exact this
        have := lM_la102e (P := P) (pl := pl) (n := n_b A pl) (j := fjn A pl) (p := p') (x := x) (y := fun _ => 0) hV hN' (StI_la hS a3.lar) (HdI_la hI a3.lar) a1 (by have : fp0 A pl + 4 ≤ p' := m; omega) j4 hn a2 (fun k => by omega) (fun _ => j0) (fun t g J2 b1 b2 b3 => H1 t (fe.trans g) J2 b1 b2 (sm.tq a3.lar b3)) (fun g J2 b3 => H0 (fe.trans g) J2 (sm.tq a3.lar b3))
        rw [c] at this
        exact this
      · rw [show fRw A pl 0 (fp0 A pl) = none from h] at fe
        exact lM_la102b a1 (H0 fe J a3.lar)
    · have n2 : nI (h_c A) = 2 := by rw [c]; rfl
      have ew : ∀ r, nI (h_w A) + (if nI (soF (fjn A pl) r) = 2 then (1 : Int32) else 0) = nI (fnb A (fjn A pl) r) := fun r => by
        have l4 := soF_lt (fjn A pl) r
        unfold fnb
        by_cases q : soF (fjn A pl) r = 2
        · have q1 : nI (soF (fjn A pl) r) = 2 := by rw [q]; rfl
          have q2 : h_c A = 2 ∧ soF (fjn A pl) r = 2 := ⟨c, q⟩
          rw [if_pos q1, if_pos q2, nI_1]
        · have q1 : ¬ nI (soF (fjn A pl) r) = 2 := fun k => q ((nI_eq (b := 2) (by omega) (by omega)).mp k)
          have q2 : ¬ (h_c A = 2 ∧ soF (fjn A pl) r = 2) := fun k => q k.2
          rw [if_neg q1, if_neg q2]
          exact nI_add _ 0
      refine ⟨fun y => absurd n2 y, fun _ => sp_M_sortOf (r := 0) j4 (by omega) ?_⟩
      rw [ew 0]
      refine sp_M_readsRow (row := 0) (w := hWt (s_sb A)) (s := hSh (s_sb A)) hsu hz.2.1 hz.1 (nb 0) (by omega) hS hR hI.2.2.2.2.1 hI.2.2.2.2.2 (fun p' x h J a1 a2 a3 => ?_) (fun h J a1 a3 => ?_)
      · have m := rowO_m h
        have m : fp0 A pl + 4 ≤ p' := m
        rw [show fRw A pl 0 (fp0 A pl) = some (p', x) from h] at fe
        simp only at fe
        rw [if_pos c] at fe
        have a2 : ∀ i, i < h_z A (n_b A pl) → J 78 i = x i := fun i hi => by
          have := a2 i hi
          rw [show 64 * 0 + i = i by omega] at this
          exact this
        have S1 := StI_la hS a3.lar
        have I1 := HdI_la hI a3.lar
        refine c_M_lengthAt_102 _ _ _ _ ⟨fun z => ?_, fun _ => ⟨fun z => absurd a1.2.1 z, fun _ => ?_⟩⟩
        · rw [a3.lar 58 35 rfl, h35, c] at z
          exact absurd z (by decide)
        · rw [a3.lar 58 35 rfl, h35, a3.lar 58 36 rfl, h36]
          refine ⟨fun y => absurd n2 y, fun _ => sp_M_sortOf (r := 1) j4 (by omega) ?_⟩
          rw [ew 1]
          refine sp_M_readsRow (row := 1) (w := hWt (s_sb A)) (s := hSh (s_sb A)) hsu hz.2.1 hz.1 (nb 1) (by omega) S1 a1 I1.2.2.2.2.1 I1.2.2.2.2.2 (fun p2 y h2 J2 b1 b2 b3 => ?_) (fun h2 J2 b1 b3 => ?_)
          · have m2 : p' + 4 ≤ p2 := rowO_m h2
            rw [show fRw A pl 1 p' = some (p2, y) from h2] at fe
            simp only at fe
            have f2 := sm.tq a3.lar b3.lar
            have := lM_la102e (P := P) (pl := pl) (n := n_b A pl) (j := fjn A pl) (p := p2) (x := x) (y := y) hV hN' (StI_la hS f2) (HdI_la hI f2) b1 (by omega) j4 hn (fun i hi => (b3 78 i (by
              unfold F_rr F_ro F_rd F_78
              have : Nat.ble (64 * 1) i = false := mm_bf fun k => by have := Nat.le_of_ble_eq_true k; omega
              rw [this]
              rfl)).trans (a2 i hi)) (fun _ i hi => b2 i hi) (fun k => by omega) (fun t g J3 d1 d2 d3 => H1 t (fe.trans g) J3 d1 d2 (sm.tq f2 d3)) (fun g J3 d3 => H0 (fe.trans g) J3 (sm.tq f2 d3))
            rw [c] at this
            exact this
          · rw [show fRw A pl 1 p' = none from h2] at fe
            exact lM_la102b b1 (H0 fe J2 (sm.tq a3.lar b3.lar))
      · rw [show fRw A pl 0 (fp0 A pl) = none from h] at fe
        exact lM_la102b a1 (H0 fe J a3.lar)
theorem sp_M_lengthAt {P : Int32 → mm_I → Prop} {A : sA} {pl least : Nat} {I : mm_I} (hV : VA A) (hN : HdN A) (hS : StI (s_sb A) (s_su A) I) (hI : HdI (s_sb A) I) (hpl : pl < s_su A) (hl : least ≤ 16)
    (H1 : ∀ t, fgO A pl = some t → least ≤ n_b A pl → ∀ J, (∀ i, i < h_z A (n_b A pl) → J 78 i = t.2.1 i) → (h_c A = 2 → ∀ i, i < h_z A (n_b A pl) → J 78 (64 + i) = t.2.2 i) → sm F_la I J → P (nI t.1) J)
    (H0 : (∀ t, fgO A pl = some t → n_b A pl < least) → ∀ J, sm F_la I J → P (-1) J) : mm_Mi 209 [.ref 58, .int (nI pl), .int (nI least)] I P := by
  have hsu := hV.su
  have n16 := h_n_b hN
  have hN' := hN
  obtain ⟨⟨e2, hc⟩, ⟨e3, hw⟩, _⟩ := hN
  have h35 : I 58 35 = nI (h_c A) := hI.1.trans e2
  have e4 : nI pl + 4 = nI (pl + 4) := nI_add _ 4
  refine e_M_lengthAt _ _ ?_
  rw [hS.1, e4, nI_1, nI_clamp (n := pl) (by omega), nI_clamp (n := pl + 1) (by omega)]
  refine ⟨fun z => ?_, fun z => ?_⟩
  · have z := (nI_ltI (by omega) (by omega)).mp z
    exact H0 (fun t ht => by have := (fgO_len ht).2.1; omega) I sm.rf
  · have z := (nI_leI (by omega) (by omega)).mp z
    have v0 := vp_in_nI (n := pl) (N := 4000) (by omega) (by omega)
    have v1 := vp_in_nI (n := pl + 1) (N := 4000) (by omega) (by omega)
    have bn := hV.byn (i := pl + 1) (by omega)
    have bn1 : I 66 (pl + 1) = nI (n_b A pl) := (hS.2 _ (by omega)).trans bn.1
    have bn2 : n_b A pl < 256 := bn.2
    rw [hS.2 pl (by omega), bn1]
    refine ⟨v0, fun q => H0 (fun t ht => absurd (fgO_len ht).1.2.1 q) I sm.rf, fun q => ⟨v1, fun y => ?_, fun y => ⟨v1, sp_M_headFrames hN' hI ⟨fun x => ?_, fun x => ?_⟩⟩⟩⟩
    · have y := (nI_ltI (by omega) (by omega)).mp y
      exact H0 (fun _ _ => y) I sm.rf
    · have x := (nI_ltI (by omega) (by omega)).mp x
      have y := (nI_leI (by omega) (by omega)).mp y
      rw [bn1]
      refine ⟨v1, sp_M_sizeAt hN' hI x ?_⟩
      have qq : fgQ A pl := ⟨by omega, q, x⟩
      have e8 : (8 : Int32) * nI pl + 16 = nI (8 * pl + 16) := by
        show nI 8 * _ + nI 16 = _
        rw [pk_mul, nI_add]
      rw [h35, e8]
      have fI : sm F_rd I (mm_up (mm_up I 58 39 (nI (8 * pl + 16))) 58 40 0) := (sm.rf.up rfl).up rfl
      have S1 := StI_rd hS fI
      have I1 := HdI_la hI fI.ro.la
      have R1 : RdO (s_su A) (some (8 * pl + 16)) (mm_up (mm_up I 58 39 (nI (8 * pl + 16))) 58 40 0) := ⟨rfl, rfl, by omega⟩
      generalize mm_up (mm_up I 58 39 (nI (8 * pl + 16))) 58 40 0 = I0 at *
      have fo : ∀ o, fgR A pl = o → ¬ 8 * s_su A < fp0 A pl → fgO A pl = o := fun o e k => by
        unfold fgO
        rw [if_pos qq, if_neg k, e]
      rcases hc with c | c
      · have n2 : ¬ nI (h_c A) = 2 := by rw [c]; decide
        have j0 : fjn A pl = 0 := if_neg (by omega)
        have p0 : fp0 A pl = 8 * pl + 16 := if_neg (by omega)
        have k : ¬ 8 * s_su A < fp0 A pl := by rw [p0]; omega
        rw [← p0] at R1
        have := lM_la102 (P := P) hV hN' S1 I1 R1 x (fun t g J a1 a2 a3 => H1 t (fo _ g k) y J a1 a2 (sm.tq fI.ro.la a3)) (fun g J a3 => H0 (fun t ht => by rw [fo _ g k] at ht; cases ht) J (sm.tq fI.ro.la a3))
        rw [j0] at this
        exact ⟨fun _ => this, fun y => absurd y n2⟩
      · have n2 : nI (h_c A) = 2 := by rw [c]; rfl
        have j0 : fjn A pl = bvN (s_sb A) (8 * pl + 16) 2 := if_pos c
        have p0 : fp0 A pl = 8 * pl + 16 + 2 := if_pos c
        refine ⟨fun y => absurd n2 y, fun _ => sp_M_oBn (n := 2) (by omega) hsu S1 R1 (fun k J b1 b2 => ?_) (fun k m J _ b1 b2 => ?_)⟩
        · rw [← p0] at b1 k
          have f2 := sm.tq fI.ro.la b2.ro.la
          have k : ¬ 8 * s_su A < fp0 A pl := by omega
          have := lM_la102 (P := P) hV hN' (StI_la hS f2) (HdI_la hI f2) b1 x (fun t g J a1 a2 a3 => H1 t (fo _ g k) y J a1 a2 (sm.tq f2 a3)) (fun g J a3 => H0 (fun t ht => by rw [fo _ g k] at ht; cases ht) J (sm.tq f2 a3))
          rw [j0] at this
          exact this
        · have f2 := sm.tq fI.ro.la b2.ro.la
          refine lM_la102b b1 (H0 (fun t ht => ?_) J f2)
          unfold fgO at ht
          rw [if_pos qq, if_pos (by omega)] at ht
          cases ht
    · have x := (nI_leI (by omega) (by omega)).mp x
      exact H0 (fun t ht => by have := (fgO_len ht).1.2.2; omega) I sm.rf
