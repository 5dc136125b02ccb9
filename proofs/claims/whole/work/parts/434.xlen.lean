/-! the class: a frame at a place -/
def F_54 (a _ : Nat) : Bool := Nat.beq a 53 || Nat.beq a 54
theorem lX_part {P : mm_I → Prop} {j size : Nat} {I : mm_I} (hj : j < 4) (hs : size ≤ 64) (H : ∀ J, (∀ i, i < size → J 53 i = pLo j (I 53 i) (I 54 i) ∧ J 54 i = pRo j (I 53 i) (I 54 i)) → sm F_54 I J → P J) :
    ∀ (r k : Nat) (J : mm_I), k + r = size → (∀ i, i < size → J 53 i = (if i < k then pLo j (I 53 i) (I 54 i) else I 53 i) ∧ J 54 i = (if i < k then pRo j (I 53 i) (I 54 i) else I 54 i)) → sm F_54 I J → mm_W 34 2 [some (.ref 46), some (.int (nI j)), some (.int (nI size)), some (.int (nI k)), none, none] [] J (mm_qv 34 P) := by
  intro r
  induction r with
  | zero =>
    intro k J hk hJ hsm
    have hk : k = size := by omega
    subst hk
    refine c_Reader_part_2 _ _ _ ⟨fun _ => H J (fun i hi => ?_) hsm, fun z => absurd z (nI_nlt (by omega) (by omega))⟩
    have := hJ i hi
    rw [if_pos hi, if_pos hi] at this
    exact this
  | succ r ih =>
    intro k J hk hJ hsm
    have v := vp_in_nI (n := k) (N := 64) (by omega) (by omega)
    have j0 := hJ k (by omega)
    rw [if_neg (by omega), if_neg (by omega)] at j0
    have nx : ∀ K : mm_I, K 53 k = pLo j (I 53 k) (I 54 k) → K 54 k = pRo j (I 53 k) (I 54 k) → (∀ i, i ≠ k → K 53 i = J 53 i ∧ K 54 i = J 54 i) → sm F_54 I K → mm_W 34 2 [some (.ref 46), some (.int (nI j)), some (.int (nI size)), some (.int (nI (k + 1))), none, none] [] K (mm_qv 34 P) := fun K a b c d => by
      refine ih (k + 1) K (by omega) (fun i hi => ?_) d
      by_cases x : i = k
      · rw [x, if_pos (by omega), if_pos (by omega)]
        exact ⟨a, b⟩
      · have q := hJ i hi
        rw [(c i x).1, (c i x).2, q.1, q.2]
        by_cases y : i < k
        · rw [if_pos y, if_pos y, if_pos (by omega), if_pos (by omega)]
          exact ⟨rfl, rfl⟩
        · rw [if_neg y, if_neg y, if_neg (by omega), if_neg (by omega)]
          exact ⟨rfl, rfl⟩
    refine c_Reader_part_2 _ _ _ ⟨fun z => absurd z (nI_ge (by omega) (by omega)), fun _ => ⟨v, v, ?_⟩⟩
    rw [nI_1, nI_clamp (n := k) (by omega), j0.1, j0.2]
    have u3 : ∀ (K : mm_I) (x : Int32), (mm_up K 53 k x) 53 k = x := fun K x => by rw [up_a, if_pos rfl]
    rcases (by omega : j = 0 ∨ j = 1 ∨ j = 2 ∨ j = 3) with rfl | rfl | rfl | rfl
    · exact ⟨fun _ => ⟨fun _ => ⟨fun _ => nx J j0.1 j0.2 (fun _ _ => ⟨rfl, rfl⟩) hsm, fun z => absurd z (by decide)⟩, fun z => absurd z (by decide)⟩, fun z => absurd z (by decide)⟩
    · refine ⟨fun z => absurd rfl z, fun _ => ⟨v, nx _ ?_ ?_ (fun i hi => ⟨?_, ?_⟩) (hsm.up rfl)⟩⟩
      · rw [up_o (by decide)]; exact j0.1
      · rw [up_a, if_pos rfl]; rfl
      · rw [up_o (by decide)]
      · rw [up_a, if_neg hi]
    · refine ⟨fun _ => ⟨fun z => absurd rfl z, fun _ => ⟨v, nx _ ?_ ?_ (fun i hi => ⟨?_, ?_⟩) (hsm.up rfl)⟩⟩, fun z => absurd z (by decide)⟩
      · rw [up_a, if_pos rfl]; rfl
      · rw [up_o (by decide)]; exact j0.2
      · rw [up_a, if_neg hi]
      · rw [up_o (by decide)]
    · rw [u3]
      refine ⟨fun _ => ⟨fun _ => ⟨fun z => absurd rfl z, fun _ => ⟨v, v, v, nx _ ?_ ?_ (fun i hi => ⟨?_, ?_⟩) ((hsm.up rfl).up rfl)⟩⟩, fun z => absurd z (by decide)⟩, fun z => absurd z (by decide)⟩
      · rw [up_o (by decide), up_a, if_pos rfl]; rfl
      · rw [up_a, if_pos rfl]; rfl
      · rw [up_o (by decide), up_a, if_neg hi]
      · rw [up_a, if_neg hi, up_o (by decide)]
theorem sp_X_part {P : mm_I → Prop} {j size : Nat} {I : mm_I} (hj : j < 4) (hs : size ≤ 64) (H : ∀ J, (∀ i, i < size → J 53 i = pLo j (I 53 i) (I 54 i) ∧ J 54 i = pRo j (I 53 i) (I 54 i)) → sm F_54 I J → P J) : mm_Mv 34 [.ref 46, .int (nI j), .int (nI size)] I P :=
  e_Reader_part _ _ (lX_part hj hs H size 0 I (by omega) (fun i _ => by rw [if_neg (Nat.not_lt_zero i), if_neg (Nat.not_lt_zero i)]; exact ⟨rfl, rfl⟩) sm.rf)
theorem inW_X {w : Nat} {v : Int32} : inW w v ↔ (-(if w = 8 then (128 : Int32) else 32768)) ≤ v ∧ v < (if w = 8 then (128 : Int32) else 32768) := by
  unfold inW
  by_cases q : w = 8
  · rw [if_pos q, if_pos q, if_pos q, le_I, le_I, lt_I]
    have e1 : (-(128 : Int32)).toInt = -128 := rfl
    have e2 : (-128 : Int32).toInt = -128 := rfl
    have e3 : (127 : Int32).toInt = 127 := rfl
    have e4 : (128 : Int32).toInt = 128 := rfl
    omega
  · rw [if_neg q, if_neg q, if_neg q, le_I, le_I, lt_I]
    have e1 : (-(32768 : Int32)).toInt = -32768 := rfl
    have e2 : (-32768 : Int32).toInt = -32768 := rfl
    have e3 : (32767 : Int32).toInt = 32767 := rfl
    have e4 : (32768 : Int32).toInt = 32768 := rfl
    omega
theorem sp_X_isOfWidth {P : Int32 → mm_I → Prop} {vv n hw : Nat} {I : mm_I} (hv : vv2 vv) (hn : n ≤ 64) (h36 : I 46 3 = nI hw) (hhw : hw = 8 ∨ hw = 16) (H1 : (∀ i, i < n → inW hw (I vv i)) → P 1 I) (H0 : ¬ (∀ i, i < n → inW hw (I vv i)) → P 0 I) : mm_Mi 35 [.ref 46, .ref vv, .int (nI n)] I P := by
  refine e_Reader_isOfWidth hv _ ?_
  have e : (if (I 46 3) = 8 then (128 : Int32) else 32768) = (if hw = 8 then (128 : Int32) else 32768) := by
    rw [h36]
    rcases hhw with rfl | rfl <;> decide
  rw [e]
  have go : ∀ (r k : Nat), k + r = n → (∀ i, i < k → inW hw (I vv i)) → mm_W 35 21 [none, some (.ref vv), some (.int (nI n)), some (.int (if hw = 8 then (128 : Int32) else 32768)), some (.int (nI k))] [] I (mm_qi 35 P) := by
    intro r
    induction r with
    | zero =>
      intro k hk h
      have hk : k = n := by omega
      subst hk
      exact c_Reader_isOfWidth_21 hv _ _ _ ⟨fun _ => H1 h, fun z => absurd z (nI_nlt (by omega) (by omega))⟩
    | succ r ih =>
      intro k hk h
      have v := vp_in_nI (n := k) (N := 64) (by omega) (by omega)
      refine c_Reader_isOfWidth_21 hv _ _ _ ⟨fun z => absurd z (nI_ge (by omega) (by omega)), fun _ => ?_⟩
      rw [nI_1, nI_clamp (n := k) (by omega)]
      refine ⟨v, fun z => H0 (fun y => ?_), fun z => ⟨v, fun y => ih (k + 1) (by omega) (fun i hi => ?_), fun y => H0 (fun x => ?_)⟩⟩
      · exact absurd z (fa_nlt (inW_X.mp (y k (by omega))).1)
      · by_cases x : i = k
        · rw [x]; exact inW_X.mpr ⟨z, y⟩
        · exact h i (by omega)
      · exact absurd (inW_X.mp (x k (by omega))).2 (fa_nlt y)
  exact go n 0 (by omega) (fun i hi => absurd hi (Nat.not_lt_zero i))
/-- what the class's reader stands on -/
abbrev XxI (A : sA) (I : mm_I) : Prop := SxI (s_sb A) (s_su A) I ∧ HxI A I
theorem XxI_of {A : sA} {I : mm_I} (hN : HdN A) (h : XxI A I) : I 46 2 = nI (h_c A) ∧ I 46 3 = nI (h_w A) ∧ I 46 4 = nI (h_f A) ∧ I 46 5 = nI (h_m A) := ⟨h.2.1.trans hN.1.1, h.2.2.1.trans hN.2.1.1, h.2.2.2.1.trans hN.2.2.1.1, h.2.2.2.2.1.trans hN.2.2.2.1.1⟩
theorem sp_X_rframes {P : Int32 → mm_I → Prop} {A : sA} {I : mm_I} (hN : HdN A) (h : XxI A I) (H : P (nI (h_n A)) I) : mm_Mi 25 [.ref 46] I P := by
  have x := XxI_of hN h
  obtain ⟨_, _, ⟨_, f1, f2, _⟩, ⟨_, m1⟩, _⟩ := hN
  have e1 : nI (h_m A) + nI (h_f A) - 1 = nI (h_m A + h_f A - 1) := by
    rw [nI_add]
    exact pk_sub (b := 1) (by omega)
  refine e_Reader_frames ?_
  rw [x.2.2.1, x.2.2.2, e1, pk_div (by omega) (by omega) (by omega)]
  exact ⟨fun z => absurd z (nI_nle (by omega) (by omega)), fun _ => ⟨nI_ne0 (by omega) (by omega), H⟩⟩
theorem sp_X_numberAt {P : Int32 → mm_I → Prop} {A : sA} {I : mm_I} {pl : Nat} (hV : VA A) (hN : HdN A) (h : XxI A I) (hpl : pl ≤ 4000) (H1 : fgQ A pl → P (nI (n_b A pl)) I) (H0 : ¬ fgQ A pl → P (-1) I) : mm_Mi 26 [.ref 46, .int (nI pl)] I P := by
  have hsu := hV.su
  have n16 := h_n_b hN
  refine e_Reader_numberAt _ (sp_X_shas hsu h.1.1 ⟨fun z => H0 (fun y => (b1_0.mp z) ((plc (by omega) _).mpr ⟨pl, by have := y.1; omega, rfl⟩)), fun _ => sp_X_shas hsu h.1.1 ⟨fun z => H0 (fun y => (b1_0.mp z) ((plc (by omega) _).mpr ⟨pl + 1, by have := y.1; omega, nI_1 pl⟩)), fun z => ?_⟩⟩)
  have z := b1_n z
  rw [nI_1] at z ⊢
  obtain ⟨c, c1, c2⟩ := (plc (by omega) _).mp z
  have c2 := (nI_eq (by omega) (by omega)).mp c2
  have bn := hV.byn (i := pl + 1) (by omega)
  rw [nI_clamp (n := pl) (by omega), nI_clamp (n := pl + 1) (by omega), h.1.2 pl (by omega), h.1.2 (pl + 1) (by omega)]
  refine ⟨vp_in_nI (by omega) (by omega), fun q => ⟨vp_in_nI (by omega) (by omega), sp_X_rframes hN h ?_⟩, fun q => H0 (fun y => q y.2.1)⟩
  have nb : n_b A pl < 256 := bn.2
  have eb : s_sb A (pl + 1) = nI (n_b A pl) := bn.1
  rw [eb]
  by_cases y : n_b A pl < h_n A
  · rw [if_neg (nI_ge y (by omega))]
    exact H1 ⟨by omega, q, y⟩
  · rw [if_pos (nI_le (by omega) (by omega))]
    exact H0 (fun x => y x.2.2)
def F_lx (a j : Nat) : Bool := F_rx a j || F_54 a j
theorem F_lx_p {a j : Nat} (h : F_lx a j = false) : F_rx a j = false ∧ F_54 a j = false := by
  unfold F_lx at h
  rw [Bool.or_eq_false_iff] at h
  exact h
theorem sm.lxr {I J : mm_I} (f : sm F_rx I J) : sm F_lx I J := f.le (fun _ _ h => (F_lx_p h).1)
theorem sm.lx5 {I J : mm_I} (f : sm F_54 I J) : sm F_lx I J := f.le (fun _ _ h => (F_lx_p h).2)
theorem sm.lxv {vv : Nat} (hv : vv2 vv) {I J : mm_I} (f : sm (F_xv vv) I J) : sm F_lx I J := f.le (fun a j h => by
  have q := F_lx_p h
  have q2 := q.2
  unfold F_54 at q2
  rw [Bool.or_eq_false_iff] at q2
  unfold F_xv
  rw [q.1]
  rcases hv with rfl | rfl
  · exact q2.1
  · exact q2.2)
theorem XxI_lx {A : sA} {I J : mm_I} (h : XxI A I) (f : sm F_lx I J) : XxI A J := by
  have e1 : J 47 = I 47 := f.fn 47 (fun _ => rfl)
  have e2 : J 48 = I 48 := f.fn 48 (fun _ => rfl)
  have e3 : J 50 = I 50 := f.fn 50 (fun _ => rfl)
  have e4 : J 51 = I 51 := f.fn 51 (fun _ => rfl)
  have e5 : J 52 = I 52 := f.fn 52 (fun _ => rfl)
  obtain ⟨h1, h2, h3, h4, h5, h6⟩ := h
  refine ⟨?_, (f 46 2 rfl).trans h2, (f 46 3 rfl).trans h3, (f 46 4 rfl).trans h4, (f 46 5 rfl).trans h5, ?_⟩
  · unfold SxI
    rw [e1, e2]
    exact h1
  · unfold RXq at h6 ⊢
    rw [e3, e4, e5]
    exact h6
