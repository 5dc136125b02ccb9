/-! places only grow -/
theorem rdS_m {B : Nat → Int32} {u : Nat} {q : Nat × Nat} (hq : q.2 ≤ 1) : ∀ k, q.1 ≤ (rdS B u q k).2.1 ∧ (rdS B u q k).2.2 ≤ 1 := by
  intro k
  induction k with
  | zero => exact ⟨Nat.le_refl _, hq⟩
  | succ k ih =>
    have a := rdN_b (u := u) ih.2
    show q.1 ≤ (rdN u (rdS B u q k).2).1 ∧ (rdN u (rdS B u q k).2).2 ≤ 1
    exact ⟨by omega, a.2.2⟩
theorem rdZ_m {B : Nat → Int32} {u : Nat} : ∀ (r : Nat) (q : Nat × Nat) (z : Nat), q.2 ≤ 1 → q.1 ≤ (rdZ B u r q z).2.1 ∧ (rdZ B u r q z).2.2 ≤ 1 := by
  intro r
  induction r with
  | zero => intro q z h; exact ⟨Nat.le_refl _, h⟩
  | succ r ih =>
    intro q z h
    have e : rdZ B u (r + 1) q z = if q.2 ≠ 0 then (z, q) else if rdV B u q = 0 then rdZ B u r (rdN u q) (z + 1) else (z, rdN u q) := rfl
    have a := rdN_b (u := u) h
    rw [e]
    by_cases y : q.2 ≠ 0
    · rw [if_pos y]; exact ⟨Nat.le_refl _, h⟩
    · rw [if_neg y]
      by_cases x : rdV B u q = 0
      · rw [if_pos x]
        have b := ih (rdN u q) (z + 1) a.2.2
        exact ⟨by omega, b.2⟩
      · rw [if_neg x]; exact ⟨a.1, a.2.2⟩
theorem reN_m {B : Nat → Int32} {u by_ w p : Nat} : p ≤ (reN B u by_ w (p, 0)).1 := by
  unfold reN
  by_cases y : by_ = 15
  · rw [if_pos y]; exact Nat.le_refl _
  · rw [if_neg y]
    by_cases x : by_ = 14
    · rw [if_pos x]; exact (rdS_m (q := (p, 0)) (Nat.zero_le 1) w).1
    · rw [if_neg x]
      have a := rdZ_m (B := B) (u := u) 40000 (p, 0) 0 (Nat.zero_le 1)
      have b := rdS_m (B := B) (u := u) (q := (rdZs B u (p, 0)).2) a.2 by_
      have c : p ≤ (rdZs B u (p, 0)).2.1 := a.1
      omega
theorem erO_m {B : Nat → Int32} {u by_ w : Nat} : ∀ (k i p : Nat) (e : Nat → Int32) (s : Nat × (Nat → Int32)), erO B u by_ w k i p e = some s → p ≤ s.1 := by
  intro k
  induction k with
  | zero => intro i p e s h; cases h; exact Nat.le_refl _
  | succ k ih =>
    intro i p e s h
    have ee : erO B u by_ w (k + 1) i p e = if (reN B u by_ w (p, 0)).2 = 0 then erO B u by_ w k (i + 1) (reN B u by_ w (p, 0)).1 (upd e i (reV B u by_ w (p, 0))) else none := rfl
    rw [ee] at h
    by_cases q : (reN B u by_ w (p, 0)).2 = 0
    · rw [if_pos q] at h
      have a := ih _ _ _ _ h
      have b := reN_m (B := B) (u := u) (by_ := by_) (w := w) (p := p)
      omega
    · rw [if_neg q] at h; cases h
theorem rPl_m {B : Nat → Int32} {p : Nat} : p + 7 ≤ rPl B p := by
  unfold rPl
  split <;> omega
theorem ruO_m {B : Nat → Int32} {u od size : Nat} : ∀ (r g p : Nat) (e : Nat → Int32) (s : Nat × (Nat → Int32)), ruO B u od size r g p e = some s → p ≤ s.1 := by
  intro r
  induction r with
  | zero => intro g p e s h; cases h
  | succ r ih =>
    intro g p e s h
    have ee : ruO B u od size (r + 1) g p e = if (size - od + 7) / 8 ≤ g then some (p, e) else if 8 * u < rPl B p then none else if (size - od + 7) / 8 < g + rOf B p then none else match erO B u (rBy B p) (rWd B p) (rTop od size (g + rOf B p) - (od + 8 * g)) (od + 8 * g) (rPl B p) e with
      | none => none
      | some s => ruO B u od size r (g + rOf B p) s.1 s.2 := rfl
    rw [ee] at h
    by_cases q : (size - od + 7) / 8 ≤ g
    · rw [if_pos q] at h; cases h; exact Nat.le_refl _
    · rw [if_neg q] at h
      by_cases q2 : 8 * u < rPl B p
      · rw [if_pos q2] at h; cases h
      · rw [if_neg q2] at h
        by_cases q3 : (size - od + 7) / 8 < g + rOf B p
        · rw [if_pos q3] at h; cases h
        · rw [if_neg q3] at h
          cases he : erO B u (rBy B p) (rWd B p) (rTop od size (g + rOf B p) - (od + 8 * g)) (od + 8 * g) (rPl B p) e with
          | none => rw [he] at h; cases h
          | some t =>
            rw [he] at h
            have a := ih _ _ _ _ h
            have b := erO_m _ _ _ _ _ he
            have c := rPl_m (B := B) (p := p)
            omega
theorem rowO_m {B w s : Nat → Int32} {u size nb p : Nat} {t : Nat × (Nat → Int32)} (h : rowO B u w s size nb p = some t) : p + 4 ≤ t.1 := by
  unfold rowO at h
  by_cases q1 : 8 * u < p + 4
  · rw [if_pos q1] at h; cases h
  · rw [if_neg q1] at h
    by_cases q2 : 9 < bvN B p 4
    · rw [if_pos q2] at h; cases h
    · rw [if_neg q2] at h
      by_cases q3 : bvN B p 4 = 8
      · rw [if_pos q3] at h
        by_cases q4 : 8 * u < p + 4 + nb
        · rw [if_pos q4] at h; cases h
        · rw [if_neg q4] at h; cases h; exact Nat.le_add_right _ _
      · rw [if_neg q3] at h
        by_cases q5 : bvN B p 4 = 9
        · rw [if_pos q5] at h
          by_cases q4 : 8 * u < p + 4 + nb * size
          · rw [if_pos q4] at h; cases h
          · rw [if_neg q4] at h; cases h; exact Nat.le_add_right _ _
        · rw [if_neg q5] at h
          by_cases q6 : size ≤ o_od w (bvN B p 4)
          · rw [if_pos q6] at h; cases h
          · rw [if_neg q6] at h
            by_cases q7 : 8 * u < p + 4 + nb * o_od w (bvN B p 4)
            · rw [if_pos q7] at h; cases h
            · rw [if_neg q7] at h
              cases hr : ruO B u (o_od w (bvN B p 4)) size 9 0 (p + 4 + nb * o_od w (bvN B p 4)) (fun i => sgO B (p + 4 + nb * i) nb) with
              | none => rw [hr] at h; cases h
              | some t' =>
                rw [hr] at h
                cases h
                have a := ruO_m _ _ _ _ _ hr
                show p + 4 ≤ t'.1
                omega
/-! the head in numbers -/
def h_c (A : sA) : Nat := (s_sb A 2).toNatClampNeg
def h_w (A : sA) : Nat := (s_sb A 3).toNatClampNeg
def h_f (A : sA) : Nat := (s_sb A 4).toNatClampNeg
def h_m (A : sA) : Nat := (256 * s_sb A 5 + s_sb A 6).toNatClampNeg
def h_n (A : sA) : Nat := (h_m A + h_f A - 1) / h_f A
def h_z (A : sA) (k : Nat) : Nat := if h_f A ≤ h_m A - h_f A * k then h_f A else h_m A - h_f A * k
def n_b (A : sA) (place : Nat) : Nat := (s_sb A (place + 1)).toNatClampNeg
theorem VA.by {A : sA} (h : VA A) {i : Nat} (hi : i < s_su A) : 0 ≤ (s_sb A i).toInt ∧ (s_sb A i).toInt < 256 := h.2.2.2.2.2.2.2.2.2.2.2.1 i hi
theorem VA.byn {A : sA} (h : VA A) {i : Nat} (hi : i < s_su A) : s_sb A i = nI (s_sb A i).toNatClampNeg ∧ (s_sb A i).toNatClampNeg < 256 := by
  have b := h.by hi
  have e : s_sb A i = nI (s_sb A i).toInt.toNat := tI_nI (by omega) (by omega)
  have c : (s_sb A i).toNatClampNeg = (s_sb A i).toInt.toNat := by
    conv => lhs; rw [e]
    exact nI_clamp (by omega)
  rw [c]
  exact ⟨e, by omega⟩
abbrev HdN (A : sA) : Prop := (s_sb A 2 = nI (h_c A) ∧ (h_c A = 1 ∨ h_c A = 2)) ∧ (s_sb A 3 = nI (h_w A) ∧ (h_w A = 8 ∨ h_w A = 16)) ∧ (s_sb A 4 = nI (h_f A) ∧ 16 ≤ h_f A ∧ h_f A ≤ 64 ∧ h_f A % 8 = 0) ∧ (256 * s_sb A 5 + s_sb A 6 = nI (h_m A) ∧ h_m A ≤ 256) ∧ (∀ j, j < 3 → 0 ≤ (hSh (s_sb A) j).toInt ∧ (hSh (s_sb A) j).toInt ≤ 4) ∧ 21 ≤ s_su A
theorem hd_n {A : sA} (hV : VA A) (h : hdC A = 0) : HdN A := by
  obtain ⟨h21, ⟨⟨c1, c2⟩, c3, c4, c5⟩, c6⟩ := hdC_0 h
  have b2 := hV.byn (i := 2) (by omega)
  have b3 := hV.byn (i := 3) (by omega)
  have b4 := hV.byn (i := 4) (by omega)
  have b5 := hV.byn (i := 5) (by omega)
  have b6 := hV.byn (i := 6) (by omega)
  refine ⟨⟨b2.1, ?_⟩, ⟨b3.1, ?_⟩, ⟨b4.1, ?_⟩, ?_, fun j hj => ?_, h21⟩
  · rw [b2.1] at c1 c2
    have a1 := (nI_leI (a := 1) (by omega) (by omega)).mp c1
    have a2 := (nI_leI (b := 2) (by omega) (by omega)).mp c2
    show (s_sb A 2).toNatClampNeg = 1 ∨ (s_sb A 2).toNatClampNeg = 2
    omega
  · rw [b3.1] at c3
    show (s_sb A 3).toNatClampNeg = 8 ∨ (s_sb A 3).toNatClampNeg = 16
    rcases c3 with z | z
    · exact Or.inl ((nI_eq (b := 8) (by omega) (by omega)).mp z)
    · exact Or.inr ((nI_eq (b := 16) (by omega) (by omega)).mp z)
  · obtain ⟨n, n1, n2, n3, e⟩ := isF_nat c4
    have : h_f A = n := by
      unfold h_f
      rw [e, nI_clamp (by omega)]
    rw [this]
    exact ⟨n1, n2, n3⟩
  · have e : 256 * s_sb A 5 + s_sb A 6 = nI (256 * (s_sb A 5).toNatClampNeg + (s_sb A 6).toNatClampNeg) := by
      conv => lhs; rw [b5.1, b6.1]
      show nI 256 * _ + _ = _
      rw [pk_mul, nI_add]
    have e2 : h_m A = 256 * (s_sb A 5).toNatClampNeg + (s_sb A 6).toNatClampNeg := by
      unfold h_m
      rw [e, nI_clamp (by omega)]
    rw [e2]
    refine ⟨e, ?_⟩
    rw [e] at c5
    exact (nI_leI (b := 256) (by omega) (by omega)).mp c5
  · have b := hV.by (i := 10 + 4 * j) (by omega)
    have c := c6 j hj
    rw [le_I] at c
    exact ⟨b.1, c⟩
/-! rows joined back -/
def pLo (j : Nat) (a b : Int32) : Int32 := if j = 3 then (((2 * a) + (b &&& 1)) + b) >>> (1 &&& 31) else if j = 2 then a + b else a
def pRo (j : Nat) (a b : Int32) : Int32 := if j = 3 then ((((2 * a) + (b &&& 1)) + b) >>> (1 &&& 31)) - b else if j = 1 then a - b else b
abbrev inW (w : Nat) (v : Int32) : Prop := (if w = 8 then (-128 : Int32) else -32768) ≤ v ∧ v ≤ (if w = 8 then (127 : Int32) else 32767)
abbrev okP (c w j : Nat) (a b : Int32) : Prop := inW w (pLo j a b) ∧ (c = 2 → inW w (pRo j a b))
theorem pLo_I {j : Nat} (hj : j < 4) (a b : Int32) : (if nI j = 3 then ((((2 * a) + (b &&& 1)) + b) >>> (1 &&& 31) : Int32) else (if nI j = 2 then (a + b : Int32) else a)) = pLo j a b := by
  rcases (by omega : j = 0 ∨ j = 1 ∨ j = 2 ∨ j = 3) with rfl | rfl | rfl | rfl <;> rfl
theorem pRo_I {j : Nat} (hj : j < 4) (a b : Int32) : (if nI j = 3 then (((((2 * a) + (b &&& 1)) + b) >>> (1 &&& 31)) - b : Int32) else (if nI j = 1 then (a - b : Int32) else b)) = pRo j a b := by
  rcases (by omega : j = 0 ∨ j = 1 ∨ j = 2 ∨ j = 3) with rfl | rfl | rfl | rfl <;> rfl
def F_7 (a _ : Nat) : Bool := Nat.beq a 78
theorem half_I {w : Nat} (h : w = 8 ∨ w = 16) : -((1 : Int32) <<< ((nI w - 1) &&& 31)) = (if w = 8 then (-128 : Int32) else -32768) ∧ ((1 : Int32) <<< ((nI w - 1) &&& 31)) - 1 = (if w = 8 then (127 : Int32) else 32767) := by
  rcases h with rfl | rfl <;> decide +kernel
theorem lM_parts {P : Int32 → mm_I → Prop} {hc hw j size : Nat} {I : mm_I} (hj : j < 4) (hs : size ≤ 64) (h36 : I 58 36 = nI hw) (hhw : hw = 8 ∨ hw = 16) (h35 : I 58 35 = nI hc) (hhc : hc = 1 ∨ hc = 2)
    (H1 : (∀ i, i < size → okP hc hw j (I 78 i) (I 78 (64 + i))) → ∀ J, (∀ i, i < size → J 78 i = pLo j (I 78 i) (I 78 (64 + i)) ∧ J 78 (64 + i) = pRo j (I 78 i) (I 78 (64 + i))) → sm F_7 I J → P 1 J)
    (H0 : ¬ (∀ i, i < size → okP hc hw j (I 78 i) (I 78 (64 + i))) → ∀ J, sm F_7 I J → P 0 J) :
    ∀ (r k : Nat) (J : mm_I), k + r = size → (∀ i, i < k → okP hc hw j (I 78 i) (I 78 (64 + i))) → (∀ i, i < size → J 78 i = (if i < k then pLo j (I 78 i) (I 78 (64 + i)) else I 78 i) ∧ J 78 (64 + i) = (if i < k then pRo j (I 78 i) (I 78 (64 + i)) else I 78 (64 + i))) → sm F_7 I J → mm_W 207 2 [some (.ref 58), some (.int (nI j)), some (.int (nI size)), some (.int (nI k)), none, none, none, none, none] [] J (mm_qi 207 P) := by
  intro r
  induction r with
  | zero =>
    intro k J hk hok hJ hsm
    have hk : k = size := by omega
    subst hk
    refine c_M_parts_2 _ _ _ ⟨fun _ => H1 hok J (fun i hi => ?_) hsm, fun z => absurd z (nI_nlt (by omega) (by omega))⟩
    have := hJ i hi
    rw [if_pos hi, if_pos hi] at this
    exact this
  | succ r ih =>
    intro k J hk hok hJ hsm
    have e1 : (64 : Int32) + nI k = nI (64 + k) := nI_add 64 k
    have v1 := vp_in_nI (n := k) (N := 128) (by omega) (by omega)
    have v2 := vp_in_nI (n := 64 + k) (N := 128) (by omega) (by omega)
    have hh := half_I hhw
    have j0 := hJ k (by omega)
    rw [if_neg (by omega), if_neg (by omega)] at j0
    refine c_M_parts_2 _ _ _ ⟨fun z => absurd z (nI_ge (by omega) (by omega)), fun _ => ?_⟩
    rw [e1, nI_clamp (n := k) (by omega), nI_clamp (n := 64 + k) (by omega), j0.1, j0.2, pLo_I hj, pRo_I hj, hsm 58 36 rfl, h36, hh.1, hh.2, nI_1]
    refine ⟨v1, v2, sp_M_within ⟨fun z => H0 (fun y => (b1_0.mp z) (y k (by omega)).1) J hsm, fun z => ?_⟩⟩
    have z := b1_n z
    have nx : okP hc hw j (I 78 k) (I 78 (64 + k)) → mm_W 207 2 [some (.ref 58), some (.int (nI j)), some (.int (nI size)), some (.int (nI (k + 1))), none, none, none, none, none] [] (mm_up (mm_up J 78 k (pLo j (I 78 k) (I 78 (64 + k)))) 78 (64 + k) (pRo j (I 78 k) (I 78 (64 + k)))) (mm_qi 207 P) := fun y => by
      refine ih (k + 1) _ (by omega) (fun i hi => ?_) (fun i hi => ?_) ((hsm.up rfl).up rfl)
      · by_cases x : i = k
        · rw [x]; exact y
        · exact hok i (by omega)
      · have q := hJ i hi
        refine ⟨?_, ?_⟩
        · rw [up_a, up_a, if_neg (by omega)]
          by_cases x : i = k
          · rw [if_pos x, if_pos (by omega), x]
          · rw [if_neg x, q.1]
            by_cases y2 : i < k
            · rw [if_pos y2, if_pos (by omega)]
            · rw [if_neg y2, if_neg (by omega)]
        · rw [up_a, up_a]
          by_cases x : i = k
          · rw [if_pos (by omega), if_pos (by omega), x]
          · rw [if_neg (by omega), if_neg (by omega), q.2]
            by_cases y2 : i < k
            · rw [if_pos y2, if_pos (by omega)]
            · rw [if_neg y2, if_neg (by omega)]
    rw [hsm 58 35 rfl, h35]
    rcases hhc with c | c
    · have n2 : ¬ nI hc = 2 := by rw [c]; decide
      exact ⟨fun _ => ⟨v1, v2, nx ⟨z, fun y => by omega⟩⟩, fun y => absurd y n2⟩
    · have n2 : nI hc = 2 := by rw [c]; rfl
      refine ⟨fun y => absurd n2 y, fun _ => sp_M_within ⟨fun y => ⟨v1, v2, nx ⟨z, fun _ => b1_n y⟩⟩, fun y => H0 (fun x => (b1_0.mp y) ((x k (by omega)).2 c)) J hsm⟩⟩
theorem sp_M_parts {P : Int32 → mm_I → Prop} {hc hw j size : Nat} {I : mm_I} (hj : j < 4) (hs : size ≤ 64) (h36 : I 58 36 = nI hw) (hhw : hw = 8 ∨ hw = 16) (h35 : I 58 35 = nI hc) (hhc : hc = 1 ∨ hc = 2)
    (H1 : (∀ i, i < size → okP hc hw j (I 78 i) (I 78 (64 + i))) → ∀ J, (∀ i, i < size → J 78 i = pLo j (I 78 i) (I 78 (64 + i)) ∧ J 78 (64 + i) = pRo j (I 78 i) (I 78 (64 + i))) → sm F_7 I J → P 1 J)
    (H0 : ¬ (∀ i, i < size → okP hc hw j (I 78 i) (I 78 (64 + i))) → ∀ J, sm F_7 I J → P 0 J) : mm_Mi 207 [.ref 58, .int (nI j), .int (nI size)] I P :=
  e_M_parts _ _ (lM_parts hj hs h36 hhw h35 hhc H1 H0 size 0 I (by omega) (fun i hi => absurd hi (Nat.not_lt_zero i)) (fun i _ => by rw [if_neg (Nat.not_lt_zero i), if_neg (Nat.not_lt_zero i)]; exact ⟨rfl, rfl⟩) sm.rf)
