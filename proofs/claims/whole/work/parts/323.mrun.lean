/-! a run written -/
def wMx (E : Nat → Int32) (i0 : Nat) : Nat → Nat
  | 0 => 1
  | k + 1 => if wo (fo (E (i0 + k))) ≤ wMx E i0 k then wMx E i0 k else wo (fo (E (i0 + k)))
def smB (E : Nat → Int32) (p i0 : Nat) : Nat → Nat
  | 0 => 0
  | k + 1 => smB E p i0 k + (fo (E (i0 + k)) / 2 ^ p + 1 + p)
def w_zs : Nat → wS → wS
  | 0, W => W
  | k + 1, W => w_zs k (w_bs 0 1 W)
def w_it (E : Nat → Int32) (p w i : Nat) (W : wS) : wS := if p = 14 then w_bs (E i) w W else w_bs (nI (fo (E i))) p (w_bs 1 1 (w_zs (fo (E i) / 2 ^ p) W))
def w_its (E : Nat → Int32) (p w i0 : Nat) : Nat → wS → wS
  | 0, W => W
  | k + 1, W => w_it E p w (i0 + k) (w_its E p w i0 k W)
def rcn (m a b : Nat) : Nat := (if m ≤ 8 * b then m else 8 * b) - 8 * a
def w_rn0 (p a b : Nat) (W : wS) : wS := w_bs (nI p) 4 (w_bs (nI (b - a - 1)) 3 W)
def w_rn (E : Nat → Int32) (m p a b : Nat) (W : wS) : wS := if p = 15 then w_rn0 p a b W else w_its E p (wMx E (8 * a) (rcn m a b)) (8 * a) (rcn m a b) (if p = 14 then w_bs (nI (wMx E (8 * a) (rcn m a b))) 5 (w_rn0 p a b W) else w_rn0 p a b W)
def itB (E : Nat → Int32) (p w i : Nat) : Nat := if p = 14 then w else fo (E i) / 2 ^ p + 1 + p
def isB (E : Nat → Int32) (p w i0 k : Nat) : Nat := if p = 14 then w * k else smB E p i0 k
def rnB (E : Nat → Int32) (m p a b : Nat) : Nat := if p = 15 then 7 else if p = 14 then 12 + wMx E (8 * a) (rcn m a b) * rcn m a b else 7 + smB E p (8 * a) (rcn m a b)
theorem wps_zs : ∀ (k : Nat) (W : wS), wOk W → wOk (w_zs k W) ∧ wps (w_zs k W) = wps W + k := by
  intro k
  induction k with
  | zero => intro W h; exact ⟨h, rfl⟩
  | succ k ih =>
    intro W h
    have b := wps_bs (v := 0) 1 W h
    have := ih (w_bs 0 1 W) b.1
    refine ⟨this.1, ?_⟩
    show wps (w_zs k (w_bs 0 1 W)) = _
    omega
theorem wps_it {E : Nat → Int32} {p w i : Nat} {W : wS} (h : wOk W) : wOk (w_it E p w i W) ∧ wps (w_it E p w i W) = wps W + itB E p w i := by
  unfold w_it itB
  by_cases q : p = 14
  · rw [if_pos q, if_pos q]; exact wps_bs w W h
  · rw [if_neg q, if_neg q]
    have a := wps_zs (fo (E i) / 2 ^ p) W h
    have b := wps_bs (v := 1) 1 _ a.1
    have c := wps_bs (v := nI (fo (E i))) p _ b.1
    exact ⟨c.1, by omega⟩
theorem isB_s {E : Nat → Int32} {p w i0 k : Nat} : isB E p w i0 (k + 1) = isB E p w i0 k + itB E p w (i0 + k) := by
  unfold isB itB
  by_cases q : p = 14
  · rw [if_pos q, if_pos q, if_pos q, Nat.mul_succ]
  · rw [if_neg q, if_neg q, if_neg q]; rfl
theorem wps_its {E : Nat → Int32} {p w i0 : Nat} : ∀ (k : Nat) (W : wS), wOk W → wOk (w_its E p w i0 k W) ∧ wps (w_its E p w i0 k W) = wps W + isB E p w i0 k := by
  intro k
  induction k with
  | zero =>
    intro W h
    refine ⟨h, ?_⟩
    unfold isB
    by_cases q : p = 14
    · rw [if_pos q]; rfl
    · rw [if_neg q]; rfl
  | succ k ih =>
    intro W h
    have a := ih W h
    have b := wps_it (E := E) (p := p) (w := w) (i := i0 + k) a.1
    have e := isB_s (E := E) (p := p) (w := w) (i0 := i0) (k := k)
    refine ⟨b.1, ?_⟩
    show wps (w_it E p w (i0 + k) (w_its E p w i0 k W)) = _
    omega
theorem wps_rn0 {p a b : Nat} {W : wS} (h : wOk W) : wOk (w_rn0 p a b W) ∧ wps (w_rn0 p a b W) = wps W + 7 := by
  have x := wps_bs (v := nI (b - a - 1)) 3 W h
  have y := wps_bs (v := nI p) 4 _ x.1
  exact ⟨y.1, by show wps (w_bs (nI p) 4 (w_bs (nI (b - a - 1)) 3 W)) = _; omega⟩
theorem wps_rn {E : Nat → Int32} {m p a b : Nat} {W : wS} (h : wOk W) : wOk (w_rn E m p a b W) ∧ wps (w_rn E m p a b W) = wps W + rnB E m p a b := by
  have r0 := wps_rn0 (p := p) (a := a) (b := b) h
  unfold w_rn rnB
  by_cases q : p = 15
  · rw [if_pos q, if_pos q]; exact r0
  · rw [if_neg q, if_neg q]
    by_cases q2 : p = 14
    · rw [if_pos q2, if_pos q2]
      have r1 := wps_bs (v := nI (wMx E (8 * a) (rcn m a b))) 5 _ r0.1
      have r2 := wps_its (E := E) (p := p) (w := wMx E (8 * a) (rcn m a b)) (i0 := 8 * a) (rcn m a b) _ r1.1
      refine ⟨r2.1, ?_⟩
      have e : isB E p (wMx E (8 * a) (rcn m a b)) (8 * a) (rcn m a b) = wMx E (8 * a) (rcn m a b) * rcn m a b := by unfold isB; rw [if_pos q2]
      omega
    · rw [if_neg q2, if_neg q2]
      have r2 := wps_its (E := E) (p := p) (w := wMx E (8 * a) (rcn m a b)) (i0 := 8 * a) (rcn m a b) _ r0.1
      refine ⟨r2.1, ?_⟩
      have e : isB E p (wMx E (8 * a) (rcn m a b)) (8 * a) (rcn m a b) = smB E p (8 * a) (rcn m a b) := by unfold isB; rw [if_neg q2]
      omega
theorem ErI_wr {E : Nat → Int32} {m : Nat} {I J : mm_I} (h : ErI E m I) (f : sm F_wr I J) : ErI E m J :=
  ⟨h.1, (f 58 21 rfl).trans h.2.1, (f 58 22 rfl).trans h.2.2.1, fun i hi => (f 68 i rfl).trans (h.2.2.2 i hi)⟩
theorem wMx_b {E : Nat → Int32} {m i0 : Nat} (hB : EB E m) : ∀ k, i0 + k ≤ m → 1 ≤ wMx E i0 k ∧ wMx E i0 k ≤ 24 := by
  intro k
  induction k with
  | zero => intro _; show 1 ≤ 1 ∧ 1 ≤ 24; omega
  | succ k ih =>
    intro hk
    have i1 := ih (by omega)
    have b := hB (i0 + k) (by omega)
    have hl := fo_lt b.1 b.2
    have hm : wo (fo (E (i0 + k))) ≤ 24 := wo_le (by omega) (by omega)
    have hp := wo_pos (fo (E (i0 + k)))
    have e : wMx E i0 (k + 1) = if wo (fo (E (i0 + k))) ≤ wMx E i0 k then wMx E i0 k else wo (fo (E (i0 + k))) := rfl
    rw [e]
    split <;> omega
theorem lM_pr161 {P : mm_I → Prop} {E : Nat → Int32} {m p i to w : Nat} (hB : EB E m) (hi : i < m) (hp : p < 14) : ∀ (r k : Nat) (W : wS) (I : mm_I), k + r = fo (E i) / 2 ^ p → WrI W I → wOk W → wps W + r + 1 + p ≤ 32000 → (∀ J, WrI (w_bs (nI (fo (E i))) p (w_bs 1 1 (w_zs r W))) J → sm F_wr I J → mm_W 191 117 [some (.ref 58), none, none, some (.int (nI p)), none, none, some (.int (nI to)), some (.int (nI w)), some (.int (nI (i + 1))), none, none] [] J (mm_qv 191 P)) → mm_W 191 161 [some (.ref 58), none, none, some (.int (nI p)), none, none, some (.int (nI to)), some (.int (nI w)), some (.int (nI i)), some (.int (nI (fo (E i)))), some (.int (nI k))] [] I (mm_qv 191 P) := by
  have b := hB i hi
  have hl := fo_lt b.1 b.2
  have hd := Nat.div_le_self (fo (E i)) (2 ^ p)
  intro r
  induction r with
  | zero =>
    intro k W I hk hW hO hc H
    refine c_M_putsRun_161 _ _ _ _ _ _ ?_
    rw [shrp (by omega) (by omega)]
    refine ⟨fun _ => ?_, fun h => absurd h (nI_nlt (by omega) (by omega))⟩
    have o1 := wps_bs (v := 1) 1 W hO
    refine sp_M_putsBits (k := 1) (by omega) hW hO (by omega) (fun J1 a1 a2 => sp_M_putsBits (by omega) a1 o1.1 (by omega) (fun J2 b1 b2 => ?_))
    rw [nI_1]
    exact H J2 b1 (sm.tq a2 b2)
  | succ r ih =>
    intro k W I hk hW hO hc H
    refine c_M_putsRun_161 _ _ _ _ _ _ ?_
    rw [shrp (by omega) (by omega)]
    refine ⟨fun h => absurd h (nI_ge (by omega) (by omega)), fun _ => ?_⟩
    have o1 := wps_bs (v := 0) 1 W hO
    refine sp_M_putsBits (k := 1) (by omega) hW hO (by omega) (fun J1 a1 a2 => ?_)
    rw [nI_1]
    exact ih (k + 1) _ J1 (by omega) a1 o1.1 (by omega) (fun J b1 b2 => H J b1 (sm.tq a2 b2))
theorem lM_pr117 {P : mm_I → Prop} {E : Nat → Int32} {m p i0 n w : Nat} {W0 : wS} {I : mm_I} (hE : ErI E m I) (hB : EB E m) (hn : i0 + n ≤ m) (hp : p < 15) (hw : 1 ≤ w ∧ w ≤ 24) (hO0 : wOk W0) (hc : wps W0 + isB E p w i0 n ≤ 32000)
    (H : ∀ J, WrI (w_its E p w i0 n W0) J → sm F_wr I J → P J) : ∀ (r k : Nat) (J : mm_I), k + r = n → WrI (w_its E p w i0 k W0) J → sm F_wr I J → mm_W 191 117 [some (.ref 58), none, none, some (.int (nI p)), none, none, some (.int (nI (i0 + n))), some (.int (nI w)), some (.int (nI (i0 + k))), none, none] [] J (mm_qv 191 P) := by
  have hm := hE.1
  have mono : ∀ j k, isB E p w i0 k ≤ isB E p w i0 (k + j) := fun j => by
    induction j with
    | zero => intro k; exact Nat.le_refl _
    | succ j ih =>
      intro k
      have := ih k
      have e := isB_s (E := E) (p := p) (w := w) (i0 := i0) (k := k + j)
      show _ ≤ isB E p w i0 (k + j + 1)
      omega
  intro r
  induction r with
  | zero =>
    intro k J hk hW hsm
    have hk : k = n := by omega
    subst hk
    exact c_M_putsRun_117 _ _ _ _ ⟨fun _ => H J hW hsm, fun h => absurd h (nI_nlt (by omega) (by omega))⟩
  | succ r ih =>
    intro k J hk hW hsm
    have hE' := ErI_wr hE hsm
    have v := vp_in_nI (n := i0 + k) (N := 64) (by omega) (by omega)
    have ok := wps_its (E := E) (p := p) (w := w) (i0 := i0) k W0 hO0
    have ms := mono r (k + 1)
    rw [show k + 1 + r = n by omega] at ms
    have es := isB_s (E := E) (p := p) (w := w) (i0 := i0) (k := k)
    have e68 : J 68 (nI (i0 + k)).toNatClampNeg = E (i0 + k) := by rw [nI_clamp (by omega)]; exact hE'.2.2.2 _ (by omega)
    have b := hB (i0 + k) (by omega)
    refine c_M_putsRun_117 _ _ _ _ ⟨fun h => absurd h (nI_ge (by omega) (by omega)), fun _ => ⟨fun q => ⟨v, ?_⟩, fun q => ⟨v, ?_⟩⟩⟩
    · have q0 : ¬ p = 14 := fun z => q (by rw [z]; rfl)
      have ei : itB E p w (i0 + k) = fo (E (i0 + k)) / 2 ^ p + 1 + p := by unfold itB; rw [if_neg q0]
      rw [e68]
      refine sp_M_folded b.1 b.2 (lM_pr161 hB (by omega) (by omega) (fo (E (i0 + k)) / 2 ^ p) 0 _ J (by omega) hW ok.1 (by omega) (fun J2 b1 b2 => ih (k + 1) J2 (by omega) ?_ (sm.tq hsm b2)))
      show WrI (w_it E p w (i0 + k) (w_its E p w i0 k W0)) J2
      unfold w_it
      rw [if_neg q0]
      exact b1
    · have q0 : p = 14 := (nI_eq (b := 14) (by omega) (by omega)).mp q
      have ei : itB E p w (i0 + k) = w := by unfold itB; rw [if_pos q0]
      rw [e68]
      refine sp_M_putsBits (by omega) hW ok.1 (by omega) (fun J2 b1 b2 => ?_)
      rw [nI_1]
      refine ih (k + 1) J2 (by omega) ?_ (sm.tq hsm b2)
      show WrI (w_it E p w (i0 + k) (w_its E p w i0 k W0)) J2
      unfold w_it
      rw [if_pos q0]
      exact b1
theorem lM_pr60 {P : mm_I → Prop} {E : Nat → Int32} {m p i0 n : Nat} {I : mm_I} (hE : ErI E m I) (hB : EB E m) (hn : i0 + n ≤ m)
    (H : ((¬ nI p = 14 → mm_W 191 117 [some (.ref 58), none, none, some (.int (nI p)), none, none, some (.int (nI (i0 + n))), some (.int (nI (wMx E i0 n))), some (.int (nI i0)), none, none] [] I (mm_qv 191 P)) ∧ (nI p = 14 → mm_Mv 188 [.ref 58, .int (nI (wMx E i0 n)), .int 5] I (fun I110 => mm_W 191 117 [some (.ref 58), none, none, some (.int (nI p)), none, none, some (.int (nI (i0 + n))), some (.int (nI (wMx E i0 n))), some (.int (nI i0)), none, none] [] I110 (mm_qv 191 P))))) : ∀ (r k : Nat), k + r = n → mm_W 191 60 [some (.ref 58), none, none, some (.int (nI p)), none, some (.int (nI i0)), some (.int (nI (i0 + n))), some (.int (nI (wMx E i0 k))), some (.int (nI (i0 + k))), none, none] [] I (mm_qv 191 P) := by
  have hm := hE.1
  intro r
  induction r with
  | zero =>
    intro k hk
    have hk : k = n := by omega
    subst hk
    exact c_M_putsRun_60 _ _ _ _ _ ⟨fun _ => H, fun h => absurd h (nI_nlt (by omega) (by omega))⟩
  | succ r ih =>
    intro k hk
    have v := vp_in_nI (n := i0 + k) (N := 64) (by omega) (by omega)
    have e68 : I 68 (nI (i0 + k)).toNatClampNeg = E (i0 + k) := by rw [nI_clamp (by omega)]; exact hE.2.2.2 _ (by omega)
    have b := hB (i0 + k) (by omega)
    have hl := fo_lt b.1 b.2
    have hw : wo (fo (E (i0 + k))) ≤ 24 := wo_le (by omega) (by omega)
    have wb := wMx_b (E := E) (i0 := i0) hB k (by omega)
    have e : wMx E i0 (k + 1) = if wo (fo (E (i0 + k))) ≤ wMx E i0 k then wMx E i0 k else wo (fo (E (i0 + k))) := rfl
    have nx := ih (k + 1) (by omega)
    refine c_M_putsRun_60 _ _ _ _ _ ⟨fun h => absurd h (nI_ge (by omega) (by omega)), fun _ => ⟨v, ?_⟩⟩
    rw [e68]
    refine sp_M_widthOf b.1 b.2 ⟨fun h => ?_, fun h => ⟨v, ?_⟩⟩
    · have h := (nI_leI (by omega) (by omega)).mp h
      rw [if_pos h] at e
      rw [e] at nx
      rw [nI_1]
      exact nx
    · have h := (nI_ltI (by omega) (by omega)).mp h
      rw [if_neg (by omega)] at e
      rw [e] at nx
      rw [e68, nI_1]
      exact sp_M_widthOf b.1 b.2 nx
theorem sp_M_putsRun {P : mm_I → Prop} {E : Nat → Int32} {m p a b : Nat} {x : Int32} {W : wS} {I : mm_I} (hE : ErI E m I) (hB : EB E m) (hab : a < b) (hb : 8 * b ≤ m + 7) (hp : p < 16) (hW : WrI W I) (hO : wOk W) (hc : wps W + rnB E m p a b ≤ 32000)
    (H : ∀ J, WrI (w_rn E m p a b W) J → sm F_wr I J → P J) : mm_Mv 191 [.ref 58, .int (nI a), .int (nI b), .int (nI p), .int x] I P := by
  have hm := hE.1
  have hr : 8 * a + rcn m a b ≤ m ∧ 8 * a + rcn m a b = (if m ≤ 8 * b then m else 8 * b) := by unfold rcn; split <;> omega
  have c7 : 7 ≤ rnB E m p a b := by unfold rnB; split; omega; split <;> omega
  have o1 := wps_bs (v := nI (b - a - 1)) 3 W hO
  have o2 := wps_rn0 (p := p) (a := a) (b := b) hO
  have e1 : nI b - nI a - 1 = nI (b - a - 1) := by
    rw [pk_sub (by omega)]
    exact pk_sub (b := 1) (by omega)
  refine e_M_putsRun _ _ _ _ ?_
  rw [e1]
  refine sp_M_putsBits (k := 3) (by omega) hW hO (by omega) (fun J1 a1 a2 => sp_M_putsBits (k := 4) (by omega) a1 o1.1 (by omega) (fun J2 b1 b2 => ?_))
  have f2 := sm.tq a2 b2
  have hE2 := ErI_wr hE f2
  have e8a : (8 : Int32) * nI a = nI (8 * a) := pk_mul 8 a
  have e8b : (8 : Int32) * nI b = nI (8 * b) := pk_mul 8 b
  have et : (if nI m ≤ nI (8 * b) then (nI m : Int32) else nI (8 * b)) = nI (8 * a + rcn m a b) := by
    rw [hr.2]
    by_cases q : m ≤ 8 * b
    · rw [if_pos q, if_pos (nI_le q (by omega))]
    · rw [if_neg q, if_neg (nI_ge (by omega) (by omega))]
  rw [hE2.2.1, e8a, e8b, et]
  refine ⟨fun q => ?_, fun q => ?_⟩
  · have q0 : ¬ p = 15 := fun z => q (by rw [z]; rfl)
    have wb := wMx_b (E := E) (i0 := 8 * a) hB (rcn m a b) hr.1
    refine lM_pr60 hE2 hB hr.1 ⟨fun z => ?_, fun z => ?_⟩ (rcn m a b) 0 (by omega)
    · have z0 : ¬ p = 14 := fun y => z (by rw [y]; rfl)
      have er : rnB E m p a b = 7 + smB E p (8 * a) (rcn m a b) := by unfold rnB; rw [if_neg q0, if_neg z0]
      have ei : isB E p (wMx E (8 * a) (rcn m a b)) (8 * a) (rcn m a b) = smB E p (8 * a) (rcn m a b) := by unfold isB; rw [if_neg z0]
      refine lM_pr117 (W0 := w_rn0 p a b W) hE2 hB hr.1 (by omega) wb o2.1 (by omega) (fun J c1 c2 => H J ?_ (sm.tq f2 c2)) (rcn m a b) 0 J2 (by omega) b1 sm.rf
      unfold w_rn
      rw [if_neg q0, if_neg z0]
      exact c1
    · have z0 : p = 14 := (nI_eq (b := 14) (by omega) (by omega)).mp z
      have er : rnB E m p a b = 12 + wMx E (8 * a) (rcn m a b) * rcn m a b := by unfold rnB; rw [if_neg q0, if_pos z0]
      have ei : isB E p (wMx E (8 * a) (rcn m a b)) (8 * a) (rcn m a b) = wMx E (8 * a) (rcn m a b) * rcn m a b := by unfold isB; rw [if_pos z0]
      have o3 := wps_bs (v := nI (wMx E (8 * a) (rcn m a b))) 5 _ o2.1
      refine sp_M_putsBits (k := 5) (W := w_rn0 p a b W) (by omega) b1 o2.1 (by omega) (fun J3 d1 d2 => ?_)
      refine lM_pr117 (W0 := w_bs (nI (wMx E (8 * a) (rcn m a b))) 5 (w_rn0 p a b W)) (ErI_wr hE2 d2) hB hr.1 (by omega) wb o3.1 (by omega) (fun J c1 c2 => H J ?_ (sm.tq f2 (sm.tq d2 c2))) (rcn m a b) 0 J3 (by omega) d1 sm.rf
      unfold w_rn
      rw [if_neg q0, if_pos z0]
      exact c1
  · have q0 : p = 15 := (nI_eq (b := 15) (by omega) (by omega)).mp q
    refine H J2 ?_ f2
    unfold w_rn
    rw [if_pos q0]
    exact b1
