/-! numbers, errors and runs read: what comes of them -/
theorem btO_01 (B : Nat → Int32) (p : Nat) : ∃ b, b < 2 ∧ btO B p = nI b := by
  obtain ⟨j, hj, e⟩ := pk_andE (B (p / 8) >>> ((7 - nI (p % 8)) &&& 31)) (m := 1) 1 rfl
  exact ⟨j, hj, e⟩
theorem dbl {n b : Nat} : (2 : Int32) * nI n + nI b = nI (2 * n + b) := by
  show nI 2 * _ + _ = _
  rw [pk_mul, nI_add]
theorem bvO_n (B : Nat → Int32) (p : Nat) : ∀ k, ∃ n, n < 2 ^ k ∧ bvO B p k = nI n := by
  intro k
  induction k with
  | zero => exact ⟨0, by decide, rfl⟩
  | succ k ih =>
    obtain ⟨n, h1, h2⟩ := ih
    obtain ⟨b, h3, h4⟩ := btO_01 B (p + k)
    refine ⟨2 * n + b, by rw [Nat.pow_succ]; omega, ?_⟩
    show 2 * bvO B p k + btO B (p + k) = _
    rw [h2, h4, dbl]
theorem rdV_01 (B : Nat → Int32) (u : Nat) (q : Nat × Nat) : ∃ b, b < 2 ∧ rdV B u q = nI b := by
  unfold rdV
  by_cases z : q.2 ≠ 0 ∨ 8 * u ≤ q.1
  · rw [if_pos z]; exact ⟨0, by omega, rfl⟩
  · rw [if_neg z]; exact btO_01 B q.1
theorem rdS_n (B : Nat → Int32) (u : Nat) (q : Nat × Nat) : ∀ k, ∃ n, n < 2 ^ k ∧ (rdS B u q k).1 = nI n := by
  intro k
  induction k with
  | zero => exact ⟨0, by decide, rfl⟩
  | succ k ih =>
    obtain ⟨n, h1, h2⟩ := ih
    obtain ⟨b, h3, h4⟩ := rdV_01 B u (rdS B u q k).2
    refine ⟨2 * n + b, by rw [Nat.pow_succ]; omega, ?_⟩
    show 2 * (rdS B u q k).1 + rdV B u (rdS B u q k).2 = _
    rw [h2, h4, dbl]
/-- bits as a number -/
def bvN (B : Nat → Int32) (p k : Nat) : Nat := (bvO B p k).toNatClampNeg
theorem bvN_e {B : Nat → Int32} {p k : Nat} (hk : k ≤ 31) : bvO B p k = nI (bvN B p k) ∧ bvN B p k < 2 ^ k := by
  obtain ⟨n, h1, h2⟩ := bvO_n B p k
  have h3 : 2 ^ k ≤ 2 ^ 31 := Nat.pow_le_pow_right (by omega) hk
  have e : bvN B p k = n := by
    unfold bvN
    rw [h2, nI_clamp (by omega)]
  rw [e]
  exact ⟨h2, h1⟩
theorem sp_M_oBn {P : Int32 → mm_I → Prop} {B : Nat → Int32} {u n p : Nat} {I : mm_I} (hn : n ≤ 31) (hu : u ≤ 4000) (hS : StI B u I) (hR : RdO u (some p) I) (H1 : p + n ≤ 8 * u → ∀ J, RdO u (some (p + n)) J → sm F_rd I J → P (nI (bvN B p n)) J) (H0 : ¬ p + n ≤ 8 * u → ∀ m J, m < 2 ^ n → RdO u none J → sm F_rd I J → P (nI m) J) : mm_Mi 202 [.ref 58, .int (nI n)] I P := by
  obtain ⟨h1, h2, h3⟩ := hR
  refine sp_M_bits (q := (p, 0)) (by omega) hu hS (by show p ≤ 32000; omega) (by show 0 ≤ 1; omega) ⟨h1, h2⟩ (fun J a1 a2 => ?_)
  by_cases q : p + n ≤ 8 * u
  · rw [rdS_ok n q] at a1 ⊢
    have := H1 q J ⟨a1.1, a1.2, q⟩ a2
    rw [← (bvN_e hn).1] at this
    exact this
  · have e := rdS_no (B := B) h3 n (by omega)
    obtain ⟨m, m1, m2⟩ := rdS_n B u (p, 0) n
    rw [m2]
    refine H0 q m J m1 ?_ a2
    show J 58 40 = 1
    rw [a1.2, e]
    rfl
/-- errors read: a place, the errors so far -/
def erO (B : Nat → Int32) (u by_ w : Nat) : Nat → Nat → Nat → (Nat → Int32) → Option (Nat × (Nat → Int32))
  | 0, _, p, e => some (p, e)
  | k + 1, i, p, e => if (reN B u by_ w (p, 0)).2 = 0 then erO B u by_ w k (i + 1) (reN B u by_ w (p, 0)).1 (upd e i (reV B u by_ w (p, 0))) else none
abbrev rOf (B : Nat → Int32) (p : Nat) : Nat := bvN B p 3 + 1
abbrev rBy (B : Nat → Int32) (p : Nat) : Nat := bvN B (p + 3) 4
def rWd (B : Nat → Int32) (p : Nat) : Nat := if rBy B p = 14 then bvN B (p + 7) 5 else 0
def rPl (B : Nat → Int32) (p : Nat) : Nat := if rBy B p = 14 then p + 12 else p + 7
def rTop (od size g : Nat) : Nat := if size ≤ od + 8 * g then size else od + 8 * g
def ruO (B : Nat → Int32) (u od size : Nat) : Nat → Nat → Nat → (Nat → Int32) → Option (Nat × (Nat → Int32))
  | 0, _, _, _ => none
  | r + 1, g, p, e => if (size - od + 7) / 8 ≤ g then some (p, e) else if 8 * u < rPl B p then none else if (size - od + 7) / 8 < g + rOf B p then none else match erO B u (rBy B p) (rWd B p) (rTop od size (g + rOf B p) - (od + 8 * g)) (od + 8 * g) (rPl B p) e with
    | none => none
    | some s => ruO B u od size r (g + rOf B p) s.1 s.2
def F_ro (a j : Nat) : Bool := Nat.beq a 79 || F_rd a j
theorem sm.ro {I J : mm_I} (f : sm F_rd I J) : sm F_ro I J := f.le (fun a j h => by
  unfold F_ro at h
  rw [Bool.or_eq_false_iff] at h
  exact h.2)
theorem StI_ro {B : Nat → Int32} {u : Nat} {I J : mm_I} (h : StI B u I) (f : sm F_ro I J) : StI B u J := ⟨(f 58 15 rfl).trans h.1, fun i hi => (f 66 i rfl).trans (h.2 i hi)⟩
theorem RdO_up {u : Nat} {o : Option Nat} {I : mm_I} {i : Nat} {v : Int32} (h : RdO u o I) : RdO u o (mm_up I 79 i v) := by
  cases o with
  | none => exact h
  | some p => exact h
/-- behind a run -/
theorem lM_rr13b {P : mm_I → Prop} {I : mm_I} {x1 x2 x3 x4 : Int32} (h : I 58 40 = 1) (H : P I) : mm_W 205 13 [some (.ref 58), some (.int x1), some (.int x2), some (.int x3), some (.int x4), none, none, none, none, none, none] [] I (mm_qv 205 P) :=
  c_M_readsRuns_13 _ _ _ _ ⟨fun _ => H, fun _ => ⟨fun _ => H, fun z => by rw [h] at z; exact absurd z (by decide)⟩⟩
theorem lM_rr117b {P : mm_I → Prop} {I : mm_I} {x1 x2 x3 x4 x5 x6 x7 x9 x10 : Int32} (h : I 58 40 = 1) (H : P I) : mm_W 205 117 [some (.ref 58), some (.int x1), some (.int x2), some (.int x3), some (.int x4), some (.int x5), some (.int x6), some (.int x7), none, some (.int x9), some (.int x10)] [] I (mm_qv 205 P) :=
  c_M_readsRuns_117 _ _ _ _ _ _ _ _ _ ⟨fun _ => lM_rr13b h H, fun _ => ⟨fun _ => lM_rr13b h H, fun z => by rw [h] at z; exact absurd z (by decide)⟩⟩
theorem rdO_p {u p : Nat} (hu : u ≤ 4000) (hp : p ≤ 8 * u) : rdO u (p, 0) := ⟨by show 0 ≤ 1; omega, by show p ≤ 32000; omega, Or.inr hp⟩
theorem lM_rr117 {P : mm_I → Prop} {B : Nat → Int32} {u by_ w : Nat} {x1 x2 x3 x4 x5 : Int32} {to : Nat} (hu : u ≤ 4000) (hby : by_ < 16) (hw : w ≤ 40) (hto : to ≤ 64) : ∀ (k i p : Nat) (e : Nat → Int32) (I : mm_I), i + k = to → StI B u I → RdO u (some p) I → (∀ j, j < i → I 79 j = e j) →
    (∀ p' e', erO B u by_ w k i p e = some (p', e') → ∀ J, RdO u (some p') J → (∀ j, j < to → J 79 j = e' j) → sm F_ro I J → mm_W 205 13 [some (.ref 58), some (.int x1), some (.int x2), some (.int x3), some (.int (x4 + x5)), none, none, none, none, none, none] [] J (mm_qv 205 P)) →
    (erO B u by_ w k i p e = none → ∀ J, RdO u none J → sm F_ro I J → P J) → mm_W 205 117 [some (.ref 58), some (.int x1), some (.int x2), some (.int x3), some (.int x4), some (.int x5), some (.int (nI by_)), some (.int (nI w)), none, some (.int (nI to)), some (.int (nI i))] [] I (mm_qv 205 P) := by
  intro k
  induction k with
  | zero =>
    intro i p e I hi hS hR hE H1 H0
    have hi : i = to := by omega
    subst hi
    exact c_M_readsRuns_117 _ _ _ _ _ _ _ _ _ ⟨fun _ => H1 p e rfl I hR hE sm.rf, fun z => absurd z (nI_nlt (by omega) (by omega))⟩
  | succ k ih =>
    intro i p e I hi hS hR hE H1 H0
    refine c_M_readsRuns_117 _ _ _ _ _ _ _ _ _ ⟨fun z => absurd z (nI_ge (by omega) (by omega)), fun _ => ⟨fun z => absurd hR.2.1 z, fun _ => ?_⟩⟩
    have hq := rdO_p hu hR.2.2
    have hq2 := rdO_e (B := B) (p := by_) (w := w) hu hq
    refine sp_M_readError hu hby hw hq hS ⟨hR.1, hR.2.1⟩ (fun J a1 a2 => ⟨vp_in_nI (by omega) (by omega), ?_⟩)
    rw [nI_1, nI_clamp (n := i) (by omega)]
    have ee : erO B u by_ w (k + 1) i p e = if (reN B u by_ w (p, 0)).2 = 0 then erO B u by_ w k (i + 1) (reN B u by_ w (p, 0)).1 (upd e i (reV B u by_ w (p, 0))) else none := rfl
    have f1 : sm F_ro I (mm_up J 79 i (reV B u by_ w (p, 0))) := a2.ro.up rfl
    by_cases q : (reN B u by_ w (p, 0)).2 = 0
    · rw [if_pos q] at ee
      have r1 : RdO u (some (reN B u by_ w (p, 0)).1) J := ⟨a1.1, by rw [a1.2, q]; rfl, by rcases hq2.2.2 with z | z; exact absurd q z; exact z⟩
      refine ih (i + 1) _ (upd e i (reV B u by_ w (p, 0))) _ (by omega) (StI_ro hS f1) (RdO_up r1) (fun j hj => ?_) (fun p' e' h J2 b1 b2 b3 => H1 p' e' (ee.trans h) J2 b1 b2 (sm.tq f1 b3)) (fun h J2 b1 b3 => H0 (ee.trans h) J2 b1 (sm.tq f1 b3))
      rw [up_a]
      unfold upd
      by_cases z : j = i
      · rw [if_pos z, if_pos z]
      · rw [if_neg z, if_neg z, a2 79 j rfl]
        exact hE j (by omega)
    · rw [if_neg q] at ee
      have n1 : (reN B u by_ w (p, 0)).2 = 1 := by have := hq2.1; omega
      have r0 : J 58 40 = 1 := by rw [a1.2, n1]; rfl
      exact lM_rr117b (I := mm_up J 79 i (reV B u by_ w (p, 0))) r0 (H0 ee _ r0 f1)
theorem rPl_ok {B : Nat → Int32} {u p : Nat} (h : ¬ 8 * u < rPl B p) : p + 7 ≤ 8 * u ∧ (rBy B p = 14 → p + 12 ≤ 8 * u) := by
  unfold rPl at h
  by_cases q : rBy B p = 14
  · rw [if_pos q] at h
    exact ⟨by omega, fun _ => by omega⟩
  · rw [if_neg q] at h
    exact ⟨by omega, fun z => absurd z q⟩
theorem rPl_no {B : Nat → Int32} {u p : Nat} (h : ¬ p + 7 ≤ 8 * u) : 8 * u < rPl B p := by
  unfold rPl
  split <;> omega
theorem rTop_I {od size g : Nat} (ho : od + 8 * g < 2147483648) (hs : size < 2147483648) : (if nI size ≤ nI (od + 8 * g) then (nI size : Int32) else nI (od + 8 * g)) = nI (rTop od size g) := by
  unfold rTop
  by_cases q : size ≤ od + 8 * g
  · rw [if_pos q, if_pos (nI_le q (by omega))]
  · rw [if_neg q, if_neg (nI_ge (by omega) (by omega))]
theorem lM_rr13 {P : mm_I → Prop} {B : Nat → Int32} {u od size : Nat} (hu : u ≤ 4000) (hs : size ≤ 64) (ho : od ≤ size) : ∀ (r g p : Nat) (e : Nat → Int32) (I : mm_I), (size - od + 7) / 8 < g + r → g ≤ (size - od + 7) / 8 → StI B u I → RdO u (some p) I → (∀ j, j < rTop od size g → I 79 j = e j) →
    (∀ p' e', ruO B u od size r g p e = some (p', e') → ∀ J, RdO u (some p') J → (∀ j, j < size → J 79 j = e' j) → sm F_ro I J → P J) →
    (ruO B u od size r g p e = none → ∀ J, RdO u none J → sm F_ro I J → P J) → mm_W 205 13 [some (.ref 58), some (.int (nI od)), some (.int (nI size)), some (.int (nI ((size - od + 7) / 8))), some (.int (nI g)), none, none, none, none, none, none] [] I (mm_qv 205 P) := by
  intro r
  induction r with
  | zero => intro g p e I hr hg; omega
  | succ r ih =>
    intro g p e I hr hg hS hR hE H1 H0
    have ee : ruO B u od size (r + 1) g p e = if (size - od + 7) / 8 ≤ g then some (p, e) else if 8 * u < rPl B p then none else if (size - od + 7) / 8 < g + rOf B p then none else match erO B u (rBy B p) (rWd B p) (rTop od size (g + rOf B p) - (od + 8 * g)) (od + 8 * g) (rPl B p) e with
      | none => none
      | some s => ruO B u od size r (g + rOf B p) s.1 s.2 := rfl
    by_cases q : (size - od + 7) / 8 ≤ g
    · rw [if_pos q] at ee
      refine c_M_readsRuns_13 _ _ _ _ ⟨fun _ => H1 p e ee I hR (fun j hj => hE j ?_) sm.rf, fun z => absurd z (nI_nlt (by omega) (by omega))⟩
      unfold rTop
      split <;> omega
    · rw [if_neg q] at ee
      refine c_M_readsRuns_13 _ _ _ _ ⟨fun z => absurd z (nI_ge (by omega) (by omega)), fun _ => ⟨fun z => absurd hR.2.1 z, fun _ => ?_⟩⟩
      refine sp_M_oBn (n := 3) (by omega) hu hS hR (fun c1 J1 a1 a2 => ?_) (fun c1 m J1 _ a1 a2 => ?_)
      · have S1 := StI_rd hS a2
        refine sp_M_oBn (n := 4) (by omega) hu S1 a1 (fun c2 J2 b1 b2 => ?_) (fun c2 m J2 _ b1 b2 => ?_)
        · have S2 := StI_rd S1 b2
          have f2 := sm.tq a2 b2
          have v3 := (bvN_e (B := B) (p := p) (k := 3) (by omega)).2
          have v4 := (bvN_e (B := B) (p := p + 3) (k := 4) (by omega)).2
          have v5 := (bvN_e (B := B) (p := p + 7) (k := 5) (by omega)).2
          have e7 : p + 3 + 4 = p + 7 := by omega
          have ro9 : 1 ≤ rOf B p ∧ rOf B p ≤ 8 := by
            show 1 ≤ bvN B p 3 + 1 ∧ bvN B p 3 + 1 ≤ 8
            omega
          rw [e7] at b1 c2
          have eo : nI (bvN B p 3) + 1 = nI (rOf B p) := nI_1 _
          have eg : nI g + nI (rOf B p) = nI (g + rOf B p) := nI_add _ _
          have et : (nI od + 8 * nI (g + rOf B p)) = nI (od + 8 * (g + rOf B p)) := by
            show nI od + nI 8 * _ = _
            rw [pk_mul, nI_add]
          have ef : (nI od + 8 * nI g) = nI (od + 8 * g) := by
            show nI od + nI 8 * _ = _
            rw [pk_mul, nI_add]
          have e14 : (nI (bvN B (p + 3) 4) = 14) ↔ rBy B p = 14 := nI_eq (b := 14) (by omega) (by omega)
          rw [eo, eg, et, ef, rTop_I (by omega) (by omega)]
          by_cases c3 : (size - od + 7) / 8 < g + rOf B p
          · -- more groups than there are
            have e0 : ruO B u od size (r + 1) g p e = none := by
              rw [ee]
              by_cases y : 8 * u < rPl B p
              · rw [if_pos y]
              · rw [if_neg y, if_pos c3]
            refine ⟨fun z => absurd z (nI_ge (by omega) (by omega)), fun _ => ⟨fun _ => lM_rr117b rfl (H0 e0 _ rfl (f2.ro.up rfl)), fun _ => ?_⟩⟩
            exact sp_M_bits0 (n := 5) (by omega) rfl (fun v J3 d1 d2 => lM_rr117b d1 (H0 e0 J3 d1 (sm.tq (f2.ro.up rfl) d2.ro)))
          · rw [if_neg c3] at ee
            have go : ∀ J3 : mm_I, RdO u (some (rPl B p)) J3 → sm F_rd I J3 → mm_W 205 117 [some (.ref 58), some (.int (nI od)), some (.int (nI size)), some (.int (nI ((size - od + 7) / 8))), some (.int (nI g)), some (.int (nI (rOf B p))), some (.int (nI (bvN B (p + 3) 4))), some (.int (nI (rWd B p))), none, some (.int (nI (rTop od size (g + rOf B p)))), some (.int (nI (od + 8 * g)))] [] J3 (mm_qv 205 P) := fun J3 d1 d2 => by
              have np : ¬ 8 * u < rPl B p := by have := d1.2.2; omega
              rw [if_neg np] at ee
              have t1 : od + 8 * g ≤ rTop od size (g + rOf B p) ∧ rTop od size (g + rOf B p) ≤ 64 := by
                unfold rTop
                split <;> omega
              have t2 : rTop od size g = od + 8 * g := by
                unfold rTop
                rw [if_neg (by omega)]
              have w40 : rWd B p ≤ 40 := by
                unfold rWd
                split <;> omega
              refine lM_rr117 hu (by omega) w40 t1.2 (rTop od size (g + rOf B p) - (od + 8 * g)) _ _ e J3 (by omega) (StI_rd hS d2) d1 (fun j hj => ?_) (fun p' e' h J4 g1 g2 g3 => ?_) (fun h J4 g1 g3 => ?_)
              · rw [d2 79 j rfl]
                exact hE j (by omega)
              · rw [h] at ee
                rw [eg]
                have f4 := sm.tq d2.ro g3
                exact ih (g + rOf B p) p' e' J4 (by omega) (by omega) (StI_ro hS f4) g1 g2 (fun p2 e2 h2 J5 k1 k2 k3 => H1 p2 e2 (ee.trans h2) J5 k1 k2 (sm.tq f4 k3)) (fun h2 J5 k1 k3 => H0 (ee.trans h2) J5 k1 (sm.tq f4 k3))
              · rw [h] at ee
                exact H0 ee J4 g1 (sm.tq d2.ro g3)
            refine ⟨fun _ => ⟨fun z => ?_, fun z => ?_⟩, fun z => absurd z (nI_nlt (by omega) (by omega))⟩
            · have z1 : ¬ rBy B p = 14 := fun y => z (e14.mpr y)
              have w0 : rWd B p = 0 := if_neg z1
              have p0 : rPl B p = p + 7 := if_neg z1
              have := go J2 (by rw [p0]; exact b1) f2
              rw [w0] at this
              exact this
            · have z1 := e14.mp z
              have w0 : rWd B p = bvN B (p + 7) 5 := if_pos z1
              have p0 : rPl B p = p + 12 := if_pos z1
              refine sp_M_oBn (n := 5) (by omega) hu S2 b1 (fun c4 J3 d1 d2 => ?_) (fun c4 m J3 _ d1 d2 => ?_)
              · have := go J3 (by rw [p0]; exact d1) (sm.tq f2 d2)
                rw [w0] at this
                exact this
              · have e0 : ruO B u od size (r + 1) g p e = none := by
                  rw [ee, if_pos (by rw [p0]; omega)]
                exact lM_rr117b d1 (H0 e0 J3 d1 (sm.tq f2 d2).ro)
        · have e0 : ruO B u od size (r + 1) g p e = none := by
            rw [ee, if_pos (rPl_no (by omega))]
          have f2 := sm.tq a2 b2
          refine ⟨fun _ => ⟨fun _ => lM_rr117b b1 (H0 e0 J2 b1 f2.ro), fun _ => ?_⟩, fun _ => ⟨fun _ => lM_rr117b rfl (H0 e0 _ rfl (f2.ro.up rfl)), fun _ => ?_⟩⟩
          · exact sp_M_bits0 (n := 5) (by omega) b1 (fun v J3 d1 d2 => lM_rr117b d1 (H0 e0 J3 d1 (sm.tq f2 d2).ro))
          · exact sp_M_bits0 (n := 5) (by omega) rfl (fun v J3 d1 d2 => lM_rr117b d1 (H0 e0 J3 d1 (sm.tq (f2.ro.up rfl) d2.ro)))
      · have e0 : ruO B u od size (r + 1) g p e = none := by
          rw [ee, if_pos (rPl_no (by omega))]
        refine sp_M_bits0 (n := 4) (by omega) a1 (fun v J2 b1 b2 => ?_)
        have f2 := sm.tq a2 b2
        refine ⟨fun _ => ⟨fun _ => lM_rr117b b1 (H0 e0 J2 b1 f2.ro), fun _ => ?_⟩, fun _ => ⟨fun _ => lM_rr117b rfl (H0 e0 _ rfl (f2.ro.up rfl)), fun _ => ?_⟩⟩
        · exact sp_M_bits0 (n := 5) (by omega) b1 (fun v J3 d1 d2 => lM_rr117b d1 (H0 e0 J3 d1 (sm.tq f2 d2).ro))
        · exact sp_M_bits0 (n := 5) (by omega) rfl (fun v J3 d1 d2 => lM_rr117b d1 (H0 e0 J3 d1 (sm.tq (f2.ro.up rfl) d2.ro)))
theorem sp_M_readsRuns {P : mm_I → Prop} {B : Nat → Int32} {u od size p : Nat} {e : Nat → Int32} {I : mm_I} (hu : u ≤ 4000) (hs : size ≤ 64) (ho : od < size) (hS : StI B u I) (hR : RdO u (some p) I) (hE : ∀ j, j < od → I 79 j = e j)
    (H1 : ∀ p' e', ruO B u od size 9 0 p e = some (p', e') → ∀ J, RdO u (some p') J → (∀ j, j < size → J 79 j = e' j) → sm F_ro I J → P J)
    (H0 : ruO B u od size 9 0 p e = none → ∀ J, RdO u none J → sm F_ro I J → P J) : mm_Mv 205 [.ref 58, .int (nI od), .int (nI size)] I P := by
  refine e_M_readsRuns _ _ ?_
  have e0 : (nI size - nI od + 7) / 8 = nI ((size - od + 7) / 8) := by
    rw [pk_sub (by omega)]
    show (_ + nI 7) / nI 8 = _
    rw [nI_add, pk_div (by omega) (by omega) (by omega)]
  rw [e0]
  refine lM_rr13 hu hs (by omega) 9 0 p e I (by omega) (by omega) hS hR (fun j hj => hE j ?_) H1 H0
  unfold rTop at hj
  split at hj <;> omega
theorem sp_M_readsRuns0 {P : mm_I → Prop} {x1 x2 : Int32} {I : mm_I} (h : I 58 40 = 1) (H : P I) : mm_Mv 205 [.ref 58, .int x1, .int x2] I P :=
  e_M_readsRuns _ _ (lM_rr13b h H)
