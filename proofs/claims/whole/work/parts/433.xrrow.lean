/-! the class: runs and rows read -/
theorem lX_rr28 {P : mm_I → Prop} {vv : Nat} {B w s : Nat → Int32} {u m size : Nat} (hv : vv2 vv) (hu : u ≤ 4000) (hm : m < 8) (hs : size ≤ 64) (ho : o_od w m < size) : ∀ (r g k p : Nat) (e : Nat → Int32) (I : mm_I), (size - o_od w m + 7) / 8 < g + r → g ≤ (size - o_od w m + 7) / 8 → k ≤ g → 1 ≤ p → SxI B u I → RXq 49 w s I → RdX u (some p) I → (∀ j, j < rTop (o_od w m) size g → I vv j = rbO w s m (o_od w m) e (rTop (o_od w m) size g - o_od w m) j) →
    (∀ p' e', ruO B u (o_od w m) size r g p e = some (p', e') → ∀ J, RdX u (some p') J → (∀ j, j < size → J vv j = rbO w s m (o_od w m) e' (size - o_od w m) j) → sm (F_xv vv) I J → P J) →
    (ruO B u (o_od w m) size r g p e = none → ∀ J, RdX u none J → sm (F_xv vv) I J → P J) → mm_W 33 28 [some (.ref 46), some (.ref vv), some (.int (nI size)), some (.int (nI m)), some (.int (nI (rTop (o_od w m) size g))), some (.int (nI ((size - o_od w m + 7) / 8 - g))), some (.int (nI k)), none, none, none, none, none, none] [] I (mm_qv 33 P) := by
  have o4 := o_od_le w m
  intro r
  induction r with
  | zero => intro g k p e I hr hg; omega
  | succ r ih =>
    intro g k p e I hr hg hk hp hS hq hR hE H1 H0
    have ee : ruO B u (o_od w m) size (r + 1) g p e = if (size - o_od w m + 7) / 8 ≤ g then some (p, e) else if 8 * u < rPl B p then none else if (size - o_od w m + 7) / 8 < g + rOf B p then none else match erO B u (rBy B p) (rWd B p) (rTop (o_od w m) size (g + rOf B p) - (o_od w m + 8 * g)) (o_od w m + 8 * g) (rPl B p) e with
      | none => none
      | some s => ruO B u (o_od w m) size r (g + rOf B p) s.1 s.2 := rfl
    by_cases q : (size - o_od w m + 7) / 8 ≤ g
    · rw [if_pos q] at ee
      have t : rTop (o_od w m) size g = size := by
        unfold rTop
        rw [if_pos (by omega)]
      rw [t] at hE
      have fin := H1 p e ee I hR hE sm.rf
      exact c_Reader_readRuns_28 hv _ _ _ _ _ ⟨fun _ => fin, fun _ => ⟨fun _ => fin, fun z => absurd z (by rw [show (size - o_od w m + 7) / 8 - g = 0 by omega]; decide)⟩⟩
    · rw [if_neg q] at ee
      have t2 : rTop (o_od w m) size g = o_od w m + 8 * g := by
        unfold rTop
        rw [if_neg (by omega)]
      rw [t2] at hE ⊢
      refine c_Reader_readRuns_28 hv _ _ _ _ _ ⟨fun z => absurd z (nI_ge (b := 8) (by omega) (by omega)), fun _ => ⟨fun z => absurd z (nI_nle (by omega) (by omega)), fun _ => ⟨fun z => absurd hR.2.1 z, fun _ => ?_⟩⟩⟩
      have bad : ruO B u (o_od w m) size (r + 1) g p e = none → ∀ (r49 : Int32) (J : mm_I), J 46 7 = 1 → sm F_rx I J → ((r49 + 1) ≤ nI ((size - o_od w m + 7) / 8 - g) → mm_Mi 226 [.int (nI size), .int (nI (o_od w m + 8 * g) + ((r49 + 1) * 8))] J (fun r85 I85 => (¬ (0 : Int32) = 14 → mm_W 33 112 [some (.ref 46), some (.ref vv), some (.int (nI size)), some (.int (nI m)), none, some (.int (nI ((size - o_od w m + 7) / 8 - g))), some (.int (nI k)), some (.int (r49 + 1)), some (.int 0), some (.int r85), some (.int 0), some (.int (nI (o_od w m + 8 * g))), none] [] I85 (mm_qv 33 P)) ∧ ((0 : Int32) = 14 → mm_Mi 28 [.ref 46, .int 5] I85 (fun r99 I99 => mm_W 33 112 [some (.ref 46), some (.ref vv), some (.int (nI size)), some (.int (nI m)), none, some (.int (nI ((size - o_od w m + 7) / 8 - g))), some (.int (nI k)), some (.int (r49 + 1)), some (.int 0), some (.int r85), some (.int r99), some (.int (nI (o_od w m + 8 * g))), none] [] I99 (mm_qv 33 P))))) ∧ (nI ((size - o_od w m + 7) / 8 - g) < (r49 + 1) → P (mm_up J 46 7 1)) := fun e0 r49 J a1 a2 => by
        refine ⟨fun _ => e_Math_min _ _ ⟨fun _ => lX_rr112b hv a1 (H0 e0 J a1 a2.xv), fun z => absurd z (by decide)⟩, fun _ => H0 e0 _ rfl (a2.xv.up (by rfl))⟩
      refine sp_X_bits (n := 3) (by omega) hu hS hR (fun c1 J1 a1 a2 => ?_) (fun c1 J1 a1 a2 => ?_)
      · have S1 := SxI_rx hS a2
        refine sp_X_bits (n := 4) (by omega) hu S1 a1 (fun c2 J2 b1 b2 => ?_) (fun c2 J2 b1 b2 => ?_)
        · have S2 := SxI_rx S1 b2
          have f2 := sm.tq a2 b2
          have w3 := bvN_e (B := B) (p := p) (k := 3) (by omega)
          have w4 := bvN_e (B := B) (p := p + 3) (k := 4) (by omega)
          have w5 := bvN_e (B := B) (p := p + 7) (k := 5) (by omega)
          have v3 := w3.2
          have v4 := w4.2
          have v5 := w5.2
          have e7 : p + 3 + 4 = p + 7 := by omega
          have ro9 : 1 ≤ rOf B p ∧ rOf B p ≤ 8 := by
            show 1 ≤ bvN B p 3 + 1 ∧ bvN B p 3 + 1 ≤ 8
            omega
          rw [e7] at b1 c2
          rw [w3.1, w4.1]
          have eo : nI (bvN B p 3) + 1 = nI (rOf B p) := nI_1 _
          have e14 : (nI (bvN B (p + 3) 4) = 14) ↔ rBy B p = 14 := nI_eq (b := 14) (by omega) (by omega)
          have ef : nI (o_od w m + 8 * g) + nI (rOf B p) * 8 = nI (o_od w m + 8 * (g + rOf B p)) := by
            show _ + _ * nI 8 = _
            rw [pk_mul, nI_add]
            congr 1
            omega
          rw [eo, ef]
          by_cases c3 : (size - o_od w m + 7) / 8 < g + rOf B p
          · have e0 : ruO B u (o_od w m) size (r + 1) g p e = none := by
              rw [ee]
              by_cases y : 8 * u < rPl B p
              · rw [if_pos y]
              · rw [if_neg y, if_pos c3]
            exact ⟨fun z => absurd z (nI_ge (by omega) (by omega)), fun _ => H0 e0 _ rfl (f2.xv.up (by rfl))⟩
          · rw [if_neg c3] at ee
            have em : (if nI (o_od w m + 8 * (g + rOf B p)) < nI size then (nI (o_od w m + 8 * (g + rOf B p)) : Int32) else nI size) = nI (rTop (o_od w m) size (g + rOf B p)) := by
              unfold rTop
              by_cases y : size ≤ o_od w m + 8 * (g + rOf B p)
              · rw [if_pos y, if_neg (nI_nlt (by omega) (by omega))]
              · rw [if_neg y, if_pos ((nI_ltI (by omega) (by omega)).mpr (by omega))]
            have go : ∀ J3 : mm_I, RdX u (some (rPl B p)) J3 → sm F_rx I J3 → mm_W 33 112 [some (.ref 46), some (.ref vv), some (.int (nI size)), some (.int (nI m)), none, some (.int (nI ((size - o_od w m + 7) / 8 - g))), some (.int (nI k)), some (.int (nI (rOf B p))), some (.int (nI (bvN B (p + 3) 4))), some (.int (nI (rTop (o_od w m) size (g + rOf B p)))), some (.int (nI (rWd B p))), some (.int (nI (o_od w m + 8 * g))), none] [] J3 (mm_qv 33 P) := fun J3 d1 d2 => by
              have np : ¬ 8 * u < rPl B p := by have := d1.2.2; omega
              rw [if_neg np] at ee
              have pm := rPl_m (B := B) (p := p)
              have t1 : o_od w m + 8 * g ≤ rTop (o_od w m) size (g + rOf B p) ∧ rTop (o_od w m) size (g + rOf B p) ≤ 64 := by
                unfold rTop
                split <;> omega
              have w31 : rWd B p ≤ 31 := by
                unfold rWd
                split <;> omega
              have fvv : ∀ j, F_rx vv j = false := fun j => by rcases hv with rfl | rfl <;> rfl
              refine lX_rr112 (wd := rWd B p) (by_ := rBy B p) hv hu (by show bvN B (p + 3) 4 < 16; omega) w31 (fun z => if_neg (by omega)) hm t1.2 (rTop (o_od w m) size (g + rOf B p) - (o_od w m + 8 * g)) _ (rPl B p) e J3 (by omega) (by omega) (by omega) (SxI_rx hS d2) (RXq_xv hv hq d2.xv) d1 (fun j hj => ?_) (fun p' e' h J4 g1 g2 g3 => ?_) (fun h J4 g1 g3 => ?_)
              · rw [d2 vv j (fvv j)]
                exact hE j hj
              · rw [h] at ee
                have er := erO_m _ _ _ _ _ h
                have er : rPl B p ≤ p' := er
                have f4 := sm.tq d2.xv g3
                have es : nI ((size - o_od w m + 7) / 8 - g) - nI (rOf B p) = nI ((size - o_od w m + 7) / 8 - (g + rOf B p)) := by
                  rw [pk_sub (by omega)]
                  congr 1
                  omega
                rw [es, nI_1]
                exact ih (g + rOf B p) (k + 1) p' e' J4 (by omega) (by omega) (by omega) (by omega) (SxI_xv hv hS f4) (RXq_xv hv hq f4) g1 g2 (fun p2 e2 h2 J5 k1 k2 k3 => H1 p2 e2 (ee.trans h2) J5 k1 k2 (sm.tq f4 k3)) (fun h2 J5 k1 k3 => H0 (ee.trans h2) J5 k1 (sm.tq f4 k3))
              · rw [h] at ee
                exact H0 ee J4 g1 (sm.tq d2.xv g3)
            refine ⟨fun _ => e_Math_min _ _ ?_, fun z => absurd z (nI_nlt (by omega) (by omega))⟩
            rw [em]
            refine ⟨fun z => ?_, fun z => ?_⟩
            · have z1 : ¬ rBy B p = 14 := fun y => z (e14.mpr y)
              have w0 : rWd B p = 0 := if_neg z1
              have p0 : rPl B p = p + 7 := if_neg z1
              have := go J2 (by rw [p0]; exact b1) f2
              rw [w0] at this
              exact this
            · have z1 := e14.mp z
              have w0 : rWd B p = bvN B (p + 7) 5 := if_pos z1
              have p0 : rPl B p = p + 12 := if_pos z1
              refine sp_X_bits (n := 5) (by omega) hu S2 b1 (fun c4 J3 d1 d2 => ?_) (fun c4 J3 d1 d2 => ?_)
              · have := go J3 (by rw [p0]; exact d1) (sm.tq f2 d2)
                rw [w0] at this
                rw [w5.1]
                exact this
              · have e0 : ruO B u (o_od w m) size (r + 1) g p e = none := by
                  rw [ee, if_pos (by rw [p0]; omega)]
                exact lX_rr112b hv d1 (H0 e0 J3 d1 (sm.tq f2 d2).xv)
        · have e0 : ruO B u (o_od w m) size (r + 1) g p e = none := by
            rw [ee, if_pos (rPl_no (by omega))]
          exact bad e0 _ J2 b1 (sm.tq a2 b2)
      · have e0 : ruO B u (o_od w m) size (r + 1) g p e = none := by
          rw [ee, if_pos (rPl_no (by omega))]
        exact sp_X_bits0 a1 (fun J2 b1 b2 => bad e0 _ J2 b1 (sm.tq a2 b2))
theorem sp_X_readRuns {P : mm_I → Prop} {vv : Nat} {B w s : Nat → Int32} {u m size p : Nat} {e : Nat → Int32} {I : mm_I} (hv : vv2 vv) (hu : u ≤ 4000) (hm : m < 8) (hs : size ≤ 64) (ho : o_od w m < size) (hp : 1 ≤ p) (hS : SxI B u I) (hq : RXq 49 w s I) (hR : RdX u (some p) I) (hE : ∀ j, j < o_od w m → I vv j = e j)
    (H1 : ∀ p' e', ruO B u (o_od w m) size 9 0 p e = some (p', e') → ∀ J, RdX u (some p') J → (∀ j, j < size → J vv j = rbO w s m (o_od w m) e' (size - o_od w m) j) → sm (F_xv vv) I J → P J)
    (H0 : ruO B u (o_od w m) size 9 0 p e = none → ∀ J, RdX u none J → sm (F_xv vv) I J → P J) : mm_Mv 33 [.ref 46, .ref vv, .int (nI size), .int (nI m)] I P := by
  have o4 := o_od_le w m
  refine e_Reader_readRuns hv _ _ ⟨vp_in_nI (by omega) (by omega), ?_⟩
  have e0 : (((nI size - nI (o_od w m)) + 8) - 1) / 8 = nI ((size - o_od w m + 7) / 8 - 0) := by
    rw [pk_sub (by omega)]
    show ((_ + nI 8) - nI 1) / nI 8 = _
    rw [nI_add, pk_sub (by omega), pk_div (by omega) (by omega) (by omega)]
    congr 1
  have t0 : rTop (o_od w m) size 0 = o_od w m := by
    unfold rTop
    rw [if_neg (by omega)]
    omega
  rw [nI_clamp (n := m) (by omega), hq.2.2.1 m hm, e0]
  have := lX_rr28 (P := P) (e := e) (I := I) (p := p) (s := s) hv hu hm hs ho 9 0 0 (by omega) (by omega) (by omega) hp hS hq hR
  rw [t0] at this
  exact this (fun j hj => by rw [Nat.sub_self]; exact hE j hj) H1 H0
theorem sp_X_readRuns0 {P : mm_I → Prop} {vv m : Nat} {x2 : Int32} {I : mm_I} (hv : vv2 vv) (hm : m < 8) (h : I 46 7 = 1) (H : P I) : mm_Mv 33 [.ref 46, .ref vv, .int x2, .int (nI m)] I P :=
  e_Reader_readRuns hv _ _ ⟨vp_in_nI (by omega) (by omega), lX_rr28b hv h H⟩
theorem lX_ry39 {P : mm_I → Prop} {vv : Nat} {v : Int32} {u size : Nat} {o : Option Nat} {I : mm_I} (hv : vv2 vv) (hs : size ≤ 64) (H : ∀ J, RdX u o J → (∀ i, i < size → J vv i = v) → sm (F_xv vv) I J → P J) : ∀ (r k : Nat) (J : mm_I), k + r = size → RdX u o J → (∀ i, i < k → J vv i = v) → sm (F_xv vv) I J → mm_W 31 39 [none, some (.ref vv), some (.int (nI size)), none, none, some (.int v), some (.int (nI k))] [] J (mm_qv 31 P) := by
  intro r
  induction r with
  | zero =>
    intro k J hk hR h hsm
    have hk : k = size := by omega
    subst hk
    exact c_Reader_readRow_39 hv _ _ _ ⟨fun _ => H J hR h hsm, fun z => absurd z (nI_nlt (by omega) (by omega))⟩
  | succ r ih =>
    intro k J hk hR h hsm
    refine c_Reader_readRow_39 hv _ _ _ ⟨fun z => absurd z (nI_ge (by omega) (by omega)), fun _ => ⟨vp_in_nI (by omega) (by omega), ?_⟩⟩
    rw [nI_1, nI_clamp (n := k) (by omega)]
    refine ih (k + 1) _ (by omega) (RdX_up hv hR) (fun i hi => ?_) (hsm.up (F_xv_v _ _))
    rw [up_a]
    by_cases z : i = k
    · rw [if_pos z]
    · rw [if_neg z]
      exact h i (by omega)
theorem sp_X_readRow0 {P : mm_I → Prop} {vv : Nat} {w s : Nat → Int32} {u size : Nat} {x3 : Int32} {I : mm_I} (hv : vv2 vv) (hs : size ≤ 64) (h1 : 1 ≤ size) (hq : RXq 49 w s I) (hR : RdX u none I) (H : ∀ J, RdX u none J → sm (F_xv vv) I J → P J) : mm_Mv 31 [.ref 46, .ref vv, .int (nI size), .int x3] I P := by
  refine e_Reader_readRow hv _ _ (sp_X_bits0 hR (fun J a1 a2 => ⟨fun _ => ⟨fun _ => ⟨fun _ => ?_, fun z => absurd z (by decide)⟩, fun z => absurd z (by decide)⟩, fun z => absurd z (by decide)⟩))
  have e0 : J 51 (0 : Int32).toNatClampNeg = 0 := (RXq_xv hv hq a2.xv).2.2.1 0 (by omega)
  rw [e0]
  refine ⟨mm_vpc (by decide), fun _ => ⟨mm_vpc (by decide), ?_⟩, fun z => absurd z (nI_nle (by omega) (by omega))⟩
  exact e_Reader_readNumbers hv _ _ (c_Reader_readNumbers_3 hv _ _ _ ⟨fun _ => sp_X_readRuns0 (m := 0) hv (by omega) a1 (H J a1 a2.xv), fun z => absurd z (by decide)⟩)
theorem sp_X_readRow {P : mm_I → Prop} {vv : Nat} {B w s : Nat → Int32} {u nb size p : Nat} {I : mm_I} (hv : vv2 vv) (hu : u ≤ 4000) (hs : size ≤ 64) (h1 : 1 ≤ size) (hnb : nb ≤ 31) (hS : SxI B u I) (hq : RXq 49 w s I) (hR : RdX u (some p) I)
    (H1 : ∀ p' x, rowO B u w s size nb p = some (p', x) → ∀ J, RdX u (some p') J → (∀ i, i < size → J vv i = x i) → sm (F_xv vv) I J → P J)
    (H0 : rowO B u w s size nb p = none → ∀ J, RdX u none J → sm (F_xv vv) I J → P J) : mm_Mv 31 [.ref 46, .ref vv, .int (nI size), .int (nI nb)] I P := by
  refine e_Reader_readRow hv _ _ (sp_X_bits (n := 4) (by omega) hu hS hR (fun c J a1 a2 => ?_) (fun c J a1 a2 => ?_))
  · have w4 := bvN_e (B := B) (p := p) (k := 4) (by omega)
    have v4 := w4.2
    have S1 := SxI_rx hS a2
    have Q1 := RXq_xv hv hq a2.xv
    have er : rowO B u w s size nb p = if 9 < bvN B p 4 then none else
        if bvN B p 4 = 8 then (if 8 * u < p + 4 + nb then none else some (p + 4 + nb, fun _ => sgO B (p + 4) nb)) else
        if bvN B p 4 = 9 then (if 8 * u < p + 4 + nb * size then none else some (p + 4 + nb * size, fun i => sgO B (p + 4 + nb * i) nb)) else
        if size ≤ o_od w (bvN B p 4) then none else if 8 * u < p + 4 + nb * o_od w (bvN B p 4) then none else
        match ruO B u (o_od w (bvN B p 4)) size 9 0 (p + 4 + nb * o_od w (bvN B p 4)) (fun i => sgO B (p + 4 + nb * i) nb) with
        | none => none
        | some t => some (t.1, rbO w s (bvN B p 4) (o_od w (bvN B p 4)) t.2 (size - o_od w (bvN B p 4))) := by
      conv => lhs; unfold rowO
      rw [if_neg (by omega)]
      rfl
    rw [w4.1]
    refine ⟨fun z => ?_, fun z => ?_⟩
    · have z := (nI_leI (b := 9) (by omega) (by omega)).mp z
      rw [if_neg (by omega)] at er
      refine ⟨fun y => ?_, fun y => ?_⟩
      · have y8 : ¬ bvN B p 4 = 8 := fun k => y (by rw [k]; rfl)
        rw [if_neg y8] at er
        refine ⟨fun x => ?_, fun x => ?_⟩
        · have x9 : ¬ bvN B p 4 = 9 := fun k => x (by rw [k]; rfl)
          rw [if_neg x9] at er
          have o4 := o_od_le w (bvN B p 4)
          have vb := vp_in_nI (n := bvN B p 4) (N := 8) (by omega) (by omega)
          rw [nI_clamp (n := bvN B p 4) (by omega), Q1.2.2.1 _ (by omega)]
          refine ⟨vb, fun k => ⟨vb, ?_⟩, fun k => ?_⟩
          · have k := (nI_ltI (by omega) (by omega)).mp k
            rw [if_neg (by omega)] at er
            refine sp_X_numbers hv hu hnb (by omega) S1 a1 (fun c2 J2 b1 b2 b3 => ?_) (fun c2 J2 b1 b3 => ?_)
            · rw [if_neg (by omega)] at er
              have f2 := sm.tq a2.xv b3
              refine sp_X_readRuns (m := bvN B p 4) (e := fun i => sgO B (p + 4 + nb * i) nb) hv hu (by omega) hs k (by omega) (SxI_xv hv hS f2) (RXq_xv hv hq f2) b1 b2 (fun p' e' h J3 d1 d2 d3 => ?_) (fun h J3 d1 d3 => ?_)
              · rw [h] at er
                exact H1 _ _ er J3 d1 d2 (sm.tq f2 d3)
              · rw [h] at er
                exact H0 er J3 d1 (sm.tq f2 d3)
            · rw [if_pos (by omega)] at er
              have f2 := sm.tq a2.xv b3
              exact sp_X_readRuns0 hv (by omega) b1 (H0 er J2 b1 f2)
          · have k := (nI_leI (by omega) (by omega)).mp k
            rw [if_pos k] at er
            exact H0 er _ rfl (a2.xv.up (by rfl))
        · have x9 : bvN B p 4 = 9 := (nI_eq (b := 9) (by omega) (by omega)).mp x
          rw [if_pos x9] at er
          refine sp_X_numbers hv hu hnb hs S1 a1 (fun c2 J2 b1 b2 b3 => ?_) (fun c2 J2 b1 b3 => ?_)
          · rw [if_neg (by omega)] at er
            exact H1 _ _ er J2 b1 b2 (sm.tq a2.xv b3)
          · rw [if_pos (by omega)] at er
            exact H0 er J2 b1 (sm.tq a2.xv b3)
      · have y8 : bvN B p 4 = 8 := (nI_eq (b := 8) (by omega) (by omega)).mp y
        rw [if_pos y8] at er
        refine sp_X_signed hnb hu S1 a1 (fun c2 J2 b1 b2 => ?_) (fun c2 v J2 b1 b2 => ?_)
        · rw [if_neg (by omega)] at er
          have f2 := sm.tq a2 b2
          exact lX_ry39 (I := I) hv hs (fun J3 d1 d2 d3 => H1 _ _ er J3 d1 d2 d3) size 0 J2 (by omega) b1 (fun i hi => absurd hi (Nat.not_lt_zero i)) f2.xv
        · rw [if_pos (by omega)] at er
          have f2 := sm.tq a2 b2
          exact lX_ry39 (I := I) hv hs (fun J3 d1 d2 d3 => H0 er J3 d1 d3) size 0 J2 (by omega) b1 (fun i hi => absurd hi (Nat.not_lt_zero i)) f2.xv
    · have z := (nI_ltI (a := 9) (by omega) (by omega)).mp z
      rw [if_pos z] at er
      exact H0 er _ rfl (a2.xv.up (by rfl))
  · have er : rowO B u w s size nb p = none := by
      unfold rowO
      rw [if_pos (by omega)]
    have e0 : J 51 (0 : Int32).toNatClampNeg = 0 := (RXq_xv hv hq a2.xv).2.2.1 0 (by omega)
    refine ⟨fun _ => ⟨fun _ => ⟨fun _ => ?_, fun z => absurd z (by decide)⟩, fun z => absurd z (by decide)⟩, fun z => absurd z (by decide)⟩
    rw [e0]
    refine ⟨mm_vpc (by decide), fun _ => ⟨mm_vpc (by decide), ?_⟩, fun z => absurd z (nI_nle (by omega) (by omega))⟩
    exact e_Reader_readNumbers hv _ _ (c_Reader_readNumbers_3 hv _ _ _ ⟨fun _ => sp_X_readRuns0 (m := 0) hv (by omega) a1 (H0 er J a1 a2.xv), fun z => absurd z (by decide)⟩)
