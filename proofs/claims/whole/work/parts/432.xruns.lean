/-! the class: numbers and runs read -/
def F_xv (vv a j : Nat) : Bool := F_rx a j || Nat.beq a vv
theorem sm.xv {vv : Nat} {I J : mm_I} (f : sm F_rx I J) : sm (F_xv vv) I J := f.le (fun a j h => by
  unfold F_xv at h
  rw [Bool.or_eq_false_iff] at h
  exact h.1)
abbrev vv2 (vv : Nat) : Prop := vv = 53 ∨ vv = 54
theorem F_xv_v (vv j : Nat) : F_xv vv vv j = true := by
  unfold F_xv
  rw [Nat.beq_refl]
  exact Bool.or_true _
theorem F_xv_n {vv a j : Nat} (h : ¬ (a = 46 ∧ (j = 6 ∨ j = 7))) (h2 : a ≠ vv) : F_xv vv a j = false := mm_bf fun z => by
  unfold F_xv F_rx at z
  simp only [Bool.or_eq_true, Bool.and_eq_true, mm_beq_iff] at z
  rcases z with z | z
  · exact h z
  · exact h2 z
theorem sm.xva {vv : Nat} {I J : mm_I} (f : sm (F_xv vv) I J) {a : Nat} (h : a ≠ 46) (h2 : a ≠ vv) : J a = I a := f.fn a (fun j => F_xv_n (fun z => h z.1) h2)
theorem SxI_xv {vv : Nat} {B : Nat → Int32} {u : Nat} {I J : mm_I} (hv : vv2 vv) (h : SxI B u I) (f : sm (F_xv vv) I J) : SxI B u J := by
  have e1 := f.xva (a := 47) (by decide) (by omega)
  have e2 := f.xva (a := 48) (by decide) (by omega)
  unfold SxI
  rw [e1, e2]
  exact h
theorem RXq_xv {vv : Nat} {w s : Nat → Int32} {I J : mm_I} (hv : vv2 vv) (h : RXq 49 w s I) (f : sm (F_xv vv) I J) : RXq 49 w s J := by
  have e1 := f.xva (a := 50) (by decide) (by omega)
  have e2 := f.xva (a := 51) (by decide) (by omega)
  have e3 := f.xva (a := 52) (by decide) (by omega)
  unfold RXq at h ⊢
  rw [e1, e2, e3]
  exact h
theorem RdX_up {u vv : Nat} {o : Option Nat} {I : mm_I} {i : Nat} {v : Int32} (hv : vv2 vv) (h : RdX u o I) : RdX u o (mm_up I vv i v) := by
  have e : (mm_up I vv i v) 46 = I 46 := up_o (by omega)
  cases o with
  | none => show (mm_up I vv i v) 46 7 = 1; rw [e]; exact h
  | some p => show (mm_up I vv i v) 46 6 = nI p ∧ (mm_up I vv i v) 46 7 = 0 ∧ p ≤ 8 * u; rw [e]; exact h
theorem lX_numbers {P : mm_I → Prop} {vv : Nat} {B : Nat → Int32} {u nb n p : Nat} {I : mm_I} (hv : vv2 vv) (hu : u ≤ 4000) (hnb : nb ≤ 31) (hn : n ≤ 64) (hS : SxI B u I)
    (H1 : p + nb * n ≤ 8 * u → ∀ J, RdX u (some (p + nb * n)) J → (∀ i, i < n → J vv i = sgO B (p + nb * i) nb) → sm (F_xv vv) I J → P J)
    (H0 : ¬ p + nb * n ≤ 8 * u → ∀ J, RdX u none J → sm (F_xv vv) I J → P J) :
    ∀ (r k : Nat) (J : mm_I), k + r = n → sm (F_xv vv) I J → ((RdX u (some (p + nb * k)) J ∧ ∀ i, i < k → J vv i = sgO B (p + nb * i) nb) ∨ (¬ p + nb * n ≤ 8 * u ∧ RdX u none J)) → mm_W 32 3 [some (.ref 46), some (.ref vv), some (.int (nI n)), some (.int (nI nb)), some (.int (nI k))] [] J (mm_qv 32 P) := by
  intro r
  induction r with
  | zero =>
    intro k J hk hsm h
    have hk : k = n := by omega
    subst hk
    refine c_Reader_readNumbers_3 hv _ _ _ ⟨fun _ => ?_, fun z => absurd z (nI_nlt (by omega) (by omega))⟩
    rcases h with ⟨h1, h2⟩ | ⟨h1, h2⟩
    · exact H1 h1.2.2 J h1 h2 hsm
    · exact H0 h1 J h2 hsm
  | succ r ih =>
    intro k J hk hsm h
    have mm : nb * k + nb ≤ nb * n := by rw [← Nat.mul_succ]; exact Nat.mul_le_mul_left nb (by omega)
    refine c_Reader_readNumbers_3 hv _ _ _ ⟨fun z => absurd z (nI_ge (by omega) (by omega)), fun _ => ?_⟩
    have v := vp_in_nI (n := k) (N := 64) (by omega) (by omega)
    rw [nI_1, nI_clamp (n := k) (by omega)]
    rcases h with ⟨h1, h2⟩ | ⟨h1, h2⟩
    · refine sp_X_signed (by omega) hu (SxI_xv hv hS hsm) h1 (fun c J2 a1 a2 => ⟨v, ?_⟩) (fun c v2 J2 a1 a2 => ⟨v, ?_⟩)
      · refine ih (k + 1) _ (by omega) ((sm.tq hsm a2.xv).up (F_xv_v _ _)) (Or.inl ⟨?_, fun i hi => ?_⟩)
        · rw [Nat.mul_succ, ← Nat.add_assoc]
          exact RdX_up hv a1
        · rw [up_a]
          by_cases z : i = k
          · rw [if_pos z, z]
          · have f : F_rx vv i = false := by rcases hv with rfl | rfl <;> rfl
            rw [if_neg z, a2 vv i f]
            exact h2 i (by omega)
      · exact ih (k + 1) _ (by omega) ((sm.tq hsm a2.xv).up (F_xv_v _ _)) (Or.inr ⟨by omega, RdX_up hv a1⟩)
    · exact sp_X_signed0 h2 (fun v2 J2 a1 a2 => ⟨v, ih (k + 1) _ (by omega) ((sm.tq hsm a2.xv).up (F_xv_v _ _)) (Or.inr ⟨h1, RdX_up (o := none) hv a1⟩)⟩)
theorem sp_X_numbers {P : mm_I → Prop} {vv : Nat} {B : Nat → Int32} {u nb n p : Nat} {I : mm_I} (hv : vv2 vv) (hu : u ≤ 4000) (hnb : nb ≤ 31) (hn : n ≤ 64) (hS : SxI B u I) (hR : RdX u (some p) I)
    (H1 : p + nb * n ≤ 8 * u → ∀ J, RdX u (some (p + nb * n)) J → (∀ i, i < n → J vv i = sgO B (p + nb * i) nb) → sm (F_xv vv) I J → P J)
    (H0 : ¬ p + nb * n ≤ 8 * u → ∀ J, RdX u none J → sm (F_xv vv) I J → P J) : mm_Mv 32 [.ref 46, .ref vv, .int (nI n), .int (nI nb)] I P :=
  e_Reader_readNumbers hv _ _ (lX_numbers hv hu hnb hn hS H1 H0 n 0 I (by omega) sm.rf (Or.inl ⟨hR, fun i hi => absurd hi (Nat.not_lt_zero i)⟩))
/-- one error -/
theorem sp_X_errG {P : Int32 → mm_I → Prop} {B : Nat → Int32} {u by_ w p : Nat} {I : mm_I} (hu : u ≤ 4000) (hby : 14 ≤ by_) (hb16 : by_ < 16) (hw : w ≤ 31) (hw0 : by_ = 15 → w = 0) (hS : SxI B u I) (hR : RdX u (some p) I)
    (H1 : (reN B u by_ w (p, 0)).2 = 0 → ∀ J, RdX u (some (reN B u by_ w (p, 0)).1) J → sm F_rx I J → P (reV B u by_ w (p, 0)) J)
    (H0 : (reN B u by_ w (p, 0)).2 = 1 → ∀ v J, RdX u none J → sm F_rx I J → P v J) : mm_Mi 29 [.ref 46, .int (nI w)] I P := by
  unfold reN reV at H1
  unfold reN at H0
  by_cases q : by_ = 15
  · have w0 := hw0 q
    subst w0
    rw [if_pos q, if_pos q] at H1
    refine sp_X_signed (by omega) hu hS hR (fun c J a1 a2 => H1 rfl J a1 a2) (fun c v J a1 a2 => ?_)
    have := hR.2.2
    omega
  · have q2 : by_ = 14 := by omega
    rw [if_neg q, if_pos q2] at H0
    rw [if_neg q, if_pos q2, if_neg q, if_pos q2] at H1
    refine sp_X_signed hw hu hS hR (fun c J a1 a2 => ?_) (fun c v J a1 a2 => H0 (rdS_no hR.2.2 w (by omega)) v J a1 a2)
    unfold rdG at H1
    rw [rdS_ok w c] at H1
    exact H1 rfl J a1 a2
/-! rows built from errors -/
theorem rbO_hi {w s : Nat → Int32} {m od : Nat} {e : Nat → Int32} : ∀ (k j : Nat), od + k ≤ j → rbO w s m od e k j = e j := by
  intro k
  induction k with
  | zero => intro j _; rfl
  | succ k ih =>
    intro j hj
    show upd (rbO w s m od e k) (od + k) _ j = e j
    unfold upd
    rw [if_neg (by omega)]
    exact ih j (by omega)
theorem rbO_lo {w s : Nat → Int32} {m od : Nat} {e : Nat → Int32} {k j : Nat} (hj : j < od + k) : rbO w s m od e (k + 1) j = rbO w s m od e k j := by
  show upd (rbO w s m od e k) (od + k) _ j = _
  unfold upd
  rw [if_neg (by omega)]
theorem gs_c {w x y : Nat → Int32} {i p : Nat} (h : ∀ j, j < i → x j = y j) (ho : o_od w p ≤ i) : ∀ k, k ≤ o_od w p → o_gs w x i p k = o_gs w y i p k := by
  intro k
  induction k with
  | zero => intro _; rfl
  | succ k ih =>
    intro hk
    show o_gs w x i p k + _ = o_gs w y i p k + _
    rw [ih (by omega), h _ (by omega)]
theorem gu_c {w s x y : Nat → Int32} {i p : Nat} (h : ∀ j, j < i → x j = y j) (ho : o_od w p ≤ i) : o_gu w s x i p = o_gu w s y i p := by
  unfold o_gu
  rw [gs_c h ho _ (Nat.le_refl _)]
theorem rbO_c {w s : Nat → Int32} {m : Nat} {e e' : Nat → Int32} : ∀ (k : Nat), (∀ j, j < o_od w m + k → e j = e' j) → ∀ j, j < o_od w m + k → rbO w s m (o_od w m) e k j = rbO w s m (o_od w m) e' k j := by
  intro k
  induction k with
  | zero => intro h j hj; exact h j hj
  | succ k ih =>
    intro h j hj
    have i1 := ih (fun j hj => h j (by omega))
    show upd (rbO w s m (o_od w m) e k) (o_od w m + k) _ j = upd (rbO w s m (o_od w m) e' k) (o_od w m + k) _ j
    unfold upd
    by_cases z : j = o_od w m + k
    · rw [if_pos z, if_pos z, rbO_hi k _ (Nat.le_refl _), rbO_hi k _ (Nat.le_refl _), gu_c i1 (Nat.le_add_right _ _), h _ (by omega)]
    · rw [if_neg z, if_neg z]
      exact i1 j (by omega)
theorem vv2_g {vv : Nat} (h : vv2 vv) : gsX 49 vv := by
  rcases h with rfl | rfl
  · exact Or.inr (Or.inr (Or.inr (Or.inr (Or.inl ⟨rfl, rfl⟩))))
  · exact Or.inr (Or.inr (Or.inr (Or.inr (Or.inr ⟨rfl, rfl⟩))))
theorem lX_rr28b {P : mm_I → Prop} {vv : Nat} {I : mm_I} {x2 x3 x4 x5 x6 : Int32} (hv : vv2 vv) (h : I 46 7 = 1) (H : P I) : mm_W 33 28 [some (.ref 46), some (.ref vv), some (.int x2), some (.int x3), some (.int x4), some (.int x5), some (.int x6), none, none, none, none, none, none] [] I (mm_qv 33 P) :=
  c_Reader_readRuns_28 hv _ _ _ _ _ ⟨fun _ => H, fun _ => ⟨fun _ => H, fun _ => ⟨fun _ => H, fun z => by rw [h] at z; exact absurd z (by decide)⟩⟩⟩
theorem lX_rr112b {P : mm_I → Prop} {vv : Nat} {I : mm_I} {x2 x3 x5 x6 x7 x8 x9 x10 x11 : Int32} (hv : vv2 vv) (h : I 46 7 = 1) (H : P I) : mm_W 33 112 [some (.ref 46), some (.ref vv), some (.int x2), some (.int x3), none, some (.int x5), some (.int x6), some (.int x7), some (.int x8), some (.int x9), some (.int x10), some (.int x11), none] [] I (mm_qv 33 P) :=
  c_Reader_readRuns_112 hv _ _ _ _ _ _ _ _ _ ⟨fun _ => lX_rr28b hv h H, fun _ => ⟨fun _ => lX_rr28b hv h H, fun z => by rw [h] at z; exact absurd z (by decide)⟩⟩
theorem lX_rr112 {P : mm_I → Prop} {vv : Nat} {B w s : Nat → Int32} {u by_ wd m to : Nat} {x2 x5 x6 x7 : Int32} (hv : vv2 vv) (hu : u ≤ 4000) (hby : by_ < 16) (hw : wd ≤ 31) (hw0 : by_ = 15 → wd = 0) (hm : m < 8) (hto : to ≤ 64) : ∀ (k i p : Nat) (e : Nat → Int32) (I : mm_I), i + k = to → o_od w m ≤ i → 1 ≤ p → SxI B u I → RXq 49 w s I → RdX u (some p) I → (∀ j, j < i → I vv j = rbO w s m (o_od w m) e (i - o_od w m) j) →
    (∀ p' e', erO B u by_ wd k i p e = some (p', e') → ∀ J, RdX u (some p') J → (∀ j, j < to → J vv j = rbO w s m (o_od w m) e' (to - o_od w m) j) → sm (F_xv vv) I J → mm_W 33 28 [some (.ref 46), some (.ref vv), some (.int x2), some (.int (nI m)), some (.int (nI to)), some (.int (x5 - x7)), some (.int (x6 + 1)), none, none, none, none, none, none] [] J (mm_qv 33 P)) →
    (erO B u by_ wd k i p e = none → ∀ J, RdX u none J → sm (F_xv vv) I J → P J) → mm_W 33 112 [some (.ref 46), some (.ref vv), some (.int x2), some (.int (nI m)), none, some (.int x5), some (.int x6), some (.int x7), some (.int (nI by_)), some (.int (nI to)), some (.int (nI wd)), some (.int (nI i)), none] [] I (mm_qv 33 P) := by
  intro k
  induction k with
  | zero =>
    intro i p e I hi ho hp hS hq hR hE H1 H0
    have hi : i = to := by omega
    subst hi
    exact c_Reader_readRuns_112 hv _ _ _ _ _ _ _ _ _ ⟨fun _ => H1 p e rfl I hR hE sm.rf, fun z => absurd z (nI_nlt (by omega) (by omega))⟩
  | succ k ih =>
    intro i p e I hi ho hp hS hq hR hE H1 H0
    have hq2 := rdO_e (B := B) (p := by_) (w := wd) hu (rdO_p hu hR.2.2)
    have gm := reN_m (B := B) (u := u) (by_ := by_) (w := wd) (p := p)
    have ee : erO B u by_ wd (k + 1) i p e = if (reN B u by_ wd (p, 0)).2 = 0 then erO B u by_ wd k (i + 1) (reN B u by_ wd (p, 0)).1 (upd e i (reV B u by_ wd (p, 0))) else none := rfl
    have v := vp_in_nI (n := i) (N := 64) (by omega) (by omega)
    have fvv : ∀ j, F_rx vv j = false := fun j => by rcases hv with rfl | rfl <;> rfl
    have rq : ∀ J, sm F_rx I J → RXq 49 w s J := fun J f => RXq_xv hv hq f.xv
    have hE2 : ∀ (v2 : Int32) (J : mm_I), sm F_rx I J → ∀ j, j < i → J vv j = rbO w s m (o_od w m) (upd e i v2) (i - o_od w m) j := fun v2 J f j hj => by
      rw [f vv j (fvv j), hE j hj]
      refine rbO_c _ (fun j2 h2 => ?_) j (by omega)
      unfold upd
      rw [if_neg (by omega)]
    have ok : (reN B u by_ wd (p, 0)).2 = 0 → ∀ J, RdX u (some (reN B u by_ wd (p, 0)).1) J → sm F_rx I J → mm_Mi 22 [.ref 49, .int (nI m), .ref vv, .int (nI i)] J (fun r161 I161 => vp_in (nI i) 64 ∧ mm_W 33 112 [some (.ref 46), some (.ref vv), some (.int x2), some (.int (nI m)), none, some (.int x5), some (.int x6), some (.int x7), some (.int (nI by_)), some (.int (nI to)), some (.int (nI wd)), some (.int (nI i + 1)), none] [] (mm_up I161 vv (nI i).toNatClampNeg (r161 + reV B u by_ wd (p, 0))) (mm_qv 33 P)) := fun q J a1 a2 => by
      rw [if_pos q] at ee
      refine sp_X_guess (vv2_g hv) hm ho (by omega) (rq J a2) (hE2 (reV B u by_ wd (p, 0)) J a2) ⟨v, ?_⟩
      rw [nI_1, nI_clamp (n := i) (by omega)]
      have f1 : ∀ x, sm (F_xv vv) I (mm_up J vv i x) := fun x => a2.xv.up (F_xv_v _ _)
      refine ih (i + 1) _ (upd e i (reV B u by_ wd (p, 0))) _ (by omega) (by omega) (by omega) (SxI_xv hv hS (f1 _)) (RXq_xv hv hq (f1 _)) (RdX_up hv a1) (fun j hj => ?_) (fun p' e' h J2 b1 b2 b3 => H1 p' e' (ee.trans h) J2 b1 b2 (sm.tq (f1 _) b3)) (fun h J2 b1 b3 => H0 (ee.trans h) J2 b1 (sm.tq (f1 _) b3))
      rw [up_a, show i + 1 - o_od w m = (i - o_od w m) + 1 by omega]
      by_cases z : j = i
      · rw [if_pos z, z]
        show _ = upd (rbO w s m (o_od w m) (upd e i (reV B u by_ wd (p, 0))) (i - o_od w m)) (o_od w m + (i - o_od w m)) (rbO w s m (o_od w m) (upd e i (reV B u by_ wd (p, 0))) (i - o_od w m) (o_od w m + (i - o_od w m)) + o_gu w s (rbO w s m (o_od w m) (upd e i (reV B u by_ wd (p, 0))) (i - o_od w m)) (o_od w m + (i - o_od w m)) m) i
        rw [show o_od w m + (i - o_od w m) = i by omega, rbO_hi _ i (by omega)]
        show _ = (if i = i then upd e i (reV B u by_ wd (p, 0)) i + _ else _)
        have eu : upd e i (reV B u by_ wd (p, 0)) i = reV B u by_ wd (p, 0) := if_pos rfl
        rw [if_pos rfl, eu, Int32.add_comm]
      · rw [if_neg z, rbO_lo (by omega)]
        exact hE2 _ J a2 j (by omega)
    have no : (reN B u by_ wd (p, 0)).2 = 1 → ∀ v2 J, RdX u none J → sm F_rx I J → mm_Mi 22 [.ref 49, .int (nI m), .ref vv, .int (nI i)] J (fun r161 I161 => vp_in (nI i) 64 ∧ mm_W 33 112 [some (.ref 46), some (.ref vv), some (.int x2), some (.int (nI m)), none, some (.int x5), some (.int x6), some (.int x7), some (.int (nI by_)), some (.int (nI to)), some (.int (nI wd)), some (.int (nI i + 1)), none] [] (mm_up I161 vv (nI i).toNatClampNeg (r161 + v2)) (mm_qv 33 P)) := fun q v2 J a1 a2 => by
      rw [if_neg (by omega)] at ee
      refine sp_X_guess (vv2_g hv) hm ho (by omega) (rq J a2) (hE2 0 J a2) ⟨v, ?_⟩
      have a0 := RdX_up (o := none) (u := u) (i := (nI i).toNatClampNeg) (v := o_gu w s (rbO w s m (o_od w m) (upd e i 0) (i - o_od w m)) i m + v2) hv a1
      exact lX_rr112b hv a0 (H0 ee _ a0 (a2.xv.up (F_xv_v _ _)))
    refine c_Reader_readRuns_112 hv _ _ _ _ _ _ _ _ _ ⟨fun z => absurd z (nI_ge (by omega) (by omega)), fun _ => ⟨fun z => absurd hR.2.1 z, fun _ => ⟨fun z => ?_, fun z => ?_⟩⟩⟩
    · have z := (nI_leI (a := 14) (by omega) (by omega)).mp z
      exact sp_X_errG (by_ := by_) (w := wd) hu z hby hw hw0 hS hR ok no
    · have z := (nI_ltI (b := 14) (by omega) (by omega)).mp z
      exact sp_X_split (by_ := by_) (w := wd) hu z hp hS hR ok no
