/-! the frames found -/
abbrev fS : Type := (Nat × Nat) × (Nat → Int32) × (Nat → Int32) × (Nat → Int32)
def sndC (A : sA) (n : Nat) (q : Nat → Int32) (base i : Nat) (g : Nat → Int32) : Nat → Int32 := fun k => if base + h_f A * n ≤ k ∧ k < base + h_f A * n + i then q (k - (base + h_f A * n)) else g k
def sndU (A : sA) (n : Nat) (l r g : Nat → Int32) : Nat → Int32 := if h_c A = 2 then sndC A n r 256 (h_z A n) (sndC A n l 0 (h_z A n) g) else sndC A n l 0 (h_z A n) g
def fnN (A : sA) (pl : Nat) (t : Nat × (Nat → Int32) × (Nat → Int32)) (S : fS) : fS := ((n_b A pl + 1, pl + t.1), upd S.2.1 (n_b A pl) (nI pl), upd S.2.2.1 (n_b A pl) (nI t.1), sndU A (n_b A pl) t.2.1 t.2.2 S.2.2.2)
def fnT (A : sA) (pl : Nat) (S : fS) : fS := if pl < S.1.2 then S else match fgO A pl with
  | none => S
  | some t => if n_b A pl < S.1.1 then S else fnN A pl t S
def fn0 : fS := ((0, 21), fun _ => -1, fun _ => -1, fun _ => 0)
def fnS (A : sA) : Nat → fS
  | 0 => fn0
  | k + 1 => fnT A (21 + k) (fnS A k)
abbrev fnA (A : sA) : fS := fnS A (s_su A - 21)
def FnI (S : fS) (I : mm_I) : Prop := (∀ k, k < 16 → I 80 k = S.2.1 k) ∧ (∀ k, k < 16 → S.2.1 k ≠ -1 → I 81 k = S.2.2.1 k) ∧ ∀ k, k < 512 → I 82 k = S.2.2.2 k
theorem fnT_no {A : sA} {pl : Nat} {S : fS} (h : ∀ t, fgO A pl = some t → n_b A pl < S.1.1) : fnT A pl S = S := by
  unfold fnT
  by_cases q : pl < S.1.2
  · rw [if_pos q]
  · rw [if_neg q]
    cases e : fgO A pl with
    | none => rfl
    | some t => exact if_pos (h t e)
theorem fnT_sk {A : sA} {pl : Nat} {S : fS} (h : pl < S.1.2) : fnT A pl S = S := if_pos h
theorem fnT_y {A : sA} {pl : Nat} {S : fS} {t : Nat × (Nat → Int32) × (Nat → Int32)} (h : ¬ pl < S.1.2) (e : fgO A pl = some t) (hn : ¬ n_b A pl < S.1.1) : fnT A pl S = fnN A pl t S := by
  unfold fnT
  rw [if_neg h, e]
  exact if_neg hn
theorem fnS_end {A : sA} {k : Nat} (h : h_n A ≤ (fnS A k).1.1) : ∀ d, fnS A (k + d) = fnS A k := by
  intro d
  induction d with
  | zero => rfl
  | succ d ih =>
    show fnT A (21 + (k + d)) (fnS A (k + d)) = _
    rw [ih]
    exact fnT_no (fun t ht => by have := (fgO_len ht).1.2.2; omega)
theorem fnS_skip {A : sA} {k : Nat} : ∀ d, 21 + k + d ≤ (fnS A k).1.2 → fnS A (k + d) = fnS A k := by
  intro d
  induction d with
  | zero => intro _; rfl
  | succ d ih =>
    intro h
    show fnT A (21 + (k + d)) (fnS A (k + d)) = _
    rw [ih (by omega)]
    exact fnT_sk (by omega)
/-- what was found is a number of a frame, at a place -/
theorem fnS_inv {A : sA} (hsu : s_su A ≤ 4000) : ∀ k, (∀ n, (fnS A k).2.1 n ≠ -1 → n < h_n A ∧ n < (fnS A k).1.1 ∧ ∃ p, p < s_su A ∧ (fnS A k).2.1 n = nI p) ∧ (∀ n, (fnS A k).2.1 n = -1 → (fnS A k).2.2.1 n = -1) ∧ (fnS A k).1.1 ≤ h_n A := by
  intro k
  induction k with
  | zero => exact ⟨fun n h => absurd rfl h, fun _ _ => rfl, Nat.zero_le _⟩
  | succ k ih =>
    show (∀ n, (fnT A (21 + k) (fnS A k)).2.1 n ≠ -1 → n < h_n A ∧ n < (fnT A (21 + k) (fnS A k)).1.1 ∧ ∃ p, p < s_su A ∧ (fnT A (21 + k) (fnS A k)).2.1 n = nI p) ∧ (∀ n, (fnT A (21 + k) (fnS A k)).2.1 n = -1 → (fnT A (21 + k) (fnS A k)).2.2.1 n = -1) ∧ (fnT A (21 + k) (fnS A k)).1.1 ≤ h_n A
    by_cases q : 21 + k < (fnS A k).1.2
    · rw [fnT_sk q]; exact ih
    · cases e : fgO A (21 + k) with
      | none => rw [fnT_no (fun t ht => by rw [e] at ht; cases ht)]; exact ih
      | some t =>
        by_cases qn : n_b A (21 + k) < (fnS A k).1.1
        · rw [fnT_no (fun _ _ => qn)]; exact ih
        · rw [fnT_y q e qn]
          have L := fgO_len e
          have nn : n_b A (21 + k) < h_n A := L.1.2.2
          refine ⟨fun n h => ?_, fun n h => ?_, nn⟩
          · have h : upd (fnS A k).2.1 (n_b A (21 + k)) (nI (21 + k)) n ≠ -1 := h
            show n < h_n A ∧ n < n_b A (21 + k) + 1 ∧ ∃ p, p < s_su A ∧ upd (fnS A k).2.1 (n_b A (21 + k)) (nI (21 + k)) n = nI p
            unfold upd at h ⊢
            by_cases z : n = n_b A (21 + k)
            · rw [if_pos z]
              exact ⟨by omega, by omega, 21 + k, by omega, rfl⟩
            · rw [if_neg z] at h ⊢
              have := ih.1 n h
              exact ⟨this.1, by omega, this.2.2⟩
          · have h : upd (fnS A k).2.1 (n_b A (21 + k)) (nI (21 + k)) n = -1 := h
            show upd (fnS A k).2.2.1 (n_b A (21 + k)) (nI t.1) n = -1
            unfold upd at h ⊢
            by_cases z : n = n_b A (21 + k)
            · rw [if_pos z] at h
              have a := congrArg Int32.toInt h
              have := L.2.1
              rw [nI_toInt (by omega)] at a
              have : (-1 : Int32).toInt = -1 := rfl
              omega
            · rw [if_neg z] at h ⊢
              exact ih.2.1 n h
def F_82 (a _ : Nat) : Bool := Nat.beq a 82
theorem lM_fn158 {P : Int32 → mm_I → Prop} {A : sA} {n c L at_ : Nat} {q g : Nat → Int32} {I : mm_I} (hN : HdN A) (hn : n < h_n A) (hI : HdI (s_sb A) I) (hc : c < h_c A) (hq : ∀ i, i < h_z A n → I 78 (64 * c + i) = q i)
    (H : ∀ J, (∀ k, k < 512 → J 82 k = sndC A n q (256 * c) (h_z A n) g k) → sm F_82 I J → mm_W 210 146 [some (.ref 58), some (.int (nI n)), none, some (.int (nI L)), some (.int (nI at_)), some (.int (nI (c + 1))), none] [] J (mm_qi 210 P)) : ∀ (r i : Nat) (J : mm_I), i + r = h_z A n → (∀ k, k < 512 → J 82 k = sndC A n q (256 * c) i g k) → sm F_82 I J → mm_W 210 158 [some (.ref 58), some (.int (nI n)), none, some (.int (nI L)), some (.int (nI at_)), some (.int (nI c)), some (.int (nI i))] [] J (mm_qi 210 P) := by
  have hz := h_z_b hN hn
  have hcc := hN.1.2
  have hm := hN.2.2.2.1.2
  intro r
  induction r with
  | zero =>
    intro i J hi hJ hsm
    have hi : i = h_z A n := by omega
    subst hi
    have I1 : HdI (s_sb A) J := ⟨(hsm 58 35 rfl).trans hI.1, (hsm 58 36 rfl).trans hI.2.1, (hsm 58 37 rfl).trans hI.2.2.1, (hsm 58 38 rfl).trans hI.2.2.2.1, fun j hj => (hsm 64 j rfl).trans (hI.2.2.2.2.1 j hj), fun j hj => (hsm 65 j rfl).trans (hI.2.2.2.2.2 j hj)⟩
    refine c_M_finds_158 _ _ _ _ _ (sp_M_sizeAt hN I1 hn ⟨fun _ => ?_, fun z => absurd z (nI_nlt (by omega) (by omega))⟩)
    rw [nI_1]
    exact H J hJ hsm
  | succ r ih =>
    intro i J hi hJ hsm
    have I1 : HdI (s_sb A) J := ⟨(hsm 58 35 rfl).trans hI.1, (hsm 58 36 rfl).trans hI.2.1, (hsm 58 37 rfl).trans hI.2.2.1, (hsm 58 38 rfl).trans hI.2.2.2.1, fun j hj => (hsm 64 j rfl).trans (hI.2.2.2.2.1 j hj), fun j hj => (hsm 65 j rfl).trans (hI.2.2.2.2.2 j hj)⟩
    refine c_M_finds_158 _ _ _ _ _ (sp_M_sizeAt hN I1 hn ⟨fun z => absurd z (nI_ge (by omega) (by omega)), fun _ => ?_⟩)
    have e1 : (64 : Int32) * nI c + nI i = nI (64 * c + i) := by
      show nI 64 * _ + _ = _
      rw [pk_mul, nI_add]
    have e2 : (256 : Int32) * nI c + J 58 37 * nI n + nI i = nI (256 * c + h_f A * n + i) := by
      rw [I1.2.2.1, hN.2.2.1.1]
      show nI 256 * _ + _ + _ = _
      rw [pk_mul, pk_mul, nI_add, nI_add]
    rw [e1, e2, nI_clamp (n := 64 * c + i) (by omega), nI_clamp (n := 256 * c + h_f A * n + i) (by omega), nI_1, hsm 78 _ rfl, hq i (by omega)]
    refine ⟨vp_in_nI (by omega) (by omega), vp_in_nI (by omega) (by omega), ih (i + 1) _ (by omega) (fun k hk => ?_) (hsm.up rfl)⟩
    rw [up_a]
    unfold sndC
    by_cases z : k = 256 * c + h_f A * n + i
    · rw [if_pos z, if_pos (by omega)]
      congr 1
      omega
    · rw [if_neg z, hJ k hk]
      unfold sndC
      by_cases y : 256 * c + h_f A * n ≤ k ∧ k < 256 * c + h_f A * n + i
      · rw [if_pos y, if_pos (by omega)]
      · rw [if_neg y, if_neg (by omega)]
theorem lM_fn146 {P : Int32 → mm_I → Prop} {A : sA} {n L at_ : Nat} {l r g : Nat → Int32} {I : mm_I} (hN : HdN A) (hn : n < h_n A) (hI : HdI (s_sb A) I) (hl : ∀ i, i < h_z A n → I 78 i = l i) (hr : h_c A = 2 → ∀ i, i < h_z A n → I 78 (64 + i) = r i) (hg : ∀ k, k < 512 → I 82 k = g k)
    (H : ∀ J, (∀ k, k < 512 → J 82 k = sndU A n l r g k) → sm F_82 I J → mm_W 210 57 [some (.ref 58), some (.int (nI (n + 1))), some (.int (nI (at_ + L))), none, none, none, none] [] J (mm_qi 210 P)) : mm_W 210 146 [some (.ref 58), some (.int (nI n)), none, some (.int (nI L)), some (.int (nI at_)), some (.int 0), none] [] I (mm_qi 210 P) := by
  have h35 : I 58 35 = nI (h_c A) := hI.1.trans hN.1.1
  have hc := hN.1.2
  have c0 : ∀ J : mm_I, (∀ k, k < 512 → J 82 k = sndU A n l r g k) → sm F_82 I J → mm_W 210 146 [some (.ref 58), some (.int (nI n)), none, some (.int (nI L)), some (.int (nI at_)), some (.int (nI (h_c A))), none] [] J (mm_qi 210 P) := fun J a b => by
    refine c_M_finds_146 _ _ _ _ ⟨fun _ => ?_, fun z => ?_⟩
    · rw [nI_1, nI_add]
      exact H J a b
    · rw [b 58 35 rfl, h35] at z
      exact absurd z (nI_nlt (by omega) (by omega))
  refine c_M_finds_146 _ _ _ _ ⟨fun z => ?_, fun _ => ?_⟩
  · rw [h35] at z
    exact absurd z (nI_ge (a := 0) (by omega) (by omega))
  · refine lM_fn158 (c := 0) (q := l) (g := g) hN hn hI (by omega) (fun i hi => by rw [show 64 * 0 + i = i by omega]; exact hl i hi) (fun J a1 a2 => ?_) (h_z A n) 0 I (by omega) (fun k hk => ?_) sm.rf
    · rcases hc with c | c
      · have := c0 J (fun k hk => by rw [a1 k hk]; unfold sndU; rw [if_neg (by omega)]) a2
        rw [c] at this
        exact this
      · refine c_M_finds_146 _ _ _ _ ⟨fun z => ?_, fun _ => ?_⟩
        · rw [a2 58 35 rfl, h35, c] at z
          exact absurd z (by decide)
        · have I1 : HdI (s_sb A) J := ⟨(a2 58 35 rfl).trans hI.1, (a2 58 36 rfl).trans hI.2.1, (a2 58 37 rfl).trans hI.2.2.1, (a2 58 38 rfl).trans hI.2.2.2.1, fun j hj => (a2 64 j rfl).trans (hI.2.2.2.2.1 j hj), fun j hj => (a2 65 j rfl).trans (hI.2.2.2.2.2 j hj)⟩
          refine lM_fn158 (c := 1) (q := r) (g := sndC A n l 0 (h_z A n) g) hN hn I1 (by omega) (fun i hi => by rw [show 64 * 1 + i = 64 + i by omega, a2 78 _ rfl]; exact hr c i hi) (fun J2 b1 b2 => ?_) (h_z A n) 0 J (by omega) (fun k hk => ?_) sm.rf
          · have := c0 J2 (fun k hk => by rw [b1 k hk]; unfold sndU; rw [if_pos c]) (sm.tq a2 b2)
            rw [c] at this
            exact this
          · rw [a1 k hk]
            have e : ∀ g' : Nat → Int32, sndC A n r (256 * 1) 0 g' k = g' k := fun g' => if_neg (by omega)
            rw [e]
    · rw [hg k hk]
      have e : sndC A n l (256 * 0) 0 g k = g k := if_neg (by omega)
      rw [e]
def F_fn (a j : Nat) : Bool := F_la a j || F_hd a j || Nat.beq a 80 || Nat.beq a 81 || Nat.beq a 82
theorem F_fn_p {a j : Nat} (h : F_fn a j = false) : F_la a j = false ∧ F_hd a j = false ∧ F_82 a j = false := by
  unfold F_fn at h
  rw [Bool.or_eq_false_iff, Bool.or_eq_false_iff, Bool.or_eq_false_iff, Bool.or_eq_false_iff] at h
  exact ⟨h.1.1.1.1, h.1.1.1.2, h.2⟩
theorem sm.fl {I J : mm_I} (f : sm F_la I J) : sm F_fn I J := f.le (fun _ _ h => (F_fn_p h).1)
theorem sm.fh {I J : mm_I} (f : sm F_hd I J) : sm F_fn I J := f.le (fun _ _ h => (F_fn_p h).2.1)
theorem sm.f8 {I J : mm_I} (f : sm F_82 I J) : sm F_fn I J := f.le (fun _ _ h => (F_fn_p h).2.2)
theorem F_fn_sc {a j : Nat} (h : F_sc a j = false) : F_fn a j = false := by
  refine mm_bf fun z => ?_
  have q : a = 64 ∨ a = 65 ∨ 67 ≤ a ∨ (a = 58 ∧ 16 ≤ j) := by
    simp only [F_fn, F_la, F_ro, F_rd, F_hd, Bool.or_eq_true, Bool.and_eq_true, mm_beq_iff] at z
    omega
  have : F_sc a j = true := by
    unfold F_sc
    rcases q with q | q | q | ⟨q1, q2⟩
    · rw [q]; rfl
    · rw [q]; rfl
    · rw [Nat.ble_eq_true_of_le q]
      simp only [Bool.or_true, Bool.true_or]
    · rw [q1, Nat.ble_eq_true_of_le q2]
      rfl
  rw [this] at h
  cases h
theorem sm.fsc {I J : mm_I} (f : sm F_fn I J) : sm F_sc I J := f.le (fun _ _ h => F_fn_sc h)
abbrev FxI (A : sA) (I : mm_I) : Prop := StI (s_sb A) (s_su A) I ∧ HdI (s_sb A) I
theorem FxI_la {A : sA} {I J : mm_I} (h : FxI A I) (f : sm F_la I J) : FxI A J := ⟨StI_la h.1 f, HdI_la h.2 f⟩
theorem FxI_82 {A : sA} {I J : mm_I} (h : FxI A I) (a2 : sm F_82 I J) : FxI A J := ⟨⟨(a2 58 15 rfl).trans h.1.1, fun i hi => (a2 66 i rfl).trans (h.1.2 i hi)⟩, (a2 58 35 rfl).trans h.2.1, (a2 58 36 rfl).trans h.2.2.1, (a2 58 37 rfl).trans h.2.2.2.1, (a2 58 38 rfl).trans h.2.2.2.2.1, fun j hj => (a2 64 j rfl).trans (h.2.2.2.2.2.1 j hj), fun j hj => (a2 65 j rfl).trans (h.2.2.2.2.2.2 j hj)⟩
theorem FnI_la {S : fS} {I J : mm_I} (h : FnI S I) (f : sm F_la I J) : FnI S J := ⟨fun k hk => (f 80 k rfl).trans (h.1 k hk), fun k hk q => (f 81 k rfl).trans (h.2.1 k hk q), fun k hk => (f 82 k rfl).trans (h.2.2 k hk)⟩
theorem lM_fn57 {P : Int32 → mm_I → Prop} {A : sA} {I : mm_I} (hV : VA A) (hN : HdN A) (H : ∀ J, FnI (fnA A) J → FxI A J → sm F_fn I J → P 1 J) :
    ∀ (m at_ : Nat), at_ + m = s_su A → 21 ≤ at_ → ∀ J, FxI A J → FnI (fnS A (at_ - 21)) J → (fnS A (at_ - 21)).1.2 ≤ at_ → sm F_fn I J →
      (at_ < s_su A → (fnS A (at_ - 21)).1.1 < h_n A → mm_Mi 209 [.ref 58, .int (nI at_), .int (nI (fnS A (at_ - 21)).1.1)] J (fun r K => mm_W 210 83 [some (.ref 58), some (.int (nI (fnS A (at_ - 21)).1.1)), none, some (.int r), some (.int (nI at_)), none, none] [] K (mm_qi 210 P))) ∧
      mm_W 210 57 [some (.ref 58), some (.int (nI (fnS A (at_ - 21)).1.1)), some (.int (nI at_)), none, none, none, none] [] J (mm_qi 210 P) := by
  have hsu := hV.su
  have n16 := h_n_b hN
  intro m
  induction m using Nat.strongRecOn with
  | ind m ih =>
    intro at_ hm h21 J hX hF hb hsm
    have inv := fnS_inv (A := A) hsu (at_ - 21)
    have e21 : 21 + (at_ - 21) = at_ := by omega
    have es : fnS A (at_ - 21 + 1) = fnT A at_ (fnS A (at_ - 21)) := by
      show fnT A (21 + (at_ - 21)) _ = _
      rw [e21]
    have A83 : at_ < s_su A → (fnS A (at_ - 21)).1.1 < h_n A → mm_Mi 209 [.ref 58, .int (nI at_), .int (nI (fnS A (at_ - 21)).1.1)] J (fun r K => mm_W 210 83 [some (.ref 58), some (.int (nI (fnS A (at_ - 21)).1.1)), none, some (.int r), some (.int (nI at_)), none, none] [] K (mm_qi 210 P)) := fun hlt hnum => by
      refine sp_M_lengthAt hV hN hX.1 hX.2 hlt (by omega) (fun t ht hle K a1 a2 a3 => ?_) (fun hno K a3 => ?_)
      · -- found
        have L := fgO_len ht
        have nn : n_b A at_ < h_n A := L.1.2.2
        have X1 := FxI_la hX a3
        have F1 := FnI_la hF a3
        have bn := hV.byn (i := at_ + 1) (by omega)
        have bn1 : K 66 (at_ + 1) = nI (n_b A at_) := (X1.1.2 _ (by omega)).trans bn.1
        have et : fnS A (at_ - 21 + 1) = fnN A at_ t (fnS A (at_ - 21)) := by rw [es]; exact fnT_y (by omega) ht (by omega)
        have esk : fnS A (at_ + t.1 - 21) = fnN A at_ t (fnS A (at_ - 21)) := by
          have := fnS_skip (A := A) (k := at_ - 21 + 1) (t.1 - 1) (by
            rw [et]
            show 21 + (at_ - 21 + 1) + (t.1 - 1) ≤ at_ + t.1
            omega)
          rw [et] at this
          rw [← this]
          congr 1
          omega
        refine c_M_finds_83 _ _ _ ⟨fun _ => ⟨fun _ => ?_, fun z => absurd z (nI_pos (by omega))⟩, fun z => absurd z (nI_pos (by omega))⟩
        rw [nI_1, nI_clamp (n := at_ + 1) (by omega), bn1, nI_clamp (n := n_b A at_) (by omega)]
        have vn := vp_in_nI (n := n_b A at_) (N := 16) (by omega) (by omega)
        refine ⟨vp_in_nI (by omega) (by omega), vn, vn, ?_⟩
        refine lM_fn146 (A := A) (l := t.2.1) (r := t.2.2) (g := (fnS A (at_ - 21)).2.2.2) hN nn X1.2 a1 a2 F1.2.2 (fun K2 b1 b2 => ?_)
        have f2 : sm F_fn I K2 := sm.tq (((sm.tq hsm a3.fl).up (a := 80) (i := n_b A at_) (v := nI at_) rfl).up (a := 81) (i := n_b A at_) (v := nI t.1) rfl) b2.f8
        have e80 : ∀ k, K2 80 k = if k = n_b A at_ then nI at_ else K 80 k := fun k => by
          rw [b2 80 k rfl, up_o (by decide), up_a]
        have e81 : ∀ k, K2 81 k = if k = n_b A at_ then nI t.1 else K 81 k := fun k => by
          rw [b2 81 k rfl, up_a]
          by_cases z : k = n_b A at_
          · rw [if_pos z, if_pos z]
          · rw [if_neg z, if_neg z, up_o (by decide)]
        have X2 : FxI A K2 := FxI_82 (I := mm_up (mm_up K 80 (n_b A at_) (nI at_)) 81 (n_b A at_) (nI t.1)) X1 b2
        have FN : FnI (fnS A (at_ + t.1 - 21)) K2 := by
          rw [esk]
          refine ⟨fun k hk => ?_, fun k hk q => ?_, b1⟩
          · rw [e80]
            show _ = upd (fnS A (at_ - 21)).2.1 (n_b A at_) (nI at_) k
            unfold upd
            by_cases z : k = n_b A at_
            · rw [if_pos z, if_pos z]
            · rw [if_neg z, if_neg z]; exact F1.1 k hk
          · have q : upd (fnS A (at_ - 21)).2.1 (n_b A at_) (nI at_) k ≠ -1 := q
            rw [e81]
            show _ = upd (fnS A (at_ - 21)).2.2.1 (n_b A at_) (nI t.1) k
            unfold upd at q ⊢
            by_cases z : k = n_b A at_
            · rw [if_pos z, if_pos z]
            · rw [if_neg z] at q
              rw [if_neg z, if_neg z]; exact F1.2.1 k hk q
        have nx := (ih (s_su A - (at_ + t.1)) (by omega) (at_ + t.1) (by omega) (by omega) K2 X2 FN (by rw [esk]; exact Nat.le_refl _) f2).2
        rw [esk] at nx
        exact nx
      · -- none here
        have et : fnS A (at_ + 1 - 21) = fnS A (at_ - 21) := by
          rw [show at_ + 1 - 21 = at_ - 21 + 1 by omega, es]
          exact fnT_no hno
        have X1 := FxI_la hX a3
        have F1 := FnI_la hF a3
        have f1 := sm.tq hsm a3.fl
        refine c_M_finds_83 _ _ _ ⟨fun z => absurd z (by decide), fun _ => ⟨fun z => ⟨fun y => absurd y (by decide), fun _ => ?_⟩, fun z => ?_⟩⟩
        · rw [X1.1.1, nI_1] at z
          have z := (nI_leI (by omega) (by omega)).mp z
          refine H K ?_ X1 f1
          have : fnA A = fnS A (at_ - 21) := by
            show fnS A (s_su A - 21) = _
            rw [show s_su A = at_ + 1 by omega]
            exact et
          rw [this]
          exact F1
        · rw [X1.1.1, nI_1] at z
          have z := (nI_ltI (by omega) (by omega)).mp z
          have nx := (ih (m - 1) (by omega) (at_ + 1) (by omega) (by omega) K X1 (by rw [et]; exact F1) (by rw [et]; omega) f1).1 z (by rw [et]; exact hnum)
          rw [et] at nx
          rw [nI_1]
          exact nx
    refine ⟨A83, ?_⟩
    refine c_M_finds_57 _ _ (sp_M_headFrames hN hX.2 ⟨fun z => ?_, fun z => ⟨fun y => ?_, fun y => ?_⟩⟩)
    · have z := (nI_leI (by omega) (by omega)).mp z
      refine H J ?_ hX hsm
      have := fnS_end (A := A) (k := at_ - 21) z (s_su A - at_)
      rw [show at_ - 21 + (s_su A - at_) = s_su A - 21 by omega] at this
      show FnI (fnS A (s_su A - 21)) J
      rw [this]
      exact hF
    · rw [hX.1.1] at y
      have y := (nI_leI (by omega) (by omega)).mp y
      refine H J ?_ hX hsm
      show FnI (fnS A (s_su A - 21)) J
      rw [show s_su A = at_ by omega]
      exact hF
    · rw [hX.1.1] at y
      have y := (nI_ltI (by omega) (by omega)).mp y
      have z := (nI_ltI (by omega) (by omega)).mp z
      exact A83 y z
theorem lM_fn32 {P : Int32 → mm_I → Prop} {I : mm_I} (H : ∀ J, (∀ k, k < 512 → J 82 k = 0) → sm F_82 I J → mm_W 210 57 [some (.ref 58), some (.int 0), some (.int 21), none, none, none, none] [] J (mm_qi 210 P)) : ∀ (r k : Nat) (J : mm_I), k + r = 512 → (∀ i, i < k → J 82 i = 0) → sm F_82 I J → mm_W 210 32 [some (.ref 58), some (.int (nI k)), none, none, none, none, none] [] J (mm_qi 210 P) := by
  intro r
  induction r with
  | zero =>
    intro k J hk h hsm
    have hk : k = 512 := by omega
    subst hk
    exact c_M_finds_32 _ ⟨fun _ => H J h hsm, fun z => absurd z (by decide)⟩
  | succ r ih =>
    intro k J hk h hsm
    refine c_M_finds_32 _ ⟨fun z => absurd z (nI_ge (b := 512) (by omega) (by omega)), fun _ => ⟨vp_in_nI (by omega) (by omega), ?_⟩⟩
    rw [nI_clamp (n := k) (by omega), nI_1]
    refine ih (k + 1) _ (by omega) (fun i hi => ?_) (hsm.up rfl)
    rw [up_a]
    by_cases z : i = k
    · rw [if_pos z]
    · rw [if_neg z]; exact h i (by omega)
def F_80 (a _ : Nat) : Bool := Nat.beq a 80
theorem lM_fn11 {P : Int32 → mm_I → Prop} {I : mm_I} (H : ∀ J, (∀ k, k < 16 → J 80 k = -1) → sm F_80 I J → mm_W 210 32 [some (.ref 58), some (.int 0), none, none, none, none, none] [] J (mm_qi 210 P)) : ∀ (r k : Nat) (J : mm_I), k + r = 16 → (∀ i, i < k → J 80 i = -1) → sm F_80 I J → mm_W 210 11 [some (.ref 58), some (.int (nI k)), none, none, none, none, none] [] J (mm_qi 210 P) := by
  intro r
  induction r with
  | zero =>
    intro k J hk h hsm
    have hk : k = 16 := by omega
    subst hk
    exact c_M_finds_11 _ ⟨fun _ => H J h hsm, fun z => absurd z (by decide)⟩
  | succ r ih =>
    intro k J hk h hsm
    refine c_M_finds_11 _ ⟨fun z => absurd z (nI_ge (b := 16) (by omega) (by omega)), fun _ => ⟨vp_in_nI (by omega) (by omega), ?_⟩⟩
    rw [nI_clamp (n := k) (by omega), nI_1]
    refine ih (k + 1) _ (by omega) (fun i hi => ?_) (hsm.up rfl)
    rw [up_a]
    by_cases z : i = k
    · rw [if_pos z]
    · rw [if_neg z]; exact h i (by omega)
theorem sp_M_finds {P : Int32 → mm_I → Prop} {A : sA} {I : mm_I} (hR : RM A I) (hV : VA A)
    (H1 : hdC A = 0 → ∀ J, FnI (fnA A) J → FxI A J → sm F_fn I J → P 1 J) (H0 : ¬ hdC A = 0 → ∀ J, sm F_fn I J → P 0 J) : mm_Mi 210 [.ref 58] I P := by
  refine e_M_finds (sp_M_headNow hR hV (fun J a1 a2 => ⟨fun z => ?_, fun z => H0 z J a2.fh⟩))
  have hN := hd_n hV z
  have X0 : FxI A J := ⟨⟨(a2 58 15 rfl).trans hR.2.2.2.2.1, fun i hi => (a2 66 i rfl).trans (hR.2.2.2.2.2 i hi)⟩, a1 z⟩
  refine lM_fn11 (fun J1 b1 b2 => ?_) 16 0 J (by omega) (fun i hi => absurd hi (Nat.not_lt_zero i)) sm.rf
  refine lM_fn32 (fun J2 c1 c2 => ?_) 512 0 J1 (by omega) (fun i hi => absurd hi (Nat.not_lt_zero i)) sm.rf
  have f1 : sm F_fn J J1 := b2.le (fun a j h => by
    unfold F_fn at h
    rw [Bool.or_eq_false_iff, Bool.or_eq_false_iff, Bool.or_eq_false_iff, Bool.or_eq_false_iff] at h
    exact h.1.1.2)
  have X1 : FxI A J1 := ⟨⟨(b2 58 15 rfl).trans X0.1.1, fun i hi => (b2 66 i rfl).trans (X0.1.2 i hi)⟩, (b2 58 35 rfl).trans X0.2.1, (b2 58 36 rfl).trans X0.2.2.1, (b2 58 37 rfl).trans X0.2.2.2.1, (b2 58 38 rfl).trans X0.2.2.2.2.1, fun j hj => (b2 64 j rfl).trans (X0.2.2.2.2.2.1 j hj), fun j hj => (b2 65 j rfl).trans (X0.2.2.2.2.2.2 j hj)⟩
  have X2 := FxI_82 X1 c2
  have h21 := hN.2.2.2.2.2
  have F2 : FnI (fnS A (21 - 21)) J2 := ⟨fun k hk => (c2 80 k rfl).trans (b1 k hk), fun k hk q => absurd rfl q, c1⟩
  exact (lM_fn57 hV hN (fun K d1 d2 d3 => H1 z K d1 d2 (sm.tq (sm.tq (sm.tq a2.fh f1) c2.f8) d3)) (s_su A - 21) 21 (by omega) (Nat.le_refl _) J2 X2 F2 (Nat.le_refl 21) sm.rf).2
