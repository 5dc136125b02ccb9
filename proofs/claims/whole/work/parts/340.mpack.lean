/-! pack of the reference -/
def w_hs (l : Nat → Int32) : Nat → wS → wS
  | 0, W => W
  | k + 1, W => w_by (w_hs l k W) (l k)
theorem w_hs_n {l : Nat → Int32} : ∀ (k : Nat) (W : wS), (w_hs l k W).1.1 = W.1.1 + k := by
  intro k
  induction k with
  | zero => intro W; rfl
  | succ k ih =>
    intro W
    show (w_hs l k W).1.1 + 1 = _
    rw [ih]; rfl
theorem wB_hs {l : Nat → Int32} : ∀ (k : Nat) (W : wS), wB W → wB (w_hs l k W) := by
  intro k
  induction k with
  | zero => intro W h; exact h
  | succ k ih => intro W h; exact wB_by (ih W h)
def hdB (A : sA) (j : Nat) : Int32 := if j = 0 then 83 else if j = 1 then 80 else if j = 2 then nI (s_ch A) else if j = 3 then nI (s_wd A) else if j = 4 then nI (s_fr A) else if j = 5 then nI (s_cn A 0 / 256) else if j = 6 then nI (s_cn A 0 % 256) else if (j - 7) % 4 = 3 then s_sh A ((j - 7) / 4) else s_wt A (3 * ((j - 7) / 4) + (j - 7) % 4)
theorem hdB_w {A : sA} {k i : Nat} (hi : i < 3) : hdB A (7 + 4 * k + i) = s_wt A (3 * k + i) := by
  unfold hdB
  rw [if_neg (by omega), if_neg (by omega), if_neg (by omega), if_neg (by omega), if_neg (by omega), if_neg (by omega), if_neg (by omega), if_neg (by omega)]
  rw [show (7 + 4 * k + i - 7) / 4 = k by omega, show (7 + 4 * k + i - 7) % 4 = i by omega]
theorem hdB_s {A : sA} {k : Nat} : hdB A (7 + 4 * k + 3) = s_sh A k := by
  unfold hdB
  rw [if_neg (by omega), if_neg (by omega), if_neg (by omega), if_neg (by omega), if_neg (by omega), if_neg (by omega), if_neg (by omega), if_pos (by omega)]
  rw [show (7 + 4 * k + 3 - 7) / 4 = k by omega]
def w_0 : wS := ((0, 0), fun _ => 0)
def w_h (A : sA) : wS := w_ck (w_hs (hdB A) 19 w_0) 0
def w_f2 (f : Nat) (W : wS) : wS := w_by (w_by W 165) (nI f)
def w_fj (A : sA) (f : Nat) (W : wS) : wS := if s_ch A = 2 then w_bs (nI (jOf A (s_fr A) f (s_al A))) 2 (w_f2 f W) else w_f2 f W
def w_f1 (A : sA) (f : Nat) (W : wS) : Nat → wS
  | 0 => w_fj A f W
  | r + 1 => wRw A f (qSo A f r) (w_f1 A f W r)
def w_fr (A : sA) (f : Nat) (W : wS) : wS := w_ck (w_f1 A f W (s_ch A)) W.1.1
def w_fs (A : sA) : Nat → wS
  | 0 => w_h A
  | k + 1 => w_fr A k (w_fs A k)
def oPack (A : sA) : Int32 × sA := if rdy A then (nI (w_fs A (nfr A)).1.1, aW A (w_fs A (nfr A))) else (-1, A)
def sbS (A : sA) (f : Nat) : Nat → Nat
  | 0 => 0
  | k + 1 => sbS A f k + SB A (s_fr A) f (s_al A) (qSo A f k)
theorem rdy_ch {A : sA} (h : rdy A) : s_ch A = 1 ∨ s_ch A = 2 := by rcases h with z | z; exact Or.inl z; exact Or.inr z.1
theorem sbS_j {A : sA} {f : Nat} (h : rdy A) : sbS A f (s_ch A) = jBt A (s_fr A) f (s_al A) (jOf A (s_fr A) f (s_al A)) := by
  unfold jBt
  rcases rdy_ch h with z | z
  · rw [z, if_neg (by omega)]
    show 0 + SB A (s_fr A) f (s_al A) (qSo A f 0) = SB A (s_fr A) f (s_al A) (qSo A f 0) + 0
    omega
  · rw [z, if_pos rfl]
    show 0 + SB A (s_fr A) f (s_al A) (qSo A f 0) + SB A (s_fr A) f (s_al A) (qSo A f 1) = _
    rw [Nat.zero_add]
theorem sbS_le {A : sA} {f k : Nat} (h : rdy A) (hk : k < s_ch A) : sbS A f k + SB A (s_fr A) f (s_al A) (qSo A f k) ≤ jBt A (s_fr A) f (s_al A) (jOf A (s_fr A) f (s_al A)) := by
  rw [← sbS_j h]
  rcases rdy_ch h with z | z
  · have k0 : k = 0 := by omega
    rw [z, k0]
    exact Nat.le_refl _
  · rcases (by omega : k = 0 ∨ k = 1) with k0 | k0
    · rw [z, k0]
      exact Nat.le_add_right _ _
    · rw [z, k0]
      exact Nat.le_refl _
theorem w_f2_ok (f : Nat) (W : wS) (hb : wB W) : wOk (w_f2 f W) ∧ wB (w_f2 f W) ∧ wps (w_f2 f W) = 8 * (W.1.1 + 2) := ⟨wOk_by _ _, wB_by (wB_by hb), rfl⟩
theorem w_fj_ok (A : sA) (f : Nat) (W : wS) (hb : wB W) : wOk (w_fj A f W) ∧ wB (w_fj A f W) ∧ wps (w_fj A f W) = 8 * (W.1.1 + 2) + (if s_ch A = 2 then 2 else 0) := by
  have o := w_f2_ok f W hb
  unfold w_fj
  by_cases q : s_ch A = 2
  · rw [if_pos q, if_pos q]
    have p := wps_bs (v := nI (jOf A (s_fr A) f (s_al A))) 2 _ o.1
    exact ⟨p.1, wB_bs _ _ o.1 o.2.1, by rw [p.2, o.2.2]⟩
  · rw [if_neg q, if_neg q]
    exact o
theorem w_f1_ok {A : sA} {f : Nat} {W : wS} (hV : VA A) (hF : FrO A (s_fr A) f) (hb : wB W) : ∀ k, k ≤ s_ch A → wOk (w_f1 A f W k) ∧ wB (w_f1 A f W k) ∧ wps (w_f1 A f W k) = 8 * (W.1.1 + 2) + (if s_ch A = 2 then 2 else 0) + sbS A f k := by
  intro k
  induction k with
  | zero => intro _; exact w_fj_ok A f W hb
  | succ k ih =>
    intro hk
    have a := ih (by omega)
    have so := soF_ok (fr := s_fr A) (f := f) (set := s_al A) hV (show k < s_ch A by omega)
    have nb := o_rn_b hF
    have r := wps_row (b := o_rb A (qSo A f k)) (ef := s_ef A) (set := s_al A) hV.wb (o_rx_b hV hF so) nb.2.1 nb.1 a.1
    refine ⟨r.1, wB_row a.1 a.2.1, ?_⟩
    show wps (wRw A f (qSo A f k) (w_f1 A f W k)) = _ + (sbS A f k + SB A (s_fr A) f (s_al A) (qSo A f k))
    have r2 : wps (wRw A f (qSo A f k) (w_f1 A f W k)) = wps (w_f1 A f W k) + SB A (s_fr A) f (s_al A) (qSo A f k) := r.2
    rw [r2, a.2.2]
    generalize SB A (s_fr A) f (s_al A) (qSo A f k) = t
    omega
theorem wps_u {W : wS} (h : wOk W) : W.1.1 = (wps W + 7) / 8 := by
  unfold wps
  have h1 := h.1
  by_cases q : W.1.2 = 0
  · rw [if_pos q]; omega
  · rw [if_neg q]
    have := h.2 q
    omega
theorem w_ck_n (W : wS) (a : Nat) : (w_ck W a).1 = (W.1.1 + 2, 0) := rfl
theorem wB_ck {W : wS} {a : Nat} (h : wB W) : wB (w_ck W a) := wB_by (wB_by h)
theorem w_fr_ok {A : sA} {f : Nat} {W : wS} (hV : VA A) (hF : FrO A (s_fr A) f) (hb : wB W) : wB (w_fr A f W) ∧ (w_fr A f W).1 = (W.1.1 + fsz A (s_fr A) f (s_al A), 0) := by
  have a := w_f1_ok hV hF hb (s_ch A) (Nat.le_refl _)
  refine ⟨wB_ck a.2.1, ?_⟩
  have u := wps_u a.1
  unfold w_fr
  rw [w_ck_n, u, a.2.2, sbS_j hF.1]
  unfold fsz
  congr 1
  generalize jBt A (s_fr A) f (s_al A) (jOf A (s_fr A) f (s_al A)) = t
  split <;> omega
theorem hwB_n {w s x : Nat → Int32} {n b ef set : Nat} (hn : 1 ≤ n) : hwB w s x n b ef set ≤ 4 + n * b := by
  have : b ≤ n * b := Nat.le_mul_of_pos_left b hn
  unfold hwB
  split
  · omega
  · split <;> omega
theorem jBt_n {A : sA} {fr f set j : Nat} (hV : VA A) (hF : FrO A fr f) : jBt A fr f set j ≤ 8 + 34 * fr := by
  have nb := o_rn_b hF
  have nf : o_rn A fr f ≤ fr := by
    unfold o_rn
    split <;> omega
  have k : ∀ q, SB A fr f set q ≤ 4 + 17 * fr := fun q => by
    have a : SB A fr f set q ≤ 4 + o_rn A fr f * o_rb A q := hwB_n nb.1
    have b := o_rb_b (sort := q) hV
    have c : o_rn A fr f * o_rb A q ≤ fr * 17 := Nat.mul_le_mul nf b
    omega
  have k0 := k (soF j 0)
  have k1 := k (soF j 1)
  unfold jBt
  split <;> omega
theorem fsz_n {A : sA} {fr f set : Nat} (hV : VA A) (hF : FrO A fr f) : 8 * fsz A fr f set ≤ 49 + 34 * fr := by
  have := jBt_n (set := set) (j := jOf A fr f set) hV hF
  unfold fsz
  generalize jBt A fr f set (jOf A fr f set) = t at *
  split <;> omega
theorem szB_n {A : sA} (hV : VA A) : ∀ k, k ≤ nfr A → 8 * szB A (s_fr A) (s_al A) k ≤ 168 + 49 * k + 34 * (s_fr A * k) := by
  intro k
  induction k with
  | zero => intro _; exact Nat.le_refl _
  | succ k ih =>
    intro hk
    have a := ih (by omega)
    have b := fsz_n (set := s_al A) hV (nfr_ok hV (show k < nfr A by omega))
    show 8 * (szB A (s_fr A) (s_al A) k + fsz A (s_fr A) k (s_al A)) ≤ _
    have ms : s_fr A * (k + 1) = s_fr A * k + s_fr A := Nat.mul_succ _ _
    rw [ms]
    omega
theorem szB_c {A : sA} (hV : VA A) {k : Nat} (hk : k ≤ nfr A) : szB A (s_fr A) (s_al A) k ≤ 1500 := by
  have a := szB_n hV k hk
  have n16 := nfr_le hV
  have hf := hV.fr
  have hcn := hV.cn (c := 0) (by omega)
  have m : s_fr A * k ≤ 320 := by
    by_cases q : k = 0
    · rw [q]; exact Nat.zero_le _
    · have F := nfr_ok hV (show k - 1 < nfr A by omega)
      have e : s_fr A * k = s_fr A * (k - 1) + s_fr A := by
        rw [← Nat.mul_succ]
        congr 1
        omega
      have := F.2.1
      omega
  omega
theorem w_fs_ok {A : sA} (hV : VA A) : ∀ k, k ≤ nfr A → wB (w_fs A k) ∧ (w_fs A k).1 = (szB A (s_fr A) (s_al A) k, 0) := by
  intro k
  induction k with
  | zero => intro _; exact ⟨wB_ck (wB_hs 19 w_0 (fun i hi => absurd hi (Nat.not_lt_zero i))), rfl⟩
  | succ k ih =>
    intro hk
    have a := ih (by omega)
    have b := w_fr_ok hV (nfr_ok hV (show k < nfr A by omega)) a.1
    refine ⟨b.1, ?_⟩
    show (w_fr A k (w_fs A k)).1 = _
    rw [b.2, a.2]
    rfl
theorem jNs_aW {A : sA} {W : wS} {fr f set : Nat} : ∀ k, jNs (aW A W) fr f set k = jNs A fr f set k := by
  intro k
  induction k with
  | zero => rfl
  | succ k ih =>
    show (if jBt (aW A W) fr f set (k + 1) < jBt (aW A W) fr f set (jNs (aW A W) fr f set k) then k + 1 else jNs (aW A W) fr f set k) = _
    rw [ih]
    rfl
theorem jOf_aW {A : sA} {W : wS} {fr f set : Nat} : jOf (aW A W) fr f set = jOf A fr f set := by
  unfold jOf
  rw [jNs_aW]
  rfl
theorem F_pk_58 {a j : Nat} (h : a < 58) : F_pk a j = false := mm_bf fun z => by
  simp only [F_pk, F_ls, F_rw, F_rc, F_cs, F_er, F_cut, F_gr, F_sp, F_ru, F_wr, Bool.or_eq_true, Bool.and_eq_true, mm_beq_iff] at z
  omega
theorem sm.pkFM {I J : mm_I} (f : sm F_pk I J) : FM I J := fun _ ha => f.fn _ (fun _ => F_pk_58 ha)
theorem lM_pk192 {P : Int32 → mm_I → Prop} {A : sA} {f : Nat} {W : wS} {I : mm_I} (hV : VA A) (hF : FrO A (s_fr A) f) (hb : wB W) (hc : W.1.1 + fsz A (s_fr A) f (s_al A) ≤ 4000)
    (H : ∀ J, PkI A (w_fr A f W) J → FM I J → mm_W 193 140 [some (.ref 58), some (.int (nI (f + 1))), none, none, none] [] J (mm_qi 193 P)) : ∀ (r k : Nat) (J : mm_I), k + r = s_ch A → PkI A (w_f1 A f W k) J → FM I J → mm_W 193 192 [some (.ref 58), some (.int (nI f)), some (.int (nI W.1.1)), some (.int (nI (jOf A (s_fr A) f (s_al A)))), some (.int (nI k))] [] J (mm_qi 193 P) := by
  have hch := hV.ch
  have cc : 8 * (W.1.1 + 2) + (if s_ch A = 2 then 2 else 0) + jBt A (s_fr A) f (s_al A) (jOf A (s_fr A) f (s_al A)) + 16 ≤ 32000 := by
    unfold fsz at hc
    generalize jBt A (s_fr A) f (s_al A) (jOf A (s_fr A) f (s_al A)) = t at *
    by_cases q : s_ch A = 2
    · rw [if_pos q] at hc ⊢; omega
    · rw [if_neg q] at hc ⊢; omega
  intro r
  induction r with
  | zero =>
    intro k J hk hP hsm
    have hk : k = s_ch A := by omega
    subst hk
    have o := w_f1_ok hV hF hb (s_ch A) (Nat.le_refl _)
    have u := wps_u o.1
    rw [sbS_j hF.1] at o
    refine c_M_pack_192 _ _ _ _ ⟨fun _ => ?_, fun h => ?_⟩
    · refine sp_M_putsCheck (PkI_wr hP) (by omega) (by omega) (fun J2 a1 a2 => ?_)
      rw [nI_1]
      exact H J2 (PkI_st hP a2 a1) (hsm.tr a2.pw.pkFM)
    · rw [show J 58 4 = nI (s_ch A) from hP.1.2.1.1] at h
      exact absurd h (nI_nlt (by omega) (by omega))
  | succ r ih =>
    intro k J hk hP hsm
    have o := w_f1_ok hV hF hb k (by omega)
    have sl := sbS_le (f := f) hF.1 (show k < s_ch A by omega)
    have so := soF_ok (fr := s_fr A) (f := f) (set := s_al A) hV (show k < s_ch A by omega)
    have jo := jOf_ok A (s_fr A) f (s_al A)
    refine c_M_pack_192 _ _ _ _ ⟨fun h => ?_, fun _ => ?_⟩
    · rw [show J 58 4 = nI (s_ch A) from hP.1.2.1.1] at h
      exact absurd h (nI_ge (by omega) (by omega))
    · refine sp_M_sortOf (by omega) (by omega) (sp_M_putsRow hP hV hF so o.1 o.2.1 (show wps (w_f1 A f W k) + SB A (s_fr A) f (s_al A) (qSo A f k) ≤ 32000 by rw [o.2.2]; omega) (fun J2 a1 a2 => ?_))
      rw [nI_1]
      exact ih (k + 1) J2 (by omega) a1 (hsm.tr a2.pkFM)
theorem lM_pk140 {P : Int32 → mm_I → Prop} {A : sA} {I : mm_I} (hV : VA A)
    (H : ∀ J, PkI A (w_fs A (nfr A)) J → FM I J → P (nI (w_fs A (nfr A)).1.1) J) : ∀ (r k : Nat) (J : mm_I), k + r = nfr A → PkI A (w_fs A k) J → FM I J → mm_W 193 140 [some (.ref 58), some (.int (nI k)), none, none, none] [] J (mm_qi 193 P) := by
  have n16 := nfr_le hV
  have hal := hV.al
  intro r
  induction r with
  | zero =>
    intro k J hk hP hsm
    have hk : k = nfr A := by omega
    subst hk
    refine c_M_pack_140 _ (sp_M_frames (A := A) hP.1.2.1 hP.1.2.2.1 hV ⟨fun _ => ?_, fun h => absurd h (nI_nlt (by omega) (by omega))⟩)
    rw [(PkI_wr hP).1]
    exact H J hP hsm
  | succ r ih =>
    intro k J hk hP hsm
    have hF := nfr_ok hV (show k < nfr A by omega)
    have o := w_fs_ok hV k (by omega)
    have c1 := szB_c hV (show k + 1 ≤ nfr A by omega)
    have e1 : (w_fs A k).1.1 = szB A (s_fr A) (s_al A) k := by rw [o.2]
    have c2 : (w_fs A k).1.1 + fsz A (s_fr A) k (s_al A) ≤ 1500 := by rw [e1]; exact c1
    have f4 : 4 ≤ fsz A (s_fr A) k (s_al A) := Nat.le_add_right 4 _
    refine c_M_pack_140 _ (sp_M_frames (A := A) hP.1.2.1 hP.1.2.2.1 hV ⟨fun h => absurd h (nI_ge (by omega) (by omega)), fun _ => ?_⟩)
    have w0 := PkI_wr hP
    refine sp_M_putsByte w0.1 w0.2.2 (by omega) (fun J1 a1 a2 => ?_)
    have u1 : (w_by (w_fs A k) 165).1.1 = (w_fs A k).1.1 + 1 := rfl
    refine sp_M_putsByte a1.1 a1.2.2 (by omega) (fun J2 b1 b2 => ?_)
    have p2 : PkI A (w_f2 k (w_fs A k)) J2 := PkI_st (PkI_st hP a2 a1) b2 b1
    have f2 : FM I J2 := (hsm.tr a2.pw.pkFM).tr b2.pw.pkFM
    have u2 : (w_f2 k (w_fs A k)).1.1 = (w_fs A k).1.1 + 2 := rfl
    have ok2 := w_f2_ok k (w_fs A k) o.1
    have okj := w_fj_ok A k (w_fs A k) o.1
    have hV2 : VA (aW A (w_f2 k (w_fs A k))) := VA_aW hV (by omega) ok2.2.1
    rw [show J2 58 8 = nI (s_al A) from p2.1.2.2.1.2.2, w0.1]
    refine sp_M_joinOf (A := aW A (w_f2 k (w_fs A k))) p2.1 hV2 hF (by omega) hal.2 (fun J3 _ c2 => ?_)
    have p3 := PkI_ls p2 c2
    have f3 : FM I J3 := f2.tr c2.pl.pkFM
    have ej : jOf (aW A (w_f2 k (w_fs A k))) (s_fr (aW A (w_f2 k (w_fs A k)))) k (s_al A) = jOf A (s_fr A) k (s_al A) := jOf_aW
    rw [ej, show J3 58 4 = nI (s_ch A) from p3.1.2.1.1]
    have nx := fun J => ih (k + 1) J (by omega)
    have go : ∀ J, PkI A (w_f1 A k (w_fs A k) 0) J → FM I J → mm_W 193 192 [some (.ref 58), some (.int (nI k)), some (.int (nI (w_fs A k).1.1)), some (.int (nI (jOf A (s_fr A) k (s_al A)))), some (.int 0)] [] J (mm_qi 193 P) := fun J h1 h2 =>
      lM_pk192 hV hF o.1 (by omega) (fun J' g1 g2 => nx J' g1 (h2.tr g2)) (s_ch A) 0 J (Nat.zero_add _) h1 FM.rf
    have hch := hV.ch
    by_cases q : s_ch A = 2
    · have q1 : nI (s_ch A) = 2 := by rw [q]; rfl
      refine ⟨fun z => absurd q1 z, fun _ => ?_⟩
      refine sp_M_putsBits (k := 2) (by omega) (PkI_wr p3) ok2.1 (by omega) (fun J4 d1 d2 => go J4 ?_ (f3.tr d2.pw.pkFM))
      show PkI A (w_fj A k (w_fs A k)) J4
      unfold w_fj
      rw [if_pos q]
      exact PkI_st p3 d2 d1
    · have q1 : ¬ nI (s_ch A) = 2 := fun z => q ((nI_eq (b := 2) (by omega) (by omega)).mp z)
      refine ⟨fun _ => go J3 ?_ f3, fun z => absurd z q1⟩
      show PkI A (w_fj A k (w_fs A k)) J3
      unfold w_fj
      rw [if_neg q]
      exact p3
theorem lM_pk92 {P : Int32 → mm_I → Prop} {A : sA} {I : mm_I} {k : Nat} (hk : k < 3)
    (H : ∀ J, PkI A (w_hs (hdB A) (7 + 4 * (k + 1)) w_0) J → FM I J → mm_W 193 85 [some (.ref 58), some (.int (nI (k + 1))), none, none, none] [] J (mm_qi 193 P)) : ∀ (r i : Nat) (J : mm_I), i + r = 3 → PkI A (w_hs (hdB A) (7 + 4 * k + i) w_0) J → FM I J → mm_W 193 92 [some (.ref 58), some (.int (nI k)), some (.int (nI i)), none, none] [] J (mm_qi 193 P) := by
  intro r
  induction r with
  | zero =>
    intro i J hi hP hsm
    have hi : i = 3 := by omega
    subst hi
    have w0 := PkI_wr hP
    have n0 := w_hs_n (l := hdB A) (7 + 4 * k + 3) w_0
    have n1 : w_0.1.1 = 0 := rfl
    refine c_M_pack_92 _ _ ⟨fun _ => ⟨vp_in_nI (by omega) (by omega), ?_⟩, fun h => absurd h (by decide)⟩
    rw [nI_clamp (n := k) (by omega), show J 63 k = s_sh A k from hP.1.2.2.2.1.2 k hk, ← hdB_s (A := A) (k := k)]
    refine sp_M_putsByte w0.1 w0.2.2 (by omega) (fun J1 a1 a2 => ?_)
    rw [nI_1]
    exact H J1 (PkI_st hP a2 a1) (hsm.tr a2.pw.pkFM)
  | succ r ih =>
    intro i J hi hP hsm
    have w0 := PkI_wr hP
    have n0 := w_hs_n (l := hdB A) (7 + 4 * k + i) w_0
    have n1 : w_0.1.1 = 0 := rfl
    have e3 : (3 : Int32) * nI k + nI i = nI (3 * k + i) := by
      show nI 3 * _ + _ = _
      rw [pk_mul, nI_add]
    refine c_M_pack_92 _ _ ⟨fun h => absurd h (nI_ge (b := 3) (by omega) (by omega)), fun _ => ?_⟩
    rw [e3, nI_clamp (n := 3 * k + i) (by omega), show J 62 (3 * k + i) = s_wt A (3 * k + i) from hP.1.2.2.2.1.1 _ (by omega), ← hdB_w (A := A) (k := k) (i := i) (by omega)]
    refine ⟨vp_in_nI (by omega) (by omega), sp_M_putsByte w0.1 w0.2.2 (by omega) (fun J1 a1 a2 => ?_)⟩
    rw [nI_1]
    exact ih (i + 1) J1 (by omega) (PkI_st hP a2 a1) (hsm.tr a2.pw.pkFM)
theorem lM_pk85 {P : Int32 → mm_I → Prop} {A : sA} {I : mm_I} (H : ∀ J, PkI A (w_h A) J → FM I J → mm_W 193 140 [some (.ref 58), some (.int 0), none, none, none] [] J (mm_qi 193 P)) : ∀ (r k : Nat) (J : mm_I), k + r = 3 → PkI A (w_hs (hdB A) (7 + 4 * k) w_0) J → FM I J → mm_W 193 85 [some (.ref 58), some (.int (nI k)), none, none, none] [] J (mm_qi 193 P) := by
  intro r
  induction r with
  | zero =>
    intro k J hk hP hsm
    have hk : k = 3 := by omega
    subst hk
    have n0 := w_hs_n (l := hdB A) (7 + 4 * 3) w_0
    have n1 : w_0.1.1 = 0 := rfl
    refine c_M_pack_85 _ ⟨fun _ => ?_, fun h => absurd h (by decide)⟩
    refine sp_M_putsCheck (a := 0) (PkI_wr hP) (by omega) (by omega) (fun J2 a1 a2 => ?_)
    exact H J2 (PkI_st hP a2 a1) (hsm.tr a2.pw.pkFM)
  | succ r ih =>
    intro k J hk hP hsm
    refine c_M_pack_85 _ ⟨fun h => absurd h (nI_ge (b := 3) (by omega) (by omega)), fun _ => ?_⟩
    exact lM_pk92 (k := k) (by omega) (fun J' a1 a2 => ih (k + 1) J' (by omega) a1 (hsm.tr a2)) 3 0 J (by omega) hP FM.rf
theorem oM_pack {A : sA} {I : mm_I} (hR : RM A I) (hV : VA A) : mm_Mi 193 [.ref 58] I (oR (oPack A) RM FM I) := by
  refine e_M_pack (sp_M_isReady (A := A) hR.2.1 hV ⟨fun h => ?_, fun h => ?_⟩)
  · have h := b1_n h
    have hch := rdy_ch h
    unfold oPack
    rw [if_pos h]
    generalize hI0 : mm_up (mm_up I 58 16 0) 58 15 0 = I0
    have f0 : FM I I0 := by rw [← hI0]; exact (FM.rf.up (by omega)).up (by omega)
    have w0 : ∀ i, i < w_0.1.1 → I0 66 i = w_0.2 i := fun i hi => absurd hi (Nat.not_lt_zero i)
    have e0 : I0 58 15 = nI w_0.1.1 := by rw [← hI0]; rfl
    have R0 : RMt A I0 ∧ RMs A I0 ∧ RMo A I0 ∧ RMp A I0 := by rw [← hI0]; exact ⟨hR.1, hR.2.1, hR.2.2.1, hR.2.2.2.1⟩
    refine sp_M_putsByte e0 w0 (by show 0 < 4000; omega) (fun I1 a1 a2 => ?_)
    have p1 : PkI A (w_hs (hdB A) 1 w_0) I1 := by
      refine ⟨⟨⟨(a2 58 1 rfl).trans R0.1.1, fun i hi => (a2 59 i rfl).trans (R0.1.2 i hi)⟩, ⟨(a2 58 4 rfl).trans R0.2.1.1, (a2 58 5 rfl).trans R0.2.1.2.1, (a2 58 9 rfl).trans R0.2.1.2.2.1, fun c hc => (a2 61 c rfl).trans (R0.2.1.2.2.2.1 c hc), fun c i hc hi => (a2 60 _ rfl).trans (R0.2.1.2.2.2.2 c i hc hi)⟩, ⟨(a2 58 6 rfl).trans R0.2.2.1.1, (a2 58 7 rfl).trans R0.2.2.1.2.1, (a2 58 8 rfl).trans R0.2.2.1.2.2⟩, ⟨fun j hj => (a2 62 j rfl).trans (R0.2.2.2.1 j hj), fun j hj => (a2 63 j rfl).trans (R0.2.2.2.2 j hj)⟩, ⟨a1.1, a1.2.2⟩⟩, a1.2.1⟩
    have f1 := f0.tr a2.pw.pkFM
    refine sp_M_putsByte a1.1 a1.2.2 (by show 1 < 4000; omega) (fun I2 b1 b2 => ?_)
    have p2 : PkI A (w_hs (hdB A) 2 w_0) I2 := PkI_st p1 b2 b1
    have f2 := f1.tr b2.pw.pkFM
    rw [show I2 58 4 = nI (s_ch A) from p2.1.2.1.1]
    refine sp_M_putsByte b1.1 b1.2.2 (by show 2 < 4000; omega) (fun I3 c1 c2 => ?_)
    have p3 : PkI A (w_hs (hdB A) 3 w_0) I3 := PkI_st p2 c2 c1
    have f3 := f2.tr c2.pw.pkFM
    rw [show I3 58 5 = nI (s_wd A) from p3.1.2.1.2.1]
    refine sp_M_putsByte c1.1 c1.2.2 (by show 3 < 4000; omega) (fun I4 d1 d2 => ?_)
    have p4 : PkI A (w_hs (hdB A) 4 w_0) I4 := PkI_st p3 d2 d1
    have f4 := f3.tr d2.pw.pkFM
    rw [show I4 58 6 = nI (s_fr A) from p4.1.2.2.1.1]
    refine sp_M_putsByte d1.1 d1.2.2 (by show 4 < 4000; omega) (fun I5 g1 g2 => ?_)
    have p5 : PkI A (w_hs (hdB A) 5 w_0) I5 := PkI_st p4 g2 g1
    have f5 := f4.tr g2.pw.pkFM
    have hcn := hV.cn (c := 0) (by omega)
    have ed : nI (s_cn A 0) / 256 = nI (s_cn A 0 / 256) := pk_div (d := 256) (by omega) (by omega) (by omega)
    have er : nI (s_cn A 0) - nI (s_cn A 0) / 256 * 256 = nI (s_cn A 0 % 256) := pk_rem (d := 256) (by omega) (by omega) (by omega)
    rw [show I5 61 0 = nI (s_cn A 0) from p5.1.2.1.2.2.2.1 0 (show 0 < s_ch A by omega), ed]
    refine sp_M_putsByte g1.1 g1.2.2 (by show 5 < 4000; omega) (fun I6 h1 h2 => ?_)
    have p6 : PkI A (w_hs (hdB A) 6 w_0) I6 := PkI_st p5 h2 h1
    have f6 := f5.tr h2.pw.pkFM
    rw [show I6 61 0 = nI (s_cn A 0) from p6.1.2.1.2.2.2.1 0 (show 0 < s_ch A by omega), er]
    refine sp_M_putsByte h1.1 h1.2.2 (by show 6 < 4000; omega) (fun I7 k1 k2 => ?_)
    have p7 : PkI A (w_hs (hdB A) (7 + 4 * 0) w_0) I7 := PkI_st p6 k2 k1
    have f7 := f6.tr k2.pw.pkFM
    refine lM_pk85 (fun J m1 m2 => ?_) 3 0 I7 (by omega) p7 FM.rf
    exact lM_pk140 hV (fun J' n1 n2 => ⟨rfl, n1.1, (f7.tr m2).tr n2⟩) (nfr A) 0 J (Nat.zero_add _) m1 FM.rf
  · rw [b1_0] at h
    unfold oPack
    rw [if_neg h]
    exact ⟨rfl, hR, FM.rf.up (by omega)⟩
