/-! run; sizes -/
theorem rCnt_b {ef : Nat} {E : Nat → Int32} {m : Nat} (hm : m ≤ 64) : rCnt ef E m ≤ 8 := by
  have hGm : Gm m = (m + 7) / 8 := rfl
  unfold rCnt
  by_cases q : ef = 1
  · rw [if_pos q]
    have := wCt_le (Gm m) (bst (spb E m) (Gm m)) (Gm m)
    omega
  · rw [if_neg q]; omega
theorem hwC_b {w s x : Nat → Int32} {n b ef set : Nat} (hn : n ≤ 64) : hwC w s x n b ef set ≤ 8 := by
  unfold hwC
  split
  · exact rCnt_b (by unfold hwM; omega)
  · omega
def oRun (A : sA) (x y i z : Int32) : Int32 × sA := (if okR A x y ∧ (0 ≤ z ∧ z ≤ 2) ∧ (0 ≤ i ∧ i ≤ nI (qC A x.toNatClampNeg y.toNatClampNeg) - 1) then (if z = 0 then nI (rTo (s_ef A) (qE A x.toNatClampNeg y.toNatClampNeg) (qM A x.toNatClampNeg y.toNatClampNeg) i.toNatClampNeg).2 - (if i = 0 then 0 else nI (rTo (s_ef A) (qE A x.toNatClampNeg y.toNatClampNeg) (qM A x.toNatClampNeg y.toNatClampNeg) (i.toNatClampNeg - 1)).2) else if z = 1 then nI (rPa (s_ef A) (qE A x.toNatClampNeg y.toNatClampNeg) (qM A x.toNatClampNeg y.toNatClampNeg) i.toNatClampNeg) else nI (rBt (s_ef A) (qE A x.toNatClampNeg y.toNatClampNeg) (qM A x.toNatClampNeg y.toNatClampNeg) i.toNatClampNeg)) else -1, A)
theorem oM_run {A : sA} {I : mm_I} {x y i z : Int32} (hR : RM A I) (hV : VA A) : mm_Mi 177 [.ref 58, .int x, .int y, .int i, .int z] I (oR (oRun A x y i z) RM FM I) := by
  have hal := hV.al
  have hch := hV.ch
  have nb := nfr_le hV
  refine e_M_run x y i z (sp_M_within ⟨fun h => fin0 hR (by rw [if_neg (fun w => (b1_0.mp h) w.2.1)]), fun h => sp_M_isRowLaid hR.th hV (fun h2 => ⟨fun w => absurd rfl w, fun _ => fin0 hR (by rw [if_neg (fun w => h2 w.1)])⟩) (fun f r J e1 hf e2 hr a1 a2 => ⟨fun _ => ?_, fun w => absurd w (by decide)⟩)⟩)
  have hz := b1_n h
  have hF := nfr_ok hV hf
  have e8 : J 58 8 = nI (s_al A) := (a2 58 8 rfl).trans hR.th1
  have hRJ := hR.th.sc a2.ls
  have n64 := a1.1
  subst e1
  subst e2
  have cf : (nI f).toNatClampNeg = f := nI_clamp (by omega)
  have cr : (nI r).toNatClampNeg = r := nI_clamp (by omega)
  rw [e8]
  refine sp_M_rowCosts (hRJ.pw hV) hV.wb a1 (o_rx_b hV hF (soF_ok hV hr)) (o_rn_b hF).1 (o_rb_b hV) (by omega) hal.2 (fun J2 b1 b2 b3 => ?_)
  have c8 : qC A f r ≤ 8 := hwC_b n64
  have fls := (sm.tq a2 (F_rc_ls b3)).ls
  rw [b1.2.1]
  refine sp_M_within ⟨fun h3 => ?_, fun h3 => finS hR fls ?_⟩
  · have h3 := b1_n h3
    have ok : okR A (nI f) (nI r) ∧ (0 ≤ z ∧ z ≤ 2) ∧ (0 ≤ i ∧ i ≤ nI (qC A f r) - 1) := ⟨okR_of hV hf hr, hz, h3⟩
    obtain ⟨k, hk, e4⟩ := (nchN (Nat.le_trans c8 (by decide)) i).mp h3
    subst e4
    have hk8 : k < 8 := Nat.lt_of_lt_of_le hk c8
    have vk := vp_in_nI (n := k) (N := 8) (by omega) (by omega)
    have ck : (nI k).toNatClampNeg = k := nI_clamp (by omega)
    refine ⟨fun _ => ⟨fun _ => ⟨vk, trivial⟩, fun _ => ⟨vk, trivial⟩, trivial⟩, fun _ => ⟨vk, fun w => ?_, trivial⟩, finS hR fls ?_⟩
    · have k0 : k ≠ 0 := fun y => w (by rw [y]; rfl)
      have e5 : nI k - 1 = nI (k - 1) := pk_sub (b := 1) (by omega)
      rw [e5]
      exact ⟨vp_in_nI (by omega) (by omega), trivial⟩
    · rw [cf, cr, if_pos ok, ck]
      obtain ⟨r1, r2, r3⟩ := b1.2.2 k hk
      rw [r1, r2, r3]
      by_cases k0 : k = 0
      · have z0 : nI k = 0 := by rw [k0]; rfl
        rw [if_pos z0, if_pos z0]
      · have z0 : ¬ nI k = 0 := nI_ne0 (by omega) (by omega)
        have e5 : nI k - 1 = nI (k - 1) := pk_sub (b := 1) (by omega)
        rw [if_neg z0, if_neg z0, e5, nI_clamp (n := k - 1) (by omega), (b1.2.2 (k - 1) (Nat.lt_of_le_of_lt (Nat.sub_le k 1) hk)).1]
  · rw [cf, cr, if_neg (fun w => (b1_0.mp h3) w.2.2)]
/-- the bytes of a frame, of all -/
def fsz (A : sA) (fr f set : Nat) : Nat := 4 + ((if s_ch A = 2 then 2 else 0) + jBt A fr f set (jOf A fr f set) + 7) / 8
def szB (A : sA) (fr set : Nat) : Nat → Nat
  | 0 => 21
  | k + 1 => szB A fr set k + fsz A fr k set
def nfs (A : sA) (fr : Nat) : Nat := if rdy A then (s_cn A 0 + fr - 1) / fr else 0
abbrev szA (A : sA) (fr set : Nat) : Nat := szB A fr set (nfs A fr)
theorem fsz_b {A : sA} {fr f set : Nat} (hV : VA A) (hF : FrO A fr f) : fsz A fr f set ≤ 278 := by
  have := jBt_b (set := set) (j := jOf A fr f set) hV hF
  unfold fsz
  split <;> omega
theorem szB_b {A : sA} {set : Nat} (hV : VA A) : ∀ k, k ≤ nfr A → szB A (s_fr A) set k ≤ 21 + 278 * k := by
  intro k
  induction k with
  | zero => intro _; exact Nat.le_refl 21
  | succ k ih =>
    intro hk
    have := ih (by omega)
    have := fsz_b (set := set) hV (nfr_ok hV (f := k) (by omega))
    show szB A (s_fr A) set k + fsz A (s_fr A) k set ≤ _
    omega
theorem lM_sizeBy {P : Int32 → mm_I → Prop} {A : sA} {I : mm_I} {set : Nat} (hR : RM A I) (hV : VA A) (hs : set < 256) (hs1 : set % 2 = 1)
    (H : ∀ J, sm F_ls I J → P (nI (szA A (s_fr A) set)) J) : ∀ (r k : Nat) (J : mm_I), k + r = nfr A → sm F_ls I J → mm_W 181 5 [some (.ref 58), some (.int (nI set)), some (.int (nI (szB A (s_fr A) set k))), some (.int (nI k))] [] J (mm_qi 181 P) := by
  have nb := nfr_le hV
  have hch := hV.ch
  intro r
  induction r with
  | zero =>
    intro k J hk hsm
    have hRJ := hR.sc hsm.ls
    refine c_M_sizeBy_5 _ _ _ (sp_M_frames hRJ.2.1 hRJ.2.2.1 hV ⟨fun _ => ?_, fun h => absurd h (nI_nlt (by omega) (by omega))⟩)
    have e : k = nfs A (s_fr A) := by
      have : nfr A = nfs A (s_fr A) := rfl
      omega
    rw [e]
    exact H J hsm
  | succ r ih =>
    intro k J hk hsm
    have hRJ := hR.sc hsm.ls
    have hF := nfr_ok hV (f := k) (by omega)
    refine c_M_sizeBy_5 _ _ _ (sp_M_frames hRJ.2.1 hRJ.2.2.1 hV ⟨fun h => absurd h (nI_ge (by omega) (by omega)), fun _ => ?_⟩)
    refine sp_M_joinOf hRJ hV hF hs hs1 (fun J2 a1 a2 => sp_M_joinedBits hV a1 (jOf_ok A (s_fr A) k set) ?_)
    have e4 : (if J 58 4 = 2 then (2 : Int32) else 0) = nI (if s_ch A = 2 then 2 else 0) := by
      rw [hRJ.2.1.1]
      by_cases q : s_ch A = 2
      · rw [if_pos q, if_pos (by rw [q]; rfl)]; rfl
      · have q2 : ¬ nI (s_ch A) = 2 := fun z => q ((nI_eq (b := 2) (by omega) (by omega)).mp z)
        rw [if_neg q, if_neg q2]; rfl
    have jb := jBt_b (set := set) (j := jOf A (s_fr A) k set) hV hF
    have e5 : nI (szB A (s_fr A) set k) + (4 + ((nI (if s_ch A = 2 then 2 else 0) + nI (jBt A (s_fr A) k set (jOf A (s_fr A) k set))) + 7) / 8) = nI (szB A (s_fr A) set (k + 1)) := by
      show _ + (nI 4 + ((_ + _) + nI 7) / nI 8) = _
      rw [nI_add, nI_add, pk_div (by split <;> omega) (by omega) (by omega), nI_add, nI_add]
      rfl
    rw [e4, e5, nI_1]
    exact ih (k + 1) J2 (by omega) (sm.tq hsm a2)
theorem sp_M_sizeBy {P : Int32 → mm_I → Prop} {A : sA} {I : mm_I} {set : Nat} (hR : RM A I) (hV : VA A) (hs : set < 256) (hs1 : set % 2 = 1)
    (H : ∀ J, sm F_ls I J → P (nI (szA A (s_fr A) set)) J) : mm_Mi 181 [.ref 58, .int (nI set)] I P :=
  e_M_sizeBy _ (lM_sizeBy hR hV hs hs1 H (nfr A) 0 I (by omega) sm.rf)
def oSize (A : sA) : Int32 × sA := (if rdy A then nI (szA A (s_fr A) (s_al A)) else -1, A)
theorem oM_size {A : sA} {I : mm_I} (hR : RM A I) (hV : VA A) : mm_Mi 182 [.ref 58] I (oR (oSize A) RM FM I) := by
  have hal := hV.al
  refine e_M_size (sp_M_isReady hR.th.2.1 hV ⟨fun h => fin0 hR (by rw [if_neg (b1_0.mp h)]), fun h => ?_⟩)
  have ok := b1_n h
  have e8 : (mm_up I 58 16 0) 58 8 = nI (s_al A) := hR.th1
  rw [e8]
  exact sp_M_sizeBy hR.th hV (by omega) hal.2 (fun J f => finS hR f.ls (by rw [if_pos ok]))
/-- of another frame size -/
theorem RM_fr {A : sA} {I : mm_I} {e : Nat} (h : RM A I) : RM (s_N A 3 e) (mm_up I 58 6 (nI e)) := ⟨h.1, h.2.1, ⟨rfl, h.2.2.1.2.1, h.2.2.1.2.2⟩, h.2.2.2.1, h.2.2.2.2⟩
theorem VA_fr {A : sA} {e : Nat} (h : VA A) (he : 16 ≤ e ∧ e ≤ 64 ∧ e % 8 = 0) : VA (s_N A 3 e) := ⟨h.1, h.2.1, h.2.2.1, h.2.2.2.1, he, h.2.2.2.2.2⟩
theorem sp_M_sizeOf {P : Int32 → mm_I → Prop} {A : sA} {I : mm_I} {e : Nat} (hR : RM A I) (hV : VA A) (he : 16 ≤ e ∧ e ≤ 64 ∧ e % 8 = 0) (H : ∀ J, sm F_ls I J → P (nI (szA A e (s_al A))) J) : mm_Mi 183 [.ref 58, .int (nI e)] I P := by
  have hal := hV.al
  refine e_M_sizeOf _ ?_
  rw [hR.2.2.1.2.2]
  refine sp_M_sizeBy (RM_fr hR) (VA_fr hV he) (by omega) hal.2 (fun J f => ?_)
  have eq : ∀ k, szB (s_N A 3 e) e (s_al A) k = szB A e (s_al A) k := fun k => by
    induction k with
    | zero => rfl
    | succ k ih =>
      show szB (s_N A 3 e) e (s_al A) k + fsz (s_N A 3 e) e k (s_al A) = szB A e (s_al A) k + fsz A e k (s_al A)
      rw [ih]
      rfl
  have e2 : szA (s_N A 3 e) (s_fr (s_N A 3 e)) (s_al A) = szA A e (s_al A) := eq (nfs A e)
  rw [e2]
  refine H _ (fun a j h => ?_)
  rw [up_g]
  by_cases q : a = 58 ∧ j = 6
  · rw [if_pos q, q.1, q.2]
  · rw [if_neg q, f a j h, up_g, if_neg q]
