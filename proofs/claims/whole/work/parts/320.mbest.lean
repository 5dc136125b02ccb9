def oSized (A : sA) (x : Int32) : Int32 × sA := (if o_isF x ∧ rdy A then nI (szA A x.toNatClampNeg (s_al A)) else -1, A)
theorem oM_sized {A : sA} {I : mm_I} {x : Int32} (hR : RM A I) (hV : VA A) : mm_Mi 184 [.ref 58, .int x] I (oR (oSized A x) RM FM I) := by
  refine e_M_sized x (sp_M_isFrame ⟨fun h => fin0 hR (by rw [if_neg (fun w => (b1_0.mp h) w.1)]), fun h => sp_M_isReady hR.th.2.1 hV ⟨fun h2 => fin0 hR (by rw [if_neg (fun w => (b1_0.mp h2) w.2)]), fun h2 => ?_⟩⟩)
  have ok := b1_n h
  obtain ⟨n, h16, h64, h8, e⟩ := isF_nat ok
  have ec : x.toNatClampNeg = n := by rw [e]; exact nI_clamp (by omega)
  rw [e]
  refine sp_M_sizeOf hR.th hV ⟨h16, h64, h8⟩ (fun J f => finS hR f.ls ?_)
  rw [← e, if_pos ⟨ok, b1_n h2⟩, ec]
/-- a set without one -/
def wos (al p : Nat) : Nat := al - al / 2 ^ p % 2 * 2 ^ p
theorem wos_I {al p : Nat} (ha : al < 256) (h1 : 1 ≤ p) (hp : p < 8) : nI al &&& ((1 <<< (nI p &&& 31)) ^^^ (-1)) = nI (wos al p) ∧ wos al p < 256 ∧ (al % 2 = 1 → wos al p % 2 = 1) := by
  have : ∀ p : Fin 7, ∀ al : Fin 256, nI al.val &&& ((1 <<< (nI (p.val + 1) &&& 31)) ^^^ (-1)) = nI (wos al.val (p.val + 1)) ∧ wos al.val (p.val + 1) < 256 ∧ (al.val % 2 = 1 → wos al.val (p.val + 1) % 2 = 1) := by decide +kernel
  have := this ⟨p - 1, by omega⟩ ⟨al, ha⟩
  rw [show p - 1 + 1 = p by omega] at this
  exact this
def oWithout (A : sA) (x : Int32) : Int32 × sA := (if (1 ≤ x ∧ x ≤ 7) ∧ rdy A then nI (szA A (s_fr A) (wos (s_al A) x.toNatClampNeg)) else -1, A)
theorem oM_without {A : sA} {I : mm_I} {x : Int32} (hR : RM A I) (hV : VA A) : mm_Mi 185 [.ref 58, .int x] I (oR (oWithout A x) RM FM I) := by
  have hal := hV.al
  refine e_M_without x (sp_M_within ⟨fun h => fin0 hR (by rw [if_neg (fun w => (b1_0.mp h) w.1)]), fun h => sp_M_isReady hR.th.2.1 hV ⟨fun h2 => fin0 hR (by rw [if_neg (fun w => (b1_0.mp h2) w.2)]), fun h2 => ?_⟩⟩)
  have ok := b1_n h
  obtain ⟨p, h1, h7, e⟩ := btw1 (m := 7) (by omega) ok
  have ec : x.toNatClampNeg = p := by rw [e]; exact nI_clamp (by omega)
  have e8 : (mm_up I 58 16 0) 58 8 = nI (s_al A) := hR.th1
  obtain ⟨w1, w2, w3⟩ := wos_I (al := s_al A) (p := p) (by omega) h1 (by omega)
  rw [e8, e, w1]
  refine sp_M_sizeBy hR.th hV w2 (w3 hal.2) (fun J f => finS hR f.ls ?_)
  rw [← e, if_pos ⟨ok, b1_n h2⟩, ec]
/-- the best of the frame sizes up to 16 + 8 k -/
def bsz (A : sA) (set : Nat) : Nat → Nat
  | 0 => 16
  | k + 1 => if szA A (16 + 8 * (k + 1)) set < szA A (bsz A set k) set then 16 + 8 * (k + 1) else bsz A set k
theorem bsz_ok (A : sA) (set : Nat) : ∀ k, k ≤ 6 → 16 ≤ bsz A set k ∧ bsz A set k ≤ 64 ∧ bsz A set k % 8 = 0 := by
  intro k
  induction k with
  | zero => intro _; show 16 ≤ 16 ∧ 16 ≤ 64 ∧ 16 % 8 = 0; omega
  | succ k ih =>
    intro hk
    have i1 := ih (by omega)
    have e : bsz A set (k + 1) = if szA A (16 + 8 * (k + 1)) set < szA A (bsz A set k) set then 16 + 8 * (k + 1) else bsz A set k := rfl
    rw [e]
    split
    · omega
    · exact i1
theorem szA_b {A : sA} {e set : Nat} (hV : VA A) (he : 16 ≤ e ∧ e ≤ 64 ∧ e % 8 = 0) : szA A e set ≤ 4469 := by
  have hV' := VA_fr hV he
  have nb := nfr_le hV'
  have q := szB_b (set := set) hV' (nfr (s_N A 3 e)) (Nat.le_refl _)
  have eq : ∀ k, szB (s_N A 3 e) e set k = szB A e set k := fun k => by
    induction k with
    | zero => rfl
    | succ k ih =>
      show szB (s_N A 3 e) e set k + fsz (s_N A 3 e) e k set = szB A e set k + fsz A e k set
      rw [ih]
      rfl
  have e2 : szB (s_N A 3 e) (s_fr (s_N A 3 e)) set (nfr (s_N A 3 e)) = szA A e set := eq (nfs A e)
  rw [e2] at q
  omega
theorem lM_best {P : Int32 → mm_I → Prop} {A : sA} {I : mm_I} (hR : RM A I) (hV : VA A) (H : ∀ J, sm F_ls I J → P (nI (bsz A (s_al A) 6)) J) : ∀ (r k : Nat) (J : mm_I), k + r = 6 → sm F_ls I J → mm_W 186 27 [some (.ref 58), some (.int (nI (bsz A (s_al A) k))), some (.int (nI (szA A (bsz A (s_al A) k) (s_al A)))), some (.int (nI (16 + 8 * (k + 1)))), none] [] J (mm_qi 186 P) := by
  intro r
  induction r with
  | zero =>
    intro k J hk hsm
    have hk : k = 6 := by omega
    subst hk
    exact c_M_best_27 _ _ _ ⟨fun _ => H J hsm, fun h => absurd h (by decide)⟩
  | succ r ih =>
    intro k J hk hsm
    refine c_M_best_27 _ _ _ ⟨fun h => absurd h (nI_nlt (a := 64) (by omega) (by omega)), fun _ => ?_⟩
    refine sp_M_sizeOf (hR.sc hsm.ls) hV (by omega) (fun J2 f => ?_)
    have e8 : nI (16 + 8 * (k + 1)) + 8 = nI (16 + 8 * (k + 1 + 1)) := by
      have := nI_add (16 + 8 * (k + 1)) 8
      rw [show 16 + 8 * (k + 1) + 8 = 16 + 8 * (k + 1 + 1) by omega] at this
      exact this
    have nx := ih (k + 1) J2 (by omega) (sm.tq hsm f)
    have e : bsz A (s_al A) (k + 1) = if szA A (16 + 8 * (k + 1)) (s_al A) < szA A (bsz A (s_al A) k) (s_al A) then 16 + 8 * (k + 1) else bsz A (s_al A) k := rfl
    have b1 := szA_b (e := 16 + 8 * (k + 1)) (set := s_al A) hV (by omega)
    have b2 := szA_b (e := bsz A (s_al A) k) (set := s_al A) hV (bsz_ok A (s_al A) k (by omega))
    rw [e8]
    by_cases q : szA A (16 + 8 * (k + 1)) (s_al A) < szA A (bsz A (s_al A) k) (s_al A)
    · rw [if_pos q] at e
      rw [e] at nx
      rw [if_pos (nI_lt q (by omega)), if_pos (nI_lt q (by omega))]
      exact nx
    · rw [if_neg q] at e
      rw [e] at nx
      rw [if_neg (nI_nlt (by omega) (by omega)), if_neg (nI_nlt (by omega) (by omega))]
      exact nx
def oBest (A : sA) : Int32 × sA := (if rdy A then nI (bsz A (s_al A) 6) else -1, A)
theorem oM_best {A : sA} {I : mm_I} (hR : RM A I) (hV : VA A) : mm_Mi 186 [.ref 58] I (oR (oBest A) RM FM I) := by
  refine e_M_best (sp_M_isReady hR.th.2.1 hV ⟨fun h => ?_, fun h => fin0 hR (by rw [if_neg (b1_0.mp h)])⟩)
  have ok := b1_n h
  refine sp_M_sizeOf (e := 16) hR.th hV (by omega) (fun J f => ?_)
  exact lM_best hR.th hV (fun J2 g => finS hR g.ls (by rw [if_pos ok])) 6 0 J (by omega) f
def rtF (A : sA) : UInt32 := FP.fdiv (FP.i2f (nI (szA A (s_fr A) (s_al A)))) (FP.i2f (nI (s_wd A / 8 * s_ch A * s_cn A 0)))
def oRatio (A : sA) : Int32 × sA := (if rdy A ∧ s_cn A 0 ≠ 0 then (rtF A).toInt32 else -1, A)
theorem rtF_p {A : sA} (hV : VA A) (h : rdy A) (h0 : s_cn A 0 ≠ 0) : pD (FP.Core.val32 (rtF A)) := by
  have sb := szA_b (set := s_al A) hV hV.fr
  have hch := hV.ch
  have hch0 : 0 < s_ch A := by rcases h with z | z <;> omega
  have hcn := hV.cn (c := 0) (by omega)
  have b : 1 ≤ s_wd A / 8 * s_ch A * s_cn A 0 ∧ s_wd A / 8 * s_ch A * s_cn A 0 ≤ 1024 := by
    have hw : s_wd A / 8 = 1 ∨ s_wd A / 8 = 2 := by rcases hV.wd (by omega) with z | z <;> omega
    rcases hw with z | z <;> rcases (by omega : s_ch A = 1 ∨ s_ch A = 2) with y | y <;> rw [z, y] <;> omega
  exact pD_div (pD_i (by omega)) (nzD_i b.1 (by omega))
theorem oM_ratio {A : sA} {I : mm_I} (hR : RM A I) (hV : VA A) : mm_Mi 218 [.ref 58] I (oR (oRatio A) RM FM I) := by
  have hal := hV.al
  have hch := hV.ch
  have hcn := hV.cn (c := 0) (by omega)
  refine e_M_ratio (sp_M_isReady hR.th.2.1 hV ⟨fun h => fin0 hR (by rw [if_neg (fun w => (b1_0.mp h) w.1)]), fun h => ?_⟩)
  have ok := b1_n h
  have hch0 : 0 < s_ch A := by rcases ok with z | z <;> omega
  have e61 : (mm_up I 58 16 0) 61 0 = nI (s_cn A 0) := hR.2.1.2.2.2.1 0 hch0
  have e8 : (mm_up I 58 16 0) 58 8 = nI (s_al A) := hR.th1
  rw [e61, e8]
  refine ⟨fun h2 => ?_, fun h2 => fin0 hR ?_⟩
  · have h0 : s_cn A 0 ≠ 0 := fun z => h2 (by rw [z]; rfl)
    refine sp_M_sizeBy hR.th hV (by omega) hal.2 (fun J f => ?_)
    have hRJ := hR.th.sc f.ls
    have e5 : J 58 5 / 8 * J 58 4 * J 61 0 = nI (s_wd A / 8 * s_ch A * s_cn A 0) := by
      rw [hRJ.2.1.1, hRJ.2.1.2.1, hRJ.2.1.2.2.2.1 0 hch0]
      have w0 := hV.wd0
      have e : nI (s_wd A) / 8 = nI (s_wd A / 8) := pk_div (d := 8) (by omega) (by omega) (by omega)
      rw [e, pk_mul, pk_mul]
    rw [e5]
    have hp := rtF_p hV ok h0
    refine ⟨vf32_of hp, sp_floatBits hp (finS hR f.ls ?_)⟩
    rw [if_pos ⟨ok, h0⟩]
    rfl
  · have h0 : s_cn A 0 = 0 := (nI_eq (b := 0) (by omega) (by omega)).mp h2
    rw [if_neg (fun w => w.2 h0)]
