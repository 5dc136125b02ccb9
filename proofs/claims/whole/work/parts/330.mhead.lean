/-! the head read -/
def F_hd (a j : Nat) : Bool := Nat.beq a 64 || Nat.beq a 65 || (Nat.beq a 58 && (Nat.beq j 35 || Nat.beq j 36 || Nat.beq j 37 || Nat.beq j 38))
def hWt (B : Nat → Int32) (j : Nat) : Int32 := sg8 (B (7 + 4 * (j / 3) + j % 3))
def hSh (B : Nat → Int32) (j : Nat) : Int32 := B (10 + 4 * j)
def HdI (B : Nat → Int32) (I : mm_I) : Prop := I 58 35 = B 2 ∧ I 58 36 = B 3 ∧ I 58 37 = B 4 ∧ I 58 38 = 256 * B 5 + B 6 ∧ (∀ j, j < 9 → I 64 j = hWt B j) ∧ ∀ j, j < 3 → I 65 j = hSh B j
abbrev can0 (B : Nat → Int32) : Prop := (1 ≤ B 2 ∧ B 2 ≤ 2) ∧ (B 3 = 8 ∨ B 3 = 16) ∧ o_isF (B 4) ∧ 256 * B 5 + B 6 ≤ 256
abbrev canH (B : Nat → Int32) (k : Nat) : Prop := can0 B ∧ ∀ j, j < k → hSh B j ≤ 4
def hdC (A : sA) : Int32 := if s_su A < 21 then 1 else if ¬ (s_sb A 0 = 83 ∧ s_sb A 1 = 80) then 2 else if ¬ canH (s_sb A) 3 then 3 else if ckS (s_sb A) 0 19 = 256 * s_sb A 19 + s_sb A 20 then 0 else 4
abbrev hdF (B : Nat → Int32) (I : mm_I) : Prop := I 58 35 = B 2 ∧ I 58 36 = B 3 ∧ I 58 37 = B 4 ∧ I 58 38 = 256 * B 5 + B 6
theorem lM_hd152 {P : Int32 → mm_I → Prop} {A : sA} {I : mm_I} {k : Nat} (hk : k < 3) (hS : 21 ≤ s_su A) (hsu : s_su A ≤ 4000) (hB : ∀ i, i < s_su A → I 66 i = s_sb A i)
    (H : ∀ J, hdF (s_sb A) J → (∀ j, j < 3 * (k + 1) → J 64 j = hWt (s_sb A) j) → (∀ j, j < k + 1 → J 65 j = hSh (s_sb A) j) → sm F_hd I J → mm_W 198 145 [some (.ref 58), some (.int (b1 (canH (s_sb A) (k + 1)))), some (.int (nI (k + 1))), none] [] J (mm_qi 198 P)) : ∀ (r i : Nat) (J : mm_I), i + r = 3 → hdF (s_sb A) J → (∀ j, j < 3 * k + i → J 64 j = hWt (s_sb A) j) → (∀ j, j < k → J 65 j = hSh (s_sb A) j) → sm F_hd I J → mm_W 198 152 [some (.ref 58), some (.int (b1 (canH (s_sb A) k))), some (.int (nI k)), some (.int (nI i))] [] J (mm_qi 198 P) := by
  have vk := vp_in_nI (n := k) (N := 3) hk (by omega)
  intro r
  induction r with
  | zero =>
    intro i J hi h1 h2 h3 hsm
    have hi : i = 3 := by omega
    subst hi
    have e1 : (10 : Int32) + 4 * nI k = nI (10 + 4 * k) := by
      show nI 10 + nI 4 * _ = _
      rw [pk_mul, nI_add]
    refine c_M_headNow_152 _ _ _ ⟨fun _ => ?_, fun h => absurd h (by decide)⟩
    rw [e1, nI_clamp (n := 10 + 4 * k) (by omega), nI_clamp (n := k) (by omega), hsm 66 _ rfl, hB (10 + 4 * k) (by omega), up_a, if_pos rfl, nI_1]
    refine ⟨vp_in_nI (by omega) (by omega), vk, fun _ => ⟨vk, trivial⟩, ?_⟩
    have e2 : (if b1 (canH (s_sb A) k) = 0 then (0 : Int32) else (if 4 < s_sb A (10 + 4 * k) then (0 : Int32) else 1)) = b1 (canH (s_sb A) (k + 1)) := by
      by_cases q : canH (s_sb A) k
      · rw [b1_t q, if_neg (by decide)]
        by_cases q2 : 4 < s_sb A (10 + 4 * k)
        · rw [if_pos q2, b1_f (fun z => absurd q2 (fa_nlt (z.2 k (by omega))))]
        · have q3 : canH (s_sb A) (k + 1) := ⟨q.1, fun j hj => by
            by_cases z : j = k
            · rw [z]; exact fa_nlt' q2
            · exact q.2 j (by omega)⟩
          rw [if_neg q2, b1_t q3]
      · rw [b1_f q, if_pos rfl, b1_f (fun z => q ⟨z.1, fun j hj => z.2 j (by omega)⟩)]
    rw [e2]
    refine H _ h1 (fun j hj => h2 j (by omega)) (fun j hj => ?_) (hsm.up rfl)
    rw [up_a]
    by_cases z : j = k
    · rw [if_pos z, z]; rfl
    · rw [if_neg z]; exact h3 j (by omega)
  | succ r ih =>
    intro i J hi h1 h2 h3 hsm
    have e1 : (7 : Int32) + 4 * nI k + nI i = nI (7 + 4 * k + i) := by
      show nI 7 + nI 4 * _ + _ = _
      rw [pk_mul, nI_add, nI_add]
    have e3 : (3 : Int32) * nI k + nI i = nI (3 * k + i) := by
      show nI 3 * _ + _ = _
      rw [pk_mul, nI_add]
    refine c_M_headNow_152 _ _ _ ⟨fun h => absurd h (nI_ge (b := 3) (by omega) (by omega)), fun _ => ?_⟩
    rw [e1, e3, nI_clamp (n := 7 + 4 * k + i) (by omega), nI_clamp (n := 3 * k + i) (by omega), hsm 66 _ rfl, hB (7 + 4 * k + i) (by omega), nI_1]
    refine ⟨vp_in_nI (by omega) (by omega), sp_M_signed8 ⟨vp_in_nI (by omega) (by omega), ih (i + 1) _ (by omega) h1 (fun j hj => ?_) h3 (hsm.up rfl)⟩⟩
    rw [up_a]
    by_cases z : j = 3 * k + i
    · rw [if_pos z, z]
      unfold hWt
      rw [show (3 * k + i) / 3 = k by omega, show (3 * k + i) % 3 = i by omega]
    · rw [if_neg z]; exact h2 j (by omega)
theorem lM_hd145 {P : Int32 → mm_I → Prop} {A : sA} {I : mm_I} (hS : 21 ≤ s_su A) (hsu : s_su A ≤ 4000) (hm : s_sb A 0 = 83 ∧ s_sb A 1 = 80) (hB : ∀ i, i < s_su A → I 66 i = s_sb A i)
    (H : ∀ J, HdI (s_sb A) J → sm F_hd I J → P (hdC A) J) : ∀ (r k : Nat) (J : mm_I), k + r = 3 → hdF (s_sb A) J → (∀ j, j < 3 * k → J 64 j = hWt (s_sb A) j) → (∀ j, j < k → J 65 j = hSh (s_sb A) j) → sm F_hd I J → mm_W 198 145 [some (.ref 58), some (.int (b1 (canH (s_sb A) k))), some (.int (nI k)), none] [] J (mm_qi 198 P) := by
  intro r
  induction r with
  | zero =>
    intro k J hk h1 h2 h3 hsm
    have hk : k = 3 := by omega
    subst hk
    have hd : HdI (s_sb A) J := ⟨h1.1, h1.2.1, h1.2.2.1, h1.2.2.2, fun j hj => h2 j (by omega), h3⟩
    have g := H J hd hsm
    unfold hdC at g
    rw [if_neg (by omega), if_neg (fun z => z hm)] at g
    refine c_M_headNow_145 _ _ ⟨fun _ => ⟨fun q => ?_, fun q => ?_⟩, fun h => absurd h (by decide)⟩
    · have q := b1_n q
      rw [if_neg (fun z => z q)] at g
      refine sp_M_checked (B := s_sb A) (a := 0) (b := 19) (by omega) (by omega) (fun i _ hi => by rw [hsm 66 i rfl]; exact hB i (by omega)) ?_
      rw [hsm 66 19 rfl, hsm 66 20 rfl, hB 19 (by omega), hB 20 (by omega)]
      exact g
    · rw [if_pos (b1_0.mp q)] at g
      exact g
  | succ r ih =>
    intro k J hk h1 h2 h3 hsm
    refine c_M_headNow_145 _ _ ⟨fun h => absurd h (nI_ge (b := 3) (by omega) (by omega)), fun _ => ?_⟩
    exact lM_hd152 (k := k) (by omega) hS hsu hB (fun J' a1 a2 a3 a4 => ih (k + 1) J' (by omega) a1 a2 a3 a4) 3 0 J (by omega) h1 h2 h3 hsm
theorem sp_M_headNow {P : Int32 → mm_I → Prop} {A : sA} {I : mm_I} (hR : RM A I) (hV : VA A) (H : ∀ J, (hdC A = 0 → HdI (s_sb A) J) → sm F_hd I J → P (hdC A) J) : mm_Mi 198 [.ref 58] I P := by
  have hsu := hV.su
  have hB := hR.2.2.2.2.2
  refine e_M_headNow ?_
  rw [hR.2.2.2.2.1]
  refine ⟨fun h => ?_, fun h => ?_⟩
  · have hS : 21 ≤ s_su A := (nI_leI (a := 21) (by omega) (by omega)).mp h
    rw [hB 0 (by omega), hB 1 (by omega), hB 2 (by omega), hB 3 (by omega), hB 4 (by omega), hB 5 (by omega), hB 6 (by omega)]
    have no : ¬ (s_sb A 0 = 83 ∧ s_sb A 1 = 80) → P 2 I := fun q => by
      have e : hdC A = 2 := by
        unfold hdC
        rw [if_neg (by omega), if_pos q]
      have := H I (fun z => absurd (e.symm.trans z) (by decide)) sm.rf
      rw [e] at this
      exact this
    refine ⟨fun q => no (fun z => q z.1), fun q => ⟨fun q2 => ?_, fun q2 => no (fun z => q2 z.2)⟩⟩
    have f4 : sm F_hd I (mm_up (mm_up (mm_up (mm_up I 58 35 (s_sb A 2)) 58 36 (s_sb A 3)) 58 37 (s_sb A 4)) 58 38 (256 * s_sb A 5 + s_sb A 6)) := ((((sm.rf.up rfl).up rfl).up rfl).up rfl)
    have go : ∀ c, c = b1 (canH (s_sb A) 0) → mm_W 198 145 [some (.ref 58), some (.int c), some (.int 0), none] [] (mm_up (mm_up (mm_up (mm_up I 58 35 (s_sb A 2)) 58 36 (s_sb A 3)) 58 37 (s_sb A 4)) 58 38 (256 * s_sb A 5 + s_sb A 6)) (mm_qi 198 P) := fun c e => by
      rw [e]
      exact lM_hd145 hS hsu ⟨q, q2⟩ hB (fun J a1 a2 => H J (fun _ => a1) a2) 3 0 _ (by omega) ⟨rfl, rfl, rfl, rfl⟩ (fun j hj => absurd hj (Nat.not_lt_zero j)) (fun j hj => absurd hj (Nat.not_lt_zero j)) f4
    have c0 : ∀ p : Prop, (canH (s_sb A) 0 → p) → ¬ p → (0 : Int32) = b1 (canH (s_sb A) 0) := fun p a b => (b1_f (fun z => b (a z))).symm
    have fr : (s_sb A 3 = 8 ∨ s_sb A 3 = 16) → (1 ≤ s_sb A 2 ∧ s_sb A 2 ≤ 2) → (if b1 (o_isF (s_sb A 4)) = 0 then (0 : Int32) else (if 256 < 256 * s_sb A 5 + s_sb A 6 then (0 : Int32) else 1)) = b1 (canH (s_sb A) 0) := fun h3 h2 => by
      by_cases z : o_isF (s_sb A 4)
      · rw [b1_t z, if_neg (by decide)]
        by_cases y : 256 < 256 * s_sb A 5 + s_sb A 6
        · rw [if_pos y]
          exact c0 _ (fun w => w.1.2.2.2) (fun w => absurd y (fa_nlt w))
        · have q3 : canH (s_sb A) 0 := ⟨⟨h2, h3, z, fa_nlt' y⟩, fun j hj => absurd hj (Nat.not_lt_zero j)⟩
          rw [if_neg y, b1_t q3]
      · rw [b1_f z, if_pos rfl]
        exact c0 _ (fun w => w.1.2.2.1) z
    refine sp_M_within ⟨fun z => go 0 (c0 _ (fun w => w.1.1) (b1_0.mp z)), fun z => ⟨fun y => ?_, fun y => ⟨fun x => ?_, fun x => ?_⟩⟩⟩
    · exact sp_M_isFrame (go _ (fr (Or.inl y) (b1_n z)))
    · exact go 0 (c0 _ (fun w => w.1.2.1) (fun w => by rcases w with w | w; exact y w; exact x w))
    · exact sp_M_isFrame (go _ (fr (Or.inr x) (b1_n z)))
  · have hS : s_su A < 21 := (nI_ltI (b := 21) (by omega) (by omega)).mp h
    have e : hdC A = 1 := if_pos hS
    have := H I (fun z => absurd (e.symm.trans z) (by decide)) sm.rf
    rw [e] at this
    exact this
theorem F_hd_sc {a j : Nat} (h : F_sc a j = false) : F_hd a j = false := by
  refine mm_bf fun z => ?_
  have q : a = 64 ∨ a = 65 ∨ (a = 58 ∧ 16 ≤ j) := by
    simp only [F_hd, Bool.or_eq_true, Bool.and_eq_true, mm_beq_iff] at z
    omega
  have : F_sc a j = true := by
    unfold F_sc
    rcases q with q | q | ⟨q1, q2⟩
    · rw [q]; rfl
    · rw [q]; rfl
    · rw [q1, Nat.ble_eq_true_of_le q2]
      rfl
  rw [this] at h
  cases h
theorem sm.hd {I J : mm_I} (f : sm F_hd I J) : sm F_sc I J := f.le (fun _ _ h => F_hd_sc h)
def oHead (A : sA) : Int32 × sA := (hdC A, A)
theorem oM_head {A : sA} {I : mm_I} (hR : RM A I) (hV : VA A) : mm_Mi 199 [.ref 58] I (oR (oHead A) RM FM I) :=
  e_M_head (sp_M_headNow hR.th hV (fun _ _ f => finS hR f.hd rfl))
