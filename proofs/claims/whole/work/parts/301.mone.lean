def sm (F : Nat → Nat → Bool) (I I' : mm_I) : Prop := ∀ a j, F a j = false → I' a j = I a j
theorem sm.rf {F : Nat → Nat → Bool} {I : mm_I} : sm F I I := fun _ _ _ => rfl
theorem sm.tr {F G : Nat → Nat → Bool} {I J K : mm_I} (h1 : sm F I J) (h2 : sm G J K) : sm (fun a j => F a j || G a j) I K := fun a j h => by
  rw [Bool.or_eq_false_iff] at h
  rw [h2 a j h.2, h1 a j h.1]
theorem sm.le {F G : Nat → Nat → Bool} {I J : mm_I} (h : sm F I J) (hl : ∀ a j, G a j = false → F a j = false) : sm G I J := fun a j z => h a j (hl a j z)
theorem sm.tq {F : Nat → Nat → Bool} {I J K : mm_I} (h1 : sm F I J) (h2 : sm F J K) : sm F I K := fun a j h => by rw [h2 a j h, h1 a j h]
theorem sm.up {F : Nat → Nat → Bool} {I J : mm_I} {a i : Nat} {v : Int32} (h : sm F I J) (hF : F a i = true) : sm F I (mm_up J a i v) := fun b j z => by
  rw [up_g]
  by_cases hc : b = a ∧ j = i
  · rw [hc.1, hc.2, hF] at z; cases z
  · rw [if_neg hc]; exact h b j z
theorem sm.fn {F : Nat → Nat → Bool} {I J : mm_I} (h : sm F I J) (a : Nat) (hF : ∀ j, F a j = false) : J a = I a := funext fun j => h a j (hF j)
theorem RM.th {A : sA} {I : mm_I} {v : Int32} (h : RM A I) : RM A (mm_up I 58 16 v) := h
theorem sp_M_within {P : Int32 → mm_I → Prop} {I : mm_I} {v lo hi : Int32} (H : P (b1 (lo ≤ v ∧ v ≤ hi)) I) : mm_Mi 125 [.int v, .int lo, .int hi] I P := by
  have e : (if v < lo then (0 : Int32) else (if hi < v then (0 : Int32) else 1)) = b1 (lo ≤ v ∧ v ≤ hi) := by
    by_cases h : lo ≤ v ∧ v ≤ hi
    · rw [b1_t h, if_neg (fa_nlt h.1), if_neg (fa_nlt h.2)]
    · rw [b1_f h]
      by_cases h1 : v < lo
      · rw [if_pos h1]
      · rw [if_neg h1, if_pos]
        exact fa_nle' (fun z => h ⟨fa_nlt' h1, z⟩)
  refine e_M_within v lo hi ?_
  rw [e]
  exact ⟨b1_01, H⟩
theorem sp_M_isChannel {P : Int32 → mm_I → Prop} {I : mm_I} {x : Int32} (H : P (b1 (0 ≤ x ∧ x ≤ I 58 4 - 1)) I) : mm_Mi 126 [.ref 58, .int x] I P :=
  e_M_isChannel x (sp_M_within ⟨b1_01, H⟩)
/-- a number of a channel -/
theorem nch {ch : Nat} (h : ch ≤ 2) (x : Int32) : (0 ≤ x ∧ x ≤ nI ch - 1) ↔ ∃ c, c < ch ∧ x = nI c := by
  have e : (nI ch - 1).toInt = (ch : Int) - 1 := by
    rw [tI_sub (by rw [nI_toInt (by omega)]; show _ ≤ (ch : Int) - 1; omega) (by rw [nI_toInt (by omega)]; show (ch : Int) - 1 < _; omega), nI_toInt (by omega)]
    rfl
  rw [le_I, le_I, e]
  show (0 ≤ x.toInt ∧ _) ↔ _
  constructor
  · rintro ⟨h1, h2⟩
    exact ⟨x.toInt.toNat, by omega, tI_nI (by omega) (by omega)⟩
  · rintro ⟨c, hc, rfl⟩
    rw [nI_toInt (by omega)]
    omega
def o_fr (x : Int32) : Prop := 16 ≤ x.toInt ∧ x.toInt ≤ 64 ∧ x.toInt % 8 = 0
abbrev o_isF (x : Int32) : Prop := (16 ≤ x ∧ x ≤ 64) ∧ (x - x / 8 * 8) = 0
theorem sp_M_isFrame {P : Int32 → mm_I → Prop} {I : mm_I} {x : Int32} (H : P (b1 (o_isF x)) I) : mm_Mi 127 [.int x] I P := by
  refine e_M_isFrame x (sp_M_within ⟨fun h => ?_, fun h => ?_⟩)
  · rw [b1_0] at h
    rw [b1_f (fun z => h z.1)] at H
    exact H
  · have h := Decidable.not_not.mp (fun z => h (b1_0.mpr z))
    by_cases h2 : (x - x / 8 * 8) = 0
    · rw [if_pos h2]
      rw [b1_t ⟨h, h2⟩] at H
      exact ⟨Or.inr rfl, H⟩
    · rw [if_neg h2]
      rw [b1_f (fun z => h2 z.2)] at H
      exact ⟨Or.inl rfl, H⟩
theorem b1_n {p : Prop} [Decidable p] (h : ¬ b1 p = 0) : p := Decidable.not_not.mp (fun z => h (b1_0.mpr z))
theorem isF_nat {x : Int32} (h : o_isF x) : ∃ n, 16 ≤ n ∧ n ≤ 64 ∧ n % 8 = 0 ∧ x = nI n := by
  obtain ⟨⟨h1, h2⟩, h3⟩ := h
  rw [le_I] at h1 h2
  have h1 : 16 ≤ x.toInt := h1
  have h2 : x.toInt ≤ 64 := h2
  have e : x = nI x.toInt.toNat := tI_nI (by omega) (by omega)
  refine ⟨x.toInt.toNat, by omega, by omega, ?_, e⟩
  rw [e] at h3
  have h4 := pk_rem (a := x.toInt.toNat) (d := 8) (by omega) (by omega) (by omega)
  have h5 : nI (x.toInt.toNat % 8) = nI 0 := h4.symm.trans h3
  exact (nI_eq (by omega) (by omega)).mp h5
theorem isF_of {n : Nat} (h1 : 16 ≤ n) (h2 : n ≤ 64) (h3 : n % 8 = 0) : o_isF (nI n) := by
  refine ⟨⟨?_, ?_⟩, ?_⟩
  · exact (nI_leI (a := 16) (by omega) (by omega)).mpr h1
  · exact (nI_leI (b := 64) (by omega) (by omega)).mpr h2
  · have h4 := pk_rem (a := n) (d := 8) (by omega) (by omega) (by omega)
    rw [h3] at h4
    exact h4
def oFrame (A : sA) (x : Int32) : Int32 × sA := if o_isF x then (nI (s_fr A), s_N A 3 x.toNatClampNeg) else (-1, A)
theorem oM_frame {A : sA} {I : mm_I} {x : Int32} (hR : RM A I) : mm_Mi 139 [.ref 58, .int x] I (oR (oFrame A x) RM FM I) := by
  refine e_M_frame x (sp_M_isFrame ⟨fun h => ?_, fun h => ?_⟩)
  · have h := b1_n h
    obtain ⟨n, h1, h2, h3, rfl⟩ := isF_nat h
    unfold oFrame
    rw [if_pos h]
    refine ⟨hR.2.2.1.1, ?_, (FM.rf.up (by omega)).up (by omega)⟩
    obtain ⟨ht, hs, ⟨o1, o2, o3⟩, hp, hk⟩ := hR
    refine ⟨ht, hs, ⟨?_, o2, o3⟩, hp, hk⟩
    show nI n = nI (nI n).toNatClampNeg
    rw [nI_clamp (by omega)]
  · rw [b1_0] at h
    unfold oFrame
    rw [if_neg h]
    exact ⟨rfl, hR, FM.rf.up (by omega)⟩
def oEffort (A : sA) (x : Int32) : Int32 × sA := if 0 ≤ x ∧ x ≤ 1 then (nI (s_ef A), s_N A 4 x.toNatClampNeg) else (-1, A)
/-- a number between bounds -/
theorem btw {x lo hi : Int32} {a b : Nat} (ha : lo.toInt = a) (hb : hi.toInt = b) (h : lo ≤ x ∧ x ≤ hi) : ∃ n, a ≤ n ∧ n ≤ b ∧ x = nI n := by
  rw [le_I, le_I, ha, hb] at h
  have := I_rng x
  exact ⟨x.toInt.toNat, by omega, by omega, tI_nI (by omega) (by omega)⟩
theorem oM_effort {A : sA} {I : mm_I} {x : Int32} (hR : RM A I) : mm_Mi 141 [.ref 58, .int x] I (oR (oEffort A x) RM FM I) := by
  refine e_M_effort x (sp_M_within ⟨fun h => ?_, fun h => ?_⟩)
  · have h := b1_n h
    obtain ⟨n, h1, h2, rfl⟩ := btw (a := 0) (b := 1) rfl rfl h
    unfold oEffort
    rw [if_pos h]
    refine ⟨hR.2.2.1.2.1, ?_, (FM.rf.up (by omega)).up (by omega)⟩
    obtain ⟨ht, hs, ⟨o1, o2, o3⟩, hp, hk⟩ := hR
    refine ⟨ht, hs, ⟨o1, ?_, o3⟩, hp, hk⟩
    show nI n = nI (nI n).toNatClampNeg
    rw [nI_clamp (by omega)]
  · rw [b1_0] at h
    unfold oEffort
    rw [if_neg h]
    exact ⟨rfl, hR, FM.rf.up (by omega)⟩
def oAllow (A : sA) (x : Int32) : Int32 × sA := if 0 ≤ x ∧ x ≤ 255 then (nI (s_al A), s_N A 5 (x ||| 1).toNatClampNeg) else (-1, A)
theorem or1_all : ∀ n, n < 256 → nI n ||| 1 = nI ((nI n ||| 1).toNatClampNeg) ∧ (nI n ||| 1).toNatClampNeg ≤ 255 ∧ (nI n ||| 1).toNatClampNeg % 2 = 1 := by decide +kernel
theorem oM_allow {A : sA} {I : mm_I} {x : Int32} (hR : RM A I) : mm_Mi 142 [.ref 58, .int x] I (oR (oAllow A x) RM FM I) := by
  refine e_M_allow x (sp_M_within ⟨fun h => ?_, fun h => ?_⟩)
  · have h := b1_n h
    obtain ⟨n, h1, h2, rfl⟩ := btw (a := 0) (b := 255) rfl rfl h
    unfold oAllow
    rw [if_pos h]
    refine ⟨hR.2.2.1.2.2, ?_, (FM.rf.up (by omega)).up (by omega)⟩
    obtain ⟨ht, hs, ⟨o1, o2, o3⟩, hp, hk⟩ := hR
    exact ⟨ht, hs, ⟨o1, o2, (or1_all n (by omega)).1⟩, hp, hk⟩
  · rw [b1_0] at h
    unfold oAllow
    rw [if_neg h]
    exact ⟨rfl, hR, FM.rf.up (by omega)⟩
/-- a place: from 0 to n - 1 -/
theorem plc {n : Nat} (hn : n < 2147483648) (x : Int32) : (0 ≤ x ∧ x ≤ nI n - 1) ↔ ∃ c, c < n ∧ x = nI c := by
  have e : (nI n - 1).toInt = (n : Int) - 1 := by
    rw [tI_sub (by rw [nI_toInt (by omega)]; show _ ≤ (n : Int) - 1; omega) (by rw [nI_toInt (by omega)]; show (n : Int) - 1 < _; omega), nI_toInt (by omega)]
    rfl
  rw [le_I, le_I, e]
  show (0 ≤ x.toInt ∧ _) ↔ _
  constructor
  · rintro ⟨h1, h2⟩
    exact ⟨x.toInt.toNat, by omega, tI_nI (by omega) (by omega)⟩
  · rintro ⟨c, hc, rfl⟩
    rw [nI_toInt (by omega)]
    omega
def oStore (A : sA) (x : Int32) : Int32 × sA := if 0 ≤ x ∧ x ≤ nI (s_su A) - 1 then (s_sb A x.toNatClampNeg, A) else (-1, A)
theorem oM_store {A : sA} {I : mm_I} {x : Int32} (hR : RM A I) (hV : VA A) : mm_Mi 194 [.ref 58, .int x] I (oR (oStore A x) RM FM I) := by
  have hsu : s_su A ≤ 4000 := hV.2.2.2.2.2.2.2.2.2.1
  have e : I 58 15 = nI (s_su A) := hR.2.2.2.2.1
  refine e_M_store x (sp_M_within ?_)
  rw [e]
  unfold oStore
  by_cases h : 0 ≤ x ∧ x ≤ nI (s_su A) - 1
  · obtain ⟨c, hc, rfl⟩ := (plc (by omega) x).mp h
    rw [b1_t h, if_neg (show ¬ (1 : Int32) = 0 by decide), if_pos h]
    refine ⟨fun _ => ⟨vp_in_nI (by omega) (by omega), trivial⟩, ?_, hR, FM.rf.up (by omega)⟩
    show I 66 (nI c).toNatClampNeg = s_sb A (nI c).toNatClampNeg
    rw [nI_clamp (by omega)]
    exact hR.2.2.2.2.2 c hc
  · rw [b1_f h, if_pos rfl, if_neg h]
    exact ⟨fun z => absurd rfl z, rfl, hR, FM.rf.up (by omega)⟩
def oSpoil (A : sA) (x y : Int32) : Int32 × sA := if (0 ≤ x ∧ x ≤ nI (s_su A) - 1) ∧ (1 ≤ y ∧ y ≤ 255) then (s_sb A x.toNatClampNeg ^^^ y, s_F A 5 (upd (s_sb A) x.toNatClampNeg (s_sb A x.toNatClampNeg ^^^ y))) else (-1, A)
theorem oM_spoil {A : sA} {I : mm_I} {x y : Int32} (hR : RM A I) (hV : VA A) : mm_Mi 195 [.ref 58, .int x, .int y] I (oR (oSpoil A x y) RM FM I) := by
  have hsu : s_su A ≤ 4000 := hV.2.2.2.2.2.2.2.2.2.1
  have e : I 58 15 = nI (s_su A) := hR.2.2.2.2.1
  refine e_M_spoil x y (sp_M_within ⟨fun h => ?_, fun h => ?_⟩)
  · rw [e, b1_0] at h
    unfold oSpoil
    rw [if_neg (fun z => h z.1)]
    exact ⟨rfl, hR, FM.rf.up (by omega)⟩
  · rw [e] at h
    have h := b1_n h
    obtain ⟨c, hc, rfl⟩ := (plc (by omega) x).mp h
    refine sp_M_within ⟨fun h2 => ?_, fun h2 => ?_⟩
    · have h2 := b1_n h2
      unfold oSpoil
      rw [if_pos ⟨h, h2⟩]
      have v := vp_in_nI (n := c) (N := 4000) (by omega) (by omega)
      have ec : (nI c).toNatClampNeg = c := nI_clamp (by omega)
      have es : I 66 c = s_sb A c := hR.2.2.2.2.2 c hc
      refine ⟨v, v, v, ?_, ?_, (FM.rf.up (by omega)).up (by omega)⟩
      · rw [ec, up_a, if_pos rfl]
        show I 66 c ^^^ y = _
        rw [es]
      · obtain ⟨ht, hs, ho, hp, hk1, hk2⟩ := hR
        refine ⟨ht, hs, ho, hp, hk1, fun i hi => ?_⟩
        rw [ec, up_a]
        show (if i = c then I 66 c ^^^ y else I 66 i) = upd (s_sb A) c (s_sb A c ^^^ y) i
        unfold upd
        by_cases hic : i = c
        · rw [if_pos hic, if_pos hic, es]
        · rw [if_neg hic, if_neg hic]
          exact hk2 i hi
    · rw [b1_0] at h2
      unfold oSpoil
      rw [if_neg (fun z => h2 z.2)]
      exact ⟨rfl, hR, FM.rf.up (by omega)⟩
def oDrop (A : sA) (x : Int32) : Int32 × sA := if 0 ≤ x ∧ x ≤ nI (s_su A) then (nI (s_su A) - x, s_N A 8 (s_su A - x.toNatClampNeg)) else (-1, A)
theorem oM_drop {A : sA} {I : mm_I} {x : Int32} (hR : RM A I) (hV : VA A) : mm_Mi 196 [.ref 58, .int x] I (oR (oDrop A x) RM FM I) := by
  have hsu : s_su A ≤ 4000 := hV.2.2.2.2.2.2.2.2.2.1
  have e : I 58 15 = nI (s_su A) := hR.2.2.2.2.1
  refine e_M_drop x (sp_M_within ⟨fun h => ?_, fun h => ?_⟩)
  · rw [e] at h
    have h := b1_n h
    obtain ⟨c, -, hc, rfl⟩ := btw (a := 0) (b := s_su A) rfl (nI_toInt (by omega)) h
    unfold oDrop
    rw [if_pos h]
    refine ⟨by show I 58 15 - nI c = _; rw [e], ?_, (FM.rf.up (by omega)).up (by omega)⟩
    obtain ⟨ht, hs, ho, hp, hk1, hk2⟩ := hR
    refine ⟨ht, hs, ho, hp, ?_, fun i hi => hk2 i ?_⟩
    · show I 58 15 - nI c = nI (s_su A - (nI c).toNatClampNeg)
      rw [e, nI_clamp (by omega), pk_sub hc]
    · have hi : i < s_su A - (nI c).toNatClampNeg := hi
      omega
  · rw [e, b1_0] at h
    unfold oDrop
    rw [if_neg h]
    exact ⟨rfl, hR, FM.rf.up (by omega)⟩
def oTake (A : sA) (x : Int32) : Int32 × sA := if 0 ≤ x ∧ x ≤ nI (s_su A) - 1 then (s_sb A x.toNatClampNeg, s_N (s_F A 5 (fun j => if j < x.toNatClampNeg then s_sb A j else s_sb A (j + 1))) 8 (s_su A - 1)) else (-1, A)
theorem lM_take {P : Int32 → mm_I → Prop} {r : Int32} {su : Nat} (hsu : su ≤ 4000) : ∀ (n c : Nat) (I : mm_I), c + n = su → 0 < c → I 58 15 = nI su → (∀ J, (∀ j, J 66 j = if c - 1 ≤ j ∧ j + 1 < su then I 66 (j + 1) else I 66 j) → (∀ a, a ≠ 66 → J a = I a) → P r (mm_up J 58 15 (nI su - 1))) → mm_W 197 32 [some (.ref 58), none, some (.int r), some (.int (nI c))] [] I (mm_qi 197 P) := by
  intro n
  induction n with
  | zero =>
    intro c I hc h0 e H
    refine c_M_take_32 r (nI c) ⟨fun _ => ?_, fun h => ?_⟩
    · rw [e]
      exact H I (fun j => by rw [if_neg (by omega)]) (fun _ _ => rfl)
    · rw [e] at h
      exact absurd h (nI_nlt (by omega) (by omega))
  | succ n ih =>
    intro c I hc h0 e H
    refine c_M_take_32 r (nI c) ⟨fun h => ?_, fun h => ?_⟩
    · rw [e] at h
      exact absurd h (nI_ge (by omega) (by omega))
    · have e1 : nI c - 1 = nI (c - 1) := by
        have := pk_sub (a := c) (b := 1) (by omega)
        exact this
      rw [e1, nI_clamp (n := c) (by omega), nI_clamp (n := c - 1) (by omega), nI_1]
      refine ⟨vp_in_nI (by omega) (by omega), vp_in_nI (by omega) (by omega), ih (c + 1) _ (by omega) (by omega) e (fun J hJ hJo => H J (fun j => ?_) (fun a ha => ?_))⟩
      · rw [hJ j, up_a, up_a]
        by_cases q : j = c - 1
        · subst q
          rw [if_neg (by omega), if_pos rfl, if_pos (by omega)]
          congr 1
          omega
        · by_cases q2 : c + 1 - 1 ≤ j ∧ j + 1 < su
          · rw [if_pos q2, if_neg (by omega), if_pos (by omega)]
          · rw [if_neg q2, if_neg q, if_neg (by omega)]
      · rw [hJo a ha, up_o ha]
theorem oM_take {A : sA} {I : mm_I} {x : Int32} (hR : RM A I) (hV : VA A) : mm_Mi 197 [.ref 58, .int x] I (oR (oTake A x) RM FM I) := by
  have hsu : s_su A ≤ 4000 := hV.2.2.2.2.2.2.2.2.2.1
  have e : I 58 15 = nI (s_su A) := hR.2.2.2.2.1
  refine e_M_take x (sp_M_within ⟨fun h => ?_, fun h => ?_⟩)
  · rw [e] at h
    have h := b1_n h
    obtain ⟨c, hc, rfl⟩ := (plc (by omega) x).mp h
    have ec : (nI c).toNatClampNeg = c := nI_clamp (by omega)
    unfold oTake
    rw [if_pos h, ec, nI_1]
    refine ⟨vp_in_nI (by omega) (by omega), lM_take hsu (s_su A - (c + 1)) (c + 1) _ (by omega) (by omega) e (fun J hJ hJo => ⟨?_, ?_, ?_⟩)⟩
    · exact hR.2.2.2.2.2 c hc
    · obtain ⟨ht, hs, ho, hp, hk1, hk2⟩ := hR
      have f58 := hJo 58 (by decide)
      have f59 := hJo 59 (by decide)
      have f60 := hJo 60 (by decide)
      have f61 := hJo 61 (by decide)
      have f62 := hJo 62 (by decide)
      have f63 := hJo 63 (by decide)
      refine ⟨⟨?_, ?_⟩, ⟨?_, ?_, ?_, ?_, ?_⟩, ⟨?_, ?_, ?_⟩, ⟨?_, ?_⟩, ?_, ?_⟩
      · exact (congrFun f58 1).trans ht.1
      · intro i hi; exact (congrFun f59 i).trans (ht.2 i hi)
      · exact (congrFun f58 4).trans hs.1
      · exact (congrFun f58 5).trans hs.2.1
      · exact (congrFun f58 9).trans hs.2.2.1
      · intro q hq; exact (congrFun f61 q).trans (hs.2.2.2.1 q hq)
      · intro q i hq hi; exact (congrFun f60 _).trans (hs.2.2.2.2 q i hq hi)
      · exact (congrFun f58 6).trans ho.1
      · exact (congrFun f58 7).trans ho.2.1
      · exact (congrFun f58 8).trans ho.2.2
      · intro j hj; exact (congrFun f62 j).trans (hp.1 j hj)
      · intro j hj; exact (congrFun f63 j).trans (hp.2 j hj)
      · show nI (s_su A) - 1 = nI (s_su A - 1)
        exact pk_sub (a := s_su A) (b := 1) (by omega)
      · intro i hi
        have hi : i < s_su A - 1 := hi
        show J 66 i = if i < c then s_sb A i else s_sb A (i + 1)
        rw [hJ i]
        by_cases q : i < c
        · rw [if_pos q, if_neg (by omega)]
          exact hk2 i (by omega)
        · rw [if_neg q, if_pos (by omega)]
          exact hk2 (i + 1) (by omega)
    · intro a ha
      rw [up_o (by omega), hJo a (by omega), up_o (by omega)]
  · rw [e, b1_0] at h
    unfold oTake
    rw [if_neg h]
    exact ⟨rfl, hR, FM.rf.up (by omega)⟩
