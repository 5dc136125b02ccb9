abbrev rdy (A : sA) : Prop := s_ch A = 1 ∨ (s_ch A = 2 ∧ s_cn A 0 = s_cn A 1)
def nfr (A : sA) : Nat := if rdy A then (s_cn A 0 + s_fr A - 1) / s_fr A else 0
theorem VA.ch {A : sA} (h : VA A) : s_ch A ≤ 2 := h.2.1
theorem VA.cn {A : sA} (h : VA A) {c : Nat} (hc : c < 2) : s_cn A c ≤ 256 := h.2.2.2.2.2.2.2.1 c hc
theorem VA.fr {A : sA} (h : VA A) : 16 ≤ s_fr A ∧ s_fr A ≤ 64 ∧ s_fr A % 8 = 0 := h.2.2.2.2.1
theorem VA.tu {A : sA} (h : VA A) : s_tu A ≤ 240 := h.1
theorem VA.su {A : sA} (h : VA A) : s_su A ≤ 4000 := h.2.2.2.2.2.2.2.2.2.1
theorem VA.wd {A : sA} (h : VA A) (hc : s_ch A ≠ 0) : s_wd A = 8 ∨ s_wd A = 16 := h.2.2.2.1 hc
theorem VA.wd0 {A : sA} (h : VA A) : s_wd A ≤ 16 := by
  by_cases hc : s_ch A = 0
  · rw [h.2.2.1 hc]; omega
  · rcases h.2.2.2.1 hc with z | z <;> omega
theorem sp_M_isReady {P : Int32 → mm_I → Prop} {A : sA} {I : mm_I} (hR : RMs A I) (hV : VA A) (H : P (b1 (rdy A)) I) : mm_Mi 146 [.ref 58] I P := by
  have hch := hV.ch
  have e : (if (I 58 4) ≤ 0 then (0 : Int32) else (if (I 58 4) = 1 then (1 : Int32) else (if (I 61 0) = (I 61 1) then (1 : Int32) else 0))) = b1 (rdy A) := by
    rw [hR.1]
    by_cases h0 : s_ch A = 0
    · rw [if_pos (by rw [h0]; decide), b1_f (by rintro (z | z) <;> omega)]
    · rw [if_neg (nI_nle (by omega) (by omega))]
      by_cases h1 : s_ch A = 1
      · rw [if_pos (by rw [h1]; rfl), b1_t (Or.inl h1)]
      · have h2 : s_ch A = 2 := by omega
        rw [if_neg (by rw [h2]; decide), hR.2.2.2.1 0 (by omega), hR.2.2.2.1 1 (by omega)]
        by_cases h3 : s_cn A 0 = s_cn A 1
        · rw [if_pos (by rw [h3]), b1_t (Or.inr ⟨h2, h3⟩)]
        · have := hV.cn (c := 0) (by omega)
          have := hV.cn (c := 1) (by omega)
          rw [if_neg (fun z => h3 ((nI_eq (by omega) (by omega)).mp z)), b1_f (by rintro (z | z); exact h1 z; exact h3 z.2)]
  refine e_M_isReady ?_
  rw [e]
  exact ⟨b1_01, H⟩
theorem nfr_le {A : sA} (hV : VA A) : nfr A ≤ 16 := by
  unfold nfr
  have := hV.cn (c := 0) (by omega)
  have := hV.fr
  by_cases h : rdy A
  · rw [if_pos h]
    have : (s_cn A 0 + s_fr A - 1) / s_fr A ≤ 16 := by
      apply Nat.le_of_lt_succ
      rw [Nat.div_lt_iff_lt_mul (by omega)]
      omega
    exact this
  · rw [if_neg h]; omega
theorem sp_M_frames {P : Int32 → mm_I → Prop} {A : sA} {I : mm_I} (hR : RMs A I) (ho : RMo A I) (hV : VA A) (H : P (nI (nfr A)) I) : mm_Mi 147 [.ref 58] I P := by
  have hc := hV.cn (c := 0) (by omega)
  have hf := hV.fr
  refine e_M_frames (sp_M_isReady hR hV ⟨fun h => ?_, fun h => ?_⟩)
  · rw [b1_0] at h
    have : nfr A = 0 := if_neg h
    rw [this] at H
    exact H
  · have h := b1_n h
    have h0 : 0 < s_ch A := by rcases h with z | z <;> omega
    rw [ho.1, hR.2.2.2.1 0 h0]
    refine ⟨nI_ne0 (by omega) (by omega), ?_⟩
    have e : (nI (s_cn A 0) + nI (s_fr A) - 1) / nI (s_fr A) = nI (nfr A) := by
      have e1 := pk_sub (a := s_cn A 0 + s_fr A) (b := 1) (by omega)
      rw [nI_add]
      show (nI (s_cn A 0 + s_fr A) - nI 1) / _ = _
      rw [e1, pk_div (by omega) (by omega) (by omega)]
      unfold nfr
      rw [if_pos h]
    rw [e]
    exact H
def oCount (A : sA) (x : Int32) : Int32 × sA := (if x = 0 then nI (s_ch A) else if x = 1 then nI (s_wd A) else if x = 2 then nI (s_fr A) else if x = 3 then nI (s_ef A) else if x = 4 then nI (s_al A) else if x = 5 then (if 0 < s_ch A then nI (s_cn A 0) else -1) else if x = 6 then (if 1 < s_ch A then nI (s_cn A 1) else -1) else if x = 7 then nI (nfr A) else if x = 8 then nI (s_su A) else if x = 9 then nI (s_tu A) else if x = 10 then s_sd A else -1, A)
theorem oM_count {A : sA} {I : mm_I} {x : Int32} (hR : RM A I) (hV : VA A) : mm_Mi 220 [.ref 58, .int x] I (oR (oCount A x) RM FM I) := by
  have hR0 := hR
  obtain ⟨ht, hs, ho, hp, hk⟩ := hR
  have fin : ∀ r, r = (oCount A x).1 → oR (oCount A x) RM FM I r (mm_up I 58 16 0) := fun r e => ⟨e, hR0, FM.rf.up (by omega)⟩
  have chn : ∀ c : Nat, (0 ≤ nI c ∧ nI c ≤ I 58 4 - 1) → c < 2147483648 → c < s_ch A := fun c h hc => by
    rw [hs.1] at h
    obtain ⟨d, hd, e⟩ := (nch hV.ch _).mp h
    have := hV.ch
    rw [(nI_eq hc (by omega)).mp e]
    exact hd
  refine e_M_count x ⟨fun h => ?_, fun h => ?_, fun h => ?_, fun h => ?_, fun h => ?_, fun h => ?_, fun h => ?_, fun h => ?_, fun h => ?_, fun h => ?_, fun h => ?_, fun h0 h1 h2 h3 h4 h5 h6 h7 h8 h9 h10 => ?_⟩
  · subst h; exact fin _ hs.1
  · subst h; exact fin _ hs.2.1
  · subst h; exact fin _ ho.1
  · subst h; exact fin _ ho.2.1
  · subst h; exact fin _ ho.2.2
  · subst h
    refine sp_M_isChannel ?_
    by_cases hc : 0 < s_ch A
    · have hb : 0 ≤ (5 : Int32) - 5 ∧ (5 : Int32) - 5 ≤ (mm_up I 58 16 0) 58 4 - 1 := by
        have : (0 ≤ nI 0 ∧ nI 0 ≤ I 58 4 - 1) := by rw [hs.1]; exact (nch hV.ch _).mpr ⟨0, hc, rfl⟩
        exact this
      rw [b1_t hb, if_neg (show ¬ (1 : Int32) = 0 by decide)]
      refine ⟨fun _ => ⟨mm_vpc (by decide), trivial⟩, fin _ ?_⟩
      show I 61 0 = (if 0 < s_ch A then nI (s_cn A 0) else -1)
      rw [if_pos hc]
      exact hs.2.2.2.1 0 hc
    · have hb : ¬ (0 ≤ (5 : Int32) - 5 ∧ (5 : Int32) - 5 ≤ (mm_up I 58 16 0) 58 4 - 1) := fun z => hc (chn 0 z (by omega))
      rw [b1_f hb, if_pos rfl]
      refine ⟨fun z => absurd rfl z, fin _ ?_⟩
      show (-1 : Int32) = (if 0 < s_ch A then nI (s_cn A 0) else -1)
      rw [if_neg hc]
  · subst h
    refine sp_M_isChannel ?_
    by_cases hc : 1 < s_ch A
    · have hb : 0 ≤ (6 : Int32) - 5 ∧ (6 : Int32) - 5 ≤ (mm_up I 58 16 0) 58 4 - 1 := by
        have : (0 ≤ nI 1 ∧ nI 1 ≤ I 58 4 - 1) := by rw [hs.1]; exact (nch hV.ch _).mpr ⟨1, hc, rfl⟩
        exact this
      rw [b1_t hb, if_neg (show ¬ (1 : Int32) = 0 by decide)]
      refine ⟨fun _ => ⟨mm_vpc (by decide), trivial⟩, fin _ ?_⟩
      show I 61 1 = (if 1 < s_ch A then nI (s_cn A 1) else -1)
      rw [if_pos hc]
      exact hs.2.2.2.1 1 hc
    · have hb : ¬ (0 ≤ (6 : Int32) - 5 ∧ (6 : Int32) - 5 ≤ (mm_up I 58 16 0) 58 4 - 1) := fun z => hc (chn 1 z (by omega))
      rw [b1_f hb, if_pos rfl]
      refine ⟨fun z => absurd rfl z, fin _ ?_⟩
      show (-1 : Int32) = (if 1 < s_ch A then nI (s_cn A 1) else -1)
      rw [if_neg hc]
  · subst h
    exact sp_M_frames (A := A) hs ho hV (fin _ rfl)
  · subst h; exact fin _ hk.1
  · subst h; exact fin _ ht.1
  · subst h; exact fin _ hs.2.2.1
  · refine fin _ ?_
    unfold oCount
    rw [if_neg h0, if_neg h1, if_neg h2, if_neg h3, if_neg h4, if_neg h5, if_neg h6, if_neg h7, if_neg h8, if_neg h9, if_neg h10]
def oChannel (A : sA) (x : Int32) : Int32 × sA := if (x = 8 ∨ x = 16) ∧ (s_ch A = 0 ∨ x = nI (s_wd A)) ∧ s_ch A < 2 then (nI (s_ch A), s_N (s_N A 2 x.toNatClampNeg) 1 (s_ch A + 1)) else (-1, A)
theorem oM_channel {A : sA} {I : mm_I} {x : Int32} (hR : RM A I) (hV : VA A) : mm_Mi 130 [.ref 58, .int x] I (oR (oChannel A x) RM FM I) := by
  have hR0 := hR
  obtain ⟨ht, hs, ho, hp, hk⟩ := hR
  have hch := hV.ch
  have no : ¬ ((x = 8 ∨ x = 16) ∧ (s_ch A = 0 ∨ x = nI (s_wd A)) ∧ s_ch A < 2) → oR (oChannel A x) RM FM I (-1) (mm_up I 58 16 0) := fun h => by
    unfold oChannel
    rw [if_neg h]
    exact ⟨rfl, hR0, FM.rf.up (by omega)⟩
  have yes : (x = 8 ∨ x = 16) → (s_ch A = 0 ∨ x = nI (s_wd A)) → (¬ (I 58 4) = 2 → vp_in (I 58 4) 2 ∧ oR (oChannel A x) RM FM I (((I 58 4) + 1) - 1) (mm_up (mm_up (mm_up (mm_up I 58 16 0) 58 5 x) 61 ((I 58 4).toNatClampNeg) 0) 58 4 ((I 58 4) + 1))) ∧ ((I 58 4) = 2 → oR (oChannel A x) RM FM I (-1) (mm_up I 58 16 0)) := fun h1 h2 => by
    rw [hs.1]
    refine ⟨fun h3 => ?_, fun h3 => no (fun z => ?_)⟩
    · have hlt : s_ch A < 2 := by
        rcases Nat.lt_or_ge (s_ch A) 2 with z | z
        · exact z
        · exact absurd (by rw [show s_ch A = 2 by omega]; rfl) h3
      refine ⟨vp_in_nI hlt (by omega), ?_⟩
      unfold oChannel
      rw [if_pos ⟨h1, h2, hlt⟩, nI_clamp (by omega), nI_1]
      refine ⟨nI_pred _, ⟨ht, ⟨rfl, ?_, hs.2.2.1, fun c hc => ?_, fun c i hc hi => ?_⟩, ho, hp, hk⟩, (((FM.rf.up (by omega)).up (by omega)).up (by omega)).up (by omega)⟩
      · show x = nI x.toNatClampNeg
        rcases h1 with rfl | rfl <;> decide
      · have hc : c < s_ch A + 1 := hc
        show (mm_up (mm_up (mm_up I 58 16 0) 58 5 x) 61 (s_ch A) 0) 61 c = nI (s_cn A c)
        rw [up_a]
        by_cases q : c = s_ch A
        · rw [if_pos q]
          have : s_cn A c = 0 := hV.2.2.2.2.2.2.2.2.1 c (by omega) (by omega)
          rw [this]
          rfl
        · rw [if_neg q]
          exact hs.2.2.2.1 c (by omega)
      · have hc : c < s_ch A + 1 := hc
        have hi : i < s_cn A c := hi
        by_cases q : c = s_ch A
        · have : s_cn A c = 0 := hV.2.2.2.2.2.2.2.2.1 c (by omega) (by omega)
          omega
        · exact hs.2.2.2.2 c i (by omega) hi
    · have : s_ch A = 2 := (nI_eq (by omega) (by omega)).mp h3
      omega
  have z0 : (I 58 4) ≤ 0 → s_ch A = 0 := fun h => by
    rw [hs.1] at h
    rcases Nat.eq_zero_or_pos (s_ch A) with z | z
    · exact z
    · exact absurd h (nI_nle z (by omega))
  have z1 : 0 < (I 58 4) → s_ch A ≠ 0 := fun h z => by
    rw [hs.1, z] at h
    exact absurd h (by decide)
  refine e_M_channel x ⟨fun h8 => ⟨fun hz => yes (Or.inl h8) (Or.inl (z0 hz)), fun hz => ⟨fun hw => no (fun q => ?_), fun hw => yes (Or.inl h8) (Or.inr (by rw [← hs.2.1]; exact hw))⟩⟩, fun h8 => ⟨fun h16 => no (fun q => by rcases q.1 with z | z; exact h8 z; exact h16 z), fun h16 => ⟨fun hz => yes (Or.inr h16) (Or.inl (z0 hz)), fun hz => ⟨fun hw => no (fun q => ?_), fun hw => yes (Or.inr h16) (Or.inr (by rw [← hs.2.1]; exact hw))⟩⟩⟩⟩
  · rcases q.2.1 with z | z
    · exact z1 hz z
    · exact hw (by rw [hs.2.1]; exact z)
  · rcases q.2.1 with z | z
    · exact z1 hz z
    · exact hw (by rw [hs.2.1]; exact z)
def oSample (A : sA) (x y : Int32) : Int32 × sA := (if (0 ≤ x ∧ x ≤ nI (s_ch A) - 1) ∧ (0 ≤ y ∧ y ≤ nI (s_cn A x.toNatClampNeg) - 1) then s_sm A x.toNatClampNeg y.toNatClampNeg else -2147483648, A)
theorem ix512 {c i : Nat} (hc : c < 2) (hi : i < 256) : (256 : Int32) * nI c + nI i = nI (256 * c + i) := by
  have := pk_mul 256 c
  show nI 256 * nI c + nI i = _
  rw [this, nI_add]
theorem oM_sample {A : sA} {I : mm_I} {x y : Int32} (hR : RM A I) (hV : VA A) : mm_Mi 143 [.ref 58, .int x, .int y] I (oR (oSample A x y) RM FM I) := by
  have hR0 := hR
  obtain ⟨ht, hs, ho, hp, hk⟩ := hR
  refine e_M_sample x y (sp_M_isChannel ⟨fun h => ?_, fun h => ?_⟩)
  · rw [b1_0] at h
    have h : ¬ (0 ≤ x ∧ x ≤ I 58 4 - 1) := h
    rw [hs.1] at h
    refine ⟨?_, hR0, FM.rf.up (by omega)⟩
    unfold oSample
    rw [if_neg (fun z => h z.1)]
  · have h : 0 ≤ x ∧ x ≤ I 58 4 - 1 := b1_n h
    rw [hs.1] at h
    obtain ⟨c, hc, rfl⟩ := (nch hV.ch x).mp h
    have hch := hV.ch
    have ec : (nI c).toNatClampNeg = c := nI_clamp (by omega)
    have hcn := hV.cn (c := c) (by omega)
    refine ⟨vp_in_nI (by omega) (by omega), sp_M_within ?_⟩
    rw [ec]
    show _ ∧ oR (oSample A (nI c) y) RM FM I (if b1 (0 ≤ y ∧ y ≤ I 61 c - 1) = 0 then (-2147483648 : Int32) else I 60 _) _
    rw [hs.2.2.2.1 c hc]
    by_cases h2 : 0 ≤ y ∧ y ≤ nI (s_cn A c) - 1
    · obtain ⟨i, hi, rfl⟩ := (plc (by omega) y).mp h2
      rw [b1_t h2, if_neg (show ¬ (1 : Int32) = 0 by decide), ix512 (by omega) (by omega), nI_clamp (n := 256 * c + i) (by omega)]
      refine ⟨fun _ => ⟨vp_in_nI (by omega) (by omega), trivial⟩, ?_, hR0, FM.rf.up (by omega)⟩
      unfold oSample
      rw [ec, if_pos ⟨h, h2⟩, nI_clamp (n := i) (by omega)]
      exact hs.2.2.2.2 c i hc hi
    · rw [b1_f h2, if_pos rfl]
      refine ⟨fun z => ?_, ?_, hR0, FM.rf.up (by omega)⟩
      · exfalso
        apply z
        show b1 (0 ≤ y ∧ y ≤ I 61 c - 1) = 0
        rw [hs.2.2.2.1 c hc]
        exact b1_f h2
      · unfold oSample
        rw [ec, if_neg (fun z => h2 z.2)]
