def o_by (w : Int64) (j : Nat) : Int32 := ((w >>> ((nI (56 - 8 * j)).toInt64 &&& 63)).toInt32) &&& 255
def F_tp (a j : Nat) : Bool := Nat.beq a 59 || (Nat.beq a 58 && Nat.beq j 1)
theorem lM_eight {P : mm_I → Prop} {w : Int64} : ∀ (n u : Nat) (I : mm_I), n ≤ 8 → u + n ≤ 240 → I 58 1 = nI u → (∀ J, J 58 1 = nI (u + n) → (∀ i, J 59 i = if u ≤ i ∧ i < u + n then o_by w (8 - n + (i - u)) else I 59 i) → sm F_tp I J → P J) → mm_W 128 3 [some (.ref 58), some (.long w), none, some (.int (nI (8 * n) - 8))] [] I (mm_qv 128 P) := by
  intro n
  induction n with
  | zero =>
    intro u I _ hu e H
    refine c_M_eight_3 w _ ⟨fun _ => H I e (fun i => by rw [if_neg (by omega)]) sm.rf, fun h => absurd h (by decide)⟩
  | succ n ih =>
    intro u I hn hu e H
    have e1 : nI (8 * (n + 1)) - 8 = nI (8 * n) := by
      have := pk_sub (a := 8 * (n + 1)) (b := 8) (by omega)
      rw [show 8 * (n + 1) - 8 = 8 * n by omega] at this
      exact this
    rw [e1]
    refine c_M_eight_3 w _ ⟨fun h => absurd h (nI_pos (by omega)), fun _ => ?_⟩
    rw [e, nI_clamp (by omega), nI_1]
    refine ⟨vp_in_nI (by omega) (by omega), ?_⟩
    have e2 : nI (8 * n) + (-8) = nI (8 * n) - 8 := by rw [Int32.sub_eq_add_neg]
    rw [e2]
    refine ih (u + 1) _ (by omega) (by omega) rfl (fun J h1 h2 h3 => H J (by rw [h1]; congr 1; omega) (fun i => ?_) ?_)
    · rw [h2 i]
      show (if u + 1 ≤ i ∧ i < u + 1 + n then o_by w (8 - n + (i - (u + 1))) else mm_up I 59 u _ 59 i) = _
      rw [up_a]
      by_cases q : i = u
      · subst q
        rw [if_neg (by omega), if_pos rfl, if_pos (by omega)]
        unfold o_by
        rw [show 56 - 8 * (8 - (n + 1) + (i - i)) = 8 * n by omega]
      · by_cases q2 : u + 1 ≤ i ∧ i < u + 1 + n
        · rw [if_pos q2, if_pos (by omega)]
          congr 1
          omega
        · rw [if_neg q2, if_neg q, if_neg (by omega)]
    · exact sm.tq ((sm.rf.up (F := F_tp) rfl).up rfl) h3
theorem sp_M_eight {P : mm_I → Prop} {w : Int64} {u : Nat} {I : mm_I} (hu : u + 8 ≤ 240) (e : I 58 1 = nI u) (H : ∀ J, J 58 1 = nI (u + 8) → (∀ i, J 59 i = if u ≤ i ∧ i < u + 8 then o_by w (i - u) else I 59 i) → sm F_tp I J → P J) : mm_Mv 128 [.ref 58, .long w] I P := by
  refine e_M_eight w (lM_eight 8 u I (by omega) hu e (fun J h1 h2 h3 => H J h1 (fun i => ?_) h3))
  rw [h2 i, show 8 - 8 + (i - u) = i - u by omega]
def o_b3 (a b c : Int64) (j : Nat) : Int32 := if j < 8 then o_by a j else if j < 16 then o_by b (j - 8) else o_by c (j - 16)
def oFeed (A : sA) (a b c : Int64) : Int32 × sA := if s_tu A + 24 ≤ 240 then (nI (s_tu A + 24), s_N (s_F A 0 (fun i => if i < s_tu A then s_tb A i else o_b3 a b c (i - s_tu A))) 0 (s_tu A + 24)) else (-1, A)
theorem oM_feed {A : sA} {I : mm_I} {a b c : Int64} (hR : RM A I) (hV : VA A) : mm_Mi 129 [.ref 58, .long a, .long b, .long c] I (oR (oFeed A a b c) RM FM I) := by
  have hR0 := hR
  obtain ⟨ht, hs, ho, hp, hk⟩ := hR
  have htu := hV.tu
  have e24 : I 58 1 + 24 = nI (s_tu A + 24) := by rw [ht.1]; exact nI_add _ 24
  refine e_M_feed a b c ⟨fun h => ?_, fun h => ?_⟩
  · rw [e24] at h
    have h : s_tu A + 24 ≤ 240 := (nI_leI (b := 240) (by omega) (by omega)).mp h
    refine sp_M_eight (u := s_tu A) (by omega) ht.1 (fun J1 a1 a2 a3 => sp_M_eight (u := s_tu A + 8) (by omega) a1 (fun J2 b1 b2 b3 => sp_M_eight (u := s_tu A + 8 + 8) (by omega) b1 (fun J3 c1 c2 c3 => ?_)))
    have hsm := sm.tq (sm.tq a3 b3) c3
    unfold oFeed
    rw [if_pos h]
    refine ⟨c1, ⟨⟨c1, fun i hi => ?_⟩, ⟨?_, ?_, ?_, fun c hc => ?_, fun c i hc hi => ?_⟩, ⟨?_, ?_, ?_⟩, ⟨fun j hj => ?_, fun j hj => ?_⟩, ⟨?_, fun i hi => ?_⟩⟩, fun a ha => ?_⟩
    · have hi : i < s_tu A + 24 := hi
      show J3 59 i = if i < s_tu A then s_tb A i else o_b3 a b c (i - s_tu A)
      rw [c2 i, b2 i, a2 i]
      unfold o_b3
      by_cases q : i < s_tu A
      · rw [if_neg (by omega), if_neg (by omega), if_neg (by omega), if_pos q]
        exact ht.2 i q
      · rw [if_neg q]
        by_cases q1 : i - s_tu A < 8
        · rw [if_neg (by omega), if_neg (by omega), if_pos (by omega), if_pos q1]
        · rw [if_neg q1]
          by_cases q2 : i - s_tu A < 16
          · rw [if_neg (by omega), if_pos (by omega), if_pos q2]
            congr 1
          · rw [if_neg q2, if_pos (by omega)]
            congr 1
    · exact (hsm 58 4 rfl).trans hs.1
    · exact (hsm 58 5 rfl).trans hs.2.1
    · exact (hsm 58 9 rfl).trans hs.2.2.1
    · exact (hsm 61 c rfl).trans (hs.2.2.2.1 c hc)
    · exact (hsm 60 _ rfl).trans (hs.2.2.2.2 c i hc hi)
    · exact (hsm 58 6 rfl).trans ho.1
    · exact (hsm 58 7 rfl).trans ho.2.1
    · exact (hsm 58 8 rfl).trans ho.2.2
    · exact (hsm 62 j rfl).trans (hp.1 j hj)
    · exact (hsm 63 j rfl).trans (hp.2 j hj)
    · exact (hsm 58 15 rfl).trans hk.1
    · exact (hsm 66 i rfl).trans (hk.2 i hi)
    · have := hsm.fn a (fun j => by
        unfold F_tp
        rw [mm_beq_f (show ¬ a = 59 by omega), mm_beq_f (show ¬ a = 58 by omega)]
        rfl)
      rw [this, up_o (by omega)]
  · rw [e24] at h
    unfold oFeed
    rw [if_neg (fun z => absurd h (nI_nlt (a := 240) (by omega) (by omega)))]
    exact ⟨rfl, hR0, FM.rf.up (by omega)⟩
def sg8 (v : Int32) : Int32 := if v < 128 then v else v - 256
def sg16 (v : Int32) : Int32 := if v < 32768 then v else v - 65536
theorem sp_M_signed8 {P : Int32 → mm_I → Prop} {I : mm_I} {v : Int32} (H : P (sg8 v) I) : mm_Mi 131 [.int v, .int 8] I P := e_M_signed v 8 H
theorem sp_M_signed16 {P : Int32 → mm_I → Prop} {I : mm_I} {v : Int32} (H : P (sg16 v) I) : mm_Mi 131 [.int v, .int 16] I P := e_M_signed v 16 H
theorem sp_M_puts {P : mm_I → Prop} {I : mm_I} {c n : Nat} {v : Int32} (hc : c < 2) (hn : n < 256) (e : I 61 c = nI n) (H : P (mm_up (mm_up I 60 (256 * c + n) v) 61 c (nI (n + 1)))) : mm_Mv 132 [.ref 58, .int (nI c), .int v] I P := by
  refine e_M_puts (nI c) v ?_
  have vc := vp_in_nI (n := c) (N := 2) hc (by omega)
  rw [nI_clamp (n := c) (by omega), e, ix512 hc hn, nI_clamp (n := 256 * c + n) (by omega), nI_1]
  exact ⟨vc, vp_in_nI (by omega) (by omega), vc, vc, H⟩
/-- samples and count of a channel -/
def o_sc (A : sA) (c : Nat) (g : Nat → Int32) (m : Nat) : sA := if c = 0 then s_N (s_F A 1 g) 6 m else s_N (s_F A 2 g) 7 m
theorem o_sc_cn {A : sA} {c d m : Nat} {g : Nat → Int32} (hc : c < 2) (hd : d < 2) : s_cn (o_sc A c g m) d = if d = c then m else s_cn A d := by
  rcases (by omega : c = 0 ∨ c = 1) with rfl | rfl <;> rcases (by omega : d = 0 ∨ d = 1) with rfl | rfl <;> rfl
theorem o_sc_sm {A : sA} {c d m : Nat} {g : Nat → Int32} (hc : c < 2) (hd : d < 2) : s_sm (o_sc A c g m) d = if d = c then g else s_sm A d := by
  rcases (by omega : c = 0 ∨ c = 1) with rfl | rfl <;> rcases (by omega : d = 0 ∨ d = 1) with rfl | rfl <;> rfl
theorem o_sc_o {A : sA} {c m : Nat} {g : Nat → Int32} (hc : c < 2) : s_tu (o_sc A c g m) = s_tu A ∧ s_ch (o_sc A c g m) = s_ch A ∧ s_wd (o_sc A c g m) = s_wd A ∧ s_fr (o_sc A c g m) = s_fr A ∧ s_ef (o_sc A c g m) = s_ef A ∧ s_al (o_sc A c g m) = s_al A ∧ s_su (o_sc A c g m) = s_su A ∧ s_tb (o_sc A c g m) = s_tb A ∧ s_wt (o_sc A c g m) = s_wt A ∧ s_sh (o_sc A c g m) = s_sh A ∧ s_sb (o_sc A c g m) = s_sb A ∧ s_sd (o_sc A c g m) = s_sd A := by
  rcases (by omega : c = 0 ∨ c = 1) with rfl | rfl <;> exact ⟨rfl, rfl, rfl, rfl, rfl, rfl, rfl, rfl, rfl, rfl, rfl, rfl⟩
/-- the reference's cells with a channel grown -/
theorem RM_sc {A : sA} {I J : mm_I} {c m : Nat} {g : Nat → Int32} (hR : RM A I) (hV : VA A) (hc : c < s_ch A) (h58 : ∀ j, j ≠ 16 → J 58 j = I 58 j) (ho : ∀ a, a ≠ 58 → a ≠ 60 → a ≠ 61 → J a = I a) (h61 : ∀ d, J 61 d = if d = c then nI m else I 61 d) (h60 : ∀ i, i < m → J 60 (256 * c + i) = g i) (h60o : ∀ d i, d < 2 → d ≠ c → i < 256 → J 60 (256 * d + i) = I 60 (256 * d + i)) : RM (o_sc A c g m) J := by
  have hch := hV.ch
  obtain ⟨ht, hs, ⟨o1, o2, o3⟩, hp, hk⟩ := hR
  obtain ⟨q1, q2, q3, q4, q5, q6, q7, q8, q9, q10, q11, q12⟩ := o_sc_o (A := A) (m := m) (g := g) (show c < 2 by omega)
  have f59 := ho 59 (by decide) (by decide) (by decide)
  have f62 := ho 62 (by decide) (by decide) (by decide)
  have f63 := ho 63 (by decide) (by decide) (by decide)
  have f66 := ho 66 (by decide) (by decide) (by decide)
  unfold RM RMt RMs RMo RMp RMk
  rw [q1, q2, q3, q4, q5, q6, q7, q8, q9, q10, q11, q12, f59, f62, f63, f66, h58 1 (by decide), h58 4 (by decide), h58 5 (by decide), h58 6 (by decide), h58 7 (by decide), h58 8 (by decide), h58 9 (by decide), h58 15 (by decide)]
  refine ⟨ht, ⟨hs.1, hs.2.1, hs.2.2.1, fun d hd => ?_, fun d i hd hi => ?_⟩, ⟨o1, o2, o3⟩, hp, hk⟩
  · rw [h61 d, o_sc_cn (by omega) (by omega)]
    by_cases q : d = c
    · rw [if_pos q, if_pos q]
    · rw [if_neg q, if_neg q]
      exact hs.2.2.2.1 d hd
  · rw [o_sc_cn (by omega) (by omega)] at hi
    rw [o_sc_sm (by omega) (by omega)]
    by_cases q : d = c
    · rw [if_pos q] at hi ⊢
      subst q
      exact h60 i hi
    · rw [if_neg q] at hi ⊢
      have := hV.cn (c := d) (by omega)
      rw [h60o d i (by omega) q (by omega)]
      exact hs.2.2.2.2 d i hd hi
