theorem ini_nx : mm_n ini_x = 58 ∧ mm_n ini_m = 83 ∧ mm_sl ini_m = 12270 := by decide +kernel
def ini_l : mm_H := (mm_lay, ini_m.2)
theorem ini_lay : (List.range 83).all (fun a => Nat.beq (mm_K ini_m a) (mm_K ini_l a) && Nat.beq (mm_L ini_m a) (mm_L ini_l a) && (Nat.ble 10 (mm_K ini_m a) || (List.range (mm_N (mm_K ini_m a))).all (fun s => mm_R ini_m a s == mm_R ini_l a s))) = true := by decide +kernel
def A_0 : sA := (fun i => if i = 3 then 32 else if i = 4 then 1 else if i = 5 then 255 else 0, fun j => if j = 6 then (fun _ => 1) else fun _ => 0)
theorem VA_0 : VA A_0 := by
  refine ⟨Nat.zero_le _, Nat.zero_le _, fun _ => rfl, fun z => absurd rfl z, ⟨by show 16 ≤ 32; omega, by show 32 ≤ 64; omega, by show 32 % 8 = 0; rfl⟩, Nat.le_refl _, ⟨by show 255 ≤ 255; omega, by show 255 % 2 = 1; rfl⟩, fun c hc => ?_, fun c hc _ => ?_, Nat.zero_le _, fun i hi => absurd hi (Nat.not_lt_zero i), fun i hi => absurd hi (Nat.not_lt_zero i), fun c i hc => absurd hc (Nat.not_lt_zero c), fun j hj => ?_, fun j hj => ?_⟩
  · rcases (by omega : c = 0 ∨ c = 1) with rfl | rfl <;> exact Nat.zero_le _
  · rcases (by omega : c = 0 ∨ c = 1) with rfl | rfl <;> rfl
  · show -31 ≤ (0 : Int32).toInt ∧ (0 : Int32).toInt ≤ 31
    rw [z_toI]; omega
  · show 0 ≤ (0 : Int32).toInt ∧ (0 : Int32).toInt ≤ 4
    rw [z_toI]; omega
theorem ini_c1 : ini_m.2 58 1 = 0 ∧ ini_m.2 58 4 = 0 ∧ ini_m.2 58 5 = 0 ∧ ini_m.2 58 9 = 1 ∧ ini_m.2 58 6 = nI 32 ∧ ini_m.2 58 7 = nI 1 ∧ ini_m.2 58 8 = nI 255 ∧ (∀ j, j < 9 → ini_m.2 62 j = 0) ∧ (∀ j, j < 3 → ini_m.2 63 j = 0) ∧ ini_m.2 58 15 = 0 := by decide +kernel
theorem RM_0 : RM A_0 ini_m.2 := by
  obtain ⟨a1, a2, a3, a4, a5, a6, a7, a8, a9, a10⟩ := ini_c1
  exact ⟨⟨a1, fun i hi => absurd hi (Nat.not_lt_zero i)⟩, ⟨a2, a3, a4, fun c hc => absurd hc (Nat.not_lt_zero c), fun c i hc => absurd hc (Nat.not_lt_zero c)⟩, ⟨a5, a6, a7⟩, ⟨a8, a9⟩, ⟨a10, fun i hi => absurd hi (Nat.not_lt_zero i)⟩⟩
theorem ini_c2 : ini_m.2 1 1 = 0 ∧ ini_m.2 3 2 = 0 ∧ ini_m.2 3 3 = 0 ∧ ini_m.2 3 4 = 1 ∧ (∀ c, c < 2 → ini_m.2 5 c = 0) ∧ ini_m.2 0 7 = nI 32 ∧ ini_m.2 0 8 = nI 1 ∧ ini_m.2 0 9 = nI 255 ∧ ini_m.2 47 1 = 0 ∧ ini_m.2 47 2 = 0 := by decide +kernel
theorem ini_c3 : (∀ p, p < 5 → ∀ j, j < 4 → ini_m.2 7 (4 * p + j) = mm_fix (4 * p + j)) ∧ (∀ q, q < 3 → ∀ j, j < 3 → ini_m.2 7 (4 * (5 + q) + j) = 0) ∧ (∀ p, p < 8 → ini_m.2 8 p = nI (o_od (fun _ => 0) p)) ∧ (∀ p, p < 8 → ini_m.2 9 p = 0) ∧ (∀ p, p < 5 → ∀ j, j < 4 → ini_m.2 50 (4 * p + j) = mm_fix (4 * p + j)) ∧ (∀ p, p < 5 → ini_m.2 51 p = nI p) ∧ ∀ p, p < 5 → ini_m.2 52 p = 0 := by decide +kernel
theorem RX_00 {I : mm_I} (a : I 1 1 = 0 ∧ I 3 2 = 0 ∧ I 3 3 = 0 ∧ I 3 4 = 1 ∧ (∀ c, c < 2 → I 5 c = 0) ∧ I 0 7 = nI 32 ∧ I 0 8 = nI 1 ∧ I 0 9 = nI 255 ∧ I 47 1 = 0 ∧ I 47 2 = 0)
    (b : (∀ p, p < 5 → ∀ j, j < 4 → I 7 (4 * p + j) = mm_fix (4 * p + j)) ∧ (∀ q, q < 3 → ∀ j, j < 3 → I 7 (4 * (5 + q) + j) = 0) ∧ (∀ p, p < 8 → I 8 p = nI (o_od (fun _ => 0) p)) ∧ (∀ p, p < 8 → I 9 p = 0) ∧ (∀ p, p < 5 → ∀ j, j < 4 → I 50 (4 * p + j) = mm_fix (4 * p + j)) ∧ (∀ p, p < 5 → I 51 p = nI p) ∧ ∀ p, p < 5 → I 52 p = 0) : RX A_0 I := by
  obtain ⟨a1, a2, a3, a4, a5, a6, a7, a8, a9, a10⟩ := a
  obtain ⟨b1, b2, b3, b4, b5, b6, b7⟩ := b
  refine ⟨⟨a1, fun i hi => absurd hi (Nat.not_lt_zero i)⟩, ⟨a2, a3, a4, fun c hc => ?_, fun c i hc hi => ?_⟩, ⟨a6, a7, a8⟩, ⟨fun p j hp hj => b1 p hp j hj, fun q j hq hj => b2 q hq j hj, b3, fun p hp => ?_⟩, ⟨fun p j hp hj => b5 p hp j hj, b6, b7⟩, ⟨a9, a10, fun i hi => absurd hi (Nat.not_lt_zero i)⟩⟩
  · rw [a5 c hc]
    rcases (by omega : c = 0 ∨ c = 1) with rfl | rfl <;> rfl
  · exfalso
    rcases (by omega : c = 0 ∨ c = 1) with rfl | rfl
    · exact absurd hi (Nat.not_lt_zero i)
    · exact absurd hi (Nat.not_lt_zero i)
  · rw [b4 p hp]
    unfold o_sf
    split <;> rfl
theorem RX_0 : RX A_0 ini_m.2 := RX_00 ini_c2 ini_c3
theorem ini_run {k : Nat} {r : Option mm_S} {h : mm_H} (h1 : ini_ck k r = true) (h2 : h = match r with
    | some s => s.2.2.2
    | none => ini_0) : ∃ s, r = some s ∧ mm_ret k s.1 s.2.2.1 = some none ∧ s.2.2.2 = h := by
  cases r with
  | none => cases h1
  | some s =>
    refine ⟨s, rfl, ?_, h2.symm⟩
    unfold ini_ck at h1
    simp only at h1
    cases hr : mm_ret k s.1 s.2.2.1 with
    | none => rw [hr] at h1; cases h1
    | some v =>
      rw [hr] at h1
      cases v with
      | none => rfl
      | some w => cases h1
theorem ini_k10 : ∀ a, a < 83 → mm_K ini_m a = 100 ∨ mm_K ini_m a = 101 ∨ mm_K ini_m a < 10 := by decide +kernel
theorem wl_eq {B t : Nat} {cI cZ : ClassId} {h h' : mm_H} (hn : mm_n h = 83) (hn2 : mm_n h' = 83) (hG : ∀ a s, mm_G h' a s = mm_G h a s) (hq : (List.range 83).all (fun a => Nat.beq (mm_K h a) (mm_K h' a) && Nat.beq (mm_L h a) (mm_L h' a) && (Nat.ble 10 (mm_K h a) || (List.range (mm_N (mm_K h a))).all (fun s => mm_R h a s == mm_R h' a s))) = true) (k10 : ∀ a, a < 83 → mm_K h a = 100 ∨ mm_K h a = 101 ∨ mm_K h a < 10) : mm_wl B t cI cZ h = mm_wl B t cI cZ h' := by
  unfold mm_wl
  rw [hn, hn2]
  refine List.map_congr_left fun a ha => ?_
  have q := List.all_eq_true.mp hq a ha
  rw [Bool.and_eq_true, Bool.and_eq_true, mm_beq_iff, mm_beq_iff] at q
  obtain ⟨⟨q1, q2⟩, q3⟩ := q
  have e3 : mm_G h' a = mm_G h a := funext (hG a)
  congr 1
  unfold mm_cel
  rw [← q1, ← q2, e3]
  by_cases z : mm_K h a = 100
  · rw [if_pos z, if_pos z]
  · rw [if_neg z, if_neg z]
    by_cases y : mm_K h a = 101
    · rw [if_pos y, if_pos y]
    · rw [if_neg y, if_neg y]
      congr 2
      refine List.map_congr_left fun s hs => ?_
      rw [Bool.or_eq_true] at q3
      have q4 : mm_R h a s = mm_R h' a s := by
        rcases q3 with w | w
        · exfalso
          have := k10 a (List.mem_range.mp ha)
          have := Nat.le_of_ble_eq_true w
          omega
        · have := List.all_eq_true.mp w s hs
          exact (beq_iff_eq.mp this)
      unfold mm_fv
      rw [q4, congrFun e3 s]
theorem G_pair {L : mm_Ly} {h : mm_H} : ∀ a s, mm_G (L, h.2) a s = mm_G h a s := fun _ _ => rfl
/-- what the constructors come to is the layout -/
theorem ini_wl (B t : Nat) (cI cZ : ClassId) : mm_wl B t cI cZ ini_m = mm_wl B t cI cZ ini_l := wl_eq ini_nx.2.1 rfl (by unfold ini_l; exact G_pair) ini_lay ini_k10
