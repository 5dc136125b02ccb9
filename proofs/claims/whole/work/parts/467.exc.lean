/-! the law: an op that may throw, behind the helper's call -/
def dE (q0 q1 r iy : Nat) : Prop := (decode code q0 = .ok (.istore 5, 2) ∧ decode code (q0 + 2) = .ok (.aload_n 2, 1) ∧ dAs (q0 + 3) r ∧ q0 + 3 + 6 * r = q1 ∧ decode code q1 = .ok (.invokevirtual iy, 3) ∧ decode code (q1 + 3) = .ok (.istore 6, 2) ∧ decode code (q1 + 5) = .ok (.aload_n 2, 1) ∧ decode code (q1 + 6) = .ok (.invokevirtual 97, 3)) ∧ (decode code (q1 + 9) = .ok (.iload 5, 2) ∧ decode code (q1 + 11) = .ok (.if_icmp .eq 5, 3) ∧ decode code (q1 + 16) = .ok (.iload 5, 2) ∧ decode code (q1 + 18) = .ok (.ifCond .ne 15, 3)) ∧ (decode code (q1 + 21) = .ok (.aload_n 3, 1) ∧ decode code (q1 + 22) = .ok (.iconst 0, 1) ∧ decode code (q1 + 23) = .ok (.laload, 1) ∧ decode code (q1 + 24) = .ok (.iload 6, 2) ∧ decode code (q1 + 26) = .ok (.i2l, 1) ∧ decode code (q1 + 27) = .ok (.lcmp, 1) ∧ decode code (q1 + 28) = .ok (.ifCond .eq 5, 3)) ∧ decode code (q1 + 33) = .ok (.goto (1572 - ((q1 + 33 : Nat) : Int)), 3)
theorem lg_cmp_r (x : Int64) : lg_cmp x x = 0 := by
  unfold lg_cmp
  simp
section LWX
variable {p : Program} {l : Launch} {e : Env} {R : Room} {s : State} {m : MethodId} {args : Array Value} {below : List Frame} {meth : Method} {c : Code} {H : Heap} {locs : List Loc} {cells slots : Nat} {Q : State → Prop} {D : va_G} {B t : Nat} {cI cZ cJ : ClassId} {sl : Array Slot} {b L n : Nat} {xs : Nat → Int32} {J : mm_I}
theorem lw_exc (C : lwC p s m args c D B t cI cZ b L xs) (hKJ : va_K D vwCl [(cJ, .long)] s) (hl : lv_has sl 7 (lwB B b n)) (hL : L ≤ 3584) {q0 q1 r k2 iy : Nat} {A : sA} {v fl : Int32} {g : Nat → Int64} (hr : r ≤ 6) (hn : n + 7 ≤ L) (hd : dE q0 q1 r iy) (hm : (k2 < 227 ∧ mm_md k2 = 1 ∧ Cond.methodLink "WholeSoundLaw" iy (mm_y k2) ∈ mm_GW ∧ mm_c k2 = 9 ∧ mm_na k2 = r + 1 ∧ r + 1 ≤ mm_mL k2)) (hroom : 14 ≤ R.frames ∧ 560 ≤ R.locals) (hcell : cells ≤ R.cells ∧ slots ≤ R.slots) (hRX : RX A J) (hVA : VA A)
    (hM : mm_Mi k2 (.ref 58 :: lwAs xs n r) J (oT (v, A) fl RM FM J)) (hfl : (fl = 0 ∧ g 0 = v.toInt64) ∨ fl = 1) (hR : lwR D B t cI cZ s (lh_oc cJ g) J H locs)
    (kk : ∀ sl1 J1 H1 locs1, lv_has sl1 7 (lwB B b n) → RX A J1 → RM A J1 → lwR D B t cI cZ s (lh_oc cJ g) J1 H1 locs1 → W p l e R s m args below meth c H1 locs1 cells slots Q (F0 m 1572 sl1 [])) : W p l e R s m args below meth c H locs cells slots Q (F0 m q0 sl [.int fl]) := by
  have C' := C
  obtain ⟨hx, hb, hml, hown, hts, hK, hN, hZ, hT, hB, hXs, hbl⟩ := C'
  obtain ⟨⟨d1, d2, d3, d4, d5, d6, d7, d8⟩, ⟨e1, e2, e3, e4⟩, ⟨f1, f2, f3, f4, f5, f6, f7⟩, g1⟩ := hd
  obtain ⟨m1, m2, m3, m4, m5, m6⟩ := hm
  have fit : ∀ a, (mm_ent0 (.ref a :: lwAs xs n r)).length = r + 1 := fun a => by
    show (some (Value.ref a) :: mm_ent0 (lwAs xs n r)).length = r + 1
    rw [List.length_cons, lwAs_e]
  refine lv_istore hx hb d1 hl (by decide) (lv' := (5, .int fl) :: lwB B b n) rfl (fun sl1 hl1 => ?_)
  have hla : lv_has sl1 7 (lwB B b n) := ⟨hl1.1, hl1.2.1, fun q hq => hl1.2.2 q (List.mem_cons_of_mem _ hq)⟩
  refine lv_aload_n hx hb d2 (i := 2) rfl (lv_at hla 2 rfl) ?_
  refine lw_args C hR.2.2.1 hla hL r hr (by omega) d3 ?_
  have d4' : q0 + 2 + 1 + 6 * r = q1 := by omega
  rw [d4']
  refine lw_call C (a := 58) (as' := lwAs xs n r) (rest := []) m1 m2 m3 d5 (by omega) (show mm_nth 0 mm_lK 58 = mm_c k2 from m4.symm) (by rw [lwAs_l]; exact m5) (by rw [fit]; exact m6) (lwAs_m r) hM hla.1 (Nat.zero_le _) hroom hcell hR (fun r1 J1 h1 H1 locs1 hR1 => ?_)
  obtain ⟨⟨a1, a2, a3⟩, a4⟩ := h1
  have a1 : r1 = v := a1
  subst a1
  refine lv_istore hx hb d6 hl1 (by decide) (lv' := (6, .int r1) :: (5, .int fl) :: lwB B b n) rfl (fun sl2 hl2 => ?_)
  have hlb : lv_has sl2 7 (lwB B b n) := ⟨hl2.1, hl2.2.1, fun q hq => hl2.2.2 q (List.mem_cons_of_mem _ (List.mem_cons_of_mem _ hq))⟩
  refine lv_aload_n hx hb d7 (i := 2) rfl (lv_at hlb 2 rfl) ?_
  refine lw_call C (k := 124) (ix := 97) (a := 58) (as' := []) (rest := []) (P := fun r I' => r = fl ∧ I' = J1) (by decide) (by decide +kernel) (mm_wt_mem (i := 1155) (by decide +kernel)) d8 (by omega) (by decide +kernel) (show mm_na 124 = 1 by decide +kernel) (by show 1 ≤ mm_mL 124; decide +kernel) rfl (sp_M_thrown ⟨a4, rfl⟩) hlb.1 (Nat.zero_le _) hroom hcell hR1 (fun r2 J2 h2 H2 locs2 hR2 => ?_)
  obtain ⟨rfl, rfl⟩ := h2
  have fin : ∀ (H3 : Heap) (locs3 : List Loc), lwR D B t cI cZ s (lh_oc cJ g) J2 H3 locs3 → W p l e R s m args below meth c H3 locs3 cells slots Q (F0 m (q1 + 33) sl2 []) := fun H3 locs3 hR3 => by
    refine lv_goto hx hb g1 (tgt := 1572) (by omega) ?_
    exact kk sl2 J2 H3 locs3 hlb (RX_FM hRX a3) a2 hR3
  refine lv_iload hx hb e1 (lv_at hl2 1 rfl) ?_
  refine lv_icmp_eq hx hb e2 (tgt := q1 + 16) (by omega) (fun _ => ?_) (fun z => absurd rfl z)
  refine lv_iload hx hb e3 (lv_at hl2 1 rfl) ?_
  refine lv_if_ne hx hb e4 (tgt := q1 + 33) (by omega) (fun _ => fin H2 locs2 hR2) (fun z => ?_)
  rcases hfl with ⟨-, hg⟩ | w
  · refine lv_aload_n hx hb f1 (i := 3) rfl (lv_at hlb 3 rfl) ?_
    refine lv_iconst hx hb f2 (v := 0) rfl ?_
    refine va_lald (D := D) (cl := vwCl) (ws := [(B + 83, .inl (cJ, 1, .inr (.inl g)))]) (tys := [(cJ, .long)]) hx hb hKJ (fun k q hk => by
      cases k with
      | zero => cases hk; exact hR2.2.2.2
      | succ k => cases hk) 0 0 rfl rfl (mm_vpc (by decide)) f3 ?_
    refine lv_iload hx hb f4 (lv_at hl2 0 rfl) ?_
    refine lv_i2l hx hb f5 rfl ?_
    refine W.lcmp hx hb f6 ?_
    have e0 : g (0 : Int32).toNatClampNeg = r1.toInt64 := hg
    rw [e0, lg_cmp_r]
    exact lv_if_eq hx hb f7 (tgt := q1 + 33) (by omega) (fun _ => fin H2 locs2 hR2) (fun y => absurd rfl y)
  · rw [w] at z
    exact absurd z (by decide)
end LWX
