/-! the law up to its loop -/
theorem st_d : (decode code 0 = .ok (.new 8, 3) ∧ decode code 3 = .ok (.dup, 1) ∧ decode code 4 = .ok (.invokespecial 24, 3) ∧ decode code 7 = .ok (.astore_n 1, 1)) ∧ (decode code 8 = .ok (.new 25, 3) ∧ decode code 11 = .ok (.dup, 1) ∧ decode code 12 = .ok (.invokespecial 27, 3) ∧ decode code 15 = .ok (.astore_n 2, 1)) ∧ (decode code 16 = .ok (.iconst 1, 1) ∧ decode code 17 = .ok (.newarray .long, 2) ∧ decode code 19 = .ok (.astore_n 3, 1) ∧ decode code 20 = .ok (.iconst 0, 1) ∧ decode code 21 = .ok (.istore 4, 2)) ∧ decode code 1578 = .ok (.iconst 1, 1) ∧ decode code 1579 = .ok (.ireturn, 1) :=
  ⟨⟨by decide +kernel, by decide +kernel, by decide +kernel, by decide +kernel⟩, ⟨by decide +kernel, by decide +kernel, by decide +kernel, by decide +kernel⟩, ⟨by decide +kernel, by decide +kernel, by decide +kernel, by decide +kernel, by decide +kernel⟩, by decide +kernel, by decide +kernel⟩
theorem st_r1 : mm_dp 67 + 1 ≤ 15 ∧ 8 + (mm_mL 67 + 11) + 40 * mm_dp 67 ≤ 618 := by decide +kernel
theorem st_r2 : mm_dp 123 + 1 ≤ 15 ∧ 8 + (mm_mL 123 + 11) + 40 * mm_dp 123 ≤ 618 := by decide +kernel
theorem st_k1 : mm_md 67 = 2 ∧ mm_na 67 = 1 ∧ 1 ≤ mm_mL 67 := by decide +kernel
theorem st_k2 : mm_md 123 = 2 ∧ mm_na 123 = 1 ∧ 1 ≤ mm_mL 123 := by decide +kernel
theorem st_l1 : (Cond.classLink "WholeSoundLaw" 8 (mm_cn 8) : Cond) ∈ mm_GW := mm_wt_mem (i := 100) (by decide +kernel)
theorem st_l2 : (Cond.methodLink "WholeSoundLaw" 24 (mm_y 67) : Cond) ∈ mm_GW := mm_wt_mem (i := 102) (by decide +kernel)
theorem st_l3 : (Cond.classLink "WholeSoundLaw" 25 (mm_cn 9) : Cond) ∈ mm_GW := mm_wt_mem (i := 1009) (by decide +kernel)
theorem st_l4 : (Cond.methodLink "WholeSoundLaw" 27 (mm_y 123) : Cond) ∈ mm_GW := mm_wt_mem (i := 1011) (by decide +kernel)
theorem st_l5 : (Cond.initialized (mm_cn 8) : Cond) ∈ mm_GW := mm_wt_mem (i := 81) (by decide +kernel)
theorem st_l6 : (Cond.initialized (mm_cn 9) : Cond) ∈ mm_GW := mm_wt_mem (i := 90) (by decide +kernel)
theorem st_l7 : (Cond.arrayClass .long : Cond) ∈ mm_GW := mm_wt_mem (i := 1563) (by decide +kernel)
theorem st_wl0 {B t : Nat} {cI cZ : ClassId} : mm_wl B t cI cZ ini_0 = [] := rfl
section LWT
variable {p : Program} {l : Launch} {e : Env} {R : Room} {s : State} {m : MethodId} {args : Array Value} {below : List Frame} {meth : Method} {c : Code} {H : Heap} {locs : List Loc} {cells slots : Nat} {Q : State → Prop} {D : va_G} {B t : Nat} {cI cZ cJ : ClassId} {pc : Nat} {sl : Array Slot} {b L : Nat} {xs : Nat → Int32} {h : mm_H} {I : mm_I}
set_option maxHeartbeats 4000000 in
theorem lw_two (C : lwC p s m args c D B t cI cZ b L xs) {f g : Nat} {h1 h2 : mm_H} {sx sm : mm_S} (ex : mm_run true f 67 0 (mm_ent (mm_mL 67) [.ref 0]) [] (mm_add ini_0 8 (mm_N 8)) = some sx) (rx : mm_ret 67 sx.1 sx.2.2.1 = some none) (zx : sx.2.2.2 = h1) (n1 : mm_n h1 = 58) (em : mm_run true g 123 0 (mm_ent (mm_mL 123) [.ref 58]) [] (mm_add h1 9 (mm_N 9)) = some sm) (rm : mm_ret 123 sm.1 sm.2.2.1 = some none) (zm : sm.2.2.2 = h2) (n2 : mm_n h2 = 83) (s2 : mm_sl h2 = 12270) (hroom : 15 ≤ R.frames ∧ 618 ≤ R.locals) (hcell : 83 ≤ R.cells ∧ 12270 ≤ R.slots) (hl : lv_has sl 7 [(0, .ref b)])
    (kk : ∀ (sl : Array Slot) (H1 : Heap) (locs1 : List Loc), lv_has sl 7 [(2, .ref (B + 58)), (1, .ref B), (0, .ref b)] → mm_Rl D B t cI cZ s h2 H1 locs1 → W p l e R s m args below meth c H1 locs1 83 12270 Q (F0 m 16 sl [])) : W p l e R s m args below meth c s.heap [] 0 0 Q (F0 m 0 sl []) := by
  obtain ⟨⟨d0, d3, d4, d7⟩, ⟨d8, d11, d12, d15⟩, -, -, -⟩ := st_d
  have C' := C
  obtain ⟨hx, hb, hml, hown, hts, hK, hN, hZ, hT, hB, hXs, hbl⟩ := C'
  have m2 := mm_run_mono em
  have m1 := mm_run_mono ex
  rw [zm] at m2
  rw [zx] at m1
  have ea : mm_sl (mm_add h1 9 (mm_N 9)) = mm_sl h1 + mm_N 9 := rfl
  have eb : mm_n (mm_add h1 9 (mm_N 9)) = mm_n h1 + 1 := rfl
  have ec : mm_sl (mm_add ini_0 8 (mm_N 8)) = mm_sl ini_0 + mm_N 8 := rfl
  have ed : mm_n (mm_add ini_0 8 (mm_N 8)) = mm_n ini_0 + 1 := rfl
  have z0 : mm_n ini_0 = 0 := rfl
  have z1 : mm_sl ini_0 = 0 := rfl
  have hR0 : mm_Rl D B t cI cZ s ini_0 s.heap [] := by
    refine ⟨?_, ?_, va_S.rf, Nat.zero_le _⟩
    · rw [st_wl0]; exact fun k q hq => by simp at hq
    · rw [st_wl0]; exact ⟨fun i j p q hq => by simp at hq, fun k q hq => by simp at hq⟩
  show W p l e R s m args below meth c s.heap [] (mm_n ini_0) (mm_sl ini_0) Q (F0 m 0 sl [])
  refine lw_new C (h := ini_0) (pp := 8) (ix := 8) (by omega) d0 st_l1 st_l5 (by omega) (by omega) (by omega) hR0 (fun H1 hR1 => ?_)
  rw [← ed, ← ec, z0, Nat.add_zero]
  refine lv_dup hx hb d3 rfl ?_
  refine lw_init C (h := mm_add ini_0 8 (mm_N 8)) (h' := h1) (k := 67) (ix := 24) (a := 0) (f := f) (rest := [.ref B]) (by omega) st_k1.1 st_l2 d4 (by omega) st_k1.2.1 st_k1.2.2 ex rx zx hl.1 (by show 1 + 0 ≤ 8; omega) ⟨Nat.le_trans st_r1.1 hroom.1, Nat.le_trans st_r1.2 hroom.2⟩ ⟨by omega, by omega⟩ hR1 (fun H2 locs2 hR2 => ?_)
  refine lv_astore_n (lv' := [(1, .ref B), (0, .ref b)]) hx hb d7 rfl hl (by decide) rfl (fun sl1 hl1 => ?_)
  refine lw_new C (h := h1) (pp := 9) (ix := 25) (by omega) d8 st_l3 st_l6 (by omega) (by omega) (by omega) hR2 (fun H3 hR3 => ?_)
  rw [← eb, ← ea, n1]
  refine lv_dup hx hb d11 rfl ?_
  refine lw_init C (h := mm_add h1 9 (mm_N 9)) (h' := h2) (k := 123) (ix := 27) (a := 58) (f := g) (rest := [.ref (B + 58)]) (by omega) st_k2.1 st_l4 d12 (by omega) st_k2.2.1 st_k2.2.2 em rm zm hl1.1 (by show 1 + 0 ≤ 8; omega) ⟨Nat.le_trans st_r2.1 hroom.1, Nat.le_trans st_r2.2 hroom.2⟩ ⟨by omega, by omega⟩ hR3 (fun H4 locs4 hR4 => ?_)
  rw [n2, s2]
  refine lv_astore_n (lv' := [(2, .ref (B + 58)), (1, .ref B), (0, .ref b)]) hx hb d15 rfl hl1 (by decide) rfl (fun sl2 hl2 => ?_)
  exact kk sl2 H4 locs4 hl2 hR4
set_option maxHeartbeats 4000000 in
theorem lw_out (C : lwC p s m args c D B t cI cZ b L xs) (hKJ : va_K D vwCl [(cJ, .long)] s) (hwl : mm_wl B t cI cZ h = mm_wl B t cI cZ (mm_lay, I)) (n2 : mm_n h = 83) (hR : mm_Rl D B t cI cZ s h H locs) (hl : lv_has sl 7 [(2, .ref (B + 58)), (1, .ref B), (0, .ref b)]) (hcell : 84 ≤ R.cells ∧ 12271 ≤ R.slots)
    (kk : ∀ (sl : Array Slot) (H1 : Heap), lv_has sl 7 (lwB B b 0) → lwR D B t cI cZ s (lh_oc cJ (fun _ => 0)) I H1 locs → W p l e R s m args below meth c H1 locs 84 12271 Q (F0 m 23 sl [])) : W p l e R s m args below meth c H locs 83 12270 Q (F0 m 16 sl []) := by
  obtain ⟨-, -, ⟨d16, d17, d19, d20, d21⟩, -, -⟩ := st_d
  obtain ⟨hx, hb, hml, hown, hts, hK, hN, hZ, hT, hB, hXs, hbl⟩ := C
  obtain ⟨hP, hD, hS, hn⟩ := id hR
  refine lv_iconst (v := 1) hx hb d16 (by decide) ?_
  refine mm_Wsz (fun hsz => ?_)
  have hlow := mm_low hR (Nat.le_of_eq hB)
  have hsize : H.size = B + 83 := by omega
  refine va_newaK (atype := .long) (N := 1) (n := 1) (rest := []) hx hb (hts _ st_l7) (g := F0 m 17 sl [.int 1]) rfl d17 rfl (by decide +kernel) (by decide +kernel) (by decide +kernel) hcell.1 hcell.2 hsize (fun H1 cA q1 q2 q3 q4 q5 => ?_)
  have hc : cA = cJ := Option.some.inj (q5.symm.trans (hKJ.2 0 (cJ, .long) rfl).2)
  subst hc
  show W p l e R s m args below meth c H1 locs 84 12271 Q (F0 m 19 sl [.ref (B + 83)])
  refine lv_astore_n (lv' := [(3, .ref (B + 83)), (2, .ref (B + 58)), (1, .ref B), (0, .ref b)]) hx hb d19 rfl hl (by decide) rfl (fun sl1 hl1 => ?_)
  refine lv_iconst (v := nI 0) hx hb d20 rfl ?_
  refine lv_istore (lv' := [(4, .int (nI 0)), (3, .ref (B + 83)), (2, .ref (B + 58)), (1, .ref B), (0, .ref b)]) hx hb d21 hl1 (by decide) rfl (fun sl2 hl2 => ?_)
  refine kk sl2 H1 (lv_sub hl2 [4, 3, 2, 1, 0] rfl) ⟨?_, ?_, ⟨by omega, fun x h1 h2 => (q3 x (by have := hS.1; omega)).trans (hS.2.1 x h1 h2), hS.2.2⟩, q1⟩
  · rw [← hwl]
    exact hP.kept (fun k x hx => q3 x.1 (by have := (hP k x hx).lt; omega))
  · rw [← hwl]
    refine ⟨hD.1, fun k q hq => ?_⟩
    have hk : k < mm_n h := by
      have := (List.getElem?_eq_some_iff.mp hq).1
      simpa [mm_wl] using this
    have e := Option.some.inj ((mm_wl_get hk).symm.trans hq)
    rw [← e]
    exact ⟨Nat.le_add_right _ _, by show B + k < B + 83; omega⟩
end LWT
