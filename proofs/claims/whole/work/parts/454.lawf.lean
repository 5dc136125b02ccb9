/-! the law: feed -/
def lwL (xs : Nat → Int32) (a b : Nat) : Int64 := ((xs a).toInt64 <<< ((32 : Int32).toInt64 &&& 63)) ||| ((xs b).toInt64 &&& 4294967295)
def dA6 (pc : Nat) : Prop := decode code pc = .ok (.aload_n 0, 1) ∧ decode code (pc + 1) = .ok (.iload 4, 2) ∧ decode code (pc + 3) = .ok (.bipush 6, 2) ∧ decode code (pc + 5) = .ok (.iadd, 1) ∧ decode code (pc + 6) = .ok (.iaload, 1)
def dL1 (pc : Nat) : Prop := decode code pc = .ok (.i2l, 1) ∧ decode code (pc + 1) = .ok (.bipush 32, 2) ∧ decode code (pc + 3) = .ok (.lshl, 1)
def dL2 (pc : Nat) : Prop := decode code pc = .ok (.i2l, 1) ∧ decode code (pc + 1) = .ok (.ldc2_w 28, 3) ∧ decode code (pc + 4) = .ok (.land, 1) ∧ decode code (pc + 5) = .ok (.lor, 1)
theorem lw_c28 : (Cond.constantLong "WholeSoundLaw" 28 4294967295 : Cond) ∈ mm_GW := mm_wt_mem (i := 1562) (by decide +kernel)
def dF (pc : Nat) : Prop := (dA pc 1 ∧ dL1 (pc + 6) ∧ dA (pc + 10) 2 ∧ dL2 (pc + 16)) ∧ (dA (pc + 22) 3 ∧ dL1 (pc + 28) ∧ dA (pc + 32) 4 ∧ dL2 (pc + 38)) ∧ (dA (pc + 44) 5 ∧ dL1 (pc + 50) ∧ dA6 (pc + 54) ∧ dL2 (pc + 61))
theorem df_1 : dF 205 := ⟨⟨⟨by decide +kernel, by decide +kernel, by decide +kernel, by decide +kernel, by decide +kernel⟩, ⟨by decide +kernel, by decide +kernel, by decide +kernel⟩, ⟨by decide +kernel, by decide +kernel, by decide +kernel, by decide +kernel, by decide +kernel⟩, ⟨by decide +kernel, by decide +kernel, by decide +kernel, by decide +kernel⟩⟩, ⟨⟨by decide +kernel, by decide +kernel, by decide +kernel, by decide +kernel, by decide +kernel⟩, ⟨by decide +kernel, by decide +kernel, by decide +kernel⟩, ⟨by decide +kernel, by decide +kernel, by decide +kernel, by decide +kernel, by decide +kernel⟩, ⟨by decide +kernel, by decide +kernel, by decide +kernel, by decide +kernel⟩⟩, ⟨⟨by decide +kernel, by decide +kernel, by decide +kernel, by decide +kernel, by decide +kernel⟩, ⟨by decide +kernel, by decide +kernel, by decide +kernel⟩, ⟨by decide +kernel, by decide +kernel, by decide +kernel, by decide +kernel, by decide +kernel⟩, ⟨by decide +kernel, by decide +kernel, by decide +kernel, by decide +kernel⟩⟩⟩
theorem df_2 : dF 276 := ⟨⟨⟨by decide +kernel, by decide +kernel, by decide +kernel, by decide +kernel, by decide +kernel⟩, ⟨by decide +kernel, by decide +kernel, by decide +kernel⟩, ⟨by decide +kernel, by decide +kernel, by decide +kernel, by decide +kernel, by decide +kernel⟩, ⟨by decide +kernel, by decide +kernel, by decide +kernel, by decide +kernel⟩⟩, ⟨⟨by decide +kernel, by decide +kernel, by decide +kernel, by decide +kernel, by decide +kernel⟩, ⟨by decide +kernel, by decide +kernel, by decide +kernel⟩, ⟨by decide +kernel, by decide +kernel, by decide +kernel, by decide +kernel, by decide +kernel⟩, ⟨by decide +kernel, by decide +kernel, by decide +kernel, by decide +kernel⟩⟩, ⟨⟨by decide +kernel, by decide +kernel, by decide +kernel, by decide +kernel, by decide +kernel⟩, ⟨by decide +kernel, by decide +kernel, by decide +kernel⟩, ⟨by decide +kernel, by decide +kernel, by decide +kernel, by decide +kernel, by decide +kernel⟩, ⟨by decide +kernel, by decide +kernel, by decide +kernel, by decide +kernel⟩⟩⟩
section LWD
variable {p : Program} {l : Launch} {e : Env} {R : Room} {s : State} {m : MethodId} {args : Array Value} {below : List Frame} {meth : Method} {c : Code} {H : Heap} {locs : List Loc} {cells slots : Nat} {Q : State → Prop} {D : va_G} {B t : Nat} {cI cZ : ClassId} {pc : Nat} {sl : Array Slot} {b L n : Nat} {xs : Nat → Int32} {oc : Cell} {I : mm_I} {rest : List Value}
theorem lw_arg6 (C : lwC p s m args c D B t cI cZ b L xs) (hS : va_S (fun q => B ≤ q) s.heap H locs) (hl : lv_has sl 7 (lwB B b n)) (hn : n + 6 < L) (hL : L ≤ 3584) (hd : dA6 pc)
    (kk : W p l e R s m args below meth c H locs cells slots Q (F0 m (pc + 7) sl (.int (xs (n + 6)) :: rest))) : W p l e R s m args below meth c H locs cells slots Q (F0 m pc sl rest) := by
  obtain ⟨hx, hb, hml, hown, hts, hK, hN, hZ, hT, hB, hX, hbl⟩ := C
  obtain ⟨d1, d2, d3, d4, d5⟩ := hd
  refine lv_aload_n hx hb d1 (i := 0) rfl (lv_at hl 0 rfl) ?_
  refine lv_iload hx hb d2 (lv_at hl 4 rfl) ?_
  refine lv_bipush hx hb d3 (v := nI 6) rfl ?_
  refine lv_iadd hx hb d4 ?_
  rw [nI_add]
  refine va_sld hx hb hX hbl (show ¬ B ≤ b by omega) hS (vp_in_nI hn (by omega)) d5 ?_
  rw [nI_clamp (n := n + 6) (by omega)]
  exact kk
theorem lw_l1 (C : lwC p s m args c D B t cI cZ b L xs) {x : Int32} (hd : dL1 pc) (kk : W p l e R s m args below meth c H locs cells slots Q (F0 m (pc + 4) sl (.long (x.toInt64 <<< ((32 : Int32).toInt64 &&& 63)) :: rest))) : W p l e R s m args below meth c H locs cells slots Q (F0 m pc sl (.int x :: rest)) := by
  obtain ⟨hx, hb, hml, hown, hts, hK, hN, hZ, hT, hB, hX, hbl⟩ := C
  obtain ⟨d1, d2, d3⟩ := hd
  refine lv_i2l hx hb d1 rfl ?_
  refine lv_bipush hx hb d2 (v := 32) rfl ?_
  exact lv_lshl hx hb d3 rfl kk
theorem lw_l2 (C : lwC p s m args c D B t cI cZ b L xs) {x : Int32} {w : Int64} (hd : dL2 pc) (kk : W p l e R s m args below meth c H locs cells slots Q (F0 m (pc + 6) sl (.long (w ||| (x.toInt64 &&& 4294967295)) :: rest))) : W p l e R s m args below meth c H locs cells slots Q (F0 m pc sl (.int x :: .long w :: rest)) := by
  obtain ⟨hx, hb, hml, hown, hts, hK, hN, hZ, hT, hB, hX, hbl⟩ := C
  obtain ⟨d1, d2, d3, d4⟩ := hd
  refine lv_i2l hx hb d1 rfl ?_
  refine lv_ldc2 hx hb hown (hts _ lw_c28) d2 ?_
  refine lv_land hx hb d3 ?_
  exact lv_lor hx hb d4 kk
theorem lw_longs (C : lwC p s m args c D B t cI cZ b L xs) (hS : va_S (fun q => B ≤ q) s.heap H locs) (hl : lv_has sl 7 (lwB B b n)) (hn : n + 7 ≤ L) (hL : L ≤ 3584) (hd : dF pc)
    (kk : W p l e R s m args below meth c H locs cells slots Q (F0 m (pc + 67) sl (.long (lwL xs (n + 5) (n + 6)) :: .long (lwL xs (n + 3) (n + 4)) :: .long (lwL xs (n + 1) (n + 2)) :: rest))) : W p l e R s m args below meth c H locs cells slots Q (F0 m pc sl rest) := by
  obtain ⟨⟨a1, a2, a3, a4⟩, ⟨b1, b2, b3, b4⟩, ⟨c1, c2, c3, c4⟩⟩ := hd
  refine lw_arg C hS hl (j := 1) rfl (by omega) hL a1 (lw_l1 C a2 (lw_arg C hS hl (j := 2) rfl (by omega) hL a3 (lw_l2 C a4 ?_)))
  refine lw_arg C hS hl (j := 3) rfl (by omega) hL b1 (lw_l1 C b2 (lw_arg C hS hl (j := 4) rfl (by omega) hL b3 (lw_l2 C b4 ?_)))
  exact lw_arg C hS hl (j := 5) rfl (by omega) hL c1 (lw_l1 C c2 (lw_arg6 C hS hl (by omega) hL c3 (lw_l2 C c4 kk)))
theorem lop_0 (C : lwC p s m args c D B t cI cZ b L xs) (hl : lv_has sl 7 (lwB B b n)) (hL : L ≤ 3584) {A : sA} (hn : n + 7 ≤ L) (hroom : 14 ≤ R.frames ∧ 560 ≤ R.locals) (hcell : cells ≤ R.cells ∧ slots ≤ R.slots) (hRX : RX A I) (hRM : RM A I) (hVA : VA A) (hR : lwR D B t cI cZ s oc I H locs)
    (kk : ∀ A' J H1 locs1, RX A' J → RM A' J → VA A' → lwR D B t cI cZ s oc J H1 locs1 → W p l e R s m args below meth c H1 locs1 cells slots Q (F0 m 1572 sl [])) : W p l e R s m args below meth c H locs cells slots Q (F0 m 204 sl []) := by
  have C' := C
  obtain ⟨hx, hb, hml, hown, hts, hK, hN, hZ, hT, hB, hXs, hbl⟩ := C'
  refine lv_aload_n hx hb (pc := 204) (k := 1) (by decide +kernel) (i := 1) rfl (lv_at hl 1 rfl) ?_
  refine lw_longs C hR.2.2.1 hl hn hL df_1 ?_
  refine lw_call C (pc := 272) (k := 68) (ix := 30) (a := 0) (as' := [.long (lwL xs (n + 1) (n + 2)), .long (lwL xs (n + 3) (n + 4)), .long (lwL xs (n + 5) (n + 6))]) (rest := []) (P := oR (oFeed A (lwL xs (n + 1) (n + 2)) (lwL xs (n + 3) (n + 4)) (lwL xs (n + 5) (n + 6))) RX FX I) (by decide) (by decide +kernel) (mm_wt_mem (i := 420) (by decide +kernel)) (by decide +kernel) (by omega) (by decide +kernel) (show mm_na 68 = 4 by decide +kernel) (by show 7 ≤ mm_mL 68; decide +kernel) rfl (by first | exact oX_feed hRX | exact oX_feed hRX hVA) hl.1 (Nat.zero_le _) hroom hcell hR (fun r1 I1 h1 H1 locs1 hR1 => ?_)
  obtain ⟨e1, x1, fx⟩ := h1
  refine lv_aload_n hx hb (pc := 275) (k := 2) (by decide +kernel) (i := 2) rfl (lv_at hl 2 rfl) ?_
  refine lw_longs C hR1.2.2.1 hl hn hL df_2 ?_
  have hJ := RM_FX hRM fx
  refine lw_call C (pc := 343) (k := 129) (ix := 34) (a := 58) (as' := [.long (lwL xs (n + 1) (n + 2)), .long (lwL xs (n + 3) (n + 4)), .long (lwL xs (n + 5) (n + 6))]) (rest := [.int r1]) (P := oR (oFeed A (lwL xs (n + 1) (n + 2)) (lwL xs (n + 3) (n + 4)) (lwL xs (n + 5) (n + 6))) RM FM I1) (by decide) (by decide +kernel) (mm_wt_mem (i := 1159) (by decide +kernel)) (by decide +kernel) (by omega) (by decide +kernel) (show mm_na 129 = 4 by decide +kernel) (by show 7 ≤ mm_mL 129; decide +kernel) rfl (by first | exact oM_feed hJ | exact oM_feed hJ hVA) hl.1 (by show 1 + 0 ≤ 8; omega) hroom hcell hR1 (fun r2 I2 h2 H2 locs2 hR2 => ?_)
  obtain ⟨e2, x2, fm⟩ := h2
  refine lv_icmp_eq hx hb (pc := 346) (off := 1226) (tgt := 1572) (by decide +kernel) (by decide) (fun _ => ?_) (fun z => absurd (e1.trans e2.symm) z)
  exact kk _ I2 H2 locs2 (RX_FM x1 fm) x2 (VA_feed hVA) hR2
end LWD
