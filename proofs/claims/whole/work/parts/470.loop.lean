/-! the law's loop; the ops that may throw are premises yet -/
def lw_tg (q : Nat) : Nat := [204, 351, 376, 413, 486, 499, 524, 597, 622, 647, 684, 709, 746, 795, 856, 948, 997, 1046, 1059, 1084, 1109, 1122, 1135, 1160, 1197, 1222, 1247, 1260, 1273, 1310, 1335, 1360, 1385, 1453, 1466, 1479, 1547].getD q 0
def lw_of : Array Int := #[164, 311, 336, 373, 446, 459, 484, 557, 582, 607, 644, 669, 706, 755, 816, 908, 957, 1006, 1019, 1044, 1069, 1082, 1095, 1120, 1157, 1182, 1207, 1220, 1233, 1270, 1295, 1320, 1345, 1413, 1426, 1439, 1507]
theorem lw_sw : decode code 40 = .ok (.tableswitch 1532 0 36 lw_of, 164) := by decide +kernel
theorem lw_ofs : ∀ q, q < 37 → lw_of[q]? = some ((lw_tg q : Int) - 40) := by decide +kernel
theorem lw_d : (decode code 23 = .ok (.iload 4, 2) ∧ decode code 25 = .ok (.aload_n 0, 1) ∧ decode code 26 = .ok (.arraylength, 1) ∧ decode code 27 = .ok (.bipush 7, 2) ∧ decode code 29 = .ok (.isub, 1) ∧ decode code 30 = .ok (.if_icmp .gt 1548, 3)) ∧ (decode code 33 = .ok (.aload_n 0, 1) ∧ decode code 34 = .ok (.iload 4, 2) ∧ decode code 36 = .ok (.iaload, 1) ∧ decode code 37 = .ok (.bipush 63, 2) ∧ decode code 39 = .ok (.iand, 1)) ∧ decode code 1572 = .ok (.iinc 4 7, 3) ∧ decode code 1575 = .ok (.goto (-1552), 3) := ⟨⟨by decide +kernel, by decide +kernel, by decide +kernel, by decide +kernel, by decide +kernel, by decide +kernel⟩, ⟨by decide +kernel, by decide +kernel, by decide +kernel, by decide +kernel, by decide +kernel⟩, by decide +kernel, by decide +kernel⟩
theorem lw_gt {L n : Nat} (hL : L ≤ 3584) (hn : n ≤ 3584) : (Int32.ofNat L - 7 < nI n) ↔ ¬ n + 7 ≤ L := by
  have e : (Int32.ofNat L - 7).toInt = (L : Int) - 7 := by
    show (nI L - 7).toInt = _
    rw [Int32.toInt_sub, nI_toInt (by omega)]
    have : (7 : Int32).toInt = 7 := rfl
    rw [this]
    exact Int.bmod_eq_of_le (by omega) (by omega)
  rw [lt_I, e, nI_toInt (by omega)]
  omega
theorem lwB_re {B b n : Nat} {ls : Array Slot} {v : Int32} (h : lv_has ls 7 [(4, .int v), (0, .ref b), (1, .ref B), (2, .ref (B + 58)), (3, .ref (B + 83))]) (hv : v = nI n) : lv_has ls 7 (lwB B b n) := by
  subst hv
  obtain ⟨h1, h2, h3⟩ := h
  refine ⟨h1, h2, fun q hq => ?_⟩
  unfold lwB at hq
  simp only [List.mem_cons, List.not_mem_nil, or_false] at hq
  rcases hq with rfl | rfl | rfl | rfl | rfl
  · exact h3 _ (by simp)
  · exact h3 _ (by simp)
  · exact h3 _ (by simp)
  · exact h3 _ (by simp)
  · exact h3 _ (by simp)
section LWE
variable {p : Program} {l : Launch} {e : Env} {R : Room} {s : State} {m : MethodId} {args : Array Value} {below : List Frame} {meth : Method} {c : Code} {Q : State → Prop} {D : va_G} {B t : Nat} {cI cZ : ClassId} {b L : Nat} {xs : Nat → Int32}
/-- what an op owes: from its case to the end of the turn -/
def lwOp (p : Program) (l : Launch) (e : Env) (R : Room) (s : State) (m : MethodId) (args : Array Value) (below : List Frame) (meth : Method) (c : Code) (Q : State → Prop) (D : va_G) (B t : Nat) (cI cZ : ClassId) (b L : Nat) (xs : Nat → Int32) (oS : Cell → Prop) (pc : Nat) : Prop :=
  ∀ (n : Nat) (sl : Array Slot) (A : sA) (I : mm_I) (oc : Cell) (H : Heap) (locs : List Loc) (cells slots : Nat), lv_has sl 7 (lwB B b n) → n + 7 ≤ L → cells + 1 ≤ R.cells → slots + 6 ≤ R.slots → RX A I → RM A I → VA A → oS oc → lwR D B t cI cZ s oc I H locs →
    (∀ sl1 A' J oc1 H1 locs1, lv_has sl1 7 (lwB B b n) → RX A' J → RM A' J → VA A' → oS oc1 → lwR D B t cI cZ s oc1 J H1 locs1 → W p l e R s m args below meth c H1 locs1 (cells + 1) (slots + 6) Q (F0 m 1572 sl1 [])) → W p l e R s m args below meth c H locs cells slots Q (F0 m pc sl [])
set_option maxHeartbeats 4000000 in
theorem lw_ops (C : lwC p s m args c D B t cI cZ b L xs) (hL : L ≤ 3584) (hroom : 14 ≤ R.frames ∧ 560 ≤ R.locals) {oS : Cell → Prop} (h14 : lwOp p l e R s m args below meth c Q D B t cI cZ b L xs oS 856) (h32 : lwOp p l e R s m args below meth c Q D B t cI cZ b L xs oS 1385) (h35 : lwOp p l e R s m args below meth c Q D B t cI cZ b L xs oS 1479) : ∀ q, q < 37 → lwOp p l e R s m args below meth c Q D B t cI cZ b L xs oS (lw_tg q) := by
  intro q hq
  rcases (by omega : q = 0 ∨ q = 1 ∨ q = 2 ∨ q = 3 ∨ q = 4 ∨ q = 5 ∨ q = 6 ∨ q = 7 ∨ q = 8 ∨ q = 9 ∨ q = 10 ∨ q = 11 ∨ q = 12 ∨ q = 13 ∨ q = 14 ∨ q = 15 ∨ q = 16 ∨ q = 17 ∨ q = 18 ∨ q = 19 ∨ q = 20 ∨ q = 21 ∨ q = 22 ∨ q = 23 ∨ q = 24 ∨ q = 25 ∨ q = 26 ∨ q = 27 ∨ q = 28 ∨ q = 29 ∨ q = 30 ∨ q = 31 ∨ q = 32 ∨ q = 33 ∨ q = 34 ∨ q = 35 ∨ q = 36) with rfl | rfl | rfl | rfl | rfl | rfl | rfl | rfl | rfl | rfl | rfl | rfl | rfl | rfl | rfl | rfl | rfl | rfl | rfl | rfl | rfl | rfl | rfl | rfl | rfl | rfl | rfl | rfl | rfl | rfl | rfl | rfl | rfl | rfl | rfl | rfl | rfl
  · exact fun n sl A I oc H locs cells slots hl hn hc hs hRX hRM hVA hoc hR kk => lop_0 C hl hL hn hroom ⟨by omega, by omega⟩ hRX hRM hVA hR (fun A' J H1 locs1 a1 a2 a3 a4 => W.widen (by omega) (by omega) (kk sl A' J oc H1 locs1 hl a1 a2 a3 hoc a4))
  · exact fun n sl A I oc H locs cells slots hl hn hc hs hRX hRM hVA hoc hR kk => lop_1 C hl hL hn hroom ⟨by omega, by omega⟩ hRX hRM hVA hR (fun A' J H1 locs1 a1 a2 a3 a4 => W.widen (by omega) (by omega) (kk sl A' J oc H1 locs1 hl a1 a2 a3 hoc a4))
  · exact fun n sl A I oc H locs cells slots hl hn hc hs hRX hRM hVA hoc hR kk => lop_2 C hl hL hn hroom ⟨by omega, by omega⟩ hRX hRM hVA hR (fun A' J H1 locs1 a1 a2 a3 a4 => W.widen (by omega) (by omega) (kk sl A' J oc H1 locs1 hl a1 a2 a3 hoc a4))
  · exact fun n sl A I oc H locs cells slots hl hn hc hs hRX hRM hVA hoc hR kk => lop_3 C hl hL hn hroom ⟨by omega, by omega⟩ hRX hRM hVA hR (fun A' J H1 locs1 a1 a2 a3 a4 => W.widen (by omega) (by omega) (kk sl A' J oc H1 locs1 hl a1 a2 a3 hoc a4))
  · exact fun n sl A I oc H locs cells slots hl hn hc hs hRX hRM hVA hoc hR kk => lop_4 C hl hL hn hroom ⟨by omega, by omega⟩ hRX hRM hVA hR (fun A' J H1 locs1 a1 a2 a3 a4 => W.widen (by omega) (by omega) (kk sl A' J oc H1 locs1 hl a1 a2 a3 hoc a4))
  · exact fun n sl A I oc H locs cells slots hl hn hc hs hRX hRM hVA hoc hR kk => lop_5 C hl hL hn hroom ⟨by omega, by omega⟩ hRX hRM hVA hR (fun A' J H1 locs1 a1 a2 a3 a4 => W.widen (by omega) (by omega) (kk sl A' J oc H1 locs1 hl a1 a2 a3 hoc a4))
  · exact fun n sl A I oc H locs cells slots hl hn hc hs hRX hRM hVA hoc hR kk => lop_6 C hl hL hn hroom ⟨by omega, by omega⟩ hRX hRM hVA hR (fun A' J H1 locs1 a1 a2 a3 a4 => W.widen (by omega) (by omega) (kk sl A' J oc H1 locs1 hl a1 a2 a3 hoc a4))
  · exact fun n sl A I oc H locs cells slots hl hn hc hs hRX hRM hVA hoc hR kk => lop_7 C hl hL hn hroom ⟨by omega, by omega⟩ hRX hRM hVA hR (fun A' J H1 locs1 a1 a2 a3 a4 => W.widen (by omega) (by omega) (kk sl A' J oc H1 locs1 hl a1 a2 a3 hoc a4))
  · exact fun n sl A I oc H locs cells slots hl hn hc hs hRX hRM hVA hoc hR kk => lop_8 C hl hL hn hroom ⟨by omega, by omega⟩ hRX hRM hVA hR (fun A' J H1 locs1 a1 a2 a3 a4 => W.widen (by omega) (by omega) (kk sl A' J oc H1 locs1 hl a1 a2 a3 hoc a4))
  · exact fun n sl A I oc H locs cells slots hl hn hc hs hRX hRM hVA hoc hR kk => lop_9 C hl hL hn hroom ⟨by omega, by omega⟩ hRX hRM hVA hR (fun A' J H1 locs1 a1 a2 a3 a4 => W.widen (by omega) (by omega) (kk sl A' J oc H1 locs1 hl a1 a2 a3 hoc a4))
  · exact fun n sl A I oc H locs cells slots hl hn hc hs hRX hRM hVA hoc hR kk => lop_10 C hl hL hn hroom ⟨by omega, by omega⟩ hRX hRM hVA hR (fun A' J H1 locs1 a1 a2 a3 a4 => W.widen (by omega) (by omega) (kk sl A' J oc H1 locs1 hl a1 a2 a3 hoc a4))
  · exact fun n sl A I oc H locs cells slots hl hn hc hs hRX hRM hVA hoc hR kk => lop_11 C hl hL hn hroom ⟨by omega, by omega⟩ hRX hRM hVA hR (fun A' J H1 locs1 a1 a2 a3 a4 => W.widen (by omega) (by omega) (kk sl A' J oc H1 locs1 hl a1 a2 a3 hoc a4))
  · exact fun n sl A I oc H locs cells slots hl hn hc hs hRX hRM hVA hoc hR kk => lop_12 C hl hL hn hroom ⟨by omega, by omega⟩ hRX hRM hVA hR (fun A' J H1 locs1 a1 a2 a3 a4 => W.widen (by omega) (by omega) (kk sl A' J oc H1 locs1 hl a1 a2 a3 hoc a4))
  · exact fun n sl A I oc H locs cells slots hl hn hc hs hRX hRM hVA hoc hR kk => lop_13 C hl hL hn hroom ⟨by omega, by omega⟩ hRX hRM hVA hR (fun A' J H1 locs1 a1 a2 a3 a4 => W.widen (by omega) (by omega) (kk sl A' J oc H1 locs1 hl a1 a2 a3 hoc a4))
  · exact h14
  · exact fun n sl A I oc H locs cells slots hl hn hc hs hRX hRM hVA hoc hR kk => lop_15 C hl hL hn hroom ⟨by omega, by omega⟩ hRX hRM hVA hR (fun A' J H1 locs1 a1 a2 a3 a4 => W.widen (by omega) (by omega) (kk sl A' J oc H1 locs1 hl a1 a2 a3 hoc a4))
  · exact fun n sl A I oc H locs cells slots hl hn hc hs hRX hRM hVA hoc hR kk => lop_16 C hl hL hn hroom ⟨by omega, by omega⟩ hRX hRM hVA hR (fun A' J H1 locs1 a1 a2 a3 a4 => W.widen (by omega) (by omega) (kk sl A' J oc H1 locs1 hl a1 a2 a3 hoc a4))
  · exact fun n sl A I oc H locs cells slots hl hn hc hs hRX hRM hVA hoc hR kk => lop_17 C hl hL hn hroom ⟨by omega, by omega⟩ hRX hRM hVA hR (fun A' J H1 locs1 a1 a2 a3 a4 => W.widen (by omega) (by omega) (kk sl A' J oc H1 locs1 hl a1 a2 a3 hoc a4))
  · exact fun n sl A I oc H locs cells slots hl hn hc hs hRX hRM hVA hoc hR kk => lop_18 C hl hL hn hroom ⟨by omega, by omega⟩ hRX hRM hVA hR (fun A' J H1 locs1 a1 a2 a3 a4 => W.widen (by omega) (by omega) (kk sl A' J oc H1 locs1 hl a1 a2 a3 hoc a4))
  · exact fun n sl A I oc H locs cells slots hl hn hc hs hRX hRM hVA hoc hR kk => lop_19 C hl hL hn hroom ⟨by omega, by omega⟩ hRX hRM hVA hR (fun A' J H1 locs1 a1 a2 a3 a4 => W.widen (by omega) (by omega) (kk sl A' J oc H1 locs1 hl a1 a2 a3 hoc a4))
  · exact fun n sl A I oc H locs cells slots hl hn hc hs hRX hRM hVA hoc hR kk => lop_20 C hl hL hn hroom ⟨by omega, by omega⟩ hRX hRM hVA hR (fun A' J H1 locs1 a1 a2 a3 a4 => W.widen (by omega) (by omega) (kk sl A' J oc H1 locs1 hl a1 a2 a3 hoc a4))
  · exact fun n sl A I oc H locs cells slots hl hn hc hs hRX hRM hVA hoc hR kk => lop_21 C hl hL hn hroom ⟨by omega, by omega⟩ hRX hRM hVA hR (fun A' J H1 locs1 a1 a2 a3 a4 => W.widen (by omega) (by omega) (kk sl A' J oc H1 locs1 hl a1 a2 a3 hoc a4))
  · exact fun n sl A I oc H locs cells slots hl hn hc hs hRX hRM hVA hoc hR kk => lop_22 C hl hL hn hroom ⟨by omega, by omega⟩ hRX hRM hVA hR (fun A' J H1 locs1 a1 a2 a3 a4 => W.widen (by omega) (by omega) (kk sl A' J oc H1 locs1 hl a1 a2 a3 hoc a4))
  · exact fun n sl A I oc H locs cells slots hl hn hc hs hRX hRM hVA hoc hR kk => lop_23 C hl hL hn hroom ⟨by omega, by omega⟩ hRX hRM hVA hR (fun A' J H1 locs1 a1 a2 a3 a4 => W.widen (by omega) (by omega) (kk sl A' J oc H1 locs1 hl a1 a2 a3 hoc a4))
  · exact fun n sl A I oc H locs cells slots hl hn hc hs hRX hRM hVA hoc hR kk => lop_24 C hl hL hn hroom ⟨by omega, by omega⟩ hRX hRM hVA hR (fun A' J H1 locs1 a1 a2 a3 a4 => W.widen (by omega) (by omega) (kk sl A' J oc H1 locs1 hl a1 a2 a3 hoc a4))
  · exact fun n sl A I oc H locs cells slots hl hn hc hs hRX hRM hVA hoc hR kk => lop_25 C hl hL hn hroom ⟨by omega, by omega⟩ hRX hRM hVA hR (fun A' J H1 locs1 a1 a2 a3 a4 => W.widen (by omega) (by omega) (kk sl A' J oc H1 locs1 hl a1 a2 a3 hoc a4))
  · exact fun n sl A I oc H locs cells slots hl hn hc hs hRX hRM hVA hoc hR kk => lop_26 C hl hL hn hroom ⟨by omega, by omega⟩ hRX hRM hVA hR (fun A' J H1 locs1 a1 a2 a3 a4 => W.widen (by omega) (by omega) (kk sl A' J oc H1 locs1 hl a1 a2 a3 hoc a4))
  · exact fun n sl A I oc H locs cells slots hl hn hc hs hRX hRM hVA hoc hR kk => lop_27 C hl hL hn hroom ⟨by omega, by omega⟩ hRX hRM hVA hR (fun A' J H1 locs1 a1 a2 a3 a4 => W.widen (by omega) (by omega) (kk sl A' J oc H1 locs1 hl a1 a2 a3 hoc a4))
  · exact fun n sl A I oc H locs cells slots hl hn hc hs hRX hRM hVA hoc hR kk => lop_28 C hl hL hn hroom ⟨by omega, by omega⟩ hRX hRM hVA hR (fun A' J H1 locs1 a1 a2 a3 a4 => W.widen (by omega) (by omega) (kk sl A' J oc H1 locs1 hl a1 a2 a3 hoc a4))
  · exact fun n sl A I oc H locs cells slots hl hn hc hs hRX hRM hVA hoc hR kk => lop_29 C hl hL hn hroom ⟨by omega, by omega⟩ hRX hRM hVA hR (fun A' J H1 locs1 a1 a2 a3 a4 => W.widen (by omega) (by omega) (kk sl A' J oc H1 locs1 hl a1 a2 a3 hoc a4))
  · exact fun n sl A I oc H locs cells slots hl hn hc hs hRX hRM hVA hoc hR kk => lop_30 C hl hL hn hroom ⟨by omega, by omega⟩ hRX hRM hVA hR (fun A' J H1 locs1 a1 a2 a3 a4 => W.widen (by omega) (by omega) (kk sl A' J oc H1 locs1 hl a1 a2 a3 hoc a4))
  · exact fun n sl A I oc H locs cells slots hl hn hc hs hRX hRM hVA hoc hR kk => lop_31 C hl hL hn hroom ⟨by omega, by omega⟩ hRX hRM hVA hR (fun A' J H1 locs1 a1 a2 a3 a4 => W.widen (by omega) (by omega) (kk sl A' J oc H1 locs1 hl a1 a2 a3 hoc a4))
  · exact h32
  · exact fun n sl A I oc H locs cells slots hl hn hc hs hRX hRM hVA hoc hR kk => lop_33 C hl hL hn hroom ⟨by omega, by omega⟩ hRX hRM hVA hR (fun A' J H1 locs1 a1 a2 a3 a4 => W.widen (by omega) (by omega) (kk sl A' J oc H1 locs1 hl a1 a2 a3 hoc a4))
  · exact fun n sl A I oc H locs cells slots hl hn hc hs hRX hRM hVA hoc hR kk => lop_34 C hl hL hn hroom ⟨by omega, by omega⟩ hRX hRM hVA hR (fun A' J H1 locs1 a1 a2 a3 a4 => W.widen (by omega) (by omega) (kk sl A' J oc H1 locs1 hl a1 a2 a3 hoc a4))
  · exact h35
  · exact fun n sl A I oc H locs cells slots hl hn hc hs hRX hRM hVA hoc hR kk => lop_36 C hl hL hn hroom ⟨by omega, by omega⟩ hRX hRM hVA hR (fun A' J H1 locs1 a1 a2 a3 a4 => W.widen (by omega) (by omega) (kk sl A' J oc H1 locs1 hl a1 a2 a3 hoc a4))
theorem law_loop (C : lwC p s m args c D B t cI cZ b L xs) (hL : L ≤ 3584) {oS : Cell → Prop} (hops : ∀ q, q < 37 → lwOp p l e R s m args below meth c Q D B t cI cZ b L xs oS (lw_tg q)) (hcell : 84 + 513 ≤ R.cells ∧ 12271 + 6 * 513 ≤ R.slots)
    (hend : ∀ (sl : Array Slot) (H : Heap) (locs : List Loc) (cells slots : Nat), cells ≤ 84 + 512 → slots ≤ 12271 + 6 * 512 → va_S (fun q => B ≤ q) s.heap H locs → W p l e R s m args below meth c H locs cells slots Q (F0 m 1578 sl [])) :
    ∀ (r j : Nat) (sl : Array Slot) (A : sA) (I : mm_I) (oc : Cell) (H : Heap) (locs : List Loc), 7 * j + r = 3584 → lv_has sl 7 (lwB B b (7 * j)) → RX A I → RM A I → VA A → oS oc → lwR D B t cI cZ s oc I H locs → W p l e R s m args below meth c H locs (84 + j) (12271 + 6 * j) Q (F0 m 23 sl []) := by
  have C' := C
  obtain ⟨hx, hb, hml, hown, hts, hK, hN, hZ, hT, hB, hXs, hbl⟩ := C'
  obtain ⟨⟨d1, d2, d3, d4, d5, d6⟩, ⟨g1, g2, g3, g4, g5⟩, k1, k2⟩ := lw_d
  intro r
  induction r using Nat.strongRecOn with
  | ind r ih =>
    intro j sl A I oc H locs hr hl hRX hRM hVA hoc hR
    refine lv_iload hx hb d1 (lv_at hl 4 rfl) ?_
    refine lv_aload_n hx hb d2 (i := 0) rfl (lv_at hl 0 rfl) ?_
    refine va_slen hx hb hXs hbl (show ¬ B ≤ b by omega) hR.2.2.1 d3 ?_
    refine lv_bipush hx hb d4 (v := 7) rfl ?_
    refine lv_isub hx hb d5 ?_
    refine lv_icmp_gt hx hb d6 (tgt := 1578) (by decide) (fun _ => hend sl H locs _ _ (by omega) (by omega) hR.2.2.1) (fun z => ?_)
    have hn : 7 * j + 7 ≤ L := Decidable.not_not.mp (fun y => z ((lw_gt hL (by omega)).mpr y))
    refine lv_aload_n hx hb g1 (i := 0) rfl (lv_at hl 0 rfl) ?_
    refine lv_iload hx hb g2 (lv_at hl 4 rfl) ?_
    refine va_sld hx hb hXs hbl (show ¬ B ≤ b by omega) hR.2.2.1 (vp_in_nI (by omega) (by omega)) g3 ?_
    refine lv_bipush hx hb g4 (v := 63) rfl ?_
    refine lv_iand hx hb g5 ?_
    obtain ⟨q, hq, eq⟩ := pk_andE (xs (nI (7 * j)).toNatClampNeg) (m := 63) 6 (by decide +kernel)
    rw [eq]
    have tq : (nI q).toInt = (q : Int) := nI_toInt (by omega)
    have next : ∀ (sl1 : Array Slot) (A' : sA) (J : mm_I) (oc1 : Cell) (H1 : Heap) (locs1 : List Loc), lv_has sl1 7 (lwB B b (7 * j)) → RX A' J → RM A' J → VA A' → oS oc1 → lwR D B t cI cZ s oc1 J H1 locs1 → W p l e R s m args below meth c H1 locs1 (84 + j + 1) (12271 + 6 * j + 6) Q (F0 m 1572 sl1 []) := fun sl1 A' J oc1 H1 locs1 v1 v2 v3 v4 v5 v6 => by
      refine lv_iinc hx hb k1 v1 (k := 4) rfl rfl (by decide) rfl (fun ls' hl' => ?_)
      refine lv_goto hx hb k2 (tgt := 23) (by decide) ?_
      have e1 : 84 + j + 1 = 84 + (j + 1) := by omega
      have e2 : 12271 + 6 * j + 6 = 12271 + 6 * (j + 1) := by omega
      rw [e1, e2]
      refine ih (r - 7) (by omega) (j + 1) ls' A' J oc1 H1 locs1 (by omega) (lwB_re hl' ?_) v2 v3 v4 v5 v6
      show nI (7 * j) + nI 7 = _
      rw [nI_add, show 7 * j + 7 = 7 * (j + 1) by omega]
    by_cases h37 : q < 37
    · refine lv_tableIn hx hb lw_sw (by rw [tq]; omega) (by rw [tq]; omega) (off := (lw_tg q : Int) - 40) (tgt := lw_tg q) ?_ (by omega) ?_
      · rw [tq, show ((q : Int) - 0).toNat = q by omega]
        exact lw_ofs q h37
      · exact hops q h37 (7 * j) sl A I oc H locs (84 + j) (12271 + 6 * j) hl hn (by omega) (by omega) hRX hRM hVA hoc hR next
    · refine lv_tableOut hx hb lw_sw (Or.inr (by rw [tq]; omega)) (tgt := 1572) (by decide) ?_
      exact W.widen (by omega) (by omega) (next sl A I oc H locs hl hRX hRM hVA hoc hR)
end LWE
