set_option maxHeartbeats 4000000 in
theorem whole_start {p : Program} {e : Env} {s : State} {m : MethodId} {below : List Frame} {meth : Method} {c : Code} (l : Launch) (hflags : l.flags = flags0) {b L : Nat} {xs : Nat → Int32} (hL : L ≤ 3584) (C0 : lw_At p s m meth c b L xs) : W p l e room_1 s m #[Value.ref b] below meth c s.heap [] 0 0 (lw_Z below #[Value.ref b] s) (entryFrame m ([Value.ref b] : List Value).toArray 7) := by
  obtain ⟨hx, hb, hr, hml, hown, hts, hX, hbl, hlocks, hgv⟩ := C0
  obtain ⟨D, cI, cZ, cJ, hK, hKJ⟩ := st_K hts
  obtain ⟨t, hZ, hT⟩ := st_F hts hgv
  have C : lwC p s m #[Value.ref b] c D s.heap.size t cI cZ b L xs := ⟨hx, hb, hml, hown, fun w h => hts w (List.mem_filter.mp h).1, hK, st_N hts, hZ, hT, rfl, hX, hbl⟩
  have hW : lwD s D s.heap.size cJ := ⟨hKJ, (st_ex hts).1, (st_ex hts).2, st_Zs hts hgv⟩
  have htr := st_tr hflags
  obtain ⟨-, -, -, d1, d2⟩ := st_d
  have hl := lv_entry ([.ref b]) (n := 7) (Nat.le_of_ble_eq_true rfl)
  rw [lg_entry_eq]
  generalize (lg_sl ([.ref b]) ++ List.replicate (7 - (lg_sl ([.ref b])).length) Slot.unset).toArray = ls at hl ⊢
  have hl : lv_has ls 7 [(0, .ref b)] := hl
  have f1 : 15 ≤ room_1.frames ∧ 590 ≤ room_1.locals := ⟨by decide +kernel, by decide +kernel⟩
  have hops := lw_ops (p := p) (l := l) (e := e) (R := room_1) (below := below) (meth := meth) (Q := lw_Z below #[Value.ref b] s) C hL ⟨by decide +kernel, by decide +kernel⟩ (lwop_14 C hW hL f1 htr) (lwop_32 C hW hL f1 htr) (lwop_35 C hW hL f1 htr)
  have hend : ∀ (sl : Array Slot) (H : Heap) (locs : List Loc) (cells slots : Nat), cells ≤ 84 + 512 → slots ≤ 12271 + 6 * 512 → va_S (fun q => s.heap.size ≤ q) s.heap H locs → W p l e room_1 s m #[Value.ref b] below meth c H locs cells slots (lw_Z below #[Value.ref b] s) (F0 m 1578 sl []) := fun sl H locs cells slots hc hs hS => by
    refine va_forget (fun q hq => hS.2.2 q hq) ?_
    refine W.widen (k := 1111) (n := 20481) (by omega) (by omega) ?_
    refine lv_iconst (v := 1) hx hb d1 (by decide) ?_
    exact lw_ret (d0 := s.drawn) (Drawn.sameBut.refl s.drawn lw_cs) hx hb hr hlocks d2
  refine lw_begin C hKJ ⟨by decide +kernel, by decide +kernel⟩ ⟨by decide +kernel, by decide +kernel⟩ hl (fun I sl H1 locs1 r1 r2 hl1 hR1 => ?_)
  exact law_loop C hL hops ⟨by decide +kernel, by decide +kernel⟩ hend 3584 0 sl A_0 I (lh_oc cJ (fun _ => 0)) H1 locs1 (by omega) hl1 r1 r2 VA_0 ⟨_, rfl⟩ hR1
