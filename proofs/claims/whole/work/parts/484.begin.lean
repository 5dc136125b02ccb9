/-! the law, from its entry -/
theorem st_x : ∃ s, ini_rx = some s ∧ mm_ret 67 s.1 s.2.2.1 = some none ∧ s.2.2.2 = ini_x := ini_run ini_okx (by unfold ini_x; rfl)
theorem st_m : ∃ s, ini_rm = some s ∧ mm_ret 123 s.1 s.2.2.1 = some none ∧ s.2.2.2 = ini_m := ini_run ini_okm (by unfold ini_m; rfl)
section LWS
variable {p : Program} {l : Launch} {e : Env} {R : Room} {s : State} {m : MethodId} {args : Array Value} {below : List Frame} {meth : Method} {c : Code} {Q : State → Prop} {D : va_G} {B t : Nat} {cI cZ cJ : ClassId} {sl : Array Slot} {b L : Nat} {xs : Nat → Int32}
set_option maxHeartbeats 4000000 in
theorem lw_begin (C : lwC p s m args c D B t cI cZ b L xs) (hKJ : va_K D vwCl [(cJ, .long)] s) (hroom : 15 ≤ R.frames ∧ 618 ≤ R.locals) (hcell : 84 ≤ R.cells ∧ 12271 ≤ R.slots) (hl : lv_has sl 7 [(0, .ref b)])
    (kk : ∀ (I : mm_I) (sl : Array Slot) (H1 : Heap) (locs1 : List Loc), RX A_0 I → RM A_0 I → lv_has sl 7 (lwB B b 0) → lwR D B t cI cZ s (lh_oc cJ (fun _ => 0)) I H1 locs1 → W p l e R s m args below meth c H1 locs1 84 12271 Q (F0 m 23 sl [])) : W p l e R s m args below meth c s.heap [] 0 0 Q (F0 m 0 sl []) := by
  obtain ⟨sx, ex, rx, zx⟩ := st_x
  obtain ⟨sm, em, rm, zm⟩ := st_m
  unfold ini_rx at ex
  unfold ini_rm at em
  obtain ⟨n1, n2, s2⟩ := ini_nx
  have hwl := ini_wl B t cI cZ
  unfold ini_l at hwl
  have r1 := RX_0
  have r2 := RM_0
  generalize ini_m = h2 at *
  generalize ini_x = h1 at *
  exact lw_two C ex rx zx n1 em rm zm n2 s2 hroom ⟨by omega, by omega⟩ hl (fun sl1 H1 locs1 hl1 hR1 => lw_out C hKJ hwl n2 hR1 hl1 hcell (fun sl2 H2 hl2 hR2 => kk _ sl2 H2 locs1 r1 r2 hl2 hR2))
end LWS
