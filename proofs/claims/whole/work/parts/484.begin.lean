/-! the law, from its entry -/
theorem st_x : ∃ s, ini_rx = some s ∧ mm_ret 67 s.1 s.2.2.1 = some none ∧ s.2.2.2 = ini_x := by
  have h0 := ini_okx
  have e0 : ∀ s, ini_rx = some s → ini_x = s.2.2.2 := fun s hs => by
    unfold ini_x
    rw [hs]
  generalize ini_rx = r at h0 e0 ⊢
  cases r with
  | none => cases h0
  | some s =>
    obtain ⟨s', a, b, c⟩ := ini_run h0 (h := s.2.2.2) rfl
    cases a
    exact ⟨s, rfl, b, (e0 s rfl).symm⟩
theorem st_m : ∃ s, ini_rm = some s ∧ mm_ret 123 s.1 s.2.2.1 = some none ∧ s.2.2.2 = ini_m := by
  have h0 := ini_okm
  have e0 : ∀ s, ini_rm = some s → ini_m = s.2.2.2 := fun s hs => by
    unfold ini_m
    rw [hs]
  generalize ini_rm = r at h0 e0 ⊢
  cases r with
  | none => cases h0
  | some s =>
    obtain ⟨s', a, b, c⟩ := ini_run h0 (h := s.2.2.2) rfl
    cases a
    exact ⟨s, rfl, b, (e0 s rfl).symm⟩
section LWS
variable {p : Program} {l : Launch} {e : Env} {R : Room} {s : State} {m : MethodId} {args : Array Value} {below : List Frame} {meth : Method} {c : Code} {Q : State → Prop} {D : va_G} {B t : Nat} {cI cZ cJ : ClassId} {sl : Array Slot} {b L : Nat} {xs : Nat → Int32}
set_option maxHeartbeats 4000000 in
theorem lw_begin0 (C : lwC p s m args c D B t cI cZ b L xs) (hKJ : va_K D vwCl [(cJ, .long)] s) (hroom : 15 ≤ R.frames ∧ 618 ≤ R.locals) (hcell : 84 ≤ R.cells ∧ 12271 ≤ R.slots) (hl : lv_has sl 7 [(0, .ref b)]) {f g : Nat} {h1 h2 : mm_H} {sx sm : mm_S} {I : mm_I} (ex : mm_run true f 67 0 (mm_ent (mm_mL 67) [.ref 0]) [] (mm_add ini_0 8 (mm_N 8)) = some sx) (rx : mm_ret 67 sx.1 sx.2.2.1 = some none) (zx : sx.2.2.2 = h1) (n1 : mm_n h1 = 58) (em : mm_run true g 123 0 (mm_ent (mm_mL 123) [.ref 58]) [] (mm_add h1 9 (mm_N 9)) = some sm) (rm : mm_ret 123 sm.1 sm.2.2.1 = some none) (zm : sm.2.2.2 = h2) (n2 : mm_n h2 = 83) (s2 : mm_sl h2 = 12270) (hwl : mm_wl B t cI cZ h2 = mm_wl B t cI cZ (mm_lay, I))
    (kk : ∀ (sl : Array Slot) (H1 : Heap) (locs1 : List Loc), lv_has sl 7 (lwB B b 0) → lwR D B t cI cZ s (lh_oc cJ (fun _ => 0)) I H1 locs1 → W p l e R s m args below meth c H1 locs1 84 12271 Q (F0 m 23 sl [])) : W p l e R s m args below meth c s.heap [] 0 0 Q (F0 m 0 sl []) :=
  lw_two C ex rx zx n1 em rm zm n2 s2 hroom ⟨Nat.le_trans (by omega) hcell.1, Nat.le_trans (by omega) hcell.2⟩ hl (fun _ _ _ hl1 hR1 => lw_out C hKJ hwl n2 hR1 hl1 hcell (fun sl2 H2 hl2 hR2 => kk sl2 H2 _ hl2 hR2))
theorem lw_begin (C : lwC p s m args c D B t cI cZ b L xs) (hKJ : va_K D vwCl [(cJ, .long)] s) (hroom : 15 ≤ R.frames ∧ 618 ≤ R.locals) (hcell : 84 ≤ R.cells ∧ 12271 ≤ R.slots) (hl : lv_has sl 7 [(0, .ref b)])
    (kk : ∀ (I : mm_I) (sl : Array Slot) (H1 : Heap) (locs1 : List Loc), RX A_0 I → RM A_0 I → lv_has sl 7 (lwB B b 0) → lwR D B t cI cZ s (lh_oc cJ (fun _ => 0)) I H1 locs1 → W p l e R s m args below meth c H1 locs1 84 12271 Q (F0 m 23 sl [])) : W p l e R s m args below meth c s.heap [] 0 0 Q (F0 m 0 sl []) := by
  obtain ⟨sx, ex, rx, zx⟩ := st_x
  obtain ⟨sm, em, rm, zm⟩ := st_m
  unfold ini_rx at ex
  unfold ini_rm at em
  have hwl := ini_wl B t cI cZ
  unfold ini_l at hwl
  exact lw_begin0 C hKJ hroom hcell hl ex rx zx ini_nx.1 em rm zm ini_nx.2.1 ini_nx.2.2 hwl (fun sl1 H1 locs1 a1 a2 => kk ini_m.2 sl1 H1 locs1 RX_0 RM_0 a1 a2)
end LWS
