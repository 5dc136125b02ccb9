/-! the law makes its two objects -/
section LWN
variable {p : Program} {l : Launch} {e : Env} {R : Room} {s : State} {m : MethodId} {args : Array Value} {below : List Frame} {meth : Method} {c : Code} {H : Heap} {locs : List Loc} {cells slots : Nat} {Q : State → Prop} {D : va_G} {B t : Nat} {cI cZ : ClassId} {pc : Nat} {sl : Array Slot} {b L : Nat} {xs : Nat → Int32} {h : mm_H}
set_option maxHeartbeats 4000000 in
theorem lw_new (C : lwC p s m args c D B t cI cZ b L xs) {pp ix : Nat} {st : List Value} (hp : pp < 10) (hd : decode code pc = .ok (.new ix, 3)) (g1 : Cond.classLink "WholeSoundLaw" ix (mm_cn pp) ∈ mm_GW) (g3 : Cond.initialized (mm_cn pp) ∈ mm_GW) (hn4 : mm_n h < 4000) (hrc : mm_n h + 1 ≤ R.cells) (hrs : mm_sl h + mm_N pp ≤ R.slots) (hR : mm_Rl D B t cI cZ s h H locs)
    (kk : ∀ H1, mm_Rl D B t cI cZ s (mm_add h pp (mm_N pp)) H1 locs → W p l e R s m args below meth c H1 locs (mm_n h + 1) (mm_sl h + mm_N pp) Q (F0 m (pc + 3) sl (.ref (B + mm_n h) :: st))) : W p l e R s m args below meth c H locs (mm_n h) (mm_sl h) Q (F0 m pc sl st) := by
  obtain ⟨hx, hb, hml, hown, hts, hK, hN, hZ, hT, hB, hXs, hbl⟩ := C
  obtain ⟨c1, c2, c3, c4⟩ := mm_cl hp
  obtain ⟨hP, hD, hS, hn⟩ := id hR
  refine va_new (ci := pp) (fs := (List.range (mm_N pp)).map (fun s => mm_rv B t (mm_fv (mm_add h pp (mm_N pp)) pp (mm_n h) s))) hx hb hts c2 (mm_ty pp) c3 hown (hts _ g1) (hts _ (st_ins pp hp)) (hts _ g3) hK hP hD hS (fun q hq => Nat.le_trans (Nat.le_of_eq hB) hq) c1 (fun j hj => ?_) hrc hrs hd (fun qa H1 a1 a2 a3 => ?_)
  · have hg := mm_fs_get (B := B) (t := t) (h := mm_add h pp (mm_N pp)) (c := pp) (a := mm_n h) hj
    unfold vp_V
    rw [List.getD_eq_getElem?_getD, hg]
    have hf := mm_ft_le pp hp j hj
    show _ = mm_rv B t (mm_fv (mm_add h pp (mm_N pp)) pp (mm_n h) j)
    unfold mm_fv
    rw [mm_add_R, congrFun mm_add_G j]
    rcases Nat.lt_or_ge (mm_ft pp j) 2 with z | z
    · rw [mm_beq_f (by omega)]
      rcases (by omega : mm_ft pp j = 0 ∨ mm_ft pp j = 1) with z | z
      · rw [mm_ft0 z]; rfl
      · rw [mm_ft1 z]; rfl
    · have z2 : mm_ft pp j = 2 := by omega
      rw [(mm_beq_iff _ _).mpr z2]
      rcases mm_ft2 z2 with ⟨o, z⟩ | ⟨o, z⟩ <;> rw [z] <;> rfl
  · refine mm_Wsz (fun hsz => ?_)
    have hlow := mm_low hR (Nat.le_of_eq hB)
    have hlen : (mm_wl B t cI cZ h).length = mm_n h := by simp [mm_wl]
    have hat : (mm_wl B t cI cZ h ++ [(qa, (.inr (pp, (List.range (mm_N pp)).map (fun s => mm_rv B t (mm_fv (mm_add h pp (mm_N pp)) pp (mm_n h) s))) : va_E))])[mm_n h]? = some (qa, .inr (pp, (List.range (mm_N pp)).map (fun s => mm_rv B t (mm_fv (mm_add h pp (mm_N pp)) pp (mm_n h) s)))) := by
      rw [List.getElem?_append_right (by omega), hlen, Nat.sub_self]
      rfl
    have q1 : B ≤ qa := a2.2 _ _ hat
    have q2 : qa < H1.size := (a1 _ _ hat).lt
    have q3 : ¬ qa < B + mm_n h := fun z => by
      have hj : qa - B < mm_n h := by omega
      have hat2 : (mm_wl B t cI cZ h ++ [(qa, (.inr (pp, (List.range (mm_N pp)).map (fun s => mm_rv B t (mm_fv (mm_add h pp (mm_N pp)) pp (mm_n h) s))) : va_E))])[qa - B]? = some (B + (qa - B), mm_cel B t cI cZ h (qa - B)) := by
        rw [List.getElem?_append_left (by omega), mm_wl_get hj]
      have := a2.1 _ _ _ _ hat2 hat (by simp only; omega)
      omega
    have hqe : qa = B + mm_n h := by omega
    subst hqe
    have hadd := mm_wl_add (B := B) (t := t) (cI := cI) (cZ := cZ) (h := h) (h' := mm_add h pp (mm_N pp)) rfl (mm_cel_obj mm_add_K hp) (fun b hb => mm_cel_add hb)
    rw [hadd] at a1 a2
    exact kk H1 ⟨a1, a2, a3, by show mm_n h + 1 ≤ 4000; omega⟩
set_option maxHeartbeats 4000000 in
theorem lw_init (C : lwC p s m args c D B t cI cZ b L xs) {k ix a f : Nat} {rest : List Value} {s' : mm_S} {h' : mm_H} (hk : k < 227) (hmd : mm_md k = 2) (hl : Cond.methodLink "WholeSoundLaw" ix (mm_y k) ∈ mm_GW) (hd : decode code pc = .ok (.invokespecial ix, 3)) (ha : a < mm_n h) (hna : mm_na k = 1) (hmL : 1 ≤ mm_mL k) (hrun : mm_run true f k 0 (mm_ent (mm_mL k) [.ref a]) [] h = some s') (hret : mm_ret k s'.1 s'.2.2.1 = some none) (he : s'.2.2.2 = h') (hsl : sl.size = 7) (hsum : (rest.map fun v => v.category).sum ≤ 8) (hroom : mm_dp k + 1 ≤ R.frames ∧ 8 + (mm_mL k + 11) + 40 * mm_dp k ≤ R.locals) (hcell : mm_n h' ≤ R.cells ∧ mm_sl h' ≤ R.slots) (hR : mm_Rl D B t cI cZ s h H locs)
    (kk : ∀ H1 locs1, mm_Rl D B t cI cZ s h' H1 locs1 → W p l e R s m args below meth c H1 locs1 (mm_n h') (mm_sl h') Q (F0 m (pc + 3) sl rest)) : W p l e R s m args below meth c H locs (mm_n h) (mm_sl h) Q (F0 m pc sl (.ref (B + a) :: rest)) := by
  subst he
  obtain ⟨hx, hb, hml, hown, hts, hK, hN, hZ, hT, hB, hXs, hbl⟩ := C
  obtain ⟨f1, f2, f3, f4, f5, f6, f7, f8, f9, f10, f11⟩ := mm_mk hk
  have hm1 := mm_run_mono hrun
  have hM := mm_met_of (l := l) (mm_swAll l D B t cI cZ true f) hk hrun hret hmL
  unfold mm_Mt at hM
  have hgood : ∀ w ∈ mm_ws k, w ∈ mm_GW := fun w hw => by
    rcases List.mem_cons.mp hw with rfl | z
    · exact f7
    · exact z
  have er : mm_rv B t (.ref a) = .ref (B + a) := mm_rv_ref ha hR.2.2.2
  have hpar : (parseMethodDescriptor (mm_y k).desc).map (fun d => d.parameters.length) = some 0 := by
    have h1 := (f9 (by omega)).2
    cases hpd : parseMethodDescriptor (mm_y k).desc with
    | none => rw [hpd] at h1; cases h1
    | some d =>
      rw [hpd] at h1
      have h2 : d.parameters.length + 1 = mm_na k := Option.some.inj h1
      have h3 : d.parameters.length = 0 := by omega
      show some d.parameters.length = some 0
      rw [h3]
  refine mm_Wsz (fun hsz => ?_)
  have hlow := mm_low hR (Nat.le_of_eq hB)
  have hsize : H.size = B + mm_n h := by omega
  obtain ⟨hP, hD, hS, hn⟩ := id hR
  have hWd : ∀ U : State, U.heap = H → s.WarmedH U.vm → mm_Wd D B t cI cZ true h U := fun U hU hW => by
    unfold mm_Wd
    rw [hU]
    exact ⟨hP, hD, va_K.moved hW.alike hK, hN.warm hW, (hZ.moved hW.alike).kept (fun a h1 h2 => hS.2.1 a h1 h2), (hT.moved hW.alike).kept (fun a h1 h2 => hS.2.1 a h1 h2), fun _ => hsize, Nat.le_trans (Nat.le_of_eq hB) hS.1, hn⟩
  have hpre : PreS s H (mm_Pc D B t cI cZ true [.ref a] h) (.ref (B + a) :: []) := ⟨mm_Pc_blind, fun U hU hW => ⟨by rw [List.map_cons, er]; rfl, hWd U hU hW⟩⟩
  have hnm := (f11 (by omega) (by omega)).1
  have hrt : mm_rt k = none := mm_irt k hk hmd
  have hcodeN : mm_ws k = Cond.code (mm_y k) (mm_by k) (mm_mL k) none :: mm_GW := by
    unfold mm_ws
    rw [hrt]
  have hce : mm_n h + (mm_n s'.2.2.2 - mm_n h) = mm_n s'.2.2.2 := by have := hm1.1; omega
  have hse : mm_sl h + (mm_sl s'.2.2.2 - mm_sl h) = mm_sl s'.2.2.2 := by have := hm1.2; omega
  have hgo : va_Run p l e R s m args below meth c H locs (mm_n h) (mm_sl h) (mm_n s'.2.2.2 - mm_n h) (mm_sl s'.2.2.2 - mm_sl h) (F0 m pc sl (.ref (B + a) :: rest)) rest (mm_Qc D B t cI cZ none s'.2.2.2 (Value.ref (B + a) :: []).toArray) (fun q => B ≤ q) := by
    refine va_runI ⟨hx, hb, hml, hown, hts⟩ hM (cwI 0 hts (mm_gw_good _ hgood) hcodeN rfl rfl (hts _ f2) (hts _ hl) (hts _ (f9 (by omega)).1) hnm ⟨f6.1, f6.2, hpar⟩ hroom) hpre rfl rfl hsl rfl (lv_room hsum) hd ⟨?_, ?_⟩
    · rw [hce]; exact hcell.1
    · rw [hse]; exact hcell.2
  refine mm_back hgo hS (fun H1 locs1 hR1 => ?_)
  rw [hce, hse]
  exact kk H1 locs1 hR1
end LWN
