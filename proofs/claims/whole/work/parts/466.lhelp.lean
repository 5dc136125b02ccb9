/-! the law calls its helpers -/
def lwD (s : State) (D : va_G) (B : Nat) (cJ : ClassId) : Prop := va_K D vwCl [(cJ, .long)] s ∧ exD exI s ∧ exD exE s ∧ mx_Zs (fun q => B ≤ q) s
section LWH
variable {p : Program} {l : Launch} {e : Env} {R : Room} {s : State} {m : MethodId} {args : Array Value} {below : List Frame} {meth : Method} {c : Code} {H : Heap} {locs : List Loc} {cells slots : Nat} {Q : State → Prop} {D : va_G} {B t : Nat} {cI cZ cJ : ClassId} {pc : Nat} {sl : Array Slot} {b L : Nat} {xs : Nat → Int32} {I J : mm_I}
set_option maxHeartbeats 4000000 in
theorem lw_help (C : lwC p s m args c D B t cI cZ b L xs) (hKJ : va_K D vwCl [(cJ, .long)] s) {X : String} (hex : exD X s) (hzs : mx_Zs (fun q => B ≤ q) s) {y : MethodName} {ws : List Cond} {bytes : ByteArray} {maxL : Nat} {hh : List (Nat × Nat × Nat × Nat)} {ix : Nat} {as rest : List Value} {r : Int32} {g g' : Nat → Int64}
    (hM : vx_Met l y ws lh_rm (lh_Pc D B t cI cZ cJ X as I g) (lh_Qc D B t cI cZ cJ r J g') (fun _ _ _ => False) 1 6 (lhA B)) (hws : ws = Cond.codeWith y bytes maxL (some .int) hh :: mm_GW) (hwg : (Cond.codeWith y bytes maxL (some .int) hh : Cond) ∈ mm_GW) (hl : Cond.methodLink "WholeSoundLaw" ix y ∈ mm_GW) (hst : Cond.static y ∈ mm_GW) (hini : Cond.initialized y.cls ∈ mm_GW)
    (hcls : y.cls ≠ "java/lang/invoke/MethodHandle" ∧ y.cls ≠ "java/lang/invoke/VarHandle" ∧ (parseMethodDescriptor y.desc).map (fun d => d.parameters.length) = some as.length) (hd : decode code pc = .ok (.invokestatic ix, 3)) (hmx : maxL ≤ 7) (hsl : sl.size = 7) (hsum : (rest.map fun v => v.category).sum ≤ 8) (hroom : 15 ≤ R.frames ∧ 590 ≤ R.locals) (hcell : cells + 1 ≤ R.cells ∧ slots + 6 ≤ R.slots) (hR : lwR D B t cI cZ s (lh_oc cJ g) I H locs)
    (kk : ∀ H1 locs1, lwR D B t cI cZ s (lh_oc cJ g') J H1 locs1 → W p l e R s m args below meth c H1 locs1 (cells + 1) (slots + 6) Q (F0 m (pc + 3) sl (.int r :: rest))) : W p l e R s m args below meth c H locs cells slots Q (F0 m pc sl (as.reverse ++ rest)) := by
  obtain ⟨hx, hb, hml, hown, hts, hK, hN, hZ, hT, hB, hX, hbl⟩ := C
  obtain ⟨hPh, hD, hS, hO⟩ := hR
  have hWd : ∀ U : State, U.heap = H → s.WarmedH U.vm → lh_W D B t cI cZ cJ X I g U := fun U hU hW => by
    unfold lh_W mx_Zs
    rw [hU]
    exact ⟨hPh, hD, va_K.moved hW.alike hK, va_K.moved hW.alike hKJ, hN.warm hW, (hZ.moved hW.alike).kept (fun a h1 h2 => hS.2.1 a h1 h2), (hT.moved hW.alike).kept (fun a h1 h2 => hS.2.1 a h1 h2), by rw [hB]; exact hS.1, hO, hex.warm hW, (hzs.1.moved hW.alike).kept (fun a h1 h2 => hS.2.1 a h1 h2), (hzs.2.moved hW.alike).kept (fun a h1 h2 => hS.2.1 a h1 h2)⟩
  have hpre : PreS s H (lh_Pc D B t cI cZ cJ X as I g) as := ⟨lh_blind, fun U hU hW => ⟨rfl, hWd U hU hW⟩⟩
  have hrm : lh_rm.frames + 1 ≤ R.frames ∧ 8 + (maxL + 11) + lh_rm.locals ≤ R.locals := ⟨by show 14 + 1 ≤ _; omega, by show 8 + (maxL + 11) + 560 ≤ _; omega⟩
  have hgo := vx_runSX (locs := locs) (cells := cells) (slots := slots) (below := below) (meth := meth) (e := e) (g := F0 m pc sl (as.reverse ++ rest)) (rest := rest) (As := as) ⟨hx, hb, hml, hown, hts⟩ hM (vx_cwSW (hh := hh) (bytes := bytes) (maxL := maxL) (ret := some .int) (index := ix) as.length hts (mm_gw_good _ (fun w hw => by
    simp only [va_wsS, List.mem_append, List.mem_cons, List.not_mem_nil, or_false] at hw
    rcases hw with (rfl | rfl | rfl) | z
    · exact hl
    · exact hst
    · exact hini
    · rw [hws] at z
      rcases List.mem_cons.mp z with rfl | z
      · exact hwg
      · exact z)) hws rfl rfl hcls hrm) hpre rfl rfl hsl rfl (lv_room hsum) hd ⟨hcell.1, hcell.2⟩
  intro T hT2 X2
  rcases hgo T hT2 X2 with ⟨v', st₀, t', T', L2, h0, X', hL, e1, e2, ⟨hv, hP2, hD2, hO2, hF⟩, st⟩ | ⟨q, st₀, t', T', L2, E, ce, h0, X', hL, e1, e2, hQ, hce, hcv, hcl2, st⟩
  · cases hv
    obtain ⟨hz, hkp⟩ := hF
    rw [h0] at hz hkp
    obtain ⟨t2, a1, c1⟩ := kk T'.heap (locs ++ L2) ⟨by rw [e1]; exact hP2, hD2, ⟨Nat.le_trans hS.1 (by rw [e1]; exact hz), fun q h1 h2 => by rw [e1, hkp q (Nat.lt_of_lt_of_le h1 hS.1) (fun z => h2 z.1)]; exact hS.2.1 q h1 h2, fun q hq => by
      rcases List.mem_append.mp hq with z | z
      · exact hS.2.2 q z
      · exact (hL q z).1⟩, by rw [e1]; exact hO2⟩ T' rfl X'
    exact ⟨t2, st t2 a1, c1⟩
  · exact hQ.elim
end LWH
