/-! the helpers: what they store and return -/
def lh_oc (cJ : ClassId) (g : Nat → Int64) : Cell := vp_cell cJ (1, .inr (.inl g))
def lh_W (D : va_G) (B t : Nat) (cI cZ cJ : ClassId) (X : String) (I : mm_I) (g : Nat → Int64) (U : State) : Prop :=
  va_P D vwCl (mm_wl B t cI cZ (mm_lay, I)) U.heap ∧ va_D (mo_A B) (mm_wl B t cI cZ (mm_lay, I)) ∧ va_K D vwCl (mm_tys cI cZ) U ∧ va_K D vwCl [(cJ, .long)] U ∧ mm_Nst U ∧ va_Z "WholeSoundModel" "FIXED" "[I" (.ref t) (fun q => B ≤ q) U U.heap ∧ va_T .int t 20 (fun j => .int (mm_fix j)) (fun q => B ≤ q) U U.heap ∧ B ≤ U.heap.size ∧ U.heap[B + 83]? = some (lh_oc cJ g) ∧ exD X U ∧ mx_Zs (fun q => B ≤ q) U
def lh_Pc (D : va_G) (B t : Nat) (cI cZ cJ : ClassId) (X : String) (as : List Value) (I : mm_I) (g : Nat → Int64) : Array Value → State → Prop := va_Pc as (fun U => lh_W D B t cI cZ cJ X I g U)
def lh_Qc (D : va_G) (B t : Nat) (cI cZ cJ : ClassId) (r : Int32) (J : mm_I) (g : Nat → Int64) : Array Value → State → Outcome → State → Prop := fun _ st o t' => o = .returned (some (.int r)) ∧ va_P D vwCl (mm_wl B t cI cZ (mm_lay, J)) t'.heap ∧ va_D (mo_A B) (mm_wl B t cI cZ (mm_lay, J)) ∧ t'.heap[B + 83]? = some (lh_oc cJ g) ∧ va_F (lhA B) st t'
theorem lh_blind {D : va_G} {B t : Nat} {cI cZ cJ : ClassId} {X : String} {as : List Value} {I : mm_I} {g : Nat → Int64} : FrameBlind (lh_Pc D B t cI cZ cJ X as I g) := by
  intro a U gg mk q
  obtain ⟨q0, q1, q2, q3, q3b, q4, q5, q6, q7, q8, q10, q11, q12⟩ := q
  exact ⟨q0, q1, q2, va_K.moved (u := U) (U := U.calling gg mk a) (Vm.Alike.refl U.vm) q3, va_K.moved (u := U) (U := U.calling gg mk a) (Vm.Alike.refl U.vm) q3b, mm_Nst.same (s := U) (U := U.calling gg mk a) rfl q4, va_Z.moved (u := U) (U := U.calling gg mk a) (Vm.Alike.refl U.vm) q5, va_T.moved (u := U) (U := U.calling gg mk a) (Vm.Alike.refl U.vm) q6, q7, q8, exD.same (s := U) (U := U.calling gg mk a) rfl q10, vx_Zq.moved (u := U) (U := U.calling gg mk a) (Vm.Alike.refl U.vm) q11, vx_Zq.moved (u := U) (U := U.calling gg mk a) (Vm.Alike.refl U.vm) q12⟩
section LHB
variable {p : Program} {l : Launch} {e : Env} {R : Room} {s : State} {m : MethodId} {args : Array Value} {below : List Frame} {meth : Method} {c : Code} {H : Heap} {locs : List Loc} {cells slots : Nat} {Q : State → Prop} {D : va_G} {B t : Nat} {cI cZ cJ : ClassId} {pc : Nat} {sl : Array Slot} {I : mm_I} {cc : ByteArray} {nL : Nat} {g : Nat → Int64} {rest : List Value}
theorem wl_len : (mm_wl B t cI cZ (mm_lay, I)).length = 83 := by
  unfold mm_wl
  rw [List.length_map, List.length_range]
  rfl
theorem wl_ap {x : Nat × va_E} (hx : x.1 = B + 83) : ∀ (i : Nat) (q : Nat × va_E), (mm_wl B t cI cZ (mm_lay, I) ++ [x])[i]? = some q → q.1 = B + i ∧ i < 84 := by
  intro i q h
  have hl : (mm_wl B t cI cZ (mm_lay, I)).length = 83 := wl_len
  rcases Nat.lt_or_ge i 83 with z | z
  · rw [List.getElem?_append_left (by omega), mm_wl_get (h := (mm_lay, I)) z] at h
    cases h
    exact ⟨rfl, by omega⟩
  · rw [List.getElem?_append_right (by omega), hl] at h
    have : i - 83 = 0 := by
      rcases Nat.eq_zero_or_pos (i - 83) with y | y
      · exact y
      · rw [List.getElem?_eq_none (by simp; omega)] at h
        cases h
    rw [this] at h
    cases h
    exact ⟨by rw [hx]; omega, by omega⟩
theorem lh_store (hx : p.tables.exec = Jvm.exec) (hb : c.code = cc) (hK : va_K D vwCl [(cJ, .long)] s) {x : Int64} (hR : lhR D B t cI cZ s (lh_oc cJ g) I H locs) (hd : decode cc pc = .ok (.lastore, 1))
    (kk : ∀ H1 locs1, lhR D B t cI cZ s (lh_oc cJ (vp_updL g 0 x)) I H1 locs1 → W p l e R s m args below meth c H1 locs1 cells slots Q (F0 m (pc + 1) sl rest)) : W p l e R s m args below meth c H locs cells slots Q (F0 m pc sl (.long x :: .int 0 :: .ref (B + 83) :: rest)) := by
  obtain ⟨hP, hD, hS, hO⟩ := hR
  have hl : (mm_wl B t cI cZ (mm_lay, I)).length = 83 := wl_len
  have hP2 : va_P D vwCl (mm_wl B t cI cZ (mm_lay, I) ++ [(B + 83, .inl (cJ, 1, .inr (.inl g)))]) H := va_P.app hP (fun k q hk => by
    cases k with
    | zero => cases hk; exact hO
    | succ k => cases hk)
  have hD2 : va_D (lhA B) (mm_wl B t cI cZ (mm_lay, I) ++ [(B + 83, .inl (cJ, 1, .inr (.inl g)))]) := ⟨fun i j a b h1 h2 h3 => by
    have := (wl_ap rfl i a h1).1
    have := (wl_ap rfl j b h2).1
    omega, fun i a h1 => by
    have := wl_ap rfl i a h1
    exact ⟨by omega, by omega⟩⟩
  have hat : (mm_wl B t cI cZ (mm_lay, I) ++ [(B + 83, (.inl (cJ, 1, .inr (.inl g)) : va_E))])[83]? = some (B + 83, .inl (cJ, 1, .inr (.inl g))) := by
    rw [List.getElem?_append_right (by omega), hl]
    rfl
  refine va_last hx hb hK hP2 hD2 hS 83 0 hat rfl (i := 0) (x := x) (mm_vpc (by decide)) hd (fun H1 locs1 a1 a2 a3 => ?_)
  have hlen : 83 < (mm_wl B t cI cZ (mm_lay, I) ++ [(B + 83, (.inl (cJ, 1, .inr (.inl g)) : va_E))]).length := by
    rw [List.length_append, hl]
    simp
  refine kk H1 locs1 ⟨fun k q hk => a1 k q ?_, hD, a3, ?_⟩
  · have k83 : k < 83 := by
      rcases Nat.lt_or_ge k 83 with z | z
      · exact z
      · rw [List.getElem?_eq_none (by omega)] at hk
        cases hk
    rw [List.getElem?_set_ne (by omega), List.getElem?_append_left (by omega)]
    exact hk
  · have := a1 83 (B + 83, .inl (cJ, 1, .inr (.inl (vp_updL g (0 : Int32).toNatClampNeg x)))) (by rw [List.getElem?_set_self hlen])
    exact this
/-- the end of a helper: its answer -/
theorem lh_ret {XC : String → State → State → Prop} (hx : p.tables.exec = Jvm.exec) (hb : c.code = cc) (hret : meth.sig.returnType = some .int) (hlocks : meth.locks = false) {r : Int32} (hR : lhR D B t cI cZ s (lh_oc cJ g) I H locs) (hc : cells ≤ 1) (hs : slots ≤ 6) (hd : decode cc pc = .ok (.ireturn, 1)) :
    W p l e R s m args below meth c H locs cells slots (vx_MQ below (lh_Qc D B t cI cZ cJ r I g) XC args s 1 6 (lhA B)) (F0 m pc sl [.int r]) := by
  refine W.widen (k := 1) (n := 6) hc hs (vx_ret ?_)
  obtain ⟨hP, hD, hS, hO⟩ := hR
  exact W.iret hx hb hret (fun t' ht _ => ⟨rfl, by rw [ht]; exact hP, hD, by rw [ht]; exact hO, hS.F ht⟩) hS.2.2 hd
/-- behind the call that has answered -/
theorem lh_tail0 {XC : String → State → State → Prop} (C : lhC p s m args c D B t cI cZ cc nL) (hK : va_K D vwCl [(cJ, .long)] s) (hret : meth.sig.returnType = some .int) (hlocks : meth.locks = false) {r : Int32} (hR : lhR D B t cI cZ s (lh_oc cJ g) I H locs) (hc : cells ≤ 1) (hs : slots ≤ 6)
    (d1 : decode cc pc = .ok (.i2l, 1)) (d2 : decode cc (pc + 1) = .ok (.lastore, 1)) (d3 : decode cc (pc + 2) = .ok (.goto 7, 3)) (d4 : decode cc (pc + 9) = .ok (.iconst 0, 1)) (d5 : decode cc (pc + 10) = .ok (.ireturn, 1)) :
    W p l e R s m args below meth c H locs cells slots (vx_MQ below (lh_Qc D B t cI cZ cJ 0 I (vp_updL g 0 r.toInt64)) XC args s 1 6 (lhA B)) (F0 m pc sl [.int r, .int 0, .ref (B + 83)]) := by
  have C' := C
  obtain ⟨hx, hb, hml, hown, hts, -⟩ := C'
  refine lv_i2l hx hb d1 rfl ?_
  refine lh_store hx hb hK hR d2 (fun H1 locs1 hR1 => ?_)
  refine lv_goto hx hb d3 (tgt := pc + 9) (by omega) ?_
  refine lv_iconst hx hb d4 (v := 0) rfl ?_
  exact lh_ret hx hb hret hlocks hR1 hc hs d5
end LHB
