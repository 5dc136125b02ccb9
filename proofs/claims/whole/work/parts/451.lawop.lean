/-! the law: an op that both answer -/
theorem RM_FX {A : sA} {I J : mm_I} (h : RM A I) (f : FX I J) : RM A J := by
  obtain ⟨h1, h2, h3, h4, h5⟩ := h
  have e58 := f 58 (by omega); have e59 := f 59 (by omega); have e60 := f 60 (by omega); have e61 := f 61 (by omega); have e62 := f 62 (by omega); have e63 := f 63 (by omega); have e66 := f 66 (by omega)
  refine ⟨?_, ?_, ?_, ?_, ?_⟩
  · unfold RMt; rw [e58, e59]; exact h1
  · unfold RMs; rw [e58, e61, e60]; exact h2
  · unfold RMo; rw [e58]; exact h3
  · unfold RMp; rw [e62, e63]; exact h4
  · unfold RMk; rw [e58, e66]; exact h5
theorem RX_FM {A : sA} {I J : mm_I} (h : RX A I) (f : FM I J) : RX A J := by
  obtain ⟨h1, h2, h3, h4, h5, h6⟩ := h
  have e0 := f 0 (by omega); have e1 := f 1 (by omega); have e2 := f 2 (by omega); have e3 := f 3 (by omega); have e4 := f 4 (by omega); have e5 := f 5 (by omega); have e7 := f 7 (by omega); have e8 := f 8 (by omega); have e9 := f 9 (by omega); have e47 := f 47 (by omega); have e48 := f 48 (by omega); have e50 := f 50 (by omega); have e51 := f 51 (by omega); have e52 := f 52 (by omega)
  refine ⟨?_, ?_, ?_, ?_, ?_, ?_⟩
  · unfold RXt; rw [e1, e2]; exact h1
  · unfold RXs; rw [e3, e4, e5]; exact h2
  · unfold RXo; rw [e0]; exact h3
  · unfold RXq; rw [e7, e8, e9]; exact h4
  · unfold RXf; rw [e50, e51, e52]; exact h5
  · unfold RXk; rw [e47, e48]; exact h6
def lwB (B b n : Nat) : List (Nat × Value) := [(0, .ref b), (1, .ref B), (2, .ref (B + 58)), (3, .ref (B + 83)), (4, .int (nI n))]
def dA (pc : Nat) (j : Int) : Prop := decode code pc = .ok (.aload_n 0, 1) ∧ decode code (pc + 1) = .ok (.iload 4, 2) ∧ decode code (pc + 3) = .ok (.iconst j, 1) ∧ decode code (pc + 4) = .ok (.iadd, 1) ∧ decode code (pc + 5) = .ok (.iaload, 1)
section LWB
variable {p : Program} {l : Launch} {e : Env} {R : Room} {s : State} {m : MethodId} {args : Array Value} {below : List Frame} {meth : Method} {c : Code} {H : Heap} {locs : List Loc} {cells slots : Nat} {Q : State → Prop} {D : va_G} {B t : Nat} {cI cZ : ClassId} {pc : Nat} {sl : Array Slot} {b L n : Nat} {xs : Nat → Int32} {oc : Cell} {I : mm_I} {rest : List Value}
theorem lw_arg (C : lwC p s m args c D B t cI cZ b L xs) (hS : va_S (fun q => B ≤ q) s.heap H locs) (hl : lv_has sl 7 (lwB B b n)) {j : Nat} {jj : Int} (hj : Int32.ofInt jj = nI j) (hn : n + j < L) (hL : L ≤ 3584) (hd : dA pc jj)
    (kk : W p l e R s m args below meth c H locs cells slots Q (F0 m (pc + 6) sl (.int (xs (n + j)) :: rest))) : W p l e R s m args below meth c H locs cells slots Q (F0 m pc sl rest) := by
  obtain ⟨hx, hb, hml, hown, hts, hK, hN, hZ, hT, hB, hX, hbl⟩ := C
  obtain ⟨d1, d2, d3, d4, d5⟩ := hd
  refine lv_aload_n hx hb d1 (i := 0) rfl (lv_at hl 0 rfl) ?_
  refine lv_iload hx hb d2 (lv_at hl 4 rfl) ?_
  refine lv_iconst hx hb d3 hj ?_
  refine lv_iadd hx hb d4 ?_
  rw [nI_add]
  refine va_sld hx hb hX hbl (show ¬ B ≤ b by omega) hS (vp_in_nI hn (by omega)) d5 ?_
  rw [nI_clamp (n := n + j) (by omega)]
  exact kk
def lwAs (xs : Nat → Int32) (n : Nat) : Nat → List Value
  | 0 => []
  | r + 1 => lwAs xs n r ++ [.int (xs (n + (r + 1)))]
def dAs (pc : Nat) : Nat → Prop
  | 0 => True
  | r + 1 => dAs pc r ∧ dA (pc + 6 * r) ((r : Int) + 1)
theorem lw_args (C : lwC p s m args c D B t cI cZ b L xs) (hS : va_S (fun q => B ≤ q) s.heap H locs) (hl : lv_has sl 7 (lwB B b n)) (hL : L ≤ 3584) : ∀ (r : Nat), r ≤ 6 → n + r < L → dAs pc r →
    (W p l e R s m args below meth c H locs cells slots Q (F0 m (pc + 6 * r) sl ((lwAs xs n r).reverse ++ rest))) → W p l e R s m args below meth c H locs cells slots Q (F0 m pc sl rest) := by
  intro r
  induction r with
  | zero => intro _ _ _ kk; exact kk
  | succ r ih =>
    intro hr hn hd kk
    refine ih (by omega) (by omega) hd.1 ?_
    refine lw_arg C hS hl (j := r + 1) (jj := (r : Int) + 1) rfl (by omega) hL hd.2 ?_
    have e1 : pc + 6 * (r + 1) = pc + 6 * r + 6 := by omega
    have e2 : (lwAs xs n (r + 1)).reverse ++ rest = .int (xs (n + (r + 1))) :: ((lwAs xs n r).reverse ++ rest) := by
      show (lwAs xs n r ++ [_]).reverse ++ rest = _
      rw [List.reverse_append]
      rfl
    rw [e1, e2] at kk
    exact kk
theorem lwAs_m {B t n : Nat} {xs : Nat → Int32} : ∀ r, (lwAs xs n r).map (mm_rv B t) = lwAs xs n r := by
  intro r
  induction r with
  | zero => rfl
  | succ r ih =>
    show (lwAs xs n r ++ [_]).map (mm_rv B t) = lwAs xs n r ++ [_]
    rw [List.map_append, ih]
    rfl
theorem lwAs_l {n : Nat} {xs : Nat → Int32} : ∀ r, (lwAs xs n r).length = r := by
  intro r
  induction r with
  | zero => rfl
  | succ r ih =>
    show (lwAs xs n r ++ [_]).length = r + 1
    rw [List.length_append, ih]
    rfl
theorem lwAs_e {n : Nat} {xs : Nat → Int32} : ∀ r, (mm_ent0 (lwAs xs n r)).length = r := by
  have app : ∀ (u : List Value) (x : Int32), (mm_ent0 (u ++ [.int x])).length = (mm_ent0 u).length + 1 := fun u x => by
    induction u with
    | nil => rfl
    | cons a u ih =>
      show (bif Nat.beq a.category 2 then some a :: none :: mm_ent0 (u ++ [.int x]) else some a :: mm_ent0 (u ++ [.int x])).length = (bif Nat.beq a.category 2 then some a :: none :: mm_ent0 u else some a :: mm_ent0 u).length + 1
      cases Nat.beq a.category 2 with
      | true => simp [ih]
      | false => simp [ih]
  intro r
  induction r with
  | zero => rfl
  | succ r ih =>
    show (mm_ent0 (lwAs xs n r ++ [_])).length = r + 1
    rw [app, ih]
/-- the code of an op of r ints -/
def dOp (pc r ix iy : Nat) (off : Int) : Prop := decode code pc = .ok (.aload_n 1, 1) ∧ dAs (pc + 1) r ∧ decode code (pc + 1 + 6 * r) = .ok (.invokevirtual ix, 3) ∧ decode code (pc + 1 + 6 * r + 3) = .ok (.aload_n 2, 1) ∧ dAs (pc + 1 + 6 * r + 3 + 1) r ∧ decode code (pc + 1 + 6 * r + 3 + 1 + 6 * r) = .ok (.invokevirtual iy, 3) ∧ decode code (pc + 1 + 6 * r + 3 + 1 + 6 * r + 3) = .ok (.if_icmp .eq off, 3) ∧ ((pc + 1 + 6 * r + 3 + 1 + 6 * r + 3 : Nat) : Int) + off = (1572 : Nat)
/-- the two methods of an op of r ints -/
def mOp (k kk r ix iy : Nat) : Prop := (k < 227 ∧ mm_md k = 1 ∧ Cond.methodLink "WholeSoundLaw" ix (mm_y k) ∈ mm_GW ∧ mm_c k = 8 ∧ mm_na k = r + 1 ∧ r + 1 ≤ mm_mL k) ∧ (kk < 227 ∧ mm_md kk = 1 ∧ Cond.methodLink "WholeSoundLaw" iy (mm_y kk) ∈ mm_GW ∧ mm_c kk = 9 ∧ mm_na kk = r + 1 ∧ r + 1 ≤ mm_mL kk)
theorem lw_op (C : lwC p s m args c D B t cI cZ b L xs) (hl : lv_has sl 7 (lwB B b n)) (hL : L ≤ 3584) {r k k2 ix iy : Nat} {off : Int} {A : sA} {o : Int32 × sA} (hr : r ≤ 6) (hn : n + 7 ≤ L) (hd : dOp pc r ix iy off) (hm : mOp k k2 r ix iy) (hroom : 14 ≤ R.frames ∧ 560 ≤ R.locals) (hcell : cells ≤ R.cells ∧ slots ≤ R.slots) (hRX : RX A I) (hRM : RM A I) (hVA : VA o.2)
    (hX : mm_Mi k (.ref 0 :: lwAs xs n r) I (oR o RX FX I)) (hM : ∀ J, RM A J → mm_Mi k2 (.ref 58 :: lwAs xs n r) J (oR o RM FM J)) (hR : lwR D B t cI cZ s oc I H locs)
    (kk : ∀ A' J H1 locs1, RX A' J → RM A' J → VA A' → lwR D B t cI cZ s oc J H1 locs1 → W p l e R s m args below meth c H1 locs1 cells slots Q (F0 m 1572 sl [])) : W p l e R s m args below meth c H locs cells slots Q (F0 m pc sl []) := by
  have C' := C
  obtain ⟨hx, hb, hml, hown, hts, hK, hN, hZ, hT, hB, hXs, hbl⟩ := C'
  obtain ⟨d1, d2, d3, d4, d5, d6, d7, d8⟩ := hd
  obtain ⟨⟨m1, m2, m3, m4, m5, m6⟩, q1, q2, q3, q4, q5, q6⟩ := hm
  have fit : ∀ a, (mm_ent0 (.ref a :: lwAs xs n r)).length = r + 1 := fun a => by
    show (some (Value.ref a) :: mm_ent0 (lwAs xs n r)).length = r + 1
    rw [List.length_cons, lwAs_e]
  refine lv_aload_n hx hb d1 (i := 1) rfl (lv_at hl 1 rfl) ?_
  refine lw_args C hR.2.2.1 hl hL r hr (by omega) d2 ?_
  refine lw_call C (a := 0) (as' := lwAs xs n r) (rest := []) m1 m2 m3 d3 (by omega) (show mm_nth 0 mm_lK 0 = mm_c k from m4.symm) (by rw [lwAs_l]; exact m5) (by rw [fit]; exact m6) (lwAs_m r) hX hl.1 (Nat.zero_le _) hroom hcell hR (fun r1 I1 h1 H1 locs1 hR1 => ?_)
  obtain ⟨e1, x1, fx⟩ := h1
  refine lv_aload_n hx hb d4 (i := 2) rfl (lv_at hl 2 rfl) ?_
  refine lw_args C hR1.2.2.1 hl hL r hr (by omega) d5 ?_
  refine lw_call C (a := 58) (as' := lwAs xs n r) (rest := [.int r1]) q1 q2 q3 d6 (by omega) (show mm_nth 0 mm_lK 58 = mm_c k2 from q4.symm) (by rw [lwAs_l]; exact q5) (by rw [fit]; exact q6) (lwAs_m r) (hM I1 (RM_FX hRM fx)) hl.1 (by show 1 + 0 ≤ 8; omega) hroom hcell hR1 (fun r2 I2 h2 H2 locs2 hR2 => ?_)
  obtain ⟨e2, x2, fm⟩ := h2
  refine lv_icmp_eq hx hb d7 d8 (fun _ => ?_) (fun z => absurd (e1.trans e2.symm) z)
  exact kk o.2 I2 H2 locs2 (RX_FM x1 fm) x2 hVA hR2
end LWB
