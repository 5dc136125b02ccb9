def mm_tys (cI cZ : ClassId) : List (ClassId × FieldType) := [(cI, .int), (cZ, .boolean)]
def mm_cel (B t : Nat) (cI cZ : ClassId) (h : mm_H) (a : Nat) : va_E :=
  if mm_K h a = 100 then .inl (cI, mm_L h a, .inl (mm_G h a)) else if mm_K h a = 101 then .inl (cZ, mm_L h a, .inl (mm_G h a))
  else .inr (mm_K h a, (List.range (mm_N (mm_K h a))).map (fun s => mm_rv B t (mm_fv h (mm_K h a) a s)))
def mm_wl (B t : Nat) (cI cZ : ClassId) (h : mm_H) : va_W := (List.range (mm_n h)).map (fun a => (B + a, mm_cel B t cI cZ h a))
theorem mm_wl_get {B t : Nat} {cI cZ : ClassId} {h : mm_H} {a : Nat} (ha : a < mm_n h) : (mm_wl B t cI cZ h)[a]? = some (B + a, mm_cel B t cI cZ h a) := by
  unfold mm_wl
  rw [List.getElem?_map, List.getElem?_range ha]
  rfl
theorem mm_wl_set {B t : Nat} {cI cZ : ClassId} {h h' : mm_H} {a : Nat} {e : va_E} (hn : mm_n h' = mm_n h) (he : mm_cel B t cI cZ h' a = e) (ho : ∀ b, b ≠ a → mm_cel B t cI cZ h' b = mm_cel B t cI cZ h b) : (mm_wl B t cI cZ h).set a (B + a, e) = mm_wl B t cI cZ h' := by
  refine List.ext_getElem? fun i => ?_
  by_cases hi : i < mm_n h
  · by_cases hia : i = a
    · subst hia
      rw [List.getElem?_set_self (by simp [mm_wl, hi]), mm_wl_get (by rw [hn]; exact hi), he]
    · rw [List.getElem?_set_ne (Ne.symm hia), mm_wl_get hi, mm_wl_get (by rw [hn]; exact hi), ho i hia]
  · rw [List.getElem?_eq_none (by simp [mm_wl]; omega), List.getElem?_eq_none (by simp [mm_wl]; omega)]
theorem mm_wl_add {B t : Nat} {cI cZ : ClassId} {h h' : mm_H} {e : va_E} (hn : mm_n h' = mm_n h + 1) (he : mm_cel B t cI cZ h' (mm_n h) = e) (ho : ∀ b, b < mm_n h → mm_cel B t cI cZ h' b = mm_cel B t cI cZ h b) : mm_wl B t cI cZ h ++ [(B + mm_n h, e)] = mm_wl B t cI cZ h' := by
  unfold mm_wl
  rw [hn, List.range_succ, List.map_append, List.map_cons, List.map_nil, he]
  congr 1
  exact List.map_congr_left fun b hb => by rw [ho b (List.mem_range.mp hb)]
theorem mm_bf {b : Bool} (h : ¬ b = true) : b = false := by cases b <;> simp_all
theorem mm_beq_f {a b : Nat} (h : ¬ a = b) : Nat.beq a b = false := mm_bf fun z => h ((mm_beq_iff _ _).mp z)
theorem mm_up_ne {I : mm_I} {a i b : Nat} {v : Int32} (h : b ≠ a) : mm_up I a i v b = I b := by
  funext j
  unfold mm_up
  rw [mm_beq_f h]
  rfl
theorem mm_up_at (I : mm_I) (a i : Nat) (v : Int32) : mm_up I a i v a = upd (I a) i v := by
  funext j
  unfold mm_up upd
  rw [Nat.beq_refl, Bool.true_and]
  by_cases hj : j = i
  · subst hj
    rw [Nat.beq_refl]
    simp
  · rw [mm_beq_f hj, if_neg hj]
    rfl
theorem mm_up_ns {I : mm_I} {a i j : Nat} {v : Int32} (h : j ≠ i) : mm_up I a i v a j = I a j := by
  unfold mm_up
  rw [mm_beq_f h, Bool.and_false]
  rfl
theorem mm_up_s {I : mm_I} {a i : Nat} {v : Int32} : mm_up I a i v a i = v := by
  unfold mm_up
  rw [Nat.beq_refl, Nat.beq_refl]
  rfl
/-- an int store: other cells -/
theorem mm_cel_up {B t : Nat} {cI cZ : ClassId} {h : mm_H} {a i b : Nat} {v : Int32} (hb : b ≠ a) : mm_cel B t cI cZ (h.1, mm_up h.2 a i v) b = mm_cel B t cI cZ h b := by
  have e : mm_G (h.1, mm_up h.2 a i v) b = mm_G h b := mm_up_ne hb
  have eK : mm_K (h.1, mm_up h.2 a i v) b = mm_K h b := rfl
  have eL : mm_L (h.1, mm_up h.2 a i v) b = mm_L h b := rfl
  have ef : ∀ c s, mm_fv (h.1, mm_up h.2 a i v) c b s = mm_fv h c b s := fun c s => by
    have eR : mm_R (h.1, mm_up h.2 a i v) b s = mm_R h b s := rfl
    unfold mm_fv
    rw [eR, congrFun e s]
  unfold mm_cel
  rw [eK, eL, e]
  simp only [ef]
theorem mm_cel_arr {B t : Nat} {cI cZ : ClassId} {h : mm_H} {a : Nat} (hK : mm_K h a = 100) : mm_cel B t cI cZ h a = .inl (cI, mm_L h a, .inl (mm_G h a)) := by
  unfold mm_cel
  rw [if_pos hK]
theorem mm_cel_boo {B t : Nat} {cI cZ : ClassId} {h : mm_H} {a : Nat} (hK : mm_K h a = 101) : mm_cel B t cI cZ h a = .inl (cZ, mm_L h a, .inl (mm_G h a)) := by
  unfold mm_cel
  rw [if_neg (by rw [hK]; decide), if_pos hK]
theorem mm_cel_obj {B t : Nat} {cI cZ : ClassId} {h : mm_H} {a c : Nat} (hK : mm_K h a = c) (hc : c < 10) : mm_cel B t cI cZ h a = .inr (c, (List.range (mm_N c)).map (fun s => mm_rv B t (mm_fv h c a s))) := by
  subst hK
  unfold mm_cel
  rw [if_neg (by omega), if_neg (by omega)]
theorem mm_fs_get {B t : Nat} {h : mm_H} {c a s : Nat} (hs : s < mm_N c) : ((List.range (mm_N c)).map (fun s => mm_rv B t (mm_fv h c a s)))[s]? = some (mm_rv B t (mm_fv h c a s)) := by
  rw [List.getElem?_map, List.getElem?_range hs]
  rfl
theorem mm_fs_set {B t : Nat} {h h' : mm_H} {c a s : Nat} {v : Value} (hv : mm_rv B t (mm_fv h' c a s) = v) (ho : ∀ j, j ≠ s → mm_fv h' c a j = mm_fv h c a j) : ((List.range (mm_N c)).map (fun s => mm_rv B t (mm_fv h c a s))).set s v = (List.range (mm_N c)).map (fun s => mm_rv B t (mm_fv h' c a s)) := by
  refine List.ext_getElem? fun i => ?_
  by_cases hi : i < mm_N c
  · by_cases his : i = s
    · subst his
      rw [List.getElem?_set_self (by simp [hi]), mm_fs_get hi, hv]
    · rw [List.getElem?_set_ne (Ne.symm his), mm_fs_get hi, mm_fs_get hi, ho i his]
  · rw [List.getElem?_eq_none (by simp; omega), List.getElem?_eq_none (by simp; omega)]
theorem mm_fv_up {h : mm_H} {c a s : Nat} {x : Int32} (hf : mm_ft c s ≠ 2) : mm_fv (h.1, mm_up h.2 a s x) c a s = .int x := by
  unfold mm_fv
  rw [mm_beq_f hf]
  show Value.int (mm_up h.2 a s x a s) = _
  rw [mm_up_s]
theorem mm_fv_upo {h : mm_H} {c a s j : Nat} {x : Int32} (hj : j ≠ s) : mm_fv (h.1, mm_up h.2 a s x) c a j = mm_fv h c a j := by
  unfold mm_fv
  show (bif Nat.beq (mm_ft c j) 2 then va_rf (mm_R h a j) else Value.int (mm_up h.2 a s x a j)) = _
  rw [mm_up_ns hj]
  rfl
theorem mm_sR_R {h : mm_H} {a s b j : Nat} {v : Option Nat} (hx : ¬ (b = a ∧ j = s)) : mm_R (mm_sR h a s v) b j = mm_R h b j := by
  show (bif (Nat.beq b a && Nat.beq j s) then v else h.1.2.2.2.2 b j) = _
  have e : (Nat.beq b a && Nat.beq j s) = false := mm_bf fun z => hx (by
    rw [Bool.and_eq_true] at z
    exact ⟨(mm_beq_iff _ _).mp z.1, (mm_beq_iff _ _).mp z.2⟩)
  rw [e]
  rfl
theorem mm_sR_s {h : mm_H} {a s : Nat} {v : Option Nat} : mm_R (mm_sR h a s v) a s = v := by
  show (bif (Nat.beq a a && Nat.beq s s) then v else h.1.2.2.2.2 a s) = _
  rw [Nat.beq_refl, Nat.beq_refl]
  rfl
theorem mm_cel_sR {B t : Nat} {cI cZ : ClassId} {h : mm_H} {a s b : Nat} {v : Option Nat} (hb : b ≠ a) : mm_cel B t cI cZ (mm_sR h a s v) b = mm_cel B t cI cZ h b := by
  have e : mm_G (mm_sR h a s v) b = mm_G h b := rfl
  have eK : mm_K (mm_sR h a s v) b = mm_K h b := rfl
  have eL : mm_L (mm_sR h a s v) b = mm_L h b := rfl
  have ef : ∀ c j, mm_fv (mm_sR h a s v) c b j = mm_fv h c b j := fun c j => by
    unfold mm_fv
    rw [mm_sR_R (fun z => hb z.1), congrFun e j]
  unfold mm_cel
  rw [eK, eL, e]
  simp only [ef]
/-- a new cell: the others -/
theorem mm_cel_add {B t : Nat} {cI cZ : ClassId} {h : mm_H} {c s b : Nat} (hb : b < mm_n h) : mm_cel B t cI cZ (mm_add h c s) b = mm_cel B t cI cZ h b := by
  have hne : Nat.beq b h.1.1 = false := mm_beq_f (show ¬ b = mm_n h by omega)
  have eG : mm_G (mm_add h c s) b = mm_G h b := by
    funext j
    show (bif Nat.beq b h.1.1 then 0 else h.2 b j) = h.2 b j
    rw [hne]; rfl
  have eK : mm_K (mm_add h c s) b = mm_K h b := by
    show (bif Nat.beq b h.1.1 then c else h.1.2.2.1 b) = _
    rw [hne]; rfl
  have eL : mm_L (mm_add h c s) b = mm_L h b := by
    show (bif Nat.beq b h.1.1 then s else h.1.2.2.2.1 b) = _
    rw [hne]; rfl
  have ef : ∀ c' j, mm_fv (mm_add h c s) c' b j = mm_fv h c' b j := fun c' j => by
    have eR : mm_R (mm_add h c s) b j = mm_R h b j := by
      show (bif Nat.beq b h.1.1 then none else h.1.2.2.2.2 b j) = _
      rw [hne]; rfl
    unfold mm_fv
    rw [eR, congrFun eG j]
  unfold mm_cel
  rw [eK, eL, eG]
  simp only [ef]
theorem mm_add_K {h : mm_H} {c s : Nat} : mm_K (mm_add h c s) (mm_n h) = c := by
  show (bif Nat.beq (mm_n h) h.1.1 then c else h.1.2.2.1 (mm_n h)) = _
  rw [show Nat.beq (mm_n h) h.1.1 = true from Nat.beq_refl _]; rfl
theorem mm_add_L {h : mm_H} {c s : Nat} : mm_L (mm_add h c s) (mm_n h) = s := by
  show (bif Nat.beq (mm_n h) h.1.1 then s else h.1.2.2.2.1 (mm_n h)) = _
  rw [show Nat.beq (mm_n h) h.1.1 = true from Nat.beq_refl _]; rfl
theorem mm_add_G {h : mm_H} {c s : Nat} : mm_G (mm_add h c s) (mm_n h) = fun _ => 0 := by
  funext j
  show (bif Nat.beq (mm_n h) h.1.1 then 0 else h.2 (mm_n h) j) = 0
  rw [show Nat.beq (mm_n h) h.1.1 = true from Nat.beq_refl _]; rfl
theorem mm_add_R {h : mm_H} {c s j : Nat} : mm_R (mm_add h c s) (mm_n h) j = none := by
  show (bif Nat.beq (mm_n h) h.1.1 then none else h.1.2.2.2.2 (mm_n h) j) = none
  rw [show Nat.beq (mm_n h) h.1.1 = true from Nat.beq_refl _]; rfl
