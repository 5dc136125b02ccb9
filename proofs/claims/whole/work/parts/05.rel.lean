def mm_ad (B t a : Nat) : Nat := bif Nat.beq a 5000 then t else B + a
def mm_rv (B t : Nat) (v : Value) : Value := match v with
  | .ref a => .ref (mm_ad B t a)
  | v => v
theorem mm_rv_cat (B t : Nat) (v : Value) : (mm_rv B t v).category = v.category := by cases v <;> rfl
theorem mm_nth_eq {α : Type} (d : α) (l : List α) (i : Nat) : mm_nth d l i = (l[i]?).getD d := by
  induction l generalizing i with
  | nil => rfl
  | cons x l ih =>
    cases i with
    | zero => rfl
    | succ i => simp [mm_nth, ih]
theorem mm_ld_iff (ls : mm_Ls) (i : Nat) (v : Value) : mm_ld ls i = some v ↔ ls[i]? = some (some v) := by
  unfold mm_ld
  rw [mm_nth_eq]
  cases h : ls[i]? with
  | none => simp
  | some x => simp
theorem mm_ld_lt {ls : mm_Ls} {i : Nat} {v : Value} (h : mm_ld ls i = some v) : i < ls.length := by
  rw [mm_ld_iff] at h
  exact (List.getElem?_eq_some_iff.mp h).1
theorem mm_ld_set {ls : mm_Ls} {i j : Nat} {x : Option Value} (hij : j ≠ i) : mm_ld (ls.set i x) j = mm_ld ls j := by
  unfold mm_ld
  rw [mm_nth_eq, mm_nth_eq, List.getElem?_set_ne (Ne.symm hij)]
theorem mm_ld_set_self {ls : mm_Ls} {i : Nat} {x : Option Value} (hi : i < ls.length) : mm_ld (ls.set i x) i = x := by
  unfold mm_ld
  rw [mm_nth_eq, List.getElem?_set_self hi]
  rfl
theorem mm_clr_len (ls : mm_Ls) (i : Nat) : (mm_clr ls i).length = ls.length := by
  unfold mm_clr
  cases i with
  | zero => rfl
  | succ j =>
    simp only
    cases mm_ld ls j with
    | none => rfl
    | some v =>
      simp only
      cases Nat.beq v.category 2 <;> simp
theorem mm_clr_ld {ls : mm_Ls} {i j : Nat} {w : Value} (h : mm_ld (mm_clr ls i) j = some w) : mm_ld ls j = some w ∧ ¬ (j + 1 = i ∧ w.category = 2) := by
  unfold mm_clr at h
  cases i with
  | zero => exact ⟨h, fun q => by omega⟩
  | succ i =>
    simp only at h
    cases hu : mm_ld ls i with
    | none =>
      rw [hu] at h
      refine ⟨h, fun q => ?_⟩
      have : j = i := by omega
      subst this
      rw [hu] at h
      cases h
    | some u =>
      rw [hu] at h
      simp only at h
      cases hc : Nat.beq u.category 2 with
      | false =>
        rw [hc] at h
        simp only [cond_false] at h
        refine ⟨h, fun q => ?_⟩
        have : j = i := by omega
        subst this
        rw [hu] at h
        cases h
        rw [q.2] at hc
        cases hc
      | true =>
        rw [hc] at h
        simp only [cond_true] at h
        by_cases hj : j = i
        · subst hj
          rw [mm_ld_set_self (mm_ld_lt hu)] at h
          cases h
        · rw [mm_ld_set hj] at h
          exact ⟨h, fun q => hj (by omega)⟩
def mm_LR (B t : Nat) (sl : Array Slot) (ls : mm_Ls) : Prop := sl.size = ls.length ∧ lv_wf sl ∧ ∀ (i : Nat) (v : Value), mm_ld ls i = some v → sl[i]? = some (.val (mm_rv B t v))
def mm_asc (B t : Nat) (ls : mm_Ls) : List (Nat × Value) := (List.range ls.length).filterMap (fun i => (mm_ld ls i).map (fun v => (i, mm_rv B t v)))
theorem mm_asc_mem {B t : Nat} {ls : mm_Ls} {i : Nat} {v : Value} (h : mm_ld ls i = some v) : (i, mm_rv B t v) ∈ mm_asc B t ls :=
  List.mem_filterMap.mpr ⟨i, List.mem_range.mpr (mm_ld_lt h), by rw [h]; rfl⟩
theorem mm_LR.has {B t : Nat} {sl : Array Slot} {ls : mm_Ls} (h : mm_LR B t sl ls) : lv_has sl ls.length (mm_asc B t ls) := by
  refine ⟨h.1, h.2.1, fun q hq => ?_⟩
  obtain ⟨i, hi, he⟩ := List.mem_filterMap.mp hq
  cases hv : mm_ld ls i with
  | none => rw [hv] at he; cases he
  | some v =>
    rw [hv] at he
    cases he
    exact h.2.2 i v hv
theorem mm_LR.of1 {B t : Nat} {sl : Array Slot} {ls : mm_Ls} {i : Nat} {v : Value} (hi : i < ls.length) (h : lv_has sl ls.length ((i, mm_rv B t v) :: (mm_asc B t ls).filter (fun q => !(q.1 == i) && !(q.1 + 1 == i && q.2.category == 2)))) : mm_LR B t sl (mm_s1 ls i v) := by
  refine ⟨by rw [h.1]; simp [mm_s1, mm_clr_len], h.2.1, fun j w hw => ?_⟩
  unfold mm_s1 at hw
  by_cases hj : j = i
  · subst hj
    rw [mm_ld_set_self (by rw [mm_clr_len]; exact hi)] at hw
    cases hw
    exact h.2.2 _ List.mem_cons_self
  · rw [mm_ld_set hj] at hw
    obtain ⟨h1, h2⟩ := mm_clr_ld hw
    refine h.2.2 (j, mm_rv B t w) (List.mem_cons_of_mem _ (List.mem_filter.mpr ⟨mm_asc_mem h1, ?_⟩))
    simp only [Bool.and_eq_true, Bool.not_eq_true', beq_eq_false_iff_ne, ne_eq, Bool.and_eq_false_iff, mm_rv_cat]
    refine ⟨hj, ?_⟩
    by_cases q : j + 1 = i
    · exact Or.inr fun z => h2 ⟨q, z⟩
    · exact Or.inl q
theorem mm_LR.of2 {B t : Nat} {sl : Array Slot} {ls : mm_Ls} {i : Nat} {v : Value} (hi : i + 1 < ls.length) (h : lv_has sl ls.length ((i, mm_rv B t v) :: (mm_asc B t ls).filter (fun q => !(q.1 == i) && (!(q.1 == i + 1) && !(q.1 + 1 == i && q.2.category == 2))))) : mm_LR B t sl (mm_s2 ls i v) := by
  refine ⟨by rw [h.1]; simp [mm_s2, mm_clr_len], h.2.1, fun j w hw => ?_⟩
  unfold mm_s2 at hw
  by_cases hj1 : j = i + 1
  · subst hj1
    rw [mm_ld_set_self (by rw [List.length_set, mm_clr_len]; exact hi)] at hw
    cases hw
  rw [mm_ld_set hj1] at hw
  by_cases hj : j = i
  · subst hj
    rw [mm_ld_set_self (by rw [mm_clr_len]; omega)] at hw
    cases hw
    exact h.2.2 _ List.mem_cons_self
  · rw [mm_ld_set hj] at hw
    obtain ⟨h1, h2⟩ := mm_clr_ld hw
    refine h.2.2 (j, mm_rv B t w) (List.mem_cons_of_mem _ (List.mem_filter.mpr ⟨mm_asc_mem h1, ?_⟩))
    simp only [Bool.and_eq_true, Bool.not_eq_true', beq_eq_false_iff_ne, ne_eq, Bool.and_eq_false_iff, mm_rv_cat]
    refine ⟨hj, hj1, ?_⟩
    by_cases q : j + 1 = i
    · exact Or.inr fun z => h2 ⟨q, z⟩
    · exact Or.inl q
theorem mm_beq_iff (a b : Nat) : Nat.beq a b = true ↔ a = b := ⟨Nat.eq_of_beq_eq_true, fun h => by subst h; exact Nat.beq_refl a⟩
theorem mm_ent_len (B t : Nat) (vs : List Value) : (lg_sl (vs.map (mm_rv B t))).length = (mm_ent0 vs).length := by
  induction vs with
  | nil => rfl
  | cons v vs ih =>
    have e : lg_sl ((v :: vs).map (mm_rv B t)) = (if (mm_rv B t v).category = 2 then [.val (mm_rv B t v), .second] else [.val (mm_rv B t v)]) ++ lg_sl (vs.map (mm_rv B t)) := rfl
    have e0 : mm_ent0 (v :: vs) = bif Nat.beq v.category 2 then some v :: none :: mm_ent0 vs else some v :: mm_ent0 vs := rfl
    rw [e, List.length_append, ih, mm_rv_cat, e0]
    by_cases hc : v.category = 2
    · rw [if_pos hc, (mm_beq_iff _ _).mpr hc]
      simp
      omega
    · have : Nat.beq v.category 2 = false := by
        cases hb : Nat.beq v.category 2 with
        | false => rfl
        | true => exact absurd ((mm_beq_iff _ _).mp hb) hc
      rw [if_neg hc, this]
      simp
      omega
theorem mm_ld_nones (n i : Nat) (v : Value) : ¬ mm_ld (List.replicate n none) i = some v := by
  rw [mm_ld_iff]
  intro h
  rw [List.getElem?_replicate] at h
  split at h
  · cases h
  · cases h
theorem mm_ent_mem (B t n : Nat) : ∀ (vs : List Value) (o j : Nat) (v : Value), mm_ld (mm_ent0 vs ++ List.replicate n none) j = some v → (o + j, mm_rv B t v) ∈ lv_args o (vs.map (mm_rv B t))
  | [], o, j, v, h => absurd h (mm_ld_nones n j v)
  | u :: vs, o, j, v, h => by
    have ea : lv_args o ((u :: vs).map (mm_rv B t)) = (o, mm_rv B t u) :: lv_args (if (mm_rv B t u).category = 2 then o + 2 else o + 1) (vs.map (mm_rv B t)) := rfl
    rw [ea, mm_rv_cat]
    have e0 : mm_ent0 (u :: vs) = bif Nat.beq u.category 2 then some u :: none :: mm_ent0 vs else some u :: mm_ent0 vs := rfl
    rw [e0] at h
    by_cases hc : u.category = 2
    · rw [(mm_beq_iff _ _).mpr hc] at h
      rw [if_pos hc]
      match j, h with
      | 0, h =>
        have e : some u = some v := h
        cases e
        exact List.mem_cons_self
      | 1, h =>
        have e : (none : Option Value) = some v := h
        cases e
      | j + 2, h =>
        have e : mm_ld (mm_ent0 vs ++ List.replicate n none) j = some v := h
        have := mm_ent_mem B t n vs (o + 2) j v e
        rw [show o + (j + 2) = o + 2 + j by omega]
        exact List.mem_cons_of_mem _ this
    · have hb : Nat.beq u.category 2 = false := by
        cases hb : Nat.beq u.category 2 with
        | false => rfl
        | true => exact absurd ((mm_beq_iff _ _).mp hb) hc
      rw [hb] at h
      rw [if_neg hc]
      match j, h with
      | 0, h =>
        have e : some u = some v := h
        cases e
        exact List.mem_cons_self
      | j + 1, h =>
        have e : mm_ld (mm_ent0 vs ++ List.replicate n none) j = some v := h
        have := mm_ent_mem B t n vs (o + 1) j v e
        rw [show o + (j + 1) = o + 1 + j by omega]
        exact List.mem_cons_of_mem _ this
theorem mm_LR_ent {B t n : Nat} {vs : List Value} (h : (mm_ent0 vs).length ≤ n) : mm_LR B t ((lg_sl (vs.map (mm_rv B t)) ++ List.replicate (n - (lg_sl (vs.map (mm_rv B t))).length) Slot.unset).toArray) (mm_ent n vs) := by
  have hE := lv_entry (vs.map (mm_rv B t)) (n := n) (by rw [mm_ent_len]; exact h)
  refine ⟨by rw [hE.1]; simp [mm_ent]; omega, hE.2.1, fun j v hj => ?_⟩
  have := mm_ent_mem B t _ vs 0 j v hj
  rw [Nat.zero_add] at this
  exact hE.2.2 _ this
