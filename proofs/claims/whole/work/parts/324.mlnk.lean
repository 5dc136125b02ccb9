/-! what is written is what was counted -/
theorem gBs_sm {E : Nat → Int32} {g p : Nat} : ∀ k, gBs E g p k = smB E p (8 * g) k := by
  intro k
  induction k with
  | zero => rfl
  | succ k ih =>
    show gBs E g p k + (fo (E (8 * g + k)) / 2 ^ p + 1 + p) = smB E p (8 * g) k + (fo (E (8 * g + k)) / 2 ^ p + 1 + p)
    rw [ih]
theorem gWs_wm {E : Nat → Int32} {g : Nat} : ∀ k, gWs E g k = wMx E (8 * g) k := by
  intro k
  induction k with
  | zero => rfl
  | succ k ih =>
    show (if wo (fo (E (8 * g + k))) ≤ gWs E g k then gWs E g k else wo (fo (E (8 * g + k)))) = (if wo (fo (E (8 * g + k))) ≤ wMx E (8 * g) k then wMx E (8 * g) k else wo (fo (E (8 * g + k))))
    rw [ih]
theorem smB_add {E : Nat → Int32} {p i0 k : Nat} : ∀ l, smB E p i0 (k + l) = smB E p i0 k + smB E p (i0 + k) l := by
  intro l
  induction l with
  | zero => rfl
  | succ l ih =>
    show smB E p i0 (k + l) + (fo (E (i0 + (k + l))) / 2 ^ p + 1 + p) = smB E p i0 k + (smB E p (i0 + k) l + (fo (E (i0 + k + l)) / 2 ^ p + 1 + p))
    rw [ih, ← Nat.add_assoc i0 k l]
    omega
theorem wMx_pos (E : Nat → Int32) (i0 : Nat) : ∀ k, 1 ≤ wMx E i0 k := by
  intro k
  induction k with
  | zero => exact Nat.le_refl 1
  | succ k ih =>
    have hp := wo_pos (fo (E (i0 + k)))
    have e : wMx E i0 (k + 1) = if wo (fo (E (i0 + k))) ≤ wMx E i0 k then wMx E i0 k else wo (fo (E (i0 + k))) := rfl
    rw [e]
    split <;> omega
theorem wMx_add {E : Nat → Int32} {i0 k : Nat} : ∀ l, wMx E i0 (k + l) = if wMx E (i0 + k) l ≤ wMx E i0 k then wMx E i0 k else wMx E (i0 + k) l := by
  intro l
  induction l with
  | zero =>
    have := wMx_pos E i0 k
    show wMx E i0 k = if 1 ≤ wMx E i0 k then wMx E i0 k else 1
    rw [if_pos this]
  | succ l ih =>
    have e1 : wMx E i0 (k + (l + 1)) = if wo (fo (E (i0 + (k + l)))) ≤ wMx E i0 (k + l) then wMx E i0 (k + l) else wo (fo (E (i0 + (k + l)))) := rfl
    have e2 : wMx E (i0 + k) (l + 1) = if wo (fo (E (i0 + k + l))) ≤ wMx E (i0 + k) l then wMx E (i0 + k) l else wo (fo (E (i0 + k + l))) := rfl
    rw [e1, e2, ih, ← Nat.add_assoc i0 k l]
    generalize wo (fo (E (i0 + k + l))) = c
    generalize wMx E i0 k = x
    generalize wMx E (i0 + k) l = y
    by_cases q1 : y ≤ x
    · rw [if_pos q1]
      by_cases q2 : c ≤ y
      · rw [if_pos q2, if_pos (by omega), if_pos q1]
      · rw [if_neg q2]
    · rw [if_neg q1]
      by_cases q2 : c ≤ y
      · rw [if_pos q2, if_neg q1]
      · rw [if_neg q2, if_neg (by omega)]
theorem sCs_8 {m a : Nat} : ∀ j, 8 * (a + j) ≤ m → sCs m a j = 8 * j := by
  intro j
  induction j with
  | zero => intro _; rfl
  | succ j ih =>
    intro h
    have i1 := ih (by omega)
    have e : ig m (a + j) = 8 := by unfold ig; rw [if_pos (by omega)]
    show sCs m a j + ig m (a + j) = 8 * (j + 1)
    omega
theorem sCs_eq {m a b : Nat} (hab : a < b) (hb : 8 * b ≤ m + 7) : sCs m a (b - a) = rcn m a b := by
  obtain ⟨j, rfl⟩ : ∃ j, b = a + j + 1 := ⟨b - a - 1, by omega⟩
  rw [show a + j + 1 - a = j + 1 by omega]
  have i1 := sCs_8 (m := m) (a := a) j (by omega)
  show sCs m a j + ig m (a + j) = _
  rw [i1]
  unfold rcn ig
  by_cases q : 8 ≤ m - 8 * (a + j)
  · rw [if_pos q]; split <;> omega
  · rw [if_neg q]; split <;> omega
theorem sBs_sm {E : Nat → Int32} {m p a : Nat} : ∀ j, 8 * (a + j) ≤ m + 7 → sBs E m p a j = 7 + smB E p (8 * a) (sCs m a j) := by
  intro j
  induction j with
  | zero => intro _; rfl
  | succ j ih =>
    intro h
    have i1 := ih (by omega)
    have c8 := sCs_8 (m := m) (a := a) j (by omega)
    have ad := smB_add (E := E) (p := p) (i0 := 8 * a) (k := 8 * j) (ig m (a + j))
    have e1 : sCs m a (j + 1) = 8 * j + ig m (a + j) := by show sCs m a j + _ = _; omega
    show sBs E m p a j + gBs E (a + j) p (ig m (a + j)) = _
    rw [e1, ad, i1, c8, gBs_sm, show 8 * a + 8 * j = 8 * (a + j) by omega]
    omega
theorem sWs_wm {E : Nat → Int32} {m a : Nat} : ∀ j, 8 * (a + j) ≤ m + 7 → sWs E m a j = wMx E (8 * a) (sCs m a j) := by
  intro j
  induction j with
  | zero => intro _; rfl
  | succ j ih =>
    intro h
    have i1 := ih (by omega)
    have c8 := sCs_8 (m := m) (a := a) j (by omega)
    have ad := wMx_add (E := E) (i0 := 8 * a) (k := 8 * j) (ig m (a + j))
    have e1 : sCs m a (j + 1) = 8 * j + ig m (a + j) := by show sCs m a j + _ = _; omega
    show (if gWs E (a + j) (ig m (a + j)) ≤ sWs E m a j then sWs E m a j else gWs E (a + j) (ig m (a + j))) = _
    rw [e1, ad, i1, c8, gWs_wm, show 8 * a + 8 * j = 8 * (a + j) by omega]
theorem rnB_eq {E : Nat → Int32} {m p a b : Nat} (hab : a < b) (hb : 8 * b ≤ m + 7) (h : bbN E m a b p < 2147483648) : rnB E m p a b = bbN E m a b p := by
  have c := sCs_eq hab hb
  have s1 := sBs_sm (E := E) (p := p) (m := m) (a := a) (b - a) (by omega)
  have s2 := sWs_wm (E := E) (m := m) (a := a) (b - a) (by omega)
  unfold bbN at h ⊢
  unfold rnB
  by_cases q : p = 15
  · rw [if_pos q] at h ⊢
    rw [if_pos q]
    by_cases z : sZs E m a (b - a) = 0
    · rw [if_pos z] at h; exact absurd h (by omega)
    · rw [if_neg z]
  · rw [if_neg q, if_neg q]
    by_cases q2 : p = 14
    · rw [if_pos q2, if_pos q2, s2, c]
    · rw [if_neg q2, if_neg q2, s1, c]
/-- the sum of what runs cost -/
def suT (c : Nat → Nat → Nat) (T : Nat → Nat × Nat) : Nat → Nat
  | 0 => 0
  | k + 1 => suT c T k + c (T k).1 (T k).2
theorem suT_c {c : Nat → Nat → Nat} {T T' : Nat → Nat × Nat} : ∀ n, (∀ k, k < n → T k = T' k) → suT c T n = suT c T' n := by
  intro n
  induction n with
  | zero => intro _; rfl
  | succ n ih =>
    intro h
    show suT c T n + _ = suT c T' n + _
    rw [ih (fun k hk => h k (by omega)), h n (by omega)]
/-- runs follow each other -/
def chn (T : Nat → Nat × Nat) (C e : Nat) : Prop := (∀ k, k < C → (T k).1 < (T k).2 ∧ (T k).2 ≤ e) ∧ (∀ k, k < C → (T k).1 = if k = 0 then 0 else (T (k - 1)).2)
theorem wTo_chn {c : Nat → Nat → Nat} {G way : Nat} : ∀ g, chn (wTo G way g) (wCt G way g) (wFr G way g) ∧ suT c (wTo G way g) (wCt G way g) = wBt c G way g ∧ wFr G way g = (if wCt G way g = 0 then 0 else (wTo G way g (wCt G way g - 1)).2) := by
  intro g
  induction g with
  | zero => exact ⟨⟨fun k hk => absurd hk (Nat.not_lt_zero k), fun k hk => absurd hk (Nat.not_lt_zero k)⟩, rfl, rfl⟩
  | succ g ih =>
    obtain ⟨⟨h1, h2⟩, h3, h4⟩ := ih
    by_cases q : ncut G way g
    · have a1 : wFr G way (g + 1) = wFr G way g := if_pos q
      have a2 : wCt G way (g + 1) = wCt G way g := if_pos q
      have a3 : wTo G way (g + 1) = wTo G way g := if_pos q
      have a4 : wBt c G way (g + 1) = wBt c G way g := if_pos q
      rw [a1, a2, a3, a4]
      exact ⟨⟨h1, h2⟩, h3, h4⟩
    · have a1 : wFr G way (g + 1) = g + 1 := if_neg q
      have a2 : wCt G way (g + 1) = wCt G way g + 1 := if_neg q
      have a3 : wTo G way (g + 1) = fun k => if k = wCt G way g then (wFr G way g, g + 1) else wTo G way g k := if_neg q
      have a4 : wBt c G way (g + 1) = wBt c G way g + c (wFr G way g) (g + 1) := if_neg q
      have hf := wFr_le G way g
      have tC : wTo G way (g + 1) (wCt G way g) = (wFr G way g, g + 1) := by rw [a3]; exact if_pos rfl
      have tk : ∀ k, k < wCt G way g → wTo G way (g + 1) k = wTo G way g k := fun k hk => by rw [a3]; exact if_neg (by omega)
      rw [a1, a2, a4]
      refine ⟨⟨fun k hk => ?_, fun k hk => ?_⟩, ?_, ?_⟩
      · by_cases z : k = wCt G way g
        · rw [z, tC]; exact ⟨by show wFr G way g < g + 1; omega, Nat.le_refl _⟩
        · have := h1 k (by omega)
          rw [tk k (by omega)]
          omega
      · by_cases z : k = wCt G way g
        · rw [z, tC]
          show wFr G way g = _
          by_cases z2 : wCt G way g = 0
          · rw [if_pos z2, h4, if_pos z2]
          · rw [if_neg z2, h4, if_neg z2, tk _ (by omega)]
        · rw [tk k (by omega), h2 k (by omega)]
          by_cases z2 : k = 0
          · rw [if_pos z2, if_pos z2]
          · rw [if_neg z2, if_neg z2, tk _ (by omega)]
      · show suT c (wTo G way (g + 1)) (wCt G way g) + c (wTo G way (g + 1) (wCt G way g)).1 (wTo G way (g + 1) (wCt G way g)).2 = _
        rw [tC, suT_c _ tk, h3]
      · rw [if_neg (by omega), show wCt G way g + 1 - 1 = wCt G way g by omega, tC]
