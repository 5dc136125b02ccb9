/-! where the class cuts: the least, the fewest, the longest first -/
def dpC (c : Nat → Nat → Nat) (T : Nat → Nat × Nat × Nat) (f j : Nat) : Nat × Nat × Nat := (c f (f + j) + (T (f + j)).1, 1 + (T (f + j)).2.1, j)
def dpI (c : Nat → Nat → Nat) (T : Nat → Nat × Nat × Nat) (f : Nat) : Nat → Nat × Nat × Nat
  | 0 => (0, 0, 0)
  | j + 1 => if j = 0 ∨ (dpC c T f (j + 1)).1 < (dpI c T f j).1 ∨ ((dpC c T f (j + 1)).1 = (dpI c T f j).1 ∧ (dpC c T f (j + 1)).2.1 ≤ (dpI c T f j).2.1) then dpC c T f (j + 1) else dpI c T f j
def dpT (c : Nat → Nat → Nat) (G : Nat) : Nat → Nat → Nat × Nat × Nat
  | 0 => fun _ => (0, 0, 0)
  | k + 1 => fun f => if f = G - (k + 1) then dpI c (dpT c G k) f (k + 1) else dpT c G k f
def dpV (c : Nat → Nat → Nat) (G : Nat) : Nat → Nat × Nat × Nat := dpT c G G
theorem dpI_c {c : Nat → Nat → Nat} {T T' : Nat → Nat × Nat × Nat} {f : Nat} : ∀ j, (∀ t, f < t → t ≤ f + j → T t = T' t) → dpI c T f j = dpI c T' f j := by
  intro j
  induction j with
  | zero => intro _; rfl
  | succ j ih =>
    intro h
    have e1 : dpC c T f (j + 1) = dpC c T' f (j + 1) := by
      unfold dpC
      rw [h (f + (j + 1)) (by omega) (by omega)]
    have e2 := ih (fun t h1 h2 => h t h1 (by omega))
    show (if j = 0 ∨ (dpC c T f (j + 1)).1 < (dpI c T f j).1 ∨ ((dpC c T f (j + 1)).1 = (dpI c T f j).1 ∧ (dpC c T f (j + 1)).2.1 ≤ (dpI c T f j).2.1) then dpC c T f (j + 1) else dpI c T f j) = _
    rw [e1, e2]
    rfl
theorem dpT_st {c : Nat → Nat → Nat} {G k f : Nat} (hf : G - k ≤ f) : ∀ d, k + d ≤ G → dpT c G (k + d) f = dpT c G k f := by
  intro d
  induction d with
  | zero => intro _; rfl
  | succ d ih =>
    intro h
    show (if f = G - (k + d + 1) then dpI c (dpT c G (k + d)) f (k + d + 1) else dpT c G (k + d) f) = _
    rw [if_neg (by omega)]
    exact ih (by omega)
theorem dpV_f {c : Nat → Nat → Nat} {G f : Nat} (hf : f < G) : dpV c G f = dpI c (dpV c G) f (G - f) := by
  have e1 : dpV c G f = dpT c G (G - f) f := by
    have := dpT_st (c := c) (G := G) (k := G - f) (f := f) (by omega) f (by omega)
    rw [show G - f + f = G by omega] at this
    exact this
  have e2 : dpT c G (G - f) f = dpI c (dpT c G (G - f - 1)) f (G - f) := by
    have : dpT c G (G - f - 1 + 1) f = if f = G - (G - f - 1 + 1) then dpI c (dpT c G (G - f - 1)) f (G - f - 1 + 1) else dpT c G (G - f - 1) f := rfl
    rw [show G - f - 1 + 1 = G - f by omega] at this
    rw [this, if_pos (by omega)]
  rw [e1, e2]
  refine dpI_c (G - f) (fun t h1 h2 => ?_)
  have := dpT_st (c := c) (G := G) (k := G - f - 1) (f := t) (by omega) (f + 1) (by omega)
  rw [show G - f - 1 + (f + 1) = G by omega] at this
  exact this.symm
theorem dpV_G {c : Nat → Nat → Nat} {G : Nat} : dpV c G G = (0, 0, 0) := by
  have := dpT_st (c := c) (G := G) (k := 0) (f := G) (by omega) G (by omega)
  rw [Nat.zero_add] at this
  exact this
theorem dpI_p {c : Nat → Nat → Nat} {T : Nat → Nat × Nat × Nat} {f : Nat} : ∀ j, 1 ≤ j → (1 ≤ (dpI c T f j).2.2 ∧ (dpI c T f j).2.2 ≤ j ∧ dpI c T f j = dpC c T f (dpI c T f j).2.2) ∧ ∀ i, 1 ≤ i → i ≤ j → (dpI c T f j).1 < (dpC c T f i).1 ∨ ((dpI c T f j).1 = (dpC c T f i).1 ∧ ((dpI c T f j).2.1 < (dpC c T f i).2.1 ∨ ((dpI c T f j).2.1 = (dpC c T f i).2.1 ∧ i ≤ (dpI c T f j).2.2))) := by
  intro j
  induction j with
  | zero => intro h; omega
  | succ j ih =>
    intro _
    have e : dpI c T f (j + 1) = if j = 0 ∨ (dpC c T f (j + 1)).1 < (dpI c T f j).1 ∨ ((dpC c T f (j + 1)).1 = (dpI c T f j).1 ∧ (dpC c T f (j + 1)).2.1 ≤ (dpI c T f j).2.1) then dpC c T f (j + 1) else dpI c T f j := rfl
    have e3 : (dpC c T f (j + 1)).2.2 = j + 1 := rfl
    by_cases q : j = 0 ∨ (dpC c T f (j + 1)).1 < (dpI c T f j).1 ∨ ((dpC c T f (j + 1)).1 = (dpI c T f j).1 ∧ (dpC c T f (j + 1)).2.1 ≤ (dpI c T f j).2.1)
    · rw [if_pos q] at e
      rw [e, e3]
      refine ⟨⟨by omega, Nat.le_refl _, rfl⟩, fun i h1 h2 => ?_⟩
      by_cases z : i = j + 1
      · rw [z]; exact Or.inr ⟨rfl, Or.inr ⟨rfl, Nat.le_refl _⟩⟩
      · by_cases j0 : j = 0
        · omega
        · have := (ih (by omega)).2 i h1 (by omega)
          omega
    · rw [if_neg q] at e
      have j0 : ¬ j = 0 := fun z => q (Or.inl z)
      have p := ih (by omega)
      rw [e]
      refine ⟨⟨p.1.1, by have := p.1.2.1; omega, p.1.2.2⟩, fun i h1 h2 => ?_⟩
      by_cases z : i = j + 1
      · rw [z]; omega
      · exact p.2 i h1 (by omega)
/-- lists of runs -/
def rl (G : Nat) : Nat → Nat → Nat → List (Nat × Nat)
  | 0, _, _ => []
  | n + 1, f, v => if v = 0 then [(f, G)] else (f, G - 1 - v.log2) :: rl G n (G - 1 - v.log2) (v - 2 ^ v.log2)
def cS (c : Nat → Nat → Nat) : List (Nat × Nat) → Nat
  | [] => 0
  | r :: l => c r.1 r.2 + cS c l
def bW (c : Nat → Nat → Nat) (G : Nat) : Nat → Nat → Nat
  | 0, _ => 0
  | n + 1, f => if f + (dpV c G f).2.2 = G then 0 else 2 ^ (G - 1 - (f + (dpV c G f).2.2)) + bW c G n (f + (dpV c G f).2.2)
abbrev lex3 (a b c a' b' c' : Nat) : Prop := a < a' ∨ (a = a' ∧ (b < b' ∨ (b = b' ∧ c ≤ c')))
theorem log2_of {j b : Nat} (hb : b < 2 ^ j) : (2 ^ j + b).log2 = j := by
  have p := Nat.two_pow_pos j
  have ne : 2 ^ j + b ≠ 0 := by omega
  have e1 : j ≤ (2 ^ j + b).log2 := (Nat.le_log2 ne).mpr (by omega)
  have e2 : (2 ^ j + b).log2 < j + 1 := (Nat.log2_lt ne).mpr (by rw [Nat.pow_succ]; omega)
  omega
theorem dp_opt {c : Nat → Nat → Nat} {G : Nat} : ∀ (n f : Nat), f < G → G - f ≤ n → bW c G n f < 2 ^ (G - 1 - f) ∧ cS c (rl G n f (bW c G n f)) = (dpV c G f).1 ∧ (rl G n f (bW c G n f)).length = (dpV c G f).2.1 ∧ (∀ v, v < 2 ^ (G - 1 - f) → lex3 (dpV c G f).1 (dpV c G f).2.1 (bW c G n f) (cS c (rl G n f v)) (rl G n f v).length v) ∧ ∀ r, r ∈ rl G n f (bW c G n f) → r.1 < G ∧ r.2 = r.1 + (dpV c G r.1).2.2 := by
  intro n
  induction n with
  | zero => intro f hf hn; omega
  | succ n ih =>
    intro f hf hn
    have pp := dpI_p (c := c) (T := dpV c G) (f := f) (G - f) (by omega)
    rw [← dpV_f hf] at pp
    obtain ⟨⟨p1, p2, p3⟩, p4⟩ := pp
    generalize hN : (dpV c G f).2.2 = N at *
    have v1 : (dpV c G f).1 = c f (f + N) + (dpV c G (f + N)).1 := by
      conv => lhs; rw [p3]
      rfl
    have v2 : (dpV c G f).2.1 = 1 + (dpV c G (f + N)).2.1 := by
      conv => lhs; rw [p3]
      rfl
    have eb : bW c G (n + 1) f = if f + N = G then 0 else 2 ^ (G - 1 - (f + N)) + bW c G n (f + N) := by
      rw [← hN]
      rfl
    have er : ∀ v, rl G (n + 1) f v = if v = 0 then [(f, G)] else (f, G - 1 - v.log2) :: rl G n (G - 1 - v.log2) (v - 2 ^ v.log2) := fun _ => rfl
    have tp := Nat.two_pow_pos (G - 1 - f)
    -- the way that was taken
    have first : bW c G (n + 1) f < 2 ^ (G - 1 - f) ∧ cS c (rl G (n + 1) f (bW c G (n + 1) f)) = (dpV c G f).1 ∧ (rl G (n + 1) f (bW c G (n + 1) f)).length = (dpV c G f).2.1 ∧ ∀ r, r ∈ rl G (n + 1) f (bW c G (n + 1) f) → r.1 < G ∧ r.2 = r.1 + (dpV c G r.1).2.2 := by
      by_cases q : f + N = G
      · rw [if_pos q] at eb
        rw [eb, er, if_pos rfl]
        rw [q, dpV_G] at v1 v2
        refine ⟨tp, ?_, ?_, fun r hr => ?_⟩
        · rw [v1]; rfl
        · rw [v2]; rfl
        · rw [List.mem_singleton] at hr
          subst hr
          exact ⟨hf, by rw [hN]; exact q.symm⟩
      · rw [if_neg q] at eb
        obtain ⟨i1, i2, i3, _, i5⟩ := ih (f + N) (by omega) (by omega)
        have lg := log2_of i1
        have ne : ¬ 2 ^ (G - 1 - (f + N)) + bW c G n (f + N) = 0 := by
          have := Nat.two_pow_pos (G - 1 - (f + N))
          omega
        rw [eb, er, if_neg ne, lg, show G - 1 - (G - 1 - (f + N)) = f + N by omega, Nat.add_sub_cancel_left]
        refine ⟨?_, ?_, ?_, fun r hr => ?_⟩
        · have : 2 ^ (G - 1 - (f + N) + 1) ≤ 2 ^ (G - 1 - f) := Nat.pow_le_pow_right (by omega) (by omega)
          rw [Nat.pow_succ] at this
          omega
        · show c f (f + N) + cS c _ = _
          rw [i2, v1]
        · rw [List.length_cons, i3, v2]
          omega
        · rw [List.mem_cons] at hr
          rcases hr with z | z
          · subst z
            exact ⟨hf, by rw [hN]⟩
          · exact i5 r z
    refine ⟨first.1, first.2.1, first.2.2.1, fun v hv => ?_, first.2.2.2⟩
    rw [er]
    by_cases v0 : v = 0
    · rw [if_pos v0]
      have k := p4 (G - f) (by omega) (Nat.le_refl _)
      have c1 : (dpC c (dpV c G) f (G - f)).1 = c f G := by
        show c f (f + (G - f)) + (dpV c G (f + (G - f))).1 = _
        rw [show f + (G - f) = G by omega, dpV_G]
        rfl
      have c2 : (dpC c (dpV c G) f (G - f)).2.1 = 1 := by
        show 1 + (dpV c G (f + (G - f))).2.1 = _
        rw [show f + (G - f) = G by omega, dpV_G]
        rfl
      rw [c1, c2] at k
      have s1 : cS c [(f, G)] = c f G := rfl
      have s2 : [(f, G)].length = 1 := rfl
      rw [s1, s2]
      rcases k with z | ⟨z1, z | ⟨z2, z3⟩⟩
      · exact Or.inl z
      · exact Or.inr ⟨z1, Or.inl z⟩
      · refine Or.inr ⟨z1, Or.inr ⟨z2, ?_⟩⟩
        rw [eb, if_pos (by omega)]
        exact Nat.zero_le _
    · rw [if_neg v0]
      have l1 := Nat.log2_self_le v0
      have l2 := Nat.lt_log2_self (n := v)
      have lj : v.log2 < G - 1 - f := (Nat.pow_lt_pow_iff_right (a := 2) (by omega)).mp (by omega)
      generalize hj : v.log2 = j at *
      rw [Nat.pow_succ] at l2
      obtain ⟨i1, _, _, i4, _⟩ := ih (G - 1 - j) (by omega) (by omega)
      have kk := i4 (v - 2 ^ j) (by rw [show G - 1 - (G - 1 - j) = j by omega]; omega)
      have k := p4 (G - 1 - j - f) (by omega) (by omega)
      have c1 : (dpC c (dpV c G) f (G - 1 - j - f)).1 = c f (G - 1 - j) + (dpV c G (G - 1 - j)).1 := by
        show c f (f + (G - 1 - j - f)) + (dpV c G (f + (G - 1 - j - f))).1 = _
        rw [show f + (G - 1 - j - f) = G - 1 - j by omega]
      have c2 : (dpC c (dpV c G) f (G - 1 - j - f)).2.1 = 1 + (dpV c G (G - 1 - j)).2.1 := by
        show 1 + (dpV c G (f + (G - 1 - j - f))).2.1 = _
        rw [show f + (G - 1 - j - f) = G - 1 - j by omega]
      rw [c1, c2] at k
      have s1 : cS c ((f, G - 1 - j) :: rl G n (G - 1 - j) (v - 2 ^ j)) = c f (G - 1 - j) + cS c (rl G n (G - 1 - j) (v - 2 ^ j)) := rfl
      have s2 : ((f, G - 1 - j) :: rl G n (G - 1 - j) (v - 2 ^ j)).length = (rl G n (G - 1 - j) (v - 2 ^ j)).length + 1 := List.length_cons
      rw [s1, s2]
      have wl : (dpV c G f).1 = c f (G - 1 - j) + (dpV c G (G - 1 - j)).1 → (dpV c G f).2.1 = 1 + (dpV c G (G - 1 - j)).2.1 → G - 1 - j - f ≤ N → bW c G n (G - 1 - j) ≤ v - 2 ^ j → bW c G (n + 1) f ≤ v := fun _ _ h3 h4 => by
        by_cases t : N = G - 1 - j - f
        · rw [eb, if_neg (by omega), show f + N = G - 1 - j by omega, show G - 1 - (G - 1 - j) = j by omega]
          omega
        · by_cases q : f + N = G
          · rw [eb, if_pos q]; exact Nat.zero_le _
          · rw [eb, if_neg q]
            obtain ⟨i1', _⟩ := ih (f + N) (by omega) (by omega)
            have : 2 ^ (G - 1 - (f + N) + 1) ≤ 2 ^ j := Nat.pow_le_pow_right (by omega) (by omega)
            rw [Nat.pow_succ] at this
            omega
      rcases k with z | ⟨z1, z⟩
      · rcases kk with y | ⟨y1, _⟩
        · exact Or.inl (by omega)
        · exact Or.inl (by omega)
      · rcases kk with y | ⟨y1, y⟩
        · exact Or.inl (by omega)
        · refine Or.inr ⟨by omega, ?_⟩
          rcases z with z | ⟨z2, z3⟩
          · rcases y with y | ⟨y2, _⟩
            · exact Or.inl (by omega)
            · exact Or.inl (by omega)
          · rcases y with y | ⟨y2, y3⟩
            · exact Or.inl (by omega)
            · exact Or.inr ⟨by omega, wl z1 z2 z3 y3⟩
/-! the runs of a way, as the reference lays them -/
theorem rl_all : ∀ G : Fin 9, ∀ way : Fin 128, 1 ≤ G.val → way.val < 2 ^ (G.val - 1) → (List.range (wCt G.val way.val G.val)).map (wTo G.val way.val G.val) = rl G.val 9 0 way.val ∧ pcn way.val + 1 = (rl G.val 9 0 way.val).length := by decide +kernel
theorem rl_w {G way : Nat} (hG : 1 ≤ G) (hG8 : G ≤ 8) (hw : way < 2 ^ (G - 1)) : (List.range (wCt G way G)).map (wTo G way G) = rl G 9 0 way ∧ pcn way + 1 = (rl G 9 0 way).length := by
  have : 2 ^ (G - 1) ≤ 2 ^ 7 := Nat.pow_le_pow_right (by omega) (by omega)
  exact rl_all ⟨G, by omega⟩ ⟨way, by omega⟩ hG hw
theorem cS_app {c : Nat → Nat → Nat} : ∀ (l l' : List (Nat × Nat)), cS c (l ++ l') = cS c l + cS c l' := by
  intro l
  induction l with
  | nil => intro l'; show cS c l' = 0 + cS c l'; omega
  | cons r l ih =>
    intro l'
    show c r.1 r.2 + cS c (l ++ l') = c r.1 r.2 + cS c l + cS c l'
    rw [ih]
    omega
theorem suT_cS {c : Nat → Nat → Nat} {T : Nat → Nat × Nat} : ∀ n, suT c T n = cS c ((List.range n).map T) := by
  intro n
  induction n with
  | zero => rfl
  | succ n ih =>
    rw [List.range_succ, List.map_append, cS_app, ← ih]
    rfl
theorem wBt_cS {c : Nat → Nat → Nat} {G way : Nat} (hG : 1 ≤ G) (hG8 : G ≤ 8) (hw : way < 2 ^ (G - 1)) : wBt c G way G = cS c (rl G 9 0 way) := by
  rw [← (wTo_chn (c := c) (G := G) (way := way) G).2.1, suT_cS, (rl_w hG hG8 hw).1]
theorem bwy_min {c : Nat → Nat → Nat} {G : Nat} : ∀ k w, w ≤ k → lex3 (wBt c G (bwy c G k) G) (pcn (bwy c G k)) (bwy c G k) (wBt c G w G) (pcn w) w := by
  intro k
  induction k with
  | zero => intro w hw; rw [show w = 0 by omega]; exact Or.inr ⟨rfl, Or.inr ⟨rfl, Nat.le_refl _⟩⟩
  | succ k ih =>
    intro w hw
    have e : bwy c G (k + 1) = if wBt c G (k + 1) G < wBt c G (bwy c G k) G ∨ (wBt c G (k + 1) G = wBt c G (bwy c G k) G ∧ pcn (k + 1) < pcn (bwy c G k)) then k + 1 else bwy c G k := rfl
    have l := bwy_le c G k
    by_cases q : wBt c G (k + 1) G < wBt c G (bwy c G k) G ∨ (wBt c G (k + 1) G = wBt c G (bwy c G k) G ∧ pcn (k + 1) < pcn (bwy c G k))
    · rw [if_pos q] at e
      rw [e]
      by_cases z : w = k + 1
      · rw [z]; exact Or.inr ⟨rfl, Or.inr ⟨rfl, Nat.le_refl _⟩⟩
      · have := ih w (by omega)
        show _ < _ ∨ _
        omega
    · rw [if_neg q] at e
      rw [e]
      by_cases z : w = k + 1
      · rw [z]
        show _ < _ ∨ _
        omega
      · exact ih w (by omega)
theorem bst_bW {c : Nat → Nat → Nat} {G : Nat} (hG : 1 ≤ G) (hG8 : G ≤ 8) : bst c G = bW c G 9 0 := by
  have o := dp_opt (c := c) (G := G) 9 0 (by omega) (by omega)
  rw [Nat.sub_zero] at o
  have tp := Nat.two_pow_pos (G - 1)
  have l := bwy_le c G (2 ^ (G - 1) - 1)
  have e : bst c G = bwy c G (2 ^ (G - 1) - 1) := rfl
  have k1 := bwy_min (c := c) (G := G) (2 ^ (G - 1) - 1) (bW c G 9 0) (by have := o.1; omega)
  rw [← e] at k1 l
  have k2 := o.2.2.2.1 (bst c G) (by omega)
  rw [wBt_cS hG hG8 (show bst c G < 2 ^ (G - 1) by omega), wBt_cS hG hG8 o.1, o.2.1] at k1
  have p1 := (rl_w hG hG8 (show bst c G < 2 ^ (G - 1) by omega)).2
  have p2 := (rl_w hG hG8 o.1).2
  rw [o.2.2.1] at p2
  have k1 : _ < _ ∨ _ := k1
  have k2 : _ < _ ∨ _ := k2
  omega
/-- the runs, and what they come to -/
theorem dp_runs {c : Nat → Nat → Nat} {G : Nat} (hG : 1 ≤ G) (hG8 : G ≤ 8) : wBt c G (bst c G) G = (dpV c G 0).1 ∧ ∀ k, k < wCt G (bst c G) G → (wTo G (bst c G) G k).1 < G ∧ (wTo G (bst c G) G k).2 = (wTo G (bst c G) G k).1 + (dpV c G (wTo G (bst c G) G k).1).2.2 := by
  have o := dp_opt (c := c) (G := G) 9 0 (by omega) (by omega)
  rw [Nat.sub_zero] at o
  have eb := bst_bW (c := c) hG hG8
  have hb : bst c G < 2 ^ (G - 1) := by rw [eb]; exact o.1
  refine ⟨by rw [wBt_cS hG hG8 hb, eb]; exact o.2.1, fun k hk => ?_⟩
  refine o.2.2.2.2 _ ?_
  rw [← eb, ← (rl_w hG hG8 hb).1]
  exact List.mem_map.mpr ⟨k, List.mem_range.mpr hk, rfl⟩
