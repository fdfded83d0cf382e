/-! THE RULE PARSER, class: what waits; settling. -/
/-- what waits, as the class's rows have it; the value after it begins at a -/
def cStk (M : sM) : stS → Nat → Nat → Nat → Prop
  | [], a, a0, _ => a = a0
  | x :: s, a, a0, H => M 9 s.length = (x.1 : Int) ∧ M 11 s.length = (bnd x.1 : Int) ∧
    (((x.1 = 11 ∨ x.1 = 14) ∧ M 10 s.length = -1 ∧ cStk M s a a0 H)
    ∨ ((x.1 = 12 ∨ x.1 = 13) ∧ ∃ b j h H', cStk M s b a0 H' ∧ H' + h ≤ H ∧ a = j + 1 ∧ M 10 s.length = (j : Int) ∧ M 5 j = (x.1 : Int) ∧ cSeg (M 5) (M 6) b j h x.2)
    ∨ ((2 ≤ x.1 ∧ x.1 ≤ 10) ∧ M 10 s.length = -1 ∧ ∃ b h H', cStk M s b a0 H' ∧ H' + h ≤ H ∧ cSeg (M 5) (M 6) b a h x.2))
/-- the clauses done, the last one first -/
def cCls (M : sM) : List (Int × den) → Nat → Prop
  | [], a => a = 0
  | x :: l, a => M 7 l.length = x.1 ∧ M 8 l.length = (a : Int) ∧ ∃ b h, h ≤ 64 ∧ cCls M l b ∧ cSeg (M 5) (M 6) b a h x.2
def argR (M : sM) (len : Nat) : Prop := ∀ i : Nat, i < len → 0 ≤ M 6 i ∧ M 6 i ≤ 99999 ∧ (M 5 i = 1 → M 6 i ≤ 9)
/-- ahead of a value; behind one -/
def cCr1 (M : sM) (s : stS) (cl : List (Int × den)) (m p : Nat) : Prop := ∃ len a0 H : Nat, M 2 8 = (len : Int) ∧ M 2 10 = (s.length : Int) ∧ M 2 12 = (dpt s : Int) ∧ len + s.length ≤ p ∧ cCls M cl a0 ∧ cStk M s len a0 H ∧ H ≤ m ∧ argR M len
def cCr2 (M : sM) (s : stS) (D : den) (cl : List (Int × den)) (m p : Nat) : Prop := ∃ len a a0 h H : Nat, M 2 8 = (len : Int) ∧ M 2 10 = (s.length : Int) ∧ M 2 12 = (dpt s : Int) ∧ len + s.length ≤ p ∧ cCls M cl a0 ∧ cStk M s a a0 H ∧ cSeg (M 5) (M 6) a len h D ∧ H + h ≤ m ∧ argR M len
theorem cStk.ge {M : sM} : ∀ {s : stS} {a a0 H : Nat}, cStk M s a a0 H → a0 ≤ a
  | [], a, a0, H, h => by have : a = a0 := h; omega
  | x :: s, a, a0, H, h => by
    rcases h.2.2 with ⟨-, -, z⟩ | ⟨-, b, j, g, H', z, -, e, -, -, y⟩ | ⟨-, -, b, g, H', z, -, y⟩
    · exact cStk.ge z
    · have := cStk.ge z
      have := y.1
      omega
    · have := cStk.ge z
      have := y.1
      omega
theorem cStk.mono {M : sM} : ∀ {s : stS} {a a0 H K : Nat}, cStk M s a a0 H → H ≤ K → cStk M s a a0 K
  | [], a, a0, H, K, h, _ => h
  | x :: s, a, a0, H, K, h, hk => by
    refine ⟨h.1, h.2.1, ?_⟩
    rcases h.2.2 with ⟨y, e, z⟩ | ⟨y, b, j, g, H', z, e, r⟩ | ⟨y, e2, b, g, H', z, e, r⟩
    · exact Or.inl ⟨y, e, z.mono hk⟩
    · exact Or.inr (Or.inl ⟨y, b, j, g, H', z, by omega, r⟩)
    · exact Or.inr (Or.inr ⟨y, e2, b, g, H', z, by omega, r⟩)
theorem cStk.congr {M M' : sM} : ∀ {s : stS} {a a0 H : Nat}, cStk M s a a0 H → (∀ i, i < s.length → M' 9 i = M 9 i ∧ M' 10 i = M 10 i ∧ M' 11 i = M 11 i) → (∀ i, i < a → M' 5 i = M 5 i ∧ M' 6 i = M 6 i) → cStk M' s a a0 H
  | [], a, a0, H, h, _, _ => h
  | x :: s, a, a0, H, h, e, g => by
    have e0 := e s.length (Nat.lt_succ_self _)
    have e' : ∀ i, i < s.length → M' 9 i = M 9 i ∧ M' 10 i = M 10 i ∧ M' 11 i = M 11 i := fun i hi => e i (Nat.lt_succ_of_lt hi)
    refine ⟨e0.1.trans h.1, e0.2.2.trans h.2.1, ?_⟩
    rw [e0.2.1]
    rcases h.2.2 with ⟨y, e1, z⟩ | ⟨y, b, j, f, H', z, e1, e2, e3, e4, r⟩ | ⟨y, e2, b, f, H', z, e1, r⟩
    · exact Or.inl ⟨y, e1, z.congr e' g⟩
    · have := r.1
      exact Or.inr (Or.inl ⟨y, b, j, f, H', z.congr e' (fun i hi => g i (by omega)), e1, e2, e3, (g j (by omega)).1.trans e4, r.congr (fun i _ hi => g i (by omega))⟩)
    · have := r.1
      exact Or.inr (Or.inr ⟨y, e2, b, f, H', z.congr e' (fun i hi => g i (by omega)), e1, r.congr (fun i _ hi => g i (by omega))⟩)
theorem cCls.congr {M M' : sM} : ∀ {l : List (Int × den)} {a : Nat}, cCls M l a → (∀ i, i < l.length → M' 7 i = M 7 i ∧ M' 8 i = M 8 i) → (∀ i, i < a → M' 5 i = M 5 i ∧ M' 6 i = M 6 i) → cCls M' l a
  | [], a, h, _, _ => h
  | x :: l, a, h, e, g => by
    have e0 := e l.length (Nat.lt_succ_self _)
    obtain ⟨h1, h2, b, f, hf, hl, hs⟩ := h
    have := hs.1
    exact ⟨e0.1.trans h1, e0.2.trans h2, b, f, hf, hl.congr (fun i hi => e i (Nat.lt_succ_of_lt hi)) (fun i hi => g i (by omega)), hs.congr (fun i _ hi => g i hi)⟩
theorem cPop {M N : sM} {x : Nat × den} {s : stS} {D : den} {cl : List (Int × den)} {m p len : Nat} (h : cCr2 M (x :: s) D cl m p) (hx : x.1 ≠ 14) (hp : p ≤ 400) (hlen : M 2 8 = (len : Int)) (e7 : N 7 = M 7) (e8 : N 8 = M 8) (e9 : N 9 = M 9) (e10 : N 10 = M 10) (e11 : N 11 = M 11) (n10 : N 2 10 = (s.length : Int)) (n12 : N 2 12 = (dpt s : Int))
    (hj : x.1 = 12 ∨ x.1 = 13 → N 2 8 = (len : Int) ∧ N 5 = M 5 ∧ ∀ i : Nat, N 6 i = if (i : Int) = M 10 s.length then (len : Int) else M 6 i)
    (hn : ¬ (x.1 = 12 ∨ x.1 = 13) → N 2 8 = ((len + 1 : Nat) : Int) ∧ (∀ i : Nat, N 5 i = if i = len then (x.1 : Int) else M 5 i) ∧ ∀ i : Nat, N 6 i = if i = len then 0 else M 6 i) : cCr2 N s (apD x.1 x.2 D) cl m p := by
  obtain ⟨len', a, a0, f, H, h1, h2, h3, h4, h5, h6, h7, h8, h9⟩ := h
  obtain rfl : len' = len := by omega
  have hl : (x :: s).length = s.length + 1 := rfl
  rw [hl] at h2 h4
  have hcl : a0 ≤ a := h6.ge
  have hal := h7.1
  have e79 : ∀ i, i < cl.length → N 7 i = M 7 i ∧ N 8 i = M 8 i := fun i _ => by rw [e7, e8]; exact ⟨rfl, rfl⟩
  have e911 : ∀ i, i < s.length → N 9 i = M 9 i ∧ N 10 i = M 10 i ∧ N 11 i = M 11 i := fun i _ => by rw [e9, e10, e11]; exact ⟨rfl, rfl, rfl⟩
  rcases h6.2.2 with ⟨y, e1, z⟩ | ⟨y, b, j, f', H', z, e1, e2, e3, e4, r⟩ | ⟨y, e2, b, f', H', z, e1, r⟩
  · have x11 : x.1 = 11 := by omega
    obtain ⟨n8, n5, n6⟩ := hn (by omega)
    have eo : ∀ i, i < len' → N 5 i = M 5 i ∧ N 6 i = M 6 i := fun i hi => by rw [n5, n6, if_neg (by omega), if_neg (by omega)]; exact ⟨rfl, rfl⟩
    refine ⟨len' + 1, a, a0, f, H, n8, n10, n12, by omega, h5.congr e79 (fun i hi => eo i (by omega)), z.congr e911 (fun i hi => eo i (by omega)), ?_, h8, fun i hi => ?_⟩
    · have hs := (h7.congr (s' := N 5) (g' := N 6) (fun i _ hi => eo i hi)).not (by rw [n5, if_pos rfl, x11]; rfl)
      have : apD x.1 x.2 D = fun w => jWrap (1 - D w) := by funext w; unfold apD; rw [if_pos x11]
      rw [this]
      exact hs
    · by_cases c : i = len'
      · rw [n5, n6, if_pos c, if_pos c]
        exact ⟨by decide, by decide, fun z => by omega⟩
      · rw [n5, n6, if_neg c, if_neg c]
        exact h9 i (by omega)
  · obtain ⟨n8, n5, n6⟩ := hj y
    have rj := r.1
    have eo : ∀ i, i ≠ j → N 5 i = M 5 i ∧ N 6 i = M 6 i := fun i hi => by rw [n5, n6, if_neg (by rw [e3]; omega)]; exact ⟨rfl, rfl⟩
    have ej : N 6 j = (len' : Int) := by rw [n6, if_pos e3.symm]
    have r' := r.congr (s' := N 5) (g' := N 6) (fun i _ hi => eo i (by omega))
    rw [e2] at h7
    have h7' := h7.congr (s' := N 5) (g' := N 6) (fun i hi _ => eo i (by omega))
    refine ⟨len', b, a0, f' + f, H', n8, n10, n12, by omega, h5.congr e79 (fun i hi => eo i (by have := z.ge; omega)), z.congr e911 (fun i hi => eo i (by omega)), ?_, by omega, fun i hi => ?_⟩
    · rcases y with y | y
      · have : apD x.1 x.2 D = fun w => if x.2 w = 0 then x.2 w else D w := by funext w; unfold apD; rw [if_neg (by omega), if_pos y]
        rw [this]
        exact r'.and h7' (by rw [n5, e4, y]; rfl) (by rw [ej]; rfl)
      · have : apD x.1 x.2 D = fun w => if x.2 w ≠ 0 then x.2 w else D w := by funext w; unfold apD; rw [if_neg (by omega), if_neg (by omega), if_pos y]
        rw [this]
        exact r'.or h7' (by rw [n5, e4, y]; rfl) (by rw [ej]; rfl)
    · by_cases c : i = j
      · rw [c, ej, n5, e4]
        exact ⟨by omega, by omega, fun z => by omega⟩
      · rw [(eo i c).1, (eo i c).2]
        exact h9 i hi
  · obtain ⟨n8, n5, n6⟩ := hn (by omega)
    have rj := r.1
    have eo : ∀ i, i < len' → N 5 i = M 5 i ∧ N 6 i = M 6 i := fun i hi => by rw [n5, n6, if_neg (by omega), if_neg (by omega)]; exact ⟨rfl, rfl⟩
    refine ⟨len' + 1, b, a0, f' + f, H', n8, n10, n12, by omega, h5.congr e79 (fun i hi => eo i (by omega)), z.congr e911 (fun i hi => eo i (by omega)), ?_, by omega, fun i hi => ?_⟩
    · have e5 : N 5 len' = (x.1 : Int) := by rw [n5, if_pos rfl]
      have hs := (r.congr (s' := N 5) (g' := N 6) (fun i _ hi => eo i (by omega))).join (h7.congr (s' := N 5) (g' := N 6) (fun i _ hi => eo i hi)) (by rw [e5]; omega)
      rw [e5] at hs
      have : apD x.1 x.2 D = fun w => jn (x.1 : Int) (x.2 w) (D w) := by funext w; unfold apD; rw [if_neg (by omega), if_neg (by omega), if_neg (by omega)]
      rw [this]
      exact hs
    · by_cases c : i = len'
      · rw [n5, n6, if_pos c, if_pos c]
        exact ⟨by decide, by decide, fun z => by omega⟩
      · rw [n5, n6, if_neg c, if_neg c]
        exact h9 i (by omega)
