/-! THE RULE PARSER, as a machine of its own: what is expected, the place, the parts, what waits, the value so far, the clause's kind, the clauses. -/
abbrev den : Type := (Nat → Int) → Int
abbrev stS : Type := List (Nat × den)
abbrev aS : Type := Nat × Nat × Nat × stS × den × Int × List (Int × den)
def d01 (D : den) : Prop := ∀ w, D w = 0 ∨ D w = 1
/-- how much a step binds -/
def bnd (o : Nat) : Nat := if o = 13 then 1 else if o = 12 then 2 else if o = 11 then 3 else if 6 ≤ o ∧ o ≤ 10 then 4 else if o = 2 ∨ o = 3 then 5 else if o = 4 ∨ o = 5 then 6 else 0
def apD (o : Nat) (A D : den) : den := fun w => if o = 11 then jWrap (1 - D w) else if o = 12 then (if A w = 0 then A w else D w) else if o = 13 then (if A w ≠ 0 then A w else D w) else jn (o : Int) (A w) (D w)
def stl (b : Nat) : stS → den → stS × den
  | [], D => ([], D)
  | x :: s, D => if b ≤ bnd x.1 then stl b s (apD x.1 x.2 D) else (x :: s, D)
def dpt : stS → Nat
  | [] => 0
  | x :: s => (if x.1 = 11 ∨ x.1 = 14 then 1 else 0) + dpt s
def brk : stS → Nat
  | [] => 0
  | x :: s => (if x.1 = 14 then 1 else 0) + brk s
def tb : stS → Nat
  | [] => 0
  | x :: _ => bnd x.1
def wfs : stS → Prop
  | [] => True
  | x :: s => wfs s ∧ (2 ≤ x.1 ∧ x.1 ≤ 14) ∧ (if x.1 = 11 ∨ x.1 = 14 then tb s ≤ 3 else tb s < bnd x.1) ∧ (x.1 = 12 ∨ x.1 = 13 → d01 x.2)
/-- a sign waits, with sums above it at most; no sign waits so -/
def sgn : stS → Prop
  | [] => False
  | x :: s => bnd x.1 = 4 ∨ (4 < bnd x.1 ∧ sgn s)
def nsg : stS → Prop
  | [] => True
  | x :: s => bnd x.1 ≤ 3 ∨ (4 < bnd x.1 ∧ nsg s)
theorem bnd_le (o : Nat) : bnd o ≤ 6 := by
  unfold bnd
  split
  · decide
  · split
    · decide
    · split
      · decide
      · split
        · decide
        · split
          · decide
          · split <;> decide
theorem jn_01 {o : Nat} (h : 6 ≤ o ∧ o ≤ 10) (x y : Int) : jn (o : Int) x y = 0 ∨ jn (o : Int) x y = 1 := by
  unfold jn
  rw [if_neg (by omega), if_neg (by omega), if_neg (by omega), if_neg (by omega)]
  split
  · split <;> simp
  · split
    · split <;> simp
    · split
      · split <;> simp
      · split
        · split <;> simp
        · split <;> simp
theorem bnd_4 {o : Nat} (h : bnd o = 4) : 6 ≤ o ∧ o ≤ 10 := by
  unfold bnd at h
  by_cases c1 : o = 13
  · rw [if_pos c1] at h; omega
  · rw [if_neg c1] at h
    by_cases c2 : o = 12
    · rw [if_pos c2] at h; omega
    · rw [if_neg c2] at h
      by_cases c3 : o = 11
      · rw [if_pos c3] at h; omega
      · rw [if_neg c3] at h
        by_cases c4 : 6 ≤ o ∧ o ≤ 10
        · exact c4
        · rw [if_neg c4] at h
          by_cases c5 : o = 2 ∨ o = 3
          · rw [if_pos c5] at h; omega
          · rw [if_neg c5] at h
            by_cases c6 : o = 4 ∨ o = 5
            · rw [if_pos c6] at h; omega
            · rw [if_neg c6] at h; omega
theorem bnd_14 {o : Nat} (h : 2 ≤ o ∧ o ≤ 14) : bnd o = 0 ↔ o = 14 := by
  constructor
  · intro z
    unfold bnd at z
    by_cases c1 : o = 13
    · rw [if_pos c1] at z; omega
    · rw [if_neg c1] at z
      by_cases c2 : o = 12
      · rw [if_pos c2] at z; omega
      · rw [if_neg c2] at z
        by_cases c3 : o = 11
        · rw [if_pos c3] at z; omega
        · rw [if_neg c3] at z
          by_cases c4 : 6 ≤ o ∧ o ≤ 10
          · rw [if_pos c4] at z; omega
          · rw [if_neg c4] at z
            by_cases c5 : o = 2 ∨ o = 3
            · rw [if_pos c5] at z; omega
            · rw [if_neg c5] at z
              by_cases c6 : o = 4 ∨ o = 5
              · rw [if_pos c6] at z; omega
              · omega
  · intro z; rw [z]; rfl
/-- of a step that waits: what it is, by how it binds -/
theorem bnd_low {o : Nat} (h : 2 ≤ o ∧ o ≤ 14) (h3 : bnd o ≤ 3) : o = 11 ∨ o = 12 ∨ o = 13 ∨ o = 14 := by
  by_cases c : 11 ≤ o
  · omega
  · exfalso
    unfold bnd at h3
    rw [if_neg (by omega), if_neg (by omega), if_neg (by omega)] at h3
    by_cases c4 : 6 ≤ o ∧ o ≤ 10
    · rw [if_pos c4] at h3; omega
    · rw [if_neg c4] at h3
      by_cases c5 : o = 2 ∨ o = 3
      · rw [if_pos c5] at h3; omega
      · rw [if_neg c5, if_pos (by omega)] at h3; omega
theorem apD_01 {o : Nat} {A D : den} (h : 6 ≤ o ∧ o ≤ 13) (hA : o = 12 ∨ o = 13 → d01 A) (hD : 11 ≤ o → d01 D) : d01 (apD o A D) := by
  intro w
  unfold apD
  by_cases c1 : o = 11
  · rw [if_pos c1]
    rcases hD (by omega) w with z | z
    · rw [z]; exact Or.inr (by decide)
    · rw [z]; exact Or.inl (by decide)
  · rw [if_neg c1]
    by_cases c2 : o = 12
    · rw [if_pos c2]
      split
      · exact hA (Or.inl c2) w
      · exact hD (by omega) w
    · rw [if_neg c2]
      by_cases c3 : o = 13
      · rw [if_pos c3]
        split
        · exact hA (Or.inr c3) w
        · exact hD (by omega) w
      · rw [if_neg c3]
        exact jn_01 (by omega) _ _
section
variable {s : stS} {b b' : Nat} {D : den}
theorem stl_stl (h : b' ≤ b) : ∀ (s : stS) (D : den), stl b' (stl b s D).1 (stl b s D).2 = stl b' s D
  | [], D => rfl
  | x :: s, D => by
    by_cases c : b ≤ bnd x.1
    · have e : stl b (x :: s) D = stl b s (apD x.1 x.2 D) := if_pos c
      have e' : stl b' (x :: s) D = stl b' s (apD x.1 x.2 D) := if_pos (by omega)
      rw [e, e']
      exact stl_stl h s _
    · have e : stl b (x :: s) D = (x :: s, D) := if_neg c
      rw [e]
theorem stl_stop (h : tb s < b) : stl b s D = (s, D) := by
  cases s with
  | nil => rfl
  | cons x s => exact if_neg (show ¬ b ≤ bnd x.1 by have : bnd x.1 < b := h; omega)
theorem stl_tb (hb : 1 ≤ b) : ∀ (s : stS) (D : den), tb (stl b s D).1 < b
  | [], D => hb
  | x :: s, D => by
    by_cases c : b ≤ bnd x.1
    · have e : stl b (x :: s) D = stl b s (apD x.1 x.2 D) := if_pos c
      rw [e]
      exact stl_tb hb s _
    · have e : stl b (x :: s) D = (x :: s, D) := if_neg c
      rw [e]
      show bnd x.1 < b
      omega
theorem stl_brk (hb : 1 ≤ b) : ∀ (s : stS) (D : den), brk (stl b s D).1 = brk s
  | [], D => rfl
  | x :: s, D => by
    by_cases c : b ≤ bnd x.1
    · have e : stl b (x :: s) D = stl b s (apD x.1 x.2 D) := if_pos c
      rw [e, stl_brk hb s _]
      have z : ¬ x.1 = 14 := fun z => by rw [z] at c; have : bnd 14 = 0 := rfl; omega
      show brk s = (if x.1 = 14 then 1 else 0) + brk s
      rw [if_neg z, Nat.zero_add]
    · have e : stl b (x :: s) D = (x :: s, D) := if_neg c
      rw [e]
theorem stl_dpt : ∀ (s : stS) (D : den), dpt (stl b s D).1 ≤ dpt s
  | [], D => Nat.le_refl _
  | x :: s, D => by
    by_cases c : b ≤ bnd x.1
    · have e : stl b (x :: s) D = stl b s (apD x.1 x.2 D) := if_pos c
      rw [e]
      have := stl_dpt s (apD x.1 x.2 D)
      show dpt (stl b s (apD x.1 x.2 D)).1 ≤ (if x.1 = 11 ∨ x.1 = 14 then 1 else 0) + dpt s
      omega
    · have e : stl b (x :: s) D = (x :: s, D) := if_neg c
      rw [e]
      exact Nat.le_refl _
theorem stl_wf : ∀ (s : stS) (D : den), wfs s → wfs (stl b s D).1
  | [], D, h => h
  | x :: s, D, h => by
    by_cases c : b ≤ bnd x.1
    · have e : stl b (x :: s) D = stl b s (apD x.1 x.2 D) := if_pos c
      rw [e]
      exact stl_wf s _ h.1
    · have e : stl b (x :: s) D = (x :: s, D) := if_neg c
      rw [e]
      exact h
theorem nsg_low (h : tb s ≤ 3) : nsg s := by
  cases s with
  | nil => trivial
  | cons y s => exact Or.inl h
theorem stl_nsg (hb : 1 ≤ b) : ∀ (s : stS) (D : den), nsg s → nsg (stl b s D).1
  | [], D, h => h
  | x :: s, D, h => by
    by_cases c : b ≤ bnd x.1
    · have e : stl b (x :: s) D = stl b s (apD x.1 x.2 D) := if_pos c
      rw [e]
      rcases h with z | z
      · exact nsg_low (by have := stl_tb hb s (apD x.1 x.2 D); omega)
      · exact stl_nsg hb s _ z.2
    · have e : stl b (x :: s) D = (x :: s, D) := if_neg c
      rw [e]
      exact h
theorem stl_sgn (hb : 5 ≤ b) : ∀ (s : stS) (D : den), sgn s → sgn (stl b s D).1
  | [], D, h => h
  | x :: s, D, h => by
    by_cases c : b ≤ bnd x.1
    · have e : stl b (x :: s) D = stl b s (apD x.1 x.2 D) := if_pos c
      rw [e]
      refine stl_sgn hb s _ ?_
      rcases h with z | z
      · omega
      · exact z.2
    · have e : stl b (x :: s) D = (x :: s, D) := if_neg c
      rw [e]
      exact h
theorem wfs.low {x : Nat × den} (h : wfs (x :: s)) (hb : bnd x.1 ≤ 4) : tb s ≤ 3 := by
  have h3 := h.2.2.1
  by_cases c : x.1 = 11 ∨ x.1 = 14
  · rw [if_pos c] at h3; exact h3
  · rw [if_neg c] at h3; omega
theorem stl_01 (hb : 1 ≤ b) (hb4 : b ≤ 4) : ∀ (s : stS) (D : den), wfs s → (tb s ≤ 3 ∧ d01 D) ∨ sgn s → d01 (stl b s D).2
  | [], D, _, h => by
    rcases h with z | z
    · exact z.2
    · exact z.elim
  | x :: s, D, hw, h => by
    by_cases c : b ≤ bnd x.1
    · have e : stl b (x :: s) D = stl b s (apD x.1 x.2 D) := if_pos c
      rw [e]
      refine stl_01 hb hb4 s _ hw.1 ?_
      rcases h with ⟨z1, z2⟩ | z | z
      · have z1' : bnd x.1 ≤ 3 := z1
        have hx := bnd_low hw.2.1 z1'
        have h14 : x.1 ≠ 14 := fun y => by have := (bnd_14 hw.2.1).2 y; omega
        exact Or.inl ⟨hw.low (by omega), apD_01 (by omega) hw.2.2.2 (fun _ => z2)⟩
      · have hx := bnd_4 z
        exact Or.inl ⟨hw.low (by omega), apD_01 (by omega) hw.2.2.2 (fun y => by omega)⟩
      · exact Or.inr z.2
    · have e : stl b (x :: s) D = (x :: s, D) := if_neg c
      rw [e]
      rcases h with z | z | z
      · exact z.2
      · omega
      · omega
theorem brk_0 : ∀ {s : stS}, wfs s → tb s = 0 → brk s = 0 → s = []
  | [], _, _, _ => rfl
  | x :: s, hw, ht, hb => by
    have hx := (bnd_14 hw.2.1).1 ht
    have : (if x.1 = 14 then 1 else 0) + brk s = 0 := hb
    rw [if_pos hx] at this
    omega
theorem brk_1 : ∀ {s : stS}, wfs s → tb s = 0 → 0 < brk s → ∃ x s', s = x :: s' ∧ x.1 = 14 ∧ tb s' ≤ 3
  | [], _, _, h => absurd h (Nat.lt_irrefl _)
  | x :: s, hw, ht, _ => by
    have hx := (bnd_14 hw.2.1).1 ht
    exact ⟨x, s, rfl, hx, hw.low (by have : bnd x.1 = 0 := ht; omega)⟩
theorem dpt_len : ∀ s : stS, dpt s ≤ s.length
  | [] => Nat.le_refl _
  | x :: s => by
    have := dpt_len s
    have e : dpt (x :: s) = (if x.1 = 11 ∨ x.1 = 14 then 1 else 0) + dpt s := rfl
    have l : (x :: s).length = s.length + 1 := rfl
    rw [e, l]
    split <;> omega
theorem brk_len : ∀ s : stS, brk s ≤ s.length
  | [] => Nat.le_refl _
  | x :: s => by
    have := brk_len s
    have e : brk (x :: s) = (if x.1 = 14 then 1 else 0) + brk s := rfl
    have l : (x :: s).length = s.length + 1 := rfl
    rw [e, l]
    split <;> omega
/-- how many can wait -/
def pot (t : Nat) : Nat := if t = 3 then 0 else if t ≤ 2 then t else t - 1
theorem wfs_len : ∀ {s : stS}, wfs s → s.length ≤ 3 * dpt s + pot (tb s)
  | [], _ => Nat.zero_le _
  | x :: s, hw => by
    have ih := wfs_len hw.1
    have h3 := hw.2.2.1
    have hl : (x :: s).length = s.length + 1 := rfl
    have hd : dpt (x :: s) = (if x.1 = 11 ∨ x.1 = 14 then 1 else 0) + dpt s := rfl
    have ht : tb (x :: s) = bnd x.1 := rfl
    have hb6 := bnd_le x.1
    rw [hl, hd, ht]
    by_cases c : x.1 = 11 ∨ x.1 = 14
    · rw [if_pos c] at h3 ⊢
      have : pot (tb s) ≤ 2 := by
        unfold pot
        split
        · omega
        · split <;> omega
      omega
    · rw [if_neg c] at h3 ⊢
      have h11 : bnd x.1 ≠ 3 := fun z => by
        rcases bnd_low hw.2.1 (by omega) with y | y | y | y
        · exact c (Or.inl y)
        · rw [y] at z; exact absurd z (by decide)
        · rw [y] at z; exact absurd z (by decide)
        · exact c (Or.inr y)
      have : pot (tb s) + 1 ≤ pot (bnd x.1) := by
        unfold pot
        rw [if_neg h11]
        by_cases c3 : tb s = 3
        · rw [if_pos c3, if_neg (by omega)]; omega
        · rw [if_neg c3]
          by_cases c4 : bnd x.1 ≤ 2
          · rw [if_pos c4, if_pos (by omega)]; omega
          · rw [if_neg c4]
            by_cases c5 : tb s ≤ 2
            · rw [if_pos c5]; omega
            · rw [if_neg c5]; omega
      omega
theorem wfs_48 (hw : wfs s) (hd : dpt s ≤ 10) : s.length ≤ 35 := by
  have := wfs_len hw
  have h6 : tb s ≤ 6 := by
    cases s with
    | nil => exact Nat.zero_le _
    | cons x s => exact bnd_le x.1
  have : pot (tb s) ≤ 5 := by
    unfold pot
    split
    · omega
    · split <;> omega
  omega
end
