/-! WHO NEEDS WHOM, as masks; rings. -/
/-- all that those of the mask X (below k) need -/
def nbN (nd : Nat → Nat) (X : Nat) : Nat → Nat
  | 0 => 0
  | k + 1 => nbN nd X k ||| (if X.testBit k then nd k else 0)
theorem nbN_bit {nd : Nat → Nat} {X q : Nat} : ∀ {k : Nat}, (nbN nd X k).testBit q = true ↔ ∃ s, s < k ∧ X.testBit s = true ∧ (nd s).testBit q = true
  | 0 => by
    show (0 : Nat).testBit q = true ↔ _
    rw [Nat.zero_testBit]
    exact ⟨fun h => absurd h (by decide), fun ⟨s, h, _⟩ => absurd h (Nat.not_lt_zero s)⟩
  | k + 1 => by
    show (nbN nd X k ||| (if X.testBit k then nd k else 0)).testBit q = true ↔ _
    rw [Nat.testBit_or, Bool.or_eq_true, nbN_bit (k := k)]
    refine ⟨fun h => ?_, fun ⟨s, h0, h1, h2⟩ => ?_⟩
    · rcases h with ⟨s, h0, h1, h2⟩ | h
      · exact ⟨s, by omega, h1, h2⟩
      · by_cases c : X.testBit k = true
        · rw [if_pos c] at h; exact ⟨k, by omega, c, h⟩
        · rw [if_neg c, Nat.zero_testBit] at h; exact absurd h (by decide)
    · by_cases c : s = k
      · right
        rw [c] at h1 h2
        rw [if_pos h1]; exact h2
      · exact Or.inl ⟨s, by omega, h1, h2⟩
def rA (nd : Nat → Nat) (p : Nat) : Nat → Nat
  | 0 => 0
  | 1 => nd p
  | L + 2 => rA nd p (L + 1) ||| nbN nd (rA nd p (L + 1)) 12
def suB (X Y : Nat) : Prop := ∀ i : Nat, X.testBit i = true → Y.testBit i = true
theorem suB.eq {X Y : Nat} (h : suB X Y) (h' : suB Y X) : X = Y := Nat.eq_of_testBit_eq (fun i => by
  cases hx : X.testBit i
  · cases hy : Y.testBit i
    · rfl
    · have := h' i hy; rw [hx] at this; exact absurd this (by decide)
  · exact (h i hx).symm)
theorem bit_lt {X i : Nat} (hX : X < 4096) (h : X.testBit i = true) : i < 12 := by
  rcases Nat.lt_or_ge i 12 with c | c
  · exact c
  · have : X.testBit i = false := Nat.testBit_lt_two_pow (Nat.lt_of_lt_of_le (show X < 2 ^ 12 from hX) (Nat.pow_le_pow_right (by decide) c))
    rw [this] at h; exact absurd h (by decide)
theorem pc_sub {X Y : Nat} (h : suB X Y) (n : Nat) : nS (pcF X) n ≤ nS (pcF Y) n := by
  induction n with
  | zero => exact Int.le_refl _
  | succ n ih =>
    show nS (pcF X) n + (if X.testBit n then 1 else 0) ≤ nS (pcF Y) n + (if Y.testBit n then 1 else 0)
    by_cases c : X.testBit n = true
    · rw [if_pos c, if_pos (h n c)]; omega
    · rw [if_neg c]; split <;> omega
theorem pc_lt {X Y : Nat} (h : suB X Y) (hX : X < 4096) (hY : Y < 4096) (hne : X ≠ Y) : nS (pcF X) 12 + 1 ≤ nS (pcF Y) 12 := by
  have hx : ∃ i, Y.testBit i = true ∧ ¬ X.testBit i = true := Classical.byContradiction fun z => hne (h.eq (fun i hi => Classical.byContradiction fun w => z ⟨i, hi, w⟩))
  obtain ⟨i, hi, hn⟩ := hx
  refine nS_more (fun j _ => ?_) ⟨i, bit_lt hY hi, ?_⟩
  · show (if X.testBit j then (1 : Int) else 0) ≤ (if Y.testBit j then 1 else 0)
    by_cases c : X.testBit j = true
    · rw [if_pos c, if_pos (h j c)]; exact Int.le_refl _
    · rw [if_neg c]; split <;> decide
  · show (if X.testBit i then (1 : Int) else 0) + 1 ≤ (if Y.testBit i then 1 else 0)
    rw [if_neg hn, if_pos hi]; decide
