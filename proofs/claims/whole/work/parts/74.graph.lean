/-! WHO NEEDS WHOM, as masks; rings. -/
/-- all that those of the mask X (below k) need -/
def nbN (nd : Nat → Nat) (X : Nat) : Nat → Nat
  | 0 => 0
  | k + 1 => nbN nd X k ||| (if X.testBit k then nd k else 0)
theorem nbN_bit {nd : Nat → Nat} {X q : Nat} : ∀ {k : Nat}, (nbN nd X k).testBit q = true ↔ ∃ s, s < k ∧ X.testBit s = true ∧ (nd s).testBit q = true
  | 0 => by
    show (0 : Nat).testBit q = true ↔ _
    rw [Nat.zero_testBit]
    exact ⟨fun h => absurd h (by decide), fun ⟨s, h, _⟩ => absurd h (Nat.not_lt_zero s)⟩
  | k + 1 => by
    show (nbN nd X k ||| (if X.testBit k then nd k else 0)).testBit q = true ↔ _
    rw [Nat.testBit_or, Bool.or_eq_true, nbN_bit (k := k)]
    refine ⟨fun h => ?_, fun ⟨s, h0, h1, h2⟩ => ?_⟩
    · rcases h with ⟨s, h0, h1, h2⟩ | h
      · exact ⟨s, by omega, h1, h2⟩
      · by_cases c : X.testBit k = true
        · rw [if_pos c] at h; exact ⟨k, by omega, c, h⟩
        · rw [if_neg c, Nat.zero_testBit] at h; exact absurd h (by decide)
    · by_cases c : s = k
      · right
        rw [c] at h1 h2
        rw [if_pos h1]; exact h2
      · exact Or.inl ⟨s, by omega, h1, h2⟩
def rA (nd : Nat → Nat) (p : Nat) : Nat → Nat
  | 0 => 0
  | 1 => nd p
  | L + 2 => rA nd p (L + 1) ||| nbN nd (rA nd p (L + 1)) 12
