/-! Closed sets. -/
section
variable {nd : Nat → Nat} {p : Nat}
theorem nbN_lt (hn : ∀ s, s < 12 → nd s < 4096) (X : Nat) : ∀ {k : Nat}, k ≤ 12 → nbN nd X k < 4096
  | 0, _ => (by decide : 0 < 4096)
  | k + 1, h => by
    have := nbN_lt hn X (k := k) (by omega)
    have h2 := hn k (by omega)
    refine Nat.or_lt_two_pow (n := 12) this ?_
    split
    · exact h2
    · decide
theorem rA_lt (hn : ∀ s, s < 12 → nd s < 4096) (hp : p < 12) : ∀ L : Nat, rA nd p L < 4096
  | 0 => (by decide : 0 < 4096)
  | 1 => hn p hp
  | L + 2 => Nat.or_lt_two_pow (n := 12) (rA_lt hn hp (L + 1)) (nbN_lt hn _ (Nat.le_refl 12))
theorem rA_up (L : Nat) : suB (rA nd p (L + 1)) (rA nd p (L + 2)) := fun i h => by
  show (rA nd p (L + 1) ||| nbN nd (rA nd p (L + 1)) 12).testBit i = true
  rw [Nat.testBit_or, h]; rfl
def clM (nd : Nat → Nat) (X : Nat) : Prop := ∀ s : Nat, s < 12 → X.testBit s = true → suB (nd s) X
theorem rA_least {X : Nat} (hX : clM nd X) (h : suB (nd p) X) : ∀ L : Nat, suB (rA nd p L) X
  | 0 => fun i hi => by
    have : (0 : Nat).testBit i = true := hi
    rw [Nat.zero_testBit] at this; exact absurd this (by decide)
  | 1 => h
  | L + 2 => fun i hi => by
    have hi' : (rA nd p (L + 1) ||| nbN nd (rA nd p (L + 1)) 12).testBit i = true := hi
    rw [Nat.testBit_or, Bool.or_eq_true] at hi'
    rcases hi' with z | z
    · exact rA_least hX h (L + 1) i z
    · obtain ⟨s, s0, s1, s2⟩ := nbN_bit.mp z
      exact hX s s0 (rA_least hX h (L + 1) s s1) i s2
theorem rA_cl {L : Nat} (h : rA nd p (L + 2) = rA nd p (L + 1)) : clM nd (rA nd p (L + 1)) := fun s s0 s1 i hi => by
  rw [← h]
  show (rA nd p (L + 1) ||| nbN nd (rA nd p (L + 1)) 12).testBit i = true
  rw [Nat.testBit_or, Bool.or_eq_true]
  exact Or.inr (nbN_bit.mpr ⟨s, s0, s1, hi⟩)
end
