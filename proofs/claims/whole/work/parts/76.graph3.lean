/-! After twelve steps all is reached; where each needs one there is a ring. -/
section
variable {nd : Nat → Nat} {p : Nat}
theorem rA_stay {L : Nat} (h : clM nd (rA nd p (L + 1))) : rA nd p (L + 2) = rA nd p (L + 1) := by
  refine suB.eq (fun i hi => ?_) (rA_up L)
  have hi' : (rA nd p (L + 1) ||| nbN nd (rA nd p (L + 1)) 12).testBit i = true := hi
  rw [Nat.testBit_or, Bool.or_eq_true] at hi'
  rcases hi' with z | z
  · exact z
  · obtain ⟨s, s0, s1, s2⟩ := nbN_bit.mp z
    exact h s s0 s1 i s2
theorem all_bits {i : Nat} (hi : i < 12) : (4095 : Nat).testBit i = true := by
  have : (4095 : Nat) = 2 ^ 12 - 1 := by decide
  rw [this, Nat.testBit_two_pow_sub_one, decide_eq_true hi]
theorem sub_all {X : Nat} (h : X < 4096) : suB X 4095 := fun i hi => all_bits (bit_lt h hi)
theorem rA_grow (hn : ∀ s, s < 12 → nd s < 4096) (hp : p < 12) : ∀ L : Nat, clM nd (rA nd p (L + 1)) ∨ (L : Int) + 1 ≤ nS (pcF (rA nd p (L + 1))) 12
  | 0 => by
    by_cases c : nd p = 0
    · left
      intro s _ hs
      have hs' : (nd p).testBit s = true := hs
      rw [c, Nat.zero_testBit] at hs'; exact absurd hs' (by decide)
    · right
      have h1 := pc_lt (X := 0) (Y := nd p) (fun i hi => by rw [Nat.zero_testBit] at hi; exact absurd hi (by decide)) (by decide) (hn p hp) (Ne.symm c)
      rw [pc_zero] at h1
      show ((0 : Nat) : Int) + 1 ≤ nS (pcF (nd p)) 12
      omega
  | L + 1 => by
    rcases rA_grow hn hp L with h | h
    · left; rw [rA_stay h]; exact h
    · by_cases c : rA nd p (L + 2) = rA nd p (L + 1)
      · left
        show clM nd (rA nd p (L + 2))
        rw [c]; exact rA_cl c
      · right
        have := pc_lt (rA_up (nd := nd) (p := p) L) (rA_lt hn hp _) (rA_lt hn hp _) (Ne.symm c)
        show ((L + 1 : Nat) : Int) + 1 ≤ nS (pcF (rA nd p (L + 2))) 12
        omega
theorem rA_12 (hn : ∀ s, s < 12 → nd s < 4096) (hp : p < 12) : clM nd (rA nd p 12) := by
  rcases rA_grow hn hp 11 with h | h
  · exact h
  · have hl := rA_lt hn hp 12
    by_cases c : rA nd p 12 = 4095
    · intro s s0 _
      rw [c]; exact sub_all (hn s s0)
    · have h1 := pc_lt (sub_all hl) hl (by decide) c
      have h2 := nS_le (f := pcF 4095) (c := 1) (n := 12) (fun i _ => by unfold pcF; split <;> decide)
      have h' : ((11 : Nat) : Int) + 1 ≤ nS (pcF (rA nd p 12)) 12 := h
      omega
def onR (nd : Nat → Nat) (p : Nat) : Prop := (rA nd p 12).testBit p = true
theorem rA_nd (L : Nat) : suB (nd p) (rA nd p (L + 1)) := by
  induction L with
  | zero => exact fun i h => h
  | succ L ih => exact fun i h => rA_up L i (ih i h)
theorem ring_in (hn : ∀ s, s < 12 → nd s < 4096) : ∀ U : Nat, U < 4096 → U ≠ 0 → (∀ s, U.testBit s = true → ∃ q, U.testBit q = true ∧ (nd s).testBit q = true) → ∃ s, U.testBit s = true ∧ onR nd s := by
  intro U
  induction U using Nat.strongRecOn with
  | ind U ih =>
    intro hU h0 hs
    have hex : ∃ s, U.testBit s = true := Classical.byContradiction fun z => h0 (Nat.eq_of_testBit_eq (fun i => by
      rw [Nat.zero_testBit]
      cases h : U.testBit i
      · rfl
      · exact absurd ⟨i, h⟩ z))
    obtain ⟨s, hs1⟩ := hex
    have s12 := bit_lt hU hs1
    by_cases c : U &&& rA nd s 12 = U
    · refine ⟨s, hs1, ?_⟩
      have : (U &&& rA nd s 12).testBit s = true := by rw [c]; exact hs1
      rw [Nat.testBit_and, Bool.and_eq_true] at this
      exact this.2
    · have hle : U &&& rA nd s 12 ≤ U := Nat.and_le_left
      obtain ⟨q, q1, q2⟩ := hs s hs1
      have hq : (U &&& rA nd s 12).testBit q = true := by rw [Nat.testBit_and, q1, rA_nd 11 q q2]; rfl
      obtain ⟨x, x1, x2⟩ := ih (U &&& rA nd s 12) (by omega) (by omega) (fun z => by rw [z, Nat.zero_testBit] at hq; exact absurd hq (by decide)) (fun y hy => by
        rw [Nat.testBit_and, Bool.and_eq_true] at hy
        obtain ⟨w, w1, w2⟩ := hs y hy.1
        refine ⟨w, ?_, w2⟩
        rw [Nat.testBit_and, w1, rA_12 hn s12 y (bit_lt hU hy.1) hy.2 w w2]; rfl)
      rw [Nat.testBit_and, Bool.and_eq_true] at x1
      exact ⟨x, x1.1, x2⟩
end
