/-! WHAT IS READ IS IN RANGE. -/
section
variable {n p : Nat} {T : Nat → Int}
theorem houseF_in (h : (houseF T n p).1 = 0) : (0 ≤ (houseF T n p).2.2.1 ∧ (houseF T n p).2.2.1 ≤ 2) ∧ (1 ≤ (houseF T n p).2.2.2.1 ∧ (houseF T n p).2.2.2.1 ≤ 12) ∧ (0 ≤ (houseF T n p).2.2.2.2 ∧ (houseF T n p).2.2.2.2 ≤ 9) := by
  unfold houseF at h ⊢
  by_cases c1 : (lawF T n p).2.1 ≠ 0
  · rw [if_pos c1] at h; exact absurd h c1
  · rw [if_neg c1] at h ⊢
    by_cases c2 : (numF T n (lawF T n p).1 1 12).2.1 ≠ 0
    · rw [if_pos c2] at h; exact absurd h c2
    · rw [if_neg c2] at h ⊢
      by_cases c3 : (numF T n (numF T n (lawF T n p).1 1 12).1 0 9).2.1 ≠ 0
      · rw [if_pos c3] at h; exact absurd h c3
      · rw [if_neg c3]
        exact ⟨lawF_in, numF_in (Decidable.not_not.1 c2), numF_in (Decidable.not_not.1 c3)⟩
theorem s5F_in {nh : Int} (h : (s5F T n p nh).2.1 = 0) : (0 ≤ (s1F T n p).2.2 ∧ (s1F T n p).2.2 ≤ 11) ∧ (0 ≤ (s2F T n p nh).2.2 ∧ (s2F T n p nh).2.2 ≤ nh - 1) ∧ (0 ≤ (s3F T n p nh).2.2 ∧ (s3F T n p nh).2.2 ≤ 95) ∧ ((s3F T n p nh).2.2 + 1 ≤ (s4F T n p nh).2.2 ∧ (s4F T n p nh).2.2 ≤ 95) ∧ (0 ≤ (s5F T n p nh).2.2 ∧ (s5F T n p nh).2.2 ≤ 99) := by
  have h5 := numG_ok (T := T) (n := n) (p := (s4F T n p nh).1) (f := (s4F T n p nh).2.1) (lo := 0) (hi := 99) h
  have h4 := numG_ok (T := T) (n := n) (p := (s3F T n p nh).1) (f := (s3F T n p nh).2.1) (lo := (s3F T n p nh).2.2 + 1) (hi := 95) h5.1
  have h3 := numG_ok (T := T) (n := n) (p := (s2F T n p nh).1) (f := (s2F T n p nh).2.1) (lo := 0) (hi := 95) h4.1
  have h2 := numG_ok (T := T) (n := n) (p := (s1F T n p).1) (f := (s1F T n p).2.1) (lo := 0) (hi := nh - 1) h3.1
  have h1 := numG_ok (T := T) (n := n) (p := p) (f := 0) (lo := 0) (hi := 11) h2.1
  exact ⟨h1.2, h2.2, h3.2, h4.2, h5.2⟩
end
