/-! WHAT IS READ IS IN RANGE, clause by clause. -/
def vRd (σ : stT) : Prop := (∀ h, h < σ.2.1 → (0 ≤ σ.2.2.2.1 (3 * h) ∧ σ.2.2.2.1 (3 * h) ≤ 2) ∧ (1 ≤ σ.2.2.2.1 (3 * h + 1) ∧ σ.2.2.2.1 (3 * h + 1) ≤ 12) ∧ (0 ≤ σ.2.2.2.1 (3 * h + 2) ∧ σ.2.2.2.1 (3 * h + 2) ≤ 9)) ∧
  ∀ s, s < σ.2.2.1 → (0 ≤ σ.2.2.2.2 (5 * s) ∧ σ.2.2.2.2 (5 * s) ≤ 11) ∧ (0 ≤ σ.2.2.2.2 (5 * s + 1) ∧ σ.2.2.2.2 (5 * s + 1) < σ.2.1) ∧ (0 ≤ σ.2.2.2.2 (5 * s + 2) ∧ σ.2.2.2.2 (5 * s + 2) < σ.2.2.2.2 (5 * s + 3) ∧ σ.2.2.2.2 (5 * s + 3) ≤ 95) ∧ 0 ≤ σ.2.2.2.2 (5 * s + 4) ∧ σ.2.2.2.2 (5 * s + 4) ≤ 99
section
variable {n : Nat} {T : Nat → Int} {σ : stT}
theorem put3_n {H : Nat → Int} {k h w : Nat} {a b c : Int} (hk : h ≠ k) (hw : w < 3) : put3 H k a b c (3 * h + w) = H (3 * h + w) := by
  unfold put3
  rw [if_neg (by omega), if_neg (by omega), if_neg (by omega)]
theorem put5_n {Y : Nat → Int} {k h w : Nat} {a b c e f : Int} (hk : h ≠ k) (hw : w < 5) : put5 Y k a b c e f (5 * h + w) = Y (5 * h + w) := by
  unfold put5
  rw [if_neg (by omega), if_neg (by omega), if_neg (by omega), if_neg (by omega), if_neg (by omega)]
theorem put3_y {H : Nat → Int} {k : Nat} {a b c : Int} : put3 H k a b c (3 * k) = a ∧ put3 H k a b c (3 * k + 1) = b ∧ put3 H k a b c (3 * k + 2) = c := by
  unfold put3
  rw [if_pos rfl, if_neg (by omega), if_pos rfl, if_neg (by omega), if_neg (by omega), if_pos rfl]
  exact ⟨rfl, rfl, rfl⟩
theorem put5_y {Y : Nat → Int} {k : Nat} {a b c e f : Int} : put5 Y k a b c e f (5 * k) = a ∧ put5 Y k a b c e f (5 * k + 1) = b ∧ put5 Y k a b c e f (5 * k + 2) = c ∧ put5 Y k a b c e f (5 * k + 3) = e ∧ put5 Y k a b c e f (5 * k + 4) = f := by
  unfold put5
  rw [if_pos rfl, if_neg (by omega), if_pos rfl, if_neg (by omega), if_neg (by omega), if_pos rfl, if_neg (by omega), if_neg (by omega), if_neg (by omega), if_pos rfl, if_neg (by omega), if_neg (by omega), if_neg (by omega), if_neg (by omega), if_pos rfl]
  exact ⟨rfl, rfl, rfl, rfl, rfl⟩
theorem vRd.clause {more : Bool} (h : vRd σ) (h0 : (clauseF T n more σ).1 = 0) : vRd (clauseF T n more σ).2 := by
  unfold clauseF at h0 ⊢
  split
  · split
    · exact h
    · split
      · exact h
      · rename_i c1 c2 c3
        obtain ⟨a1, a2, a3⟩ := houseF_in (Decidable.not_not.1 c3)
        refine ⟨fun x hx => ?_, fun s hs => ?_⟩
        · have hx' : x < σ.2.1 + 1 := hx
          show (0 ≤ put3 _ _ _ _ _ (3 * x) ∧ put3 _ _ _ _ _ (3 * x) ≤ 2) ∧ (1 ≤ put3 _ _ _ _ _ (3 * x + 1) ∧ put3 _ _ _ _ _ (3 * x + 1) ≤ 12) ∧ (0 ≤ put3 _ _ _ _ _ (3 * x + 2) ∧ put3 _ _ _ _ _ (3 * x + 2) ≤ 9)
          by_cases c : x = σ.2.1
          · rw [c, put3_y.1, put3_y.2.1, put3_y.2.2]
            exact ⟨a1, a2, a3⟩
          · rw [put3_n (w := 1) c (by decide), put3_n (w := 2) c (by decide), show 3 * x = 3 * x + 0 from rfl, put3_n (w := 0) c (by decide)]
            exact h.1 x (by omega)
        · obtain ⟨b1, b2, b3, b4⟩ := h.2 s hs
          exact ⟨b1, ⟨b2.1, by have := b2.2; show σ.2.2.2.2 (5 * s + 1) < ((σ.2.1 + 1 : Nat) : Int); omega⟩, b3, b4⟩
  · split
    · split
      · exact h
      · split
        · exact h
        · rename_i c1 c2 c3 c4
          obtain ⟨a1, a2, a3, a4, a5⟩ := s5F_in (Decidable.not_not.1 c4)
          refine ⟨h.1, fun s hs => ?_⟩
          have hs' : s < σ.2.2.1 + 1 := hs
          show (0 ≤ put5 _ _ _ _ _ _ _ (5 * s) ∧ put5 _ _ _ _ _ _ _ (5 * s) ≤ 11) ∧ (0 ≤ put5 _ _ _ _ _ _ _ (5 * s + 1) ∧ put5 _ _ _ _ _ _ _ (5 * s + 1) < σ.2.1) ∧ (0 ≤ put5 _ _ _ _ _ _ _ (5 * s + 2) ∧ put5 _ _ _ _ _ _ _ (5 * s + 2) < put5 _ _ _ _ _ _ _ (5 * s + 3) ∧ put5 _ _ _ _ _ _ _ (5 * s + 3) ≤ 95) ∧ 0 ≤ put5 _ _ _ _ _ _ _ (5 * s + 4) ∧ put5 _ _ _ _ _ _ _ (5 * s + 4) ≤ 99
          by_cases c : s = σ.2.2.1
          · rw [c, put5_y.1, put5_y.2.1, put5_y.2.2.1, put5_y.2.2.2.1, put5_y.2.2.2.2]
            omega
          · rw [put5_n (w := 1) c (by decide), put5_n (w := 2) c (by decide), put5_n (w := 3) c (by decide), put5_n (w := 4) c (by decide), show 5 * s = 5 * s + 0 from rfl, put5_n (w := 0) c (by decide)]
            exact h.2 s (by omega)
    · exact h
theorem vRd.street : ∀ r (σ : stT), vRd σ → (streetF T n r σ).1 = 0 → vRd (streetF T n r σ).2 := by
  intro r
  induction r with
  | zero => intro σ h _; exact h
  | succ r ih =>
    intro σ h h0
    obtain ⟨c, hc⟩ : ∃ c, c = clauseF T n (decide (1 ≤ r)) σ := ⟨_, rfl⟩
    have hS : streetF T n (r + 1) σ = if c.1 ≠ 0 then (c.1, σ) else if chr T n (blk T n c.2.1) = 59 then streetF T n r (blk T n c.2.1 + 1, c.2.2) else if chr T n (blk T n c.2.1) = -1 then (0, c.2) else (1 + 8 * (blk T n c.2.1 : Int), σ) := by rw [hc]; rfl
    rw [hS] at h0 ⊢
    by_cases c1 : c.1 ≠ 0
    · rw [if_pos c1] at h0; exact absurd h0 c1
    · have hv : vRd c.2 := by rw [hc]; exact h.clause (by rw [← hc]; exact Decidable.not_not.1 c1)
      rw [if_neg c1] at h0 ⊢
      by_cases c2 : chr T n (blk T n c.2.1) = 59
      · rw [if_pos c2] at h0 ⊢
        exact ih _ hv h0
      · rw [if_neg c2] at h0 ⊢
        by_cases c3 : chr T n (blk T n c.2.1) = -1
        · rw [if_pos c3]; exact hv
        · rw [if_neg c3]; exact h
end
