/-! FAULTS ARE SMALL. -/
def sm (n : Nat) (f : Int) : Prop := 0 ≤ f ∧ f ≤ 8 + 8 * (n : Int)
section
variable {n p : Nat} {T : Nat → Int}
theorem sm_at {q : Nat} {k : Int} (h : q ≤ n) (h0 : 0 ≤ k) (h1 : k ≤ 7) : sm n (1 + 8 * (q : Int) + k) := ⟨by omega, by omega⟩
theorem sm_a0 {q : Nat} (h : q ≤ n) : sm n (1 + 8 * (q : Int)) := ⟨by omega, by omega⟩
theorem sm_0 : sm n 0 := ⟨by omega, by omega⟩
theorem numF_sm {lo hi : Int} (h : p ≤ n) : sm n (numF T n p lo hi).2.1 := by
  have hb : blk T n p ≤ n := run_le h
  unfold numF
  split
  · exact sm_a0 hb
  · split
    · exact sm_at hb (by decide) (by decide)
    · exact sm_0
theorem numG_sm {f lo hi : Int} (h : p ≤ n) (hf : sm n f) : sm n (numG T n p f lo hi).2.1 := by
  unfold numG
  split
  · exact hf
  · exact numF_sm h
theorem lawF_sm (h : p ≤ n) : sm n (lawF T n p).2.1 := by
  have hb : blk T n p ≤ n := run_le h
  unfold lawF
  split
  · exact sm_0
  · split
    · exact sm_0
    · split
      · exact sm_0
      · exact sm_a0 hb
theorem houseF_sm (h : p ≤ n) : sm n (houseF T n p).1 := by
  unfold houseF
  split
  · exact lawF_sm h
  · split
    · exact numF_sm (lawF_le h)
    · split
      · exact numF_sm (numF_le (lawF_le h))
      · exact sm_0
theorem s5F_sm {nh : Int} (h : p ≤ n) : sm n (s5F T n p nh).2.1 := by
  have l1 : (s1F T n p).1 ≤ n := numG_le h
  have l2 : (s2F T n p nh).1 ≤ n := numG_le l1
  have l3 : (s3F T n p nh).1 ≤ n := numG_le l2
  have l4 : (s4F T n p nh).1 ≤ n := numG_le l3
  exact numG_sm l4 (numG_sm l3 (numG_sm l2 (numG_sm l1 (numG_sm h sm_0))))
theorem clauseF_sm {more : Bool} {σ : stT} (h : σ.1 ≤ n) : sm n (clauseF T n more σ).1 := by
  have hb : blk T n σ.1 ≤ n := run_le h
  unfold clauseF
  split
  · rename_i c
    split
    · exact sm_at hb (by decide) (by decide)
    · split
      · exact houseF_sm (atB_i.1 c).1
      · exact sm_0
  · split
    · rename_i c
      split
      · exact sm_at hb (by decide) (by decide)
      · split
        · exact s5F_sm (atB_i.1 c).1
        · exact sm_0
    · exact sm_a0 hb
theorem streetF_sm : ∀ r (σ : stT), σ.1 ≤ n → sm n (streetF T n r σ).1 := by
  intro r
  induction r with
  | zero => intro σ _; exact sm_0
  | succ r ih =>
    intro σ h
    obtain ⟨c, hc⟩ : ∃ c, c = clauseF T n (decide (1 ≤ r)) σ := ⟨_, rfl⟩
    have hS : streetF T n (r + 1) σ = if c.1 ≠ 0 then (c.1, σ) else if chr T n (blk T n c.2.1) = 59 then streetF T n r (blk T n c.2.1 + 1, c.2.2) else if chr T n (blk T n c.2.1) = -1 then (0, c.2) else (1 + 8 * (blk T n c.2.1 : Int), σ) := by rw [hc]; rfl
    have hcl : c.2.1 ≤ n := by rw [hc]; exact clauseF_le h
    have hb : blk T n c.2.1 ≤ n := run_le hcl
    rw [hS]
    split
    · rw [hc]; exact clauseF_sm h
    · split
      · rename_i c2
        refine ih _ ?_
        show blk T n c.2.1 + 1 ≤ n
        unfold chr at c2
        split at c2
        · omega
        · omega
      · split
        · exact sm_0
        · exact sm_a0 hb
end
