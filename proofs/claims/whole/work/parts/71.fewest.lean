/-! The fewest guests, by the class. -/
def gYs (S : Nat → Int) (n : Nat) (G y : Int) : Prop := y = G ∨ ∃ k : Nat, k < n ∧ gA S k < G ∧ G < gB S k ∧ gB S k = y
def gMin (S : Nat → Int) (n : Nat) (g till j : Int) : Prop := ∀ (m : Nat) (r : Int), isR S m n g r → till ≤ r → j ≤ nS (pcF m) n
def gCov (S : Nat → Int) (n : Nat) (g G j : Int) : Prop := ∀ (m : Nat) (r : Int), isR S m n g r → G < r → j ≤ gIn S n m G
section
variable {d : Nat} {P : Int → sM → sG → Prop} {M : sM} {G : sG}
theorem c157 {g till : Int} (hd : 20 ≤ d) (hv : vTold (M 93)) (ht : TO 29 M (M 93)) (g0 : 0 ≤ g) (g1 : g ≤ 95) (k1 : ∀ f : Int, (∃ m : Nat, m < 2 ^ (M 93 8).toNat ∧ nS (pcF m) (M 93 8).toNat = f ∧ ∀ r : Int, isR (M 93) m (M 93 8).toNat g r → till ≤ r) → gMin (M 93) (M 93 8).toNat g till f → P f M G) (k0 : (∀ (m : Nat) (r : Int), isR (M 93) m (M 93 8).toNat g r → r < till) → P (-1) M G) : sC d 157 [vO 9 29, vI g, vI till] M G (QI P) := by
  obtain ⟨d, rfl⟩ := sD 3 (d := d) (by omega)
  have h8 := hv.2.2.2.1
  have hb : ∀ k : Nat, (k : Int) < M 93 8 → 0 ≤ gA (M 93) k ∧ gA (M 93) k < gB (M 93) k ∧ gB (M 93) k ≤ 95 := fun k hk => hv.2.2.2.2.2.2.2.2.2 k (by omega) hk
  have e12 : M 29 12 = M 93 8 := ht.1.2.2.2.1
  refine e157 (s157_0 ?_)
  have go : ∀ (f : Nat) (x j : Int), j + f = M 93 8 + 1 → 0 ≤ j → g ≤ x → x ≤ 95 → gAt (M 93) (M 93 8).toNat g x j → gCov (M 93) (M 93 8).toNat g x j → gMin (M 93) (M 93 8).toNat g till j → sW (sC (d + 2)) 157 (QI P) 8 [vO 9 29, vN, vI till, vI x, vI j, vI j, vN, vN] [] M G 0 0 := fun f => by
    induction f with
    | zero =>
      intro x j hj j0 x0 x1 ha hc hm
      have := gAt_le ha
      exact absurd this.2 (by omega)
    | succ f ih =>
      intro x j hj j0 x0 x1 ha hc hm
      have hl := gAt_le ha
      refine (s157_8 ⟨fun q1 => ?_, fun q2 => ⟨fun q3 => ?_, fun q4 => ?_⟩⟩)
      · omega
      · refine k1 j ?_ hm
        obtain ⟨m, m1, m2, m3, m4⟩ := ha
        exact ⟨m, m1, m2, fun r hr => by have := m3 r hr.1 hr.2.1; omega⟩
      · refine sUpTo (W := fun i => ∀ y : Int, x ≤ y → y ≤ 95 → (∀ k : Nat, k < i → gA (M 93) k < x → gB (M 93) k ≤ y) → gYs (M 93) (M 93 8).toNat x y → sW (sC (d + 2)) 157 (QI P) 28 [vO 9 29, vN, vI till, vI x, vI j, vI j, vI y, vI (i : Int)] [] M G 0 0) (M 93 8).toNat ?_ ?_ x (Int.le_refl _) x1 (fun k hk => absurd hk (Nat.not_lt_zero _)) (Or.inl rfl)
        · intro y y0 y1 y2 y3
          refine (s157_28 ⟨fun q1 => ⟨fun q2 => ⟨⟨by omega, by omega⟩, ⟨by omega, by omega⟩, ?_⟩, fun q3 => ?_⟩, fun q4 => ⟨⟨(by first | omega | assumption | (refine ⟨?_, ?_⟩ <;> omega) | (simp_all; done)), (by first | omega | assumption | (refine ⟨?_, ?_⟩ <;> omega) | (simp_all; done))⟩, fun q5 => ⟨⟨by omega, by omega⟩, ?_⟩, fun q6 => ⟨⟨by omega, by omega⟩, ?_⟩⟩⟩)
          · rcases y3 with z | ⟨k, z0, z1, z2, z3⟩
            · exact absurd z q2
            · refine ih y (j + 1) (by omega) (by omega) (by omega) y1 (by rw [← z3]; exact gAt_step ha k z0 z1 z2) (fun m r hr h => ?_) (fun m r hr h => ?_)
              · have := hc m r hr (by omega)
                have := gIn_step x0 y0 y2 hr (by omega)
                omega
              · have := hc m r hr (by omega)
                have := gIn_step x0 y0 y2 hr (by omega)
                have := gIn_pc (M 93) (M 93 8).toNat m y
                omega
          · refine k0 (fun m r hr => ?_)
            have := hr.2.2 x x0 (fun k k0 _ k2 => by have := y2 k k0 k2; omega)
            omega
          all_goals omega
        · intro i hi ih2 y y0 y1 y2 y3
          have bj := hb i (by omega)
          have tg := ht.2.2.2.2.2 i (by omega) (by omega)
          have ea : M 39 ((i : Int)).toNat = gA (M 93) i := tg.1
          have eb : M 40 ((i : Int)).toNat = gB (M 93) i := tg.2
          refine (s157_28 ⟨fun q1 => ⟨fun q2 => ⟨⟨by omega, by omega⟩, ⟨by omega, by omega⟩, ?_⟩, fun q3 => ?_⟩, fun q4 => ⟨⟨(by first | omega | assumption | (refine ⟨?_, ?_⟩ <;> omega) | (simp_all; done)), (by first | omega | assumption | (refine ⟨?_, ?_⟩ <;> omega) | (simp_all; done))⟩, fun q5 => ⟨⟨by omega, by omega⟩, ?_⟩, fun q6 => ⟨⟨by omega, by omega⟩, ?_⟩⟩⟩)
          · omega
          · omega
          · refine ih2 y y0 y1 (fun k k0 k2 => ?_) y3
            by_cases c : k = i
            · rw [c] at k2; omega
            · exact y2 k (by omega) k2
          · rw [eb]
            by_cases c : y < gB (M 93) i
            · rw [if_pos c]
              refine ih2 _ (by omega) (by omega) (fun k k0 k2 => ?_) (Or.inr ⟨i, by omega, by omega, by omega, rfl⟩)
              by_cases c2 : k = i
              · rw [c2]; exact Int.le_refl _
              · have := y2 k (by omega) k2
                omega
            · rw [if_neg c]
              refine ih2 y y0 y1 (fun k k0 k2 => ?_) y3
              by_cases c2 : k = i
              · rw [c2]; omega
              · exact y2 k (by omega) k2
  exact go ((M 93 8).toNat + 1) g 0 (by omega) (Int.le_refl _) (Int.le_refl _) g1 (gAt_0 _ _ _) (fun m r _ _ => nS_ge0 (fun i _ => by show 0 ≤ (if m.testBit i = true ∧ gB (M 93) i ≤ g then (1 : Int) else 0); split <;> decide)) (fun m r _ _ => nS_ge0 (fun i _ => by unfold pcF; split <;> decide))
end
