/-! THE STREET: all of it; the class's reader. -/
/-- a town that nobody is in -/
def cO (M : sM) : Prop := (∀ i, i < 6 → M 46 i = 0) ∧ M 42 13 = 0 ∧ M 42 14 = 0 ∧ ∀ i, i < 12 → M 54 i = -1 ∧ M 55 i = -1 ∧ M 56 i = -1
theorem cO.off {M M' : sM} (h : cO M) (e : offT M M') : cO M' := by
  unfold cO
  rw [e.2.1, e.2.2.1, e.2.2.2, e.1 54 (by decide), e.1 55 (by decide), e.1 56 (by decide)]
  exact h
section
variable {d n : Nat} {T : Nat → Int} {P : Int → sM → sG → Prop} {M : sM} {G : sG}
theorem st18 {d' q : Nat} {x2 x3 g : Int} {M1 : sM} (h : x2 = 0 ∨ g ≠ 0) (kk : P g (cS M1 q g) G) : sW (sC (d' + 1)) 18 (QI P) 12 [vO 4 3, vO 10 42, vI x2, vI x3, vN] [] (cS M1 q g) G 0 0 := by
  have e : cS M1 q g 3 3 = g := cS_f
  refine (s18_12 ⟨fun q1 => ?_, fun q2 => ⟨fun q3 => ?_, fun q4 => ⟨fun q5 => ?_, fun q6 => ⟨fun q7 => ?_, fun q12 => ?_⟩⟩⟩⟩)
  · rw [e]; exact kk
  · rw [e]; exact kk
  · rw [e]; exact kk
  · omega
  · omega
theorem c18 (hd : 20 ≤ d) (ho : tOk T n) (hT : cTp M T n) (kk : ∀ M' p', (∀ a, a ≠ 3 → ¬ (42 ≤ a ∧ a ≤ 56) → M' a = M a) → ((streetF T n 25 (0, 0, 0, (fun _ => 0), fun _ => 0)).1 = 0 → cR M' (streetF T n 25 (0, 0, 0, (fun _ => 0), fun _ => 0)).2 ∧ cO M') → P (streetF T n 25 (0, 0, 0, (fun _ => 0), fun _ => 0)).1 (cS M' p' (streetF T n 25 (0, 0, 0, (fun _ => 0), fun _ => 0)).1) G) : sC d 18 [vO 4 3, vO 10 42] M G (QI P) := by
  obtain ⟨d, rfl⟩ := sD 2 (d := d) (by omega)
  have key : ∀ r (σ : stT) (M1 : sM), r ≤ 25 → σ.1 ≤ n → cTp M1 T n → (∀ a, a ≠ 3 → ¬ (42 ≤ a ∧ a ≤ 56) → M1 a = M a) → cR M1 σ → cO M1 → (∀ M' p', (∀ a, a ≠ 3 → ¬ (42 ≤ a ∧ a ≤ 56) → M' a = M a) → ((streetF T n r σ).1 = 0 → cR M' (streetF T n r σ).2 ∧ cO M') → P (streetF T n r σ).1 (cS M' p' (streetF T n r σ).1) G) → sW (sC (d + 1)) 18 (QI P) 12 [vO 4 3, vO 10 42, vI 1, vI (25 - (r : Int)), vN] [] (cS M1 σ.1 0) G 0 0 := by
    intro r
    induction r with
    | zero =>
      intro σ M1 hr hp hT1 ho1 hR hO kk
      have e : cS M1 σ.1 0 3 3 = 0 := cS_f
      refine (s18_12 ⟨fun q1 => ?_, fun q2 => ⟨fun q3 => ?_, fun q4 => ⟨fun q5 => ?_, fun q6 => ⟨fun q7 => ?_, fun q12 => ?_⟩⟩⟩⟩)
      · rw [e]; exact kk M1 σ.1 ho1 (fun _ => ⟨hR, hO⟩)
      all_goals omega
    | succ r ih =>
      intro σ M1 hr hp hT1 ho1 hR hO kk
      have hsi : sI (25 - ((r + 1 : Nat) : Int) + 1) := ⟨by omega, by omega⟩
      have e : cS M1 σ.1 0 3 3 = 0 := cS_f
      obtain ⟨c, hc⟩ : ∃ c, c = clauseF T n (decide (1 ≤ r)) σ := ⟨_, rfl⟩
      have hcl : c.2.1 ≤ n := by rw [hc]; exact clauseF_le hp
      have hS : streetF T n (r + 1) σ = if c.1 ≠ 0 then (c.1, σ) else if chr T n (blk T n c.2.1) = 59 then streetF T n r (blk T n c.2.1 + 1, c.2.2) else if chr T n (blk T n c.2.1) = -1 then (0, c.2) else (1 + 8 * (blk T n c.2.1 : Int), σ) := by rw [hc]; rfl
      -- behind a clause that was none
      have bad : ∀ (g : Int) p', p' ≤ n → g ≠ 0 → c.1 = g → ∀ q, P g (cS M1 q g) G := fun g p' _ hg hcg q => by
        have := kk M1 q ho1 (fun z => absurd z (by rw [hS, if_pos (by rw [hcg]; exact hg), hcg]; exact hg))
        rw [hS, if_pos (by rw [hcg]; exact hg), hcg] at this
        exact this
      have h400 := ho.1
      have chrv : ∀ q, chr T n q = if q < n then T q else -1 := fun q => rfl
      have fin : ∀ x2 : Int, x2 = (if (decide (1 ≤ r)) = true then 1 else 0) → sC (d + 1) 21 [vO 4 3, vO 10 42, vI x2] (cS M1 σ.1 0) G (QV (fun M1' G1 => sC (d + 1) 22 [vO 4 3] M1' G1 (QI (fun r2 M2 G2 => (r2 ≠ 59 → (r2 = -1 → sI (25 - ((r + 1 : Nat) : Int) + 1) ∧ sW (sC (d + 1)) 18 (QI P) 12 [vO 4 3, vO 10 42, vI 0, vI (25 - ((r + 1 : Nat) : Int) + 1), vN] [] M2 G2 0 0) ∧ (r2 ≠ -1 → sC (d + 1) 24 [vO 4 3, vI 0] M2 G2 (QV (fun M3 G3 => sI (25 - ((r + 1 : Nat) : Int) + 1) ∧ sW (sC (d + 1)) 18 (QI P) 12 [vO 4 3, vO 10 42, vI 0, vI (25 - ((r + 1 : Nat) : Int) + 1), vN] [] M3 G3 0 0)))) ∧ (r2 = 59 → sI (M2 3 2 + 1) ∧ sI (25 - ((r + 1 : Nat) : Int) + 1) ∧ sW (sC (d + 1)) 18 (QI P) 12 [vO 4 3, vO 10 42, vI 1, vI (25 - ((r + 1 : Nat) : Int) + 1), vN] [] (sUpd M2 3 2 (M2 3 2 + 1)) G2 0 0))))) := by
        intro x2 hx
        refine c21 (by omega) ho hT1 hp hR hx (fun p' hp' hz => ?_) (fun hz M' o1 o2 => ?_)
        · rw [← hc] at hz ⊢
          refine c22 (by omega) ho hT1 hp' ?_
          have hb : blk T n p' ≤ n := run_le hp'
          refine ⟨fun y1 => ⟨fun y2 => ⟨hsi, st18 (Or.inl rfl) (bad _ p' hp' hz rfl _)⟩, fun y2 => ?_⟩, fun y => ⟨?_, hsi, ?_⟩⟩
          · refine c24 (by omega) ⟨by omega, by decide, by decide⟩ ?_
            rw [if_neg hz]
            exact ⟨hsi, st18 (Or.inl rfl) (bad _ p' hp' hz rfl _)⟩
          · rw [cS_p]; exact ⟨by omega, by omega⟩
          · rw [cS_p, show ((blk T n p' : Nat) : Int) + 1 = ((blk T n p' + 1 : Nat) : Int) from rfl, cS_up]
            exact st18 (Or.inr hz) (bad _ p' hp' hz rfl _)
        · rw [← hc] at hz o2 ⊢
          have hT2 := hT1.off o1
          have ho2 : ∀ a, a ≠ 3 → ¬ (42 ≤ a ∧ a ≤ 56) → M' a = M a := fun a h3 ha => (o1.1 a (by omega)).trans (ho1 a h3 ha)
          have hO2 := hO.off o1
          have hb : blk T n c.2.1 ≤ n := run_le hcl
          refine c22 (by omega) ho hT2 hcl ?_
          rw [if_neg (fun y => y hz)] at hS
          have hv := chrv (blk T n c.2.1)
          refine ⟨fun y1 => ⟨fun y2 => ⟨hsi, st18 (Or.inl rfl) ?_⟩, fun y2 => ?_⟩, fun y => ⟨?_, hsi, ?_⟩⟩
          · rw [if_neg y1, if_pos y2] at hS
            have := kk M' (blk T n c.2.1) ho2 (fun _ => by rw [hS]; exact ⟨o2, hO2⟩)
            rw [hS] at this
            exact this
          · rw [if_neg y1, if_neg y2] at hS
            refine c24 (by omega) ⟨by omega, by decide, by decide⟩ ?_
            rw [if_pos rfl, show 1 + 8 * (blk T n c.2.1 : Int) + 0 = 1 + 8 * (blk T n c.2.1 : Int) by omega]
            have := kk M' (blk T n c.2.1) ho2 (fun z => absurd z (by rw [hS]; show ¬ (1 + 8 * (blk T n c.2.1 : Int) = 0); omega))
            rw [hS] at this
            exact ⟨hsi, st18 (Or.inl rfl) this⟩
          · rw [cS_p]; exact ⟨by omega, by omega⟩
          · rw [if_pos y] at hS
            have hlt : blk T n c.2.1 < n := by
              by_cases z : blk T n c.2.1 < n
              · exact z
              · rw [if_neg z] at hv; omega
            rw [cS_p, show ((blk T n c.2.1 : Nat) : Int) + 1 = ((blk T n c.2.1 + 1 : Nat) : Int) from rfl, cS_up, show 25 - ((r + 1 : Nat) : Int) + 1 = 25 - (r : Int) by omega]
            rw [hS] at kk
            exact ih (blk T n c.2.1 + 1, c.2.2) M' (by omega) hlt hT2 ho2 o2 hO2 kk
      refine (s18_12 ⟨fun q1 => ?_, fun q2 => ⟨fun q3 => ?_, fun q4 => ⟨fun q5 => ?_, fun q6 => ⟨fun q7 => ?_, fun q12 => ?_⟩⟩⟩⟩)
      · omega
      · omega
      · omega
      · exact fin 0 (by rw [if_neg (by rw [decide_eq_true_iff]; omega)])
      · exact fin 1 (by rw [if_pos (by rw [decide_eq_true_iff]; omega)])
  have e0 : sUpd (sUpd M 3 2 0) 3 3 0 = cS M 0 0 := by
    funext a i
    unfold sUpd cS
    by_cases c3 : a = 3 ∧ i = 3
    · rw [if_pos c3, if_neg (by omega), if_pos c3]
    · rw [if_neg c3]
      by_cases c2 : a = 3 ∧ i = 2
      · rw [if_pos c2, if_pos c2]; rfl
      · rw [if_neg c2, if_neg c2, if_neg c3]
  refine e18 (s18_0 ?_)
  rw [e0]
  refine e5 (s5_0 ?_)
  refine c6 (by omega) (by decide) (by decide) ?_
  refine c6 (by omega) (by decide) (by decide) ?_
  refine c6 (by omega) (by decide) (by decide) ?_
  refine c6 (by omega) (by decide) (by decide) ?_
  obtain ⟨X, hX⟩ : ∃ X, X = sFill (sFill (sFill (sFill (sUpd (sUpd (sUpd (sUpd (cS M 0 0) 42 0 0) 42 6 0) 42 13 0) 42 14 0) (42 + 4) (6 : Int).toNat 0) (42 + 12) (12 : Int).toNat (-1)) (42 + 13) (12 : Int).toNat (-1)) (42 + 14) (12 : Int).toNat (-1) := ⟨_, rfl⟩
  rw [← hX]
  have ox : ∀ a, ¬ (42 ≤ a ∧ a ≤ 56) → X a = cS M 0 0 a := fun a ha => by
    rw [hX, sFill_ne (by omega), sFill_ne (by omega), sFill_ne (by omega), sFill_ne (by omega), sUpd_ne (by omega), sUpd_ne (by omega), sUpd_ne (by omega), sUpd_ne (by omega)]
  have e46 : ∀ i, i < 6 → X 46 i = 0 := fun i hi => by
    rw [hX, sFill_ne (show (46 : Nat) ≠ 42 + 14 by decide), sFill_ne (show (46 : Nat) ≠ 42 + 13 by decide), sFill_ne (show (46 : Nat) ≠ 42 + 12 by decide)]
    exact sFill_at hi
  have e54 : ∀ i, i < 12 → X 54 i = -1 := fun i hi => by
    rw [hX, sFill_ne (show (54 : Nat) ≠ 42 + 14 by decide), sFill_ne (show (54 : Nat) ≠ 42 + 13 by decide)]
    exact sFill_at hi
  have e55 : ∀ i, i < 12 → X 55 i = -1 := fun i hi => by
    rw [hX, sFill_ne (show (55 : Nat) ≠ 42 + 14 by decide)]
    exact sFill_at hi
  have e56 : ∀ i, i < 12 → X 56 i = -1 := fun i hi => by
    rw [hX]
    exact sFill_at hi
  have e42 : ∀ i, i = 0 ∨ i = 6 ∨ i = 13 ∨ i = 14 → X 42 i = 0 := fun i hi => by
    rw [hX, sFill_ne (show (42 : Nat) ≠ 42 + 14 by decide), sFill_ne (show (42 : Nat) ≠ 42 + 13 by decide), sFill_ne (show (42 : Nat) ≠ 42 + 12 by decide), sFill_ne (show (42 : Nat) ≠ 42 + 4 by decide)]
    rcases hi with hi | hi | hi | hi <;> rw [hi] <;> rfl
  have hXs : cS X 0 0 = X := cS_self.2 ⟨by rw [ox 3 (by decide)]; exact cS_p, by rw [ox 3 (by decide)]; exact cS_f⟩
  rw [← hXs]
  refine key 25 (0, 0, 0, (fun _ => 0), fun _ => 0) X (Nat.le_refl _) (Nat.zero_le _) ?_ (fun a h3 ha => by rw [ox a ha, cS_a h3]) ⟨e42 0 (by decide), e42 6 (by decide), by decide, by decide, fun h hh => absurd hh (Nat.not_lt_zero h), fun h hh => absurd hh (Nat.not_lt_zero h)⟩ ⟨e46, e42 13 (by decide), e42 14 (by decide), fun i hi => ⟨e54 i hi, e55 i hi, e56 i hi⟩⟩ kk
  unfold cTp
  rw [ox 3 (by decide), ox 4 (by decide), cS_a (show (4 : Nat) ≠ 3 by decide), cS_o (by decide)]
  exact hT
end
