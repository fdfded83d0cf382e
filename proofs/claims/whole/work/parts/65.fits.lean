/-! STEP: fits. -/
theorem p18 {m : Nat} (h : m ≤ 18) : (2 : Nat) ^ m ≤ 262144 := by
  have h3 : (2 : Nat) ^ 18 = 262144 := by decide
  have := Nat.pow_le_pow_right (n := 2) (by decide) h
  omega
theorem msk_n {Q : Nat → Bool} {j : Nat} (hj : j < 18) (h : Q j = false) : iOr ((mskN Q j : Nat) : Int) 0 = ((mskN Q (j + 1) : Nat) : Int) := by
  have hm := mskN_lt (Q := Q) (n := j)
  have hp := p18 (m := j) (by omega)
  have e : mskN Q (j + 1) = mskN Q j ||| 0 := by show mskN Q j ||| (if Q j then 2 ^ j else 0) = _; rw [h]; rfl
  rw [e]
  exact n_or (b := 0) (by omega) (by decide)
theorem msk_y {Q : Nat → Bool} {j : Nat} (hj : j < 18) (h : Q j = true) : iOr ((mskN Q j : Nat) : Int) (iShl 1 (j : Int)) = ((mskN Q (j + 1) : Nat) : Int) := by
  have hm := mskN_lt (Q := Q) (n := j)
  have hp := p18 (m := j) (by omega)
  have e : mskN Q (j + 1) = mskN Q j ||| 2 ^ j := by show mskN Q j ||| (if Q j then 2 ^ j else 0) = _; rw [h]; rfl
  rw [e, z_bit (by omega) (by omega)]
  exact n_or (by omega) (by show 2 ^ j < _; omega)
noncomputable def crQ (S : Nat → Int) (law : Int) (i j : Nat) : Bool := @decide (i ≠ j ∧ crS S i j law) (Classical.propDecidable _)
theorem crQ_y {S : Nat → Int} {law : Int} {i j : Nat} (h : i ≠ j ∧ crS S i j law) : crQ S law i j = true := @decide_eq_true _ (Classical.propDecidable _) h
theorem crQ_n {S : Nat → Int} {law : Int} {i j : Nat} (h : ¬ (i ≠ j ∧ crS S i j law)) : crQ S law i j = false := @decide_eq_false _ (Classical.propDecidable _) h
theorem crQ_s (S : Nat → Int) (law : Int) (i j : Nat) : crQ S law i j = crQ S law j i := by
  by_cases c : i ≠ j ∧ crS S i j law
  · rw [crQ_y c, crQ_y ⟨Ne.symm c.1, c.2.sym⟩]
  · rw [crQ_n c, crQ_n (fun z => c ⟨Ne.symm z.1, z.2.sym⟩)]
section
variable {d : Nat} {P : Int → sM → sG → Prop} {PV : sM → sG → Prop} {M : sM} {G : sG}
theorem c242 {law : Int} (hd : 20 ≤ d) (h0 : 0 ≤ M 93 1) (h1 : M 93 1 ≤ 18) (hl : 0 ≤ law ∧ law ≤ 2) (kk : ∀ M' : sM, (∀ a, a ≠ 95 → M' a = M a) → (∀ i : Nat, (i : Int) < M 93 1 → M' 95 i = ((mskN (crQ (M 93) law i) (M 93 1).toNat : Nat) : Int)) → PV M' G) : sC d 242 [vO 12 82, vI law] M G (QV PV) := by
  obtain ⟨d, rfl⟩ := sD 3 (d := d) (by omega)
  refine e242 (s242_0 ?_)
  refine sUpTo (W := fun i => ∀ N : sM, (∀ a, a ≠ 95 → N a = M a) → (∀ k : Nat, k < i → N 95 k = ((mskN (crQ (M 93) law k) (M 93 1).toNat : Nat) : Int)) → sW (sC (d + 2)) 242 (QV PV) 2 [vO 12 82, vI law, vI (i : Int), vN] [] N G 0 0) (M 93 1).toNat ?_ ?_ M (fun _ _ => rfl) (fun k hk => absurd hk (Nat.not_lt_zero _))
  · intro N n1 n2
    have e1 : N 93 1 = M 93 1 := by rw [n1 93 (by decide)]
    refine (s242_2 ⟨fun q1 => ?_, fun q2 => ⟨⟨(by first | omega | assumption | (refine ⟨?_, ?_⟩ <;> omega) | (simp_all; done)), (by first | omega | assumption | (refine ⟨?_, ?_⟩ <;> omega) | (simp_all; done))⟩, ?_⟩⟩)
    · exact kk N n1 (fun i hi => n2 i (by omega))
    · omega
  · intro i hi ih N n1 n2
    have e1 : N 93 1 = M 93 1 := by rw [n1 93 (by decide)]
    refine (s242_2 ⟨fun q1 => ?_, fun q2 => ⟨⟨(by first | omega | assumption | (refine ⟨?_, ?_⟩ <;> omega) | (simp_all; done)), (by first | omega | assumption | (refine ⟨?_, ?_⟩ <;> omega) | (simp_all; done))⟩, ?_⟩⟩)
    · omega
    · refine sUpTo (W := fun j => ∀ N : sM, (∀ a, a ≠ 95 → N a = M a) → (∀ k : Nat, k < i → N 95 k = ((mskN (crQ (M 93) law k) (M 93 1).toNat : Nat) : Int)) → N 95 i = ((mskN (crQ (M 93) law i) j : Nat) : Int) → sW (sC (d + 2)) 242 (QV PV) 21 [vO 12 82, vI law, vI (i : Int), vI (j : Int)] [] N G 0 0) (M 93 1).toNat ?_ ?_ _ (fun a ha => (sUpd_ne ha).trans (n1 a ha)) (fun k hk => (sUpd_ni (by omega)).trans (n2 k hk)) sUpd_eq
      · intro N m1 m2 m3
        have e1 : N 93 1 = M 93 1 := by rw [m1 93 (by decide)]
        refine (s242_21 ⟨fun q1 => ⟨⟨by omega, by omega⟩, ?_⟩, fun q2 => ⟨⟨(by first | omega | assumption | (refine ⟨?_, ?_⟩ <;> omega) | (simp_all; done)), (by first | omega | assumption | (refine ⟨?_, ?_⟩ <;> omega) | (simp_all; done))⟩, fun q3 => ⟨⟨by omega, by omega⟩, ?_⟩, fun q4 => ?_⟩⟩)
        · refine ih N m1 (fun k hk => ?_)
          by_cases c : k = i
          · rw [c]; exact m3
          · exact m2 k (by omega)
        · omega
        · omega
      · intro j hj ih2 N m1 m2 m3
        have e93 : N 93 = M 93 := m1 93 (by decide)
        have e1 : N 93 1 = M 93 1 := by rw [e93]
        have m3' : N 95 ((i : Int)).toNat = ((mskN (crQ (M 93) law i) j : Nat) : Int) := m3
        have nx : ∀ N2 : sM, (∀ a, N2 a = N a) → sW (sC (d + 2)) 242 (QV PV) 21 [vO 12 82, vI law, vI (i : Int), vI ((j + 1 : Nat) : Int)] [] (sUpd N2 95 ((i : Int)).toNat ((mskN (crQ (M 93) law i) (j + 1) : Nat) : Int)) G 0 0 := fun N2 hN2 => by
          refine ih2 _ (fun a ha => (sUpd_ne ha).trans ((hN2 a).trans (m1 a ha))) (fun k hk => (sUpd_ni (by omega)).trans (by rw [hN2]; exact m2 k hk)) sUpd_eq
        refine (s242_21 ⟨fun q1 => ⟨⟨by omega, by omega⟩, ?_⟩, fun q2 => ⟨⟨(by first | omega | assumption | (refine ⟨?_, ?_⟩ <;> omega) | (simp_all; done)), (by first | omega | assumption | (refine ⟨?_, ?_⟩ <;> omega) | (simp_all; done))⟩, fun q3 => ⟨⟨by omega, by omega⟩, ?_⟩, fun q4 => ?_⟩⟩)
        · omega
        · have e : i = j := by omega
          have := nx N (fun _ => rfl)
          rw [m3', msk_n (by omega) (crQ_n (fun z => z.1 e))]
          exact this
        · refine c238 (by omega) (by omega) (by omega) (by omega) (by omega) hl (fun z => ?_) (fun z => ?_)
          · rw [e93] at z
            have := nx N (fun _ => rfl)
            refine ⟨fun q5 => ⟨⟨by omega, by omega⟩, ?_⟩, fun q6 => ⟨⟨by omega, by omega⟩, ?_⟩⟩
            · omega
            · rw [m3', msk_y (by omega) (crQ_y ⟨by omega, z⟩)]
              exact this
          · rw [e93] at z
            have := nx N (fun _ => rfl)
            refine ⟨fun q5 => ⟨⟨by omega, by omega⟩, ?_⟩, fun q6 => ⟨⟨by omega, by omega⟩, ?_⟩⟩
            · rw [m3', msk_n (by omega) (crQ_n (fun y => z y.2))]
              exact this
            · omega
/-- a pair of the set x that crosses, counted once both ways -/
noncomputable def prF (S : Nat → Int) (law : Int) (x : Nat) (i j : Nat) : Int := if x.testBit i = true ∧ x.testBit j = true ∧ crQ S law i j = true then 1 else 0
theorem prF_b (S : Nat → Int) (law : Int) (x i j : Nat) : 0 ≤ prF S law x i j ∧ prF S law x i j ≤ 1 := by unfold prF; split <;> decide
theorem prF_s (S : Nat → Int) (law : Int) (x i j : Nat) : prF S law x i j = prF S law x j i := by
  unfold prF
  rw [crQ_s S law i j]
  by_cases c : x.testBit i = true ∧ x.testBit j = true ∧ crQ S law j i = true
  · rw [if_pos c, if_pos ⟨c.2.1, c.1, c.2.2⟩]
  · rw [if_neg c, if_neg (fun z => c ⟨z.2.1, z.1, z.2.2⟩)]
theorem prF_0 (S : Nat → Int) (law : Int) (x i : Nat) : prF S law x i i = 0 := if_neg (fun z => by
  have := z.2.2
  rw [crQ_n (fun y => y.1 rfl)] at this
  exact absurd this (by decide))
theorem pc_pr {S : Nat → Int} {law : Int} {x i n : Nat} (hn : n ≤ 18) (hi : x.testBit i = true) : nS (pcF (mskN (crQ S law i) n &&& x)) 18 = nS (prF S law x i) n := by
  have e : ∀ k, n ≤ k → nS (pcF (mskN (crQ S law i) n &&& x)) k = nS (prF S law x i) n := fun k hk => by
    induction k with
    | zero => rw [show n = 0 by omega]; rfl
    | succ k ih =>
      by_cases c : n = k + 1
      · subst c
        refine nS_congr (fun j hj => ?_)
        unfold pcF prF
        rw [Nat.testBit_and, mskN_bit, decide_eq_true hj, hi, Bool.true_and]
        by_cases c2 : crQ S law i j = true ∧ x.testBit j = true
        · rw [c2.1, c2.2]; rfl
        · rw [if_neg (fun z => c2 (by rw [Bool.and_eq_true] at z; exact z)), if_neg (fun z => c2 ⟨z.2.2, z.2.1⟩)]
      · show nS _ k + pcF _ k = _
        have : pcF (mskN (crQ S law i) n &&& x) k = 0 := by
          unfold pcF
          rw [Nat.testBit_and, mskN_bit, decide_eq_false (by omega : ¬ k < n), Bool.false_and, Bool.false_and]
          rfl
        rw [this, Int.add_zero]
        exact ih (by omega)
  exact e 18 hn
theorem rng {n : Int} {x1 : Int} (n0 : 0 ≤ n) (n1 : n ≤ 18) (h0 : 0 ≤ x1) (h : x1 < iShl 1 n) : x1.toNat < 2 ^ n.toNat ∧ x1 < 262144 := by
  rw [z_bit n0 (by omega)] at h
  have := p18 (m := n.toNat) (by omega)
  omega
/-- pairs in order, before (i, j) -/
noncomputable def upF (S : Nat → Int) (law : Int) (x i : Nat) : Nat → Int := fun j => if i < j then prF S law x i j else 0
theorem upF_b (S : Nat → Int) (law : Int) (x i j : Nat) : 0 ≤ upF S law x i j ∧ upF S law x i j ≤ 1 := by
  unfold upF
  split
  · exact prF_b S law x i j
  · decide
noncomputable def upS (S : Nat → Int) (law : Int) (x n : Nat) : Nat → Int := fun i => nS (upF S law x i) n
theorem upS_b (S : Nat → Int) (law : Int) (x n i : Nat) : 0 ≤ upS S law x n i ∧ upS S law x n i ≤ n := by
  have h1 := nS_ge0 (f := upF S law x i) (n := n) (fun j _ => (upF_b S law x i j).1)
  have h2 := nS_le (f := upF S law x i) (c := 1) (n := n) (fun j _ => (upF_b S law x i j).2)
  unfold upS
  omega
theorem upF_low {S : Nat → Int} {law : Int} {x i : Nat} : ∀ {k : Nat}, k ≤ i + 1 → nS (upF S law x i) k = 0
  | 0, _ => rfl
  | k + 1, h => by
    show nS _ k + upF S law x i k = 0
    rw [upF_low (k := k) (by omega)]
    unfold upF
    rw [if_neg (by omega)]
    rfl
theorem c103 {law x1 : Int} (hd : 20 ≤ d) (hv0 : 0 ≤ M 93 1) (hv1 : M 93 1 ≤ 18) (ht : TR 14 M (M 93)) (h0 : 0 ≤ x1) (h1 : x1 < 262144) (kk : P (nS (upS (M 93) law x1.toNat (M 93 1).toNat) (M 93 1).toNat) M G) : sC d 103 [vO 10 14, vI x1, vI law] M G (QI P) := by
  obtain ⟨d, rfl⟩ := sD 3 (d := d) (by omega)
  have b6 := ht.1.2.1
  refine e103 (s103_0 ?_)
  refine sUpTo (W := fun i => sW (sC (d + 2)) 103 (QI P) 5 [vO 10 14, vI x1, vI law, vI (nS (upS (M 93) law x1.toNat (M 93 1).toNat) i), vI (i : Int), vN] [] M G 0 0) (M 93 1).toNat ?_ ?_
  · refine (s103_5 ⟨fun q1 => ?_, fun q2 => ⟨⟨by omega, by omega⟩, ?_⟩⟩)
    · exact kk
    · omega
  · intro i hi ih
    have hb0 := nS_ge0 (f := upS (M 93) law x1.toNat (M 93 1).toNat) (n := i) (fun j _ => (upS_b (M 93) law x1.toNat (M 93 1).toNat j).1)
    have hb1 := nS_le (f := upS (M 93) law x1.toNat (M 93 1).toNat) (c := 18) (n := i) (fun j _ => by have := (upS_b (M 93) law x1.toNat (M 93 1).toNat j).2; omega)
    refine (s103_5 ⟨fun q1 => ?_, fun q2 => ⟨⟨by omega, by omega⟩, ?_⟩⟩)
    · omega
    · have lp : ∀ m j : Nat, m + j = (M 93 1).toNat → i < j → sW (sC (d + 2)) 103 (QI P) 20 [vO 10 14, vI x1, vI law, vI (nS (upS (M 93) law x1.toNat (M 93 1).toNat) i + nS (upF (M 93) law x1.toNat i) j), vI (i : Int), vI (j : Int)] [] M G 0 0 := fun m => by
        induction m with
        | zero =>
          intro j hj hij
          refine (s103_20 ⟨fun q1 => ⟨⟨by omega, by omega⟩, ?_⟩, fun q2 => ⟨fun q3 => ⟨⟨by omega, by omega⟩, ?_⟩, fun q4 => ⟨fun q5 => ⟨⟨by omega, by omega⟩, ?_⟩, fun q6 => ?_⟩⟩⟩)
          all_goals try omega
          rw [show j = (M 93 1).toNat by omega]
          exact ih
        | succ m ih2 =>
          intro j hj hij
          have hc0 := nS_ge0 (f := upF (M 93) law x1.toNat i) (n := j) (fun k _ => (upF_b (M 93) law x1.toNat i k).1)
          have hc1 := nS_le (f := upF (M 93) law x1.toNat i) (c := 1) (n := j) (fun k _ => (upF_b (M 93) law x1.toNat i k).2)
          have nx := ih2 (j + 1) (by omega) (by omega)
          have hi1 := z_has1 h0 (by omega) (show (0 : Int) ≤ i by omega) (by omega)
          have hj1 := z_has1 h0 (by omega) (show (0 : Int) ≤ j by omega) (by omega)
          have n0 : upF (M 93) law x1.toNat i j = 0 → sW (sC (d + 2)) 103 (QI P) 20 [vO 10 14, vI x1, vI law, vI (nS (upS (M 93) law x1.toNat (M 93 1).toNat) i + nS (upF (M 93) law x1.toNat i) j), vI (i : Int), vI ((j + 1 : Nat) : Int)] [] M G 0 0 := fun h => by
            rw [nS_st h, Int.add_zero] at nx; exact nx
          have n1 : upF (M 93) law x1.toNat i j = 1 → sW (sC (d + 2)) 103 (QI P) 20 [vO 10 14, vI x1, vI law, vI ((nS (upS (M 93) law x1.toNat (M 93 1).toNat) i + nS (upF (M 93) law x1.toNat i) j) + 1), vI (i : Int), vI ((j + 1 : Nat) : Int)] [] M G 0 0 := fun h => by
            rw [nS_st h, ← Int.add_assoc] at nx; exact nx
          have u : ∀ (b : Bool), (x1.toNat.testBit i = true ∧ x1.toNat.testBit j = true ∧ crQ (M 93) law i j = true ↔ b = true) → upF (M 93) law x1.toNat i j = if b = true then 1 else 0 := fun b hb => by
            unfold upF prF
            rw [if_pos hij]
            by_cases c : b = true
            · rw [if_pos c, if_pos (hb.mpr c)]
            · rw [if_neg c, if_neg (fun z => c (hb.mp z))]
          refine (s103_20 ⟨fun q1 => ⟨⟨by omega, by omega⟩, ?_⟩, fun q2 => ⟨fun q3 => ⟨⟨by omega, by omega⟩, ?_⟩, fun q4 => ⟨fun q5 => ⟨⟨by omega, by omega⟩, ?_⟩, fun q6 => ?_⟩⟩⟩)
          · omega
          · exact n0 (u false ⟨fun z => absurd (hi1.mpr z.1) q3, fun z => absurd z (by decide)⟩)
          · exact n0 (u false ⟨fun z => absurd (hj1.mpr z.2.1) q5, fun z => absurd z (by decide)⟩)
          · refine c99 (by omega) hv1 ht (by omega) (by omega) (by omega) (by omega) (fun z => ?_) (fun z => ?_)
            · refine ⟨fun q7 => ⟨⟨by omega, by omega⟩, ?_⟩, fun q8 => ⟨⟨by omega, by omega⟩, ⟨by omega, by omega⟩, ?_⟩⟩
              · omega
              · exact n1 (u true ⟨fun _ => rfl, fun _ => ⟨hi1.mp q4, hj1.mp q6, crQ_y ⟨by omega, z⟩⟩⟩)
            · refine ⟨fun q7 => ⟨⟨by omega, by omega⟩, ?_⟩, fun q8 => ⟨⟨by omega, by omega⟩, ⟨by omega, by omega⟩, ?_⟩⟩
              · exact n0 (u false ⟨fun y => absurd y.2.2 (by rw [crQ_n (fun w => z w.2)]; decide), fun y => absurd y (by decide)⟩)
              · omega
      have := lp ((M 93 1).toNat - (i + 1)) (i + 1) (by omega) (by omega)
      rw [upF_low (Nat.le_refl _), Int.add_zero] at this
      exact this
end
