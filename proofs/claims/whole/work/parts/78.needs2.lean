/-! WHO NEEDS WHOM: the class's rows and the reference's. -/
section
variable {d : Nat} {P : Int → sM → sG → Prop} {PV : sM → sG → Prop} {M : sM} {G : sG} {B : Int}
theorem c137 (hd : 20 ≤ d) (hv : vTown B (M 93)) (ht : TR 14 M (M 93)) (kk : ∀ M' : sM, (∀ a, a ≠ 77 → M' a = M a) → (∀ k : Nat, k < 12 → M' 77 k = ((ndS (M 93) 0 k : Nat) : Int)) → PV M' G) : sC d 137 [vO 5 76, vO 10 14] M G (QV PV) := by
  obtain ⟨d, rfl⟩ := sD 12 (d := d) (by omega)
  refine e137 (s137_0 ?_)
  refine sUpTo (W := fun i => ∀ N : sM, (∀ a, a ≠ 77 → N a = M a) → (∀ k : Nat, k < i → N 77 k = ((ndS (M 93) 0 k : Nat) : Int)) → sW (sC (d + 11)) 137 (QV PV) 2 [vO 5 76, vO 10 14, vI (i : Int), vN, vN] [] N G 0 0) 12 ?_ ?_ M (fun _ _ => rfl) (fun k hk => absurd hk (Nat.not_lt_zero _))
  · intro N n1 n2
    refine (s137_2 ⟨fun q1 => ?_, fun q2 => ⟨⟨(by first | omega | assumption | (refine ⟨?_, ?_⟩ <;> omega) | (simp_all; done)), (by first | omega | assumption | (refine ⟨?_, ?_⟩ <;> omega) | (simp_all; done))⟩, fun q3 => ⟨⟨by omega, by omega⟩, ?_⟩, fun q4 => ⟨fun q5 => ⟨⟨by omega, by omega⟩, ?_⟩, fun q6 => ?_⟩⟩⟩)
    · exact kk N n1 n2
    all_goals omega
  · intro i hi ih N n1 n2
    have hpv := hv.2.2.2.1 (i : Int) (by omega) (by omega)
    have e93 : N 93 = M 93 := n1 93 (by decide)
    have tp := ht.2.2.2.1 (i : Int) (by omega) (by omega)
    have e26 : N 26 ((i : Int)).toNat = pO (M 93) i 0 := by rw [n1 26 (by decide)]; exact tp.1
    have e28 : ∀ x : Int, (sUpd N 77 ((i : Int)).toNat x) 28 ((i : Int)).toNat = pO (M 93) i 3 := fun x => by rw [sUpd_ne (by decide), n1 28 (by decide)]; exact tp.2.2
    have e26' : ∀ (x : Int) (w : Int), 0 ≤ w → w < 12 → (sUpd N 77 ((i : Int)).toNat x) 26 w.toNat = pO (M 93) w 0 := fun x w w0 w1 => by rw [sUpd_ne (by decide), n1 26 (by decide)]; exact (ht.2.2.2.1 w w0 w1).1
    have e14 : N 14 0 = M 93 0 := by rw [n1 14 (by decide)]; exact ht.1.1
    have nx : ∀ N2 : sM, (∀ a, a ≠ 77 → N2 a = N a) → (∀ k : Nat, k ≠ i → N2 77 k = N 77 k) → N2 77 i = ((ndS (M 93) 0 i : Nat) : Int) → sW (sC (d + 11)) 137 (QV PV) 2 [vO 5 76, vO 10 14, vI ((i + 1 : Nat) : Int), vN, vN] [] N2 G 0 0 := fun N2 a1 a2 a3 => ih N2 (fun a ha => (a1 a ha).trans (n1 a ha)) (fun k hk => by
      by_cases c : k = i
      · rw [c]; exact a3
      · rw [a2 k c]; exact n2 k (by omega))
    have no0 : pO (M 93) i 0 < 0 → sW (sC (d + 11)) 137 (QV PV) 2 [vO 5 76, vO 10 14, vI ((i + 1 : Nat) : Int), vN, vN] [] (sUpd N 77 ((i : Int)).toNat 0) G 0 0 := fun z => nx _ (fun a ha => sUpd_ne ha) (fun k hk => sUpd_ni hk) (by
      rw [ndS_0 (fun o ho w => by have := w.1; omega)]
      exact sUpd_eq)
    refine (s137_2 ⟨fun q1 => ?_, fun q2 => ⟨⟨(by first | omega | assumption | (refine ⟨?_, ?_⟩ <;> omega) | (simp_all; done)), (by first | omega | assumption | (refine ⟨?_, ?_⟩ <;> omega) | (simp_all; done))⟩, fun q3 => ⟨⟨by omega, by omega⟩, ?_⟩, fun q4 => ⟨fun q5 => ⟨⟨by omega, by omega⟩, ?_⟩, fun q6 => ?_⟩⟩⟩)
    · omega
    · exact no0 (by omega)
    · omega
    · have q4' := q4
      rw [e26] at q4'
      rw [e26]
      refine c138 (by omega) hv ((show TR 14 (sUpd N 77 ((i : Int)).toNat 0) (M 93) from ht.congr (fun a a1 a2 => by rw [sUpd_ne (by omega), n1 a (by omega)]))) (by omega) (by omega) q4' (fun m m0 m1 => ?_)
      have fin : m = ndS (M 93) 0 i → sW (sC (d + 11)) 137 (QV PV) 2 [vO 5 76, vO 10 14, vI ((i + 1 : Nat) : Int), vN, vN] [] (sUpd (sUpd N 77 ((i : Int)).toNat 0) 77 ((i : Int)).toNat (m : Int)) G 0 0 := fun z => nx _ (fun a ha => (sUpd_ne ha).trans (sUpd_ne ha)) (fun k hk => (sUpd_ni hk).trans (sUpd_ni hk)) (by rw [← z]; exact sUpd_eq)
      have own : (∀ o : Nat, o < 12 → (o : Int) = pO (M 93) i 3 → pO (M 93) o 0 = pO (M 93) i 0) → m = ndS (M 93) 0 i := fun z => ndS_of m0 (fun o ho => by
        rw [m1 o ho]
        unfold nOf
        rw [Nat.zero_testBit, Nat.zero_testBit]
        refine ⟨fun w => ⟨q4', by decide, Or.inl ⟨w, by decide⟩⟩, fun ⟨_, _, w⟩ => ?_⟩
        rcases w with ⟨w, _⟩ | ⟨w1, w2 | w2⟩
        · exact w
        · exact absurd (z o ho w1) w2
        · exact absurd w2 (by decide))
      refine ⟨fun q7 => ⟨⟨by omega, by omega⟩, ?_⟩, fun q8 => ⟨fun q9 => ⟨⟨by omega, by omega⟩, ?_⟩, fun q10 => ⟨⟨(by first | omega | assumption | (refine ⟨?_, ?_⟩ <;> omega) | (simp_all; done)), (by first | omega | assumption | (refine ⟨?_, ?_⟩ <;> omega) | (simp_all; done))⟩, fun q11 => ⟨⟨by omega, by omega⟩, ?_⟩, fun q12 => ⟨⟨by omega, by omega⟩, ?_⟩⟩⟩⟩
      · rw [e28] at q7
        exact fin (own (fun o ho z => by omega))
      · rw [e28] at q9; omega
      · have q8' := q8; have q10' := q10; have q11' := q11
        rw [e28] at q8' q10' q11'
        rw [e26' _ _ q8' (by omega)] at q11'
        exact fin (own (fun o ho z => by rw [z]; exact q11'))
      · have q8' := q8; have q10' := q10; have q12' := q12
        rw [e28] at q8' q10' q12'
        rw [e26' _ _ q8' (by omega)] at q12'
        obtain ⟨o1, o2⟩ := or_bit m0 q8' q10'
        rw [e28, sUpd_eq, o1]
        refine nx _ (fun a ha => (sUpd_ne ha).trans ((sUpd_ne ha).trans (sUpd_ne ha))) (fun k hk => (sUpd_ni hk).trans ((sUpd_ni hk).trans (sUpd_ni hk))) ?_
        rw [← ndS_of o2 (fun o ho => ?_)]
        · exact sUpd_eq
        · rw [or_tb, m1 o ho]
          unfold nOf
          rw [Nat.zero_testBit, Nat.zero_testBit]
          refine ⟨fun w => ⟨q4', by decide, ?_⟩, fun ⟨_, _, w⟩ => ?_⟩
          · rcases w with w | w
            · exact Or.inl ⟨w, by decide⟩
            · have e : (o : Int) = pO (M 93) i 3 := by omega
              exact Or.inr ⟨e, Or.inl (by rw [e]; exact q12')⟩
          · rcases w with ⟨w, _⟩ | ⟨w1, _⟩
            · exact Or.inl w
            · right; omega
    all_goals omega
theorem c258 {x1 : Int} (hd : 20 ≤ d) (hv : vTown B (M 93)) (h0 : 0 ≤ x1) (h1 : x1 < 4096) (kk : ∀ M' : sM, (∀ a, a ≠ 101 → M' a = M a) → (∀ k : Nat, k < 12 → M' 101 k = ((ndS (M 93) x1.toNat k : Nat) : Int)) → PV M' G) : sC d 258 [vO 12 82, vI x1] M G (QV PV) := by
  obtain ⟨d, rfl⟩ := sD 12 (d := d) (by omega)
  have hs := hv.1.1
  refine e258 (s258_0 ?_)
  refine sUpTo (W := fun i => ∀ N : sM, (∀ a, a ≠ 101 → N a = M a) → (∀ k : Nat, k < i → N 101 k = ((ndS (M 93) x1.toNat k : Nat) : Int)) → sW (sC (d + 11)) 258 (QV PV) 2 [vO 12 82, vI x1, vI (i : Int), vN, vN, vN, vN] [] N G 0 0) 12 ?_ ?_ M (fun _ _ => rfl) (fun k hk => absurd hk (Nat.not_lt_zero _))
  · intro N n1 n2
    refine (s258_2 ⟨fun q1 => ?_, fun q2 => ⟨⟨(by first | omega | assumption | (refine ⟨?_, ?_⟩ <;> omega) | (simp_all; done)), (by first | omega | assumption | (refine ⟨?_, ?_⟩ <;> omega) | (simp_all; done))⟩, ⟨by omega, by omega⟩, ⟨by omega, by omega⟩, ⟨by omega, by omega⟩, ⟨(by first | omega | assumption | (refine ⟨?_, ?_⟩ <;> omega) | (simp_all; done)), (by first | omega | assumption | (refine ⟨?_, ?_⟩ <;> omega) | (simp_all; done))⟩, fun q3 => ?_, fun q4 => ⟨fun q5 => ⟨⟨by omega, by omega⟩, ⟨by omega, by omega⟩, ⟨by omega, by omega⟩, ⟨(by first | omega | assumption | (refine ⟨?_, ?_⟩ <;> omega) | (simp_all; done)), (by first | omega | assumption | (refine ⟨?_, ?_⟩ <;> omega) | (simp_all; done))⟩, ?_⟩, fun q6 => ?_⟩⟩⟩)
    · exact kk N n1 n2
    all_goals omega
  · intro i hi ih N n1 n2
    have hpv := hv.2.2.2.1 (i : Int) (by omega) (by omega)
    have e93 : N 93 = M 93 := n1 93 (by decide)
    have gi := z_has1 h0 (by omega) (show (0 : Int) ≤ i by omega) (by omega)
    have gi' : x1.toNat.testBit ((i : Int)).toNat = x1.toNat.testBit i := rfl
    rw [gi'] at gi
    have e0 : N 93 ((136 + (5 * (i : Int))) + 0).toNat = pO (M 93) i 0 := by rw [e93]; rfl
    have nx : ∀ N2 : sM, (∀ a, a ≠ 101 → N2 a = M a) → (∀ k : Nat, k < i → N2 101 k = ((ndS (M 93) x1.toNat k : Nat) : Int)) → N2 101 i = ((ndS (M 93) x1.toNat i : Nat) : Int) → sW (sC (d + 11)) 258 (QV PV) 197 [vO 12 82, vI x1, vI (i : Int), vN, vN, vN, vN] [] N2 G 0 0 := fun N2 a1 a2 a3 => by
      refine (s258_197 ⟨⟨by omega, by omega⟩, ?_⟩)
      exact ih N2 a1 (fun k hk => by
        by_cases c : k = i
        · rw [c]; exact a3
        · exact a2 k (by omega))
    have no0 : (∀ o : Nat, o < 12 → ¬ nOf (M 93) x1.toNat i o) → sW (sC (d + 11)) 258 (QV PV) 197 [vO 12 82, vI x1, vI (i : Int), vN, vN, vN, vN] [] (sUpd N 101 ((i : Int)).toNat 0) G 0 0 := fun z => nx _ (fun a ha => (sUpd_ne ha).trans (n1 a ha)) (fun k hk => (sUpd_ni (show k ≠ i by omega)).trans (n2 k hk)) (by
      rw [ndS_0 z]; exact sUpd_eq)
    refine (s258_2 ⟨fun q1 => ?_, fun q2 => ⟨⟨(by first | omega | assumption | (refine ⟨?_, ?_⟩ <;> omega) | (simp_all; done)), (by first | omega | assumption | (refine ⟨?_, ?_⟩ <;> omega) | (simp_all; done))⟩, ⟨by omega, by omega⟩, ⟨by omega, by omega⟩, ⟨by omega, by omega⟩, ⟨(by first | omega | assumption | (refine ⟨?_, ?_⟩ <;> omega) | (simp_all; done)), (by first | omega | assumption | (refine ⟨?_, ?_⟩ <;> omega) | (simp_all; done))⟩, fun q3 => ?_, fun q4 => ⟨fun q5 => ⟨⟨by omega, by omega⟩, ⟨by omega, by omega⟩, ⟨by omega, by omega⟩, ⟨(by first | omega | assumption | (refine ⟨?_, ?_⟩ <;> omega) | (simp_all; done)), (by first | omega | assumption | (refine ⟨?_, ?_⟩ <;> omega) | (simp_all; done))⟩, ?_⟩, fun q6 => ?_⟩⟩⟩)
    · omega
    · rw [e0] at q3
      exact no0 (fun o ho w => by have := w.1; omega)
    · have q4' := q4
      rw [e0] at q4'
      have hov := (hv.2.1 (pO (M 93) i 0) q4' hpv.1.2).1
      have ng : ¬ x1.toNat.testBit i = true := fun z => q5 (gi.mpr z)
      have eh : N 93 ((10 + (3 * pO (M 93) i 0)) + 0).toNat = hO (M 93) (pO (M 93) i 0) 0 := by rw [e93]; rfl
      rw [e0, eh]
      refine sUpTo (W := fun j => ∀ N2 : sM, (∀ a, a ≠ 101 → N2 a = M a) → (∀ k : Nat, k < i → N2 101 k = ((ndS (M 93) x1.toNat k : Nat) : Int)) → ∀ m : Nat, m < 4096 → N2 101 i = (m : Int) → (∀ o : Nat, m.testBit o = true ↔ o < j ∧ nIn (M 93) i o ∧ ¬ x1.toNat.testBit o = true) → sW (sC (d + 11)) 258 (QV PV) 48 [vO 12 82, vI x1, vI (i : Int), vI (pO (M 93) i 0), vI (hO (M 93) (pO (M 93) i 0) 0), vI (j : Int), vN] [] N2 G 0 0) 12 ?_ ?_ _ (fun a ha => (sUpd_ne ha).trans (n1 a ha)) (fun k hk => (sUpd_ni (show k ≠ i by omega)).trans (n2 k hk)) 0 (by decide) sUpd_eq (fun o => by rw [Nat.zero_testBit]; exact ⟨fun z => absurd z (by decide), fun z => absurd z.1 (Nat.not_lt_zero _)⟩)
      · intro N2 a1 a2 m m0 m1 m2
        have e93b : N2 93 = M 93 := a1 93 (by decide)
        have e3 : N2 93 ((136 + (5 * (i : Int))) + 3).toNat = pO (M 93) i 3 := by rw [e93b]; rfl
        have ew : N2 93 ((136 + (5 * pO (M 93) i 3)) + 0).toNat = pO (M 93) (pO (M 93) i 3) 0 := by rw [e93b]; rfl
        have m1' : N2 101 ((i : Int)).toNat = (m : Int) := m1
        have own : (∀ o : Nat, o < 12 → (o : Int) = pO (M 93) i 3 → pO (M 93) o 0 = pO (M 93) i 0 ∧ ¬ x1.toNat.testBit o = true) → m = ndS (M 93) x1.toNat i := fun z => ndS_of m0 (fun o ho => by
          rw [m2 o]
          refine ⟨fun w => ⟨q4', ng, Or.inl w.2⟩, fun ⟨_, _, w⟩ => ?_⟩
          rcases w with w | ⟨w1, w2 | w2⟩
          · exact ⟨ho, w⟩
          · exact absurd (z o ho w1).1 w2
          · exact absurd w2 (z o ho w1).2)
        have oth : 0 ≤ pO (M 93) i 3 → (pO (M 93) (pO (M 93) i 3) 0 ≠ pO (M 93) i 0 ∨ x1.toNat.testBit (pO (M 93) i 3).toNat = true) → sW (sC (d + 11)) 258 (QV PV) 184 [vO 12 82, vI x1, vI (i : Int), vN, vN, vI (pO (M 93) i 3), vN] [] N2 G 0 0 := fun z0 z => by
          obtain ⟨o1, o2⟩ := or_bit m0 z0 (by omega)
          refine (s258_184 ⟨⟨(by first | omega | assumption | (refine ⟨?_, ?_⟩ <;> omega) | (simp_all; done)), (by first | omega | assumption | (refine ⟨?_, ?_⟩ <;> omega) | (simp_all; done))⟩, ?_⟩)
          rw [m1', o1]
          refine nx _ (fun a ha => (sUpd_ne ha).trans (a1 a ha)) (fun k hk => (sUpd_ni (show k ≠ i by omega)).trans (a2 k hk)) ?_
          rw [← ndS_of o2 (fun o ho => ?_)]
          · exact sUpd_eq
          · rw [or_tb, m2 o]
            refine ⟨fun w => ⟨q4', ng, ?_⟩, fun ⟨_, _, w⟩ => ?_⟩
            · rcases w with w | w
              · exact Or.inl w.2
              · have e : (o : Int) = pO (M 93) i 3 := by omega
                refine Or.inr ⟨e, ?_⟩
                rw [e, ← w]
                exact z
            · rcases w with w | ⟨w1, _⟩
              · exact Or.inl ⟨ho, w⟩
              · right; omega
        have ownK : m = ndS (M 93) x1.toNat i → sW (sC (d + 11)) 258 (QV PV) 197 [vO 12 82, vI x1, vI (i : Int), vN, vN, vN, vN] [] N2 G 0 0 := fun z => nx N2 a1 a2 (by rw [← z]; exact m1)
        have gw := fun (z0 : 0 ≤ pO (M 93) i 3) => z_has1 h0 (by omega) z0 (by omega)
        rw [← e3] at ew
        refine (s258_48 ⟨fun q1 => ⟨⟨by omega, by omega⟩, ⟨by omega, by omega⟩, ⟨by omega, by omega⟩, ⟨(by first | omega | assumption | (refine ⟨?_, ?_⟩ <;> omega) | (simp_all; done)), (by first | omega | assumption | (refine ⟨?_, ?_⟩ <;> omega) | (simp_all; done))⟩, fun q2 => ?_, fun q3 => ⟨⟨by omega, by omega⟩, ⟨by omega, by omega⟩, ⟨by omega, by omega⟩, ⟨(by first | omega | assumption | (refine ⟨?_, ?_⟩ <;> omega) | (simp_all; done)), (by first | omega | assumption | (refine ⟨?_, ?_⟩ <;> omega) | (simp_all; done))⟩, fun q4 => ?_, fun q5 => ⟨fun q6 => ?_, fun q7 => ?_⟩⟩⟩, fun q8 => ⟨⟨by omega, by omega⟩, ⟨by omega, by omega⟩, ⟨by omega, by omega⟩, ⟨(by first | omega | assumption | (refine ⟨?_, ?_⟩ <;> omega) | (simp_all; done)), (by first | omega | assumption | (refine ⟨?_, ?_⟩ <;> omega) | (simp_all; done))⟩, fun q9 => ?_, fun q10 => ⟨fun q11 => ⟨fun q12 => ⟨⟨by omega, by omega⟩, ⟨(by first | omega | assumption | (refine ⟨?_, ?_⟩ <;> omega) | (simp_all; done)), (by first | omega | assumption | (refine ⟨?_, ?_⟩ <;> omega) | (simp_all; done))⟩, ⟨by omega, by omega⟩, ⟨by omega, by omega⟩, ⟨by omega, by omega⟩, ⟨(by first | omega | assumption | (refine ⟨?_, ?_⟩ <;> omega) | (simp_all; done)), (by first | omega | assumption | (refine ⟨?_, ?_⟩ <;> omega) | (simp_all; done))⟩, fun q13 => ⟨⟨(by first | omega | assumption | (refine ⟨?_, ?_⟩ <;> omega) | (simp_all; done)), (by first | omega | assumption | (refine ⟨?_, ?_⟩ <;> omega) | (simp_all; done))⟩, fun q14 => ⟨fun q15 => ?_, fun q16 => ?_⟩, fun q17 => ⟨fun q18 => ?_, fun q19 => ?_⟩⟩, fun q20 => ⟨⟨(by first | omega | assumption | (refine ⟨?_, ?_⟩ <;> omega) | (simp_all; done)), (by first | omega | assumption | (refine ⟨?_, ?_⟩ <;> omega) | (simp_all; done))⟩, fun q21 => ⟨fun q22 => ?_, fun q23 => ?_⟩, fun q24 => ?_⟩⟩, fun q25 => ?_⟩, fun q26 => ?_⟩⟩⟩)
        · exact ownK (own (fun o ho z => by omega))
        · rw [ew] at q4
          rw [e3] at q3 q4 ⊢
          exact oth q3 (Or.inl q4)
        · rw [ew] at q5
          rw [e3] at q3 q5 q6
          exact ownK (own (fun o ho z => ⟨by rw [z]; exact q5, fun y => q6 ((gw q3).mpr (by rw [← z]; exact y))⟩))
        · rw [ew] at q5
          rw [e3] at q3 q5 q7 ⊢
          exact oth q3 (Or.inr ((gw q3).mp q7))
        all_goals omega
      · intro j hj ih2 N2 a1 a2 m m0 m1 m2
        have e93b : N2 93 = M 93 := a1 93 (by decide)
        have ej0 : N2 93 ((136 + (5 * (j : Int))) + 0).toNat = pO (M 93) j 0 := by rw [e93b]; rfl
        have ej2 : N2 93 ((136 + (5 * (j : Int))) + 2).toNat = pO (M 93) j 2 := by rw [e93b]; rfl
        have ei2 : N2 93 ((136 + (5 * (i : Int))) + 2).toNat = pO (M 93) i 2 := by rw [e93b]; rfl
        have m1' : N2 101 ((i : Int)).toNat = (m : Int) := m1
        have gj := z_has1 h0 (by omega) (show (0 : Int) ≤ j by omega) (by omega)
        have gj' : x1.toNat.testBit ((j : Int)).toNat = x1.toNat.testBit j := rfl
        rw [gj'] at gj
        have st : ∀ (b : Prop) (m' : Nat), (∀ o : Nat, m'.testBit o = true ↔ m.testBit o = true ∨ (b ∧ j = o)) → (b ↔ nIn (M 93) i j ∧ ¬ x1.toNat.testBit j = true) → ∀ o : Nat, m'.testBit o = true ↔ o < j + 1 ∧ nIn (M 93) i o ∧ ¬ x1.toNat.testBit o = true := fun b m' y1 y2 o => by
          rw [y1 o, m2 o]
          constructor
          · rintro (⟨w0, w1⟩ | ⟨w0, w1⟩)
            · exact ⟨by omega, w1⟩
            · subst w1; exact ⟨by omega, y2.mp w0⟩
          · rintro ⟨w0, w1⟩
            by_cases c : j = o
            · subst c; exact Or.inr ⟨y2.mpr w1, rfl⟩
            · exact Or.inl ⟨by omega, w1⟩
        have keep : ¬ (nIn (M 93) i j ∧ ¬ x1.toNat.testBit j = true) → sW (sC (d + 11)) 258 (QV PV) 145 [vO 12 82, vI x1, vI (i : Int), vI (pO (M 93) i 0), vI (hO (M 93) (pO (M 93) i 0) 0), vI (j : Int), vN] [] N2 G 0 0 := fun z => by
          refine (s258_145 ⟨⟨by omega, by omega⟩, ?_⟩)
          exact ih2 N2 a1 a2 m m0 m1 (st False m (fun o => ⟨fun w => Or.inl w, fun w => w.elim id (fun y => y.1.elim)⟩) ⟨fun w => w.elim, fun w => z w⟩)
        have keepU : ¬ (nIn (M 93) i j ∧ ¬ x1.toNat.testBit j = true) → sW (sC (d + 11)) 258 (QV PV) 145 [vO 12 82, vI x1, vI (i : Int), vI (pO (M 93) i 0), vI (hO (M 93) (pO (M 93) i 0) 0), vI (j : Int), vN] [] (sUpd N2 101 ((i : Int)).toNat (iOr (N2 101 ((i : Int)).toNat) 0)) G 0 0 := fun z => by
          rw [m1', or_no m0]
          refine (s258_145 ⟨⟨by omega, by omega⟩, ?_⟩)
          exact (ih2 _ (fun a ha => (sUpd_ne ha).trans (a1 a ha)) (fun k hk => (sUpd_ni (show k ≠ i by omega)).trans (a2 k hk)) m m0 sUpd_eq (st False m (fun o => ⟨fun w => Or.inl w, fun w => w.elim id (fun y => y.1.elim)⟩) ⟨fun w => w.elim, fun w => z w⟩))
        have take : nIn (M 93) i j ∧ ¬ x1.toNat.testBit j = true → sW (sC (d + 11)) 258 (QV PV) 145 [vO 12 82, vI x1, vI (i : Int), vI (pO (M 93) i 0), vI (hO (M 93) (pO (M 93) i 0) 0), vI (j : Int), vN] [] (sUpd N2 101 ((i : Int)).toNat (iOr (N2 101 ((i : Int)).toNat) (iShl 1 (j : Int)))) G 0 0 := fun z => by
          obtain ⟨o1, o2⟩ := or_bit m0 (show (0 : Int) ≤ j by omega) (by omega)
          rw [m1', o1]
          refine (s258_145 ⟨⟨by omega, by omega⟩, ?_⟩)
          exact (ih2 _ (fun a ha => (sUpd_ne ha).trans (a1 a ha)) (fun k hk => (sUpd_ni (show k ≠ i by omega)).trans (a2 k hk)) _ o2 sUpd_eq (st True _ (fun o => by rw [or_tb]; exact ⟨fun w => w.elim Or.inl (fun y => Or.inr ⟨trivial, by omega⟩), fun w => w.elim Or.inl (fun y => Or.inr (by omega))⟩) ⟨fun _ => z, fun _ => trivial⟩))
        have cut : ∀ {a b : Int}, a = b → (a ≠ b → False) := fun h z => z h
        rw [← e0] at hov
        refine (s258_48 ⟨fun q1 => ⟨⟨by omega, by omega⟩, ⟨by omega, by omega⟩, ⟨by omega, by omega⟩, ⟨(by first | omega | assumption | (refine ⟨?_, ?_⟩ <;> omega) | (simp_all; done)), (by first | omega | assumption | (refine ⟨?_, ?_⟩ <;> omega) | (simp_all; done))⟩, fun q2 => ?_, fun q3 => ⟨⟨by omega, by omega⟩, ⟨by omega, by omega⟩, ⟨by omega, by omega⟩, ⟨(by first | omega | assumption | (refine ⟨?_, ?_⟩ <;> omega) | (simp_all; done)), (by first | omega | assumption | (refine ⟨?_, ?_⟩ <;> omega) | (simp_all; done))⟩, fun q4 => ?_, fun q5 => ⟨fun q6 => ?_, fun q7 => ?_⟩⟩⟩, fun q8 => ⟨⟨by omega, by omega⟩, ⟨by omega, by omega⟩, ⟨by omega, by omega⟩, ⟨(by first | omega | assumption | (refine ⟨?_, ?_⟩ <;> omega) | (simp_all; done)), (by first | omega | assumption | (refine ⟨?_, ?_⟩ <;> omega) | (simp_all; done))⟩, fun q9 => ?_, fun q10 => ⟨fun q11 => ⟨fun q12 => ⟨⟨by omega, by omega⟩, ⟨(by first | omega | assumption | (refine ⟨?_, ?_⟩ <;> omega) | (simp_all; done)), (by first | omega | assumption | (refine ⟨?_, ?_⟩ <;> omega) | (simp_all; done))⟩, ⟨by omega, by omega⟩, ⟨by omega, by omega⟩, ⟨by omega, by omega⟩, ⟨(by first | omega | assumption | (refine ⟨?_, ?_⟩ <;> omega) | (simp_all; done)), (by first | omega | assumption | (refine ⟨?_, ?_⟩ <;> omega) | (simp_all; done))⟩, fun q13 => ⟨⟨(by first | omega | assumption | (refine ⟨?_, ?_⟩ <;> omega) | (simp_all; done)), (by first | omega | assumption | (refine ⟨?_, ?_⟩ <;> omega) | (simp_all; done))⟩, fun q14 => ⟨fun q15 => ?_, fun q16 => ?_⟩, fun q17 => ⟨fun q18 => ?_, fun q19 => ?_⟩⟩, fun q20 => ⟨⟨(by first | omega | assumption | (refine ⟨?_, ?_⟩ <;> omega) | (simp_all; done)), (by first | omega | assumption | (refine ⟨?_, ?_⟩ <;> omega) | (simp_all; done))⟩, fun q21 => ⟨fun q22 => ?_, fun q23 => ?_⟩, fun q24 => ?_⟩⟩, fun q25 => ?_⟩, fun q26 => ?_⟩⟩⟩)
        all_goals try omega
        · rw [ej0] at q9
          exact keep (fun z => q9 z.1.1)
        · rw [ej2, ei2] at q13
          exact keepU (fun z => by rcases z.1.2.2 with ⟨w, _⟩ | ⟨w, _⟩; exact absurd w q14; exact absurd w q15)
        · rw [ej2, ei2] at q13
          rw [ej0] at q10
          exact take ⟨⟨q10, q12, Or.inr ⟨q16, q13⟩⟩, fun z => q11 (gj.mpr z)⟩
        · rw [ej2, ei2] at q13
          exact keepU (fun z => by rcases z.1.2.2 with ⟨_, w⟩ | ⟨w, _⟩; omega; exact absurd w q18)
        · rw [ej2, ei2] at q20
          exact keepU (fun z => by rcases z.1.2.2 with ⟨w, _⟩ | ⟨w, _⟩; exact absurd w q21; exact absurd w q22)
        · rw [ej2, ei2] at q20
          exact keepU (fun z => by rcases z.1.2.2 with ⟨w, _⟩ | ⟨_, w⟩; exact absurd w q21; omega)
        · rw [ej2, ei2] at q20
          rw [ej0] at q10
          exact take ⟨⟨q10, q12, Or.inl ⟨q24, q20⟩⟩, fun z => q11 (gj.mpr z)⟩
        · exact keep (fun z => z.1.2.1 q25)
        · exact keep (fun z => z.2 (gj.mp q26))
    · exact no0 (fun o ho w => w.2.1 (gi.mp q6))
    all_goals omega
end
