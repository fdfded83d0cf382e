/-! STEP: back. -/
theorem b165q_0 {d : Nat} {Q : Option sV → sM → sG → Prop} {M : sM} {G : sG} {a0 : Nat} {a1 : Nat} (h1 : a1 ≠ 0) (kk : sC d 34 [vO 10 (a0 + 1), vO 10 (a1 + 1)] M G (QV (fun M1 G1 => sW (sC d) 165 Q 11 [vO 8 a0, vQ 8 a1] [] M1 G1 0 0))) : sW (sC d) 165 Q 0 [vO 8 a0, vQ 8 a1] [] M G 0 0 := by
  refine q_aload_n 1 rfl (show sCode 165 0 = some (.aload_n 0, 1) by decide +kernel) rfl (Nat.le_of_ble_eq_true rfl) ?_
  refine q_getR (vO 10 (a0 + 1)) 4 rfl (show sCode 165 1 = some (.getfield 10, 3) by decide +kernel) (show sFR (sKo 165).1 10 = some (8, 0) by decide +kernel) (by decide +kernel) (Or.inl (Or.inl rfl)) rfl ?_
  refine q_aload_n 5 rfl (show sCode 165 4 = some (.aload_n 1, 1) by decide +kernel) rfl (Nat.le_of_ble_eq_true rfl) ?_
  refine q_getR (vO 10 (a1 + 1)) 8 rfl (show sCode 165 5 = some (.getfield 10, 3) by decide +kernel) (show sFR (sKo 165).1 10 = some (8, 0) by decide +kernel) (by decide +kernel) (Or.inl (Or.inr (Or.inl ⟨rfl, h1⟩))) rfl ?_
  exact q_virtV [vO 10 (a1 + 1)] 11 rfl (show sCode 165 8 = some (.invokevirtual 23, 3) by decide +kernel) (show sMR (sKo 165).1 23 = some 34 by decide +kernel) (show 34 < 1000 ∧ sStat 34 = false ∧ sIni 34 = false ∧ sKo 34 = (10, 1, 0, 0, 0) by decide +kernel) rfl (Or.inl rfl) rfl (Nat.le_of_ble_eq_true rfl) rfl rfl rfl (by decide +kernel) kk
theorem b165q_11 {d : Nat} {Q : Option sV → sM → sG → Prop} {M : sM} {G : sG} {a0 : Nat} {a1 : Nat} (h1 : a1 ≠ 0) (kk : sC d 166 [vO 9 (a0 + 16), vO 9 (a1 + 16)] M G (QV (fun M1 G1 => sW (sC d) 165 Q 22 [vN, vN] [] M1 G1 0 0))) : sW (sC d) 165 Q 11 [vO 8 a0, vQ 8 a1] [] M G 0 0 := by
  refine q_aload_n 12 rfl (show sCode 165 11 = some (.aload_n 0, 1) by decide +kernel) rfl (Nat.le_of_ble_eq_true rfl) ?_
  refine q_getR (vO 9 (a0 + 16)) 15 rfl (show sCode 165 12 = some (.getfield 19, 3) by decide +kernel) (show sFR (sKo 165).1 19 = some (8, 1) by decide +kernel) (by decide +kernel) (Or.inl (Or.inl rfl)) rfl ?_
  refine q_aload_n 16 rfl (show sCode 165 15 = some (.aload_n 1, 1) by decide +kernel) rfl (Nat.le_of_ble_eq_true rfl) ?_
  refine q_getR (vO 9 (a1 + 16)) 19 rfl (show sCode 165 16 = some (.getfield 19, 3) by decide +kernel) (show sFR (sKo 165).1 19 = some (8, 1) by decide +kernel) (by decide +kernel) (Or.inl (Or.inr (Or.inl ⟨rfl, h1⟩))) rfl ?_
  refine q_forget (L' := [vN, vQ 8 a1]) 0 rfl ?_
  refine q_forget (L' := [vN, vN]) 1 rfl ?_
  exact q_virtV [vO 9 (a1 + 16)] 22 rfl (show sCode 165 19 = some (.invokevirtual 27, 3) by decide +kernel) (show sMR (sKo 165).1 27 = some 166 by decide +kernel) (show 166 < 1000 ∧ sStat 166 = false ∧ sIni 166 = false ∧ sKo 166 = (9, 1, 0, 0, 0) by decide +kernel) rfl (Or.inl rfl) rfl (Nat.le_of_ble_eq_true rfl) rfl rfl rfl (by decide +kernel) kk
theorem b165q_22 {d : Nat} {P : sM → sG → Prop} {M : sM} {G : sG}   (kk : P M G) : sW (sC d) 165 (QV P) 22 [vN, vN] [] M G 0 0 := by
  exact q_vret (show sCode 165 22 = some (.return_, 1) by decide +kernel) (by decide +kernel) (by decide +kernel) kk
theorem c165q {d : Nat} {PV : sM → sG → Prop} {M : sM} {G : sG} {a0 a1 : Nat} (hd : 10 ≤ d) (h1 : a1 ≠ 0) (kk : PV (cpTold (cpTown M (a0 + 1) (a1 + 1)) (a0 + 16) (a1 + 16)) G) : sC d 165 [vO 8 a0, vQ 8 a1] M G (QV PV) := by
  obtain ⟨d, rfl⟩ := sD 2 (d := d) (by omega)
  refine sC_in (Nat.le_of_ble_eq_true rfl) rfl ?_
  refine b165q_0 h1 (c34 (by omega) ?_)
  refine b165q_11 h1 (c166 (by omega) ?_)
  exact b165q_22 kk
section
variable {S S' : Nat → Int}
theorem vTown.lo {B : Int} (hv : vTown B S) (e : ∀ j, j < 274 → S' j = S j) : vTown B S' := by
  refine hv.row ⟨fun j hj => e j (by omega), fun p w p0 p1 w0 w1 => e _ (by omega)⟩ (fun p p0 p1 => ?_)
  rw [show pO S' p 4 = pO S p 4 from e _ (by omega)]
  exact (hv.2.2.2.1 p p0 p1).2.2.2.2.2
theorem TR.lo {B : Int} {b : Nat} {M : sM} (hv : vTown B S) (ht : TR b M S) (e : ∀ j, j < 274 → S' j = S j) : TR b M S' := ht.row hv ⟨fun j hj => e j (by omega), fun p w p0 p1 w0 w1 => e _ (by omega)⟩
theorem vTold.lo (hv : vTold S) (e : ∀ j, j < 274 → S' j = S j) : vTold S' := by
  obtain ⟨a5, a6, a7, a8, a9, h1, h2, h3, h4, h5⟩ := hv
  have e5 := e 5 (by omega)
  have e6 := e 6 (by omega)
  have e7 := e 7 (by omega)
  have e8 := e 8 (by omega)
  have e9 := e 9 (by omega)
  refine ⟨by rw [e5]; exact a5, by rw [e6]; exact a6, by rw [e7]; exact a7, by rw [e8]; exact a8, by rw [e9]; exact a9, fun w w0 w1 => ?_, fun k k0 k1 => ?_, fun j k j0 jk k1 => ?_, fun f f0 f1 => ?_, fun g g0 g1 => ?_⟩
  · rw [e5] at w1
    rw [e _ (by omega), e ((196 + (5 * w)) + 1).toNat (by omega), e ((196 + (5 * w)) + 2).toNat (by omega), e ((196 + (5 * w)) + 3).toNat (by omega), e ((196 + (5 * w)) + 4).toNat (by omega)]
    exact h1 w w0 w1
  · rw [e6] at k1
    rw [e _ (by omega)]
    exact h2 k k0 k1
  · rw [e6] at k1
    rw [e (226 + j).toNat (by omega), e (226 + k).toNat (by omega)]
    exact h3 j k j0 jk k1
  · rw [e7] at f1
    rw [e (234 + (2 * f)).toNat (by omega), e ((234 + (2 * f)) + 1).toNat (by omega)]
    exact h4 f f0 f1
  · rw [e8] at g1
    rw [e (250 + (2 * g)).toNat (by omega), e ((250 + (2 * g)) + 1).toNat (by omega)]
    exact h5 g g0 g1
theorem TO.lo {c : Nat} {M : sM} (hv : vTold S) (ht : TO c M S) (e : ∀ j, j < 274 → S' j = S j) : TO c M S' := by
  obtain ⟨a5, a6, a7, a8, a9, -⟩ := hv
  obtain ⟨l, h1, h2, h3, h4, h5⟩ := ht
  have e5 := e 5 (by omega)
  have e6 := e 6 (by omega)
  have e7 := e 7 (by omega)
  have e8 := e 8 (by omega)
  have e9 := e 9 (by omega)
  refine ⟨by rw [e5, e6, e7, e8, e9]; exact l, fun p p0 p1 => by rw [show pO S' p 4 = pO S p 4 from e _ (by omega)]; exact h1 p p0 p1, fun w w0 w1 => ?_, fun k k0 k1 => ?_, fun f f0 f1 => ?_, fun g g0 g1 => ?_⟩
  · rw [e5] at w1
    rw [e _ (by omega), e ((196 + (5 * w)) + 1).toNat (by omega), e ((196 + (5 * w)) + 2).toNat (by omega), e ((196 + (5 * w)) + 3).toNat (by omega), e ((196 + (5 * w)) + 4).toNat (by omega)]
    exact h2 w w0 w1
  · rw [e6] at k1
    rw [e _ (by omega)]
    exact h3 k k0 k1
  · rw [e7] at f1
    rw [e (234 + (2 * f)).toNat (by omega), e ((234 + (2 * f)) + 1).toNat (by omega)]
    exact h4 f f0 f1
  · rw [e8] at g1
    rw [e (250 + (2 * g)).toNat (by omega), e ((250 + (2 * g)) + 1).toNat (by omega)]
    exact h5 g g0 g1
end
theorem L167 (t x1 : Int) : Step t 167 278 [vI x1] := by
  intro d M G hd hI
  have hI1 := hI.same (kp.refl [] M)
  obtain ⟨t0, own, N0, hN, hN2, h1, h2, h3, h4, h5⟩ := hI
  have bad : ∀ r : Int, r = -1 → (x1 < 0 ∨ 3 < x1 ∨ M 107 x1.toNat = 0) → sC d 278 [vO 12 82, vI x1] M G (QI (LPost t r)) := fun r hr hx => by
    obtain ⟨d, rfl⟩ := sD 3 (d := d) (by omega)
    refine e278 (s278_0 ⟨fun q1 => ?_, fun q2 => ⟨fun q3 => ?_, fun q4 => ⟨⟨(by first | omega | assumption | (refine ⟨?_, ?_⟩ <;> omega) | (simp_all; done)), (by first | omega | assumption | (refine ⟨?_, ?_⟩ <;> omega) | (simp_all; done))⟩, fun q5 => ?_, fun q6 => ?_⟩⟩⟩)
    · exact ⟨hr.symm, hI1⟩
    · exact ⟨hr.symm, hI1⟩
    · omega
    · exact ⟨hr.symm, hI1⟩
    all_goals omega
  obtain ⟨d, rfl⟩ := sD 30 (d := d) (by omega)
  refine e167 (s167_0 ⟨fun q1 => ?_, fun q2 => ⟨fun q3 => ⟨⟨(by first | omega | assumption | (refine ⟨?_, ?_⟩ <;> omega) | (simp_all; done)), (by first | omega | assumption | (refine ⟨?_, ?_⟩ <;> omega) | (simp_all; done))⟩, fun q4 => ?_, fun q5 => ?_⟩, fun q6 => ?_⟩⟩)
  · exact bad _ rfl (by omega)
  · obtain ⟨k, rfl⟩ : ∃ k : Nat, x1 = (k : Int) := ⟨x1.toNat, z_nat q2⟩
    rcases h3 (k : Int) q2 q3 with z | ⟨z1, z2, z3, z4, z5, z6, z7, z8⟩
    · exact absurd (by omega) q4
    · obtain ⟨a, ha⟩ : ∃ a, a = (M 41 ((k : Int)).toNat).toNat := ⟨_, rfl⟩
      rw [← ha] at z3 z7 z8 ⊢
      have a109 : 109 ≤ a := by omega
      refine c165q (by omega) (by omega) ?_
      refine ?_
      have o1 : ∀ b, ¬ (14 ≤ b ∧ b ≤ 40) → cpTold (cpTown M 14 (a + 1)) 29 (a + 16) b = M b := fun b hb => by
        rw [cpTold_out (by omega), cpTown_out (by omega)]
      have t1 : TR 14 (cpTold (cpTown M 14 (a + 1)) 29 (a + 16)) (imgS M k) := (TR.copied z4 (by omega) z7).congr (fun b b1 b2 => cpTold_out (by omega))
      have t2 : TO 29 (cpTold (cpTown M 14 (a + 1)) 29 (a + 16)) (imgS M k) := TO.copied z6 (by omega) (z8.congr (fun b b1 b2 => cpTown_out (by omega)))
      have e13 : cpTold (cpTown M (13 + 1) (a + 1)) (13 + 16) (a + 16) 14 13 = imgS M k 2 := t1.1.2.2.1
      rw [e13]
      -- the reference
      show sC (d + 30) 278 [vO 12 82, vI (k : Int)] (cpTold (cpTown M 14 (a + 1)) 29 (a + 16)) G (QI (LPost t (imgS M k 2)))
      obtain ⟨M1, hM1⟩ : ∃ M1, M1 = cpTold (cpTown M 14 (a + 1)) 29 (a + 16) := ⟨_, rfl⟩
      rw [← hM1] at o1 t1 t2 ⊢
      have fin : ∀ N : sM, (∀ b, b ≠ 93 → N b = M1 b) → (∀ j : Nat, j < 274 → N 93 j = imgS M k j) → Inv (t + 1) N G := fun N n1 n2 => by
        have nb : ∀ b, b ≠ 93 → ¬ (14 ≤ b ∧ b ≤ 40) → N b = M b := fun b c1 c2 => (n1 b c1).trans (o1 b c2)
        refine ⟨by omega, own, N0, hN, hN2, h1.keep (by rw [nb 3 (by decide) (by decide)]) (by rw [nb 82 (by decide) (by decide)]) (nb 4 (by decide) (by decide)) (nb 83 (by decide) (by decide)), h2.keep (by rw [nb 1 (by decide) (by decide)]) (by rw [nb 82 (by decide) (by decide)]) (nb 12 (by decide) (by decide)) (nb 84 (by decide) (by decide)) (nb 86 (by decide) (by decide)) (nb 87 (by decide) (by decide)) (fun b hb _ => nb b (by omega) (by omega)), h3.keep (by omega) (nb 41 (by decide) (by decide)) (nb 106 (by decide) (by decide)) (nb 107 (by decide) (by decide)) (fun b hb _ => nb b (by omega) (by omega)), ⟨(z4.mono (by omega)).lo n2, ?_, ?_⟩, ⟨z6.lo n2, ?_⟩⟩
        · unfold lowLate at z5 ⊢
          rw [n2 3 (by decide), n2 2 (by decide)]; exact z5
        · exact TR.lo z4 (t1.congr (fun b b1 b2 => n1 b (by omega))) n2
        · exact TO.lo z6 (t2.congr (fun b b1 b2 => n1 b (by omega))) n2
      have e107 : M1 107 ((k : Int)).toNat = 1 := by rw [o1 107 (by decide)]; exact z1
      have loop : sW (sC (d + 29)) 278 (QI (LPost t (imgS M k 2))) 25 [vO 12 82, vI (k : Int), vI ((0 : Nat) : Int)] [] M1 G 0 0 := by
        refine sUpTo (W := fun i => ∀ N : sM, (∀ b, b ≠ 93 → N b = M1 b) → (∀ j : Nat, j < i → N 93 j = imgS M k j) → sW (sC (d + 29)) 278 (QI (LPost t (imgS M k 2))) 25 [vO 12 82, vI (k : Int), vI (i : Int)] [] N G 0 0) 274 ?_ ?_ M1 (fun _ _ => rfl) (fun j hj => absurd hj (Nat.not_lt_zero j))
        · intro N n1 n2
          refine (s278_25 ⟨fun q1 => ?_, fun q2 => ⟨⟨by omega, by omega⟩, ⟨by omega, by omega⟩, ⟨(by first | omega | assumption | (refine ⟨?_, ?_⟩ <;> omega) | (simp_all; done)), (by first | omega | assumption | (refine ⟨?_, ?_⟩ <;> omega) | (simp_all; done))⟩, ⟨(by first | omega | assumption | (refine ⟨?_, ?_⟩ <;> omega) | (simp_all; done)), (by first | omega | assumption | (refine ⟨?_, ?_⟩ <;> omega) | (simp_all; done))⟩, ⟨by omega, by omega⟩, ?_⟩⟩)
          · exact ⟨n2 2 (by decide), fin N n1 n2⟩
          all_goals omega
        · intro i hi ih N n1 n2
          refine (s278_25 ⟨fun q1 => ?_, fun q2 => ⟨⟨by omega, by omega⟩, ⟨by omega, by omega⟩, ⟨(by first | omega | assumption | (refine ⟨?_, ?_⟩ <;> omega) | (simp_all; done)), (by first | omega | assumption | (refine ⟨?_, ?_⟩ <;> omega) | (simp_all; done))⟩, ⟨(by first | omega | assumption | (refine ⟨?_, ?_⟩ <;> omega) | (simp_all; done)), (by first | omega | assumption | (refine ⟨?_, ?_⟩ <;> omega) | (simp_all; done))⟩, ⟨by omega, by omega⟩, ?_⟩⟩)
          · omega
          · refine ih _ (fun b hb => (sUpd_ne hb).trans (n1 b hb)) (fun j hj => ?_)
            by_cases c : j = i
            · rw [c]
              refine (sUpd_eq (i := i)).trans ?_
              rw [n1 106 (by decide), o1 106 (by decide)]
              rfl
            · exact (sUpd_ni (show j ≠ i from c)).trans (n2 j (by omega))
          all_goals omega
      refine e278 (s278_0 ⟨fun q1 => ?_, fun q2 => ⟨fun q3 => ?_, fun q4 => ⟨⟨(by first | omega | assumption | (refine ⟨?_, ?_⟩ <;> omega) | (simp_all; done)), (by first | omega | assumption | (refine ⟨?_, ?_⟩ <;> omega) | (simp_all; done))⟩, fun q5 => ?_, fun q6 => ?_⟩⟩⟩)
      · omega
      · omega
      · exact loop
      · omega
      all_goals omega
  · rcases h3 x1 q2 q3 with z | ⟨z1, z2, z3, z4, z5, z6, z7, z8⟩
    · exact bad _ rfl (Or.inr (Or.inr z.1))
    · omega
  · exact bad _ rfl (by omega)
