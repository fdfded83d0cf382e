/-! STEPS: come, go, tick, seed, cross, worth, asks, waits. -/
theorem Inv.townK {t : Int} {M M1 M2 : sM} {G : sG} (hI : Inv t M G) (h1 : cF 14 M M1) (h2 : rKS M1 M2) (hv : vTown (1200 * (t + 1)) (M2 93)) (hl : lowLate (M2 93)) (ht : TR 14 M1 (M2 93)) (he : eqTold (M 93) (M2 93)) : Inv (t + 1) M2 G := by
  have e : ∀ a, ¬ (14 ≤ a ∧ a ≤ 28) → a ≠ 93 → (a = 4 ∨ a = 12 ∨ (14 ≤ a ∧ a ≤ 41) ∨ a = 83 ∨ a = 84 ∨ a = 86 ∨ a = 87 ∨ a = 106 ∨ a = 107 ∨ 108 ≤ a ∨ a = 1 ∨ a = 3) → M2 a = M a := fun a x1 x2 x3 => (h2.1 a (by omega) (by omega) (by omega) x2).trans (h1 a (by omega) (by omega) (by omega))
  refine hI.town (fun a x1 x2 x3 => e a x1 x2 (by omega)) (by rw [e 1 (by omega) (by omega) (by omega)]) (by rw [e 3 (by omega) (by omega) (by omega)]) ⟨(h2.2 1 (by decide)).trans (by rw [h1 82 (by omega) (by omega) (by omega)]), (h2.2 2 (by decide)).trans (by rw [h1 82 (by omega) (by omega) (by omega)])⟩ hv hl (ht.congr (fun a x1 x2 => h2.1 a (by omega) (by omega) (by omega) (by omega))) he
theorem beg_none (S : Nat → Int) : begS S (-1) = S := if_neg (by decide)
theorem enR_told {S S' : Nat → Int} {p h s : Int} (hl : enR S S' p h s) : eqTold S S' := ⟨fun j hj => by
  rcases hj with z | z
  · exact hl.1.1 j (by omega) (by omega)
  · exact hl.1.2 j z, fun q q0 q1 => (hl.2.2 q q0 q1).2.2.2.2⟩
theorem lvR_told {S S' : Nat → Int} {p : Int} (hl : lvR S S' p) : eqTold S S' := ⟨fun j hj => by
  rcases hj with z | z
  · exact hl.1.1 j (by omega) (by omega)
  · exact hl.1.2 j z, fun q q0 q1 => (hl.2.2 q q0 q1).2.2.2.2⟩
theorem likeS.late {S S' : Nat → Int} (e : likeS S S') (h : lowLate S) : lowLate S' := by
  unfold lowLate at h ⊢
  rw [e.1 3 (by decide) (by decide), e.1 2 (by decide) (by decide)]
  exact h
theorem L68 (t x1 x2 : Int) (ht9 : t ≤ 600) : Step t 68 214 [vI x1, vI x2] := by
  intro d M G hd hI
  have hI1 := hI.same (kp.refl [] M)
  obtain ⟨hv, hlt, ht, hvo, hto, t0⟩ := hI.t
  have hs0 := hv.1.1
  have b0 := ht.1.1
  have hpe := fun a b => hv.2.2.2.1 x1 a b
  have hn := inN_ge (M 93) x2
  have hro := fun a b => hv.2.2.2.2 x2 a b
  have hho := fun a b => (hv.2.1 x2 a b).2.1
  have e1 : ∀ M' : sM, M' 93 = M 93 → M' 93 ((10 + (3 * x2)) + 1).toNat = hO (M 93) x2 1 := fun M' h => by rw [h]; rfl
  -- where nothing happens
  have no : (x1 < 0 ∨ 12 ≤ x1 ∨ x2 < 0 ∨ M 93 0 ≤ x2 ∨ (0 ≤ x1 ∧ x1 < 12 ∧ 0 ≤ pO (M 93) x1 0) ∨ (0 ≤ x2 ∧ x2 < M 93 0 ∧ hO (M 93) x2 1 ≤ inN (M 93) x2)) → sC d 214 [vO 12 82, vI x1, vI x2] M G (QI (LPost t 0)) := fun hno => by
    obtain ⟨d, rfl⟩ := sD 7 (d := d) (by omega)
    have ep : M 93 ((136 + (5 * x1)) + 0).toNat = pO (M 93) x1 0 := rfl
    refine e214 (s214_0 ⟨fun q1 => ?_, fun q2 => ⟨fun q3 => ?_, fun q4 => ⟨fun q5 => ?_, fun q6 => ⟨fun q7 => ?_, fun q8 => ⟨⟨by omega, by omega⟩, ⟨by omega, by omega⟩, ⟨by omega, by omega⟩, ⟨(by first | omega | assumption | (refine ⟨?_, ?_⟩ <;> omega) | (simp_all; done)), (by first | omega | assumption | (refine ⟨?_, ?_⟩ <;> omega) | (simp_all; done))⟩, fun q9 => ?_, fun q10 => ?_⟩⟩⟩⟩⟩)
    · exact ⟨rfl, hI1⟩
    · exact ⟨rfl, hI1⟩
    · exact ⟨rfl, hI1⟩
    · exact ⟨rfl, hI1⟩
    · exact ⟨rfl, hI1⟩
    · have h1 := hro q6 q8
      refine c205 (by omega) ⟨⟨by omega, by omega⟩, ⟨by omega, by omega⟩, ⟨by omega, by omega⟩, ⟨(by first | omega | assumption | (refine ⟨?_, ?_⟩ <;> omega) | (simp_all; done)), (by first | omega | assumption | (refine ⟨?_, ?_⟩ <;> omega) | (simp_all; done))⟩, fun q11 => ?_, fun q12 => ?_⟩
      · rw [e1 M rfl] at q11; omega
      · exact ⟨rfl, hI1⟩
  obtain ⟨d, rfl⟩ := sD 7 (d := d) (by omega)
  have tr := fun a b => ht.2.2.2.1 x1 a b
  have th := fun a b => ht.2.1 x2 a b
  by_cases hg : 0 ≤ x1 ∧ x1 < 12 ∧ 0 ≤ x2 ∧ x2 < M 93 0
  · obtain ⟨g0, g1, g2, g3⟩ := hg
    have tr1 : M 26 x1.toNat = pO (M 93) x1 0 := (tr g0 g1).1
    have th1 : M 16 x2.toNat = hO (M 93) x2 1 := (th g2 g3).2.1
    have th2 : M 18 x2.toNat = inN (M 93) x2 := (th g2 g3).2.2.2
    have hp1 := (hpe g0 g1).1
    have ho1 := hho g2 g3
    refine e68 (s68_0 ⟨fun q1 => ?_, fun q2 => ⟨fun q3 => ?_, fun q4 => ⟨fun q5 => ?_, fun q6 => ⟨fun q7 => ?_, fun q8 => ⟨⟨(by first | omega | assumption | (refine ⟨?_, ?_⟩ <;> omega) | (simp_all; done)), (by first | omega | assumption | (refine ⟨?_, ?_⟩ <;> omega) | (simp_all; done))⟩, fun q9 => ?_, fun q10 => ⟨⟨(by first | omega | assumption | (refine ⟨?_, ?_⟩ <;> omega) | (simp_all; done)), (by first | omega | assumption | (refine ⟨?_, ?_⟩ <;> omega) | (simp_all; done))⟩, ⟨by omega, by omega⟩, fun q11 => ?_, fun q12 => ?_⟩⟩⟩⟩⟩⟩)
    · omega
    · omega
    · omega
    · omega
    · exact no (by omega)
    · refine c70 (by omega) hv ht g0 g1 (by omega) g2 g3 (by have := hv.1.2.1; omega) (by omega) (fun M1 mo ht1 => ?_)
      rw [beg_none] at ht1
      have e93 : M1 93 = M 93 := mo 93 (by omega)
      have ep : M1 93 ((136 + (5 * x1)) + 0).toNat = pO (M 93) x1 0 := by rw [e93]; rfl
      have e0 : M1 93 0 = M 93 0 := by rw [e93]
      refine e214 (s214_0 ⟨fun q1 => ?_, fun q2 => ⟨fun q3 => ?_, fun q4 => ⟨fun q5 => ?_, fun q6 => ⟨fun q7 => ?_, fun q8 => ⟨⟨by omega, by omega⟩, ⟨by omega, by omega⟩, ⟨by omega, by omega⟩, ⟨(by first | omega | assumption | (refine ⟨?_, ?_⟩ <;> omega) | (simp_all; done)), (by first | omega | assumption | (refine ⟨?_, ?_⟩ <;> omega) | (simp_all; done))⟩, fun q9 => ?_, fun q10 => ?_⟩⟩⟩⟩⟩)
      · omega
      · omega
      · omega
      · omega
      · omega
      · refine c205 (by omega) ⟨⟨by omega, by omega⟩, ⟨by omega, by omega⟩, ⟨by omega, by omega⟩, ⟨(by first | omega | assumption | (refine ⟨?_, ?_⟩ <;> omega) | (simp_all; done)), (by first | omega | assumption | (refine ⟨?_, ?_⟩ <;> omega) | (simp_all; done))⟩, fun q11 => ?_, fun q12 => ?_⟩
        · have hl := enS_R (S := M 93) (p := x1) (h := x2) (s := -1) g0 g1 (hpe g0 g1).2.2.2.2.1
          refine c215 (by omega) g0 g1 (by rw [e93]; exact (hpe g0 g1).2.2.2.2.1) (by rw [e93]; have := hv.1.2.2.2.2; omega) ?_
          rw [e93]
          refine ⟨rfl, hI.townK (fun a h1 _ _ => mo a h1) (rKS.set M1 _) ?_ ?_ ?_ ?_⟩
          · rw [setS_93]; exact (en_v hv hl g0 g1 g2 g3 ⟨by omega, by have := hv.1.2.1; omega⟩ (by omega) (by omega)).mono (by omega)
          · rw [setS_93]; exact hl.1.late hlt
          · rw [setS_93]; exact ht1
          · rw [setS_93]; exact enR_told hl
        · rw [e1 M1 e93, e93] at q12
          omega
    · exact no (by omega)
  · refine e68 (s68_0 ⟨fun q1 => ?_, fun q2 => ⟨fun q3 => ?_, fun q4 => ⟨fun q5 => ?_, fun q6 => ⟨fun q7 => ?_, fun q8 => ⟨⟨(by first | omega | assumption | (refine ⟨?_, ?_⟩ <;> omega) | (simp_all; done)), (by first | omega | assumption | (refine ⟨?_, ?_⟩ <;> omega) | (simp_all; done))⟩, fun q9 => ?_, fun q10 => ⟨⟨(by first | omega | assumption | (refine ⟨?_, ?_⟩ <;> omega) | (simp_all; done)), (by first | omega | assumption | (refine ⟨?_, ?_⟩ <;> omega) | (simp_all; done))⟩, ⟨by omega, by omega⟩, fun q11 => ?_, fun q12 => ?_⟩⟩⟩⟩⟩⟩)
    · exact no (by omega)
    · exact no (by omega)
    · exact no (by omega)
    · exact no (by omega)
    · omega
    · omega
    · omega
theorem win_told {S : Nat → Int} {h : Int} (h0 : 0 ≤ h) (h1 : h < 6) : eqTold S (winS S h) := ⟨fun j hj => by unfold winS; exact uS_ne (by omega), fun q q0 q1 => win_o h0 h1 (by omega)⟩
theorem eqTold.trans {S S' S'' : Nat → Int} (h : eqTold S S') (h' : eqTold S' S'') : eqTold S S'' := ⟨fun j hj => (h'.1 j hj).trans (h.1 j hj), fun p p0 p1 => (h'.2 p p0 p1).trans (h.2 p p0 p1)⟩
