/-! STEPS: worth, waits, feed. -/
theorem vTold.rowI {S S' : Nat → Int} (hv : vTold S) (e : ∀ j : Nat, (5 ≤ j ∧ j < 10) ∨ 196 ≤ j → S' j = S j) : vTold S' := by
  obtain ⟨a5, a6, a7, a8, a9, h1, h2, h3, h4, h5⟩ := hv
  have e5 := e 5 (by omega)
  have e6 := e 6 (by omega)
  have e7 := e 7 (by omega)
  have e8 := e 8 (by omega)
  have e9 := e 9 (by omega)
  refine ⟨by rw [e5]; exact a5, by rw [e6]; exact a6, by rw [e7]; exact a7, by rw [e8]; exact a8, by rw [e9]; exact a9, fun w w0 w1 => ?_, fun k k0 k1 => ?_, fun j k j0 jk k1 => ?_, fun f f0 f1 => ?_, fun g g0 g1 => ?_⟩
  · rw [e5] at w1
    rw [e _ (by omega), e ((196 + (5 * w)) + 1).toNat (by omega), e ((196 + (5 * w)) + 2).toNat (by omega), e ((196 + (5 * w)) + 3).toNat (by omega), e ((196 + (5 * w)) + 4).toNat (by omega)]
    exact h1 w w0 w1
  · rw [e6] at k1
    rw [e _ (by omega)]
    exact h2 k k0 k1
  · rw [e6] at k1
    rw [e (226 + j).toNat (by omega), e (226 + k).toNat (by omega)]
    exact h3 j k j0 jk k1
  · rw [e7] at f1
    rw [e (234 + (2 * f)).toNat (by omega), e ((234 + (2 * f)) + 1).toNat (by omega)]
    exact h4 f f0 f1
  · rw [e8] at g1
    rw [e (250 + (2 * g)).toNat (by omega), e ((250 + (2 * g)) + 1).toNat (by omega)]
    exact h5 g g0 g1
theorem L144 (t x1 x2 : Int) : Step t 144 261 [vI x1, vI x2] := by
  intro d M G hd hI
  have hI1 := hI.same (kp.refl [] M)
  obtain ⟨hv, hlt, ht, hvo, hto, t0⟩ := hI.t
  have hp4 : ∀ p : Int, 0 ≤ p → p < 12 → 0 ≤ pO (M 93) p 4 ∧ pO (M 93) p 4 ≤ 99 := fun p p0 p1 => (hv.2.2.2.1 p p0 p1).2.2.2.2.2
  obtain ⟨d, rfl⟩ := sD 7 (d := d) (by omega)
  by_cases hg : 0 ≤ x1 ∧ x1 < 12 ∧ 0 ≤ x2 ∧ x2 ≤ 99
  · refine e144 (s144_0 ⟨fun q1 => ?_, fun q2 => ⟨fun q3 => ?_, fun q4 => ⟨fun q5 => ?_, fun q6 => ⟨fun q7 => ⟨⟨(by first | omega | assumption | (refine ⟨?_, ?_⟩ <;> omega) | (simp_all; done)), (by first | omega | assumption | (refine ⟨?_, ?_⟩ <;> omega) | (simp_all; done))⟩, ?_⟩, fun q8 => ?_⟩⟩⟩⟩)
    all_goals try omega
    refine e261 (s261_0 ⟨fun q1 => ?_, fun q2 => ⟨fun q3 => ?_, fun q4 => ⟨fun q5 => ?_, fun q6 => ⟨fun q7 => ?_, fun q8 => ⟨⟨by omega, by omega⟩, ⟨by omega, by omega⟩, ⟨by omega, by omega⟩, ⟨(by first | omega | assumption | (refine ⟨?_, ?_⟩ <;> omega) | (simp_all; done)), (by first | omega | assumption | (refine ⟨?_, ?_⟩ <;> omega) | (simp_all; done))⟩, ?_⟩⟩⟩⟩⟩)
    all_goals try omega
    rw [upd_setS, sUpd_ne (b := 93) (by decide)]
    have ep : ∀ p : Int, 0 ≤ p → p < 12 → pO (uS (M 93) ((136 + (5 * x1)) + 4).toNat x2) p 4 = if p = x1 then x2 else pO (M 93) p 4 := fun p p0 p1 => by
      by_cases c : p = x1
      · rw [if_pos c, c]; exact uS_eq rfl
      · rw [if_neg c]; exact uS_ne (by omega)
    have o : ∀ j : Nat, (5 ≤ j ∧ j < 10) ∨ 196 ≤ j → uS (M 93) ((136 + (5 * x1)) + 4).toNat x2 j = M 93 j := fun j hj => uS_ne (by omega)
    have m : ∀ a, a ≠ 30 → sUpd M 30 x1.toNat x2 a = M a := fun a ha => sUpd_ne ha
    refine ⟨(hto.2.1 x1 (by omega) (by omega)).symm, hI.toldK (fun a h => sUpd_ne (by omega)) ((eqTown.refl _).up (by omega)) (fun p p0 p1 => ?_) (hvo.rowI o) ?_⟩
    · rw [ep p p0 p1]
      have := hp4 p p0 p1
      split <;> omega
    · obtain ⟨⟨a5, a6, a7, a8, a9⟩, h1, h2, h3, h4, h5⟩ := hto
      refine ⟨⟨by rw [m 29 (by decide), o 5 (by omega)]; exact a5, by rw [m 29 (by decide), o 6 (by omega)]; exact a6, by rw [m 29 (by decide), o 7 (by omega)]; exact a7, by rw [m 29 (by decide), o 8 (by omega)]; exact a8, by rw [m 29 (by decide), o 9 (by omega)]; exact a9⟩, fun p p0 p1 => ?_, fun w w0 w1 => ?_, fun k k0 k1 => ?_, fun f f0 f1 => ?_, fun g g0 g1 => ?_⟩
      · rw [ep p p0 p1, sUpd_at]
        by_cases c : p = x1
        · rw [if_pos c, if_pos (by rw [c])]
        · rw [if_neg c, if_neg (by omega)]; exact h1 p p0 p1
      · rw [o 5 (by omega)] at w1
        rw [m 31 (by decide), m 32 (by decide), m 33 (by decide), m 34 (by decide), m 35 (by decide), o _ (by omega), o ((196 + (5 * w)) + 1).toNat (by omega), o ((196 + (5 * w)) + 2).toNat (by omega), o ((196 + (5 * w)) + 3).toNat (by omega), o ((196 + (5 * w)) + 4).toNat (by omega)]; exact h2 w w0 w1
      · rw [o 6 (by omega)] at k1
        rw [m 36 (by decide), o _ (by omega)]; exact h3 k k0 k1
      · rw [o 7 (by omega)] at f1
        rw [m 37 (by decide), m 38 (by decide), o (234 + (2 * f)).toNat (by omega), o ((234 + (2 * f)) + 1).toNat (by omega)]; exact h4 f f0 f1
      · rw [o 8 (by omega)] at g1
        rw [m 39 (by decide), m 40 (by decide), o (250 + (2 * g)).toNat (by omega), o ((250 + (2 * g)) + 1).toNat (by omega)]; exact h5 g g0 g1
  · have refN : sC (d + 7) 261 [vO 12 82, vI x1, vI x2] M G (QI (LPost t (-1))) := by
      refine e261 (s261_0 ⟨fun q1 => ?_, fun q2 => ⟨fun q3 => ?_, fun q4 => ⟨fun q5 => ?_, fun q6 => ⟨fun q7 => ?_, fun q8 => ⟨⟨by omega, by omega⟩, ⟨by omega, by omega⟩, ⟨by omega, by omega⟩, ⟨(by first | omega | assumption | (refine ⟨?_, ?_⟩ <;> omega) | (simp_all; done)), (by first | omega | assumption | (refine ⟨?_, ?_⟩ <;> omega) | (simp_all; done))⟩, ?_⟩⟩⟩⟩⟩)
      all_goals try (exact ⟨rfl, hI1⟩)
      all_goals omega
    refine e144 (s144_0 ⟨fun q1 => ?_, fun q2 => ⟨fun q3 => ?_, fun q4 => ⟨fun q5 => ?_, fun q6 => ⟨fun q7 => ⟨⟨(by first | omega | assumption | (refine ⟨?_, ?_⟩ <;> omega) | (simp_all; done)), (by first | omega | assumption | (refine ⟨?_, ?_⟩ <;> omega) | (simp_all; done))⟩, ?_⟩, fun q8 => ?_⟩⟩⟩⟩)
    all_goals try (exact refN)
    all_goals omega
theorem L135 (t x1 x2 : Int) : Step t 135 255 [vI x1, vI x2] := by
  intro d M G hd hI
  have hI1 := hI.same (kp.refl [] M)
  obtain ⟨hv, hlt, ht, hvo, hto, t0⟩ := hI.t
  obtain ⟨d, rfl⟩ := sD 7 (d := d) (by omega)
  have refN : ¬ (0 ≤ x1 ∧ x1 < 12 ∧ -1 ≤ x2 ∧ x2 < 12 ∧ x2 ≠ x1) → sC (d + 7) 255 [vO 12 82, vI x1, vI x2] M G (QI (LPost t (-2))) := fun hno => by
    refine e255 (s255_0 ⟨fun q1 => ?_, fun q2 => ⟨fun q3 => ?_, fun q4 => ⟨fun q5 => ⟨⟨by omega, by omega⟩, ⟨by omega, by omega⟩, ⟨by omega, by omega⟩, ⟨(by first | omega | assumption | (refine ⟨?_, ?_⟩ <;> omega) | (simp_all; done)), (by first | omega | assumption | (refine ⟨?_, ?_⟩ <;> omega) | (simp_all; done))⟩, ?_⟩, fun q6 => ⟨fun q7 => ?_, fun q8 => ⟨fun q9 => ?_, fun q10 => ⟨fun q11 => ⟨⟨by omega, by omega⟩, ⟨by omega, by omega⟩, ⟨by omega, by omega⟩, ⟨(by first | omega | assumption | (refine ⟨?_, ?_⟩ <;> omega) | (simp_all; done)), (by first | omega | assumption | (refine ⟨?_, ?_⟩ <;> omega) | (simp_all; done))⟩, ?_⟩, fun q12 => ?_⟩⟩⟩⟩⟩⟩)
    all_goals try (exact ⟨rfl, hI1⟩)
    all_goals omega
  have refY : 0 ≤ x1 ∧ x1 < 12 ∧ -1 ≤ x2 ∧ x2 < 12 ∧ x2 ≠ x1 → sC (d + 7) 255 [vO 12 82, vI x1, vI x2] (sUpd M 28 x1.toNat x2) G (QI (LPost t (M 28 x1.toNat))) := fun hg => by
    have e3 : sUpd M 28 x1.toNat x2 93 = M 93 := sUpd_ne (by decide)
    have fin : LPost t (M 28 x1.toNat) (sUpd M 28 x1.toNat x2 93 ((136 + (5 * x1)) + 3).toNat) (sUpd (sUpd M 28 x1.toNat x2) 93 ((136 + (5 * x1)) + 3).toNat x2) G := by
      rw [upd_setS, e3]
      have hw : M 28 x1.toNat = pO (M 93) x1 3 := (ht.2.2.2.1 x1 hg.1 hg.2.1).2.2
      have ep : ∀ p w : Int, 0 ≤ p → p < 12 → 0 ≤ w → w < 5 → pO (uS (M 93) ((136 + (5 * x1)) + 3).toNat x2) p w = if p = x1 ∧ w = 3 then x2 else pO (M 93) p w := fun p w p0 p1 w0 w1 => by
        by_cases c : p = x1 ∧ w = 3
        · rw [if_pos c, c.1, c.2]; exact uS_eq rfl
        · rw [if_neg c]; exact uS_ne (by omega)
      have o : ∀ j : Nat, j < 136 ∨ 196 ≤ j → uS (M 93) ((136 + (5 * x1)) + 3).toNat x2 j = M 93 j := fun j hj => uS_ne (by omega)
      have m : ∀ a, a ≠ 28 → setS (sUpd M 28 x1.toNat x2) (uS (M 93) ((136 + (5 * x1)) + 3).toNat x2) a = if a = 93 then uS (M 93) ((136 + (5 * x1)) + 3).toNat x2 else M a := fun a ha => by
        by_cases c : a = 93
        · rw [if_pos c, c, setS_93]
        · rw [if_neg c, setS_ne c, sUpd_ne ha]
      have m' : ∀ a, a ≠ 28 → a ≠ 93 → setS (sUpd M 28 x1.toNat x2) (uS (M 93) ((136 + (5 * x1)) + 3).toNat x2) a = M a := fun a h1 h2 => by rw [m a h1, if_neg h2]
      have ei : ∀ h, inN (uS (M 93) ((136 + (5 * x1)) + 3).toNat x2) h = inN (M 93) h := fun h => nS_congr (fun i hi => by
        show (if pO (uS (M 93) ((136 + (5 * x1)) + 3).toNat x2) (i : Int) 0 = h then (1 : Int) else 0) = _
        rw [ep i 0 (by omega) (by omega) (by decide) (by decide), if_neg (c := (i : Int) = x1 ∧ (0 : Int) = 3) (fun z => absurd z.2 (by decide))]; rfl)
      obtain ⟨⟨a0, a1, a2, a3, a4⟩, g2, g3, g4, g5⟩ := hv
      obtain ⟨⟨l0, l1, l2, l3⟩, t2, t3, t4, t5⟩ := ht
      have eh : ∀ h w : Int, 0 ≤ h → h < 6 → 0 ≤ w → w < 3 → hO (uS (M 93) ((136 + (5 * x1)) + 3).toNat x2) h w = hO (M 93) h w := fun h w h0 h1 w0 w1 => o _ (by omega)
      have et : ∀ h w : Int, 0 ≤ h → h < 18 → 0 ≤ w → w < 6 → tO (uS (M 93) ((136 + (5 * x1)) + 3).toNat x2) h w = tO (M 93) h w := fun h w h0 h1 w0 w1 => o _ (by omega)
      refine ⟨hw.symm, hI.town (fun a h1 h2 _ => m' a (by omega) h2) (by rw [m' 1 (by decide) (by decide)]) (by rw [m' 3 (by decide) (by decide)]) ⟨by rw [m' 82 (by decide) (by decide)], by rw [m' 82 (by decide) (by decide)]⟩ ?_ ?_ ?_ ?_⟩
      · rw [setS_93]
        refine vTown.mono (B := 1200 * t) (by omega) ⟨⟨by rw [o 0 (by omega)]; exact a0, by rw [o 1 (by omega)]; exact a1, by rw [o 2 (by omega)]; exact a2, by rw [o 3 (by omega)]; exact a3, by rw [o 4 (by omega)]; exact a4⟩, fun h h0 h1 => ?_, fun s s0 s1 => ?_, fun p p0 p1 => ?_, fun h h0 h1 => ?_⟩
        · rw [o 0 (by omega)] at h1
          rw [eh h 0 h0 (by omega) (by decide) (by decide), eh h 1 h0 (by omega) (by decide) (by decide), eh h 2 h0 (by omega) (by decide) (by decide)]; exact g2 h h0 h1
        · rw [o 1 (by omega)] at s1
          rw [et s 0 s0 (by omega) (by decide) (by decide), et s 1 s0 (by omega) (by decide) (by decide), et s 2 s0 (by omega) (by decide) (by decide), et s 3 s0 (by omega) (by decide) (by decide), et s 4 s0 (by omega) (by decide) (by decide), et s 5 s0 (by omega) (by decide) (by decide), o 0 (by omega)]; exact g3 s s0 s1
        · rw [ep p 0 p0 p1 (by decide) (by decide), ep p 1 p0 p1 (by decide) (by decide), ep p 2 p0 p1 (by decide) (by decide), ep p 3 p0 p1 (by decide) (by decide), ep p 4 p0 p1 (by decide) (by decide), o 0 (by omega), o 1 (by omega), o 4 (by omega), if_neg (c := p = x1 ∧ (0 : Int) = 3) (fun z => absurd z.2 (by decide)), if_neg (c := p = x1 ∧ (1 : Int) = 3) (fun z => absurd z.2 (by decide)), if_neg (c := p = x1 ∧ (2 : Int) = 3) (fun z => absurd z.2 (by decide)), if_neg (c := p = x1 ∧ (4 : Int) = 3) (fun z => absurd z.2 (by decide))]
          obtain ⟨c0, c1, c2, c3, c4, c5⟩ := g4 p p0 p1
          refine ⟨c0, c1, c2, c3, ?_, c5⟩
          by_cases c : p = x1
          · rw [if_pos ⟨c, rfl⟩, c]; omega
          · rw [if_neg (fun z => c z.1)]; exact c4
        · rw [o 0 (by omega)] at h1
          rw [ei, eh h 1 h0 (by omega) (by decide) (by decide)]; exact g5 h h0 h1
      · rw [setS_93]; unfold lowLate at hlt ⊢; rw [o 3 (by omega), o 2 (by omega)]; exact hlt
      · rw [setS_93]
        refine ⟨⟨by rw [m' 14 (by decide) (by decide), o 0 (by omega)]; exact l0, by rw [m' 14 (by decide) (by decide), o 1 (by omega)]; exact l1, by rw [m' 14 (by decide) (by decide), o 2 (by omega)]; exact l2, by rw [m' 14 (by decide) (by decide), o 3 (by omega)]; exact l3⟩, fun h h0 h1 => ?_, fun s s0 s1 => ?_, fun p p0 p1 => ?_, fun h h0 h1 => ?_⟩
        · rw [o 0 (by omega)] at h1
          rw [m' (14 + 1) (by decide) (by decide), m' (14 + 2) (by decide) (by decide), m' (14 + 3) (by decide) (by decide), m' (14 + 4) (by decide) (by decide), eh h 0 h0 (by omega) (by decide) (by decide), eh h 1 h0 (by omega) (by decide) (by decide), eh h 2 h0 (by omega) (by decide) (by decide), ei]; exact t2 h h0 h1
        · rw [o 1 (by omega)] at s1
          rw [m' (14 + 6) (by decide) (by decide), m' (14 + 7) (by decide) (by decide), m' (14 + 8) (by decide) (by decide), m' (14 + 9) (by decide) (by decide), m' (14 + 10) (by decide) (by decide), m' (14 + 11) (by decide) (by decide), et s 0 s0 (by omega) (by decide) (by decide), et s 1 s0 (by omega) (by decide) (by decide), et s 2 s0 (by omega) (by decide) (by decide), et s 3 s0 (by omega) (by decide) (by decide), et s 4 s0 (by omega) (by decide) (by decide), et s 5 s0 (by omega) (by decide) (by decide)]; exact t3 s s0 s1
        · obtain ⟨c0, c1, c2⟩ := t4 p p0 p1
          rw [m' (14 + 12) (by decide) (by decide), m' (14 + 13) (by decide) (by decide), ep p 0 p0 p1 (by decide) (by decide), ep p 1 p0 p1 (by decide) (by decide), ep p 3 p0 p1 (by decide) (by decide), if_neg (c := p = x1 ∧ (0 : Int) = 3) (fun z => absurd z.2 (by decide)), if_neg (c := p = x1 ∧ (1 : Int) = 3) (fun z => absurd z.2 (by decide)), setS_ne (by decide)]
          refine ⟨c0, c1, ?_⟩
          show sUpd M 28 x1.toNat x2 28 p.toNat = _
          rw [sUpd_at]
          by_cases c : p = x1
          · rw [if_pos (by rw [c]), if_pos ⟨c, rfl⟩]
          · rw [if_neg (by omega), if_neg (fun z => c z.1)]; exact c2
        · rw [o 0 (by omega)] at h1
          have hr := t5 h h0 h1
          have er : rW 14 (setS (sUpd M 28 x1.toNat x2) (uS (M 93) ((136 + (5 * x1)) + 3).toNat x2)) = rW 14 M := by funext h i; unfold rW; rw [m' (14 + 5) (by decide) (by decide)]
          refine ⟨fun g => ?_, fun i j i0 ij j1 => ?_⟩
          · rw [er, ei, ← hr.1 g]
            exact nS_congr (fun q hq => by rw [ep q 0 (by omega) (by omega) (by decide) (by decide), if_neg (c := (q : Int) = x1 ∧ (0 : Int) = 3) (fun z => absurd z.2 (by decide))])
          · rw [ei] at j1
            obtain ⟨b1, b2, -⟩ := hr.mem i0 (by omega)
            obtain ⟨b3, b4, -⟩ := hr.mem (i := j) (by omega) j1
            rw [er, ep _ 2 b1 b2 (by decide) (by decide), ep _ 2 b3 b4 (by decide) (by decide), if_neg (fun z => absurd z.2 (by decide)), if_neg (fun z => absurd z.2 (by decide))]
            exact hr.2 i j i0 ij j1
      · rw [setS_93]
        exact ⟨fun j hj => o j (by omega), fun p p0 p1 => by rw [ep p 4 p0 p1 (by decide) (by decide), if_neg (fun z => absurd z.2 (by decide))]⟩
    refine e255 (s255_0 ⟨fun q1 => ?_, fun q2 => ⟨fun q3 => ?_, fun q4 => ⟨fun q5 => ⟨⟨by omega, by omega⟩, ⟨by omega, by omega⟩, ⟨by omega, by omega⟩, ⟨(by first | omega | assumption | (refine ⟨?_, ?_⟩ <;> omega) | (simp_all; done)), (by first | omega | assumption | (refine ⟨?_, ?_⟩ <;> omega) | (simp_all; done))⟩, ?_⟩, fun q6 => ⟨fun q7 => ?_, fun q8 => ⟨fun q9 => ?_, fun q10 => ⟨fun q11 => ⟨⟨by omega, by omega⟩, ⟨by omega, by omega⟩, ⟨by omega, by omega⟩, ⟨(by first | omega | assumption | (refine ⟨?_, ?_⟩ <;> omega) | (simp_all; done)), (by first | omega | assumption | (refine ⟨?_, ?_⟩ <;> omega) | (simp_all; done))⟩, ?_⟩, fun q12 => ?_⟩⟩⟩⟩⟩⟩)
    all_goals try (exact fin)
    all_goals omega
  refine e135 (s135_0 ⟨fun q1 => ?_, fun q2 => ⟨fun q3 => ?_, fun q4 => ⟨fun q5 => ?_, fun q6 => ⟨fun q7 => ⟨⟨(by first | omega | assumption | (refine ⟨?_, ?_⟩ <;> omega) | (simp_all; done)), (by first | omega | assumption | (refine ⟨?_, ?_⟩ <;> omega) | (simp_all; done))⟩, ?_⟩, fun q8 => ⟨fun q9 => ?_, fun q10 => ⟨fun q11 => ?_, fun q12 => ⟨⟨(by first | omega | assumption | (refine ⟨?_, ?_⟩ <;> omega) | (simp_all; done)), (by first | omega | assumption | (refine ⟨?_, ?_⟩ <;> omega) | (simp_all; done))⟩, ?_⟩⟩⟩⟩⟩⟩⟩)
  all_goals try (first | exact refN (by omega) | exact refY (by omega))
/-! bytes -/
theorem z_byte (y : Int) : iByte y = if y % 256 < 128 then y % 256 else y % 256 - 256 := by
  unfold iByte
  rw [Int8.toInt_toInt32, Int32.toInt_toInt8, Int32.toInt_ofInt, Int.bmod_bmod_of_dvd (by decide), Int.bmod_def]
  rfl
theorem z_and255 (y : Int) : iAnd y 255 = y % 256 := by
  have e : Int32.ofInt y = nI (y % 4294967296).toNat := by
    apply Int32.toBitVec_inj.mp
    apply BitVec.eq_of_toNat_eq
    show (BitVec.ofInt 32 y).toNat = (BitVec.ofNat 32 (y % 4294967296).toNat).toNat
    rw [BitVec.toNat_ofInt, BitVec.toNat_ofNat, Nat.mod_eq_of_lt (by omega)]
    rfl
  show (Int32.ofInt y &&& Int32.ofInt ((255 : Nat) : Int)).toInt = _
  rw [e, n_of, nx_and, n_to (Nat.lt_of_le_of_lt Nat.and_le_right (by decide)), Nat.and_two_pow_sub_one_eq_mod _ 8]
  omega
