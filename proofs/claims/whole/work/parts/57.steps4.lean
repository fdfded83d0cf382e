/-! STEPS: wishes, went, before, guest, worth, waits, end. -/
theorem L119 (t x0 x1 x2 x3 x4 : Int) (s4 : sI x4) : Step t 119 250 [vI x0, vI x1, vI x2, vI x3, vI x4] := by
  intro d M G hd hI
  have hI1 := hI.same (kp.refl [] M)
  obtain ⟨hv, hlt, ht, hvo, hto, t0⟩ := hI.t
  have o1 := hto.1.1
  have v5 := hvo.1
  have hp4 : ∀ p : Int, 0 ≤ p → p < 12 → 0 ≤ pO (M 93) p 4 ∧ pO (M 93) p 4 ≤ 99 := fun p p0 p1 => (hv.2.2.2.1 p p0 p1).2.2.2.2.2
  have refN : (x0 ≠ -1 ∧ ¬ (0 ≤ x0 ∧ x0 < 12 ∧ 0 ≤ x1 ∧ x1 < 6 ∧ M 93 5 < 6 ∧ 0 ≤ x2 ∧ x2 < x3 ∧ x3 ≤ 95 ∧ 1 ≤ x4 ∧ x4 ≤ x3 - x2 ∧ x3 - x2 - x4 ≤ 11)) → sC d 250 [vO 12 82, vI x0, vI x1, vI x2, vI x3, vI x4] M G (QI (LPost t (-2))) := fun hno => by
    obtain ⟨d, rfl⟩ := sD 7 (d := d) (by omega)
    have z := s250_99 (d := d + 6) (P := LPost t (-2)) (M := M) (G := G) ⟨rfl, hI1⟩
    refine e250 (s250_0 ⟨fun q1 => ⟨fun q2 => z, fun q3 => ⟨fun q4 => z, fun q5 => ⟨fun q6 => z, fun q7 => ⟨fun q8 => z, fun q9 => ⟨fun q10 => z, fun q11 => ⟨fun q12 => z, fun q13 => ⟨fun q14 => z, fun q15 => ⟨⟨by omega, by omega⟩, fun q16 => z, fun q17 => ⟨fun q18 => z, fun q19 => ⟨⟨by omega, by omega⟩, fun q20 => z, fun q21 => ⟨fun q22 => z, fun q23 => ⟨⟨by omega, by omega⟩, fun q24 => by omega, fun q25 => z⟩⟩⟩⟩⟩⟩⟩⟩⟩⟩⟩⟩, fun q26 => by omega⟩)
  by_cases hm : x0 = -1
  · subst hm
    obtain ⟨d, rfl⟩ := sD 7 (d := d) (by omega)
    refine e119 (s119_0 ⟨fun q1 => ⟨fun q2 => ?_, fun q3 => ⟨fun q4 => ?_, fun q5 => ⟨fun q6 => ?_, fun q7 => ⟨fun q8 => ?_, fun q9 => ⟨fun q10 => ⟨fun q11 => ?_, fun q12 => ⟨fun q13 => ?_, fun q14 => ⟨fun q15 => ?_, fun q16 => ⟨fun q17 => ?_, fun q18 => ⟨fun q19 => ?_, fun q20 => ⟨fun q21 => ⟨⟨by omega, by omega⟩, fun q22 => ?_, fun q23 => ⟨⟨by omega, by omega⟩, fun q24 => ?_, fun q25 => ?_⟩⟩, fun q26 => ?_⟩⟩⟩⟩⟩⟩, fun q27 => ?_⟩⟩⟩⟩⟩, fun q28 => ?_⟩)
    all_goals try omega
    refine e250 (s250_0 ⟨fun q1 => ⟨fun q2 => ?_, fun q3 => ⟨fun q4 => ?_, fun q5 => ⟨fun q6 => ?_, fun q7 => ⟨fun q8 => ?_, fun q9 => ⟨fun q10 => ?_, fun q11 => ⟨fun q12 => ?_, fun q13 => ⟨fun q14 => ?_, fun q15 => ⟨⟨by omega, by omega⟩, fun q16 => ?_, fun q17 => ⟨fun q18 => ?_, fun q19 => ⟨⟨by omega, by omega⟩, fun q20 => ?_, fun q21 => ⟨fun q22 => ?_, fun q23 => ⟨⟨by omega, by omega⟩, fun q24 => ⟨⟨by omega, by omega⟩, ⟨by omega, by omega⟩, ⟨(by first | omega | assumption | (refine ⟨?_, ?_⟩ <;> omega) | (simp_all; done)), (by first | omega | assumption | (refine ⟨?_, ?_⟩ <;> omega) | (simp_all; done))⟩, ⟨by omega, by omega⟩, ⟨(by first | omega | assumption | (refine ⟨?_, ?_⟩ <;> omega) | (simp_all; done)), (by first | omega | assumption | (refine ⟨?_, ?_⟩ <;> omega) | (simp_all; done))⟩, ⟨by omega, by omega⟩, ⟨(by first | omega | assumption | (refine ⟨?_, ?_⟩ <;> omega) | (simp_all; done)), (by first | omega | assumption | (refine ⟨?_, ?_⟩ <;> omega) | (simp_all; done))⟩, ⟨by omega, by omega⟩, ⟨(by first | omega | assumption | (refine ⟨?_, ?_⟩ <;> omega) | (simp_all; done)), (by first | omega | assumption | (refine ⟨?_, ?_⟩ <;> omega) | (simp_all; done))⟩, ⟨by omega, by omega⟩, ⟨(by first | omega | assumption | (refine ⟨?_, ?_⟩ <;> omega) | (simp_all; done)), (by first | omega | assumption | (refine ⟨?_, ?_⟩ <;> omega) | (simp_all; done))⟩, ⟨by omega, by omega⟩, ?_⟩, fun q25 => ?_⟩⟩⟩⟩⟩⟩⟩⟩⟩⟩⟩⟩, fun q26 => ?_⟩)
    all_goals try omega
    rw [upd_setS, sUpd_ne (b := 93) (by decide)]
    exact ⟨rfl, hI.toldK (fun a h => sUpd_ne (by omega)) ((eqTown.refl _).up (by omega)) (fun p p0 p1 => by rw [pO4_up (by omega) p0 p1]; exact hp4 p p0 p1) (wi_z hvo) (wi_y hto)⟩
  · obtain ⟨d, rfl⟩ := sD 7 (d := d) (by omega)
    refine e119 (s119_0 ⟨fun q1 => ⟨fun q2 => ?_, fun q3 => ⟨fun q4 => ?_, fun q5 => ⟨fun q6 => ?_, fun q7 => ⟨fun q8 => ?_, fun q9 => ⟨fun q10 => ⟨fun q11 => ?_, fun q12 => ⟨fun q13 => ?_, fun q14 => ⟨fun q15 => ?_, fun q16 => ⟨fun q17 => ?_, fun q18 => ⟨fun q19 => ?_, fun q20 => ⟨fun q21 => ⟨⟨by omega, by omega⟩, fun q22 => ?_, fun q23 => ⟨⟨by omega, by omega⟩, fun q24 => ?_, fun q25 => ?_⟩⟩, fun q26 => ?_⟩⟩⟩⟩⟩⟩, fun q27 => ?_⟩⟩⟩⟩⟩, fun q28 => ?_⟩)
    all_goals try (exact refN (by omega))
    all_goals try omega
    have hn2 : 0 ≤ M 93 5 ∧ M 93 5 < 6 := ⟨v5.1, by omega⟩
    have hto1 := wi_m (x0 := x0) (x1 := x1) (x2 := x2) (x3 := x3) (x4 := x4) hvo hn2.2 hto
    have hvo1 := wi_v (x0 := x0) (x1 := x1) (x2 := x2) (x3 := x3) (x4 := x4) hvo hn2.2 ⟨by omega, by omega, by omega, by omega, by omega, by omega, by omega⟩
    have htn := wi_t (S := M 93) (x0 := x0) (x1 := x1) (x2 := x2) (x3 := x3) (x4 := x4) hn2
    obtain ⟨d', rfl⟩ : ∃ d', d = d' + 1 := ⟨d - 1, by omega⟩
    refine e121 ?_
    refine s121_0 ⟨fun q => by omega, fun q => ⟨⟨by omega, by omega⟩, ⟨by omega, by omega⟩, ?_⟩⟩
    generalize hM1 : (sUpd (sUpd (sUpd (sUpd (sUpd (sUpd M 31 (M 29 1).toNat x0) 32 (M 29 1).toNat x1) 33 (M 29 1).toNat x2) 34 (M 29 1).toNat x3) 35 (M 29 1).toNat x4) 29 1 ((M 29 1) + 1)) = M1 at hto1 ⊢
    have mo : ∀ a, ¬ (29 ≤ a ∧ a ≤ 40) → M1 a = M a := fun a ha => by rw [← hM1, sUpd_ne (by omega), sUpd_ne (by omega), sUpd_ne (by omega), sUpd_ne (by omega), sUpd_ne (by omega), sUpd_ne (by omega)]
    have e93 : M1 93 = M 93 := mo 93 (by omega)
    have er : M1 29 1 = M 93 5 + 1 := by rw [hto1.1.1, wi_c hn2]
    have e5 : M1 93 5 = M 93 5 := by rw [e93]
    have u5 : (sUpd (sUpd (sUpd (sUpd (sUpd M1 93 (196 + (5 * (M1 93 5))).toNat x0) 93 ((196 + (5 * (M1 93 5))) + 1).toNat x1) 93 ((196 + (5 * (M1 93 5))) + 2).toNat x2) 93 ((196 + (5 * (M1 93 5))) + 3).toNat x3) 93 ((196 + (5 * (M1 93 5))) + 4).toNat x4) 93 5 = M 93 5 := by
      rw [sUpd_ni (by omega), sUpd_ni (by omega), sUpd_ni (by omega), sUpd_ni (by omega), sUpd_ni (by omega), e5]
    rw [er]
    refine e250 (s250_0 ⟨fun q1 => ⟨fun q2 => ?_, fun q3 => ⟨fun q4 => ?_, fun q5 => ⟨fun q6 => ?_, fun q7 => ⟨fun q8 => ?_, fun q9 => ⟨fun q10 => ?_, fun q11 => ⟨fun q12 => ?_, fun q13 => ⟨fun q14 => ?_, fun q15 => ⟨⟨by omega, by omega⟩, fun q16 => ?_, fun q17 => ⟨fun q18 => ?_, fun q19 => ⟨⟨by omega, by omega⟩, fun q20 => ?_, fun q21 => ⟨fun q22 => ?_, fun q23 => ⟨⟨by omega, by omega⟩, fun q24 => ⟨⟨by omega, by omega⟩, ⟨by omega, by omega⟩, ⟨(by first | omega | assumption | (refine ⟨?_, ?_⟩ <;> omega) | (simp_all; done)), (by first | omega | assumption | (refine ⟨?_, ?_⟩ <;> omega) | (simp_all; done))⟩, ⟨by omega, by omega⟩, ⟨(by first | omega | assumption | (refine ⟨?_, ?_⟩ <;> omega) | (simp_all; done)), (by first | omega | assumption | (refine ⟨?_, ?_⟩ <;> omega) | (simp_all; done))⟩, ⟨by omega, by omega⟩, ⟨(by first | omega | assumption | (refine ⟨?_, ?_⟩ <;> omega) | (simp_all; done)), (by first | omega | assumption | (refine ⟨?_, ?_⟩ <;> omega) | (simp_all; done))⟩, ⟨by omega, by omega⟩, ⟨(by first | omega | assumption | (refine ⟨?_, ?_⟩ <;> omega) | (simp_all; done)), (by first | omega | assumption | (refine ⟨?_, ?_⟩ <;> omega) | (simp_all; done))⟩, ⟨by omega, by omega⟩, ⟨(by first | omega | assumption | (refine ⟨?_, ?_⟩ <;> omega) | (simp_all; done)), (by first | omega | assumption | (refine ⟨?_, ?_⟩ <;> omega) | (simp_all; done))⟩, ⟨by omega, by omega⟩, ?_⟩, fun q25 => ?_⟩⟩⟩⟩⟩⟩⟩⟩⟩⟩⟩⟩, fun q26 => ?_⟩)
    all_goals try (first | omega | exact absurd (by omega) hm)
    rw [u5, e5, upd_setS M1, setS_upd, setS_upd, setS_upd, setS_upd, setS_upd, e93]
    exact ⟨rfl, hI.toldK mo htn (fun p p0 p1 => by rw [wi_p hn2 p0 p1]; exact hp4 p p0 p1) hvo1 hto1⟩
theorem L148 (t x0 x1 : Int) : Step t 148 265 [vI x0, vI x1] := by
  intro d M G hd hI
  have hI1 := hI.same (kp.refl [] M)
  obtain ⟨hv, hlt, ht, hvo, hto, t0⟩ := hI.t
  have o1 := hto.1.2.2.1
  have v5 := hvo.2.2.1
  have hp4 : ∀ p : Int, 0 ≤ p → p < 12 → 0 ≤ pO (M 93) p 4 ∧ pO (M 93) p 4 ≤ 99 := fun p p0 p1 => (hv.2.2.2.1 p p0 p1).2.2.2.2.2
  obtain ⟨d, rfl⟩ := sD 7 (d := d) (by omega)
  by_cases hm : x0 = -1
  · subst hm
    refine e148 (s148_0 ⟨fun q1 => ⟨fun q2 => ?_, fun q3 => ⟨fun q4 => ?_, fun q5 => ⟨fun q6 => ?_, fun q7 => ⟨fun q8 => ?_, fun q9 => ⟨fun q10 => ?_, fun q11 => ⟨fun q12 => ⟨⟨(by first | omega | assumption | (refine ⟨?_, ?_⟩ <;> omega) | (simp_all; done)), (by first | omega | assumption | (refine ⟨?_, ?_⟩ <;> omega) | (simp_all; done))⟩, ⟨by omega, by omega⟩, ?_⟩, fun q13 => ?_⟩⟩⟩⟩⟩⟩, fun q14 => ?_⟩)
    all_goals try omega
    refine e265 (s265_0 ⟨fun q1 => ⟨fun q2 => ?_, fun q3 => ⟨fun q4 => ?_, fun q5 => ⟨fun q6 => ?_, fun q7 => ⟨fun q8 => ?_, fun q9 => ⟨fun q10 => ?_, fun q11 => ⟨fun q12 => ⟨⟨by omega, by omega⟩, ⟨by omega, by omega⟩, ⟨(by first | omega | assumption | (refine ⟨?_, ?_⟩ <;> omega) | (simp_all; done)), (by first | omega | assumption | (refine ⟨?_, ?_⟩ <;> omega) | (simp_all; done))⟩, ⟨by omega, by omega⟩, ⟨by omega, by omega⟩, ⟨by omega, by omega⟩, ⟨(by first | omega | assumption | (refine ⟨?_, ?_⟩ <;> omega) | (simp_all; done)), (by first | omega | assumption | (refine ⟨?_, ?_⟩ <;> omega) | (simp_all; done))⟩, ⟨by omega, by omega⟩, ?_⟩, fun q13 => ?_⟩⟩⟩⟩⟩⟩, fun q14 => ?_⟩)
    all_goals try omega
    rw [upd_setS, sUpd_ne (b := 93) (by decide)]
    exact ⟨rfl, hI.toldK (fun a h => sUpd_ne (by omega)) ((eqTown.refl _).up (by omega)) (fun p p0 p1 => by rw [pO4_up (by omega) p0 p1]; exact hp4 p p0 p1) (fa_z hvo) (fa_y hto)⟩
  · by_cases hg : 0 ≤ x0 ∧ x0 < 12 ∧ 0 ≤ x1 ∧ x1 < 12 ∧ x0 ≠ x1 ∧ M 93 7 < 8
    · have hn2 : 0 ≤ M 93 7 ∧ M 93 7 < 8 := ⟨v5.1, by omega⟩
      refine e148 (s148_0 ⟨fun q1 => ⟨fun q2 => ?_, fun q3 => ⟨fun q4 => ?_, fun q5 => ⟨fun q6 => ?_, fun q7 => ⟨fun q8 => ?_, fun q9 => ⟨fun q10 => ?_, fun q11 => ⟨fun q12 => ⟨⟨(by first | omega | assumption | (refine ⟨?_, ?_⟩ <;> omega) | (simp_all; done)), (by first | omega | assumption | (refine ⟨?_, ?_⟩ <;> omega) | (simp_all; done))⟩, ⟨by omega, by omega⟩, ?_⟩, fun q13 => ?_⟩⟩⟩⟩⟩⟩, fun q14 => ?_⟩)
      all_goals try omega
      have hto1 := fa_m (x0 := x0) (x1 := x1) hvo hn2.2 hto
      have hvo1 := fa_v (x0 := x0) (x1 := x1) hvo hn2.2 ⟨by omega, by omega, by omega⟩
      have htn := fa_t (S := M 93) (x0 := x0) (x1 := x1) hn2
      rw [show M 29 9 + 1 = M 93 7 + 1 by omega]
      rw [show M 29 9 + 1 = M 93 7 + 1 by omega] at hto1
      generalize hM1 : (sUpd (sUpd (sUpd M 37 (M 29 9).toNat x0) 38 (M 29 9).toNat x1) 29 9 (M 93 7 + 1)) = M1 at hto1 ⊢
      have mo : ∀ a, ¬ (29 ≤ a ∧ a ≤ 40) → M1 a = M a := fun a ha => by rw [← hM1, sUpd_ne (by omega), sUpd_ne (by omega), sUpd_ne (by omega)]
      have e93 : M1 93 = M 93 := mo 93 (by omega)
      have e5 : M1 93 7 = M 93 7 := by rw [e93]
      have ua : (sUpd M1 93 (234 + (2 * (M1 93 7))).toNat x0) 93 7 = M 93 7 := by rw [sUpd_ni (by omega), e5]
      have ub : (sUpd (sUpd M1 93 (234 + (2 * (M1 93 7))).toNat x0) 93 ((234 + (2 * ((sUpd M1 93 (234 + (2 * (M1 93 7))).toNat x0) 93 7))) + 1).toNat x1) 93 7 = M 93 7 := by rw [sUpd_ni (by rw [ua]; omega), ua]
      refine e265 (s265_0 ⟨fun q1 => ⟨fun q2 => ?_, fun q3 => ⟨fun q4 => ?_, fun q5 => ⟨fun q6 => ?_, fun q7 => ⟨fun q8 => ?_, fun q9 => ⟨fun q10 => ?_, fun q11 => ⟨fun q12 => ⟨⟨by omega, by omega⟩, ⟨by omega, by omega⟩, ⟨(by first | omega | assumption | (refine ⟨?_, ?_⟩ <;> omega) | (simp_all; done)), (by first | omega | assumption | (refine ⟨?_, ?_⟩ <;> omega) | (simp_all; done))⟩, ⟨by omega, by omega⟩, ⟨by omega, by omega⟩, ⟨by omega, by omega⟩, ⟨(by first | omega | assumption | (refine ⟨?_, ?_⟩ <;> omega) | (simp_all; done)), (by first | omega | assumption | (refine ⟨?_, ?_⟩ <;> omega) | (simp_all; done))⟩, ⟨by omega, by omega⟩, ?_⟩, fun q13 => ?_⟩⟩⟩⟩⟩⟩, fun q14 => ?_⟩)
      all_goals try omega
      rw [ub, ua, e5, upd_setS M1, setS_upd, setS_upd, e93]
      exact ⟨rfl, hI.toldK mo htn (fun p p0 p1 => by rw [fa_p hn2 p0 p1]; exact hp4 p p0 p1) hvo1 hto1⟩
    · have refN : sC (d + 7) 265 [vO 12 82, vI x0, vI x1] M G (QI (LPost t (-2))) := by
        have ua : (sUpd M 93 (234 + (2 * (M 93 7))).toNat x0) 93 7 = M 93 7 := by rw [sUpd_ni (by omega)]
        have ub : (sUpd (sUpd M 93 (234 + (2 * (M 93 7))).toNat x0) 93 ((234 + (2 * ((sUpd M 93 (234 + (2 * (M 93 7))).toNat x0) 93 7))) + 1).toNat x1) 93 7 = M 93 7 := by rw [sUpd_ni (by rw [ua]; omega), ua]
        refine e265 (s265_0 ⟨fun q1 => ⟨fun q2 => ?_, fun q3 => ⟨fun q4 => ?_, fun q5 => ⟨fun q6 => ?_, fun q7 => ⟨fun q8 => ?_, fun q9 => ⟨fun q10 => ?_, fun q11 => ⟨fun q12 => ⟨⟨by omega, by omega⟩, ⟨by omega, by omega⟩, ⟨(by first | omega | assumption | (refine ⟨?_, ?_⟩ <;> omega) | (simp_all; done)), (by first | omega | assumption | (refine ⟨?_, ?_⟩ <;> omega) | (simp_all; done))⟩, ⟨by omega, by omega⟩, ⟨by omega, by omega⟩, ⟨by omega, by omega⟩, ⟨(by first | omega | assumption | (refine ⟨?_, ?_⟩ <;> omega) | (simp_all; done)), (by first | omega | assumption | (refine ⟨?_, ?_⟩ <;> omega) | (simp_all; done))⟩, ⟨by omega, by omega⟩, ?_⟩, fun q13 => ?_⟩⟩⟩⟩⟩⟩, fun q14 => ?_⟩)
        all_goals try (exact ⟨rfl, hI1⟩)
        all_goals omega
      refine e148 (s148_0 ⟨fun q1 => ⟨fun q2 => ?_, fun q3 => ⟨fun q4 => ?_, fun q5 => ⟨fun q6 => ?_, fun q7 => ⟨fun q8 => ?_, fun q9 => ⟨fun q10 => ?_, fun q11 => ⟨fun q12 => ⟨⟨(by first | omega | assumption | (refine ⟨?_, ?_⟩ <;> omega) | (simp_all; done)), (by first | omega | assumption | (refine ⟨?_, ?_⟩ <;> omega) | (simp_all; done))⟩, ⟨by omega, by omega⟩, ?_⟩, fun q13 => ?_⟩⟩⟩⟩⟩⟩, fun q14 => ?_⟩)
      all_goals try (exact refN)
      all_goals omega
theorem L155 (t x0 x1 : Int) : Step t 155 270 [vI x0, vI x1] := by
  intro d M G hd hI
  have hI1 := hI.same (kp.refl [] M)
  obtain ⟨hv, hlt, ht, hvo, hto, t0⟩ := hI.t
  have o1 := hto.1.2.2.2.1
  have v5 := hvo.2.2.2.1
  have hp4 : ∀ p : Int, 0 ≤ p → p < 12 → 0 ≤ pO (M 93) p 4 ∧ pO (M 93) p 4 ≤ 99 := fun p p0 p1 => (hv.2.2.2.1 p p0 p1).2.2.2.2.2
  obtain ⟨d, rfl⟩ := sD 7 (d := d) (by omega)
  by_cases hm : x0 = -1
  · subst hm
    refine e155 (s155_0 ⟨fun q1 => ⟨fun q2 => ?_, fun q3 => ⟨fun q4 => ?_, fun q5 => ⟨fun q6 => ?_, fun q7 => ⟨fun q8 => ?_, fun q9 => ⟨fun q10 => ?_, fun q11 => ⟨fun q12 => ⟨⟨(by first | omega | assumption | (refine ⟨?_, ?_⟩ <;> omega) | (simp_all; done)), (by first | omega | assumption | (refine ⟨?_, ?_⟩ <;> omega) | (simp_all; done))⟩, ⟨by omega, by omega⟩, ?_⟩, fun q13 => ?_⟩⟩⟩⟩⟩⟩, fun q14 => ?_⟩)
    all_goals try omega
    refine e270 (s270_0 ⟨fun q1 => ⟨fun q2 => ?_, fun q3 => ⟨fun q4 => ?_, fun q5 => ⟨fun q6 => ?_, fun q7 => ⟨⟨by omega, by omega⟩, fun q8 => ?_, fun q9 => ⟨fun q10 => ?_, fun q11 => ⟨⟨by omega, by omega⟩, ⟨by omega, by omega⟩, ⟨(by first | omega | assumption | (refine ⟨?_, ?_⟩ <;> omega) | (simp_all; done)), (by first | omega | assumption | (refine ⟨?_, ?_⟩ <;> omega) | (simp_all; done))⟩, ⟨by omega, by omega⟩, ⟨by omega, by omega⟩, ⟨by omega, by omega⟩, ⟨(by first | omega | assumption | (refine ⟨?_, ?_⟩ <;> omega) | (simp_all; done)), (by first | omega | assumption | (refine ⟨?_, ?_⟩ <;> omega) | (simp_all; done))⟩, ⟨by omega, by omega⟩, ?_⟩⟩⟩⟩⟩⟩, fun q12 => ?_⟩)
    all_goals try omega
    rw [upd_setS, sUpd_ne (b := 93) (by decide)]
    exact ⟨rfl, hI.toldK (fun a h => sUpd_ne (by omega)) ((eqTown.refl _).up (by omega)) (fun p p0 p1 => by rw [pO4_up (by omega) p0 p1]; exact hp4 p p0 p1) (gu_z hvo) (gu_y hto)⟩
  · by_cases hg : 0 ≤ x0 ∧ x0 ≤ 95 ∧ x0 < x1 ∧ x1 ≤ 95 ∧ M 93 8 < 12
    · have hn2 : 0 ≤ M 93 8 ∧ M 93 8 < 12 := ⟨v5.1, by omega⟩
      refine e155 (s155_0 ⟨fun q1 => ⟨fun q2 => ?_, fun q3 => ⟨fun q4 => ?_, fun q5 => ⟨fun q6 => ?_, fun q7 => ⟨fun q8 => ?_, fun q9 => ⟨fun q10 => ?_, fun q11 => ⟨fun q12 => ⟨⟨(by first | omega | assumption | (refine ⟨?_, ?_⟩ <;> omega) | (simp_all; done)), (by first | omega | assumption | (refine ⟨?_, ?_⟩ <;> omega) | (simp_all; done))⟩, ⟨by omega, by omega⟩, ?_⟩, fun q13 => ?_⟩⟩⟩⟩⟩⟩, fun q14 => ?_⟩)
      all_goals try omega
      have hto1 := gu_m (x0 := x0) (x1 := x1) hvo hn2.2 hto
      have hvo1 := gu_v (x0 := x0) (x1 := x1) hvo hn2.2 ⟨by omega, by omega, by omega⟩
      have htn := gu_t (S := M 93) (x0 := x0) (x1 := x1) hn2
      rw [show M 29 12 + 1 = M 93 8 + 1 by omega]
      rw [show M 29 12 + 1 = M 93 8 + 1 by omega] at hto1
      generalize hM1 : (sUpd (sUpd (sUpd M 39 (M 29 12).toNat x0) 40 (M 29 12).toNat x1) 29 12 (M 93 8 + 1)) = M1 at hto1 ⊢
      have mo : ∀ a, ¬ (29 ≤ a ∧ a ≤ 40) → M1 a = M a := fun a ha => by rw [← hM1, sUpd_ne (by omega), sUpd_ne (by omega), sUpd_ne (by omega)]
      have e93 : M1 93 = M 93 := mo 93 (by omega)
      have e5 : M1 93 8 = M 93 8 := by rw [e93]
      have ua : (sUpd M1 93 (250 + (2 * (M1 93 8))).toNat x0) 93 8 = M 93 8 := by rw [sUpd_ni (by omega), e5]
      have ub : (sUpd (sUpd M1 93 (250 + (2 * (M1 93 8))).toNat x0) 93 ((250 + (2 * ((sUpd M1 93 (250 + (2 * (M1 93 8))).toNat x0) 93 8))) + 1).toNat x1) 93 8 = M 93 8 := by rw [sUpd_ni (by rw [ua]; omega), ua]
      refine e270 (s270_0 ⟨fun q1 => ⟨fun q2 => ?_, fun q3 => ⟨fun q4 => ?_, fun q5 => ⟨fun q6 => ?_, fun q7 => ⟨⟨by omega, by omega⟩, fun q8 => ?_, fun q9 => ⟨fun q10 => ?_, fun q11 => ⟨⟨by omega, by omega⟩, ⟨by omega, by omega⟩, ⟨(by first | omega | assumption | (refine ⟨?_, ?_⟩ <;> omega) | (simp_all; done)), (by first | omega | assumption | (refine ⟨?_, ?_⟩ <;> omega) | (simp_all; done))⟩, ⟨by omega, by omega⟩, ⟨by omega, by omega⟩, ⟨by omega, by omega⟩, ⟨(by first | omega | assumption | (refine ⟨?_, ?_⟩ <;> omega) | (simp_all; done)), (by first | omega | assumption | (refine ⟨?_, ?_⟩ <;> omega) | (simp_all; done))⟩, ⟨by omega, by omega⟩, ?_⟩⟩⟩⟩⟩⟩, fun q12 => ?_⟩)
      all_goals try omega
      rw [ub, ua, e5, upd_setS M1, setS_upd, setS_upd, e93]
      exact ⟨rfl, hI.toldK mo htn (fun p p0 p1 => by rw [gu_p hn2 p0 p1]; exact hp4 p p0 p1) hvo1 hto1⟩
    · have refN : sC (d + 7) 270 [vO 12 82, vI x0, vI x1] M G (QI (LPost t (-2))) := by
        have ua : (sUpd M 93 (250 + (2 * (M 93 8))).toNat x0) 93 8 = M 93 8 := by rw [sUpd_ni (by omega)]
        have ub : (sUpd (sUpd M 93 (250 + (2 * (M 93 8))).toNat x0) 93 ((250 + (2 * ((sUpd M 93 (250 + (2 * (M 93 8))).toNat x0) 93 8))) + 1).toNat x1) 93 8 = M 93 8 := by rw [sUpd_ni (by rw [ua]; omega), ua]
        refine e270 (s270_0 ⟨fun q1 => ⟨fun q2 => ?_, fun q3 => ⟨fun q4 => ?_, fun q5 => ⟨fun q6 => ?_, fun q7 => ⟨⟨by omega, by omega⟩, fun q8 => ?_, fun q9 => ⟨fun q10 => ?_, fun q11 => ⟨⟨by omega, by omega⟩, ⟨by omega, by omega⟩, ⟨(by first | omega | assumption | (refine ⟨?_, ?_⟩ <;> omega) | (simp_all; done)), (by first | omega | assumption | (refine ⟨?_, ?_⟩ <;> omega) | (simp_all; done))⟩, ⟨by omega, by omega⟩, ⟨by omega, by omega⟩, ⟨by omega, by omega⟩, ⟨(by first | omega | assumption | (refine ⟨?_, ?_⟩ <;> omega) | (simp_all; done)), (by first | omega | assumption | (refine ⟨?_, ?_⟩ <;> omega) | (simp_all; done))⟩, ⟨by omega, by omega⟩, ?_⟩⟩⟩⟩⟩⟩, fun q12 => ?_⟩)
        all_goals try (exact ⟨rfl, hI1⟩)
        all_goals omega
      refine e155 (s155_0 ⟨fun q1 => ⟨fun q2 => ?_, fun q3 => ⟨fun q4 => ?_, fun q5 => ⟨fun q6 => ?_, fun q7 => ⟨fun q8 => ?_, fun q9 => ⟨fun q10 => ?_, fun q11 => ⟨fun q12 => ⟨⟨(by first | omega | assumption | (refine ⟨?_, ?_⟩ <;> omega) | (simp_all; done)), (by first | omega | assumption | (refine ⟨?_, ?_⟩ <;> omega) | (simp_all; done))⟩, ⟨by omega, by omega⟩, ?_⟩, fun q13 => ?_⟩⟩⟩⟩⟩⟩, fun q14 => ?_⟩)
      all_goals try (exact refN)
      all_goals omega
theorem L146 (t x0 : Int) : Step t 146 263 [vI x0] := by
  intro d M G hd hI
  have hI1 := hI.same (kp.refl [] M)
  obtain ⟨hv, hlt, ht, hvo, hto, t0⟩ := hI.t
  have o1 := hto.1.2.1
  have v5 := hvo.2.1
  have hp4 : ∀ p : Int, 0 ≤ p → p < 12 → 0 ≤ pO (M 93) p 4 ∧ pO (M 93) p 4 ≤ 99 := fun p p0 p1 => (hv.2.2.2.1 p p0 p1).2.2.2.2.2
  obtain ⟨d, rfl⟩ := sD 7 (d := d) (by omega)
  -- the class's place in the row, the reference's
  have cl : ∀ {d' : Nat} {P : Int → sM → sG → Prop}, 2 ≤ d' → (k1 : ∀ k : Int, 0 ≤ k → k < M 93 6 → M 93 (226 + k).toNat = x0 → P k M G) → (k0 : (∀ k : Int, 0 ≤ k → k < M 93 6 → M 93 (226 + k).toNat ≠ x0) → P (-1) M G) → sC d' 147 [vO 9 29, vI x0] M G (QI P) := fun {d' P} hd' k1 k0 => by
    obtain ⟨d', rfl⟩ := sD 2 (d := d') hd'
    refine e147 (s147_0 ?_)
    refine sUpTo (W := fun i => (∀ k : Int, 0 ≤ k → k < (i : Int) → M 93 (226 + k).toNat ≠ x0) → sW (sC (d' + 1)) 147 (QI P) 2 [vO 9 29, vI x0, vI (i : Int)] [] M G 0 0) (M 93 6).toNat ?_ ?_ (fun k a b => by omega)
    · intro hno
      exact s147_2 ⟨fun _ => k0 (fun k a b => hno k a (by omega)), fun q => by omega⟩
    · intro i hi ih hno
      have e := hto.2.2.2.1 i (by omega) (by omega)
      have e' : M 36 ((i : Int)).toNat = M 93 (226 + (i : Int)).toNat := e
      refine (s147_2 ⟨fun q1 => ?_, fun q2 => ⟨⟨(by first | omega | assumption | (refine ⟨?_, ?_⟩ <;> omega) | (simp_all; done)), (by first | omega | assumption | (refine ⟨?_, ?_⟩ <;> omega) | (simp_all; done))⟩, fun q3 => ⟨⟨by omega, by omega⟩, ?_⟩, fun q4 => ?_⟩⟩)
      · omega
      · exact ih (fun k a b => by
          by_cases c : k = (i : Int)
          · rw [c]; omega
          · exact hno k a (by omega))
      · exact k1 i (by omega) (by omega) (by omega)
  have rf : ∀ {d' : Nat} {P : Int → sM → sG → Prop} {M1 : sM}, 2 ≤ d' → M1 93 = M 93 → (k1 : ∀ k : Int, 0 ≤ k → k < M 93 6 → M 93 (226 + k).toNat = x0 → P 1 M1 G) → (k0 : (∀ k : Int, 0 ≤ k → k < M 93 6 → M 93 (226 + k).toNat ≠ x0) → P 0 M1 G) → sC d' 264 [vO 12 82, vI 226, vI (M 93 6), vI 1, vI x0] M1 G (QI P) := fun {d' P M1} hd' e93 k1 k0 => by
    obtain ⟨d', rfl⟩ := sD 2 (d := d') hd'
    refine e264 (s264_0 ?_)
    refine sUpTo (W := fun i => (∀ k : Int, 0 ≤ k → k < (i : Int) → M 93 (226 + k).toNat ≠ x0) → sW (sC (d' + 1)) 264 (QI P) 3 [vO 12 82, vI 226, vI (M 93 6), vI 1, vI x0, vI (i : Int)] [] M1 G 0 0) (M 93 6).toNat ?_ ?_ (fun k a b => by omega)
    · intro hno
      exact s264_3 ⟨fun _ => k0 (fun k a b => hno k a (by omega)), fun q => by omega⟩
    · intro i hi ih hno
      have ee : (226 + (1 * (i : Int))).toNat = (226 + (i : Int)).toNat := by omega
      refine (s264_3 ⟨fun q1 => ?_, fun q2 => ⟨⟨by omega, by omega⟩, ⟨by omega, by omega⟩, ⟨(by first | omega | assumption | (refine ⟨?_, ?_⟩ <;> omega) | (simp_all; done)), (by first | omega | assumption | (refine ⟨?_, ?_⟩ <;> omega) | (simp_all; done))⟩, fun q3 => ⟨⟨by omega, by omega⟩, ?_⟩, fun q4 => ?_⟩⟩)
      · omega
      · rw [e93, ee] at q3
        exact ih (fun k a b => by
          by_cases c : k = (i : Int)
          · rw [c]; exact q3
          · exact hno k a (by omega))
      · rw [e93, ee] at q4
        exact k1 i (by omega) (by omega) q4
  by_cases hm : x0 = -1
  · subst hm
    refine e146 (s146_0 ⟨fun q1 => ⟨fun q2 => ?_, fun q3 => ⟨fun q4 => ?_, fun q5 => ⟨fun q6 => ?_, fun q7 => ?_⟩⟩⟩, fun q10 => ?_⟩)
    all_goals try omega
    refine e263 (s263_0 ⟨fun q1 => ⟨fun q2 => ?_, fun q3 => ⟨fun q4 => ?_, fun q5 => ⟨fun q6 => ?_, fun q7 => ?_⟩⟩⟩, fun q10 => ?_⟩)
    all_goals try omega
    rw [upd_setS, sUpd_ne (b := 93) (by decide)]
    exact ⟨rfl, hI.toldK (fun a h => sUpd_ne (by omega)) ((eqTown.refl _).up (by omega)) (fun p p0 p1 => by rw [pO4_up (by omega) p0 p1]; exact hp4 p p0 p1) (we_z hvo) (we_y hto)⟩
  · by_cases hg : 0 ≤ x0 ∧ x0 < 12 ∧ M 93 6 < 8
    · have hn2 : 0 ≤ M 93 6 ∧ M 93 6 < 8 := ⟨v5.1, by omega⟩
      refine e146 (s146_0 ⟨fun q1 => ⟨fun q2 => ?_, fun q3 => ⟨fun q4 => ?_, fun q5 => ⟨fun q6 => ?_, fun q7 => ?_⟩⟩⟩, fun q10 => ?_⟩)
      all_goals try omega
      refine cl (by omega) (fun k a b c => ⟨fun y => by omega, fun _ => ?_⟩) (fun hno => ⟨fun _ => ⟨⟨by omega, by omega⟩, ⟨by omega, by omega⟩, ?_⟩, fun y => by omega⟩)
      · refine e263 (s263_0 ⟨fun q1 => ⟨fun q2 => ?_, fun q3 => ⟨fun q4 => ?_, fun q5 => ⟨fun q6 => ?_, fun q7 => ?_⟩⟩⟩, fun q10 => ?_⟩)
        all_goals try omega
        refine rf (by omega) rfl (fun _ _ _ _ => ⟨fun y => by omega, fun _ => ⟨rfl, hI1⟩⟩) (fun hno => absurd c (hno k a b))
      · have hto1 := we_m (x0 := x0) hvo hn2.2 hto
        have hvo1 := we_v (x0 := x0) hvo hn2.2 ⟨by omega, hno⟩
        have htn := we_t (S := M 93) (x0 := x0) hn2
        rw [show M 29 7 + 1 = M 93 6 + 1 by omega]
        rw [show M 29 7 + 1 = M 93 6 + 1 by omega] at hto1
        generalize hM1 : (sUpd (sUpd M 36 (M 29 7).toNat x0) 29 7 (M 93 6 + 1)) = M1 at hto1 ⊢
        have mo : ∀ a, ¬ (29 ≤ a ∧ a ≤ 40) → M1 a = M a := fun a ha => by rw [← hM1, sUpd_ne (by omega), sUpd_ne (by omega)]
        have e93 : M1 93 = M 93 := mo 93 (by omega)
        have e5 : M1 93 6 = M 93 6 := by rw [e93]
        have ua : (sUpd M1 93 (226 + (M1 93 6)).toNat x0) 93 6 = M 93 6 := by rw [sUpd_ni (by omega), e5]
        refine e263 (s263_0 ⟨fun q1 => ⟨fun q2 => ?_, fun q3 => ⟨fun q4 => ?_, fun q5 => ⟨fun q6 => ?_, fun q7 => ?_⟩⟩⟩, fun q10 => ?_⟩)
        all_goals try omega
        rw [e5]
        refine rf (by omega) e93 (fun k a b c => absurd c (hno k a b)) (fun _ => ⟨fun _ => ⟨⟨by omega, by omega⟩, ⟨by omega, by omega⟩, ⟨by omega, by omega⟩, ?_⟩, fun y => by omega⟩)
        rw [ua, e5, upd_setS M1, setS_upd, e93]
        exact ⟨rfl, hI.toldK mo htn (fun p p0 p1 => by rw [we_p hn2 p0 p1]; exact hp4 p p0 p1) hvo1 hto1⟩
    · have refN : sC (d + 7) 263 [vO 12 82, vI x0] M G (QI (LPost t (-2))) := by
        refine e263 (s263_0 ⟨fun q1 => ⟨fun q2 => ?_, fun q3 => ⟨fun q4 => ?_, fun q5 => ⟨fun q6 => ?_, fun q7 => ?_⟩⟩⟩, fun q10 => ?_⟩)
        all_goals try (exact ⟨rfl, hI1⟩)
        all_goals omega
      refine e146 (s146_0 ⟨fun q1 => ⟨fun q2 => ?_, fun q3 => ⟨fun q4 => ?_, fun q5 => ⟨fun q6 => ?_, fun q7 => ?_⟩⟩⟩, fun q10 => ?_⟩)
      all_goals try (exact refN)
      all_goals omega
theorem L16 (t x0 : Int) : Step t 16 171 [vI x0] := by
  intro d M G hd hI
  have hI1 := hI.same (kp.refl [] M)
  obtain ⟨t0, own, N, hN, hN2, hT, hR, hG, hW, hO⟩ := id hI
  obtain ⟨a0, a1, a2, a3⟩ := id hT
  obtain ⟨d, rfl⟩ := sD 7 (d := d) (by omega)
  refine e16 (s16_0 ⟨fun q1 => ?_, fun q2 => ⟨fun q3 => ?_, fun q4 => ?_⟩⟩)
  · refine e171 (s171_0 ⟨fun q1 => ?_, fun q2 => ⟨fun q3 => ?_, fun q4 => ?_⟩⟩)
    all_goals try (exact ⟨rfl, hI1⟩)
    all_goals omega
  · have e82 : sUpd M 3 1 x0 82 1 = M 82 1 := by rw [sUpd_ne (by decide)]
    refine e171 (s171_0 ⟨fun q1 => ?_, fun q2 => ⟨fun q3 => ?_, fun q4 => ?_⟩⟩)
    all_goals try omega
    refine ⟨rfl, by omega, own, N, hN, hN2, ?_, ?_, ?_, ?_, ?_⟩
    · refine ⟨by rw [sUpd_ne (by decide), sUpd_eq]; omega, by rw [sUpd_ne (by decide), sUpd_eq]; omega, by rw [sUpd_eq, sUpd_ne (by decide), sUpd_eq], fun i hi => ?_⟩
      rw [sUpd_ne (by decide), sUpd_eq] at hi
      rw [sUpd_ne (by decide), sUpd_ne (by decide), sUpd_ne (by decide), sUpd_ne (by decide)]
      exact a3 i (by omega)
    · exact hR.keep (by rw [sUpd_ne (by decide), sUpd_ne (by decide)]) (by rw [sUpd_ni (by decide), sUpd_ne (by decide)]) (by rw [sUpd_ne (by decide), sUpd_ne (by decide)]) (by rw [sUpd_ne (by decide), sUpd_ne (by decide)]) (by rw [sUpd_ne (by decide), sUpd_ne (by decide)]) (by rw [sUpd_ne (by decide), sUpd_ne (by decide)]) (fun a ha _ => by rw [sUpd_ne (by omega), sUpd_ne (by omega)])
    · exact hG.keep (by omega) (by rw [sUpd_ne (by decide), sUpd_ne (by decide)]) (by rw [sUpd_ne (by decide), sUpd_ne (by decide)]) (by rw [sUpd_ne (by decide), sUpd_ne (by decide)]) (fun a ha _ => by rw [sUpd_ne (by omega), sUpd_ne (by omega)])
    · obtain ⟨w1, w2, w3⟩ := hW
      rw [← sUpd_ne (M := M) (a := 3) (i := 1) (x := x0) (b := 93) (by decide), ← sUpd_ne (M := sUpd M 3 1 x0) (a := 82) (i := 1) (x := x0) (b := 93) (by decide)] at w1 w2 w3
      exact ⟨w1.mono (by omega), w2, w3.congr (fun a _ _ => by rw [sUpd_ne (by omega), sUpd_ne (by omega)])⟩
    · obtain ⟨w1, w3⟩ := hO
      rw [← sUpd_ne (M := M) (a := 3) (i := 1) (x := x0) (b := 93) (by decide), ← sUpd_ne (M := sUpd M 3 1 x0) (a := 82) (i := 1) (x := x0) (b := 93) (by decide)] at w1 w3
      exact ⟨w1, w3.congr (fun a _ _ => by rw [sUpd_ne (by omega), sUpd_ne (by omega)])⟩
  · refine e171 (s171_0 ⟨fun q1 => ?_, fun q2 => ⟨fun q3 => ?_, fun q4 => ?_⟩⟩)
    all_goals try (exact ⟨rfl, hI1⟩)
    all_goals omega
