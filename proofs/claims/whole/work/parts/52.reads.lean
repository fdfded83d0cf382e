/-! STEPS: stay, house, person, count. -/
theorem Inv.t {t : Int} {M : sM} {G : sG} (h : Inv t M G) : vTown (1200 * t) (M 93) ∧ lowLate (M 93) ∧ TR 14 M (M 93) ∧ vTold (M 93) ∧ TO 29 M (M 93) ∧ 0 ≤ t := by
  obtain ⟨t0, -, -, -, -, -, -, -, ⟨a, b, c⟩, d, e⟩ := h
  exact ⟨a, b, c, d, e, t0⟩
theorem L58 (t x1 x2 : Int) : Step t 58 207 [vI x1, vI x2] := by
  intro d M G hd hI
  have hI1 := hI.same (kp.refl [] M)
  obtain ⟨hv, -, ht, -, -, -⟩ := hI.t
  have hs1 := hv.1.2.1
  have b6 := ht.1.2.1
  have ref : ∀ r : Int, (x1 < 0 ∨ M 93 1 ≤ x1 ∨ x2 < 0 ∨ 5 < x2 → r = -1) → (0 ≤ x1 → x1 < M 93 1 → 0 ≤ x2 → x2 ≤ 5 → r = tO (M 93) x1 x2) → sC d 207 [vO 12 82, vI x1, vI x2] M G (QI (LPost t r)) := fun r r1 r2 => by
    obtain ⟨d, rfl⟩ := sD 3 (d := d) (by omega)
    refine e207 (s207_0 ⟨fun q1 => ?_, fun q2 => ⟨fun q3 => ?_, fun q4 => ⟨fun q5 => ?_, fun q6 => ⟨fun q7 => ?_, fun q8 => ⟨⟨by omega, by omega⟩, ⟨by omega, by omega⟩, ⟨by omega, by omega⟩, ⟨(by first | omega | assumption | (refine ⟨?_, ?_⟩ <;> omega) | (simp_all; done)), (by first | omega | assumption | (refine ⟨?_, ?_⟩ <;> omega) | (simp_all; done))⟩, ?_⟩⟩⟩⟩⟩)
    · exact ⟨(r1 (by omega)).symm, hI1⟩
    · exact ⟨(r1 (by omega)).symm, hI1⟩
    · exact ⟨(r1 (by omega)).symm, hI1⟩
    · exact ⟨(r1 (by omega)).symm, hI1⟩
    · exact ⟨(r2 q2 q4 q6 q8).symm, hI1⟩
  obtain ⟨d, rfl⟩ := sD 3 (d := d) (by omega)
  have tr := fun a b => ht.2.2.1 x1 a b
  refine e58 (s58_0 ⟨fun q1 => ?_, fun q2 => ⟨fun q3 => ?_, fun q4 => ⟨fun q5 => ?_, fun q6 => ⟨⟨(by first | omega | assumption | (refine ⟨?_, ?_⟩ <;> omega) | (simp_all; done)), (by first | omega | assumption | (refine ⟨?_, ?_⟩ <;> omega) | (simp_all; done))⟩, ?_⟩, fun q7 => ⟨⟨(by first | omega | assumption | (refine ⟨?_, ?_⟩ <;> omega) | (simp_all; done)), (by first | omega | assumption | (refine ⟨?_, ?_⟩ <;> omega) | (simp_all; done))⟩, ?_⟩, fun q8 => ⟨⟨(by first | omega | assumption | (refine ⟨?_, ?_⟩ <;> omega) | (simp_all; done)), (by first | omega | assumption | (refine ⟨?_, ?_⟩ <;> omega) | (simp_all; done))⟩, ?_⟩, fun q9 => ⟨⟨(by first | omega | assumption | (refine ⟨?_, ?_⟩ <;> omega) | (simp_all; done)), (by first | omega | assumption | (refine ⟨?_, ?_⟩ <;> omega) | (simp_all; done))⟩, ?_⟩, fun q10 => ⟨⟨(by first | omega | assumption | (refine ⟨?_, ?_⟩ <;> omega) | (simp_all; done)), (by first | omega | assumption | (refine ⟨?_, ?_⟩ <;> omega) | (simp_all; done))⟩, ?_⟩, fun q11 => ⟨⟨(by first | omega | assumption | (refine ⟨?_, ?_⟩ <;> omega) | (simp_all; done)), (by first | omega | assumption | (refine ⟨?_, ?_⟩ <;> omega) | (simp_all; done))⟩, ?_⟩⟩⟩⟩)
  · exact ref _ (fun _ => rfl) (fun a b c e => by omega)
  · exact ref _ (fun _ => rfl) (fun a b c e => by omega)
  · exact ref _ (fun _ => rfl) (fun a b c e => by omega)
  · subst q6; exact ref _ (fun z => by omega) (fun a b c e => (tr a b).1)
  · subst q7; exact ref _ (fun z => by omega) (fun a b c e => (tr a b).2.1)
  · subst q8; exact ref _ (fun z => by omega) (fun a b c e => (tr a b).2.2.1)
  · subst q9; exact ref _ (fun z => by omega) (fun a b c e => (tr a b).2.2.2.1)
  · subst q10; exact ref _ (fun z => by omega) (fun a b c e => (tr a b).2.2.2.2.1)
  · subst q11; exact ref _ (fun z => by omega) (fun a b c e => (tr a b).2.2.2.2.2)
/-- who came last (4), first (5), by the reference -/
theorem r202 {d : Nat} {P : Int → sM → sG → Prop} {M : sM} {G : sG} {h w : Int} (hd : 5 ≤ d) (h0 : 0 ≤ h) (h1 : h < 6) (hw : w = 4 ∨ w = 5) (k0 : (∀ p : Int, 0 ≤ p → p < 12 → pO (M 93) p 0 ≠ h) → P (-1) M G) (k1 : ∀ r : Int, 0 ≤ r → r < 12 → pO (M 93) r 0 = h → (∀ p : Int, 0 ≤ p → p < 12 → pO (M 93) p 0 = h → if w = 4 then pO (M 93) p 2 ≤ pO (M 93) r 2 else pO (M 93) r 2 ≤ pO (M 93) p 2) → P r M G) : sW (sC (d + 1)) 202 (QI P) 50 [vO 12 82, vI h, vI w, vI (-1), vI 0] [] M G 0 0 := by
  refine sUpTo (W := fun i => ∀ r : Int, ((r = -1 ∧ ∀ p : Int, 0 ≤ p → p < (i : Int) → pO (M 93) p 0 ≠ h) ∨ (0 ≤ r ∧ r < 12 ∧ pO (M 93) r 0 = h ∧ ∀ p : Int, 0 ≤ p → p < (i : Int) → pO (M 93) p 0 = h → if w = 4 then pO (M 93) p 2 ≤ pO (M 93) r 2 else pO (M 93) r 2 ≤ pO (M 93) p 2)) → sW (sC (d + 1)) 202 (QI P) 50 [vO 12 82, vI h, vI w, vI r, vI (i : Int)] [] M G 0 0) 12 ?_ ?_ (-1) (Or.inl ⟨rfl, fun p a b => by omega⟩)
  · intro r hr
    refine s202_50 ⟨fun _ => ?_, fun q => by omega⟩
    rcases hr with ⟨e, z⟩ | ⟨a, b, c, z⟩
    · rw [e]; exact k0 z
    · exact k1 r a b c z
  · intro i hi ih r hr
    have hr1 : r < 12 := by rcases hr with ⟨e, z⟩ | ⟨a, b, c, z⟩ <;> omega
    have hr0 : -1 ≤ r := by rcases hr with ⟨e, z⟩ | ⟨a, b, c, z⟩ <;> omega
    -- r stays
    have stay : (pO (M 93) i 0 = h → 0 ≤ r ∧ if w = 4 then pO (M 93) i 2 ≤ pO (M 93) r 2 else pO (M 93) r 2 ≤ pO (M 93) i 2) → sW (sC (d + 1)) 202 (QI P) 50 [vO 12 82, vI h, vI w, vI r, vI ((i + 1 : Nat) : Int)] [] M G 0 0 := fun hs => by
      refine ih r ?_
      rcases hr with ⟨e, z⟩ | ⟨a, b, c, z⟩
      · refine Or.inl ⟨e, fun p p0 p1 hp => ?_⟩
        by_cases e2 : p = (i : Int)
        · rw [e2] at hp; have := (hs hp).1; omega
        · exact z p p0 (by omega) hp
      · refine Or.inr ⟨a, b, c, fun p p0 p1 hp => ?_⟩
        by_cases e2 : p = (i : Int)
        · rw [e2] at hp ⊢; exact (hs hp).2
        · exact z p p0 (by omega) hp
    -- i comes in r's place
    have take : pO (M 93) i 0 = h → (0 ≤ r → if w = 4 then pO (M 93) r 2 ≤ pO (M 93) i 2 else pO (M 93) i 2 ≤ pO (M 93) r 2) → sW (sC (d + 1)) 202 (QI P) 50 [vO 12 82, vI h, vI w, vI ((i : Nat) : Int), vI ((i + 1 : Nat) : Int)] [] M G 0 0 := fun hih hs => by
      refine ih i (Or.inr ⟨by omega, by omega, hih, fun p p0 p1 hp => ?_⟩)
      by_cases e2 : p = (i : Int)
      · rw [e2]; split <;> exact Int.le_refl _
      · rcases hr with ⟨e, z⟩ | ⟨a, b, c, z⟩
        · exact absurd hp (z p p0 (by omega))
        · have z1 := z p p0 (by omega) hp
          have z2 := hs a
          rcases hw with w4 | w4
          · subst w4; exact Int.le_trans z1 z2
          · subst w4; exact Int.le_trans z2 z1
    have e0 : ∀ x w : Int, M 93 ((136 + (5 * x)) + w).toNat = pO (M 93) x w := fun x w => rfl
    refine (s202_50 ⟨fun q1 => ?_, fun q2 => ⟨⟨by omega, by omega⟩, ⟨by omega, by omega⟩, ⟨by omega, by omega⟩, ⟨(by first | omega | assumption | (refine ⟨?_, ?_⟩ <;> omega) | (simp_all; done)), (by first | omega | assumption | (refine ⟨?_, ?_⟩ <;> omega) | (simp_all; done))⟩, fun q3 => ⟨⟨by omega, by omega⟩, ?_⟩, fun q4 => ⟨fun q5 => ⟨⟨by omega, by omega⟩, ?_⟩, fun q6 => ⟨⟨by omega, by omega⟩, ⟨(by first | omega | assumption | (refine ⟨?_, ?_⟩ <;> omega) | (simp_all; done)), (by first | omega | assumption | (refine ⟨?_, ?_⟩ <;> omega) | (simp_all; done))⟩, ⟨by omega, by omega⟩, ⟨by omega, by omega⟩, ⟨by omega, by omega⟩, ⟨(by first | omega | assumption | (refine ⟨?_, ?_⟩ <;> omega) | (simp_all; done)), (by first | omega | assumption | (refine ⟨?_, ?_⟩ <;> omega) | (simp_all; done))⟩, fun q7 => ⟨fun q8 => ⟨⟨by omega, by omega⟩, ?_⟩, fun q9 => ⟨⟨by omega, by omega⟩, ?_⟩⟩, fun q10 => ⟨fun q11 => ⟨⟨by omega, by omega⟩, ?_⟩, fun q12 => ⟨⟨by omega, by omega⟩, ?_⟩⟩⟩⟩⟩⟩)
    · omega
    · exact stay (fun z => absurd z q3)
    · exact take q4 (fun z => by omega)
    · exact take q4 (fun z => by rw [if_neg q8]; rw [e0, e0] at q7; exact q7)
    · exact stay (fun z => ⟨q6, by rw [if_pos q9]; rw [e0, e0] at q7; exact q7⟩)
    · exact stay (fun z => ⟨q6, by rw [if_neg q11]; rw [e0, e0] at q10; omega⟩)
    · exact take q4 (fun z => by rw [if_pos q12]; rw [e0, e0] at q10; omega)
theorem L54 (t x1 x2 : Int) : Step t 54 202 [vI x1, vI x2] := by
  intro d M G hd hI
  have hI1 := hI.same (kp.refl [] M)
  obtain ⟨hv, -, ht, -, -, -⟩ := hI.t
  have hs0 := hv.1.1
  have b0 := ht.1.1
  have hn := inN_ge (M 93) x1
  have ref : ∀ r : Int, (x1 < 0 ∨ M 93 0 ≤ x1 ∨ x2 < 0 ∨ 5 < x2 → r = -1) → (0 ≤ x1 → x1 < M 93 0 → 0 ≤ x2 → x2 < 3 → r = hO (M 93) x1 x2) → (0 ≤ x1 → x1 < M 93 0 → x2 = 3 → r = inN (M 93) x1) → (0 ≤ x1 → x1 < M 93 0 → x2 = 4 → r = if 0 < inN (M 93) x1 then rW 14 M x1 (inN (M 93) x1 - 1) else -1) → (0 ≤ x1 → x1 < M 93 0 → x2 = 5 → r = if 0 < inN (M 93) x1 then rW 14 M x1 0 else -1) → sC d 202 [vO 12 82, vI x1, vI x2] M G (QI (LPost t r)) := fun r r1 r2 r3 r4 r5 => by
    obtain ⟨d, rfl⟩ := sD 7 (d := d) (by omega)
    refine e202 (s202_0 ⟨fun q1 => ?_, fun q2 => ⟨fun q3 => ?_, fun q4 => ⟨fun q5 => ?_, fun q6 => ⟨fun q7 => ?_, fun q8 => ⟨fun q9 => ⟨fun q10 => ?_, fun q11 => ?_⟩, fun q12 => ⟨⟨by omega, by omega⟩, ⟨by omega, by omega⟩, ⟨by omega, by omega⟩, ⟨(by first | omega | assumption | (refine ⟨?_, ?_⟩ <;> omega) | (simp_all; done)), (by first | omega | assumption | (refine ⟨?_, ?_⟩ <;> omega) | (simp_all; done))⟩, ?_⟩⟩⟩⟩⟩⟩)
    · exact ⟨(r1 (by omega)).symm, hI1⟩
    · exact ⟨(r1 (by omega)).symm, hI1⟩
    · exact ⟨(r1 (by omega)).symm, hI1⟩
    · exact ⟨(r1 (by omega)).symm, hI1⟩
    · have hr := ht.2.2.2.2 x1 q2 q4
      refine r202 (by omega) q2 (by omega) (by omega) (fun hno => ?_) (fun p p0 p1 hp hall => ?_)
      · have hz : ¬ 0 < inN (M 93) x1 := fun z => by
          obtain ⟨m0, m1, m2⟩ := hr.mem (i := 0) (Int.le_refl 0) z
          exact hno _ m0 m1 m2
        refine ⟨?_, hI1⟩
        by_cases e : x2 = 4
        · rw [r4 q2 q4 e, if_neg hz]
        · rw [r5 q2 q4 (by omega), if_neg hz]
      · obtain ⟨i, i0, i1, ei⟩ := hr.ex p0 p1 hp
        refine ⟨?_, hI1⟩
        by_cases e : x2 = 4
        · rw [r4 q2 q4 e, if_pos (by omega)]
          obtain ⟨m0, m1, m2⟩ := hr.mem (i := inN (M 93) x1 - 1) (by omega) (by omega)
          have := hall _ m0 m1 m2
          rw [if_pos e, ← ei] at this
          have h2 := hr.lt i0 i1 (j := inN (M 93) x1 - 1) (by omega) (by omega)
          have : i = inN (M 93) x1 - 1 := by
            by_cases c : i < inN (M 93) x1 - 1
            · have := h2.mpr c; omega
            · omega
          rw [← ei, this]
        · rw [r5 q2 q4 (by omega), if_pos (by omega)]
          obtain ⟨m0, m1, m2⟩ := hr.mem (i := 0) (by omega) (by omega)
          have := hall _ m0 m1 m2
          rw [if_neg e, ← ei] at this
          have h2 := hr.lt (i := 0) (j := i) (by omega) (by omega) i0 i1
          have : i = 0 := by
            by_cases c : 0 < i
            · have := h2.mpr c; omega
            · omega
          rw [← ei, this]
    · exact c205 (by omega) ⟨(r3 q2 q4 q11).symm, hI1⟩
    · exact ⟨(r2 q2 q4 q6 q12).symm, hI1⟩
  obtain ⟨d, rfl⟩ := sD 7 (d := d) (by omega)
  have tr := fun a b => ht.2.1 x1 a b
  refine e54 (s54_0 ⟨fun q1 => ?_, fun q2 => ⟨fun q3 => ?_, fun q4 => ⟨fun q5 => ?_, fun q6 => ⟨⟨(by first | omega | assumption | (refine ⟨?_, ?_⟩ <;> omega) | (simp_all; done)), (by first | omega | assumption | (refine ⟨?_, ?_⟩ <;> omega) | (simp_all; done))⟩, ?_⟩, fun q7 => ⟨⟨(by first | omega | assumption | (refine ⟨?_, ?_⟩ <;> omega) | (simp_all; done)), (by first | omega | assumption | (refine ⟨?_, ?_⟩ <;> omega) | (simp_all; done))⟩, ?_⟩, fun q8 => ⟨⟨(by first | omega | assumption | (refine ⟨?_, ?_⟩ <;> omega) | (simp_all; done)), (by first | omega | assumption | (refine ⟨?_, ?_⟩ <;> omega) | (simp_all; done))⟩, ?_⟩, fun q9 => ⟨⟨(by first | omega | assumption | (refine ⟨?_, ?_⟩ <;> omega) | (simp_all; done)), (by first | omega | assumption | (refine ⟨?_, ?_⟩ <;> omega) | (simp_all; done))⟩, ?_⟩, fun q10 => ?_, fun q11 => ?_⟩⟩⟩)
  · exact ref _ (fun _ => rfl) (fun a b c e => by omega) (fun a b c => by omega) (fun a b c => by omega) (fun a b c => by omega)
  · exact ref _ (fun _ => rfl) (fun a b c e => by omega) (fun a b c => by omega) (fun a b c => by omega) (fun a b c => by omega)
  · exact ref _ (fun _ => rfl) (fun a b c e => by omega) (fun a b c => by omega) (fun a b c => by omega) (fun a b c => by omega)
  · subst q6; exact ref _ (fun z => by omega) (fun a b c e => (tr a b).1) (fun a b c => by omega) (fun a b c => by omega) (fun a b c => by omega)
  · subst q7; exact ref _ (fun z => by omega) (fun a b c e => (tr a b).2.1) (fun a b c => by omega) (fun a b c => by omega) (fun a b c => by omega)
  · subst q8; exact ref _ (fun z => by omega) (fun a b c e => (tr a b).2.2.1) (fun a b c => by omega) (fun a b c => by omega) (fun a b c => by omega)
  · subst q9; exact ref _ (fun z => by omega) (fun a b c e => by omega) (fun a b c => (tr a b).2.2.2) (fun a b c => by omega) (fun a b c => by omega)
  · subst q10
    refine c56 (by omega) hv ht q2 (by omega) (fun z => ?_) (fun z => ?_)
    · exact ref _ (fun z => by omega) (fun a b c e => by omega) (fun a b c => by omega) (fun a b c => (if_pos z).symm) (fun a b c => by omega)
    · exact ref _ (fun z => by omega) (fun a b c e => by omega) (fun a b c => by omega) (fun a b c => (if_neg (by omega)).symm) (fun a b c => by omega)
  · subst q11
    refine c57 (by omega) hv ht q2 (by omega) (fun z => ?_) (fun z => ?_)
    · exact ref _ (fun z => by omega) (fun a b c e => by omega) (fun a b c => by omega) (fun a b c => by omega) (fun a b c => (if_pos z).symm)
    · exact ref _ (fun z => by omega) (fun a b c e => by omega) (fun a b c => by omega) (fun a b c => by omega) (fun a b c => (if_neg (by omega)).symm)
theorem L60 (t x1 x2 : Int) : Step t 60 210 [vI x1, vI x2] := by
  intro d M G hd hI
  have hI1 := hI.same (kp.refl [] M)
  obtain ⟨hv, -, ht, hvo, hto, -⟩ := hI.t
  have hs0 := hv.1.1
  have hpe := fun a b => hv.2.2.2.1 x1 a b
  have ref : ∀ r : Int, (x1 < 0 ∨ 12 ≤ x1 ∨ x2 < 0 ∨ 5 < x2 → r = -2) → (0 ≤ x1 → x1 < 12 → 0 ≤ x2 → x2 < 2 → r = pO (M 93) x1 x2) → (0 ≤ x1 → x1 < 12 → x2 = 2 → (mayG (M 93) x1 → r = 1) ∧ (¬ mayG (M 93) x1 → r = 0)) → (0 ≤ x1 → x1 < 12 → x2 = 3 → (0 ≤ pO (M 93) x1 0 → r = othA (M 93) x1) ∧ (pO (M 93) x1 0 < 0 → r = 0)) → (0 ≤ x1 → x1 < 12 → 4 ≤ x2 → x2 ≤ 5 → r = pO (M 93) x1 (x2 - 1)) → sC d 210 [vO 12 82, vI x1, vI x2] M G (QI (LPost t r)) := fun r r1 r2 r3 r4 r5 => by
    obtain ⟨d, rfl⟩ := sD 7 (d := d) (by omega)
    refine e210 (s210_0 ⟨fun q1 => ?_, fun q2 => ⟨fun q3 => ?_, fun q4 => ⟨fun q5 => ?_, fun q6 => ⟨fun q7 => ?_, fun q8 => ⟨fun q9 => ⟨fun q10 => ⟨fun q11 => ⟨⟨by omega, by omega⟩, ⟨by omega, by omega⟩, ⟨by omega, by omega⟩, ⟨by omega, by omega⟩, ⟨(by first | omega | assumption | (refine ⟨?_, ?_⟩ <;> omega) | (simp_all; done)), (by first | omega | assumption | (refine ⟨?_, ?_⟩ <;> omega) | (simp_all; done))⟩, ?_⟩, fun q12 => ⟨⟨by omega, by omega⟩, ⟨by omega, by omega⟩, ⟨by omega, by omega⟩, ⟨(by first | omega | assumption | (refine ⟨?_, ?_⟩ <;> omega) | (simp_all; done)), (by first | omega | assumption | (refine ⟨?_, ?_⟩ <;> omega) | (simp_all; done))⟩, ?_⟩⟩, fun q13 => ⟨⟨by omega, by omega⟩, ⟨by omega, by omega⟩, ⟨by omega, by omega⟩, ⟨(by first | omega | assumption | (refine ⟨?_, ?_⟩ <;> omega) | (simp_all; done)), (by first | omega | assumption | (refine ⟨?_, ?_⟩ <;> omega) | (simp_all; done))⟩, fun q14 => ?_, fun q15 => ?_⟩⟩, fun q16 => ?_⟩⟩⟩⟩⟩)
    · exact ⟨(r1 (by omega)).symm, hI1⟩
    · exact ⟨(r1 (by omega)).symm, hI1⟩
    · exact ⟨(r1 (by omega)).symm, hI1⟩
    · exact ⟨(r1 (by omega)).symm, hI1⟩
    · exact ⟨(r5 q2 q4 (by omega) q8).symm, hI1⟩
    · exact ⟨(r2 q2 q4 q6 q12).symm, hI1⟩
    · exact c213a (by omega) q2 q4 ⟨((r4 q2 q4 q13).1 q14).symm, hI1⟩
    · exact ⟨((r4 q2 q4 q13).2 q15).symm, hI1⟩
    · have := (hpe q2 q4).1
      refine c212 (by omega) q2 q4 (by omega) (fun z => ⟨fun y => by omega, fun _ => ?_⟩) (fun z => ⟨fun _ => ?_, fun y => by omega⟩)
      · exact ⟨((r3 q2 q4 q16).1 z).symm, hI1⟩
      · exact ⟨((r3 q2 q4 q16).2 z).symm, hI1⟩
  obtain ⟨d, rfl⟩ := sD 7 (d := d) (by omega)
  have tr := fun a b => ht.2.2.2.1 x1 a b
  refine e60 (s60_0 ⟨fun q1 => ?_, fun q2 => ⟨fun q3 => ?_, fun q4 => ⟨fun q5 => ?_, fun q6 => ⟨⟨(by first | omega | assumption | (refine ⟨?_, ?_⟩ <;> omega) | (simp_all; done)), (by first | omega | assumption | (refine ⟨?_, ?_⟩ <;> omega) | (simp_all; done))⟩, ?_⟩, fun q7 => ⟨⟨(by first | omega | assumption | (refine ⟨?_, ?_⟩ <;> omega) | (simp_all; done)), (by first | omega | assumption | (refine ⟨?_, ?_⟩ <;> omega) | (simp_all; done))⟩, ?_⟩, fun q8 => ?_, fun q11 => ?_, fun q12 => ⟨⟨(by first | omega | assumption | (refine ⟨?_, ?_⟩ <;> omega) | (simp_all; done)), (by first | omega | assumption | (refine ⟨?_, ?_⟩ <;> omega) | (simp_all; done))⟩, ?_⟩, fun q13 => ⟨⟨(by first | omega | assumption | (refine ⟨?_, ?_⟩ <;> omega) | (simp_all; done)), (by first | omega | assumption | (refine ⟨?_, ?_⟩ <;> omega) | (simp_all; done))⟩, ?_⟩⟩⟩⟩)
  · exact ref _ (fun _ => rfl) (fun a b c e => by omega) (fun a b c => by omega) (fun a b c => by omega) (fun a b c e => by omega)
  · exact ref _ (fun _ => rfl) (fun a b c e => by omega) (fun a b c => by omega) (fun a b c => by omega) (fun a b c e => by omega)
  · exact ref _ (fun _ => rfl) (fun a b c e => by omega) (fun a b c => by omega) (fun a b c => by omega) (fun a b c e => by omega)
  · subst q6; exact ref _ (fun z => by omega) (fun a b c e => (tr a b).1) (fun a b c => by omega) (fun a b c => by omega) (fun a b c e => by omega)
  · subst q7; exact ref _ (fun z => by omega) (fun a b c e => (tr a b).2.1) (fun a b c => by omega) (fun a b c => by omega) (fun a b c e => by omega)
  · subst q8
    refine c62 (by omega) hv ht q2 q4 (fun z => ⟨fun y => by omega, fun _ => ?_⟩) (fun z => ⟨fun _ => ?_, fun y => by omega⟩)
    · exact ref _ (fun z => by omega) (fun a b c e => by omega) (fun a b c => ⟨fun _ => rfl, fun y => absurd z y⟩) (fun a b c => by omega) (fun a b c e => by omega)
    · exact ref _ (fun z => by omega) (fun a b c e => by omega) (fun a b c => ⟨fun y => absurd y z, fun _ => rfl⟩) (fun a b c => by omega) (fun a b c e => by omega)
  · subst q11
    refine c63 (by omega) hv ht q2 q4 (fun z => ?_) (fun z => ?_)
    · exact ref _ (fun z => by omega) (fun a b c e => by omega) (fun a b c => by omega) (fun a b c => ⟨fun _ => rfl, fun y => by omega⟩) (fun a b c e => by omega)
    · exact ref _ (fun z => by omega) (fun a b c e => by omega) (fun a b c => by omega) (fun a b c => ⟨fun y => by omega, fun _ => rfl⟩) (fun a b c e => by omega)
  · subst q12; exact ref _ (fun z => by omega) (fun a b c e => by omega) (fun a b c => by omega) (fun a b c => by omega) (fun a b c e => (tr a b).2.2)
  · subst q13; exact ref _ (fun z => by omega) (fun a b c e => by omega) (fun a b c => by omega) (fun a b c => by omega) (fun a b c e => hto.2.1 x1 a b)
theorem L64 (t x1 : Int) : Step t 64 276 [vI x1] := by
  intro d M G hd hI
  have hI1 := hI.same (kp.refl [] M)
  obtain ⟨hv, -, ht, hvo, hto, -⟩ := hI.t
  obtain ⟨_, own, N, _, _, hT, hR, _⟩ := hI
  obtain ⟨b0, b6, b13, b14⟩ := ht.1
  obtain ⟨o1, o7, o9, o12, o15⟩ := hto.1
  have e82 := hT.2.2.1
  have e2 := hR.2.2.1
  have hs1 := hv.1.2.1
  have hs2 := hv.1.2.2.1
  have hbg : ∀ s : Int, 0 ≤ s → s < M 93 1 → 0 ≤ tO (M 93) s 5 ∧ tO (M 93) s 5 ≤ 1 := fun s s0 s1 => by have := (hv.2.2.1 s s0 s1).2.2.2.2.2.2; omega
  have ref : ∀ r : Int, (x1 < 0 ∨ 13 < x1 → r = -1) → (x1 = 0 → r = M 93 0) → (x1 = 1 → r = M 93 1) → (x1 = 2 → r = M 82 2) → (x1 = 3 → r = M 93 2) → (x1 = 4 → r = M 93 3) → (x1 = 5 → r = nS (fServed (M 93)) (M 93 1).toNat) → (x1 = 6 → r = nS (fMissed (M 93)) (M 93 1).toNat) → (x1 = 7 → r = nS (fInside (M 93)) 12) → (8 ≤ x1 → x1 ≤ 12 → r = M 93 (x1 - 3).toNat) → (x1 = 13 → r = M 82 1) → sC d 276 [vO 12 82, vI x1] M G (QI (LPost t r)) := fun r r0 r1 r2 r3 r4 r5 r6 r7 r8 r9 r10 => by
    obtain ⟨d, rfl⟩ := sD 7 (d := d) (by omega)
    refine e276 (s276_0 ⟨fun q1 => ?_, fun q2 => ⟨⟨(by first | omega | assumption | (refine ⟨?_, ?_⟩ <;> omega) | (simp_all; done)), (by first | omega | assumption | (refine ⟨?_, ?_⟩ <;> omega) | (simp_all; done))⟩, ?_⟩, fun q3 => ⟨⟨(by first | omega | assumption | (refine ⟨?_, ?_⟩ <;> omega) | (simp_all; done)), (by first | omega | assumption | (refine ⟨?_, ?_⟩ <;> omega) | (simp_all; done))⟩, ?_⟩, fun q4 => ?_, fun q5 => ?_, fun q6 => ?_, fun q7 => ?_, fun q8 => ?_, fun q9 => ?_, fun q10 => ⟨⟨by omega, by omega⟩, ⟨(by first | omega | assumption | (refine ⟨?_, ?_⟩ <;> omega) | (simp_all; done)), (by first | omega | assumption | (refine ⟨?_, ?_⟩ <;> omega) | (simp_all; done))⟩, ?_⟩, fun q11 => ⟨⟨by omega, by omega⟩, ⟨(by first | omega | assumption | (refine ⟨?_, ?_⟩ <;> omega) | (simp_all; done)), (by first | omega | assumption | (refine ⟨?_, ?_⟩ <;> omega) | (simp_all; done))⟩, ?_⟩, fun q12 => ⟨⟨by omega, by omega⟩, ⟨(by first | omega | assumption | (refine ⟨?_, ?_⟩ <;> omega) | (simp_all; done)), (by first | omega | assumption | (refine ⟨?_, ?_⟩ <;> omega) | (simp_all; done))⟩, ?_⟩, fun q13 => ⟨⟨by omega, by omega⟩, ⟨(by first | omega | assumption | (refine ⟨?_, ?_⟩ <;> omega) | (simp_all; done)), (by first | omega | assumption | (refine ⟨?_, ?_⟩ <;> omega) | (simp_all; done))⟩, ?_⟩, fun q14 => ⟨⟨by omega, by omega⟩, ⟨(by first | omega | assumption | (refine ⟨?_, ?_⟩ <;> omega) | (simp_all; done)), (by first | omega | assumption | (refine ⟨?_, ?_⟩ <;> omega) | (simp_all; done))⟩, ?_⟩, fun q15 => ?_⟩)
    · exact ⟨(r0 q1).symm, hI1⟩
    · subst q2; exact ⟨(r1 rfl).symm, hI1⟩
    · subst q3; exact ⟨(r2 rfl).symm, hI1⟩
    · exact ⟨(r3 q4).symm, hI1⟩
    · exact ⟨(r4 q5).symm, hI1⟩
    · exact ⟨(r5 q6).symm, hI1⟩
    · exact c234 (by omega) hs1.1 hs1.2 hbg ⟨(r6 q7).symm, hI1⟩
    · refine sUpTo (W := fun i => sW (sC (d + 6)) 276 (QI (LPost t r)) 105 [vO 12 82, vN, vI (nS (fMissed (M 93)) i), vI (i : Int)] [] M G 0 0) (M 93 1).toNat ?_ ?_
      · exact s276_105 ⟨fun _ => ⟨(r7 q8).symm, hI1⟩, fun q => by omega⟩
      · intro i hi ih
        have c1 := nS_ge0 (f := fMissed (M 93)) (n := i) (fun j hj => (fMissed01 (M 93) j).1)
        have c2 := nS_le (f := fMissed (M 93)) (c := 1) (n := i) (fun j hj => (fMissed01 (M 93) j).2)
        have e5 : M 93 ((28 + (6 * (i : Int))) + 5).toNat = tO (M 93) i 5 := rfl
        have e3 : M 93 ((28 + (6 * (i : Int))) + 3).toNat = tO (M 93) i 3 := rfl
        refine (s276_105 ⟨fun q1 => ?_, fun q2 => ⟨⟨by omega, by omega⟩, ⟨by omega, by omega⟩, ⟨by omega, by omega⟩, ⟨(by first | omega | assumption | (refine ⟨?_, ?_⟩ <;> omega) | (simp_all; done)), (by first | omega | assumption | (refine ⟨?_, ?_⟩ <;> omega) | (simp_all; done))⟩, fun q3 => ⟨⟨by omega, by omega⟩, ⟨by omega, by omega⟩, ?_⟩, fun q4 => ⟨⟨by omega, by omega⟩, ⟨(by first | omega | assumption | (refine ⟨?_, ?_⟩ <;> omega) | (simp_all; done)), (by first | omega | assumption | (refine ⟨?_, ?_⟩ <;> omega) | (simp_all; done))⟩, fun q5 => ⟨⟨by omega, by omega⟩, ⟨by omega, by omega⟩, ?_⟩, fun q6 => ⟨⟨by omega, by omega⟩, ⟨by omega, by omega⟩, ?_⟩⟩⟩⟩)
        · omega
        · rw [nS_st (f := fMissed (M 93)) (x := 0) (if_neg (fun z => by omega))] at ih; exact ih
        · rw [nS_st (f := fMissed (M 93)) (x := 0) (if_neg (fun z => by omega))] at ih; exact ih
        · rw [nS_st (f := fMissed (M 93)) (x := 1) (if_pos ⟨by omega, by omega⟩)] at ih; exact ih
    · exact c233 (by omega) ⟨(r8 q9).symm, hI1⟩
    · exact ⟨(r9 (by omega) (by omega)).symm, hI1⟩
    · exact ⟨(r9 (by omega) (by omega)).symm, hI1⟩
    · exact ⟨(r9 (by omega) (by omega)).symm, hI1⟩
    · exact ⟨(r9 (by omega) (by omega)).symm, hI1⟩
    · exact ⟨(r9 (by omega) (by omega)).symm, hI1⟩
    · exact ⟨(r10 q15).symm, hI1⟩
  have go : ∀ r : Int, (x1 < 0 ∨ 13 < x1 → r = -1) → (x1 = 0 → r = M 93 0) → (x1 = 1 → r = M 93 1) → (x1 = 2 → r = M 82 2) → (x1 = 3 → r = M 93 2) → (x1 = 4 → r = M 93 3) → (x1 = 5 → r = nS (fServed (M 93)) (M 93 1).toNat) → (x1 = 6 → r = nS (fMissed (M 93)) (M 93 1).toNat) → (x1 = 7 → r = nS (fInside (M 93)) 12) → (x1 = 8 → r = M 93 5) → (x1 = 9 → r = M 93 6) → (x1 = 10 → r = M 93 7) → (x1 = 11 → r = M 93 8) → (x1 = 12 → r = M 93 9) → (x1 = 13 → r = M 82 1) → sC d 276 [vO 12 82, vI x1] M G (QI (LPost t r)) := fun r r0 r1 r2 r3 r4 r5 r6 r7 r8 r9 r10 r11 r12 r13 r14 => ref r r0 r1 r2 r3 r4 r5 r6 r7 r8 (fun a b => by
    have : x1 = 8 ∨ x1 = 9 ∨ x1 = 10 ∨ x1 = 11 ∨ x1 = 12 := by omega
    rcases this with z | z | z | z | z
    · rw [r9 z, z]; rfl
    · rw [r10 z, z]; rfl
    · rw [r11 z, z]; rfl
    · rw [r12 z, z]; rfl
    · rw [r13 z, z]; rfl) r14
  obtain ⟨d, rfl⟩ := sD 7 (d := d) (by omega)
  refine e64 (s64_0 ⟨fun q1 => ?_, fun q2 => ?_, fun q3 => ?_, fun q4 => ?_, fun q5 => ?_, fun q6 => ?_, fun q7 => ?_, fun q8 => ?_, fun q9 => ?_, fun q10 => ?_, fun q11 => ?_, fun q12 => ?_, fun q13 => ?_, fun q14 => ?_, fun q15 => ?_⟩)
  · refine go _ (fun _ => rfl) ?_ ?_ ?_ ?_ ?_ ?_ ?_ ?_ ?_ ?_ ?_ ?_ ?_ ?_ <;> intro z <;> omega
  · refine go _ ?_ (fun _ => b0) ?_ ?_ ?_ ?_ ?_ ?_ ?_ ?_ ?_ ?_ ?_ ?_ ?_ <;> intro z <;> omega
  · refine go _ ?_ ?_ (fun _ => b6) ?_ ?_ ?_ ?_ ?_ ?_ ?_ ?_ ?_ ?_ ?_ ?_ <;> intro z <;> omega
  · refine go _ ?_ ?_ ?_ (fun _ => e2.symm) ?_ ?_ ?_ ?_ ?_ ?_ ?_ ?_ ?_ ?_ ?_ <;> intro z <;> omega
  · refine go _ ?_ ?_ ?_ ?_ (fun _ => b13) ?_ ?_ ?_ ?_ ?_ ?_ ?_ ?_ ?_ ?_ <;> intro z <;> omega
  · refine go _ ?_ ?_ ?_ ?_ ?_ (fun _ => b14) ?_ ?_ ?_ ?_ ?_ ?_ ?_ ?_ ?_ <;> intro z <;> omega
  · refine c65 (by omega) hv ht ?_
    refine go _ ?_ ?_ ?_ ?_ ?_ ?_ (fun _ => rfl) ?_ ?_ ?_ ?_ ?_ ?_ ?_ ?_ <;> intro z <;> omega
  · refine c66 (by omega) hv ht ?_
    refine go _ ?_ ?_ ?_ ?_ ?_ ?_ ?_ (fun _ => rfl) ?_ ?_ ?_ ?_ ?_ ?_ ?_ <;> intro z <;> omega
  · refine c67 (by omega) hv ht ?_
    refine go _ ?_ ?_ ?_ ?_ ?_ ?_ ?_ ?_ (fun _ => inside_sum hv) ?_ ?_ ?_ ?_ ?_ ?_ <;> intro z <;> omega
  · refine go _ ?_ ?_ ?_ ?_ ?_ ?_ ?_ ?_ ?_ (fun _ => o1) ?_ ?_ ?_ ?_ ?_ <;> intro z <;> omega
  · refine go _ ?_ ?_ ?_ ?_ ?_ ?_ ?_ ?_ ?_ ?_ (fun _ => o7) ?_ ?_ ?_ ?_ <;> intro z <;> omega
  · refine go _ ?_ ?_ ?_ ?_ ?_ ?_ ?_ ?_ ?_ ?_ ?_ (fun _ => o9) ?_ ?_ ?_ <;> intro z <;> omega
  · refine go _ ?_ ?_ ?_ ?_ ?_ ?_ ?_ ?_ ?_ ?_ ?_ ?_ (fun _ => o12) ?_ ?_ <;> intro z <;> omega
  · refine go _ ?_ ?_ ?_ ?_ ?_ ?_ ?_ ?_ ?_ ?_ ?_ ?_ ?_ (fun _ => o15) ?_ <;> intro z <;> omega
  · refine go _ ?_ ?_ ?_ ?_ ?_ ?_ ?_ ?_ ?_ ?_ ?_ ?_ ?_ ?_ (fun _ => e82.symm) <;> intro z <;> omega
