/-! STEPS: go, tick, cross, asks; what sets one number. -/
theorem L72 (t x1 x2 : Int) (ht9 : t ≤ 600) : Step t 72 216 [vI x1, vI x2] := by
  intro d M G hd hI
  have hI1 := hI.same (kp.refl [] M)
  obtain ⟨hv, hlt, ht, hvo, hto, t0⟩ := hI.t
  have hs0 := hv.1.1
  by_cases hg : 0 ≤ x1 ∧ x1 < 12
  · obtain ⟨g0, g1⟩ := hg
    have hpe := hv.2.2.2.1 x1 g0 g1
    have hl := lvS_R (S := M 93) g0 g1
    -- the reference
    have ref0 : (¬ (0 ≤ pO (M 93) x1 0 ∧ if x2 = 0 then mayG (M 93) x1 else 0 < hO (M 93) (pO (M 93) x1 0) 2)) → sC d 216 [vO 12 82, vI x1, vI x2] M G (QI (LPost t 0)) := fun hno => by
      obtain ⟨d, rfl⟩ := sD 7 (d := d) (by omega)
      have ep : M 93 ((136 + (5 * x1)) + 0).toNat = pO (M 93) x1 0 := rfl
      have h3 : M 93 ((10 + (3 * M 93 ((136 + (5 * x1)) + 0).toNat)) + 2).toNat = hO (M 93) (pO (M 93) x1 0) 2 := rfl
      have hwv : 0 ≤ pO (M 93) x1 0 → 0 ≤ hO (M 93) (pO (M 93) x1 0) 2 ∧ hO (M 93) (pO (M 93) x1 0) 2 ≤ 9 := fun z => (hv.2.1 _ z hpe.1.2).2.2
      refine e216 (s216_0 ⟨fun q1 => ?_, fun q2 => ⟨fun q3 => ?_, fun q4 => ⟨⟨by omega, by omega⟩, ⟨by omega, by omega⟩, ⟨by omega, by omega⟩, ⟨(by first | omega | assumption | (refine ⟨?_, ?_⟩ <;> omega) | (simp_all; done)), (by first | omega | assumption | (refine ⟨?_, ?_⟩ <;> omega) | (simp_all; done))⟩, fun q5 => ⟨⟨by omega, by omega⟩, ⟨by omega, by omega⟩, ⟨by omega, by omega⟩, fun q6 => ?_, fun q9 => ⟨⟨(by first | omega | assumption | (refine ⟨?_, ?_⟩ <;> omega) | (simp_all; done)), (by first | omega | assumption | (refine ⟨?_, ?_⟩ <;> omega) | (simp_all; done))⟩, fun q10 => ⟨⟨by omega, by omega⟩, ?_⟩, fun q11 => ?_⟩⟩, fun q12 => ?_⟩⟩⟩)
      · omega
      · omega
      · refine c212 (by omega) g0 g1 (by omega) (fun z => ?_) (fun z => ⟨fun y => by omega, fun _ => ⟨rfl, hI1⟩⟩)
        rw [if_pos q6] at hno
        exact absurd ⟨q5, z⟩ hno
      · rw [if_neg q9] at hno
        have : ¬ (0 ≤ pO (M 93) x1 0 ∧ 0 < hO (M 93) (pO (M 93) x1 0) 2) := hno
        exact absurd ⟨q5, by omega⟩ this
      · exact ⟨rfl, hI1⟩
      · exact ⟨rfl, hI1⟩
    have ref1 : ∀ M1, cF 14 M M1 → (0 ≤ pO (M 93) x1 0 ∧ if x2 = 0 then mayG (M 93) x1 else 0 < hO (M 93) (pO (M 93) x1 0) 2) → TR 14 M1 (if x2 = 0 then lvS (M 93) x1 else lvS (winS (M 93) (pO (M 93) x1 0)) x1) → sC d 216 [vO 12 82, vI x1, vI x2] M1 G (QI (LPost t 1)) := fun M1 h1 hyes ht1 => by
      obtain ⟨d, rfl⟩ := sD 7 (d := d) (by omega)
      have e93 : M1 93 = M 93 := h1 93 (by omega) (by omega) (by omega)
      have ep : M1 93 ((136 + (5 * x1)) + 0).toNat = pO (M 93) x1 0 := by rw [e93]; rfl
      have e2 : M1 93 ((10 + (3 * pO (M 93) x1 0)) + 2).toNat = hO (M 93) (pO (M 93) x1 0) 2 := by rw [e93]; rfl
      have hwv := (hv.2.1 _ hyes.1 hpe.1.2).2.2
      have hy0 := hyes.1
      have h3 : M1 93 ((10 + (3 * M1 93 ((136 + (5 * x1)) + 0).toNat)) + 2).toNat = hO (M 93) (pO (M 93) x1 0) 2 := by rw [e93]; rfl
      refine e216 (s216_0 ⟨fun q1 => ?_, fun q2 => ⟨fun q3 => ?_, fun q4 => ⟨⟨by omega, by omega⟩, ⟨by omega, by omega⟩, ⟨by omega, by omega⟩, ⟨(by first | omega | assumption | (refine ⟨?_, ?_⟩ <;> omega) | (simp_all; done)), (by first | omega | assumption | (refine ⟨?_, ?_⟩ <;> omega) | (simp_all; done))⟩, fun q5 => ⟨⟨by omega, by omega⟩, ⟨by omega, by omega⟩, ⟨by omega, by omega⟩, fun q6 => ?_, fun q9 => ⟨⟨(by first | omega | assumption | (refine ⟨?_, ?_⟩ <;> omega) | (simp_all; done)), (by first | omega | assumption | (refine ⟨?_, ?_⟩ <;> omega) | (simp_all; done))⟩, fun q10 => ⟨⟨by omega, by omega⟩, ?_⟩, fun q11 => ?_⟩⟩, fun q12 => ?_⟩⟩⟩)
      · omega
      · omega
      · rw [if_pos q6] at hyes ht1
        refine c212 (by omega) g0 g1 (by rw [e93]; omega) (fun z => ?_) (fun z => absurd (by rw [e93]; exact hyes.2) z)
        rw [ep, e2]
        refine ⟨fun _ => ⟨⟨by omega, by omega⟩, ⟨by omega, by omega⟩, ?_⟩, fun y => by omega⟩
        have eid : sUpd M1 93 ((10 + (3 * pO (M 93) x1 0)) + 2).toNat (hO (M 93) (pO (M 93) x1 0) 2 - 0) = M1 := by
          rw [upd_setS M1, e93]
          have : uS (M 93) ((10 + (3 * pO (M 93) x1 0)) + 2).toNat (hO (M 93) (pO (M 93) x1 0) 2 - 0) = M 93 := by
            funext j
            unfold uS
            by_cases c : j = ((10 + (3 * pO (M 93) x1 0)) + 2).toNat
            · rw [if_pos c, c, Int.sub_zero]; rfl
            · rw [if_neg c]
          rw [this, ← e93, setS_id]
        rw [eid]
        refine c201 (by omega) g0 g1 ?_
        rw [e93]
        refine ⟨rfl, hI.townK h1 (rKS.set M1 _) ?_ ?_ ?_ ?_⟩
        · rw [setS_93]; exact (lv_v hv hl g0 g1).mono (by omega)
        · rw [setS_93]; exact hl.1.late hlt
        · rw [setS_93]; exact ht1
        · rw [setS_93]; exact lvR_told hl
      · rw [if_neg q9] at hyes ht1
        have eu : sUpd M1 93 ((10 + (3 * pO (M 93) x1 0)) + 2).toNat (hO (M 93) (pO (M 93) x1 0) 2 - 1) = setS M1 (winS (M 93) (pO (M 93) x1 0)) := by rw [upd_setS M1, e93]; rfl
        rw [ep, e2, eu]
        refine c201 (by omega) g0 g1 ?_
        rw [setS_93, setS_setS]
        have hl2 := lvS_R (S := winS (M 93) (pO (M 93) x1 0)) g0 g1
        have hv2 := win_v hv hyes.1 hpe.1.2 hyes.2
        refine ⟨rfl, hI.townK h1 (rKS.set M1 _) ?_ ?_ ?_ ?_⟩
        · rw [setS_93]; exact (lv_v hv2 hl2 g0 g1).mono (by omega)
        · rw [setS_93]
          have : lowLate (winS (M 93) (pO (M 93) x1 0)) := by
            unfold lowLate at hlt ⊢
            rw [win_o hyes.1 (by omega) (by omega), win_o hyes.1 (by omega) (by omega)]
            exact hlt
          exact hl2.1.late this
        · rw [setS_93]; exact ht1
        · rw [setS_93]; exact (win_told hyes.1 (by omega)).trans (lvR_told hl2)
      · rw [if_neg q9] at hyes
        have := hyes.2
        omega
      · omega
    obtain ⟨d, rfl⟩ := sD 7 (d := d) (by omega)
    refine e72 (s72_0 ⟨fun q1 => ?_, fun q2 => ⟨fun q3 => ?_, fun q4 => ⟨fun q5 => ?_, fun q8 => ?_⟩⟩⟩)
    · omega
    · omega
    · refine c62 (by omega) hv ht g0 g1 (fun z => ⟨fun _ => ?_, fun y => by omega⟩) (fun z => ⟨fun y => by omega, fun _ => ?_⟩)
      · have hq := z.1
        refine c74 (by omega) hv ht g0 g1 hq (fun M1 mo ht1 => ?_)
        exact ref1 M1 (fun a a1 _ _ => mo a a1) ⟨hq, by rw [if_pos q5]; exact z⟩ (by rw [if_pos q5]; exact ht1)
      · exact ref0 (fun y => by have := y.2; rw [if_pos q5] at this; exact z this)
    · refine c73 (by omega) hv ht g0 g1 (fun z1 z2 M1 mo ht1 => ⟨Or.inr rfl, ?_⟩) (fun z => ⟨Or.inl rfl, ?_⟩)
      · exact ref1 M1 (fun a a1 _ _ => mo a a1) ⟨z1, by rw [if_neg q8]; exact z2⟩ (by rw [if_neg q8]; exact ht1)
      · exact ref0 (fun y => by have h2 := y.2; rw [if_neg q8, z y.1] at h2; omega)
  · have ref0 : sC d 216 [vO 12 82, vI x1, vI x2] M G (QI (LPost t 0)) := by
      obtain ⟨d, rfl⟩ := sD 7 (d := d) (by omega)
      refine e216 (s216_0 ⟨fun q1 => ?_, fun q2 => ⟨fun q3 => ?_, fun q4 => ⟨⟨by omega, by omega⟩, ⟨by omega, by omega⟩, ⟨by omega, by omega⟩, ⟨(by first | omega | assumption | (refine ⟨?_, ?_⟩ <;> omega) | (simp_all; done)), (by first | omega | assumption | (refine ⟨?_, ?_⟩ <;> omega) | (simp_all; done))⟩, fun q5 => ⟨⟨by omega, by omega⟩, ⟨by omega, by omega⟩, ⟨by omega, by omega⟩, fun q6 => ?_, fun q9 => ⟨⟨(by first | omega | assumption | (refine ⟨?_, ?_⟩ <;> omega) | (simp_all; done)), (by first | omega | assumption | (refine ⟨?_, ?_⟩ <;> omega) | (simp_all; done))⟩, fun q10 => ⟨⟨by omega, by omega⟩, ?_⟩, fun q11 => ?_⟩⟩, fun q12 => ?_⟩⟩⟩)
      · exact ⟨rfl, hI1⟩
      · exact ⟨rfl, hI1⟩
      all_goals omega
    obtain ⟨d, rfl⟩ := sD 7 (d := d) (by omega)
    refine e72 (s72_0 ⟨fun q1 => ?_, fun q2 => ⟨fun q3 => ?_, fun q4 => ⟨fun q5 => ?_, fun q8 => ?_⟩⟩⟩)
    · exact ref0
    · exact ref0
    · omega
    · omega
theorem L76 (t x1 x2 : Int) (ht9 : t ≤ 600) : Step t 76 217 [vI x1, vI x2] := by
  intro d M G hd hI
  have hI1 := hI.same (kp.refl [] M)
  obtain ⟨hv, hlt, ht, hvo, hto, t0⟩ := hI.t
  obtain ⟨_, own, N, hN, hN2, hT, hR, _⟩ := id hI
  obtain ⟨r0, r1, e82, hr⟩ := hR
  have b13 := ht.1.2.2.1
  have hs2 := hv.1.2.2.1
  unfold lowLate at hlt
  have ref0 : (x1 < 0 ∨ M 1 11 ≤ x1 ∨ x2 < 1 ∨ 96 < x2 ∨ 96 < M 93 2 + x2) → sC d 217 [vO 12 82, vI x1, vI x2] M G (QI (LPost t (-1))) := fun hno => by
    obtain ⟨d, rfl⟩ := sD 7 (d := d) (by omega)
    refine e217 (s217_0 ⟨fun q1 => ?_, fun q2 => ⟨fun q3 => ?_, fun q4 => ⟨fun q5 => ?_, fun q6 => ⟨fun q7 => ?_, fun q8 => ⟨⟨by omega, by omega⟩, fun q9 => ?_, fun q10 => ?_⟩⟩⟩⟩⟩)
    · exact ⟨rfl, hI1⟩
    · exact ⟨rfl, hI1⟩
    · exact ⟨rfl, hI1⟩
    · exact ⟨rfl, hI1⟩
    · omega
    · exact ⟨rfl, hI1⟩
  obtain ⟨d, rfl⟩ := sD 7 (d := d) (by omega)
  refine e76 (s76_0 ⟨fun q1 => ?_, fun q2 => ⟨fun q3 => ?_, fun q4 => ⟨⟨(by first | omega | assumption | (refine ⟨?_, ?_⟩ <;> omega) | (simp_all; done)), (by first | omega | assumption | (refine ⟨?_, ?_⟩ <;> omega) | (simp_all; done))⟩, fun q5 => ?_, fun q6 => ⟨fun q7 => ?_, fun q8 => ⟨fun q9 => ?_, fun q10 => ⟨⟨by omega, by omega⟩, fun q11 => ?_, fun q12 => ?_⟩⟩⟩⟩⟩⟩)
  · exact ref0 (by omega)
  · exact ref0 (by omega)
  · have := (hr x1 q2 q4).1; omega
  · exact ref0 (by omega)
  · exact ref0 (by omega)
  · obtain ⟨g1, g2, n, kd, D, hc, hf⟩ := hr x1 q2 q4
    refine c78 (by omega) hc hv ht (by decide) (by omega) (by omega) (by omega) (by omega) (fun M1 h1 ht1 => ?_)
    obtain ⟨v1, w0, w1, w2, w3, w4, w5⟩ := quas_v (D := D) (kd := kd) (n := n) hv x2.toNat (by omega) (by omega)
    rw [ht1.1.2.2.1, w2]
    have e93 : M1 93 = M 93 := h1 93 (by omega) (by omega) (by omega)
    have e82' : M1 82 = M 82 := h1 82 (by omega) (by omega) (by omega)
    have hf1 : ruleF M1 x1 n kd D := hf.congr (h1 84 (by omega) (by omega) (by omega)) (h1 86 (by omega) (by omega) (by omega)) (h1 87 (by omega) (by omega) (by omega))
    have e2 : M1 82 2 = M 1 11 := by rw [e82']; exact e82
    have e3 : M1 93 2 = M 93 2 := by rw [e93]
    have e4 : M1 93 3 = M 93 3 := by rw [e93]
    refine e217 (s217_0 ⟨fun q1 => ?_, fun q2 => ⟨fun q3 => ?_, fun q4 => ⟨fun q5 => ?_, fun q6 => ⟨fun q7 => ?_, fun q8 => ⟨⟨by omega, by omega⟩, fun q9 => ?_, fun q10 => ?_⟩⟩⟩⟩⟩)
    · omega
    · omega
    · omega
    · omega
    · refine c219 (by omega) hf1 (by rw [e93]; exact hv) (by omega) (by omega) (by omega) (by omega) (fun M2 h2 h93 => ?_)
      rw [e93] at h93
      refine ⟨by rw [h93, w2], hI.townK h1 h2 ?_ ?_ ?_ ?_⟩
      · rw [h93]; exact v1.mono (by omega)
      · rw [h93]; unfold lowLate; omega
      · rw [h93]; exact ht1
      · rw [h93]; exact ⟨fun j hj => w5 j (by omega), fun p p0 p1 => w5 _ (by omega)⟩
    · omega
  · exact ref0 (by omega)
theorem L145 (t x1 : Int) : Step t 145 262 [vI x1] := by
  intro d M G hd hI
  have hI1 := hI.same (kp.refl [] M)
  obtain ⟨hv, hlt, ht, hvo, hto, t0⟩ := hI.t
  have hs0 := hv.1.1
  have b0 := ht.1.1
  let f : Nat → Int := fun p => if pO (M 93) p 0 = x1 then (if 0 < othA (M 93) p then pO (M 93) p 4 else 0) else 0
  have fb : ∀ i : Nat, i < 12 → 0 ≤ f i ∧ f i ≤ 99 := fun i hi => by
    have := (hv.2.2.2.1 i (by omega) (by omega)).2.2.2.2.2
    show 0 ≤ (if pO (M 93) i 0 = x1 then (if 0 < othA (M 93) i then pO (M 93) i 4 else 0) else 0) ∧ (if pO (M 93) i 0 = x1 then (if 0 < othA (M 93) i then pO (M 93) i 4 else 0) else 0) ≤ 99
    split
    · split
      · exact this
      · exact ⟨by decide, by decide⟩
    · exact ⟨by decide, by decide⟩
  have ref : ∀ r : Int, (x1 < 0 ∨ M 93 0 ≤ x1 → r = -1) → (0 ≤ x1 → x1 < M 93 0 → hO (M 93) x1 0 ≠ 0 → r = 0) → (0 ≤ x1 → x1 < M 93 0 → hO (M 93) x1 0 = 0 → r = nS f 12) → sC d 262 [vO 12 82, vI x1] M G (QI (LPost t r)) := fun r r1 r2 r3 => by
    obtain ⟨d, rfl⟩ := sD 7 (d := d) (by omega)
    refine e262 (s262_0 ⟨fun q1 => ?_, fun q2 => ⟨fun q3 => ?_, fun q4 => ⟨⟨by omega, by omega⟩, ⟨by omega, by omega⟩, ⟨by omega, by omega⟩, ⟨(by first | omega | assumption | (refine ⟨?_, ?_⟩ <;> omega) | (simp_all; done)), (by first | omega | assumption | (refine ⟨?_, ?_⟩ <;> omega) | (simp_all; done))⟩, fun q5 => ?_, fun q6 => ?_⟩⟩⟩)
    · exact ⟨(r1 (by omega)).symm, hI1⟩
    · exact ⟨(r1 (by omega)).symm, hI1⟩
    · refine sUpTo (W := fun i => sW (sC (d + 6)) 262 (QI (LPost t r)) 25 [vO 12 82, vI x1, vI (nS f i), vI (i : Int)] [] M G 0 0) 12 ?_ ?_
      · exact s262_25 ⟨fun _ => ⟨(r3 q2 q4 q5).symm, hI1⟩, fun q => by omega⟩
      · intro i hi ih
        have h1 := nS_ge0 (f := f) (n := i) (fun j hj => (fb j (by omega)).1)
        have h2 := nS_le (f := f) (c := 99) (n := i) (fun j hj => (fb j (by omega)).2)
        have h4 := (hv.2.2.2.1 i (by omega) (by omega)).2.2.2.2.2
        have e4 : M 93 ((136 + (5 * (i : Int))) + 4).toNat = pO (M 93) i 4 := rfl
        refine (s262_25 ⟨fun q1 => ?_, fun q2 => ⟨⟨by omega, by omega⟩, ⟨by omega, by omega⟩, ⟨by omega, by omega⟩, ⟨(by first | omega | assumption | (refine ⟨?_, ?_⟩ <;> omega) | (simp_all; done)), (by first | omega | assumption | (refine ⟨?_, ?_⟩ <;> omega) | (simp_all; done))⟩, fun q3 => ⟨⟨by omega, by omega⟩, ⟨by omega, by omega⟩, ?_⟩, fun q4 => ?_⟩⟩)
        · omega
        · rw [nS_st (f := f) (x := 0) (if_neg q3)] at ih; exact ih
        · refine c213a (by omega) (by omega) (by omega) ⟨fun q5 => ⟨⟨by omega, by omega⟩, ⟨by omega, by omega⟩, ?_⟩, fun q6 => ⟨⟨by omega, by omega⟩, ⟨(by first | omega | assumption | (refine ⟨?_, ?_⟩ <;> omega) | (simp_all; done)), (by first | omega | assumption | (refine ⟨?_, ?_⟩ <;> omega) | (simp_all; done))⟩, ⟨by omega, by omega⟩, ⟨by omega, by omega⟩, ?_⟩⟩
          · rw [nS_st (f := f) (x := 0) ((if_pos q4).trans (if_neg (by omega)))] at ih; exact ih
          · rw [nS_st (f := f) (x := pO (M 93) i 4) ((if_pos q4).trans (if_pos q6))] at ih; exact ih
    · exact ⟨(r2 q2 q4 q6).symm, hI1⟩
  obtain ⟨d, rfl⟩ := sD 7 (d := d) (by omega)
  have th := fun a b => ht.2.1 x1 a b
  refine e145 (s145_0 ⟨fun q1 => ?_, fun q2 => ⟨fun q3 => ?_, fun q4 => ⟨⟨(by first | omega | assumption | (refine ⟨?_, ?_⟩ <;> omega) | (simp_all; done)), (by first | omega | assumption | (refine ⟨?_, ?_⟩ <;> omega) | (simp_all; done))⟩, fun q5 => ?_, fun q6 => ?_⟩⟩⟩)
  · exact ref _ (fun _ => rfl) (fun a b c => by omega) (fun a b c => by omega)
  · exact ref _ (fun _ => rfl) (fun a b c => by omega) (fun a b c => by omega)
  · have t1 : M 15 x1.toNat = hO (M 93) x1 0 := (th q2 (by omega)).1
    have hr := ht.2.2.2.2 x1 q2 (by omega)
    have loop : ∀ l : Int, (∀ p : Int, 0 ≤ p → p < 12 → pO (M 93) p 0 = x1 → (p = l ↔ othA (M 93) p = 0)) → sW (sC (d + 6)) 145 (QI fun r M1 G1 => sC (d + 7) 262 [vO 12 82, vI x1] M1 G1 (QI (LPost t r))) 41 [vO 11 1, vI x1, vO 10 14, vI l, vI 0, vI 0] [] M G 0 0 := fun l hl => by
      refine sUpTo (W := fun i => sW (sC (d + 6)) 145 (QI fun r M1 G1 => sC (d + 7) 262 [vO 12 82, vI x1] M1 G1 (QI (LPost t r))) 41 [vO 11 1, vI x1, vO 10 14, vI l, vI (nS f i), vI (i : Int)] [] M G 0 0) 12 ?_ ?_
      · exact s145_41 ⟨fun _ => ref _ (fun z => by omega) (fun a b c => by omega) (fun a b c => rfl), fun q => by omega⟩
      · intro i hi ih
        have h1 := nS_ge0 (f := f) (n := i) (fun j hj => (fb j (by omega)).1)
        have h2 := nS_le (f := f) (c := 99) (n := i) (fun j hj => (fb j (by omega)).2)
        have h4 := (hv.2.2.2.1 i (by omega) (by omega)).2.2.2.2.2
        have e26 : M 26 ((i : Int)).toNat = pO (M 93) i 0 := (ht.2.2.2.1 i (by omega) (by omega)).1
        have e30 : M 30 ((i : Int)).toNat = pO (M 93) i 4 := hto.2.1 i (by omega) (by omega)
        have ha := (nS12 (fA01 (M 93) i) (Nat.le_refl 12)).1
        refine (s145_41 ⟨fun q1 => ?_, fun q2 => ⟨⟨(by first | omega | assumption | (refine ⟨?_, ?_⟩ <;> omega) | (simp_all; done)), (by first | omega | assumption | (refine ⟨?_, ?_⟩ <;> omega) | (simp_all; done))⟩, fun q3 => ⟨⟨by omega, by omega⟩, ?_⟩, fun q4 => ⟨fun q5 => ⟨⟨by omega, by omega⟩, ?_⟩, fun q6 => ⟨⟨by omega, by omega⟩, ⟨by omega, by omega⟩, ?_⟩⟩⟩⟩)
        · omega
        · rw [nS_st (f := f) (x := 0) (if_neg (by omega)), Int.add_zero] at ih; exact ih
        · have hz : othA (M 93) i = 0 := (hl i (by omega) (by omega) (by omega)).mp q5
          rw [nS_st (f := f) (x := 0) ((if_pos (by omega)).trans (if_neg (by omega))), Int.add_zero] at ih; exact ih
        · have hz : othA (M 93) i ≠ 0 := fun z => q6 ((hl i (by omega) (by omega) (by omega)).mpr z)
          have hp : 0 < othA (M 93) i := by unfold othA at hz ⊢; omega
          rw [nS_st (f := f) (x := pO (M 93) i 4) ((if_pos (by omega)).trans (if_pos hp))] at ih
          rw [e30]; exact ih
    refine c56 (by omega) hv ht q2 (by omega) (fun z => loop _ (fun p p0 p1 hp => ?_)) (fun z => loop _ (fun p p0 p1 hp => ?_))
    · have := (hr.isLast p0 p1 hp).2
      rw [this]
      exact ⟨fun y => y.symm, fun y => y.symm⟩
    · have := (hr.isLast p0 p1 hp).1
      omega
  · have t1 : M 15 x1.toNat = hO (M 93) x1 0 := (th q2 (by omega)).1
    exact ref _ (fun z => by omega) (fun a b c => rfl) (fun a b c => by omega)
