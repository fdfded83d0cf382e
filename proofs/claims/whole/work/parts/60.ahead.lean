/-! STEPS: ahead, bestRule. -/
section
variable {d : Nat} {P : Int → sM → sG → Prop} {PV : sM → sG → Prop} {M : sM} {G : sG}
theorem c232 (hd : 5 ≤ d) (kk : ∀ M' : sM, (∀ a, a ≠ 94 → M' a = M a) → (∀ j : Nat, j < 274 → M' 94 j = M 93 j) → PV M' G) : sC d 232 [vO 12 82] M G (QV PV) := by
  obtain ⟨d, rfl⟩ := sD 2 (d := d) (by omega)
  refine e232 (s232_0 ?_)
  refine sUpTo (W := fun i => ∀ N : sM, (∀ a, a ≠ 94 → N a = M a) → (∀ j : Nat, j < i → N 94 j = M 93 j) → sW (sC (d + 1)) 232 (QV PV) 2 [vO 12 82, vI (i : Int)] [] N G 0 0) 274 ?_ ?_ M (fun _ _ => rfl) (fun j hj => absurd hj (Nat.not_lt_zero _))
  · intro N h1 h2
    exact s232_2 ⟨fun _ => kk N h1 h2, fun q => absurd q (by omega)⟩
  · intro i hi ih N h1 h2
    refine (s232_2 ⟨fun q1 => ?_, fun q2 => ⟨⟨(by first | omega | assumption | (refine ⟨?_, ?_⟩ <;> omega) | (simp_all; done)), (by first | omega | assumption | (refine ⟨?_, ?_⟩ <;> omega) | (simp_all; done))⟩, ⟨by omega, by omega⟩, ?_⟩⟩)
    · omega
    · refine ih _ (fun a ha => (sUpd_ne ha).trans (h1 a ha)) (fun j hj => ?_)
      rw [sUpd_at]
      by_cases c : j = ((i : Int)).toNat
      · rw [if_pos c, c, h1 93 (by decide)]
      · rw [if_neg c]; exact h2 j (by omega)
theorem c235 (hd : 5 ≤ d) (kk : ∀ M' : sM, (∀ a, a ≠ 93 → M' a = M a) → (∀ j : Nat, M' 93 j = if j < 274 then M 94 j else M 93 j) → PV M' G) : sC d 235 [vO 12 82] M G (QV PV) := by
  obtain ⟨d, rfl⟩ := sD 2 (d := d) (by omega)
  refine e235 (s235_0 ?_)
  refine sUpTo (W := fun i => ∀ N : sM, (∀ a, a ≠ 93 → N a = M a) → (∀ j : Nat, N 93 j = if j < i then M 94 j else M 93 j) → sW (sC (d + 1)) 235 (QV PV) 2 [vO 12 82, vI (i : Int)] [] N G 0 0) 274 ?_ ?_ M (fun _ _ => rfl) (fun j => (if_neg (Nat.not_lt_zero _)).symm)
  · intro N h1 h2
    exact s235_2 ⟨fun _ => kk N h1 h2, fun q => absurd q (by omega)⟩
  · intro i hi ih N h1 h2
    refine (s235_2 ⟨fun q1 => ?_, fun q2 => ⟨⟨(by first | omega | assumption | (refine ⟨?_, ?_⟩ <;> omega) | (simp_all; done)), (by first | omega | assumption | (refine ⟨?_, ?_⟩ <;> omega) | (simp_all; done))⟩, ⟨by omega, by omega⟩, ?_⟩⟩)
    · omega
    · refine ih _ (fun a ha => (sUpd_ne ha).trans (h1 a ha)) (fun j => ?_)
      rw [sUpd_at]
      by_cases c : j = ((i : Int)).toNat
      · rw [if_pos c, if_pos (by omega), c, h1 94 (by decide)]
      · rw [if_neg c, h2 j]
        by_cases c2 : j < i
        · rw [if_pos c2, if_pos (by omega)]
        · rw [if_neg c2, if_neg (by omega)]
/-- what a trial of the class keeps -/
def tC (M M' : sM) : Prop := ∀ a, (a < 42 ∨ 56 < a) → a ≠ 58 → a ≠ 59 → M' a = M a
/-- what a trial of the reference keeps -/
def tK (M M' : sM) : Prop := (∀ a, a ≠ 91 → a ≠ 92 → a ≠ 82 → a ≠ 94 → M' a = M a) ∧ ∀ i, i ≠ 21 → M' 82 i = M 82 i
theorem tC.refl (M : sM) : tC M M := fun _ _ _ _ => rfl
theorem tC.trans {M M' M'' : sM} (h : tC M M') (h' : tC M' M'') : tC M M'' := fun a h1 h2 h3 => (h' a h1 h2 h3).trans (h a h1 h2 h3)
theorem tK.refl (M : sM) : tK M M := ⟨fun _ _ _ _ _ => rfl, fun _ _ => rfl⟩
theorem tK.trans {M M' M'' : sM} (h : tK M M') (h' : tK M' M'') : tK M M'' := ⟨fun a h1 h2 h3 h4 => (h'.1 a h1 h2 h3 h4).trans (h.1 a h1 h2 h3 h4), fun i hi => (h'.2 i hi).trans (h.2 i hi)⟩
theorem tC.cp {M M1 : sM} (h : cF 42 (cpTown M 42 14) M1) : tC M M1 := fun a h1 h2 h3 => (h a (by omega) h2 h3).trans (cpTown_out (by omega))
theorem tC.kp {M M' : sM} (h : tC M M') : kp [] M M' := ⟨fun a _ ha => h a (by omega) (by omega) (by omega), fun _ => by rw [h 1 (by decide) (by decide) (by decide)], fun _ => by rw [h 3 (by decide) (by decide) (by decide)], fun _ => by rw [h 82 (by decide) (by decide) (by decide)]; exact ⟨rfl, rfl⟩⟩
theorem tK.kp {M M' : sM} (h : tK M M') : kp [] M M' := ⟨fun a _ ha => h.1 a (by omega) (by omega) (by omega) (by omega), fun _ => by rw [h.1 1 (by decide) (by decide) (by decide) (by decide)], fun _ => by rw [h.1 3 (by decide) (by decide) (by decide) (by decide)], fun _ => ⟨h.2 1 (by decide), h.2 2 (by decide)⟩⟩
/-- put back: as before -/
theorem tK.back {M M1 M2 M3 : sM} (h1 : ∀ a, a ≠ 94 → M1 a = M a) (h94 : ∀ j : Nat, j < 274 → M1 94 j = M 93 j) (h2 : rKS M1 M2) (hS : ∀ j : Nat, 274 ≤ j → M2 93 j = M1 93 j) (h3 : ∀ a, a ≠ 93 → M3 a = M2 a) (h93 : ∀ j : Nat, M3 93 j = if j < 274 then M2 94 j else M2 93 j) : tK M M3 ∧ (M3 94 = M1 94) := by
  have e94 : M2 94 = M1 94 := h2.1 94 (by decide) (by decide) (by decide) (by decide)
  refine ⟨⟨fun a a1 a2 a3 a4 => ?_, fun i hi => ?_⟩, (h3 94 (by decide)).trans e94⟩
  · by_cases c : a = 93
    · rw [c]
      funext j
      rw [h93 j]
      by_cases cj : j < 274
      · rw [if_pos cj, e94]; exact h94 j cj
      · rw [if_neg cj, hS j (by omega), h1 93 (by decide)]
    · rw [h3 a c, h2.1 a a1 a2 a3 c, h1 a a4]
  · rw [h3 82 (by decide), h2.2 i hi, h1 82 (by decide)]
theorem nS_mono {f : Nat → Int} (hf : ∀ i, 0 ≤ f i) : ∀ {n m : Nat}, n ≤ m → nS f n ≤ nS f m
  | n, 0, h => by rw [Nat.le_zero.mp h]; exact Int.le_refl _
  | n, m + 1, h => by
    by_cases c : n = m + 1
    · rw [c]; exact Int.le_refl _
    · have := nS_mono hf (n := n) (m := m) (by omega)
      have h2 := hf m
      show nS f n ≤ nS f m + f m
      omega
theorem served_le {B : Int} {S : Nat → Int} (hv : vTown B S) : 0 ≤ nS (fServed S) (S 1).toNat ∧ nS (fServed S) (S 1).toNat ≤ 18 := by
  have hs := hv.1.2.1
  have b : ∀ i : Nat, i < (S 1).toNat → 0 ≤ fServed S i ∧ fServed S i ≤ 1 := fun i hi => by
    have := (hv.2.2.1 i (by omega) (by omega)).2.2.2.2.2.2
    show 0 ≤ tO S i 5 ∧ tO S i 5 ≤ 1
    omega
  have h1 := nS_ge0 (f := fServed S) (n := (S 1).toNat) (fun i hi => (b i hi).1)
  have h2 := nS_le (f := fServed S) (c := 1) (n := (S 1).toNat) (fun i hi => (b i hi).2)
  omega
theorem L91 (t x1 x2 x3 : Int) (ht9 : t ≤ 600) : Step t 91 231 [vI x1, vI x2, vI x3] := by
  intro d M G hd hI
  have hI1 := hI.same (kp.refl [] M)
  obtain ⟨hv, hlt, ht, hvo, hto, t0⟩ := hI.t
  obtain ⟨_, own, N, hN, hN2, hT, hR, _⟩ := id hI
  obtain ⟨r0, r1, e82, hr⟩ := hR
  have b13 := ht.1.2.2.1
  have b14 := ht.1.2.2.2
  have hs2 := hv.1.2.2.1
  have hs3 := hv.1.2.2.2.1
  have hs0 := hv.1.1
  unfold lowLate at hlt
  have ref0 : (x1 < 0 ∨ M 1 11 ≤ x1 ∨ x2 < 0 ∨ 96 < x2 ∨ 96 < M 93 2 + x2 ∨ x3 < 0 ∨ 3 < x3) → sC d 231 [vO 12 82, vI x1, vI x2, vI x3] M G (QI (LPost t (-1))) := fun hno => by
    obtain ⟨d, rfl⟩ := sD 7 (d := d) (by omega)
    refine e231 (s231_0 ⟨fun q1 => ?_, fun q2 => ⟨fun q3 => ?_, fun q4 => ⟨fun q5 => ?_, fun q6 => ⟨fun q7 => ?_, fun q8 => ⟨⟨by omega, by omega⟩, fun q9 => ?_, fun q10 => ⟨fun q11 => ?_, fun q12 => ⟨fun q13 => ?_, fun q14 => ?_⟩⟩⟩⟩⟩⟩⟩)
    all_goals try (exact ⟨rfl, hI1⟩)
    omega
  by_cases hg : 0 ≤ x1 ∧ x1 < M 1 11 ∧ 0 ≤ x2 ∧ x2 ≤ 96 ∧ M 93 2 + x2 ≤ 96 ∧ 0 ≤ x3 ∧ x3 ≤ 3
  · obtain ⟨g1, g2, n, kd, D, hc, hf⟩ := hr x1 hg.1 hg.2.1
    obtain ⟨v1, w0, w1, w2, w3, w4, w5⟩ := quas_v (D := D) (kd := kd) (n := n) hv x2.toNat (by omega) (by omega)
    have hsum := inside_sum v1
    have hser := served_le v1
    have rb := v1.2.2.1
    have rb0 := v1.1.1
    have rb1 := v1.1.2.1
    have hwin : ∀ h : Int, 0 ≤ h → h < M 93 0 → 0 ≤ hO (quasF D kd n x2.toNat (M 93)) h 2 ∧ hO (quasF D kd n x2.toNat (M 93)) h 2 ≤ 9 := fun h h0 h1 => (v1.2.1 h h0 (by omega)).2.2
    have ref : ∀ (M1 : sM) (r : Int), tC M M1 → (x3 = 0 → r = nS (fHouse (quasF D kd n x2.toNat (M 93))) (quasF D kd n x2.toNat (M 93) 0).toNat) → (x3 = 1 → r = quasF D kd n x2.toNat (M 93) 3 - M 93 3) → (x3 = 2 → r = nS (fServed (quasF D kd n x2.toNat (M 93))) (quasF D kd n x2.toNat (M 93) 1).toNat) → (x3 = 3 → r = nS (fWin (quasF D kd n x2.toNat (M 93))) (quasF D kd n x2.toNat (M 93) 0).toNat) → sC d 231 [vO 12 82, vI x1, vI x2, vI x3] M1 G (QI (LPost t r)) := fun M1 r hm k0 k1 k2 k3 => by
      obtain ⟨d, rfl⟩ := sD 7 (d := d) (by omega)
      have e93 : M1 93 = M 93 := hm 93 (by decide) (by decide) (by decide)
      have e82' : M1 82 2 = M 1 11 := by rw [hm 82 (by decide) (by decide) (by decide)]; exact e82
      have e2 : M1 93 2 = M 93 2 := by rw [e93]
      have hf1 : ruleF M1 x1 n kd D := hf.congr (hm 84 (by decide) (by decide) (by decide)) (hm 86 (by decide) (by decide) (by decide)) (hm 87 (by decide) (by decide) (by decide))
      refine e231 (s231_0 ⟨fun q1 => ?_, fun q2 => ⟨fun q3 => ?_, fun q4 => ⟨fun q5 => ?_, fun q6 => ⟨fun q7 => ?_, fun q8 => ⟨⟨by omega, by omega⟩, fun q9 => ?_, fun q10 => ⟨fun q11 => ?_, fun q12 => ⟨fun q13 => ?_, fun q14 => ?_⟩⟩⟩⟩⟩⟩⟩)
      all_goals try omega
      refine c232 (by omega) (fun M2 h2 h94 => ?_)
      refine ?_
      have f93 : M2 93 = M 93 := (h2 93 (by decide)).trans e93
      refine c219 (by omega) (hf1.congr (h2 84 (by decide)) (h2 86 (by decide)) (h2 87 (by decide))) (by rw [f93]; exact hv) (by omega) hg.2.2.1 (by rw [f93]; omega) (by rw [f93]; omega) (fun M3 h3 h33 => ?_)
      rw [f93] at h33
      refine ?_
      have i94 : M3 94 3 = M 93 3 := by rw [h3.1 94 (by decide) (by decide) (by decide) (by decide), h94 3 (by decide), e93]
      have i0 : M3 93 0 = M 93 0 := by rw [h33]; exact w0
      have i1 : M3 93 1 = M 93 1 := by rw [h33]; exact w1
      have i3 : M3 93 3 = quasF D kd n x2.toNat (M 93) 3 := by rw [h33]
      have fin : ∀ M4 : sM, (∀ a, a ≠ 93 → M4 a = M3 a) → (∀ j : Nat, M4 93 j = if j < 274 then M3 94 j else M3 93 j) → Inv (t + 1) M4 G := fun M4 h4 h5 => by
        have hb := (tK.back h2 h94 h3 (fun j hj => by rw [h33, f93]; exact w5 j (by omega)) h4 h5).1
        exact (hI.same (hm.kp.trans hb.kp))
      refine sUpTo (W := fun i => sW (sC (d + 6)) 231 (QI (LPost t r)) 63 [vO 12 82, vN, vN, vI x3, vI (nS (fWin (quasF D kd n x2.toNat (M 93))) i), vI (i : Int)] [] M3 G 0 0) (M 93 0).toNat ?_ ?_
      · refine (s231_63 ⟨fun q1 => ⟨fun q2 => ⟨fun q3 => ⟨fun q4 => ?_, fun q5 => ?_⟩, fun q6 => ⟨⟨by omega, by omega⟩, ?_⟩⟩, fun q7 => ?_⟩, fun q8 => ⟨⟨by omega, by omega⟩, ⟨by omega, by omega⟩, ⟨by omega, by omega⟩, ⟨(by first | omega | assumption | (refine ⟨?_, ?_⟩ <;> omega) | (simp_all; done)), (by first | omega | assumption | (refine ⟨?_, ?_⟩ <;> omega) | (simp_all; done))⟩, ⟨by omega, by omega⟩, ⟨by omega, by omega⟩, ?_⟩⟩)
        · refine c235 (by omega) (fun M4 h4 h5 => ⟨?_, fin M4 h4 h5⟩)
          rw [k3 (by omega), w0]
        · refine c234 (by omega) (by omega) (by omega) (fun s s0 s1 => ?_) ?_
          · rw [h33]
            have := (rb s s0 (by omega)).2.2.2.2.2.2
            omega
          · refine ?_
            refine c235 (by omega) (fun M4 h4 h5 => ⟨?_, fin M4 h4 h5⟩)
            rw [k2 (by omega), h33]
        · refine c235 (by omega) (fun M4 h4 h5 => ⟨?_, fin M4 h4 h5⟩)
          rw [k1 (by omega), i3, i94]
        · refine c233 (by omega) ?_
          refine ?_
          refine c235 (by omega) (fun M4 h4 h5 => ⟨?_, fin M4 h4 h5⟩)
          rw [k0 (by omega), h33, hsum]
        · omega
      · intro i hi ih
        have hb1 := nS_ge0 (f := fWin (quasF D kd n x2.toNat (M 93))) (n := i) (fun j hj => (hwin j (by omega) (by omega)).1)
        have hb2 := nS_le (f := fWin (quasF D kd n x2.toNat (M 93))) (c := 9) (n := i) (fun j hj => (hwin j (by omega) (by omega)).2)
        have hb3 := hwin i (by omega) (by omega)
        have e : M3 93 ((10 + (3 * (i : Int))) + 2).toNat = hO (quasF D kd n x2.toNat (M 93)) i 2 := by rw [h33]; rfl
        refine (s231_63 ⟨fun q1 => ⟨fun q2 => ⟨fun q3 => ⟨fun q4 => ?_, fun q5 => ?_⟩, fun q6 => ⟨⟨by omega, by omega⟩, ?_⟩⟩, fun q7 => ?_⟩, fun q8 => ⟨⟨by omega, by omega⟩, ⟨by omega, by omega⟩, ⟨by omega, by omega⟩, ⟨(by first | omega | assumption | (refine ⟨?_, ?_⟩ <;> omega) | (simp_all; done)), (by first | omega | assumption | (refine ⟨?_, ?_⟩ <;> omega) | (simp_all; done))⟩, ⟨by omega, by omega⟩, ⟨by omega, by omega⟩, ?_⟩⟩)
        all_goals try omega
        rw [e]
        exact ih
    obtain ⟨d, rfl⟩ := sD 7 (d := d) (by omega)
    refine e91 (s91_0 ⟨fun q1 => ?_, fun q2 => ⟨fun q3 => ?_, fun q4 => ⟨⟨(by first | omega | assumption | (refine ⟨?_, ?_⟩ <;> omega) | (simp_all; done)), (by first | omega | assumption | (refine ⟨?_, ?_⟩ <;> omega) | (simp_all; done))⟩, fun q5 => ?_, fun q6 => ⟨fun q7 => ?_, fun q8 => ⟨fun q9 => ⟨fun q10 => ?_, fun q11 => ⟨fun q12 => ?_, fun q13 => ⟨⟨by omega, by omega⟩, fun q14 => ?_, fun q19 => ?_⟩⟩⟩, fun q20 => ?_⟩⟩⟩⟩⟩)
    all_goals try omega
    refine c34 (by omega) ?_
    refine ?_
    have ht1 : TR 42 (cpTown M 42 14) (M 93) := TR.copied hv (by decide) ht
    refine c78 (by omega) (hc.congr (fun k hk => cpTown_out (by omega))) hv ht1 (by decide) (by omega) (by omega) (by omega) (by omega) (fun M1 h1 ht2 => ?_)
    have hm := tC.cp h1
    have j14 : M1 42 14 = quasF D kd n x2.toNat (M 93) 3 := ht2.1.2.2.2
    have j14' : M1 14 14 = M 93 3 := by rw [hm 14 (by decide) (by decide) (by decide)]; exact b14
    refine ⟨fun q15 => ?_, fun q16 => ?_, fun q17 => ⟨⟨by omega, by omega⟩, ?_⟩, fun q18 => ?_⟩
    · refine c92 (by omega) v1 ht2 ?_
      exact ref M1 _ hm (fun z => by omega) (fun z => by omega) (fun z => by omega) (fun _ => rfl)
    · refine c67 (by omega) v1 ht2 ?_
      exact ref M1 _ hm (fun _ => rfl) (fun z => by omega) (fun z => by omega) (fun z => by omega)
    · exact ref M1 _ hm (fun z => by omega) (fun _ => by rw [j14, j14']) (fun z => by omega) (fun z => by omega)
    · refine c65 (by omega) v1 ht2 ?_
      exact ref M1 _ hm (fun z => by omega) (fun z => by omega) (fun _ => rfl) (fun z => by omega)
  · have r0' := ref0 (by omega)
    obtain ⟨d, rfl⟩ := sD 7 (d := d) (by omega)
    refine e91 (s91_0 ⟨fun q1 => ?_, fun q2 => ⟨fun q3 => ?_, fun q4 => ⟨⟨(by first | omega | assumption | (refine ⟨?_, ?_⟩ <;> omega) | (simp_all; done)), (by first | omega | assumption | (refine ⟨?_, ?_⟩ <;> omega) | (simp_all; done))⟩, fun q5 => ?_, fun q6 => ⟨fun q7 => ?_, fun q8 => ⟨fun q9 => ⟨fun q10 => ?_, fun q11 => ⟨fun q12 => ?_, fun q13 => ⟨⟨by omega, by omega⟩, fun q14 => ?_, fun q19 => ?_⟩⟩⟩, fun q20 => ?_⟩⟩⟩⟩⟩)
    all_goals try (exact r0')
    · have := (hr x1 q2 q4).1; omega
end
