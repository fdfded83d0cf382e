/-! QUARTERS, by the reference. -/
/-- alike but for the row of numbers and what a reckoning uses -/
def rKS (M M' : sM) : Prop := (∀ a, a ≠ 91 → a ≠ 92 → a ≠ 82 → a ≠ 93 → M' a = M a) ∧ ∀ i, i ≠ 21 → M' 82 i = M 82 i
theorem rKS.refl (M : sM) : rKS M M := ⟨fun _ _ _ _ _ => rfl, fun _ _ => rfl⟩
theorem rKS.trans {M M' M'' : sM} (h : rKS M M') (h' : rKS M' M'') : rKS M M'' := ⟨fun a h1 h2 h3 h4 => (h'.1 a h1 h2 h3 h4).trans (h.1 a h1 h2 h3 h4), fun i hi => (h'.2 i hi).trans (h.2 i hi)⟩
theorem rK.s {M M' : sM} (h : rK M M') : rKS M M' := ⟨fun a h1 h2 h3 _ => h.1 a h1 h2 h3, h.2⟩
theorem rKS.set (M : sM) (S : Nat → Int) : rKS M (setS M S) := ⟨fun a _ _ _ h4 => setS_ne h4, fun i _ => by rw [setS_ne (by decide)]⟩
theorem rKS.f {M M' : sM} {r n : Int} {kd : Nat → Int} {D : Nat → (Nat → Int) → Int} (h : rKS M M') (hr : ruleF M r n kd D) : ruleF M' r n kd D := hr.congr (h.1 84 (by decide) (by decide) (by decide) (by decide)) (h.1 86 (by decide) (by decide) (by decide) (by decide)) (h.1 87 (by decide) (by decide) (by decide) (by decide))
section RefQ
variable {d : Nat} {P : Int → sM → sG → Prop} {PV : sM → sG → Prop} {M : sM} {G : sG} {B r n : Int} {kd : Nat → Int} {D : Nat → (Nat → Int) → Int}
theorem setA_K (M : sM) (V : Nat → Int) : rK M (setA M 92 V) := ⟨fun a _ h2 _ => setA_ne h2, fun i _ => by rw [setA_ne (by decide)]⟩
/-- words, then some test of a kind -/
theorem cTest {p s kind wo : Int} (hd : 20 ≤ d) (hr : ruleF M r n kd D) (hv : vTown B (M 93)) (p0 : 0 ≤ p) (p1 : p < 12) (s0 : 0 ≤ s) (s1 : s < M 93 1) (h3 : wo = 0 ∨ wo = 1)
    (k1 : heldK D kd n kind (wE (M 93) p s) ∨ (wo = 1 ∧ ¬ hasK kd n kind) → ∀ M', rK M M' → P 1 M' G) (k0 : ¬ (heldK D kd n kind (wE (M 93) p s) ∨ (wo = 1 ∧ ¬ hasK kd n kind)) → ∀ M', rK M M' → P 0 M' G) : sC d 223 [vO 12 82, vI p, vI s] M G (QV (fun M1 G1 => sC d 224 [vO 12 82, vI r, vI kind, vI wo] M1 G1 (QI P))) := by
  refine c223 (by omega) hv p0 p1 s0 s1 (fun V hV => ?_)
  have hK := setA_K M V
  refine c224 (w := wE (M 93) p s) (by omega) (hK.s.f hr) (fun j hj => by rw [setA_at]; exact hV j hj) h3 (fun z M' h => k1 z M' (hK.trans h)) (fun z M' h => k0 z M' (hK.trans h))
theorem c222 {x2 : Int} (hd : 25 ≤ d) (hr : ruleF M r n kd D) (hv : vTown B (M 93)) (p0 : 0 ≤ x2) (p1 : x2 < 12) (s0 : 0 ≤ pO (M 93) x2 1) (k1 : heldK D kd n 1 (wE (M 93) x2 (pO (M 93) x2 1)) → ∀ M', rK M M' → P 1 M' G) (k0 : ¬ heldK D kd n 1 (wE (M 93) x2 (pO (M 93) x2 1)) → ∀ M', rK M M' → P 0 M' G) : sC d 222 [vO 12 82, vI r, vI x2] M G (QI P) := by
  obtain ⟨d, rfl⟩ := sD 2 (d := d) (by omega)
  refine e222 (s222_0 ⟨⟨by omega, by omega⟩, ⟨by omega, by omega⟩, ⟨by omega, by omega⟩, ⟨(by first | omega | assumption | (refine ⟨?_, ?_⟩ <;> omega) | (simp_all; done)), (by first | omega | assumption | (refine ⟨?_, ?_⟩ <;> omega) | (simp_all; done))⟩, ?_⟩)
  refine cTest (by omega) hr hv p0 p1 s0 (hv.2.2.2.1 x2 p0 p1).2.1.2 (Or.inl rfl) (fun z M' h => ⟨Or.inr rfl, ?_⟩) (fun z M' h => ⟨Or.inl rfl, ?_⟩)
  · exact k1 (z.elim id (fun y => by omega)) M' h
  · exact k0 (fun y => z (Or.inl y)) M' h
theorem c229 {x2 : Int} (hd : 25 ≤ d) (hr : ruleF M r n kd D) (hv : vTown B (M 93)) (hB : B < 1000000) (p0 : 0 ≤ x2) (p1 : x2 < 12) (hp : pO (M 93) x2 0 = -1) (kk : ∀ M', rKS M M' → M' 93 = comF D kd n (M 93) x2 → PV M' G) : sC d 229 [vO 12 82, vI r, vI x2] M G (QV PV) := by
  obtain ⟨d, rfl⟩ := sD 2 (d := d) (by omega)
  have hs0 := hv.1.1
  have hs1 := hv.1.2.1
  have hs4 := hv.1.2.2.2.2
  have no : ∀ M', rK M M' → ¬ (pO (M 93) x2 0 = -1 ∧ nxS (M 93) x2 < M 93 1 ∧ inN (M 93) (tO (M 93) (nxS (M 93) x2) 1) < hO (M 93) (tO (M 93) (nxS (M 93) x2) 1) 1 ∧ (heldK D kd n 0 (wE (M 93) x2 (nxS (M 93) x2)) ∨ ¬ hasK kd n 0)) → PV M' G := fun M' h hn => kk M' h.s (by rw [comF_neg hn]; exact h.a (by decide) (by decide) (by decide))
  refine e229 (s229_0 (c230 (by omega) hs1 (fun s s0 s1 hc hno => ?_) (fun hno => ⟨fun _ => ?_, fun q => by omega⟩)))
  · have en : nxS (M 93) x2 = s := nxS_is hs1.1 s0 (by omega) (fun _ => hc) hno
    rw [en] at no
    have hst := (hv.2.2.1 s s0 s1).2.1
    have e1 : M 93 ((28 + (6 * s)) + 1).toNat = tO (M 93) s 1 := rfl
    have hro := hv.2.2.2.2 _ hst.1 hst.2
    have hhv := (hv.2.1 _ hst.1 hst.2).2.1
    refine ⟨fun q1 => ?_, fun q2 => ⟨⟨by omega, by omega⟩, ⟨by omega, by omega⟩, ⟨by omega, by omega⟩, ⟨(by first | omega | assumption | (refine ⟨?_, ?_⟩ <;> omega) | (simp_all; done)), (by first | omega | assumption | (refine ⟨?_, ?_⟩ <;> omega) | (simp_all; done))⟩, ?_⟩⟩
    · omega
    · rw [e1]
      refine c205 (by omega) ⟨⟨by omega, by omega⟩, ⟨by omega, by omega⟩, ⟨by omega, by omega⟩, ⟨(by first | omega | assumption | (refine ⟨?_, ?_⟩ <;> omega) | (simp_all; done)), (by first | omega | assumption | (refine ⟨?_, ?_⟩ <;> omega) | (simp_all; done))⟩, fun q3 => ?_, fun q6 => ?_⟩
      · have e2 : M 93 ((10 + (3 * tO (M 93) s 1)) + 1).toNat = hO (M 93) (tO (M 93) s 1) 1 := rfl
        rw [e1, e2] at q3
        refine cTest (by omega) hr hv p0 p1 s0 s1 (Or.inr rfl) (fun z M' h => ⟨fun _ => ?_, fun y => by omega⟩) (fun z M' h => ⟨fun y => by omega, fun _ => ?_⟩)
        · have e93 : M' 93 = M 93 := h.a (by decide) (by decide) (by decide)
          have eb : sUpd M' 93 ((28 + (6 * s)) + 5).toNat 1 = setS M' (begS (M 93) s) := by
            rw [upd_setS M', e93]
            unfold begS
            rw [if_pos s0]
          have e5 : setS M' (begS (M 93) s) 93 ((28 + (6 * s)) + 1).toNat = tO (M 93) s 1 := by
            rw [setS_93]
            have := beg_t (S := M 93) (s := s) (k := s) (w := 1) s0 (by decide) (by decide)
            rw [if_neg (fun z => absurd z.2 (by decide))] at this
            exact this
          rw [eb]
          refine ⟨⟨by omega, by omega⟩, ⟨by omega, by omega⟩, ?_⟩
          rw [e5]
          have bv := beg_v hv s1
          have bp : ∀ w : Int, 0 ≤ w → pO (begS (M 93) s) x2 w = pO (M 93) x2 w := fun w w0 => beg_o (by omega) (by omega)
          refine c215 (by omega) p0 p1 (by rw [setS_93]; exact (bv.2.2.2.1 x2 p0 p1).2.2.2.2.1) (by rw [setS_93]; have := bv.1.2.2.2.2; omega) ?_
          rw [setS_93, setS_setS]
          refine kk _ (h.s.trans (rKS.set M' _)) ?_
          rw [setS_93]
          have := comF_pos (D := D) (kd := kd) (n := n) (S := M 93) (q := x2) (by rw [en]; exact ⟨hp, s1, by omega, z.imp id (fun y => y.2)⟩)
          rw [en] at this
          exact this.symm
        · exact no M' h (fun y => z (y.2.2.2.imp id (fun w => ⟨rfl, w⟩)))
      · have e2 : M 93 ((10 + (3 * tO (M 93) s 1)) + 1).toNat = hO (M 93) (tO (M 93) s 1) 1 := rfl
        rw [e1, e2] at q6
        exact no M (rK.refl M) (fun y => by have := y.2.2.1; omega)
  · have en : nxS (M 93) x2 = M 93 1 := nxS_is hs1.1 hs1.1 (Int.le_refl _) (fun h => by omega) hno
    exact no M (rK.refl M) (fun y => by have := y.2.1; omega)
theorem lv_inside {S : Nat → Int} {p : Int} (p0 : 0 ≤ p) (p1 : p < 12) (hp : 0 ≤ pO S p 0) : nS (fInside (lvS S p)) 12 = nS (fInside S) 12 - 1 := by
  have hl := lvS_R (S := S) p0 p1
  have := nS_ch (f := fInside S) (g := fInside (lvS S p)) (k := p.toNat) (n := 12) (by omega) (fun i hi ne => by
    have := (hl.2.2 i (by omega) (by omega)).1
    rw [if_neg (by omega)] at this
    unfold fInside
    rw [this])
  rw [this]
  have e := (hl.2.2 p p0 p1).1
  rw [if_pos rfl] at e
  have e1 : fInside S p.toNat = 1 := by unfold fInside; rw [← z_nat p0, if_neg (by omega)]
  have e2 : fInside (lvS S p) p.toNat = 0 := by unfold fInside; rw [← z_nat p0, if_pos (by omega)]
  omega
theorem fInside01 (S : Nat → Int) (i : Nat) : 0 ≤ fInside S i ∧ fInside S i ≤ 1 := by unfold fInside; split <;> decide
theorem c220 (hd : 35 ≤ d) (hr : ruleF M r n kd D) (hv : vTown B (M 93)) (hB : B < 900000) (h3 : M 93 3 ≤ 1200) (h2 : M 93 2 < 96) (kk : ∀ M', rKS M M' → M' 93 = quaF D kd n (M 93) → PV M' G) : sC d 220 [vO 12 82, vI r] M G (QV PV) := by
  obtain ⟨d, rfl⟩ := sD 3 (d := d) (by omega)
  refine e220 (s220_0 ?_)
  -- the late
  have late : ∀ M', rKS M M' → M' 93 = midS D kd n (M 93) → sW (sC (d + 1 + 1)) 220 (QV PV) 184 [vO 12 82, vN, vN, vI 0] [] M' G 0 0 := fun M' hK e93 => by
    have hm := mid_v (D := D) (kd := kd) (n := n) hv
    obtain ⟨m0, m1, m2, m3, m4⟩ := mid_keep (D := D) (kd := kd) (n := n) hv
    have hs3 := hv.1.2.2.2.1
    have hs2 := hv.1.2.2.1
    have lp := sUpTo (W := fun i => sW (sC (d + 1 + 1)) 220 (QV PV) 184 [vO 12 82, vN, vN, vI (i : Int)] [] (setS M' (uS (midS D kd n (M 93)) 3 (midS D kd n (M 93) 3 + nS (fLate (midS D kd n (M 93))) i))) G 0 0) 12 ?_ ?_
    · have e0 : setS M' (uS (midS D kd n (M 93)) 3 (midS D kd n (M 93) 3 + nS (fLate (midS D kd n (M 93))) 0)) = M' := by
        rw [show midS D kd n (M 93) 3 + nS (fLate (midS D kd n (M 93))) 0 = midS D kd n (M 93) 3 from Int.add_zero _]
        have ej : uS (midS D kd n (M 93)) 3 (midS D kd n (M 93) 3) = midS D kd n (M 93) := by
          funext j
          unfold uS
          by_cases h : j = 3
          · rw [if_pos h, h]
          · rw [if_neg h]
        rw [ej, ← e93, setS_id]
      rw [e0] at lp
      exact lp
    · have e2 : setS M' (uS (midS D kd n (M 93)) 3 (midS D kd n (M 93) 3 + nS (fLate (midS D kd n (M 93))) 12)) 93 2 = midS D kd n (M 93) 2 := by rw [setS_93]; rfl
      refine s220_184 ⟨fun _ => ⟨by rw [e2]; exact ⟨by omega, by omega⟩, ?_⟩, fun q => by omega⟩
      rw [e2, setS_upd]
      exact kk _ (hK.trans (rKS.set M' _)) (by rw [setS_93]; rfl)
    · intro i hi ih
      have hb := nS12 (fLate01 (midS D kd n (M 93))) (i := i) (by omega)
      have e3 : setS M' (uS (midS D kd n (M 93)) 3 (midS D kd n (M 93) 3 + nS (fLate (midS D kd n (M 93))) i)) 93 3 = midS D kd n (M 93) 3 + nS (fLate (midS D kd n (M 93))) i := by rw [setS_93]; rfl
      have uu : ∀ x y, uS (uS (midS D kd n (M 93)) 3 x) 3 y = uS (midS D kd n (M 93)) 3 y := fun x y => by
        funext j; unfold uS; by_cases h : j = 3
        · rw [if_pos h, if_pos h]
        · rw [if_neg h, if_neg h, if_neg h]
      have hp := (hm.2.2.2.1 i (by omega) (by omega)).2.1.2
      have hs1 := hv.1.2.1
      refine s220_184 ⟨fun q => by omega, fun q => ?_⟩
      rw [e3]
      refine c221 (by omega) (by omega) (by omega) (by rw [setS_93, late_p i 1 (by omega) (by decide)]; omega) (fun hdue => ⟨fun q3 => ⟨⟨by omega, by omega⟩, ⟨by omega, by omega⟩, ?_⟩, fun q4 => ⟨⟨by omega, by omega⟩, ⟨by omega, by omega⟩, ?_⟩⟩) (fun hnd => ⟨fun q3 => ⟨⟨by omega, by omega⟩, ⟨by omega, by omega⟩, ?_⟩, fun q4 => ⟨⟨by omega, by omega⟩, ⟨by omega, by omega⟩, ?_⟩⟩)
      · omega
      · rw [setS_93] at hdue
        have e : fLate (midS D kd n (M 93)) i = 1 := if_pos ((late_due (by omega)).mp hdue)
        rw [nS_st e] at ih
        rw [setS_upd, uu, Int.add_assoc]
        exact ih
      · rw [setS_93] at hnd
        have e : fLate (midS D kd n (M 93)) i = 0 := if_neg (fun z => hnd ((late_due (by omega)).mpr z))
        rw [nS_st e] at ih
        rw [setS_upd, uu, Int.add_assoc]
        exact ih
      · omega
  -- the coming ones
  have come : ∀ M', rKS M M' → M' 93 = fT (winF D kd n) 12 (goF D kd n 12 (M 93)) → sW (sC (d + 1 + 1)) 220 (QV PV) 155 [vO 12 82, vI r, vN, vI 0] [] M' G 0 0 := fun M' hK e93 => by
    have hv1 := winT_v (D := D) (kd := kd) (n := n) (goF_v (D := D) (kd := kd) (n := n) 12 (M 93) hv) 12 (Nat.le_refl _)
    refine sUpTo (W := fun i => ∀ M', rKS M M' → M' 93 = fT (comF D kd n) i (fT (winF D kd n) 12 (goF D kd n 12 (M 93))) → sW (sC (d + 1 + 1)) 220 (QV PV) 155 [vO 12 82, vI r, vN, vI (i : Int)] [] M' G 0 0) 12 ?_ ?_ M' hK e93
    · intro M' hK e93
      refine (s220_155 ⟨fun q1 => ?_, fun q2 => ⟨⟨by omega, by omega⟩, ⟨by omega, by omega⟩, ⟨by omega, by omega⟩, ⟨(by first | omega | assumption | (refine ⟨?_, ?_⟩ <;> omega) | (simp_all; done)), (by first | omega | assumption | (refine ⟨?_, ?_⟩ <;> omega) | (simp_all; done))⟩, fun q3 => ?_, fun q4 => ?_⟩⟩)
      · exact late M' hK e93
      · omega
      · omega
    · intro i hi ih M' hK e93
      have hv2 := comT_v (D := D) (kd := kd) (n := n) hv1 i (by omega)
      have hpv := (hv2.2.2.2.1 i (by omega) (by omega)).1
      have e0 : M' 93 ((136 + (5 * (i : Int))) + 0).toNat = pO (M' 93) i 0 := rfl
      refine (s220_155 ⟨fun q1 => ?_, fun q2 => ⟨⟨by omega, by omega⟩, ⟨by omega, by omega⟩, ⟨by omega, by omega⟩, ⟨(by first | omega | assumption | (refine ⟨?_, ?_⟩ <;> omega) | (simp_all; done)), (by first | omega | assumption | (refine ⟨?_, ?_⟩ <;> omega) | (simp_all; done))⟩, fun q3 => ?_, fun q4 => ?_⟩⟩)
      · omega
      · refine s220_176 ⟨⟨by omega, by omega⟩, ?_⟩
        refine ih M' hK ?_
        rw [e93]
        exact (comF_neg (fun z => by have := z.1; rw [← e93] at this; omega)).symm
      · rw [← e93] at hpv hv2
        refine c229 (by omega) (hK.f hr) hv2 (by omega) (by omega) (by omega) (by omega) (fun M1 h1 h2 => ?_)
        refine s220_176 ⟨⟨by omega, by omega⟩, ?_⟩
        exact ih M1 (hK.trans h1) (by rw [h2, e93]; rfl)
  -- the windows
  have wind : ∀ M', rKS M M' → M' 93 = goF D kd n 12 (M 93) → sW (sC (d + 1 + 1)) 220 (QV PV) 65 [vO 12 82, vI r, vN, vI 0] [] M' G 0 0 := fun M' hK e93 => by
    have hv1 := goF_v (D := D) (kd := kd) (n := n) 12 (M 93) hv
    refine sUpTo (W := fun i => ∀ M', rKS M M' → M' 93 = fT (winF D kd n) i (goF D kd n 12 (M 93)) → sW (sC (d + 1 + 1)) 220 (QV PV) 65 [vO 12 82, vI r, vN, vI (i : Int)] [] M' G 0 0) 12 ?_ ?_ M' hK e93
    · intro M' hK e93
      exact s220_65 ⟨fun _ => come M' hK e93, fun q => by omega⟩
    · intro i hi ih M' hK e93
      have hv2 := winT_v (D := D) (kd := kd) (n := n) hv1 i (by omega)
      rw [← e93] at hv2
      have hpe := hv2.2.2.2.1 i (by omega) (by omega)
      have hs0 := hv2.1.1
      have hs1 := hv2.1.2.1
      have e0 : M' 93 ((136 + (5 * (i : Int))) + 0).toNat = pO (M' 93) i 0 := rfl
      have e1 : M' 93 ((136 + (5 * (i : Int))) + 1).toNat = pO (M' 93) i 1 := rfl
      have e2 : M' 93 ((10 + (3 * pO (M' 93) i 0)) + 2).toNat = hO (M' 93) (pO (M' 93) i 0) 2 := rfl
      have no : ∀ M'', rK M' M'' → ¬ (dueS (M' 93) i ∧ 0 < hO (M' 93) (pO (M' 93) i 0) 2 ∧ heldK D kd n 2 (wE (M' 93) i (pO (M' 93) i 1))) → sW (sC (d + 1 + 1)) 220 (QV PV) 147 [vO 12 82, vI r, vN, vI (i : Int)] [] M'' G 0 0 := fun M'' h hn => by
        refine s220_147 ⟨⟨by omega, by omega⟩, ?_⟩
        refine ih M'' (hK.trans h.s) ?_
        rw [h.a (by decide) (by decide) (by decide), e93]
        rw [e93] at hn
        exact (if_neg hn).symm
      refine s220_65 ⟨fun q => by omega, fun q => ?_⟩
      refine c221 (by omega) (by omega) (by omega) (by omega) (fun hdue => ?_) (fun hnd => ⟨fun _ => no M' (rK.refl M') (fun z => hnd z.1), fun z => by omega⟩)
      have hh := (hv2.2.1 _ hdue.1 hpe.1.2).2.2
      have hd1 := hdue.2.1
      have hd0 := hdue.1
      refine ⟨fun q3 => ?_, fun q4 => ⟨⟨by omega, by omega⟩, ⟨by omega, by omega⟩, ⟨by omega, by omega⟩, ⟨(by first | omega | assumption | (refine ⟨?_, ?_⟩ <;> omega) | (simp_all; done)), (by first | omega | assumption | (refine ⟨?_, ?_⟩ <;> omega) | (simp_all; done))⟩, ⟨by omega, by omega⟩, ⟨by omega, by omega⟩, ⟨by omega, by omega⟩, ⟨(by first | omega | assumption | (refine ⟨?_, ?_⟩ <;> omega) | (simp_all; done)), (by first | omega | assumption | (refine ⟨?_, ?_⟩ <;> omega) | (simp_all; done))⟩, fun q5 => ⟨⟨by omega, by omega⟩, ⟨(by first | omega | assumption | (refine ⟨?_, ?_⟩ <;> omega) | (simp_all; done)), (by first | omega | assumption | (refine ⟨?_, ?_⟩ <;> omega) | (simp_all; done))⟩, ?_⟩, fun q8 => ?_⟩⟩
      · omega
      · rw [e1]
        refine cTest (by omega) (hK.f hr) hv2 (by omega) (by omega) hdue.2.1 hpe.2.1.2 (Or.inl rfl) (fun z M3 h => ?_) (fun z M3 h => ?_)
        · have e3 : M3 93 = M' 93 := h.a (by decide) (by decide) (by decide)
          have eu : sUpd M3 93 ((10 + (3 * pO (M' 93) i 0)) + 2).toNat (hO (M' 93) (pO (M' 93) i 0) 2 - 1) = setS M3 (winS (M' 93) (pO (M' 93) i 0)) := by rw [upd_setS M3, e3]; rfl
          rw [e3, e0, e2]
          refine ⟨fun _ => ⟨⟨by omega, by omega⟩, ⟨by omega, by omega⟩, ⟨by omega, by omega⟩, ⟨by omega, by omega⟩, ⟨by omega, by omega⟩, ?_⟩, fun y => by omega⟩
          rw [eu]
          refine c201 (by omega) (by omega) (by omega) ?_
          rw [setS_93, setS_setS]
          refine s220_147 ⟨⟨by omega, by omega⟩, ?_⟩
          refine ih _ (hK.trans (h.s.trans (rKS.set M3 _))) ?_
          have q5' : hO (M' 93) (pO (M' 93) i 0) 2 ≠ 0 := q5
          have hw : 0 < hO (M' 93) (pO (M' 93) i 0) 2 := by omega
          rw [setS_93, e93]
          rw [e93] at hdue hw z
          exact (if_pos ⟨hdue, hw, z.elim id (fun y => absurd y.1 (by decide))⟩).symm
        · refine ⟨fun y => by omega, fun _ => no M3 h (fun y => z (Or.inl y.2.2))⟩
      · refine no M' (rK.refl M') (fun z => ?_)
        have := z.2.1
        rw [e0, e2] at q8
        omega
  -- the going ones
  have go : ∀ (k : Nat) (M' : sM), rKS M M' → vTown B (M' 93) → nS (fInside (M' 93)) 12 ≤ k → goF D kd n 12 (M 93) = goF D kd n k (M' 93) → sW (sC (d + 1 + 1)) 220 (QV PV) 2 [vO 12 82, vI r, vI 0, vN] [] M' G 0 0 := by
    intro k
    induction k with
    | zero =>
      intro M' hK hv' hin e
      have e' : goF D kd n 12 (M 93) = M' 93 := e
      have hz := (nS_zero (n := 12) (fun i _ => (fInside01 (M' 93) i).1)).mp (by have := nS12 (fInside01 (M' 93)) (Nat.le_refl 12); omega)
      have hs1 := hv'.1.2.1
      refine sUpTo (W := fun p => sW (sC (d + 1 + 1)) 220 (QV PV) 2 [vO 12 82, vI r, vI (p : Int), vN] [] M' G 0 0) 12 ?_ ?_
      · exact s220_2 ⟨fun _ => wind M' hK e'.symm, fun q => by omega⟩
      · intro p hp ih
        have hpe := hv'.2.2.2.1 p (by omega) (by omega)
        refine s220_2 ⟨fun q => by omega, fun q => ?_⟩
        refine c221 (by omega) (by omega) (by omega) (by omega) (fun hdue => ?_) (fun hnd => ⟨fun q3 => ?_, fun q4 => ?_⟩)
        · have := hz p hp
          unfold fInside at this
          rw [if_neg (by have := hdue.1; omega)] at this
          exact absurd this (by decide)
        · exact s220_37 (s220_48 ⟨fun _ => ⟨⟨by omega, by omega⟩, ih⟩, fun z => by omega⟩)
        · omega
    | succ k ihk =>
      intro M' hK hv' hin e
      have hs0 := hv'.1.1
      have hs1 := hv'.1.2.1
      refine sUpTo (W := fun p => ∀ M'', rK M' M'' → (∀ j : Nat, j < p → ¬ goes D kd n (M' 93) j) → sW (sC (d + 1 + 1)) 220 (QV PV) 2 [vO 12 82, vI r, vI (p : Int), vN] [] M'' G 0 0) 12 ?_ ?_ M' (rK.refl M') (fun j h => by omega)
      · intro M'' h hno
        have ef : fstG D kd n (M' 93) = 12 := fstG_is (Nat.le_refl _) (fun z => by omega) hno
        have eg : goF D kd n 12 (M 93) = M' 93 := by
          rw [e]
          unfold goF
          rw [if_pos ef]
        exact s220_2 ⟨fun _ => wind M'' (hK.trans h.s) ((h.a (by decide) (by decide) (by decide)).trans eg.symm), fun q => by omega⟩
      · intro p hp ih M'' h hno
        have e93 : M'' 93 = M' 93 := h.a (by decide) (by decide) (by decide)
        have hpe := hv'.2.2.2.1 p (by omega) (by omega)
        have nx : ∀ M3, rK M' M3 → ¬ goes D kd n (M' 93) p → sW (sC (d + 1 + 1)) 220 (QV PV) 37 [vO 12 82, vI r, vI (p : Int), vN] [] M3 G 0 0 := fun M3 h3 hn => s220_37 (s220_48 ⟨fun _ => ⟨⟨by omega, by omega⟩, ih M3 h3 (fun j hj => by
          by_cases c : j = p
          · rw [c]; exact hn
          · exact hno j (by omega))⟩, fun z => by omega⟩)
        refine s220_2 ⟨fun q => by omega, fun q => ?_⟩
        refine c221 (by omega) (by omega) (by omega) (by rw [e93]; omega) (fun hdue => ⟨fun q3 => ?_, fun q4 => ?_⟩) (fun hnd => ⟨fun q3 => ?_, fun q4 => ?_⟩)
        · omega
        · rw [e93] at hdue
          refine c212 (by omega) (by omega) (by omega) (by rw [e93]; omega) (fun hmay => ⟨fun q5 => ?_, fun q6 => ?_⟩) (fun hnm => ⟨fun q5 => ?_, fun q6 => ?_⟩)
          · omega
          · rw [e93] at hmay
            refine c222 (B := B) (by omega) (h.s.f (hK.f hr)) (by rw [e93]; exact hv') (by omega) (by omega) (by rw [e93]; exact hdue.2.1) (fun z M3 h3 => ⟨fun q7 => ?_, fun q8 => ?_⟩) (fun z M3 h3 => ⟨fun q7 => ?_, fun q8 => ?_⟩)
            · rw [e93] at z
              exact nx M3 (h.trans h3) (fun y => y.2.2 z)
            · omega
            · omega
            · rw [e93] at z
              have hgo : goes D kd n (M' 93) p := ⟨hdue, hmay, z⟩
              have e3 : M3 93 = M' 93 := (h3.a (by decide) (by decide) (by decide)).trans e93
              have ef : fstG D kd n (M' 93) = p := fstG_is (by omega) (fun _ => hgo) hno
              have eg : goF D kd n 12 (M 93) = goF D kd n k (lvS (M' 93) p) := by
                rw [e]
                show (if fstG D kd n (M' 93) = 12 then M' 93 else goF D kd n k (lvS (M' 93) (fstG D kd n (M' 93)))) = _
                rw [ef, if_neg (by omega)]
              refine c201 (by omega) (by omega) (by omega) ?_
              rw [e3]
              refine s220_48 ⟨fun z => by omega, fun _ => ?_⟩
              have hv3 := lv_v hv' (lvS_R (S := M' 93) (p := (p : Int)) (by omega) (by omega)) (by omega) (by omega)
              have hin3 := lv_inside (S := M' 93) (p := (p : Int)) (by omega) (by omega) hdue.1
              refine ihk (setS M3 (lvS (M' 93) p)) (hK.trans ((h.trans h3).s.trans (rKS.set M3 _))) (by rw [setS_93]; exact hv3) (by rw [setS_93]; omega) (by rw [setS_93]; exact eg)
          · rw [e93] at hnm
            exact nx M'' h (fun y => hnm y.2.1)
          · omega
        · rw [e93] at hnd
          exact nx M'' h (fun y => hnd y.1)
        · omega
  exact go 12 M (rKS.refl M) hv (nS12 (fInside01 (M 93)) (Nat.le_refl 12)).2 rfl
theorem c219 {x2 : Int} (hd : 40 ≤ d) (hr : ruleF M r n kd D) (hv : vTown B (M 93)) (hB : B < 800000) (h0 : 0 ≤ x2) (h3 : M 93 3 + 12 * x2 ≤ 1200) (h2 : M 93 2 + x2 ≤ 96) (kk : ∀ M', rKS M M' → M' 93 = quasF D kd n x2.toNat (M 93) → PV M' G) : sC d 219 [vO 12 82, vI r, vI x2] M G (QV PV) := by
  obtain ⟨d, rfl⟩ := sD 2 (d := d) (by omega)
  have hS2 := hv.1.2.2.1
  refine e219 (s219_0 ?_)
  refine sUpTo (W := fun i => ∀ M', rKS M M' → M' 93 = quasF D kd n i (M 93) → sW (sC (d + 1)) 219 (QV PV) 2 [vO 12 82, vI r, vI x2, vI (i : Int)] [] M' G 0 0) x2.toNat ?_ ?_ M (rKS.refl M) rfl
  · intro M' hK e
    exact s219_2 ⟨fun _ => kk M' hK e, fun q => by omega⟩
  · intro i hi ih M' hK e
    obtain ⟨hv', q0, q1, q2', q3', q4', -⟩ := quas_v (D := D) (kd := kd) (n := n) hv i (by omega) (by omega)
    rw [← e] at hv' q2' q3' q4'
    refine s219_2 ⟨fun q => by omega, fun q => ?_⟩
    refine c220 (by omega) (hK.f hr) hv' (by omega) (by omega) (by omega) (fun M1 h1 h2 => ⟨⟨by omega, by omega⟩, ?_⟩)
    exact ih M1 (hK.trans h1) (by rw [h2, e]; rfl)
end RefQ
