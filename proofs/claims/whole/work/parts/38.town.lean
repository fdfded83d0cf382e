/-! THE CLASS'S TOWN (at b), read. -/
section Town1
variable {d : Nat} {P : Int → sM → sG → Prop} {PV : sM → sG → Prop} {M : sM} {G : sG} {b : Nat} {S : Nat → Int} {B : Int}
theorem TR.hs (ht : TR b M S) (hv : vTown B S) : M b 0 = S 0 ∧ 0 ≤ S 0 ∧ S 0 ≤ 6 := ⟨ht.1.1, hv.1.1⟩
theorem c56 {x1 : Int} (hd : 5 ≤ d) (hv : vTown B S) (ht : TR b M S) (h0 : 0 ≤ x1) (h1 : x1 < S 0) (k1 : 0 < inN S x1 → P (rW b M x1 (inN S x1 - 1)) M G) (k0 : inN S x1 = 0 → P (-1) M G) : sC d 56 [vO 10 b, vI x1] M G (QI P) := by
  obtain ⟨d, rfl⟩ := sD 2 (d := d) (by omega)
  have hs := hv.1.1
  have hi := (ht.2.1 x1 h0 h1).2.2.2
  have hn := inN_ge S x1
  refine e56 (s56_0 ⟨⟨(by first | omega | assumption | (refine ⟨?_, ?_⟩ <;> omega) | (simp_all; done)), (by first | omega | assumption | (refine ⟨?_, ?_⟩ <;> omega) | (simp_all; done))⟩, fun q1 => ?_, fun q2 => ⟨⟨by omega, by omega⟩, ⟨by omega, by omega⟩, ⟨by omega, by omega⟩, ⟨(by first | omega | assumption | (refine ⟨?_, ?_⟩ <;> omega) | (simp_all; done)), (by first | omega | assumption | (refine ⟨?_, ?_⟩ <;> omega) | (simp_all; done))⟩, ?_⟩⟩)
  · exact k0 (by omega)
  · have := k1 (by omega)
    unfold rW at this
    rw [show ((x1 * 12) + (inN S x1 - 1)).toNat = (((x1 * 12) + (M (b + 4) x1.toNat)) - 1).toNat by omega] at this
    exact this
theorem c57 {x1 : Int} (hd : 5 ≤ d) (hv : vTown B S) (ht : TR b M S) (h0 : 0 ≤ x1) (h1 : x1 < S 0) (k1 : 0 < inN S x1 → P (rW b M x1 0) M G) (k0 : inN S x1 = 0 → P (-1) M G) : sC d 57 [vO 10 b, vI x1] M G (QI P) := by
  obtain ⟨d, rfl⟩ := sD 2 (d := d) (by omega)
  have hs := hv.1.1
  have hi := (ht.2.1 x1 h0 h1).2.2.2
  have hn := inN_ge S x1
  refine e57 (s57_0 ⟨⟨(by first | omega | assumption | (refine ⟨?_, ?_⟩ <;> omega) | (simp_all; done)), (by first | omega | assumption | (refine ⟨?_, ?_⟩ <;> omega) | (simp_all; done))⟩, fun q1 => ?_, fun q2 => ⟨⟨by omega, by omega⟩, ⟨(by first | omega | assumption | (refine ⟨?_, ?_⟩ <;> omega) | (simp_all; done)), (by first | omega | assumption | (refine ⟨?_, ?_⟩ <;> omega) | (simp_all; done))⟩, ?_⟩⟩)
  · exact k0 (by omega)
  · have := k1 (by omega)
    unfold rW at this
    rw [show ((x1 * 12) + (0 : Int)).toNat = (x1 * 12).toNat by omega] at this
    exact this
/-- whose place in the row is the last, the first -/
theorem RW.isLast {h p : Int} (hr : RW b M S h) (p0 : 0 ≤ p) (p1 : p < 12) (hp : pO S p 0 = h) : 0 < inN S h ∧ (othA S p = 0 ↔ rW b M h (inN S h - 1) = p) := by
  obtain ⟨i, i0, i1, e⟩ := hr.ex p0 p1 hp
  have ha := hr.aftN i0 i1
  rw [e] at ha
  refine ⟨by omega, ?_⟩
  rw [ha]
  constructor
  · intro z; rw [show inN S h - 1 = i by omega]; exact e
  · intro z
    have := hr.inj (i := i) (j := inN S h - 1) i0 i1 (by omega) (by omega) (e.trans z.symm)
    omega
theorem RW.isFirst {h p : Int} (hr : RW b M S h) (p0 : 0 ≤ p) (p1 : p < 12) (hp : pO S p 0 = h) : 0 < inN S h ∧ (othB S p = 0 ↔ rW b M h 0 = p) := by
  obtain ⟨i, i0, i1, e⟩ := hr.ex p0 p1 hp
  have ha := hr.befN i0 i1
  rw [e] at ha
  refine ⟨by omega, ?_⟩
  rw [ha]
  constructor
  · intro z; rw [← z]; exact e
  · intro z
    exact hr.inj (i := i) (j := 0) i0 i1 (by omega) (by omega) (e.trans z.symm)
theorem c62 {x1 : Int} (hd : 10 ≤ d) (hv : vTown B S) (ht : TR b M S) (h0 : 0 ≤ x1) (h1 : x1 < 12) (k1 : mayG S x1 → P 1 M G) (k0 : ¬ mayG S x1 → P 0 M G) : sC d 62 [vO 10 b, vI x1] M G (QI P) := by
  obtain ⟨d, rfl⟩ := sD 2 (d := d) (by omega)
  have hs := hv.1.1
  have hb0 := ht.1.1
  have hp := (ht.2.2.2.1 x1 h0 h1).1
  have hpv := (hv.2.2.2.1 x1 h0 h1).1
  by_cases hq : 0 ≤ pO S x1 0
  · have hl := (ht.2.1 _ hq hpv.2).1
    have hr := ht.2.2.2.2 _ hq hpv.2
    have hla := hr.isLast h0 h1 rfl
    have hfi := hr.isFirst h0 h1 rfl
    rw [← hp] at hl
    have hlv := (hv.2.1 _ hq hpv.2).1
    rw [← hp] at hlv
    refine e62 (s62_0 ⟨⟨(by first | omega | assumption | (refine ⟨?_, ?_⟩ <;> omega) | (simp_all; done)), (by first | omega | assumption | (refine ⟨?_, ?_⟩ <;> omega) | (simp_all; done))⟩, fun q1 => ?_, fun q2 => ⟨fun q3 => ?_, fun q4 => ⟨⟨(by first | omega | assumption | (refine ⟨?_, ?_⟩ <;> omega) | (simp_all; done)), (by first | omega | assumption | (refine ⟨?_, ?_⟩ <;> omega) | (simp_all; done))⟩, fun q5 => ⟨fun q6 => ?_, fun q7 => ?_⟩, fun q10 => ?_⟩⟩⟩)
    · omega
    · omega
    · exact k1 ⟨hq, Or.inl (by rw [← hp]; omega)⟩
    · refine c57 (by omega) hv ht (by omega) (by omega) (fun z => ⟨fun q8 => ?_, fun q9 => ?_⟩) (fun z => ?_)
      · exact k0 (fun y => by unfold mayG at y; rw [← hp] at y; rcases y.2 with y | y | y; omega; omega; exact q8 (by rw [hp]; exact hfi.2.mp y.2))
      · exact k1 ⟨hq, Or.inr (Or.inr ⟨by rw [← hp]; omega, hfi.2.mpr (by rw [← hp]; exact q9)⟩)⟩
      · rw [hp] at z; omega
    · refine c56 (by omega) hv ht (by omega) (by omega) (fun z => ⟨fun q11 => ?_, fun q12 => ?_⟩) (fun z => ?_)
      · exact k0 (fun y => by unfold mayG at y; rw [← hp] at y; rcases y.2 with y | y | y; omega; exact q11 (by rw [hp]; exact hla.2.mp y.2); omega)
      · exact k1 ⟨hq, Or.inr (Or.inl ⟨by rw [← hp]; omega, hla.2.mpr (by rw [← hp]; exact q12)⟩)⟩
      · rw [hp] at z; omega
  · have kk := k0 (fun z => hq z.1)
    refine e62 (s62_0 ⟨⟨(by first | omega | assumption | (refine ⟨?_, ?_⟩ <;> omega) | (simp_all; done)), (by first | omega | assumption | (refine ⟨?_, ?_⟩ <;> omega) | (simp_all; done))⟩, fun q1 => ?_, fun q2 => ⟨fun q3 => ?_, fun q4 => ⟨⟨(by first | omega | assumption | (refine ⟨?_, ?_⟩ <;> omega) | (simp_all; done)), (by first | omega | assumption | (refine ⟨?_, ?_⟩ <;> omega) | (simp_all; done))⟩, fun q5 => ⟨fun q6 => ?_, fun q7 => ?_⟩, fun q10 => ?_⟩⟩⟩)
    · exact kk
    · exact kk
    · omega
    · omega
    · omega
theorem c80 {x1 : Int} (hd : 5 ≤ d) (hv : vTown B S) (ht : TR b M S) (h0 : 0 ≤ x1) (h1 : x1 < 12) (k1 : dueS S x1 → P 1 M G) (k0 : ¬ dueS S x1 → P 0 M G) : sC d 80 [vO 10 b, vI x1] M G (QI P) := by
  obtain ⟨d, rfl⟩ := sD 2 (d := d) (by omega)
  obtain ⟨l0, l1, l2, l3⟩ := ht.1
  have hs := hv.1.2.1
  have hp := (ht.2.2.2.1 x1 h0 h1).2.1
  have hpv := hv.2.2.2.1 x1 h0 h1
  refine e80 (s80_0 ⟨⟨(by first | omega | assumption | (refine ⟨?_, ?_⟩ <;> omega) | (simp_all; done)), (by first | omega | assumption | (refine ⟨?_, ?_⟩ <;> omega) | (simp_all; done))⟩, fun q1 => ?_, fun q2 => ⟨fun q3 => ?_, fun q4 => ⟨⟨(by first | omega | assumption | (refine ⟨?_, ?_⟩ <;> omega) | (simp_all; done)), (by first | omega | assumption | (refine ⟨?_, ?_⟩ <;> omega) | (simp_all; done))⟩, fun q5 => ?_, fun q6 => ?_⟩⟩⟩)
  · exact k0 (fun z => by have := z.2.1; omega)
  · omega
  · have hl := (ht.2.2.1 _ (hp ▸ q2) (hp ▸ (l1 ▸ q4))).2.2.2.1
    exact k0 (fun z => by have := z.2.2; rw [hp] at q5; omega)
  · have hl := (ht.2.2.1 _ (hp ▸ q2) (hp ▸ (l1 ▸ q4))).2.2.2.1
    rw [hp] at q6
    refine k1 ⟨?_, by omega, by omega⟩
    by_cases e : pO S x1 0 = -1
    · have := hpv.2.2.1 e; omega
    · omega
theorem c63 {x1 : Int} (hd : 5 ≤ d) (hv : vTown B S) (ht : TR b M S) (h0 : 0 ≤ x1) (h1 : x1 < 12) (k1 : 0 ≤ pO S x1 0 → P (othA S x1) M G) (k0 : pO S x1 0 = -1 → P 0 M G) : sC d 63 [vO 10 b, vI x1] M G (QI P) := by
  obtain ⟨d, rfl⟩ := sD 2 (d := d) (by omega)
  have hs := hv.1.1
  have hb0 := ht.1.1
  have hp := (ht.2.2.2.1 x1 h0 h1).1
  have hpv := (hv.2.2.2.1 x1 h0 h1).1
  by_cases hq : 0 ≤ pO S x1 0
  · have hi := (ht.2.1 _ hq hpv.2).2.2.2
    have hr := ht.2.2.2.2 _ hq hpv.2
    obtain ⟨i, i0, i1, e⟩ := hr.ex h0 h1 rfl
    have ha := hr.aftN i0 i1
    rw [e] at ha
    have hn := inN_ge S (pO S x1 0)
    rw [show (pO S x1 0).toNat = (M (b + 12) x1.toNat).toNat by rw [hp]] at hi
    refine e63 (s63_0 ⟨⟨(by first | omega | assumption | (refine ⟨?_, ?_⟩ <;> omega) | (simp_all; done)), (by first | omega | assumption | (refine ⟨?_, ?_⟩ <;> omega) | (simp_all; done))⟩, fun q1 => ?_, fun q2 => ⟨fun q3 => ⟨⟨(by first | omega | assumption | (refine ⟨?_, ?_⟩ <;> omega) | (simp_all; done)), (by first | omega | assumption | (refine ⟨?_, ?_⟩ <;> omega) | (simp_all; done))⟩, ⟨by omega, by omega⟩, ?_⟩, fun q4 => ?_⟩⟩)
    · omega
    · have lp := sUpTo (W := fun j => sW (sC (d + 1)) 63 (QI P) 33 [vO 10 b, vI x1, vI (M (b + 12) x1.toNat), vI (j : Int), vI (inN S (pO S x1 0) - 1 - (j : Int))] [] M G 0 0) (inN S (pO S x1 0) - 1 - i).toNat ?_ ?_
      · have e0 : inN S (pO S x1 0) - 1 - ((0 : Nat) : Int) = (M (b + 4) (M (b + 12) x1.toNat).toNat) - 1 := by omega
        rw [e0] at lp
        exact lp
      · have e1 : ((inN S (pO S x1 0) - 1 - i).toNat : Int) = othA S x1 := by omega
        have e2 : inN S (pO S x1 0) - 1 - ((inN S (pO S x1 0) - 1 - i).toNat : Int) = i := by omega
        rw [e2, e1]
        refine (s63_33 ⟨fun q1 => ?_, fun q2 => ⟨⟨by omega, by omega⟩, ⟨by omega, by omega⟩, ⟨(by first | omega | assumption | (refine ⟨?_, ?_⟩ <;> omega) | (simp_all; done)), (by first | omega | assumption | (refine ⟨?_, ?_⟩ <;> omega) | (simp_all; done))⟩, fun q3 => ?_, fun q4 => ⟨⟨by omega, by omega⟩, ⟨by omega, by omega⟩, ?_⟩⟩⟩)
        · omega
        · exact k1 hq
        · rw [hp] at q4; exact absurd e q4
      · intro j hj ih
        have ne : rW b M (pO S x1 0) (inN S (pO S x1 0) - 1 - (j : Int)) ≠ x1 := fun z => by
          have := hr.inj (i := inN S (pO S x1 0) - 1 - (j : Int)) (j := i) (by omega) (by omega) i0 i1 (z.trans e.symm)
          omega
        refine (s63_33 ⟨fun q1 => ?_, fun q2 => ⟨⟨by omega, by omega⟩, ⟨by omega, by omega⟩, ⟨(by first | omega | assumption | (refine ⟨?_, ?_⟩ <;> omega) | (simp_all; done)), (by first | omega | assumption | (refine ⟨?_, ?_⟩ <;> omega) | (simp_all; done))⟩, fun q3 => ?_, fun q4 => ⟨⟨by omega, by omega⟩, ⟨by omega, by omega⟩, ?_⟩⟩⟩)
        · omega
        · rw [hp] at q3; exact absurd q3 ne
        · have e3 : inN S (pO S x1 0) - 1 - ((j + 1 : Nat) : Int) = inN S (pO S x1 0) - 1 - (j : Int) + (-1) := by omega
          rw [e3] at ih
          exact ih
    · omega
  · have kk := k0 (by omega)
    refine e63 (s63_0 ⟨⟨(by first | omega | assumption | (refine ⟨?_, ?_⟩ <;> omega) | (simp_all; done)), (by first | omega | assumption | (refine ⟨?_, ?_⟩ <;> omega) | (simp_all; done))⟩, fun q1 => ?_, fun q2 => ⟨fun q3 => ⟨⟨(by first | omega | assumption | (refine ⟨?_, ?_⟩ <;> omega) | (simp_all; done)), (by first | omega | assumption | (refine ⟨?_, ?_⟩ <;> omega) | (simp_all; done))⟩, ⟨by omega, by omega⟩, ?_⟩, fun q4 => ?_⟩⟩)
    · exact kk
    · omega
    · omega
theorem c75 {x1 : Int} (hd : 5 ≤ d) (hv : vTown B S) (ht : TR b M S) (h0 : 0 ≤ x1) (h1 : x1 < 12) (k1 : 0 ≤ pO S x1 0 → ∀ i : Int, 0 ≤ i → i < inN S (pO S x1 0) → rW b M (pO S x1 0) i = x1 → P i M G) (k0 : pO S x1 0 = -1 → P (-1) M G) : sC d 75 [vO 10 b, vI x1] M G (QI P) := by
  obtain ⟨d, rfl⟩ := sD 2 (d := d) (by omega)
  have hs := hv.1.1
  have hb0 := ht.1.1
  have hp := (ht.2.2.2.1 x1 h0 h1).1
  have hpv := (hv.2.2.2.1 x1 h0 h1).1
  by_cases hq : 0 ≤ pO S x1 0
  · have hi := (ht.2.1 _ hq hpv.2).2.2.2
    have hr := ht.2.2.2.2 _ hq hpv.2
    obtain ⟨i, i0, i1, e⟩ := hr.ex h0 h1 rfl
    have hn := inN_ge S (pO S x1 0)
    rw [← hp] at hi
    refine e75 (s75_0 ⟨⟨(by first | omega | assumption | (refine ⟨?_, ?_⟩ <;> omega) | (simp_all; done)), (by first | omega | assumption | (refine ⟨?_, ?_⟩ <;> omega) | (simp_all; done))⟩, fun q1 => ?_, fun q2 => ⟨fun q3 => ?_, fun q4 => ?_⟩⟩)
    · omega
    · omega
    · refine sUpTo (W := fun j => sW (sC (d + 1)) 75 (QI P) 19 [vO 10 b, vI x1, vI (M (b + 12) x1.toNat), vI (j : Int)] [] M G 0 0) i.toNat ?_ ?_
      · rw [← z_nat i0]
        refine (s75_19 ⟨⟨(by first | omega | assumption | (refine ⟨?_, ?_⟩ <;> omega) | (simp_all; done)), (by first | omega | assumption | (refine ⟨?_, ?_⟩ <;> omega) | (simp_all; done))⟩, fun q1 => ?_, fun q2 => ⟨⟨by omega, by omega⟩, ⟨by omega, by omega⟩, ⟨(by first | omega | assumption | (refine ⟨?_, ?_⟩ <;> omega) | (simp_all; done)), (by first | omega | assumption | (refine ⟨?_, ?_⟩ <;> omega) | (simp_all; done))⟩, fun q3 => ⟨⟨by omega, by omega⟩, ?_⟩, fun q4 => ?_⟩⟩)
        · rw [hp] at q1 hi; omega
        · rw [hp] at q3; exact absurd e q3
        · exact k1 hq i i0 i1 e
      · intro j hj ih
        have ne : rW b M (pO S x1 0) (j : Int) ≠ x1 := fun z => by
          have := hr.inj (i := (j : Int)) (j := i) (by omega) (by omega) i0 i1 (z.trans e.symm)
          omega
        refine (s75_19 ⟨⟨(by first | omega | assumption | (refine ⟨?_, ?_⟩ <;> omega) | (simp_all; done)), (by first | omega | assumption | (refine ⟨?_, ?_⟩ <;> omega) | (simp_all; done))⟩, fun q1 => ?_, fun q2 => ⟨⟨by omega, by omega⟩, ⟨by omega, by omega⟩, ⟨(by first | omega | assumption | (refine ⟨?_, ?_⟩ <;> omega) | (simp_all; done)), (by first | omega | assumption | (refine ⟨?_, ?_⟩ <;> omega) | (simp_all; done))⟩, fun q3 => ⟨⟨by omega, by omega⟩, ?_⟩, fun q4 => ?_⟩⟩)
        · rw [hp] at q1 hi; omega
        · exact ih
        · rw [hp] at q4; exact absurd q4 ne
  · have kk := k0 (by omega)
    refine e75 (s75_0 ⟨⟨(by first | omega | assumption | (refine ⟨?_, ?_⟩ <;> omega) | (simp_all; done)), (by first | omega | assumption | (refine ⟨?_, ?_⟩ <;> omega) | (simp_all; done))⟩, fun q1 => ?_, fun q2 => ⟨fun q3 => ?_, fun q4 => ?_⟩⟩)
    · exact kk
    · exact kk
    · omega
theorem c65 (hd : 5 ≤ d) (hv : vTown B S) (ht : TR b M S) (kk : P (nS (fServed S) (S 1).toNat) M G) : sC d 65 [vO 10 b] M G (QI P) := by
  obtain ⟨d, rfl⟩ := sD 2 (d := d) (by omega)
  have hs := hv.1.2.1
  have hb1 := ht.1.2.1
  have hb : ∀ s : Int, 0 ≤ s → s < S 1 → 0 ≤ tO S s 5 ∧ tO S s 5 ≤ 1 := fun s s0 s1 => by have := (hv.2.2.1 s s0 s1).2.2.2.2.2.2; omega
  refine e65 (s65_0 ?_)
  refine sUpTo (W := fun i => sW (sC (d + 1)) 65 (QI P) 4 [vO 10 b, vI (nS (fServed S) i), vI (i : Int)] [] M G 0 0) (S 1).toNat ?_ ?_
  · exact s65_4 ⟨fun _ => kk, fun q => absurd q (by omega)⟩
  · intro i hi ih
    have hb1 := nS_ge0 (f := fServed S) (n := i) (fun j hj => (hb j (by omega) (by omega)).1)
    have hb2 := nS_le (f := fServed S) (c := 1) (n := i) (fun j hj => (hb j (by omega) (by omega)).2)
    have hb3 := hb i (by omega) (by omega)
    have e := (ht.2.2.1 i (by omega) (by omega)).2.2.2.2.2
    refine (s65_4 ⟨fun q1 => ?_, fun q2 => ⟨⟨(by first | omega | assumption | (refine ⟨?_, ?_⟩ <;> omega) | (simp_all; done)), (by first | omega | assumption | (refine ⟨?_, ?_⟩ <;> omega) | (simp_all; done))⟩, ⟨by omega, by omega⟩, ⟨by omega, by omega⟩, ?_⟩⟩)
    · omega
    · rw [e]; exact ih
def fMissed (S : Nat → Int) : Nat → Int := fun s => if tO S s 5 = 0 ∧ tO S s 3 ≤ S 2 then 1 else 0
theorem fMissed01 (S : Nat → Int) (i : Nat) : 0 ≤ fMissed S i ∧ fMissed S i ≤ 1 := by unfold fMissed; split <;> decide
theorem c66 (hd : 5 ≤ d) (hv : vTown B S) (ht : TR 14 M S) (kk : P (nS (fMissed S) (S 1).toNat) M G) : sC d 66 [vO 10 14] M G (QI P) := by
  obtain ⟨d, rfl⟩ := sD 2 (d := d) (by omega)
  have hs := hv.1.2.1
  have hb1 := ht.1.2.1
  have hb2 := ht.1.2.2.1
  refine e66 (s66_0 ?_)
  refine sUpTo (W := fun i => sW (sC (d + 1)) 66 (QI P) 4 [vO 10 14, vI (nS (fMissed S) i), vI (i : Int)] [] M G 0 0) (S 1).toNat ?_ ?_
  · exact s66_4 ⟨fun _ => kk, fun q => absurd q (by omega)⟩
  · intro i hi ih
    have c1 := nS_ge0 (f := fMissed S) (n := i) (fun j hj => (fMissed01 S j).1)
    have c2 := nS_le (f := fMissed S) (c := 1) (n := i) (fun j hj => (fMissed01 S j).2)
    have e := (ht.2.2.1 i (by omega) (by omega)).2.2.2
    have e5 : M 25 ((i : Int)).toNat = tO S i 5 := e.2.2
    have e3 : M 23 ((i : Int)).toNat = tO S i 3 := e.1
    have st : ∀ x : Int, fMissed S i = x → sW (sC (d + 1)) 66 (QI P) 4 [vO 10 14, vI (nS (fMissed S) i + x), vI ((i + 1 : Nat) : Int)] [] M G 0 0 := fun x hx => by rw [← nS_st hx]; exact ih
    refine (s66_4 ⟨fun q1 => ?_, fun q2 => ⟨⟨(by first | omega | assumption | (refine ⟨?_, ?_⟩ <;> omega) | (simp_all; done)), (by first | omega | assumption | (refine ⟨?_, ?_⟩ <;> omega) | (simp_all; done))⟩, fun q3 => ⟨⟨by omega, by omega⟩, ?_⟩, fun q4 => ⟨fun q5 => ⟨⟨by omega, by omega⟩, ?_⟩, fun q6 => ⟨⟨by omega, by omega⟩, ⟨by omega, by omega⟩, ?_⟩⟩⟩⟩)
    · omega
    · have := st 0 (if_neg (fun z => q3 (e5.trans z.1))); rw [Int.add_zero] at this; exact this
    · have := st 0 (if_neg (fun z => by have := z.2; omega)); rw [Int.add_zero] at this; exact this
    · exact st 1 (if_pos ⟨e5.symm.trans q4, by omega⟩)
def fWin (S : Nat → Int) : Nat → Int := fun h => hO S h 2
def fHouse (S : Nat → Int) : Nat → Int := fun h => inN S h
theorem c92 (hd : 5 ≤ d) (hv : vTown B S) (ht : TR 42 M S) (kk : P (nS (fWin S) (S 0).toNat) M G) : sC d 92 [vO 10 42] M G (QI P) := by
  obtain ⟨d, rfl⟩ := sD 2 (d := d) (by omega)
  have hs := hv.1.1
  have hb0 := ht.1.1
  have hb : ∀ s : Int, 0 ≤ s → s < S 0 → 0 ≤ hO S s 2 ∧ hO S s 2 ≤ 9 := fun s s0 s1 => (hv.2.1 s s0 s1).2.2
  refine e92 (s92_0 ?_)
  refine sUpTo (W := fun i => sW (sC (d + 1)) 92 (QI P) 4 [vO 10 42, vI (nS (fWin S) i), vI (i : Int)] [] M G 0 0) (S 0).toNat ?_ ?_
  · exact s92_4 ⟨fun _ => kk, fun q => absurd q (by omega)⟩
  · intro i hi ih
    have hb1 := nS_ge0 (f := fWin S) (n := i) (fun j hj => (hb j (by omega) (by omega)).1)
    have hb2 := nS_le (f := fWin S) (c := 9) (n := i) (fun j hj => (hb j (by omega) (by omega)).2)
    have hb3 := hb i (by omega) (by omega)
    have e : M 45 ((i : Int)).toNat = hO S i 2 := (ht.2.1 i (by omega) (by omega)).2.2.1
    refine (s92_4 ⟨fun q1 => ?_, fun q2 => ⟨⟨(by first | omega | assumption | (refine ⟨?_, ?_⟩ <;> omega) | (simp_all; done)), (by first | omega | assumption | (refine ⟨?_, ?_⟩ <;> omega) | (simp_all; done))⟩, ⟨by omega, by omega⟩, ⟨by omega, by omega⟩, ?_⟩⟩)
    · omega
    · rw [e]; exact ih
theorem c67 (hd : 5 ≤ d) (hv : vTown B S) (ht : TR b M S) (kk : P (nS (fHouse S) (S 0).toNat) M G) : sC d 67 [vO 10 b] M G (QI P) := by
  obtain ⟨d, rfl⟩ := sD 2 (d := d) (by omega)
  have hs := hv.1.1
  have hb0 := ht.1.1
  refine e67 (s67_0 ?_)
  refine sUpTo (W := fun i => sW (sC (d + 1)) 67 (QI P) 4 [vO 10 b, vI (nS (fHouse S) i), vI (i : Int)] [] M G 0 0) (S 0).toNat ?_ ?_
  · exact s67_4 ⟨fun _ => kk, fun q => absurd q (by omega)⟩
  · intro i hi ih
    have hb1 := nS_ge0 (f := fHouse S) (n := i) (fun j hj => (inN_ge S j).1)
    have hb2 := nS_le (f := fHouse S) (c := 12) (n := i) (fun j hj => (inN_ge S j).2)
    have hb3 := inN_ge S i
    have e := (ht.2.1 i (by omega) (by omega)).2.2.2
    refine (s67_4 ⟨fun q1 => ?_, fun q2 => ⟨⟨(by first | omega | assumption | (refine ⟨?_, ?_⟩ <;> omega) | (simp_all; done)), (by first | omega | assumption | (refine ⟨?_, ?_⟩ <;> omega) | (simp_all; done))⟩, ⟨by omega, by omega⟩, ⟨by omega, by omega⟩, ?_⟩⟩)
    · omega
    · rw [e]; exact ih
/-- all inside, by houses and by people -/
theorem nS_add (f g : Nat → Int) : ∀ n : Nat, nS (fun i => f i + g i) n = nS f n + nS g n
  | 0 => rfl
  | n + 1 => by
    show nS (fun i => f i + g i) n + (f n + g n) = nS f n + f n + (nS g n + g n)
    rw [nS_add f g n]; omega
theorem nS_swap (f : Nat → Nat → Int) (m : Nat) : ∀ n : Nat, nS (fun i => nS (fun j => f i j) m) n = nS (fun j => nS (fun i => f i j) n) m
  | 0 => ((nS_zero (n := m) (fun _ _ => Int.le_refl 0)).mpr (fun _ _ => rfl)).symm
  | n + 1 => by
    show nS (fun i => nS (fun j => f i j) m) n + nS (fun j => f n j) m = _
    rw [nS_swap f m n, ← nS_add]
    rfl
theorem nS_hit (h : Int) : ∀ n : Nat, nS (fun i => if h = (i : Int) then (1 : Int) else 0) n = if 0 ≤ h ∧ h < (n : Int) then 1 else 0
  | 0 => by rw [if_neg (fun z => by have := z.1; have := z.2; omega)]; rfl
  | n + 1 => by
    show nS (fun i => if h = (i : Int) then (1 : Int) else 0) n + (if h = (n : Int) then (1 : Int) else 0) = _
    rw [nS_hit h n]
    by_cases c : h = (n : Int)
    · rw [if_neg (fun z => by have := z.2; omega), if_pos c, if_pos ⟨by omega, by omega⟩]; rfl
    · rw [if_neg c]
      by_cases c2 : 0 ≤ h ∧ h < (n : Int)
      · rw [if_pos c2, if_pos ⟨c2.1, by omega⟩]; rfl
      · rw [if_neg c2, if_neg (fun z => c2 ⟨z.1, by have := z.2; omega⟩)]; rfl
theorem inside_sum (hv : vTown B S) : nS (fHouse S) (S 0).toNat = nS (fInside S) 12 := by
  have hs := hv.1.1
  show nS (fun h => nS (fun p => if pO S (p : Int) 0 = (h : Int) then (1 : Int) else 0) 12) (S 0).toNat = _
  rw [nS_swap]
  refine nS_congr (fun p hp => ?_)
  have := (hv.2.2.2.1 p (by omega) (by omega)).1
  rw [nS_hit]
  unfold fInside
  by_cases c : pO S (p : Int) 0 < 0
  · rw [if_pos c, if_neg (fun z => by have := z.1; omega)]
  · rw [if_neg c, if_pos ⟨by omega, by omega⟩]
end Town1
