/-! STEPS: cross; what sets numbers told beside the street; the tape's end. -/
def crB (S : Nat → Int) (a b law : Int) : Prop := tO S a 2 < tO S b 2 ∧ ((law = 0 ∧ tO S b 2 < tO S a 3 ∧ tO S a 3 < tO S b 3) ∨ (law = 1 ∧ tO S b 3 < tO S a 3))
def crS (S : Nat → Int) (a b law : Int) : Prop := crB S a b law ∨ crB S b a law
theorem crS.sym {S : Nat → Int} {a b law : Int} (h : crS S a b law) : crS S b a law := h.symm
section Cross
variable {d : Nat} {P : Int → sM → sG → Prop} {M : sM} {G : sG} {S : Nat → Int}
theorem c100 {x1 x2 x3 : Int} (hd : 5 ≤ d) (hs : S 1 ≤ 18) (ht : TR 14 M S) (a0 : 0 ≤ x1) (a1 : x1 < S 1) (b0 : 0 ≤ x2) (b1 : x2 < S 1) (k1 : crB S x1 x2 x3 → P 1 M G) (k0 : ¬ crB S x1 x2 x3 → P 0 M G) : sC d 100 [vO 10 14, vI x1, vI x2, vI x3] M G (QI P) := by
  obtain ⟨d, rfl⟩ := sD 2 (d := d) (by omega)
  obtain ⟨_, _, f1, g1, _⟩ := ht.2.2.1 x1 a0 a1
  obtain ⟨_, _, f2, g2, _⟩ := ht.2.2.1 x2 b0 b1
  have f1' : M 22 x1.toNat = tO S x1 2 := f1
  have g1' : M 23 x1.toNat = tO S x1 3 := g1
  have f2' : M 22 x2.toNat = tO S x2 2 := f2
  have g2' : M 23 x2.toNat = tO S x2 3 := g2
  unfold crB at k1 k0
  refine e100 (s100_0 ⟨⟨(by first | omega | assumption | (refine ⟨?_, ?_⟩ <;> omega) | (simp_all; done)), (by first | omega | assumption | (refine ⟨?_, ?_⟩ <;> omega) | (simp_all; done))⟩, ⟨(by first | omega | assumption | (refine ⟨?_, ?_⟩ <;> omega) | (simp_all; done)), (by first | omega | assumption | (refine ⟨?_, ?_⟩ <;> omega) | (simp_all; done))⟩, fun q1 => ⟨fun q2 => ⟨fun q3 => ?_, fun q4 => ⟨fun q5 => ?_, fun q6 => ?_⟩⟩, fun q7 => ⟨fun q8 => ?_, fun q9 => ⟨fun q10 => ?_, fun q11 => ?_⟩⟩⟩, fun q12 => ?_⟩)
  · exact k0 (by omega)
  · exact k0 (by omega)
  · exact k1 (by omega)
  · exact k0 (by omega)
  · exact k0 (by omega)
  · exact k1 (by omega)
  · exact k0 (by omega)
theorem c99 {x1 x2 x3 : Int} (hd : 10 ≤ d) (hs : S 1 ≤ 18) (ht : TR 14 M S) (a0 : 0 ≤ x1) (a1 : x1 < S 1) (b0 : 0 ≤ x2) (b1 : x2 < S 1) (k1 : crS S x1 x2 x3 → P 1 M G) (k0 : ¬ crS S x1 x2 x3 → P 0 M G) : sC d 99 [vO 10 14, vI x1, vI x2, vI x3] M G (QI P) := by
  obtain ⟨d, rfl⟩ := sD 2 (d := d) (by omega)
  refine e99 (s99_0 (c100 (by omega) hs ht a0 a1 b0 b1 (fun z => ⟨fun _ => k1 (Or.inl z), fun y => by omega⟩) (fun z => ⟨fun y => by omega, fun _ => ?_⟩)))
  exact c100 (by omega) hs ht b0 b1 a0 a1 (fun y => ⟨fun w => by omega, fun _ => k1 (Or.inr y)⟩) (fun y => ⟨fun _ => k0 (fun w => w.elim z y), fun w => by omega⟩)
/-- the reference's own test, on numbers -/
theorem c239 {a ae b be law : Int} (hd : 5 ≤ d) (hl : 0 ≤ law ∧ law ≤ 2) (k1 : (a < b ∧ ((law = 0 ∧ b < ae ∧ ae < be) ∨ (law = 1 ∧ be < ae))) ∨ (b < a ∧ ((law = 0 ∧ a < be ∧ be < ae) ∨ (law = 1 ∧ ae < be))) → P 1 M G) (k0 : ¬ ((a < b ∧ ((law = 0 ∧ b < ae ∧ ae < be) ∨ (law = 1 ∧ be < ae))) ∨ (b < a ∧ ((law = 0 ∧ a < be ∧ be < ae) ∨ (law = 1 ∧ ae < be)))) → P 0 M G) : sC d 239 [vI a, vI ae, vI b, vI be, vI law] M G (QI P) := by
  obtain ⟨d, rfl⟩ := sD 2 (d := d) (by omega)
  refine e239 (s239_0 ⟨fun q1 => ?_, fun q2 => ⟨fun q3 => ⟨fun q4 => ⟨fun q5 => ⟨fun q6 => ?_, fun q7 => ?_⟩, fun q8 => ⟨fun q9 => ?_, fun q10 => ⟨fun q11 => ?_, fun q12 => ?_⟩⟩⟩, fun q13 => ⟨fun q14 => ⟨fun q15 => ?_, fun q16 => ?_⟩, fun q17 => ⟨fun q18 => ?_, fun q19 => ⟨fun q20 => ?_, fun q21 => ?_⟩⟩⟩⟩, fun q22 => ?_⟩⟩)
  · exact k0 (by omega)
  · exact k0 (by omega)
  · exact k1 (by omega)
  · exact k0 (by omega)
  · exact k0 (by omega)
  · exact k1 (by omega)
  · exact k0 (by omega)
  · exact k1 (by omega)
  · exact k0 (by omega)
  · exact k0 (by omega)
  · exact k1 (by omega)
  · exact k0 (by omega)
theorem c238 {x1 x2 x3 : Int} (hd : 10 ≤ d) (a0 : 0 ≤ x1) (a1 : x1 < 18) (b0 : 0 ≤ x2) (b1 : x2 < 18) (hl : 0 ≤ x3 ∧ x3 ≤ 2) (k1 : crS (M 93) x1 x2 x3 → P 1 M G) (k0 : ¬ crS (M 93) x1 x2 x3 → P 0 M G) : sC d 238 [vO 12 82, vI x1, vI x2, vI x3] M G (QI P) := by
  obtain ⟨d, rfl⟩ := sD 2 (d := d) (by omega)
  refine e238 (s238_0 ⟨⟨by omega, by omega⟩, ⟨by omega, by omega⟩, ⟨by omega, by omega⟩, ⟨(by first | omega | assumption | (refine ⟨?_, ?_⟩ <;> omega) | (simp_all; done)), (by first | omega | assumption | (refine ⟨?_, ?_⟩ <;> omega) | (simp_all; done))⟩, ⟨by omega, by omega⟩, ⟨(by first | omega | assumption | (refine ⟨?_, ?_⟩ <;> omega) | (simp_all; done)), (by first | omega | assumption | (refine ⟨?_, ?_⟩ <;> omega) | (simp_all; done))⟩, ⟨by omega, by omega⟩, ⟨by omega, by omega⟩, ⟨by omega, by omega⟩, ⟨(by first | omega | assumption | (refine ⟨?_, ?_⟩ <;> omega) | (simp_all; done)), (by first | omega | assumption | (refine ⟨?_, ?_⟩ <;> omega) | (simp_all; done))⟩, ⟨by omega, by omega⟩, ⟨(by first | omega | assumption | (refine ⟨?_, ?_⟩ <;> omega) | (simp_all; done)), (by first | omega | assumption | (refine ⟨?_, ?_⟩ <;> omega) | (simp_all; done))⟩, ?_⟩)
  refine c239 (by omega) hl (fun z => ⟨Or.inr rfl, k1 z⟩) (fun z => ⟨Or.inl rfl, k0 z⟩)
end Cross
theorem L97 (t x1 x2 x3 : Int) : Step t 97 237 [vI x1, vI x2, vI x3] := by
  intro d M G hd hI
  have hI1 := hI.same (kp.refl [] M)
  obtain ⟨hv, hlt, ht, hvo, hto, t0⟩ := hI.t
  have hs1 := hv.1.2.1
  have b6 := ht.1.2.1
  have ref : ∀ r : Int, (¬ (0 ≤ x1 ∧ x1 < M 93 1 ∧ 0 ≤ x2 ∧ x2 < M 93 1 ∧ x1 ≠ x2 ∧ 0 ≤ x3 ∧ x3 ≤ 2) → r = -1) → (0 ≤ x1 ∧ x1 < M 93 1 ∧ 0 ≤ x2 ∧ x2 < M 93 1 ∧ x1 ≠ x2 ∧ 0 ≤ x3 ∧ x3 ≤ 2 → (crS (M 93) x1 x2 x3 → r = 1) ∧ (¬ crS (M 93) x1 x2 x3 → r = 0)) → sC d 237 [vO 12 82, vI x1, vI x2, vI x3] M G (QI (LPost t r)) := fun r r1 r2 => by
    obtain ⟨d, rfl⟩ := sD 7 (d := d) (by omega)
    refine e237 (s237_0 ⟨fun q1 => ?_, fun q2 => ⟨fun q3 => ?_, fun q4 => ⟨fun q5 => ?_, fun q6 => ⟨fun q7 => ?_, fun q8 => ⟨fun q9 => ?_, fun q10 => ⟨fun q11 => ?_, fun q12 => ⟨fun q13 => ?_, fun q14 => ?_⟩⟩⟩⟩⟩⟩⟩)
    · exact ⟨(r1 (by omega)).symm, hI1⟩
    · exact ⟨(r1 (by omega)).symm, hI1⟩
    · exact ⟨(r1 (by omega)).symm, hI1⟩
    · exact ⟨(r1 (by omega)).symm, hI1⟩
    · exact ⟨(r1 (by omega)).symm, hI1⟩
    · exact ⟨(r1 (by omega)).symm, hI1⟩
    · exact ⟨(r1 (by omega)).symm, hI1⟩
    · refine c238 (by omega) q2 (by omega) q6 (by omega) ⟨q12, q14⟩ (fun z => ⟨fun y => by omega, fun _ => ⟨?_, hI1⟩⟩) (fun z => ⟨fun _ => ⟨?_, hI1⟩, fun y => by omega⟩)
      · exact ((r2 (by omega)).1 z).symm
      · exact ((r2 (by omega)).2 z).symm
  obtain ⟨d, rfl⟩ := sD 7 (d := d) (by omega)
  refine e97 (s97_0 ⟨fun q1 => ?_, fun q2 => ⟨fun q3 => ?_, fun q4 => ⟨fun q5 => ?_, fun q6 => ⟨fun q7 => ?_, fun q8 => ⟨fun q9 => ?_, fun q10 => ⟨fun q11 => ?_, fun q12 => ⟨fun q13 => ?_, fun q14 => ?_⟩⟩⟩⟩⟩⟩⟩)
  · exact ref _ (fun _ => rfl) (fun z => by omega)
  · exact ref _ (fun _ => rfl) (fun z => by omega)
  · exact ref _ (fun _ => rfl) (fun z => by omega)
  · exact ref _ (fun _ => rfl) (fun z => by omega)
  · exact ref _ (fun _ => rfl) (fun z => by omega)
  · exact ref _ (fun _ => rfl) (fun z => by omega)
  · exact ref _ (fun _ => rfl) (fun z => by omega)
  · refine c99 (S := M 93) (by omega) hs1.2 ht q2 (by omega) q6 (by omega) (fun z => ⟨fun y => by omega, fun _ => ?_⟩) (fun z => ⟨fun _ => ?_, fun y => by omega⟩)
    · exact ref _ (fun y => absurd (by omega) y) (fun _ => ⟨fun _ => rfl, fun y => absurd z y⟩)
    · exact ref _ (fun y => absurd (by omega) y) (fun _ => ⟨fun y => absurd y z, fun _ => rfl⟩)
/-- a call that sets numbers told beside the street -/
theorem Inv.toldK {t : Int} {M M1 : sM} {S' : Nat → Int} {G : sG} (hI : Inv t M G) (h1 : ∀ a, ¬ (29 ≤ a ∧ a ≤ 40) → M1 a = M a) (he : eqTown (M 93) S') (h4 : ∀ p : Int, 0 ≤ p → p < 12 → 0 ≤ pO S' p 4 ∧ pO S' p 4 ≤ 99) (hv : vTold S') (ht : TO 29 M1 S') : Inv (t + 1) (setS M1 S') G := by
  have e : ∀ a, ¬ (29 ≤ a ∧ a ≤ 40) → a ≠ 93 → setS M1 S' a = M a := fun a x1 x2 => (setS_ne x2).trans (h1 a x1)
  refine hI.told (fun a x1 x2 _ => e a x1 x2) (by rw [e 1 (by omega) (by omega)]) (by rw [e 3 (by omega) (by omega)]) ⟨by rw [e 82 (by omega) (by omega)], by rw [e 82 (by omega) (by omega)]⟩ (by rw [setS_93]; exact he) (by rw [setS_93]; exact h4) (by rw [setS_93]; exact hv) (by rw [setS_93]; exact ht.congr (fun a _ _ => setS_ne (by omega)))
theorem eqTown.refl (S : Nat → Int) : eqTown S S := ⟨fun _ _ => rfl, fun _ _ _ _ _ _ => rfl⟩
theorem eqTown.up {S S' : Nat → Int} (h : eqTown S S') {k : Nat} {x : Int} (hk : (5 ≤ k ∧ k < 10) ∨ 196 ≤ k ∨ (136 ≤ k ∧ k < 196 ∧ (k - 136) % 5 = 4)) : eqTown S (uS S' k x) := ⟨fun j hj => (uS_ne (by omega)).trans (h.1 j hj), fun p w p0 p1 w0 w1 => (show pO (uS S' k x) p w = pO S' p w from uS_ne (by omega)).trans (h.2 p w p0 p1 w0 w1)⟩
theorem pO4_up {S : Nat → Int} {k : Nat} {x p : Int} (hk : k < 136 ∨ 196 ≤ k) (p0 : 0 ≤ p) (p1 : p < 12) : pO (uS S k x) p 4 = pO S p 4 := uS_ne (by omega)
theorem L96 (t x1 : Int) (hx : sI x1) : Step t 96 274 [vI x1] := by
  intro d M G hd hI
  have hI1 := hI.same (kp.refl [] M)
  obtain ⟨hv, hlt, ht, hvo, hto, t0⟩ := hI.t
  obtain ⟨d, rfl⟩ := sD 7 (d := d) (by omega)
  have o15 := hto.1.2.2.2.2
  refine e96 (s96_0 ⟨fun q1 => ?_, fun q2 => ?_⟩)
  · have e9 : sUpd M 29 15 x1 93 9 = M 93 9 := by rw [sUpd_ne (by decide)]
    refine e274 (s274_0 ⟨fun q1 => ?_, fun q2 => ?_⟩)
    · rw [upd_setS, sUpd_ne (b := 93) (by decide)]
      obtain ⟨a5, a6, a7, a8, a9, h1, h2, h3, h4, h5⟩ := hvo
      obtain ⟨l, g1, g2, g3, g4, g5⟩ := hto
      have e : ∀ j : Nat, j ≠ 9 → uS (M 93) 9 x1 j = M 93 j := fun j hj => uS_ne hj
      refine ⟨by rw [o15], hI.toldK (fun a h => sUpd_ne (by omega)) ((eqTown.refl _).up (by omega)) (fun p p0 p1 => by rw [pO4_up (by omega) p0 p1]; exact (hv.2.2.2.1 p p0 p1).2.2.2.2.2) ?_ ?_⟩
      · refine ⟨a5, a6, a7, a8, ⟨q1, hx.2⟩, fun w w0 w1 => ?_, fun k k0 k1 => ?_, fun j k j0 jk k1 => ?_, fun f f0 f1 => ?_, fun g g0 g1 => ?_⟩
        · rw [e _ (by omega), e ((196 + (5 * w)) + 1).toNat (by omega), e ((196 + (5 * w)) + 2).toNat (by omega), e ((196 + (5 * w)) + 3).toNat (by omega), e ((196 + (5 * w)) + 4).toNat (by omega)]; exact h1 w w0 w1
        · rw [e _ (by omega)]; exact h2 k k0 k1
        · rw [e (226 + j).toNat (by omega), e (226 + k).toNat (by omega)]; exact h3 j k j0 jk k1
        · rw [e (234 + (2 * f)).toNat (by omega), e ((234 + (2 * f)) + 1).toNat (by omega)]; exact h4 f f0 f1
        · rw [e (250 + (2 * g)).toNat (by omega), e ((250 + (2 * g)) + 1).toNat (by omega)]; exact h5 g g0 g1
      · refine ⟨⟨?_, ?_, ?_, ?_, ?_⟩, fun p p0 p1 => ?_, fun w w0 w1 => ?_, fun k k0 k1 => ?_, fun f f0 f1 => ?_, fun g g0 g1 => ?_⟩
        · rw [sUpd_ni (by decide)]; exact l.1
        · rw [sUpd_ni (by decide)]; exact l.2.1
        · rw [sUpd_ni (by decide)]; exact l.2.2.1
        · rw [sUpd_ni (by decide)]; exact l.2.2.2.1
        · rw [sUpd_eq, uS_eq rfl]
        · rw [sUpd_ne (by decide), pO4_up (by omega) p0 p1]; exact g1 p p0 p1
        · rw [sUpd_ne (by decide), sUpd_ne (by decide), sUpd_ne (by decide), sUpd_ne (by decide), sUpd_ne (by decide), e _ (by omega), e ((196 + (5 * w)) + 1).toNat (by omega), e ((196 + (5 * w)) + 2).toNat (by omega), e ((196 + (5 * w)) + 3).toNat (by omega), e ((196 + (5 * w)) + 4).toNat (by omega)]; exact g2 w w0 w1
        · rw [sUpd_ne (by decide), e _ (by omega)]; exact g3 k k0 k1
        · rw [sUpd_ne (by decide), sUpd_ne (by decide), e (234 + (2 * f)).toNat (by omega), e ((234 + (2 * f)) + 1).toNat (by omega)]; exact g4 f f0 f1
        · rw [sUpd_ne (by decide), sUpd_ne (by decide), e (250 + (2 * g)).toNat (by omega), e ((250 + (2 * g)) + 1).toNat (by omega)]; exact g5 g g0 g1
    · omega
  · refine e274 (s274_0 ⟨fun q1 => ?_, fun q2 => ?_⟩)
    · omega
    · exact ⟨rfl, hI1⟩
