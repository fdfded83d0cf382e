/-! WHO NEEDS WHOM, on both sides. -/
/-- whom p needs of those in his own house -/
def nIn (S : Nat → Int) (p o : Int) : Prop := pO S o 0 = pO S p 0 ∧ o ≠ p ∧ ((hO S (pO S p 0) 0 = 0 ∧ pO S p 2 < pO S o 2) ∨ (hO S (pO S p 0) 0 = 1 ∧ pO S o 2 ≤ pO S p 2))
/-- whom p needs, if those of the mask g are gone -/
def nOf (S : Nat → Int) (g : Nat) (p o : Nat) : Prop := 0 ≤ pO S p 0 ∧ ¬ g.testBit p = true ∧ ((nIn S p o ∧ ¬ g.testBit o = true) ∨ ((o : Int) = pO S p 3 ∧ (pO S o 0 ≠ pO S p 0 ∨ g.testBit o = true)))
noncomputable def nQ (S : Nat → Int) (g p : Nat) (o : Nat) : Bool := @decide (nOf S g p o) (Classical.propDecidable _)
noncomputable def ndS (S : Nat → Int) (g p : Nat) : Nat := mskN (nQ S g p) 12
theorem ndS_bit {S : Nat → Int} {g p o : Nat} : (ndS S g p).testBit o = true ↔ o < 12 ∧ nOf S g p o := by
  unfold ndS
  rw [mskN_bit, Bool.and_eq_true, decide_eq_true_iff]
  unfold nQ
  rw [@decide_eq_true_iff _ (Classical.propDecidable _)]
theorem ndS_lt (S : Nat → Int) (g p : Nat) : ndS S g p < 4096 := mskN_lt (n := 12)
theorem ndS_of {S : Nat → Int} {g p m : Nat} (hm : m < 4096) (h : ∀ o : Nat, o < 12 → (m.testBit o = true ↔ nOf S g p o)) : m = ndS S g p :=
  suB.eq (fun i hi => ndS_bit.mpr ⟨bit_lt hm hi, (h i (bit_lt hm hi)).mp hi⟩) (fun i hi => (h i (ndS_bit.mp hi).1).mpr (ndS_bit.mp hi).2)
theorem ndS_0 {S : Nat → Int} {g p : Nat} (h : ∀ o : Nat, o < 12 → ¬ nOf S g p o) : ndS S g p = 0 :=
  (ndS_of (m := 0) (by decide) (fun o ho => by rw [Nat.zero_testBit]; exact ⟨fun z => absurd z (by decide), fun z => absurd z (h o ho)⟩)).symm
theorem or_bit {m : Nat} {x : Int} (hm : m < 4096) (x0 : 0 ≤ x) (x1 : x < 12) : iOr (m : Int) (iShl 1 x) = ((m ||| 2 ^ x.toNat : Nat) : Int) ∧ m ||| 2 ^ x.toNat < 4096 := by
  have hp := p12 (m := x.toNat) (by omega)
  have hl : 2 ^ x.toNat < 2 ^ 12 := Nat.pow_lt_pow_right (by decide) (by omega)
  refine ⟨?_, Nat.or_lt_two_pow (n := 12) hm hl⟩
  rw [z_bit x0 (by omega)]
  exact n_or (by omega) (by omega)
theorem or_no {m : Nat} (hm : m < 4096) : iOr (m : Int) 0 = (m : Int) := by
  rw [show (0 : Int) = ((0 : Nat) : Int) from rfl, n_or (by omega) (by decide), Nat.or_zero]
theorem or_tb {m k i : Nat} : (m ||| 2 ^ k).testBit i = true ↔ m.testBit i = true ∨ k = i := by
  rw [Nat.testBit_or, bit_pow, Bool.or_eq_true, decide_eq_true_iff]
section
variable {d : Nat} {P : Int → sM → sG → Prop} {PV : sM → sG → Prop} {M : sM} {G : sG} {B : Int} {S : Nat → Int}
def rwS (M : sM) (h : Int) (a j o : Nat) : Prop := ∃ i : Nat, a ≤ i ∧ i < j ∧ rW 14 M h (i : Int) = (o : Int)
theorem r138 {h : Int} (hv : vTown B S) (ht : TR 14 M S) (h0 : 0 ≤ h) (h1 : h < S 0) {a n : Nat} (ha : a ≤ n) (hn : (n : Int) ≤ inN S h) (kk : ∀ m : Nat, m < 4096 → (∀ o : Nat, m.testBit o = true ↔ rwS M h a n o) → P m M G) : sW (sC d) 138 (QI P) 72 [vO 10 14, vN, vI h, vN, vN, vN, vI (n : Int), vI 0, vI (a : Int)] [] M G 0 0 := by
  have hr := ht.2.2.2.2 h h0 h1
  have hs := hv.1.1
  have hin := inN_ge S h
  refine sUpFrom (W := fun j => ∀ m : Nat, m < 4096 → (∀ o : Nat, m.testBit o = true ↔ rwS M h a j o) → sW (sC d) 138 (QI P) 72 [vO 10 14, vN, vI h, vN, vN, vN, vI (n : Int), vI (m : Int), vI (j : Int)] [] M G 0 0) a n ha ?_ ?_ 0 (by decide) (fun o => ?_)
  · intro m m0 m1
    refine (s138_72 ⟨fun q1 => ?_, fun q2 => ⟨⟨by omega, by omega⟩, ⟨by omega, by omega⟩, ⟨(by first | omega | assumption | (refine ⟨?_, ?_⟩ <;> omega) | (simp_all; done)), (by first | omega | assumption | (refine ⟨?_, ?_⟩ <;> omega) | (simp_all; done))⟩, ⟨by omega, by omega⟩, ?_⟩⟩)
    · exact kk m m0 m1
    all_goals omega
  · intro j ja jn ih m m0 m1
    obtain ⟨w0, w1, -⟩ := hr.mem (i := (j : Int)) (by omega) (by omega)
    have e : M 19 ((h * 12) + (j : Int)).toNat = rW 14 M h (j : Int) := rfl
    obtain ⟨o1, o2⟩ := or_bit m0 w0 w1
    refine (s138_72 ⟨fun q1 => ?_, fun q2 => ⟨⟨by omega, by omega⟩, ⟨by omega, by omega⟩, ⟨(by first | omega | assumption | (refine ⟨?_, ?_⟩ <;> omega) | (simp_all; done)), (by first | omega | assumption | (refine ⟨?_, ?_⟩ <;> omega) | (simp_all; done))⟩, ⟨by omega, by omega⟩, ?_⟩⟩)
    · omega
    · rw [e, o1]
      refine ih _ o2 (fun o => ?_)
      rw [or_tb, m1 o]
      unfold rwS
      constructor
      · rintro (⟨i, i0, i1, i2⟩ | z)
        · exact ⟨i, i0, by omega, i2⟩
        · exact ⟨j, ja, by omega, by omega⟩
      · rintro ⟨i, i0, i1, i2⟩
        by_cases c : i = j
        · subst c; right; omega
        · exact Or.inl ⟨i, i0, by omega, i2⟩
  · rw [Nat.zero_testBit]
    exact ⟨fun z => absurd z (by decide), fun ⟨i, i0, i1, _⟩ => absurd i1 (by omega)⟩
theorem c138 {p : Int} (hd : 10 ≤ d) (hv : vTown B S) (ht : TR 14 M S) (h0 : 0 ≤ p) (h1 : p < 12) (hp : 0 ≤ pO S p 0) (kk : ∀ m : Nat, m < 4096 → (∀ o : Nat, o < 12 → (m.testBit o = true ↔ nIn S p o)) → P m M G) : sC d 138 [vO 10 14, vI p, vI (pO S p 0)] M G (QI P) := by
  obtain ⟨d, rfl⟩ := sD 3 (d := d) (by omega)
  have hpv := (hv.2.2.2.1 p h0 h1).1
  have hs := hv.1.1
  have hr := ht.2.2.2.2 _ hp hpv.2
  obtain ⟨e0, -, -, e4⟩ := ht.2.1 _ hp hpv.2
  have ho := (hv.2.1 _ hp hpv.2).1
  have hn := inN_ge S (pO S p 0)
  have e0' : M 15 (pO S p 0).toNat = hO S (pO S p 0) 0 := e0
  have e4' : M 18 (pO S p 0).toNat = inN S (pO S p 0) := e4
  refine e138 (s138_0 ⟨⟨(by first | omega | assumption | (refine ⟨?_, ?_⟩ <;> omega) | (simp_all; done)), (by first | omega | assumption | (refine ⟨?_, ?_⟩ <;> omega) | (simp_all; done))⟩, fun q1 => ?_, fun q4 => ?_⟩)
  · refine c75 (by omega) hv ht h0 h1 (fun _ i i0 i1 e => ?_) (fun z => by omega)
    refine ⟨fun q2 => ?_, fun q3 => ⟨⟨by omega, by omega⟩, ?_⟩⟩
    · have key := r138 (d := d + 2) (P := P) (G := G) hv ht hp hpv.2 (a := 0) (n := i.toNat) (by omega) (by omega) (fun m m0 m1 => kk m m0 (fun o ho => ?_))
      · rw [← z_nat i0] at key
        exact key
      · rw [m1 o]
        constructor
        · rintro ⟨k, k0, k1, k2⟩
          obtain ⟨w0, w1, w2⟩ := hr.mem (i := (k : Int)) (by omega) (by omega)
          have lt := (hr.lt (i := (k : Int)) (j := i) (by omega) (by omega) i0 i1).mpr (by omega)
          rw [k2] at w2 lt
          rw [e] at lt
          exact ⟨w2, fun z => by rw [z] at lt; omega, Or.inr ⟨by omega, by omega⟩⟩
        · rintro ⟨k1, k2, k3⟩
          obtain ⟨k, a0, a1, a2⟩ := hr.ex (p := (o : Int)) (by omega) (by omega) k1
          have lt := hr.lt a0 a1 i0 i1
          rw [a2, e] at lt
          have ne : k ≠ i := fun z => by rw [z, e] at a2; omega
          have lt2 := hr.lt i0 i1 a0 a1
          rw [a2, e] at lt2
          refine ⟨k.toNat, by omega, ?_, by rw [← z_nat a0]; exact a2⟩
          rcases k3 with ⟨z, _⟩ | ⟨_, z⟩
          · omega
          · by_cases c : k < i
            · omega
            · have := lt2.mpr (by omega); omega
    · have key := r138 (d := d + 2) (P := P) (G := G) hv ht hp hpv.2 (a := (i + 1).toNat) (n := (inN S (pO S p 0)).toNat) (by omega) (by omega) (fun m m0 m1 => kk m m0 (fun o ho => ?_))
      · rw [← z_nat (by omega : 0 ≤ i + 1), ← z_nat hn.1] at key
        rw [e4']
        exact key
      · rw [m1 o]
        constructor
        · rintro ⟨k, k0, k1, k2⟩
          obtain ⟨w0, w1, w2⟩ := hr.mem (i := (k : Int)) (by omega) (by omega)
          have lt := (hr.lt (i := i) (j := (k : Int)) i0 i1 (by omega) (by omega)).mpr (by omega)
          rw [k2] at w2 lt
          rw [e] at lt
          exact ⟨w2, fun z => by rw [z] at lt; omega, Or.inl ⟨by omega, lt⟩⟩
        · rintro ⟨k1, k2, k3⟩
          obtain ⟨k, a0, a1, a2⟩ := hr.ex (p := (o : Int)) (by omega) (by omega) k1
          have lt := hr.lt i0 i1 a0 a1
          rw [a2, e] at lt
          refine ⟨k.toNat, ?_, by omega, by rw [← z_nat a0]; exact a2⟩
          rcases k3 with ⟨_, z⟩ | ⟨z, _⟩
          · have := lt.mp z; omega
          · omega
    all_goals omega
  · refine kk 0 (by decide) (fun o ho => ?_)
    rw [Nat.zero_testBit]
    refine ⟨fun z => absurd z (by decide), fun ⟨_, _, z⟩ => ?_⟩
    rcases z with ⟨z, _⟩ | ⟨z, _⟩ <;> omega
  all_goals omega
end
