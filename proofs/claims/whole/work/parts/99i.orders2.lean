/-! The class's orders. -/
theorem row_v {S : Nat → Int} {k : Nat} (hv : vTold S) (h : (k : Int) < S 6) : 0 ≤ wR S k ∧ wR S k < 12 := hv.2.2.2.2.2.2.1 (k : Int) (by omega) h
theorem row_inj {S : Nat → Int} {j k : Nat} (hv : vTold S) (hj : (j : Int) < S 6) (hk : (k : Int) < S 6) (e : wR S j = wR S k) : j = k := by
  have := hv.2.2.2.2.2.2.2.1
  rcases Nat.lt_trichotomy j k with z | z | z
  · exact absurd e (this (j : Int) (k : Int) (by omega) (by omega) hk)
  · exact z
  · exact absurd e.symm (this (k : Int) (j : Int) (by omega) (by omega) hj)
theorem ins8 : ∀ m, m < 256 → ∀ p, p < 8 → (m &&& (m + 1)).testBit p = (m.testBit p && (List.range p).any (fun g => !m.testBit g)) := by decide +kernel
theorem low8 : ∀ m, m < 256 → m = 0 ∨ (List.range 8).any (fun t => m.testBit t && ((List.range t).all (fun q => !m.testBit q)) && (m &&& (m ^^^ (m - 1)) == 2 ^ t)) = true := by decide +kernel
theorem bit_lt8 {X i : Nat} (hX : X < 256) (h : X.testBit i = true) : i < 8 := by
  rcases Nat.lt_or_ge i 8 with c | c
  · exact c
  · rw [Nat.testBit_lt_two_pow (Nat.lt_of_lt_of_le (show X < 2 ^ 8 from hX) (Nat.pow_le_pow_right (by decide) c))] at h
    exact absurd h (by decide)
theorem ins_b {m p : Nat} (hm : m < 256) : (m &&& (m + 1)).testBit p = true ↔ m.testBit p = true ∧ ∃ g, g < p ∧ ¬ m.testBit g = true := by
  constructor
  · intro h
    have hp : m.testBit p = true := by rw [Nat.testBit_and, Bool.and_eq_true] at h; exact h.1
    rw [ins8 m hm p (bit_lt8 hm hp), Bool.and_eq_true, List.any_eq_true] at h
    obtain ⟨g, g1, g2⟩ := h.2
    refine ⟨hp, g, List.mem_range.mp g1, fun z => ?_⟩
    rw [z] at g2
    exact absurd g2 (by decide)
  · rintro ⟨hp, g, g1, g2⟩
    rw [ins8 m hm p (bit_lt8 hm hp), hp, Bool.true_and, List.any_eq_true]
    refine ⟨g, List.mem_range.mpr g1, ?_⟩
    cases c : m.testBit g
    · rfl
    · exact absurd c g2
theorem low_b {m : Nat} (hm : m < 256) (h0 : m ≠ 0) : ∃ t, t < 8 ∧ m.testBit t = true ∧ (∀ q, q < t → ¬ m.testBit q = true) ∧ iAnd (m : Int) (-(m : Int)) = ((2 ^ t : Nat) : Int) := by
  have h := (low8 m hm).resolve_left h0
  rw [List.any_eq_true] at h
  obtain ⟨t, t1, t2⟩ := h
  rw [Bool.and_eq_true, Bool.and_eq_true, List.all_eq_true, beq_iff_eq] at t2
  refine ⟨t, List.mem_range.mp t1, t2.1.1, fun q hq z => ?_, by rw [low12 m (by omega), t2.2]⟩
  have := t2.1.2 q (List.mem_range.mpr hq)
  rw [z] at this
  exact absurd this (by decide)
theorem stk_is {come q : Nat} (hc : come < 256) (hq : q < 8) : stkQ come q ↔ (come &&& (come + 1) = 0 ∨ ((2 ^ q : Nat) : Int) < iAnd ((come &&& (come + 1) : Nat) : Int) (-((come &&& (come + 1) : Nat) : Int))) := by
  have hl : come &&& (come + 1) ≤ come := Nat.and_le_left
  constructor
  · intro h
    by_cases z : come &&& (come + 1) = 0
    · exact Or.inl z
    · right
      obtain ⟨t, t0, t1, t2, t3⟩ := low_b (show come &&& (come + 1) < 256 by omega) z
      rw [t3]
      obtain ⟨a, g, g1, g2⟩ := (ins_b hc).mp t1
      have := Nat.pow_lt_pow_right (a := 2) (by decide) (h t g a g1 g2)
      omega
  · intro h p g hp hg hn
    have hb := (ins_b hc).mpr ⟨hp, g, hg, hn⟩
    have hz : come &&& (come + 1) ≠ 0 := fun z => by rw [z] at hb; exact tb0 hb
    obtain ⟨t, t0, t1, t2, t3⟩ := low_b (show come &&& (come + 1) < 256 by omega) hz
    have h2 := h.resolve_left hz
    rw [t3] at h2
    have tp : t ≤ p := by
      rcases Nat.lt_or_ge p t with c | c
      · exact absurd hb (t2 p c)
      · exact c
    rcases Nat.lt_or_ge q t with c | c
    · omega
    · have := Nat.pow_le_pow_right (n := 2) (by decide) c
      omega
section
variable {d : Nat} {P : Int → sM → sG → Prop} {PV : sM → sG → Prop} {M : sM} {G : sG} {S : Nat → Int}
theorem toR {M : sM} {S : Nat → Int} {k : Nat} (ht : TO 29 M S) (h : (k : Int) < S 6) : M 36 k = wR S k := ht.2.2.2.1 (k : Int) (by omega) h
theorem c147 {x : Int} (hd : 5 ≤ d) (hv : vTold S) (ht : TO 29 M S) (k1 : ∀ p : Nat, (p : Int) < S 6 → wR S p = x → P (p : Int) M G) (k0 : (∀ p : Nat, (p : Int) < S 6 → wR S p ≠ x) → P (-1) M G) : sC d 147 [vO 9 29, vI x] M G (QI P) := by
  obtain ⟨d, rfl⟩ := sD 2 (d := d) (by omega)
  have h6 := hv.2.1
  have e7 : M 29 7 = S 6 := ht.1.2.1
  refine e147 (s147_0 ?_)
  refine sUpTo (W := fun i => (∀ p : Nat, p < i → wR S p ≠ x) → sW (sC (d + 1)) 147 (QI P) 2 [vO 9 29, vI x, vI (i : Int)] [] M G 0 0) (S 6).toNat ?_ ?_ (fun p hp => absurd hp (Nat.not_lt_zero p))
  · intro h
    refine (s147_2 ⟨fun q1 => ?_, fun q2 => ⟨⟨(by first | omega | assumption | (refine ⟨?_, ?_⟩ <;> omega) | (simp_all; done)), (by first | omega | assumption | (refine ⟨?_, ?_⟩ <;> omega) | (simp_all; done))⟩, fun q3 => ⟨⟨by omega, by omega⟩, ?_⟩, fun q4 => ?_⟩⟩)
    · exact k0 (fun p hp => h p (by omega))
    all_goals omega
  · intro i hi ih h
    have e : M 36 ((i : Int)).toNat = wR S i := toR ht (by omega)
    refine (s147_2 ⟨fun q1 => ?_, fun q2 => ⟨⟨(by first | omega | assumption | (refine ⟨?_, ?_⟩ <;> omega) | (simp_all; done)), (by first | omega | assumption | (refine ⟨?_, ?_⟩ <;> omega) | (simp_all; done))⟩, fun q3 => ⟨⟨by omega, by omega⟩, ?_⟩, fun q4 => ?_⟩⟩)
    · omega
    · rw [e] at q3
      exact ih (fun p hp => by
        by_cases c : p = i
        · rw [c]; exact q3
        · exact h p (by omega))
    · rw [e] at q4
      exact k1 i (by omega) q4
    all_goals omega
/-- what the class's guesses hold -/
def ahR (S : Nat → Int) (M : sM) : Prop := M 78 3 = S 6 ∧ ∀ q : Nat, q < 8 → ∃ m : Nat, m < 256 ∧ M 79 q = (m : Int) ∧ ∀ p, m.testBit p = true ↔ ahd S q p
theorem c151 {come q : Nat} (hd : 5 ≤ d) (hq : q < 8) (hc : come < 256) (ha : ahR S M) (k1 : mayB S come q = true → P 1 M G) (k0 : ¬ mayB S come q = true → P 0 M G) : sC d 151 [vO 2 78, vI (come : Int), vI (q : Int)] M G (QI P) := by
  obtain ⟨d, rfl⟩ := sD 2 (d := d) (by omega)
  obtain ⟨m, m0, m1, m2⟩ := ha.2 q hq
  have m1' : M 79 ((q : Int)).toNat = (m : Int) := m1
  have pq := p12 (m := q) (by omega)
  have esh : iShl 1 (q : Int) = ((2 ^ q : Nat) : Int) := z_bit (by omega) (by omega)
  have e1 : iAnd (come : Int) (iShl 1 (q : Int)) = ((come &&& 2 ^ q : Nat) : Int) := by rw [esh]; exact n_and (by omega)
  have e2 : iAnd (come : Int) ((come : Int) + 1) = ((come &&& (come + 1) : Nat) : Int) := by
    rw [show (come : Int) + 1 = ((come + 1 : Nat) : Int) by omega]
    exact n_and (by omega)
  have hl : come &&& (come + 1) ≤ come := Nat.and_le_left
  have e3 : iAnd (M 79 ((q : Int)).toNat) (iXor (come : Int) (-1)) = ((m &&& (m ^^^ come) : Nat) : Int) := by rw [m1']; exact n_dif (by omega)
  have t1 : come &&& 2 ^ q ≠ 0 ↔ come.testBit q = true := by
    rw [and_nz]
    constructor
    · rintro ⟨i, i1, i2⟩
      rw [bit_pow, decide_eq_true_iff] at i2
      rw [i2]; exact i1
    · intro h
      exact ⟨q, h, by rw [bit_pow]; exact decide_eq_true rfl⟩
  have t2 := stk_is hc hq
  have t3 : m &&& (m ^^^ come) = 0 ↔ ∀ p, ahd S q p → come.testBit p = true := by
    rw [dif_0]
    exact ⟨fun h p hp => h p ((m2 p).mpr hp), fun h p hp => h p ((m2 p).mp hp)⟩
  have key : mayB S come q = true ↔ ¬ come.testBit q = true ∧ stkQ come q ∧ ∀ p, ahd S q p → come.testBit p = true := mayB_i
  have lowz : come &&& (come + 1) = 0 ↔ iAnd ((come &&& (come + 1) : Nat) : Int) (-((come &&& (come + 1) : Nat) : Int)) = 0 := by
    constructor
    · intro h; rw [h]; decide
    · intro h
      refine Classical.byContradiction fun z => ?_
      obtain ⟨t, t0, tt1, tt2, tt3⟩ := low_b (show come &&& (come + 1) < 256 by omega) z
      have := Nat.two_pow_pos t
      omega
  rw [← e2] at t2 lowz
  refine e151 (s151_0 ⟨⟨by omega, by omega⟩, ⟨by omega, by omega⟩, fun q1 => ?_, fun q2 => ⟨fun q3 => ⟨⟨(by first | omega | assumption | (refine ⟨?_, ?_⟩ <;> omega) | (simp_all; done)), (by first | omega | assumption | (refine ⟨?_, ?_⟩ <;> omega) | (simp_all; done))⟩, fun q4 => ?_, fun q5 => ?_⟩, fun q6 => ⟨fun q7 => ?_, fun q8 => ⟨⟨(by first | omega | assumption | (refine ⟨?_, ?_⟩ <;> omega) | (simp_all; done)), (by first | omega | assumption | (refine ⟨?_, ?_⟩ <;> omega) | (simp_all; done))⟩, fun q9 => ?_, fun q10 => ?_⟩⟩⟩⟩)
  · rw [e1] at q1
    exact k0 (fun z => (key.mp z).1 (t1.mp (by omega)))
  · rw [e3] at q4
    exact k0 (fun z => by have := t3.mpr (key.mp z).2.2; omega)
  · rw [e1] at q2
    rw [e3] at q5
    exact k1 (key.mpr ⟨fun z => by have := t1.mpr z; omega, t2.mpr (Or.inl (lowz.mpr q3)), t3.mp (by omega)⟩)
  · rw [esh] at q7
    refine k0 (fun z => ?_)
    rcases t2.mp (key.mp z).2.1 with y | y
    · exact q6 (lowz.mp y)
    · omega
  · rw [e3] at q9
    exact k0 (fun z => by have := t3.mpr (key.mp z).2.2; omega)
  · rw [e1] at q2
    rw [e3] at q10
    rw [esh] at q8
    exact k1 (key.mpr ⟨fun z => by have := t1.mpr z; omega, t2.mpr (Or.inr q8), t3.mp (by omega)⟩)
  all_goals omega
end
