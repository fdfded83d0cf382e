/-! THE SHORTEST RING, AND WHO IS IN ONE. -/
noncomputable def rl (nd : Nat → Nat) (p : Nat) : Int := @dite _ (∃ r, isL nd p r) (Classical.propDecidable _) (fun h => Classical.choose h) (fun _ => 0)
theorem rl_of {nd : Nat → Nat} {p : Nat} {r : Int} (h : isL nd p r) : rl nd p = r := by
  have hex : ∃ r, isL nd p r := ⟨r, h⟩
  unfold rl
  rw [dif_pos hex]
  exact (Classical.choose_spec hex).uniq h
def mnF (f : Nat → Int) : Nat → Int
  | 0 => 0
  | k + 1 => if f k ≤ 0 then mnF f k else if mnF f k = 0 then f k else if f k < mnF f k then f k else mnF f k
noncomputable def onQ (nd : Nat → Nat) (p : Nat) : Bool := @decide (onR nd p) (Classical.propDecidable _)
theorem onQ_y {nd : Nat → Nat} {p : Nat} (h : onR nd p) : onQ nd p = true := @decide_eq_true _ (Classical.propDecidable _) h
theorem onQ_n {nd : Nat → Nat} {p : Nat} (h : ¬ onR nd p) : onQ nd p = false := @decide_eq_false _ (Classical.propDecidable _) h
theorem onQ_i {nd : Nat → Nat} {p : Nat} : onQ nd p = true ↔ onR nd p := @decide_eq_true_iff _ (Classical.propDecidable _)
noncomputable def rgM (nd : Nat → Nat) : Nat := mskN (onQ nd) 12
theorem rgM_bit {nd : Nat → Nat} {p : Nat} : (rgM nd).testBit p = true ↔ p < 12 ∧ onR nd p := by
  unfold rgM
  rw [mskN_bit, Bool.and_eq_true, decide_eq_true_iff, onQ_i]
theorem rgM_lt (nd : Nat → Nat) : rgM nd < 4096 := mskN_lt (n := 12)
section
variable {d : Nat} {P : Int → sM → sG → Prop} {PV : sM → sG → Prop} {M : sM} {G : sG} {nd : Nat → Nat}
theorem c139 (hd : 20 ≤ d) (hn : ∀ s, s < 12 → nd s < 4096) (hm : ∀ k : Nat, k < 12 → M 77 k = ((nd k : Nat) : Int)) (kk : P (mnF (rl nd) 12) M G) : sC d 139 [vO 5 76] M G (QI P) := by
  obtain ⟨d, rfl⟩ := sD 12 (d := d) (by omega)
  refine e139 (s139_0 ?_)
  refine sUpTo (W := fun i => sW (sC (d + 11)) 139 (QI P) 4 [vO 5 76, vI (mnF (rl nd) i), vI (i : Int), vN] [] M G 0 0) 12 ?_ ?_
  · refine (s139_4 ⟨fun q1 => ?_, fun q2 => ?_⟩)
    · exact kk
    · omega
  · intro i hi ih
    have em : mnF (rl nd) (i + 1) = if rl nd i ≤ 0 then mnF (rl nd) i else if mnF (rl nd) i = 0 then rl nd i else if rl nd i < mnF (rl nd) i then rl nd i else mnF (rl nd) i := rfl
    refine (s139_4 ⟨fun q1 => ?_, fun q2 => ?_⟩)
    · omega
    · refine c140 (by omega) hn hm (by omega) (by omega) (fun r hr => ?_)
      have er : rl nd i = r := rl_of hr
      rw [em, er] at ih
      refine ⟨fun q3 => ⟨⟨by omega, by omega⟩, ?_⟩, fun q4 => ⟨fun q5 => ⟨⟨by omega, by omega⟩, ?_⟩, fun q6 => ⟨fun q7 => ⟨⟨by omega, by omega⟩, ?_⟩, fun q8 => ⟨⟨by omega, by omega⟩, ?_⟩⟩⟩⟩
      · rw [if_pos q3] at ih; exact ih
      · rw [if_neg (by omega), if_pos q5] at ih; exact ih
      · rw [if_neg (by omega), if_neg q6, if_neg (by omega)] at ih; exact ih
      · rw [if_neg (by omega), if_neg q6, if_pos q8] at ih; exact ih
theorem r256a (hn : ∀ s, s < 12 → nd s < 4096) (hm : ∀ k : Nat, k < 12 → M 101 k = ((nd k : Nat) : Int)) (kk : P (mnF (rl nd) 12) M G) : sW (sC (d + 11)) 256 (QI P) 112 [vO 12 82, vN, vN, vI 0, vI 0, vN] [] M G 0 0 := by
  refine sUpTo (W := fun i => sW (sC (d + 11)) 256 (QI P) 112 [vO 12 82, vN, vN, vI (mnF (rl nd) i), vI (i : Int), vN] [] M G 0 0) 12 ?_ ?_
  · refine (s256_112 ⟨fun q1 => ?_, fun q2 => ?_⟩)
    · exact kk
    · omega
  · intro i hi ih
    have em : mnF (rl nd) (i + 1) = if rl nd i ≤ 0 then mnF (rl nd) i else if mnF (rl nd) i = 0 then rl nd i else if rl nd i < mnF (rl nd) i then rl nd i else mnF (rl nd) i := rfl
    refine (s256_112 ⟨fun q1 => ?_, fun q2 => ?_⟩)
    · omega
    · refine c260 (by omega) hn hm (by omega) (by omega) (fun r hr => ?_)
      have er : rl nd i = r := rl_of hr
      rw [em, er] at ih
      refine ⟨fun q3 => ⟨⟨by omega, by omega⟩, ?_⟩, fun q4 => ⟨fun q5 => ⟨⟨by omega, by omega⟩, ?_⟩, fun q6 => ⟨fun q7 => ⟨⟨by omega, by omega⟩, ?_⟩, fun q8 => ⟨⟨by omega, by omega⟩, ?_⟩⟩⟩⟩
      · rw [if_pos q3] at ih; exact ih
      · rw [if_neg (by omega), if_pos q5] at ih; exact ih
      · rw [if_neg (by omega), if_neg q6, if_neg (by omega)] at ih; exact ih
      · rw [if_neg (by omega), if_neg q6, if_pos q8] at ih; exact ih
theorem c259 (hd : 20 ≤ d) (hn : ∀ s, s < 12 → nd s < 4096) (hm : ∀ k : Nat, k < 12 → M 101 k = ((nd k : Nat) : Int)) (kk : P ((rgM nd : Nat) : Int) M G) : sC d 259 [vO 12 82] M G (QI P) := by
  obtain ⟨d, rfl⟩ := sD 12 (d := d) (by omega)
  refine e259 (s259_0 ?_)
  refine sUpTo (W := fun i => sW (sC (d + 11)) 259 (QI P) 4 [vO 12 82, vI ((mskN (onQ nd) i : Nat) : Int), vI (i : Int)] [] M G 0 0) 12 ?_ ?_
  · refine (s259_4 ⟨fun q1 => ?_, fun q2 => ?_⟩)
    · exact kk
    · omega
  · intro i hi ih
    refine (s259_4 ⟨fun q1 => ?_, fun q2 => ?_⟩)
    · omega
    · refine c260 (by omega) hn hm (by omega) (by omega) (fun r hr => ?_)
      have hr' : isL nd i r := hr
      refine ⟨fun q3 => ⟨⟨by omega, by omega⟩, ?_⟩, fun q4 => ⟨⟨by omega, by omega⟩, ?_⟩⟩
      · rw [msk_n (by omega) (onQ_n (fun z => by have := hr'.on.mpr z; omega))]; exact ih
      · rw [msk_y (by omega) (onQ_y (hr'.on.mp q4))]; exact ih
end
/-! WHO IS STUCK: the greatest set of which each needs one in it. -/
def eaN (nd : Nat → Nat) (U : Nat) : Prop := ∀ s : Nat, U.testBit s = true → ∃ q : Nat, U.testBit q = true ∧ (nd s).testBit q = true
def isT (nd : Nat → Nat) (X T : Nat) : Prop := suB T X ∧ eaN nd T ∧ ∀ U : Nat, suB U X → eaN nd U → suB U T
theorem isT.uniq {nd : Nat → Nat} {X T T' : Nat} (h : isT nd X T) (h' : isT nd X T') : T = T' := suB.eq (h'.2.2 T h.1 h.2.1) (h.2.2 T' h'.1 h'.2.1)
section
variable {nd : Nat → Nat}
theorem rA_fs (hn : ∀ s, s < 12 → nd s < 4096) {x s : Nat} (hx : x < 12) : ∀ L : Nat, (rA nd x L).testBit s = true → ∃ q : Nat, (nd x).testBit q = true ∧ (q = s ∨ (rA nd q 12).testBit s = true)
  | 0, h => by
    have h' : (0 : Nat).testBit s = true := h
    rw [Nat.zero_testBit] at h'
    exact absurd h' (by decide)
  | 1, h => ⟨s, h, Or.inl rfl⟩
  | L + 2, h => by
    have h' : (rA nd x (L + 1) ||| nbN nd (rA nd x (L + 1)) 12).testBit s = true := h
    rw [Nat.testBit_or, Bool.or_eq_true] at h'
    rcases h' with z | z
    · exact rA_fs hn hx (L + 1) z
    · obtain ⟨y, y0, y1, y2⟩ := nbN_bit.mp z
      obtain ⟨q, q1, q2⟩ := rA_fs hn hx (L + 1) y1
      refine ⟨q, q1, Or.inr ?_⟩
      have q12 := bit_lt (hn x hx) q1
      rcases q2 with w | w
      · rw [← w] at y2; exact rA_nd 11 s y2
      · exact rA_12 hn q12 y y0 w s y2
/-- those who reach s, s among them -/
noncomputable def toQ (nd : Nat → Nat) (s x : Nat) : Bool := @decide (x = s ∨ (rA nd x 12).testBit s = true) (Classical.propDecidable _)
noncomputable def toM (nd : Nat → Nat) (s : Nat) : Nat := mskN (toQ nd s) 12
theorem toM_bit {s x : Nat} : (toM nd s).testBit x = true ↔ x < 12 ∧ (x = s ∨ (rA nd x 12).testBit s = true) := by
  unfold toM
  rw [mskN_bit, Bool.and_eq_true, decide_eq_true_iff]
  unfold toQ
  rw [@decide_eq_true_iff _ (Classical.propDecidable _)]
theorem toM_lt (s : Nat) : toM nd s < 4096 := mskN_lt (n := 12)
theorem toM_ea (hn : ∀ s, s < 12 → nd s < 4096) {s : Nat} (h : onR nd s) : eaN nd (toM nd s) := fun x hx => by
  obtain ⟨x0, x1⟩ := toM_bit.mp hx
  have x2 : (rA nd x 12).testBit s = true := by
    rcases x1 with z | z
    · rw [z]; exact h
    · exact z
  obtain ⟨q, q1, q2⟩ := rA_fs hn x0 12 x2
  exact ⟨q, toM_bit.mpr ⟨bit_lt (hn x x0) q1, q2⟩, q1⟩
/-- no ring where no set stands by itself, and the other way round -/
theorem no_ring (hn : ∀ s, s < 12 → nd s < 4096) : rgM nd = 0 ↔ ∀ U : Nat, U < 4096 → eaN nd U → U = 0 := by
  constructor
  · intro h U hU he
    refine Classical.byContradiction fun z => ?_
    obtain ⟨s, s1, s2⟩ := ring_in hn U hU z he
    have := rgM_bit.mpr ⟨bit_lt hU s1, s2⟩
    rw [h, Nat.zero_testBit] at this
    exact absurd this (by decide)
  · intro h
    refine Nat.eq_of_testBit_eq (fun s => ?_)
    rw [Nat.zero_testBit]
    cases hs : (rgM nd).testBit s
    · rfl
    · obtain ⟨s0, s1⟩ := rgM_bit.mp hs
      have e := h _ (toM_lt s) (toM_ea hn s1)
      have : (toM nd s).testBit s = true := toM_bit.mpr ⟨s0, Or.inl rfl⟩
      rw [e, Nat.zero_testBit] at this
      exact absurd this (by decide)
end
