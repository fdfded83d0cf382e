/-! The class's planner: what goes together. -/
theorem wish_m {M : sM} {S : Nat → Int} {w : Nat} (ht : TO 29 M S) (h : (w : Int) < S 5) : M 31 w = wP S w ∧ M 32 w = wH S w ∧ M 33 w = wF S w ∧ M 34 w = wT S w ∧ M 35 w = wD S w := ht.2.2.1 (w : Int) (by omega) h
noncomputable def okb (S : Nat → Int) (w x o y : Nat) : Bool := @decide (okW S w x o y) (Classical.propDecidable _)
theorem okb_i {S : Nat → Int} {w x o y : Nat} : okb S w x o y = true ↔ okW S w x o y := @decide_eq_true_iff _ (Classical.propDecidable _)
theorem okb_n {S : Nat → Int} {w x o y : Nat} (h : ¬ okW S w x o y) : okb S w x o y = false := @decide_eq_false _ (Classical.propDecidable _) h
noncomputable def fitM (S : Nat → Int) (w x o : Nat) : Nat := mskN (okb S w x o) (wC S o).toNat
theorem fitM_bit {S : Nat → Int} {w x o y : Nat} : (fitM S w x o).testBit y = true ↔ (y : Int) < wC S o ∧ okW S w x o y := by
  unfold fitM
  rw [mskN_bit, Bool.and_eq_true, decide_eq_true_iff, okb_i]
  exact ⟨fun h => ⟨by omega, h.2⟩, fun h => ⟨by omega, h.2⟩⟩
theorem fitM_lt {S : Nat → Int} {w x o : Nat} (h : wC S o ≤ 12) : fitM S w x o < 4096 := by
  have h1 := mskN_lt (Q := okb S w x o) (n := (wC S o).toNat)
  have h2 := p12 (m := (wC S o).toNat) (by omega)
  unfold fitM
  omega
theorem fitM_full {S : Nat → Int} {w x o : Nat} (h0 : 0 ≤ wC S o) : fitM S w x o = 2 ^ (wC S o).toNat - 1 ↔ ∀ y : Nat, (y : Int) < wC S o → okW S w x o y := by
  constructor
  · intro h y hy
    have : (fitM S w x o).testBit y = true := by rw [h, ones_b]; omega
    exact (fitM_bit.mp this).2
  · intro h
    refine suB.eq (fun q hq => ones_b.mpr (by have := (fitM_bit.mp hq).1; omega)) (fun q hq => ?_)
    have := ones_b.mp hq
    exact fitM_bit.mpr ⟨by omega, h q (by omega)⟩
section
variable {d : Nat} {P : Int → sM → sG → Prop} {PV : sM → sG → Prop} {M : sM} {G : sG} {S : Nat → Int}
theorem c125 {w x o y : Nat} (hd : 10 ≤ d) (hv : vTold S) (ht : TO 29 M S) (hw : (w : Int) < S 5) (ho : (o : Int) < S 5) (hx : (x : Int) < wC S w) (hy : (y : Int) < wC S o) (na : wP S w = wP S o ∨ wH S w = wH S o) (k1 : okW S w x o y → P 1 M G) (k0 : ¬ okW S w x o y → P 0 M G) : sC d 125 [vO 9 29, vI (w : Int), vI (x : Int), vI (o : Int), vI (y : Int)] M G (QI P) := by
  obtain ⟨d, rfl⟩ := sD 2 (d := d) (by omega)
  have h5 := hv.1
  have a1 : M 31 ((w : Int)).toNat = wP S w := (wish_m ht hw).1
  have a2 : M 32 ((w : Int)).toNat = wH S w := (wish_m ht hw).2.1
  have a3 : M 33 ((w : Int)).toNat = wF S w := (wish_m ht hw).2.2.1
  have a5 : M 35 ((w : Int)).toNat = wD S w := (wish_m ht hw).2.2.2.2
  have b1 : M 31 ((o : Int)).toNat = wP S o := (wish_m ht ho).1
  have b2 : M 32 ((o : Int)).toNat = wH S o := (wish_m ht ho).2.1
  have b3 : M 33 ((o : Int)).toNat = wF S o := (wish_m ht ho).2.2.1
  have b5 : M 35 ((o : Int)).toNat = wD S o := (wish_m ht ho).2.2.2.2
  have va := wish_v hv hw
  have vb := wish_v hv ho
  have key : okW S w x o y ↔ ¬ (wH S w = wH S o ∧ ((wF S w + (x : Int) < wF S o + (y : Int) ∧ wF S o + (y : Int) < wF S w + (x : Int) + wD S w ∧ wF S w + (x : Int) + wD S w < wF S o + (y : Int) + wD S o) ∨ (wF S o + (y : Int) < wF S w + (x : Int) ∧ wF S w + (x : Int) < wF S o + (y : Int) + wD S o ∧ wF S o + (y : Int) + wD S o < wF S w + (x : Int) + wD S w))) ∧ ¬ (wP S w = wP S o ∧ wF S w + (x : Int) < wF S o + (y : Int) + wD S o ∧ wF S o + (y : Int) < wF S w + (x : Int) + wD S w) := Iff.rfl
  have wc1 : wC S w = wT S w - wF S w - wD S w + 1 := rfl
  have wc2 : wC S o = wT S o - wF S o - wD S o + 1 := rfl
  have go : sC (d + 2) 125 [vO 9 29, vI (w : Int), vI (x : Int), vI (o : Int), vI (y : Int)] M G (QI P) := by
    refine e125 (s125_0 ⟨⟨(by first | omega | assumption | (refine ⟨?_, ?_⟩ <;> omega) | (simp_all; done)), (by first | omega | assumption | (refine ⟨?_, ?_⟩ <;> omega) | (simp_all; done))⟩, ⟨by omega, by omega⟩, ⟨by omega, by omega⟩, ⟨(by first | omega | assumption | (refine ⟨?_, ?_⟩ <;> omega) | (simp_all; done)), (by first | omega | assumption | (refine ⟨?_, ?_⟩ <;> omega) | (simp_all; done))⟩, ⟨by omega, by omega⟩, ⟨by omega, by omega⟩, fun q1 => ?_, fun q2 => ⟨fun q3 => ⟨fun q4 => ⟨fun q5 => ?_, fun q6 => ⟨fun q7 => ?_, fun q8 => ⟨fun q9 => ?_, fun q10 => ⟨fun q11 => ?_, fun q12 => ?_⟩⟩⟩⟩, fun q13 => ?_⟩, fun q14 => ?_⟩⟩)
    · refine (s125_57 (?_))
      exact k1 (key.mpr (by omega))
    · refine (s125_106 ⟨fun q1 => ?_, fun q2 => ⟨fun q3 => ?_, fun q4 => ?_⟩⟩)
      · omega
      · refine (s125_127 ⟨fun q1 => ?_, fun q2 => ?_⟩)
        · omega
        · exact k0 (fun z => by rw [key] at z; omega)
      · refine (s125_140 (?_))
        exact k1 (key.mpr (by omega))
    · refine (s125_106 ⟨fun q1 => ?_, fun q2 => ⟨fun q3 => ?_, fun q4 => ?_⟩⟩)
      · refine (s125_127 ⟨fun q1 => ?_, fun q2 => ?_⟩)
        · omega
        · exact k0 (fun z => by rw [key] at z; omega)
      · refine (s125_127 ⟨fun q1 => ?_, fun q2 => ?_⟩)
        · omega
        · exact k0 (fun z => by rw [key] at z; omega)
      · refine (s125_140 (?_))
        exact k1 (key.mpr (by omega))
    · refine (s125_127 ⟨fun q1 => ?_, fun q2 => ?_⟩)
      · refine (s125_140 (?_))
        exact k1 (key.mpr (by omega))
      · omega
    · refine (s125_127 ⟨fun q1 => ?_, fun q2 => ?_⟩)
      · refine (s125_140 (?_))
        exact k1 (key.mpr (by omega))
      · omega
    · refine (s125_140 (?_))
      exact k1 (key.mpr (by omega))
    · exact k0 (fun z => by rw [key] at z; omega)
    · refine (s125_57 (?_))
      exact k1 (key.mpr (by omega))
    all_goals omega
  exact go
end
