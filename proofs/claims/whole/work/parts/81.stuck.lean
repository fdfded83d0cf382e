/-! WHO IS STUCK, on both sides. -/
section
variable {d : Nat} {P : Int → sM → sG → Prop} {PV : sM → sG → Prop} {M : sM} {G : sG} {nd : Nat → Nat}
theorem tb0 {q : Nat} : ¬ (0 : Nat).testBit q = true := by rw [Nat.zero_testBit]; decide
theorem nz_ex {m : Nat} (h : m ≠ 0) : ∃ q, m.testBit q = true := Classical.byContradiction fun z => h (Nat.eq_of_testBit_eq (fun i => by
  rw [Nat.zero_testBit]
  cases hh : m.testBit i
  · rfl
  · exact absurd ⟨i, hh⟩ z))
theorem and_nz {a b : Nat} : a &&& b ≠ 0 ↔ ∃ q, a.testBit q = true ∧ b.testBit q = true := by
  constructor
  · intro h
    obtain ⟨q, hq⟩ := nz_ex h
    rw [Nat.testBit_and, Bool.and_eq_true] at hq
    exact ⟨q, hq⟩
  · rintro ⟨q, q1, q2⟩ z
    have : (a &&& b).testBit q = true := by rw [Nat.testBit_and, q1, q2]; rfl
    rw [z] at this
    exact tb0 this
theorem pc12 {m : Nat} : 0 ≤ nS (pcF m) 12 ∧ nS (pcF m) 12 ≤ 12 := nS12 (fun i => by unfold pcF; split <;> decide) (Nat.le_refl 12)
theorem c142 {X : Nat} (hd : 10 ≤ d) (hn : ∀ s, s < 12 → nd s < 4096) (hm : ∀ k : Nat, k < 12 → M 77 k = ((nd k : Nat) : Int)) (hX : X < 4096) (kk : ∀ T : Nat, T < 4096 → isT nd X T → P (T : Int) M G) : sC d 142 [vO 5 76, vI (X : Int)] M G (QI P) := by
  obtain ⟨d, rfl⟩ := sD 3 (d := d) (by omega)
  refine e142 (s142_0 ?_)
  refine sUpTo (W := fun i => ∀ x : Nat, x < 4096 → suB x X → (∀ U : Nat, suB U X → eaN nd U → suB U x) → nS (pcF x) 12 + (i : Int) ≤ 12 → sW (sC (d + 2)) 142 (QI P) 4 [vO 5 76, vN, vI (x : Int), vI (i : Int), vN, vN] [] M G 0 0) 13 ?_ ?_ X hX (fun _ h => h) (fun _ h _ => h) (by have := (pc12 (m := X)).2; omega)
  · intro x x0 x1 x2 x3
    have := (pc12 (m := x)).1
    omega
  · intro i hi ih x x0 x1 x2 x3
    refine (s142_4 ⟨fun q1 => ?_, fun q2 => ⟨fun q3 => ?_, fun q4 => ?_⟩⟩)
    · have := (pc12 (m := x)).1
      omega
    · have e : x = 0 := by omega
      subst e
      exact kk 0 (by decide) ⟨x1, fun s hs => absurd hs tb0, x2⟩
    · refine sUpTo (W := fun j => ∀ y : Nat, y < 4096 → suB y x → (∀ U : Nat, suB U X → eaN nd U → suB U y) → (y = x → ∀ s : Nat, s < j → x.testBit s = true → ∃ q, x.testBit q = true ∧ (nd s).testBit q = true) → sW (sC (d + 2)) 142 (QI P) 20 [vO 5 76, vN, vI (x : Int), vI (i : Int), vI (y : Int), vI (j : Int)] [] M G 0 0) 12 ?_ ?_ x x0 (fun _ h => h) x2 (fun _ s hs => absurd hs (Nat.not_lt_zero _))
      · intro y y0 y1 y2 y3
        refine (s142_20 ⟨fun q1 => ⟨fun q2 => ⟨⟨by omega, by omega⟩, ?_⟩, fun q3 => ?_⟩, fun q4 => ⟨⟨(by first | omega | assumption | (refine ⟨?_, ?_⟩ <;> omega) | (simp_all; done)), (by first | omega | assumption | (refine ⟨?_, ?_⟩ <;> omega) | (simp_all; done))⟩, fun q5 => ⟨⟨by omega, by omega⟩, ?_⟩, fun q6 => ⟨⟨by omega, by omega⟩, ?_⟩⟩⟩)
        · have lt := pc_lt y1 y0 x0 (by omega)
          exact ih y y0 (fun q hq => x1 q (y1 q hq)) y2 (by omega)
        · have e : y = x := by omega
          exact kk x x0 ⟨x1, fun s hs => y3 e s (bit_lt x0 hs) hs, x2⟩
        all_goals omega
      · intro j hj ih2 y y0 y1 y2 y3
        have ej : M 77 ((j : Int)).toNat = ((nd j : Nat) : Int) := hm j hj
        have nj := hn j hj
        have ea : iAnd ((nd j : Nat) : Int) (y : Int) = ((nd j &&& y : Nat) : Int) := n_and (by omega)
        refine (s142_20 ⟨fun q1 => ⟨fun q2 => ⟨⟨by omega, by omega⟩, ?_⟩, fun q3 => ?_⟩, fun q4 => ⟨⟨(by first | omega | assumption | (refine ⟨?_, ?_⟩ <;> omega) | (simp_all; done)), (by first | omega | assumption | (refine ⟨?_, ?_⟩ <;> omega) | (simp_all; done))⟩, fun q5 => ⟨⟨by omega, by omega⟩, ?_⟩, fun q6 => ⟨⟨by omega, by omega⟩, ?_⟩⟩⟩)
        · omega
        · omega
        · rw [ej, ea] at q5
          obtain ⟨q, qa, qb⟩ := and_nz.mp (show nd j &&& y ≠ 0 by omega)
          refine ih2 y y0 y1 y2 (fun e s hs hx => ?_)
          by_cases c : s = j
          · rw [c]; exact ⟨q, by rw [← e]; exact qb, qa⟩
          · exact y3 e s (by omega) hx
        · rw [ej, ea] at q6
          have no : ¬ ∃ q, (nd j).testBit q = true ∧ y.testBit q = true := fun z => and_nz.mpr z (by omega)
          have ez : iShl 1 (j : Int) = ((2 ^ j : Nat) : Int) := z_bit (by omega) (by omega)
          rw [ez, n_dif (a := 2 ^ j) (b := y) (by omega)]
          have hb : ∀ q : Nat, (y &&& (y ^^^ 2 ^ j)).testBit q = true ↔ y.testBit q = true ∧ q ≠ j := fun q => by
            rw [bit_dif, bit_pow, Bool.and_eq_true, Bool.not_eq_true', decide_eq_false_iff_not]
            exact ⟨fun h => ⟨h.1, fun z => h.2 z.symm⟩, fun h => ⟨h.1, fun z => h.2 z.symm⟩⟩
          have l : y &&& (y ^^^ 2 ^ j) ≤ y := Nat.and_le_left
          refine ih2 _ (by omega) (fun q hq => y1 q ((hb q).mp hq).1) (fun U hU he q hq => ?_) (fun e s hs hx => ?_)
          · refine (hb q).mpr ⟨y2 U hU he q hq, fun z => ?_⟩
            rw [z] at hq
            obtain ⟨w, w1, w2⟩ := he j hq
            exact no ⟨w, w2, y2 U hU he w w1⟩
          · have ey : y = x := suB.eq y1 (fun q hq => by
              rw [← e] at hq
              exact ((hb q).mp hq).1)
            by_cases c : s = j
            · rw [← e, c] at hx
              exact absurd rfl ((hb j).mp hx).2
            · exact y3 ey s (by omega) hx
/-- the reference's way: those who need one of the rings, and so on -/
def bkC (nd : Nat → Nat) (R : Nat) : Prop := ∀ s : Nat, s < 12 → nd s &&& R ≠ 0 → R.testBit s = true
theorem isT_of (hn : ∀ s, s < 12 → nd s < 4096) {R : Nat} (hR : R < 4096) (h1 : suB (rgM nd) R) (h2 : bkC nd R) (h3 : ∀ T : Nat, T < 4096 → suB (rgM nd) T → bkC nd T → suB R T) : isT nd 4095 R := by
  -- the union of all sets that stand by themselves is closed backwards and holds the rings
  have hc : ∀ U : Nat, U < 4096 → eaN nd U → suB U R := fun U hU he => by
    refine fun q hq => Classical.byContradiction fun nq => ?_
    have hl : U &&& (U ^^^ R) ≤ U := Nat.and_le_left
    have hb : ∀ q : Nat, (U &&& (U ^^^ R)).testBit q = true ↔ U.testBit q = true ∧ ¬ R.testBit q = true := fun q => by
      rw [bit_dif, Bool.and_eq_true, Bool.not_eq_true', Bool.not_eq_true]
    have hne : U &&& (U ^^^ R) ≠ 0 := fun z => by
      have := (hb q).mpr ⟨hq, nq⟩
      rw [z] at this
      exact tb0 this
    obtain ⟨s, s1, s2⟩ := ring_in hn _ (by omega) hne (fun s hs => by
      obtain ⟨a, b⟩ := (hb s).mp hs
      obtain ⟨w, w1, w2⟩ := he s a
      refine ⟨w, (hb w).mpr ⟨w1, fun z => ?_⟩, w2⟩
      exact b (h2 s (bit_lt hU a) (and_nz.mpr ⟨w, w2, z⟩)))
    exact ((hb s).mp s1).2 (h1 s (rgM_bit.mpr ⟨bit_lt hU ((hb s).mp s1).1, s2⟩))
  refine ⟨sub_all hR, fun s hs => ?_, fun U hU he => hc U (Classical.byContradiction fun z => ?_) he⟩
  · -- each of R needs one of R: else R without him would do
    refine Classical.byContradiction fun no => ?_
    have s12 := bit_lt hR hs
    have hb : ∀ q : Nat, (R &&& (R ^^^ 2 ^ s)).testBit q = true ↔ R.testBit q = true ∧ q ≠ s := fun q => by
      rw [bit_dif, bit_pow, Bool.and_eq_true, Bool.not_eq_true', decide_eq_false_iff_not]
      exact ⟨fun h => ⟨h.1, fun z => h.2 z.symm⟩, fun h => ⟨h.1, fun z => h.2 z.symm⟩⟩
    have hl : R &&& (R ^^^ 2 ^ s) ≤ R := Nat.and_le_left
    have := h3 (R &&& (R ^^^ 2 ^ s)) (by omega) (fun q hq => (hb q).mpr ⟨h1 q hq, fun z => ?_⟩) (fun q q12 hq => ?_) s hs
    · exact ((hb s).mp this).2 rfl
    · rw [z] at hq
      obtain ⟨-, hq2⟩ := rgM_bit.mp hq
      obtain ⟨w, w1, w2⟩ := toM_ea hn hq2 s (toM_bit.mpr ⟨s12, Or.inl rfl⟩)
      exact no ⟨w, hc _ (toM_lt s) (toM_ea hn hq2) w w1, w2⟩
    · obtain ⟨w, w1, w2⟩ := and_nz.mp hq
      have w3 := ((hb w).mp w2).1
      refine (hb q).mpr ⟨h2 q q12 (and_nz.mpr ⟨w, w1, w3⟩), fun z => ?_⟩
      rw [z] at w1
      exact no ⟨w, w3, w1⟩
  · have h12 : ∀ i, U.testBit i = true → i < 12 := fun i hi => bit_lt (X := 4095) (by decide) (hU i hi)
    exact z (Nat.lt_pow_two_of_testBit (n := 12) U (fun i hi => by
      cases hh : U.testBit i
      · rfl
      · have := h12 i hh; omega))
theorem r256b (hn : ∀ s, s < 12 → nd s < 4096) (hm : ∀ k : Nat, k < 12 → M 101 k = ((nd k : Nat) : Int)) (kk : ∀ T : Nat, T < 4096 → isT nd 4095 T → P (T : Int) M G) : sW (sC (d + 11)) 256 (QI P) 56 [vO 12 82, vN, vI ((rgM nd : Nat) : Int), vI 0, vN, vN] [] M G 0 0 := by
  have lt := rgM_lt nd
  -- i: rounds gone; w: what was
  have go : sW (sC (d + 11)) 256 (QI P) 56 [vO 12 82, vN, vI ((rgM nd : Nat) : Int), vI ((0 : Nat) : Int), vN, vN] [] M G 0 0 := by
    refine sUpTo (W := fun i => ∀ x w : Nat, x < 4096 → suB w x → suB (rgM nd) x → (∀ s : Nat, s < 12 → nd s &&& w ≠ 0 → x.testBit s = true) → (∀ T : Nat, T < 4096 → suB (rgM nd) T → bkC nd T → suB x T) → (i : Int) ≤ nS (pcF x) 12 ∨ x = w → sW (sC (d + 11)) 256 (QI P) 56 [vO 12 82, vN, vI (x : Int), vI (w : Int), vN, vN] [] M G 0 0) 13 ?_ ?_ (rgM nd) 0 lt (fun q hq => absurd hq tb0) (fun _ h => h) (fun s _ hz => absurd (Nat.and_zero _) hz) (fun T _ h _ => h) (Or.inl pc12.1)
    · intro x w x0 x1 x2 x3 x4 x5
      have := (pc12 (m := x)).2
      have e : x = w := x5.resolve_left (by omega)
      subst e
      refine (s256_56 ⟨fun q1 => ?_, fun q2 => ?_⟩)
      · exact kk x x0 (isT_of hn x0 x2 x3 x4)
      · omega
    · intro i hi ih x w x0 x1 x2 x3 x4 x5
      refine (s256_56 ⟨fun q1 => ?_, fun q2 => ?_⟩)
      · have e : x = w := by omega
        subst e
        exact kk x x0 (isT_of hn x0 x2 x3 x4)
      · have hw : x ≠ w := fun z => q2 (by rw [z])
        have hi2 := x5.resolve_right hw
        refine sUpTo (W := fun j => ∀ y : Nat, y < 4096 → (∀ q : Nat, y.testBit q = true ↔ x.testBit q = true ∨ (q < j ∧ nd q &&& x ≠ 0)) → sW (sC (d + 11)) 256 (QI P) 66 [vO 12 82, vN, vI (y : Int), vI (x : Int), vI (j : Int), vN] [] M G 0 0) 12 ?_ ?_ x x0 (fun q => ⟨Or.inl, fun z => z.elim id (fun y => absurd y.1 (Nat.not_lt_zero _))⟩)
        · intro y y0 y1
          have s1 : suB x y := fun q hq => (y1 q).mpr (Or.inl hq)
          refine (s256_66 ⟨fun q1 => ?_, fun q2 => ⟨⟨(by first | omega | assumption | (refine ⟨?_, ?_⟩ <;> omega) | (simp_all; done)), (by first | omega | assumption | (refine ⟨?_, ?_⟩ <;> omega) | (simp_all; done))⟩, fun q3 => ⟨⟨by omega, by omega⟩, ?_⟩, fun q4 => ⟨⟨by omega, by omega⟩, ?_⟩⟩⟩)
          · refine ih y x y0 s1 (fun q hq => s1 q (x2 q hq)) (fun s s0 s2 => (y1 s).mpr (Or.inr ⟨s0, s2⟩)) (fun T hT t1 t2 q hq => ?_) ?_
            · rcases (y1 q).mp hq with z | ⟨z0, z1⟩
              · exact x4 T hT t1 t2 q z
              · obtain ⟨u, u1, u2⟩ := and_nz.mp z1
                exact t2 q z0 (and_nz.mpr ⟨u, u1, x4 T hT t1 t2 u u2⟩)
            · by_cases c : y = x
              · exact Or.inr c
              · left
                have := pc_lt s1 x0 y0 (Ne.symm c)
                omega
          all_goals omega
        · intro j hj ih2 y y0 y1
          have ej : M 101 ((j : Int)).toNat = ((nd j : Nat) : Int) := hm j hj
          have nj := hn j hj
          have ea : iAnd ((nd j : Nat) : Int) (x : Int) = ((nd j &&& x : Nat) : Int) := n_and (by omega)
          refine (s256_66 ⟨fun q1 => ?_, fun q2 => ⟨⟨(by first | omega | assumption | (refine ⟨?_, ?_⟩ <;> omega) | (simp_all; done)), (by first | omega | assumption | (refine ⟨?_, ?_⟩ <;> omega) | (simp_all; done))⟩, fun q3 => ⟨⟨by omega, by omega⟩, ?_⟩, fun q4 => ⟨⟨by omega, by omega⟩, ?_⟩⟩⟩)
          · omega
          · rw [ej, ea] at q3
            rw [or_no y0]
            refine ih2 y y0 (fun q => ?_)
            rw [y1 q]
            refine ⟨fun h => h.elim Or.inl (fun z => Or.inr ⟨by omega, z.2⟩), fun h => h.elim Or.inl (fun z => ?_)⟩
            by_cases c : q = j
            · rw [c] at z; exact absurd (by omega) z.2
            · exact Or.inr ⟨by omega, z.2⟩
          · rw [ej, ea] at q4
            obtain ⟨o1, o2⟩ := or_bit y0 (show (0 : Int) ≤ j by omega) (by omega)
            rw [o1]
            refine ih2 _ o2 (fun q => ?_)
            rw [or_tb, y1 q]
            constructor
            · rintro ((z | z) | z)
              · exact Or.inl z
              · exact Or.inr ⟨by omega, z.2⟩
              · have : q = j := by omega
                rw [this]; exact Or.inr ⟨by omega, by omega⟩
            · rintro (z | z)
              · exact Or.inl (Or.inl z)
              · by_cases c : q = j
                · right; omega
                · exact Or.inl (Or.inr ⟨by omega, z.2⟩)
  exact go
end
