/-! UNDONE, and the step: rings. -/
def valS (S : Nat → Int) (x : Nat) : Prop := ∀ U : Nat, U < 4096 → eaN (ndS S 0) U → (∀ s : Nat, U.testBit s = true → ¬ x.testBit s = true) → U = 0
theorem val_ref {S : Nat → Int} {x : Nat} : rgM (ndS S x) = 0 ↔ valS S x := by
  rw [no_ring (fun s _ => ndS_lt S x s)]
  constructor
  · intro h U hU he hd
    refine h U hU (fun s hs => ?_)
    obtain ⟨q, q1, q2⟩ := he s hs
    obtain ⟨q3, q4, q5, q6⟩ := ndS_bit.mp q2
    refine ⟨q, q1, ndS_bit.mpr ⟨q3, q4, hd s hs, ?_⟩⟩
    rcases q6 with ⟨w, _⟩ | ⟨w1, w2 | w2⟩
    · exact Or.inl ⟨w, hd q q1⟩
    · exact Or.inr ⟨w1, Or.inl w2⟩
    · exact absurd w2 tb0
  · intro h U hU he
    have hd : ∀ s : Nat, U.testBit s = true → ¬ x.testBit s = true := fun s hs => by
      obtain ⟨q, _, q2⟩ := he s hs
      exact (ndS_bit.mp q2).2.2.1
    refine h U hU (fun s hs => ?_) hd
    obtain ⟨q, q1, q2⟩ := he s hs
    obtain ⟨q3, q4, q5, q6⟩ := ndS_bit.mp q2
    refine ⟨q, q1, ndS_bit.mpr ⟨q3, q4, tb0, ?_⟩⟩
    rcases q6 with ⟨w, _⟩ | ⟨w1, w2 | w2⟩
    · exact Or.inl ⟨w, tb0⟩
    · exact Or.inr ⟨w1, Or.inl w2⟩
    · exact absurd w2 (hd q q1)
theorem dif_b {a b q : Nat} : (b &&& (b ^^^ a)).testBit q = true ↔ b.testBit q = true ∧ ¬ a.testBit q = true := by
  rw [bit_dif, Bool.and_eq_true, Bool.not_eq_true', Bool.not_eq_true]
theorem dif_0 {a b : Nat} : b &&& (b ^^^ a) = 0 ↔ suB b a := by
  constructor
  · intro h q hq
    refine Classical.byContradiction fun z => ?_
    have := dif_b.mpr ⟨hq, z⟩
    rw [h] at this
    exact tb0 this
  · intro h
    refine Classical.byContradiction fun z => ?_
    obtain ⟨q, hq⟩ := nz_ex z
    exact (dif_b.mp hq).2 (h q (dif_b.mp hq).1)
theorem val_cls {S : Nat → Int} {K x T : Nat} (hK : isT (ndS S 0) 4095 K) (hT : isT (ndS S 0) (K &&& (K ^^^ x)) T) (ht : T < 4096) : T = 0 ↔ valS S x := by
  constructor
  · intro e U hU he hd
    have h1 := hK.2.2 U (sub_all hU) he
    have h2 := hT.2.2 U (fun q hq => dif_b.mpr ⟨h1 q hq, hd q hq⟩) he
    rw [e] at h2
    exact suB.eq h2 (fun q hq => absurd hq tb0)
  · intro h
    exact h T ht hT.2.1 (fun s hs => (dif_b.mp (hT.1 s hs)).2)
def lexL (x y : Nat) : Prop := nS (pcF x) 12 < nS (pcF y) 12 ∨ (nS (pcF x) 12 = nS (pcF y) 12 ∧ x ≤ y)
theorem lexL.refl (x : Nat) : lexL x x := Or.inr ⟨rfl, Nat.le_refl x⟩
def isB (S : Nat → Int) (A x : Nat) : Prop := x < 4096 ∧ suB x A ∧ valS S x ∧ ∀ y : Nat, y < 4096 → suB y A → valS S y → lexL x y
theorem isB.uniq {S : Nat → Int} {A x y : Nat} (h : isB S A x) (h' : isB S A y) : x = y := by
  have a := h.2.2.2 y h'.1 h'.2.1 h'.2.2.1
  have b := h'.2.2.2 x h.1 h.2.1 h.2.2.1
  rcases a with a | a <;> rcases b with b | b <;> omega
noncomputable def allM (S : Nat → Int) : Nat := mskN (fun p => decide (0 ≤ pO S p 0)) 12
theorem allM_bit {S : Nat → Int} {p : Nat} : (allM S).testBit p = true ↔ p < 12 ∧ 0 ≤ pO S p 0 := by
  unfold allM
  rw [mskN_bit, Bool.and_eq_true, decide_eq_true_iff, decide_eq_true_iff]
theorem allM_lt (S : Nat → Int) : allM S < 4096 := mskN_lt (n := 12)
theorem ea_all {S : Nat → Int} {U : Nat} (hU : U < 4096) (h : eaN (ndS S 0) U) : suB U (allM S) := fun s hs => by
  obtain ⟨q, _, q2⟩ := h s hs
  exact allM_bit.mpr ⟨bit_lt hU hs, (ndS_bit.mp q2).2.1⟩
theorem isB.all {S : Nat → Int} {K x : Nat} (hk : K < 4096) (hK : isT (ndS S 0) 4095 K) (h : isB S K x) : isB S (allM S) x := by
  refine ⟨h.1, fun q hq => ea_all hk hK.2.1 q (h.2.1 q hq), h.2.2.1, fun y hy hs hv => ?_⟩
  have hl : y &&& K ≤ y := Nat.and_le_left
  have hb : ∀ q : Nat, (y &&& K).testBit q = true ↔ y.testBit q = true ∧ K.testBit q = true := fun q => by rw [Nat.testBit_and, Bool.and_eq_true]
  have hsub : suB (y &&& K) y := fun q hq => ((hb q).mp hq).1
  have hx := h.2.2.2 (y &&& K) (by omega) (fun q hq => ((hb q).mp hq).2) (fun U hU he hd => hv U hU he (fun s hs2 z => hd s hs2 ((hb s).mpr ⟨z, hK.2.2 U (sub_all hU) he s hs2⟩)))
  have hp := pc_sub hsub 12
  by_cases c : y &&& K = y
  · rw [c] at hx; exact hx
  · have := pc_lt hsub (by omega) hy c
    left
    rcases hx with z | z <;> omega
section
variable {d : Nat} {P : Int → sM → sG → Prop} {PV : sM → sG → Prop} {M : sM} {G : sG}
theorem bc_pc {x : Nat} (h : x < 4096) : ((bcN x : Nat) : Int) = nS (pcF x) 12 := by rw [bc12 x h, pcN_is]
theorem c113n {x : Nat} (hd : 5 ≤ d) (h : x < 4096) (kk : P (nS (pcF x) 12) M G) : sC d 113 [vI (x : Int)] M G (QI P) := c113 hd (by omega) (by omega) (by
  show P ((bcN x : Nat) : Int) M G
  rw [bc_pc h]; exact kk)
theorem c245n {x : Nat} (hd : 5 ≤ d) (h : x < 4096) (kk : P (nS (pcF x) 12) M G) : sC d 245 [vI (x : Int)] M G (QI P) := c245 hd (by omega) (by omega) (by
  show P (nS (pcF x) 18) M G
  rw [pc_ext (show x < 2 ^ 12 from h) (by decide)]; exact kk)
theorem c143 {S : Nat → Int} (hd : 30 ≤ d) (hm : ∀ k : Nat, k < 12 → M 77 k = ((ndS S 0 k : Nat) : Int)) (kk : ∀ x : Nat, isB S (allM S) x → P (x : Int) M G) : sC d 143 [vO 5 76] M G (QI P) := by
  obtain ⟨d, rfl⟩ := sD 20 (d := d) (by omega)
  have hn : ∀ s, s < 12 → ndS S 0 s < 4096 := fun s _ => ndS_lt S 0 s
  refine e143 (s143_0 (?_))
  refine c142 (X := 4095) (by omega) hn hm (by decide) (fun K k0 hK => ?_)
  refine c113n (by omega) k0 ?_
  have vK : valS S K := fun U hU he hd => by
    have h1 := hK.2.2 U (sub_all hU) he
    exact suB.eq (fun q hq => absurd (h1 q hq) (hd q hq)) (fun q hq => absurd hq tb0)
  refine sUpTo (W := fun i => ∀ b : Nat, b < 4096 → suB b K → valS S b → (b = K ∨ b < i) → (∀ y : Nat, y < i → suB y K → valS S y → lexL b y) → sW (sC (d + 19)) 143 (QI P) 15 [vO 5 76, vI (K : Int), vI (b : Int), vI (nS (pcF b) 12), vI (i : Int)] [] M G 0 0) K ?_ ?_ K k0 (fun _ h => h) vK (Or.inl rfl) (fun y hy => absurd hy (Nat.not_lt_zero _))
  · intro b b0 b1 b2 b3 b4
    refine (s143_15 ⟨fun q1 => ?_, fun q2 => ⟨fun q3 => ⟨⟨by omega, by omega⟩, ?_⟩, fun q4 => ?_⟩⟩)
    · refine kk b (isB.all k0 hK ⟨b0, b1, b2, fun y y0 y1 y2 => ?_⟩)
      have yl : y ≤ K := Nat.le_of_testBit y1
      by_cases c : y = K
      · rw [c]
        have h1 := pc_sub b1 12
        have h2 : b ≤ K := Nat.le_of_testBit b1
        unfold lexL
        omega
      · exact b4 y (by omega) y1 y2
    all_goals omega
  · intro i hi ih b b0 b1 b2 b3 b4
    have ed : iAnd (i : Int) (iXor (K : Int) (-1)) = ((i &&& (i ^^^ K) : Nat) : Int) := n_dif (by omega)
    have ed2 : iAnd (K : Int) (iXor (i : Int) (-1)) = ((K &&& (K ^^^ i) : Nat) : Int) := n_dif (by omega)
    have l2 : K &&& (K ^^^ i) ≤ K := Nat.and_le_left
    have skip : (suB i K → valS S i → lexL b i) → sW (sC (d + 19)) 143 (QI P) 15 [vO 5 76, vI (K : Int), vI (b : Int), vI (nS (pcF b) 12), vI ((i + 1 : Nat) : Int)] [] M G 0 0 := fun h => ih b b0 b1 b2 (by omega) (fun y hy y1 y2 => by
      by_cases c : y = i
      · rw [c] at y1 y2 ⊢; exact h y1 y2
      · exact b4 y (by omega) y1 y2)
    refine (s143_15 ⟨fun q1 => ?_, fun q2 => ⟨fun q3 => ⟨⟨by omega, by omega⟩, ?_⟩, fun q4 => ?_⟩⟩)
    · omega
    · rw [ed] at q3
      exact skip (fun h => absurd (dif_0.mpr h) (by omega))
    · rw [ed] at q4
      have sub := dif_0.mp (show i &&& (i ^^^ K) = 0 by omega)
      have lti := pc_lt sub (by omega) k0 (by omega)
      refine c113n (by omega) (by omega) ?_
      refine ⟨fun q5 => ⟨⟨by omega, by omega⟩, ?_⟩, fun q6 => ?_⟩
      · refine skip (fun _ _ => ?_)
        rcases b3 with z | z
        · rw [z] at q5; omega
        · unfold lexL; omega
      · rw [ed2]
        refine c142 (X := K &&& (K ^^^ i)) (by omega) hn hm (by omega) (fun T t0 hT => ?_)
        have hv := val_cls hK hT t0
        refine ⟨fun q7 => ⟨⟨by omega, by omega⟩, ?_⟩, fun q8 => ?_⟩
        · exact skip (fun _ z => absurd (hv.mpr z) (by omega))
        · refine c113n (by omega) (by omega) ?_
          refine ⟨⟨by omega, by omega⟩, ?_⟩
          refine ih i (by omega) sub (hv.mp (by omega)) (Or.inr (by omega)) (fun y hy y1 y2 => ?_)
          by_cases c : y = i
          · rw [c]; exact lexL.refl i
          · have := b4 y (by omega) y1 y2
            unfold lexL at this ⊢
            omega
    all_goals omega
end
