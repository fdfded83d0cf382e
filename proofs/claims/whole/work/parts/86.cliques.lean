/-! The class: the most of which each two are joined; the fewest parts. -/
theorem bit_off {X p q : Nat} : (X &&& (X ^^^ 2 ^ p)).testBit q = true ↔ X.testBit q = true ∧ q ≠ p := by
  rw [bit_dif, bit_pow, Bool.and_eq_true, Bool.not_eq_true', decide_eq_false_iff_not]
  exact ⟨fun h => ⟨h.1, fun z => h.2 z.symm⟩, fun h => ⟨h.1, fun z => h.2 z.symm⟩⟩
theorem bit_same {X p : Nat} : X &&& (X ^^^ 2 ^ p) = X ↔ ¬ X.testBit p = true := by
  constructor
  · intro h z
    rw [← h] at z
    exact (bit_off.mp z).2 rfl
  · intro h
    exact suB.eq (fun q hq => (bit_off.mp hq).1) (fun q hq => bit_off.mpr ⟨hq, fun z => h (by rw [← z]; exact hq)⟩)
theorem pc_off {X p : Nat} (hp : p < 12) (h : X.testBit p = true) : nS (pcF X) 12 = nS (pcF (X &&& (X ^^^ 2 ^ p))) 12 + 1 := by
  have hn : ¬ (X &&& (X ^^^ 2 ^ p)).testBit p = true := fun z => (bit_off.mp z).2 rfl
  rw [← pc_or hn hp]
  have e : X &&& (X ^^^ 2 ^ p) ||| 2 ^ p = X := suB.eq (fun q hq => by
    rcases or_tb.mp hq with z | z
    · exact (bit_off.mp z).1
    · rw [← z]; exact h) (fun q hq => by
    by_cases c : p = q
    · exact or_tb.mpr (Or.inr c)
    · exact or_tb.mpr (Or.inl (bit_off.mpr ⟨hq, fun z => c z.symm⟩)))
  rw [e]
section
variable {adj : Nat → Nat → Prop}
theorem ga_0 : gaP adj 0 0 := ⟨⟨0, fun _ h => h, fun i _ hi => absurd hi tb0, pc_zero 12⟩, fun Y hY _ => by
  have : Y = 0 := suB.eq hY (fun q hq => absurd hq tb0)
  rw [this, pc_zero]; decide⟩
theorem ga_with {X p A : Nat} {r1 : Int} (hsy : ∀ i j, adj i j → adj j i) (hp : p < 12) (hx : X.testBit p = true) (hA : ∀ q : Nat, A.testBit q = true → q < 12 → (q ≠ p → adj p q)) (hA2 : ∀ q : Nat, X.testBit q = true → q ≠ p → adj p q → A.testBit q = true) (hX : X < 4096) (h1 : gaP adj ((X &&& (X ^^^ 2 ^ p)) &&& A) r1) : (∀ r2 : Int, gaP adj (X &&& (X ^^^ 2 ^ p)) r2 → gaP adj X (if 1 + r1 < r2 then r2 else 1 + r1)) ∧ ((∀ q : Nat, (X &&& (X ^^^ 2 ^ p)).testBit q = true → A.testBit q = true) → gaP adj X (1 + r1)) := by
  obtain ⟨⟨Y, y1, y2, y3⟩, h2⟩ := h1
  have yb : ∀ q, Y.testBit q = true → X.testBit q = true ∧ q ≠ p ∧ adj p q := fun q hq => by
    have := y1 q hq
    rw [Nat.testBit_and, Bool.and_eq_true] at this
    obtain ⟨a, b⟩ := bit_off.mp this.1
    exact ⟨a, b, hA q this.2 (bit_lt hX a) b⟩
  have one : ∃ Z, suB Z X ∧ clQ adj Z ∧ nS (pcF Z) 12 = 1 + r1 := by
    have hn : ¬ Y.testBit p = true := fun z => (yb p z).2.1 rfl
    refine ⟨Y ||| 2 ^ p, fun q hq => ?_, fun i j hi hj ne => ?_, by rw [pc_or hn hp, y3]; omega⟩
    · rcases or_tb.mp hq with z | z
      · exact (yb q z).1
      · rw [← z]; exact hx
    · rcases or_tb.mp hi with z | z
      · rcases or_tb.mp hj with w | w
        · exact y2 i j z w ne
        · rw [← w]; exact hsy _ _ (yb i z).2.2
      · rcases or_tb.mp hj with w | w
        · rw [← z]; exact (yb j w).2.2
        · exact absurd (z.symm.trans w) ne
  have le : ∀ Z, suB Z X → clQ adj Z → Z.testBit p = true → nS (pcF Z) 12 ≤ 1 + r1 := fun Z z1 z2 z3 => by
    have := h2 (Z &&& (Z ^^^ 2 ^ p)) (fun q hq => by
      obtain ⟨a, b⟩ := bit_off.mp hq
      rw [Nat.testBit_and, Bool.and_eq_true]
      exact ⟨bit_off.mpr ⟨z1 q a, b⟩, hA2 q (z1 q a) b (z2 p q z3 a (Ne.symm b))⟩) (fun i j hi hj => z2 i j (bit_off.mp hi).1 (bit_off.mp hj).1)
    rw [pc_off hp z3]
    omega
  have wo : ∀ Z, suB Z X → ¬ Z.testBit p = true → suB Z (X &&& (X ^^^ 2 ^ p)) := fun Z z1 z2 q hq => bit_off.mpr ⟨z1 q hq, fun z => z2 (by rw [← z]; exact hq)⟩
  constructor
  · intro r2 h3
    obtain ⟨⟨W, w1, w2, w3⟩, h4⟩ := h3
    obtain ⟨Z, z1, z2, z3⟩ := one
    constructor
    · by_cases c : 1 + r1 < r2
      · rw [if_pos c]; exact ⟨W, fun q hq => (bit_off.mp (w1 q hq)).1, w2, w3⟩
      · rw [if_neg c]; exact ⟨Z, z1, z2, z3⟩
    · intro V v1 v2
      by_cases v : V.testBit p = true
      · have := le V v1 v2 v
        split <;> omega
      · have := h4 V (wo V v1 v) v2
        split <;> omega
  · intro hs
    refine ⟨one, fun V v1 v2 => ?_⟩
    by_cases v : V.testBit p = true
    · exact le V v1 v2 v
    · have := h2 V (fun q hq => by
        have := wo V v1 v q hq
        rw [Nat.testBit_and, Bool.and_eq_true]
        exact ⟨this, hs q this⟩) v2
      omega
end
section
variable {G : sG} {adj : Nat → Nat → Prop} {n : Nat} {am : Nat → Nat}
theorem c117 (hn : n ≤ 12) (ha0 : ∀ i, i < n → am i < 4096) (ha : ∀ i j, i < n → ((am i).testBit j = true ↔ j < n ∧ adj i j)) (hsy : ∀ i j, adj i j → adj j i) : ∀ (k d : Nat) (M : sM) (point X : Nat) (P : Int → sM → sG → Prop), k + 2 ≤ d → point + k = n → X < 4096 → (∀ q : Nat, X.testBit q = true → point ≤ q ∧ q < n) → M 60 8 = (n : Int) → (∀ i, i < n → M 66 i = ((am i : Nat) : Int)) → (∀ g : Int, gaP adj X g → P g M G) → sC d 117 [vO 1 60, vI (point : Int), vI (X : Int)] M G (QI P) := by
  intro k
  induction k with
  | zero =>
    intro d M point X P hd hp hX hq m1 m2 kk
    obtain ⟨d, rfl⟩ := sD 2 (d := d) (by omega)
    have e : X = 0 := suB.eq (fun q h => by have := hq q h; omega) (fun q h => absurd h tb0)
    subst e
    refine e117 (s117_0 ⟨fun q1 => ?_, fun q2 => ⟨fun q3 => ⟨fun q4 => ⟨⟨by omega, by omega⟩, ⟨(by first | omega | assumption | (refine ⟨?_, ?_⟩ <;> omega) | (simp_all; done)), (by first | omega | assumption | (refine ⟨?_, ?_⟩ <;> omega) | (simp_all; done))⟩, ?_⟩, fun q7 => ⟨⟨by omega, by omega⟩, ?_⟩⟩, fun q8 => ?_⟩⟩)
    · exact kk 0 ga_0
    all_goals omega
  | succ k ihk =>
    intro d M point X P hd hp hX hq m1 m2 kk
    obtain ⟨d, rfl⟩ := sD 2 (d := d) (by omega)
    have pl : point < n := by omega
    have esh : iShl 1 (point : Int) = ((2 ^ point : Nat) : Int) := z_bit (by omega) (by omega)
    have ed : iAnd (X : Int) (iXor (iShl 1 (point : Int)) (-1)) = ((X &&& (X ^^^ 2 ^ point) : Nat) : Int) := by rw [esh]; exact n_dif (by omega)
    have l1 : X &&& (X ^^^ 2 ^ point) ≤ X := Nat.and_le_left
    have e66 : M 66 ((point : Int)).toNat = ((am point : Nat) : Int) := m2 point pl
    have apl := ha0 point pl
    have ea : iAnd ((X &&& (X ^^^ 2 ^ point) : Nat) : Int) ((am point : Nat) : Int) = (((X &&& (X ^^^ 2 ^ point)) &&& am point : Nat) : Int) := n_and (by omega)
    have l2 : (X &&& (X ^^^ 2 ^ point)) &&& am point ≤ X &&& (X ^^^ 2 ^ point) := Nat.and_le_left
    have ee : iAnd ((X &&& (X ^^^ 2 ^ point) : Nat) : Int) (iXor ((am point : Nat) : Int) (-1)) = (((X &&& (X ^^^ 2 ^ point)) &&& ((X &&& (X ^^^ 2 ^ point)) ^^^ am point) : Nat) : Int) := n_dif (by omega)
    have hq1 : ∀ q : Nat, (X &&& (X ^^^ 2 ^ point)).testBit q = true → point + 1 ≤ q ∧ q < n := fun q h => by
      obtain ⟨a, b⟩ := bit_off.mp h
      have := hq q a
      omega
    have pi : (point : Int) + 1 = ((point + 1 : Nat) : Int) := by omega
    refine e117 (s117_0 ⟨fun q1 => ?_, fun q2 => ⟨fun q3 => ⟨fun q4 => ⟨⟨by omega, by omega⟩, ⟨(by first | omega | assumption | (refine ⟨?_, ?_⟩ <;> omega) | (simp_all; done)), (by first | omega | assumption | (refine ⟨?_, ?_⟩ <;> omega) | (simp_all; done))⟩, ?_⟩, fun q7 => ⟨⟨by omega, by omega⟩, ?_⟩⟩, fun q8 => ?_⟩⟩)
    · omega
    · rw [ed] at q4
      rw [ed, e66, ea, pi]
      have hx : X.testBit point = true := Classical.byContradiction fun z => q4 (by rw [bit_same.mpr z])
      refine ihk (d + 1) M (point + 1) _ _ (by omega) (by omega) (by omega) (fun q h => hq1 q (by rw [Nat.testBit_and, Bool.and_eq_true] at h; exact h.1)) m1 m2 (fun r1 h1 => ?_)
      obtain ⟨w1, w2⟩ := ga_with (adj := adj) (A := am point) hsy (by omega) hx (fun q a b c => ((ha point q pl).mp a).2) (fun q a b c => (ha point q pl).mpr ⟨(hq q a).2, c⟩) hX h1
      have hb := h1.b
      refine ⟨⟨by omega, by omega⟩, fun q5 => ?_, fun q6 => ?_⟩
      · refine ihk (d + 1) M (point + 1) _ _ (by omega) (by omega) (by omega) hq1 m1 m2 (fun r2 h2 => ?_)
        exact kk _ (w1 r2 h2)
      · rw [e66, ee] at q6
        exact kk _ (w2 (dif_0.mp (by omega)))
      all_goals omega
    · rw [ed] at q7
      have hx : ¬ X.testBit point = true := bit_same.mp (by omega)
      rw [pi]
      exact ihk (d + 1) M (point + 1) X _ (by omega) (by omega) hX (fun q h => by
        have := hq q h
        have : q ≠ point := fun z => hx (by rw [← z]; exact h)
        omega) m1 m2 (fun g h => kk g h)
    · have e : X = 0 := by omega
      subst e
      exact kk 0 ga_0
    all_goals omega
theorem ones_b {n i : Nat} : (2 ^ n - 1).testBit i = true ↔ i < n := by rw [Nat.testBit_two_pow_sub_one, decide_eq_true_iff]
theorem c116 {d : Nat} {M : sM} {P : Int → sM → sG → Prop} (hd : 20 ≤ d) (hn : n ≤ 12) (ha0 : ∀ i, i < n → am i < 4096) (ha : ∀ i j, i < n → ((am i).testBit j = true ↔ j < n ∧ adj i j)) (hsy : ∀ i j, adj i j → adj j i) (m1 : M 60 8 = (n : Int)) (m2 : ∀ i, i < n → M 66 i = ((am i : Nat) : Int)) (kk : ∀ g : Int, gaP adj (2 ^ n - 1) g → P g M G) : sC d 116 [vO 1 60] M G (QI P) := by
  obtain ⟨d, rfl⟩ := sD 2 (d := d) (by omega)
  have hp := p12 hn
  have h2 := Nat.two_pow_pos n
  have esh : iShl 1 (M 60 8) = ((2 ^ n : Nat) : Int) := by rw [m1]; exact z_bit (by omega) (by omega)
  have e1 : (iShl 1 (M 60 8)) - 1 = ((2 ^ n - 1 : Nat) : Int) := by omega
  refine e116 (s116_0 ⟨⟨by omega, by omega⟩, ?_⟩)
  rw [e1]
  exact c117 hn ha0 ha hsy n (d + 1) M 0 (2 ^ n - 1) _ (by omega) (by omega) (by omega) (fun q h => ⟨Nat.zero_le _, ones_b.mp h⟩) m1 m2 (fun g h => kk g h)
theorem exT_0 (hir : ∀ i, ¬ adj i i) {many : Nat} : exT adj n many 0 (fun _ => 0) ↔ coL adj (2 ^ n - 1) many := by
  constructor
  · rintro ⟨c, -, c2, c3⟩
    exact ⟨c, fun i hi => c2 i (ones_b.mp hi), fun i j hi hj _ ha => c3 i j (ones_b.mp hi) (ones_b.mp hj) ha⟩
  · rintro ⟨c, c2, c3⟩
    exact ⟨c, fun i hi => absurd hi (Nat.not_lt_zero _), fun i hi => c2 i (ones_b.mpr hi), fun i j hi hj ha => c3 i j (ones_b.mpr hi) (ones_b.mpr hj) (fun z => hir i (by rw [← z] at ha; exact ha)) ha⟩
theorem c115 {d : Nat} {M : sM} {P : Int → sM → sG → Prop} (hd : 30 ≤ d) (hn : n ≤ 12) (ha0 : ∀ i, i < n → am i < 4096) (ha : ∀ i j, i < n → ((am i).testBit j = true ↔ j < n ∧ adj i j)) (hsy : ∀ i j, adj i j → adj j i) (hir : ∀ i, ¬ adj i i) (m1 : M 60 8 = (n : Int)) (m2 : ∀ i, i < n → M 66 i = ((am i : Nat) : Int)) (kk : ∀ h : Nat, chI adj (2 ^ n - 1) h → ∀ M' : sM, (∀ a, a ≠ 67 → M' a = M a) → P (h : Int) M' G) : sC d 115 [vO 1 60] M G (QI P) := by
  obtain ⟨d, rfl⟩ := sD 22 (d := d) (by omega)
  have cn : coL adj (2 ^ n - 1) n := ⟨fun i => i, fun i hi => ones_b.mp hi, fun i j _ _ ne _ => ne⟩
  refine e115 (s115_0 (?_))
  refine c116 (by omega) hn ha0 ha hsy m1 m2 (fun g hg => ?_)
  obtain ⟨⟨Y, y1, y2, y3⟩, -⟩ := hg
  have gl := cl_le y1 y2 cn
  have g0 := (pc12 (m := Y)).1
  have main : sW (sC (d + 21)) 115 (QI P) 5 [vO 1 60, vI (g.toNat : Int)] [] M G 0 0 := by
    refine sUpFrom (W := fun m => ∀ N : sM, (∀ a, a ≠ 67 → N a = M a) → (∀ k : Nat, k < m → ¬ coL adj (2 ^ n - 1) k) → sW (sC (d + 21)) 115 (QI P) 5 [vO 1 60, vI (m : Int)] [] N G 0 0) g.toNat n (by omega) ?_ ?_ M (fun _ _ => rfl) (fun k hk hc => by
      have := cl_le y1 y2 hc
      omega)
    · intro N n1 n2
      have e8 : N 60 8 = (n : Int) := by rw [n1 60 (by decide)]; exact m1
      refine (s115_5 ⟨fun q1 => ?_, fun q2 => ?_⟩)
      · rw [e8]
        exact kk n ⟨cn, fun k' hc => by
          rcases Nat.lt_or_ge k' n with z | z
          · exact absurd hc (n2 k' z)
          · exact z⟩ N n1
      · omega
    · intro m hm1 hm2 ih N n1 n2
      have e8 : N 60 8 = (n : Int) := by rw [n1 60 (by decide)]; exact m1
      refine (s115_5 ⟨fun q1 => ?_, fun q2 => ?_⟩)
      · omega
      · refine c118 (n := n) (am := am) (adj := adj) hn ha0 ha hsy hir (many := m) (by omega) n (d + 21) N 0 0 (fun _ => 0) _ (by omega) (by omega) (Nat.le_refl _) (fun i hi => absurd hi (Nat.not_lt_zero _)) (fun i hi => absurd hi (Nat.not_lt_zero _)) (fun i _ hi => absurd hi (Nat.not_lt_zero _)) e8 (fun i hi => by rw [n1 66 (by decide)]; exact m2 i hi) (fun j hj => absurd hj (Nat.not_lt_zero _)) (fun h M' hM' => ?_) (fun h M' hM' _ => ?_)
        · refine ⟨fun q3 => ⟨⟨by omega, by omega⟩, ?_⟩, fun q4 => ?_⟩
          · omega
          · exact kk m ⟨(exT_0 hir).mp h, fun k' hc => by
              rcases Nat.lt_or_ge k' m with z | z
              · exact absurd hc (n2 k' z)
              · exact z⟩ M' (fun a h9 => (hM' a h9).trans (n1 a h9))
        · refine ⟨fun q3 => ⟨⟨by omega, by omega⟩, ?_⟩, fun q4 => ?_⟩
          · exact ih M' (fun a h9 => (hM' a h9).trans (n1 a h9)) (fun k hk => by
              by_cases c : k = m
              · rw [c]; exact fun z => h ((exT_0 hir).mpr z)
              · exact n2 k (by omega))
          · omega
  rw [← z_nat (by omega)] at main
  refine ?_
  exact main
end
