/-! COLOURS: sets of points of which no two are joined, and of which each two are. -/
def inD (adj : Nat → Nat → Prop) (X : Nat) : Prop := ∀ i j : Nat, X.testBit i = true → X.testBit j = true → i ≠ j → ¬ adj i j
def clQ (adj : Nat → Nat → Prop) (X : Nat) : Prop := ∀ i j : Nat, X.testBit i = true → X.testBit j = true → i ≠ j → adj i j
def coL (adj : Nat → Nat → Prop) (X k : Nat) : Prop := ∃ c : Nat → Nat, (∀ i : Nat, X.testBit i = true → c i < k) ∧ ∀ i j : Nat, X.testBit i = true → X.testBit j = true → i ≠ j → adj i j → c i ≠ c j
def chI (adj : Nat → Nat → Prop) (X k : Nat) : Prop := coL adj X k ∧ ∀ k' : Nat, coL adj X k' → k ≤ k'
theorem chI.uniq {adj : Nat → Nat → Prop} {X k k' : Nat} (h : chI adj X k) (h' : chI adj X k') : k = k' := by
  have a := h.2 k' h'.1
  have b := h'.2 k h.1
  omega
def gaP (adj : Nat → Nat → Prop) (X : Nat) (g : Int) : Prop := (∃ Y : Nat, suB Y X ∧ clQ adj Y ∧ nS (pcF Y) 12 = g) ∧ ∀ Y : Nat, suB Y X → clQ adj Y → nS (pcF Y) 12 ≤ g
theorem gaP.uniq {adj : Nat → Nat → Prop} {X : Nat} {g g' : Int} (h : gaP adj X g) (h' : gaP adj X g') : g = g' := by
  obtain ⟨Y, y1, y2, y3⟩ := h.1
  obtain ⟨Z, z1, z2, z3⟩ := h'.1
  have a := h'.2 Y y1 y2
  have b := h.2 Z z1 z2
  omega
theorem gaP.b {adj : Nat → Nat → Prop} {X : Nat} {g : Int} (h : gaP adj X g) : 0 ≤ g ∧ g ≤ 12 := by
  obtain ⟨Y, y1, y2, y3⟩ := h.1
  have := pc12 (m := Y)
  omega
theorem nS_le1 {f : Nat → Int} : ∀ {n : Nat}, (∀ i, i < n → f i = 0 ∨ f i = 1) → (∀ i j, i < n → j < n → f i = 1 → f j = 1 → i = j) → nS f n ≤ 1
  | 0, _, _ => by show (0 : Int) ≤ 1; decide
  | n + 1, h1, h2 => by
    have ih := nS_le1 (f := f) (n := n) (fun i hi => h1 i (by omega)) (fun i j hi hj => h2 i j (by omega) (by omega))
    show nS f n + f n ≤ 1
    rcases h1 n (by omega) with z | z
    · omega
    · have : nS f n = 0 := (nS_zero (f := f) (n := n) (fun i hi => by rcases h1 i (by omega) with y | y <;> omega)).mpr (fun i hi => by
        rcases h1 i (by omega) with y | y
        · exact y
        · have := h2 i n (by omega) (by omega) y z; omega)
      omega
/-- where each two are joined each has a colour of his own -/
theorem cl_le {adj : Nat → Nat → Prop} {X Y k : Nat} (hs : suB Y X) (hc : clQ adj Y) (h : coL adj X k) : nS (pcF Y) 12 ≤ (k : Int) := by
  obtain ⟨c, c1, c2⟩ := h
  have e : nS (pcF Y) 12 = nS (fun i => nS (fun j => if Y.testBit i = true ∧ c i = j then (1 : Int) else 0) k) 12 := nS_congr (fun i _ => by
    show (if Y.testBit i then (1 : Int) else 0) = _
    by_cases y : Y.testBit i = true
    · rw [if_pos y]
      have hlt := c1 i (hs i y)
      have e2 : nS (fun j => if Y.testBit i = true ∧ c i = j then (1 : Int) else 0) k = nS (fun j => if ((c i : Nat) : Int) = (j : Int) then (1 : Int) else 0) k := nS_congr (fun j _ => by
        show (if Y.testBit i = true ∧ c i = j then (1 : Int) else 0) = if ((c i : Nat) : Int) = (j : Int) then 1 else 0
        by_cases z : c i = j
        · rw [if_pos ⟨y, z⟩, if_pos (by omega)]
        · rw [if_neg (fun w => z w.2), if_neg (by omega)])
      rw [e2, nS_hit, if_pos (by omega)]
    · rw [if_neg y]
      exact ((nS_zero (f := fun j => if Y.testBit i = true ∧ c i = j then (1 : Int) else 0) (n := k) (fun j _ => by show 0 ≤ (if Y.testBit i = true ∧ c i = j then (1 : Int) else 0); split <;> decide)).mpr (fun j _ => if_neg (fun w => y w.1))).symm)
  rw [e, nS_swap]
  have := nS_le (f := fun j => nS (fun i => if Y.testBit i = true ∧ c i = j then (1 : Int) else 0) 12) (c := 1) (n := k) (fun j _ => nS_le1 (fun i _ => by
    show (if Y.testBit i = true ∧ c i = j then (1 : Int) else 0) = 0 ∨ (if Y.testBit i = true ∧ c i = j then (1 : Int) else 0) = 1
    split
    · exact Or.inr rfl
    · exact Or.inl rfl) (fun i i' _ _ h1 h2 => by
    have a : Y.testBit i = true ∧ c i = j := Classical.byContradiction fun z => by rw [if_neg z] at h1; exact absurd h1 (by decide)
    have b : Y.testBit i' = true ∧ c i' = j := Classical.byContradiction fun z => by rw [if_neg z] at h2; exact absurd h2 (by decide)
    refine Classical.byContradiction fun ne => ?_
    exact c2 i i' (hs i a.1) (hs i' b.1) ne (hc i i' a.1 b.1 ne) (a.2.trans b.2.symm)))
  omega
def difB (X Y Z : Nat) : Prop := ∀ q : Nat, Z.testBit q = true ↔ X.testBit q = true ∧ ¬ Y.testBit q = true
/-- one colour taken off -/
theorem ch_step {adj : Nat → Nat → Prop} {X low v : Nat} (hX : X < 4096) (hl : X.testBit low = true) (h1 : ∃ Y Z : Nat, suB Y X ∧ inD adj Y ∧ difB X Y Z ∧ coL adj Z v) (h2 : ∀ Y Z k : Nat, suB Y X → Y.testBit low = true → inD adj Y → difB X Y Z → coL adj Z k → v ≤ k) : chI adj X (v + 1) := by
  constructor
  · obtain ⟨Y, Z, y1, y2, y3, c, c1, c2⟩ := h1
    refine ⟨fun i => if Y.testBit i = true then v else c i, fun i hi => ?_, fun i j hi hj ne ha => ?_⟩
    · show (if Y.testBit i = true then v else c i) < v + 1
      by_cases z : Y.testBit i = true
      · rw [if_pos z]; omega
      · rw [if_neg z]
        have := c1 i ((y3 i).mpr ⟨hi, z⟩)
        omega
    · show (if Y.testBit i = true then v else c i) ≠ (if Y.testBit j = true then v else c j)
      by_cases z : Y.testBit i = true
      · by_cases w : Y.testBit j = true
        · exact absurd ha (y2 i j z w ne)
        · rw [if_pos z, if_neg w]
          have := c1 j ((y3 j).mpr ⟨hj, w⟩)
          omega
      · by_cases w : Y.testBit j = true
        · rw [if_neg z, if_pos w]
          have := c1 i ((y3 i).mpr ⟨hi, z⟩)
          omega
        · rw [if_neg z, if_neg w]
          exact c2 i j ((y3 i).mpr ⟨hi, z⟩) ((y3 j).mpr ⟨hj, w⟩) ne ha
  · rintro k' ⟨c, c1, c2⟩
    have hlk := c1 low hl
    have yb : ∀ q : Nat, (mskN (fun i => X.testBit i && decide (c i = c low)) 12).testBit q = true ↔ X.testBit q = true ∧ c q = c low := fun q => by
      rw [mskN_bit, Bool.and_eq_true, Bool.and_eq_true, decide_eq_true_iff, decide_eq_true_iff]
      exact ⟨fun h => h.2, fun h => ⟨bit_lt hX h.1, h⟩⟩
    have zb : ∀ q : Nat, (mskN (fun i => X.testBit i && !decide (c i = c low)) 12).testBit q = true ↔ X.testBit q = true ∧ ¬ c q = c low := fun q => by
      rw [mskN_bit, Bool.and_eq_true, Bool.and_eq_true, decide_eq_true_iff, Bool.not_eq_true', decide_eq_false_iff_not]
      exact ⟨fun h => h.2, fun h => ⟨bit_lt hX h.1, h⟩⟩
    have := h2 _ _ (k' - 1) (fun q hq => ((yb q).mp hq).1) ((yb low).mpr ⟨hl, rfl⟩) (fun i j hi hj ne ha => by
      obtain ⟨a1, a2⟩ := (yb i).mp hi
      obtain ⟨b1, b2⟩ := (yb j).mp hj
      exact c2 i j a1 b1 ne ha (a2.trans b2.symm)) (fun q => by
      rw [zb, yb]
      exact ⟨fun h => ⟨h.1, fun z => h.2 z.2⟩, fun h => ⟨h.1, fun z => h.2 ⟨h.1, z⟩⟩⟩) ⟨fun i => if c low < c i then c i - 1 else c i, fun i hi => ?_, fun i j hi hj ne ha => ?_⟩
    · omega
    · obtain ⟨a1, a2⟩ := (zb i).mp hi
      have := c1 i a1
      show (if c low < c i then c i - 1 else c i) < k' - 1
      by_cases z : c low < c i
      · rw [if_pos z]; omega
      · rw [if_neg z]; omega
    · obtain ⟨a1, a2⟩ := (zb i).mp hi
      obtain ⟨b1, b2⟩ := (zb j).mp hj
      have := c2 i j a1 b1 ne ha
      show (if c low < c i then c i - 1 else c i) ≠ (if c low < c j then c j - 1 else c j)
      by_cases z : c low < c i
      · rw [if_pos z]
        by_cases w : c low < c j
        · rw [if_pos w]; omega
        · rw [if_neg w]; omega
      · rw [if_neg z]
        by_cases w : c low < c j
        · rw [if_pos w]; omega
        · rw [if_neg w]; omega
theorem ch_0 {adj : Nat → Nat → Prop} : chI adj 0 0 := ⟨⟨fun _ => 0, fun i hi => absurd hi tb0, fun i _ hi => absurd hi tb0⟩, fun _ _ => Nat.zero_le _⟩
/-- colours that go on from those of the first points -/
def exT (adj : Nat → Nat → Prop) (n many point : Nat) (c0 : Nat → Nat) : Prop := ∃ c : Nat → Nat, (∀ i, i < point → c i = c0 i) ∧ (∀ i, i < n → c i < many) ∧ ∀ i j, i < n → j < n → adj i j → c i ≠ c j
def upC (c0 : Nat → Nat) (p v : Nat) : Nat → Nat := fun i => if i = p then v else c0 i
def okP (adj : Nat → Nat → Prop) (point part : Nat) (c0 : Nat → Nat) : Prop := ∀ i, i < point → c0 i = part → ¬ adj point i
section
variable {adj : Nat → Nat → Prop} {n many point begun : Nat} {c0 : Nat → Nat}
theorem exT_up {part : Nat} (h : exT adj n many (point + 1) (upC c0 point part)) : exT adj n many point c0 := by
  obtain ⟨c, c1, c2, c3⟩ := h
  refine ⟨c, fun i hi => ?_, c2, c3⟩
  have := c1 i (by omega)
  unfold upC at this
  rw [if_neg (by omega)] at this
  exact this
theorem exT_dn (hp : point < n) (hb : ∀ i, i < point → c0 i < begun) (h : exT adj n many point c0) : ∃ part, part ≤ begun ∧ part < many ∧ okP adj point part c0 ∧ exT adj n many (point + 1) (upC c0 point part) := by
  obtain ⟨c, c1, c2, c3⟩ := h
  have hv := c2 point hp
  by_cases lt : c point < begun
  · refine ⟨c point, by omega, hv, fun i hi e ha => ?_, c, fun i hi => ?_, c2, c3⟩
    · have := c3 point i hp (by omega) ha
      have := c1 i hi
      omega
    · unfold upC
      by_cases z : i = point
      · rw [if_pos z, z]
      · rw [if_neg z]; exact c1 i (by omega)
  · -- his colour and the first new one change places
    have inj : ∀ x y : Nat, (if x = c point then begun else if x = begun then c point else x) = (if y = c point then begun else if y = begun then c point else y) → x = y := fun x y h => by
      by_cases x1 : x = c point
      · rw [if_pos x1] at h
        by_cases y1 : y = c point
        · omega
        · rw [if_neg y1] at h
          by_cases y2 : y = begun
          · rw [if_pos y2] at h; omega
          · rw [if_neg y2] at h; omega
      · rw [if_neg x1] at h
        by_cases x2 : x = begun
        · rw [if_pos x2] at h
          by_cases y1 : y = c point
          · rw [if_pos y1] at h; omega
          · rw [if_neg y1] at h
            by_cases y2 : y = begun
            · omega
            · rw [if_neg y2] at h; omega
        · rw [if_neg x2] at h
          by_cases y1 : y = c point
          · rw [if_pos y1] at h; omega
          · rw [if_neg y1] at h
            by_cases y2 : y = begun
            · rw [if_pos y2] at h; omega
            · rw [if_neg y2] at h; exact h
    refine ⟨begun, Nat.le_refl _, by omega, fun i hi e => by have := hb i hi; omega, fun i => if c i = c point then begun else if c i = begun then c point else c i, fun i hi => ?_, fun i hi => ?_, fun i j hi hj ha z => c3 i j hi hj ha (inj _ _ z)⟩
    · show (if c i = c point then begun else if c i = begun then c point else c i) = upC c0 point begun i
      unfold upC
      by_cases z : i = point
      · rw [if_pos z, z, if_pos rfl]
      · have h1 := c1 i (by omega)
        have h2 := hb i (by omega)
        rw [if_neg z, if_neg (by omega), if_neg (by omega)]
        exact h1
    · show (if c i = c point then begun else if c i = begun then c point else c i) < many
      have := c2 i hi
      by_cases z : c i = c point
      · rw [if_pos z]; omega
      · rw [if_neg z]
        by_cases w : c i = begun
        · rw [if_pos w]; exact hv
        · rw [if_neg w]; exact this
end
