/-! THE STREET: clauses and all of it; the class's side. -/
abbrev stT : Type := Nat × Nat × Nat × (Nat → Int) × (Nat → Int)
def put3 (H : Nat → Int) (k : Nat) (a b c : Int) : Nat → Int := fun i => if i = 3 * k then a else if i = 3 * k + 1 then b else if i = 3 * k + 2 then c else H i
def put5 (Y : Nat → Int) (k : Nat) (a b c e f : Int) : Nat → Int := fun i => if i = 5 * k then a else if i = 5 * k + 1 then b else if i = 5 * k + 2 then c else if i = 5 * k + 3 then e else if i = 5 * k + 4 then f else Y i
/-- a clause of a street: the fault, and what is read then -/
def clauseF (T : Nat → Int) (n : Nat) (more : Bool) (σ : stT) : Int × stT :=
  if atB T n (blk T n σ.1) wHouse = true then
    if more = false ∨ 6 ≤ σ.2.1 then (1 + 8 * (blk T n σ.1 : Int) + 4, σ)
    else if (houseF T n (blk T n σ.1 + 5)).1 ≠ 0 then ((houseF T n (blk T n σ.1 + 5)).1, σ)
    else (0, ((houseF T n (blk T n σ.1 + 5)).2.1, σ.2.1 + 1, σ.2.2.1, put3 σ.2.2.2.1 σ.2.1 (houseF T n (blk T n σ.1 + 5)).2.2.1 (houseF T n (blk T n σ.1 + 5)).2.2.2.1 (houseF T n (blk T n σ.1 + 5)).2.2.2.2, σ.2.2.2.2))
  else if atB T n (blk T n σ.1) wStay = true then
    if more = false ∨ 18 ≤ σ.2.2.1 then (1 + 8 * (blk T n σ.1 : Int) + 4, σ)
    else if (s5F T n (blk T n σ.1 + 4) σ.2.1).2.1 ≠ 0 then ((s5F T n (blk T n σ.1 + 4) σ.2.1).2.1, σ)
    else (0, ((s5F T n (blk T n σ.1 + 4) σ.2.1).1, σ.2.1, σ.2.2.1 + 1, σ.2.2.2.1, put5 σ.2.2.2.2 σ.2.2.1 (s1F T n (blk T n σ.1 + 4)).2.2 (s2F T n (blk T n σ.1 + 4) σ.2.1).2.2 (s3F T n (blk T n σ.1 + 4) σ.2.1).2.2 (s4F T n (blk T n σ.1 + 4) σ.2.1).2.2 (s5F T n (blk T n σ.1 + 4) σ.2.1).2.2))
  else (1 + 8 * (blk T n σ.1 : Int), σ)
/-- the clauses; r: so many may come yet, and one that is too many -/
def streetF (T : Nat → Int) (n : Nat) : Nat → stT → Int × stT
  | 0, σ => (0, σ)
  | r + 1, σ =>
    if (clauseF T n (decide (1 ≤ r)) σ).1 ≠ 0 then (clauseF T n (decide (1 ≤ r)) σ).1 |> fun f => (f, σ)
    else if chr T n (blk T n (clauseF T n (decide (1 ≤ r)) σ).2.1) = 59 then streetF T n r (blk T n (clauseF T n (decide (1 ≤ r)) σ).2.1 + 1, (clauseF T n (decide (1 ≤ r)) σ).2.2)
    else if chr T n (blk T n (clauseF T n (decide (1 ≤ r)) σ).2.1) = -1 then (0, (clauseF T n (decide (1 ≤ r)) σ).2)
    else (1 + 8 * (blk T n (clauseF T n (decide (1 ≤ r)) σ).2.1 : Int), σ)
/-- the class's trial town -/
def cR (M : sM) (σ : stT) : Prop := M 42 0 = (σ.2.1 : Int) ∧ M 42 6 = (σ.2.2.1 : Int) ∧ σ.2.1 ≤ 6 ∧ σ.2.2.1 ≤ 18 ∧ (∀ h, h < σ.2.1 → M 43 h = σ.2.2.2.1 (3 * h) ∧ M 44 h = σ.2.2.2.1 (3 * h + 1) ∧ M 45 h = σ.2.2.2.1 (3 * h + 2)) ∧ ∀ s, s < σ.2.2.1 → M 48 s = σ.2.2.2.2 (5 * s) ∧ M 49 s = σ.2.2.2.2 (5 * s + 1) ∧ M 50 s = σ.2.2.2.2 (5 * s + 2) ∧ M 51 s = σ.2.2.2.2 (5 * s + 3) ∧ M 52 s = σ.2.2.2.2 (5 * s + 4) ∧ M 53 s = 0
theorem sU_if {M : sM} {a k j : Nat} {x : Int} : sUpd M a k x a j = if j = k then x else M a j := by
  by_cases c : j = k
  · rw [c, sUpd_eq, if_pos rfl]
  · rw [sUpd_ni c, if_neg c]
def offT (M M' : sM) : Prop := (∀ a, ¬ (42 ≤ a ∧ a ≤ 53) → M' a = M a) ∧ M' 46 = M 46 ∧ M' 42 13 = M 42 13 ∧ M' 42 14 = M 42 14
theorem offT.refl (M : sM) : offT M M := ⟨fun _ _ => rfl, rfl, rfl, rfl⟩
theorem offT.trans {M M' M'' : sM} (h : offT M M') (h' : offT M' M'') : offT M M'' := ⟨fun a ha => (h'.1 a ha).trans (h.1 a ha), h'.2.1.trans h.2.1, h'.2.2.1.trans h.2.2.1, h'.2.2.2.trans h.2.2.2⟩
theorem cTp.off {M M' : sM} {T : Nat → Int} {n : Nat} (h : cTp M T n) (e : offT M M') : cTp M' T n := by
  unfold cTp
  rw [e.1 3 (by decide), e.1 4 (by decide)]
  exact h
section
variable {M : sM} {σ : stT}
theorem cR.house (h : cR M σ) (h6 : σ.2.1 < 6) (p' : Nat) (a b c : Int) : offT M (sUpd (sUpd (sUpd (sUpd M 43 σ.2.1 a) 44 σ.2.1 b) 45 σ.2.1 c) 42 0 ((σ.2.1 + 1 : Nat) : Int)) ∧ cR (sUpd (sUpd (sUpd (sUpd M 43 σ.2.1 a) 44 σ.2.1 b) 45 σ.2.1 c) 42 0 ((σ.2.1 + 1 : Nat) : Int)) (p', σ.2.1 + 1, σ.2.2.1, put3 σ.2.2.2.1 σ.2.1 a b c, σ.2.2.2.2) := by
  obtain ⟨g0, g1, g2, g3, g4, g5⟩ := h
  refine ⟨⟨fun x hx => ?_, rfl, rfl, rfl⟩, ?_, ?_, ?_, g3, fun x hx => ?_, fun s hs => ?_⟩
  · rw [sUpd_ne (by omega), sUpd_ne (by omega), sUpd_ne (by omega), sUpd_ne (by omega)]
  · exact sUpd_eq
  · rw [sUpd_ni (by decide), sUpd_ne (by decide), sUpd_ne (by decide), sUpd_ne (by decide)]; exact g1
  · show σ.2.1 + 1 ≤ 6; omega
  · have hx' : x < σ.2.1 + 1 := hx
    show _ = put3 σ.2.2.2.1 σ.2.1 a b c (3 * x) ∧ _ = put3 σ.2.2.2.1 σ.2.1 a b c (3 * x + 1) ∧ _ = put3 σ.2.2.2.1 σ.2.1 a b c (3 * x + 2)
    rw [sUpd_ne (show (43 : Nat) ≠ 42 by decide), sUpd_ne (show (43 : Nat) ≠ 45 by decide), sUpd_ne (show (43 : Nat) ≠ 44 by decide), sU_if, sUpd_ne (show (44 : Nat) ≠ 42 by decide), sUpd_ne (show (44 : Nat) ≠ 45 by decide), sU_if, sUpd_ne (show (45 : Nat) ≠ 42 by decide), sU_if, sUpd_ne (show (44 : Nat) ≠ 43 by decide), sUpd_ne (show (45 : Nat) ≠ 44 by decide), sUpd_ne (show (45 : Nat) ≠ 43 by decide)]
    unfold put3
    by_cases c0 : x = σ.2.1
    · rw [if_pos c0, if_pos c0, if_pos c0, if_pos (by omega), if_neg (by omega), if_pos (by omega), if_neg (by omega), if_neg (by omega), if_pos (by omega)]
      exact ⟨rfl, rfl, rfl⟩
    · have := g4 x (by omega)
      rw [if_neg c0, if_neg c0, if_neg c0, if_neg (by omega), if_neg (by omega), if_neg (by omega), if_neg (by omega), if_neg (by omega), if_neg (by omega), if_neg (by omega), if_neg (by omega), if_neg (by omega)]
      exact this
  · have := g5 s hs
    rw [sUpd_ne (by decide), sUpd_ne (by decide), sUpd_ne (by decide), sUpd_ne (by decide)]
    exact this
theorem cR.stay (h : cR M σ) (h6 : σ.2.2.1 < 18) (p' : Nat) (a b c e f : Int) : offT M (sUpd (sUpd (sUpd (sUpd (sUpd (sUpd (sUpd M 48 σ.2.2.1 a) 49 σ.2.2.1 b) 50 σ.2.2.1 c) 51 σ.2.2.1 e) 52 σ.2.2.1 f) 53 σ.2.2.1 0) 42 6 ((σ.2.2.1 + 1 : Nat) : Int)) ∧ cR (sUpd (sUpd (sUpd (sUpd (sUpd (sUpd (sUpd M 48 σ.2.2.1 a) 49 σ.2.2.1 b) 50 σ.2.2.1 c) 51 σ.2.2.1 e) 52 σ.2.2.1 f) 53 σ.2.2.1 0) 42 6 ((σ.2.2.1 + 1 : Nat) : Int)) (p', σ.2.1, σ.2.2.1 + 1, σ.2.2.2.1, put5 σ.2.2.2.2 σ.2.2.1 a b c e f) := by
  obtain ⟨g0, g1, g2, g3, g4, g5⟩ := h
  obtain ⟨X, hX⟩ : ∃ X, X = sUpd (sUpd (sUpd (sUpd (sUpd (sUpd (sUpd M 48 σ.2.2.1 a) 49 σ.2.2.1 b) 50 σ.2.2.1 c) 51 σ.2.2.1 e) 52 σ.2.2.1 f) 53 σ.2.2.1 0) 42 6 ((σ.2.2.1 + 1 : Nat) : Int) := ⟨_, rfl⟩
  rw [← hX]
  have o : ∀ x, x ≠ 42 → ¬ (48 ≤ x ∧ x ≤ 53) → X x = M x := fun x h1 h2 => by
    rw [hX, sUpd_ne h1, sUpd_ne (by omega), sUpd_ne (by omega), sUpd_ne (by omega), sUpd_ne (by omega), sUpd_ne (by omega), sUpd_ne (by omega)]
  have o42 : ∀ i, X 42 i = if i = 6 then ((σ.2.2.1 + 1 : Nat) : Int) else M 42 i := fun i => by
    rw [hX, sU_if, sUpd_ne (show (42 : Nat) ≠ 53 by decide), sUpd_ne (show (42 : Nat) ≠ 52 by decide), sUpd_ne (show (42 : Nat) ≠ 51 by decide), sUpd_ne (show (42 : Nat) ≠ 50 by decide), sUpd_ne (show (42 : Nat) ≠ 49 by decide), sUpd_ne (show (42 : Nat) ≠ 48 by decide)]
  have o48 : ∀ i, X 48 i = if i = σ.2.2.1 then a else M 48 i := fun i => by
    rw [hX, sUpd_ne (show (48 : Nat) ≠ 42 by decide), sUpd_ne (show (48 : Nat) ≠ 53 by decide), sUpd_ne (show (48 : Nat) ≠ 52 by decide), sUpd_ne (show (48 : Nat) ≠ 51 by decide), sUpd_ne (show (48 : Nat) ≠ 50 by decide), sUpd_ne (show (48 : Nat) ≠ 49 by decide), sU_if]
  have o49 : ∀ i, X 49 i = if i = σ.2.2.1 then b else M 49 i := fun i => by
    rw [hX, sUpd_ne (show (49 : Nat) ≠ 42 by decide), sUpd_ne (show (49 : Nat) ≠ 53 by decide), sUpd_ne (show (49 : Nat) ≠ 52 by decide), sUpd_ne (show (49 : Nat) ≠ 51 by decide), sUpd_ne (show (49 : Nat) ≠ 50 by decide), sU_if, sUpd_ne (show (49 : Nat) ≠ 48 by decide)]
  have o50 : ∀ i, X 50 i = if i = σ.2.2.1 then c else M 50 i := fun i => by
    rw [hX, sUpd_ne (show (50 : Nat) ≠ 42 by decide), sUpd_ne (show (50 : Nat) ≠ 53 by decide), sUpd_ne (show (50 : Nat) ≠ 52 by decide), sUpd_ne (show (50 : Nat) ≠ 51 by decide), sU_if, sUpd_ne (show (50 : Nat) ≠ 49 by decide), sUpd_ne (show (50 : Nat) ≠ 48 by decide)]
  have o51 : ∀ i, X 51 i = if i = σ.2.2.1 then e else M 51 i := fun i => by
    rw [hX, sUpd_ne (show (51 : Nat) ≠ 42 by decide), sUpd_ne (show (51 : Nat) ≠ 53 by decide), sUpd_ne (show (51 : Nat) ≠ 52 by decide), sU_if, sUpd_ne (show (51 : Nat) ≠ 50 by decide), sUpd_ne (show (51 : Nat) ≠ 49 by decide), sUpd_ne (show (51 : Nat) ≠ 48 by decide)]
  have o52 : ∀ i, X 52 i = if i = σ.2.2.1 then f else M 52 i := fun i => by
    rw [hX, sUpd_ne (show (52 : Nat) ≠ 42 by decide), sUpd_ne (show (52 : Nat) ≠ 53 by decide), sU_if, sUpd_ne (show (52 : Nat) ≠ 51 by decide), sUpd_ne (show (52 : Nat) ≠ 50 by decide), sUpd_ne (show (52 : Nat) ≠ 49 by decide), sUpd_ne (show (52 : Nat) ≠ 48 by decide)]
  have o53 : ∀ i, X 53 i = if i = σ.2.2.1 then 0 else M 53 i := fun i => by
    rw [hX, sUpd_ne (show (53 : Nat) ≠ 42 by decide), sU_if, sUpd_ne (show (53 : Nat) ≠ 52 by decide), sUpd_ne (show (53 : Nat) ≠ 51 by decide), sUpd_ne (show (53 : Nat) ≠ 50 by decide), sUpd_ne (show (53 : Nat) ≠ 49 by decide), sUpd_ne (show (53 : Nat) ≠ 48 by decide)]
  refine ⟨⟨fun x hx => o x (by omega) (by omega), o 46 (by decide) (by decide), by rw [o42, if_neg (by decide)], by rw [o42, if_neg (by decide)]⟩, ?_, ?_, g2, ?_, fun x hx => ?_, fun x hx => ?_⟩
  · rw [o42, if_neg (by decide)]; exact g0
  · rw [o42, if_pos rfl]
  · show σ.2.2.1 + 1 ≤ 18; omega
  · rw [o 43 (by decide) (by decide), o 44 (by decide) (by decide), o 45 (by decide) (by decide)]
    exact g4 x hx
  · have hx' : x < σ.2.2.1 + 1 := hx
    rw [o48, o49, o50, o51, o52, o53]
    show _ = put5 σ.2.2.2.2 σ.2.2.1 a b c e f (5 * x) ∧ _ = put5 σ.2.2.2.2 σ.2.2.1 a b c e f (5 * x + 1) ∧ _ = put5 σ.2.2.2.2 σ.2.2.1 a b c e f (5 * x + 2) ∧ _ = put5 σ.2.2.2.2 σ.2.2.1 a b c e f (5 * x + 3) ∧ _ = put5 σ.2.2.2.2 σ.2.2.1 a b c e f (5 * x + 4) ∧ _
    unfold put5
    by_cases c0 : x = σ.2.2.1
    · subst c0
      rw [if_pos rfl, if_pos rfl, if_pos rfl, if_pos rfl, if_pos rfl, if_pos rfl, if_pos rfl, if_neg (by omega), if_pos rfl, if_neg (by omega), if_neg (by omega), if_pos rfl, if_neg (by omega), if_neg (by omega), if_neg (by omega), if_pos rfl, if_neg (by omega), if_neg (by omega), if_neg (by omega), if_neg (by omega), if_pos rfl]
      exact ⟨rfl, rfl, rfl, rfl, rfl, rfl⟩
    · have := g5 x (by omega)
      have z : ∀ w i, w ≤ 4 → i ≤ 4 → 5 * x + w ≠ 5 * σ.2.2.1 + i := fun w i h1 h2 => by omega
      have y0 := fun i hi => z 0 i (by decide) hi
      have ys : ∀ w, w ≤ 4 → put5 σ.2.2.2.2 σ.2.2.1 a b c e f (5 * x + w) = σ.2.2.2.2 (5 * x + w) := fun w hw => by
        unfold put5
        rw [if_neg (show ¬ (5 * x + w = 5 * σ.2.2.1) from fun y => z w 0 hw (by decide) y), if_neg (z w 1 hw (by decide)), if_neg (z w 2 hw (by decide)), if_neg (z w 3 hw (by decide)), if_neg (z w 4 hw (by decide))]
      rw [if_neg c0, if_neg c0, if_neg c0, if_neg c0, if_neg c0, if_neg c0]
      exact ⟨this.1.trans (ys 0 (by decide)).symm, this.2.1.trans (ys 1 (by decide)).symm, this.2.2.1.trans (ys 2 (by decide)).symm, this.2.2.2.1.trans (ys 3 (by decide)).symm, this.2.2.2.2.1.trans (ys 4 (by decide)).symm, this.2.2.2.2.2⟩
end
