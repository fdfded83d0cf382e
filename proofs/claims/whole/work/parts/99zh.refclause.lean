/-! THE REFERENCE'S CLAUSES OF A STREET. -/
def rR (M : sM) (σ : stT) : Prop := M 82 7 = (σ.2.1 : Int) ∧ M 82 8 = (σ.2.2.1 : Int) ∧ σ.2.1 ≤ 6 ∧ σ.2.2.1 ≤ 18 ∧ (∀ i, i < 3 * σ.2.1 → M 88 i = σ.2.2.2.1 i) ∧ ∀ i, i < 5 * σ.2.2.1 → M 89 i = σ.2.2.2.2 i
/-- alike but for what the reading of a street uses (and place, fault, number) -/
def offR (M M' : sM) : Prop := (∀ a, a ≠ 82 → a ≠ 88 → a ≠ 89 → M' a = M a) ∧ ∀ i, i ≠ 7 → i ≠ 8 → i ≠ 17 → M' 82 i = M 82 i
theorem offR.refl (M : sM) : offR M M := ⟨fun _ _ _ _ => rfl, fun _ _ _ _ => rfl⟩
theorem offR.trans {M M' M'' : sM} (h : offR M M') (h' : offR M' M'') : offR M M'' := ⟨fun a h1 h2 h3 => (h'.1 a h1 h2 h3).trans (h.1 a h1 h2 h3), fun i h1 h2 h3 => (h'.2 i h1 h2 h3).trans (h.2 i h1 h2 h3)⟩
theorem offR.u {M M' : sM} {a i : Nat} {x : Int} (h : offR M M') (ha : a = 88 ∨ a = 89 ∨ (a = 82 ∧ (i = 7 ∨ i = 8 ∨ i = 17))) : offR M (sUpd M' a i x) := by
  refine ⟨fun b b1 b2 b3 => by rw [sUpd_ne (by omega)]; exact h.1 b b1 b2 b3, fun j j1 j2 j3 => ?_⟩
  have e : sUpd M' a i x 82 j = M' 82 j := by unfold sUpd; rw [if_neg (by omega)]
  rw [e]; exact h.2 j j1 j2 j3
theorem offH.r {M M' : sM} (h : offH M M') : offR M M' := ⟨fun a _ h2 h3 => h a h2 h3, fun i _ _ _ => by rw [h 82 (by decide) (by decide)]⟩
theorem rTp.off {M M' : sM} {T : Nat → Int} {n : Nat} (h : rTp M T n) (e : offR M M') : rTp M' T n := by
  unfold rTp
  rw [e.1 83 (by decide) (by decide) (by decide), e.2 1 (by decide) (by decide) (by decide)]
  exact h
section
variable {M : sM} {σ : stT}
theorem rR.house (h : rR M σ) (h6 : σ.2.1 < 6) (p' : Nat) (a b c : Int) : rR (sUpd (sUpd (sUpd (sUpd M 88 (3 * σ.2.1) a) 88 (3 * σ.2.1 + 1) b) 88 (3 * σ.2.1 + 2) c) 82 7 ((σ.2.1 + 1 : Nat) : Int)) (p', σ.2.1 + 1, σ.2.2.1, put3 σ.2.2.2.1 σ.2.1 a b c, σ.2.2.2.2) := by
  obtain ⟨g0, g1, g2, g3, g4, g5⟩ := h
  refine ⟨sUpd_eq, ?_, by show σ.2.1 + 1 ≤ 6; omega, g3, fun i hi => ?_, fun i hi => ?_⟩
  · rw [sU_if, if_neg (by decide), sUpd_ne (show (82 : Nat) ≠ 88 by decide), sUpd_ne (show (82 : Nat) ≠ 88 by decide), sUpd_ne (show (82 : Nat) ≠ 88 by decide)]; exact g1
  · have hi' : i < 3 * (σ.2.1 + 1) := hi
    rw [sUpd_ne (show (88 : Nat) ≠ 82 by decide), sU_if, sU_if, sU_if]
    show _ = put3 σ.2.2.2.1 σ.2.1 a b c i
    unfold put3
    by_cases c0 : i = 3 * σ.2.1
    · rw [if_neg (by omega), if_neg (by omega), if_pos c0, if_pos c0]
    · by_cases c1 : i = 3 * σ.2.1 + 1
      · rw [if_neg (by omega), if_pos c1, if_neg c0, if_pos c1]
      · by_cases c2 : i = 3 * σ.2.1 + 2
        · rw [if_pos c2, if_neg c0, if_neg c1, if_pos c2]
        · rw [if_neg c2, if_neg c1, if_neg c0, if_neg c0, if_neg c1, if_neg c2]
          exact g4 i (by omega)
  · rw [sUpd_ne (show (89 : Nat) ≠ 82 by decide), sUpd_ne (show (89 : Nat) ≠ 88 by decide), sUpd_ne (show (89 : Nat) ≠ 88 by decide), sUpd_ne (show (89 : Nat) ≠ 88 by decide)]
    exact g5 i hi
theorem rR.stay (h : rR M σ) (h6 : σ.2.2.1 < 18) (p' : Nat) (a b c e f : Int) : rR (sUpd (sUpd (sUpd (sUpd (sUpd (sUpd M 89 (5 * σ.2.2.1) a) 89 (5 * σ.2.2.1 + 1) b) 89 (5 * σ.2.2.1 + 2) c) 89 (5 * σ.2.2.1 + 3) e) 89 (5 * σ.2.2.1 + 4) f) 82 8 ((σ.2.2.1 + 1 : Nat) : Int)) (p', σ.2.1, σ.2.2.1 + 1, σ.2.2.2.1, put5 σ.2.2.2.2 σ.2.2.1 a b c e f) := by
  obtain ⟨g0, g1, g2, g3, g4, g5⟩ := h
  refine ⟨?_, sUpd_eq, g2, by show σ.2.2.1 + 1 ≤ 18; omega, fun i hi => ?_, fun i hi => ?_⟩
  · rw [sU_if, if_neg (by decide), sUpd_ne (show (82 : Nat) ≠ 89 by decide), sUpd_ne (show (82 : Nat) ≠ 89 by decide), sUpd_ne (show (82 : Nat) ≠ 89 by decide), sUpd_ne (show (82 : Nat) ≠ 89 by decide), sUpd_ne (show (82 : Nat) ≠ 89 by decide)]; exact g0
  · rw [sUpd_ne (show (88 : Nat) ≠ 82 by decide), sUpd_ne (show (88 : Nat) ≠ 89 by decide), sUpd_ne (show (88 : Nat) ≠ 89 by decide), sUpd_ne (show (88 : Nat) ≠ 89 by decide), sUpd_ne (show (88 : Nat) ≠ 89 by decide), sUpd_ne (show (88 : Nat) ≠ 89 by decide)]
    exact g4 i hi
  · have hi' : i < 5 * (σ.2.2.1 + 1) := hi
    rw [sUpd_ne (show (89 : Nat) ≠ 82 by decide), sU_if, sU_if, sU_if, sU_if, sU_if]
    show _ = put5 σ.2.2.2.2 σ.2.2.1 a b c e f i
    unfold put5
    by_cases c0 : i = 5 * σ.2.2.1
    · rw [if_neg (by omega), if_neg (by omega), if_neg (by omega), if_neg (by omega), if_pos c0, if_pos c0]
    · by_cases c1 : i = 5 * σ.2.2.1 + 1
      · rw [if_neg (by omega), if_neg (by omega), if_neg (by omega), if_pos c1, if_neg c0, if_pos c1]
      · by_cases c2 : i = 5 * σ.2.2.1 + 2
        · rw [if_neg (by omega), if_neg (by omega), if_pos c2, if_neg c0, if_neg c1, if_pos c2]
        · by_cases c3 : i = 5 * σ.2.2.1 + 3
          · rw [if_neg (by omega), if_pos c3, if_neg c0, if_neg c1, if_neg c2, if_pos c3]
          · by_cases c4 : i = 5 * σ.2.2.1 + 4
            · rw [if_pos c4, if_neg c0, if_neg c1, if_neg c2, if_neg c3, if_pos c4]
            · rw [if_neg c4, if_neg c3, if_neg c2, if_neg c1, if_neg c0, if_neg c0, if_neg c1, if_neg c2, if_neg c3, if_neg c4]
              exact g5 i (by omega)
end
