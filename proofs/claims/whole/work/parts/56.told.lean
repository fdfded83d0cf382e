/-! ROWS TOLD BESIDE THE STREET: one more, none (by program: wip/whole/gen/emit56.py). -/
section
variable {S : Nat → Int} {M : sM} {x0 x1 x2 x3 x4 : Int}
theorem wi_o (hn : 0 ≤ S 5 ∧ S 5 < 6) {j : Nat} (hj : j ≠ 5 ∧ (j < 196 ∨ 226 ≤ j)) : (uS (uS (uS (uS (uS (uS S (196 + (5 * (S 5))).toNat x0) ((196 + (5 * (S 5))) + 1).toNat x1) ((196 + (5 * (S 5))) + 2).toNat x2) ((196 + (5 * (S 5))) + 3).toNat x3) ((196 + (5 * (S 5))) + 4).toNat x4) 5 (S 5 + 1)) j = S j := by
  rw [uS_ne (by omega), uS_ne (by omega), uS_ne (by omega), uS_ne (by omega), uS_ne (by omega), uS_ne (by omega)]
theorem wi_c (hn : 0 ≤ S 5 ∧ S 5 < 6) : (uS (uS (uS (uS (uS (uS S (196 + (5 * (S 5))).toNat x0) ((196 + (5 * (S 5))) + 1).toNat x1) ((196 + (5 * (S 5))) + 2).toNat x2) ((196 + (5 * (S 5))) + 3).toNat x3) ((196 + (5 * (S 5))) + 4).toNat x4) 5 (S 5 + 1)) 5 = S 5 + 1 := uS_eq rfl
theorem wi_n0 (hn : 0 ≤ S 5 ∧ S 5 < 6) : (uS (uS (uS (uS (uS (uS S (196 + (5 * (S 5))).toNat x0) ((196 + (5 * (S 5))) + 1).toNat x1) ((196 + (5 * (S 5))) + 2).toNat x2) ((196 + (5 * (S 5))) + 3).toNat x3) ((196 + (5 * (S 5))) + 4).toNat x4) 5 (S 5 + 1)) (196 + (5 * (S 5))).toNat = x0 := by
  rw [uS_ne (by omega), uS_ne (by omega), uS_ne (by omega), uS_ne (by omega), uS_ne (by omega), uS_eq rfl]
theorem wi_e0 (hn : 0 ≤ S 5 ∧ S 5 < 6) {v : Int} (v0 : 0 ≤ v) (v1 : v < S 5) : (uS (uS (uS (uS (uS (uS S (196 + (5 * (S 5))).toNat x0) ((196 + (5 * (S 5))) + 1).toNat x1) ((196 + (5 * (S 5))) + 2).toNat x2) ((196 + (5 * (S 5))) + 3).toNat x3) ((196 + (5 * (S 5))) + 4).toNat x4) 5 (S 5 + 1)) (196 + (5 * v)).toNat = S (196 + (5 * v)).toNat := by
  rw [uS_ne (by omega), uS_ne (by omega), uS_ne (by omega), uS_ne (by omega), uS_ne (by omega), uS_ne (by omega)]
theorem wi_n1 (hn : 0 ≤ S 5 ∧ S 5 < 6) : (uS (uS (uS (uS (uS (uS S (196 + (5 * (S 5))).toNat x0) ((196 + (5 * (S 5))) + 1).toNat x1) ((196 + (5 * (S 5))) + 2).toNat x2) ((196 + (5 * (S 5))) + 3).toNat x3) ((196 + (5 * (S 5))) + 4).toNat x4) 5 (S 5 + 1)) ((196 + (5 * (S 5))) + 1).toNat = x1 := by
  rw [uS_ne (by omega), uS_ne (by omega), uS_ne (by omega), uS_ne (by omega), uS_eq rfl]
theorem wi_e1 (hn : 0 ≤ S 5 ∧ S 5 < 6) {v : Int} (v0 : 0 ≤ v) (v1 : v < S 5) : (uS (uS (uS (uS (uS (uS S (196 + (5 * (S 5))).toNat x0) ((196 + (5 * (S 5))) + 1).toNat x1) ((196 + (5 * (S 5))) + 2).toNat x2) ((196 + (5 * (S 5))) + 3).toNat x3) ((196 + (5 * (S 5))) + 4).toNat x4) 5 (S 5 + 1)) ((196 + (5 * v)) + 1).toNat = S ((196 + (5 * v)) + 1).toNat := by
  rw [uS_ne (by omega), uS_ne (by omega), uS_ne (by omega), uS_ne (by omega), uS_ne (by omega), uS_ne (by omega)]
theorem wi_n2 (hn : 0 ≤ S 5 ∧ S 5 < 6) : (uS (uS (uS (uS (uS (uS S (196 + (5 * (S 5))).toNat x0) ((196 + (5 * (S 5))) + 1).toNat x1) ((196 + (5 * (S 5))) + 2).toNat x2) ((196 + (5 * (S 5))) + 3).toNat x3) ((196 + (5 * (S 5))) + 4).toNat x4) 5 (S 5 + 1)) ((196 + (5 * (S 5))) + 2).toNat = x2 := by
  rw [uS_ne (by omega), uS_ne (by omega), uS_ne (by omega), uS_eq rfl]
theorem wi_e2 (hn : 0 ≤ S 5 ∧ S 5 < 6) {v : Int} (v0 : 0 ≤ v) (v1 : v < S 5) : (uS (uS (uS (uS (uS (uS S (196 + (5 * (S 5))).toNat x0) ((196 + (5 * (S 5))) + 1).toNat x1) ((196 + (5 * (S 5))) + 2).toNat x2) ((196 + (5 * (S 5))) + 3).toNat x3) ((196 + (5 * (S 5))) + 4).toNat x4) 5 (S 5 + 1)) ((196 + (5 * v)) + 2).toNat = S ((196 + (5 * v)) + 2).toNat := by
  rw [uS_ne (by omega), uS_ne (by omega), uS_ne (by omega), uS_ne (by omega), uS_ne (by omega), uS_ne (by omega)]
theorem wi_n3 (hn : 0 ≤ S 5 ∧ S 5 < 6) : (uS (uS (uS (uS (uS (uS S (196 + (5 * (S 5))).toNat x0) ((196 + (5 * (S 5))) + 1).toNat x1) ((196 + (5 * (S 5))) + 2).toNat x2) ((196 + (5 * (S 5))) + 3).toNat x3) ((196 + (5 * (S 5))) + 4).toNat x4) 5 (S 5 + 1)) ((196 + (5 * (S 5))) + 3).toNat = x3 := by
  rw [uS_ne (by omega), uS_ne (by omega), uS_eq rfl]
theorem wi_e3 (hn : 0 ≤ S 5 ∧ S 5 < 6) {v : Int} (v0 : 0 ≤ v) (v1 : v < S 5) : (uS (uS (uS (uS (uS (uS S (196 + (5 * (S 5))).toNat x0) ((196 + (5 * (S 5))) + 1).toNat x1) ((196 + (5 * (S 5))) + 2).toNat x2) ((196 + (5 * (S 5))) + 3).toNat x3) ((196 + (5 * (S 5))) + 4).toNat x4) 5 (S 5 + 1)) ((196 + (5 * v)) + 3).toNat = S ((196 + (5 * v)) + 3).toNat := by
  rw [uS_ne (by omega), uS_ne (by omega), uS_ne (by omega), uS_ne (by omega), uS_ne (by omega), uS_ne (by omega)]
theorem wi_n4 (hn : 0 ≤ S 5 ∧ S 5 < 6) : (uS (uS (uS (uS (uS (uS S (196 + (5 * (S 5))).toNat x0) ((196 + (5 * (S 5))) + 1).toNat x1) ((196 + (5 * (S 5))) + 2).toNat x2) ((196 + (5 * (S 5))) + 3).toNat x3) ((196 + (5 * (S 5))) + 4).toNat x4) 5 (S 5 + 1)) ((196 + (5 * (S 5))) + 4).toNat = x4 := by
  rw [uS_ne (by omega), uS_eq rfl]
theorem wi_e4 (hn : 0 ≤ S 5 ∧ S 5 < 6) {v : Int} (v0 : 0 ≤ v) (v1 : v < S 5) : (uS (uS (uS (uS (uS (uS S (196 + (5 * (S 5))).toNat x0) ((196 + (5 * (S 5))) + 1).toNat x1) ((196 + (5 * (S 5))) + 2).toNat x2) ((196 + (5 * (S 5))) + 3).toNat x3) ((196 + (5 * (S 5))) + 4).toNat x4) 5 (S 5 + 1)) ((196 + (5 * v)) + 4).toNat = S ((196 + (5 * v)) + 4).toNat := by
  rw [uS_ne (by omega), uS_ne (by omega), uS_ne (by omega), uS_ne (by omega), uS_ne (by omega), uS_ne (by omega)]
theorem wi_t (hn : 0 ≤ S 5 ∧ S 5 < 6) : eqTown S (uS (uS (uS (uS (uS (uS S (196 + (5 * (S 5))).toNat x0) ((196 + (5 * (S 5))) + 1).toNat x1) ((196 + (5 * (S 5))) + 2).toNat x2) ((196 + (5 * (S 5))) + 3).toNat x3) ((196 + (5 * (S 5))) + 4).toNat x4) 5 (S 5 + 1)) := by
  have h := eqTown.refl S
  replace h := h.up (k := (196 + (5 * (S 5))).toNat) (x := x0) (by omega)
  replace h := h.up (k := ((196 + (5 * (S 5))) + 1).toNat) (x := x1) (by omega)
  replace h := h.up (k := ((196 + (5 * (S 5))) + 2).toNat) (x := x2) (by omega)
  replace h := h.up (k := ((196 + (5 * (S 5))) + 3).toNat) (x := x3) (by omega)
  replace h := h.up (k := ((196 + (5 * (S 5))) + 4).toNat) (x := x4) (by omega)
  exact h.up (by omega)
theorem wi_p (hn : 0 ≤ S 5 ∧ S 5 < 6) {p : Int} (p0 : 0 ≤ p) (p1 : p < 12) : pO (uS (uS (uS (uS (uS (uS S (196 + (5 * (S 5))).toNat x0) ((196 + (5 * (S 5))) + 1).toNat x1) ((196 + (5 * (S 5))) + 2).toNat x2) ((196 + (5 * (S 5))) + 3).toNat x3) ((196 + (5 * (S 5))) + 4).toNat x4) 5 (S 5 + 1)) p 4 = pO S p 4 := by
  rw [pO4_up (by omega) p0 p1, pO4_up (by omega) p0 p1, pO4_up (by omega) p0 p1, pO4_up (by omega) p0 p1, pO4_up (by omega) p0 p1, pO4_up (by omega) p0 p1]
theorem wi_v (hv : vTold S) (hn : S 5 < 6) (hx : (0 ≤ x0 ∧ x0 < 12) ∧ (0 ≤ x1 ∧ x1 < 6) ∧ 0 ≤ x2 ∧ x3 ≤ 95 ∧ 1 ≤ x4 ∧ x2 + x4 ≤ x3 ∧ x3 ≤ x2 + x4 + 11) : vTold (uS (uS (uS (uS (uS (uS S (196 + (5 * (S 5))).toNat x0) ((196 + (5 * (S 5))) + 1).toNat x1) ((196 + (5 * (S 5))) + 2).toNat x2) ((196 + (5 * (S 5))) + 3).toNat x3) ((196 + (5 * (S 5))) + 4).toNat x4) 5 (S 5 + 1)) := by
  obtain ⟨a5, a6, a7, a8, a9, h1, h2, h3, h4, h5⟩ := hv
  have hn2 : 0 ≤ S 5 ∧ S 5 < 6 := ⟨by omega, hn⟩
  refine ⟨by rw [wi_c hn2]; omega, by rw [wi_o hn2 (by omega)]; exact a6, by rw [wi_o hn2 (by omega)]; exact a7, by rw [wi_o hn2 (by omega)]; exact a8, by rw [wi_o hn2 (by omega)]; exact a9, fun w w0 w1 => ?_, fun k k0 k1 => ?_, fun j k j0 jk k1 => ?_, fun f f0 f1 => ?_, fun g g0 g1 => ?_⟩
  · rw [wi_c hn2] at w1
    by_cases e : w = S 5
    · subst e
      rw [wi_n0 hn2, wi_n1 hn2, wi_n2 hn2, wi_n3 hn2, wi_n4 hn2]
      exact hx
    · rw [wi_e0 hn2 w0 (by omega), wi_e1 hn2 w0 (by omega), wi_e2 hn2 w0 (by omega), wi_e3 hn2 w0 (by omega), wi_e4 hn2 w0 (by omega)]
      exact h1 w w0 (by omega)
  · rw [wi_o hn2 (by omega)] at k1
    rw [wi_o hn2 (j := (226 + k).toNat) (by omega)]
    exact h2 k k0 k1
  · rw [wi_o hn2 (by omega)] at k1
    rw [wi_o hn2 (j := (226 + j).toNat) (by omega), wi_o hn2 (j := (226 + k).toNat) (by omega)]
    exact h3 j k j0 jk k1
  · rw [wi_o hn2 (by omega)] at f1
    rw [wi_o hn2 (j := (234 + (2 * f)).toNat) (by omega), wi_o hn2 (j := ((234 + (2 * f)) + 1).toNat) (by omega)]
    exact h4 f f0 f1
  · rw [wi_o hn2 (by omega)] at g1
    rw [wi_o hn2 (j := (250 + (2 * g)).toNat) (by omega), wi_o hn2 (j := ((250 + (2 * g)) + 1).toNat) (by omega)]
    exact h5 g g0 g1
theorem wi_m (hv : vTold S) (hn : S 5 < 6) (ht : TO 29 M S) : TO 29 (sUpd (sUpd (sUpd (sUpd (sUpd (sUpd M 31 (M 29 1).toNat x0) 32 (M 29 1).toNat x1) 33 (M 29 1).toNat x2) 34 (M 29 1).toNat x3) 35 (M 29 1).toNat x4) 29 1 (M 29 1 + 1)) (uS (uS (uS (uS (uS (uS S (196 + (5 * (S 5))).toNat x0) ((196 + (5 * (S 5))) + 1).toNat x1) ((196 + (5 * (S 5))) + 2).toNat x2) ((196 + (5 * (S 5))) + 3).toNat x3) ((196 + (5 * (S 5))) + 4).toNat x4) 5 (S 5 + 1)) := by
  obtain ⟨⟨a5, a6, a7, a8, a9⟩, h1, h2, h3, h4, h5⟩ := ht
  obtain ⟨v5, v6, v7, v8, -⟩ := hv
  have hn2 : 0 ≤ S 5 ∧ S 5 < 6 := ⟨by omega, hn⟩
  have o : ∀ a, a ≠ 31 → a ≠ 32 → a ≠ 33 → a ≠ 34 → a ≠ 35 → a ≠ 29 → (sUpd (sUpd (sUpd (sUpd (sUpd (sUpd M 31 (M 29 1).toNat x0) 32 (M 29 1).toNat x1) 33 (M 29 1).toNat x2) 34 (M 29 1).toNat x3) 35 (M 29 1).toNat x4) 29 1 (M 29 1 + 1)) a = M a := fun a h00 h10 h20 h30 h40 hz => by rw [sUpd_ne (by omega), sUpd_ne (by omega), sUpd_ne (by omega), sUpd_ne (by omega), sUpd_ne (by omega), sUpd_ne (by omega)]
  have o29 : ∀ i, i ≠ 1 → (sUpd (sUpd (sUpd (sUpd (sUpd (sUpd M 31 (M 29 1).toNat x0) 32 (M 29 1).toNat x1) 33 (M 29 1).toNat x2) 34 (M 29 1).toNat x3) 35 (M 29 1).toNat x4) 29 1 (M 29 1 + 1)) 29 i = M 29 i := fun i hi => by rw [sUpd_ni hi, sUpd_ne (by omega), sUpd_ne (by omega), sUpd_ne (by omega), sUpd_ne (by omega), sUpd_ne (by omega)]
  refine ⟨⟨by rw [sUpd_eq, wi_c hn2, a5], by rw [o29 7 (by decide), wi_o hn2 (by omega)]; exact a6, by rw [o29 9 (by decide), wi_o hn2 (by omega)]; exact a7, by rw [o29 12 (by decide), wi_o hn2 (by omega)]; exact a8, by rw [o29 15 (by decide), wi_o hn2 (by omega)]; exact a9⟩, fun p p0 p1 => ?_, fun w w0 w1 => ?_, fun k k0 k1 => ?_, fun f f0 f1 => ?_, fun g g0 g1 => ?_⟩
  · rw [o 30 (by decide) (by decide) (by decide) (by decide) (by decide) (by decide), wi_p hn2 p0 p1]; exact h1 p p0 p1
  · rw [wi_c hn2] at w1
    have r0 : ∀ i, (sUpd (sUpd (sUpd (sUpd (sUpd (sUpd M 31 (M 29 1).toNat x0) 32 (M 29 1).toNat x1) 33 (M 29 1).toNat x2) 34 (M 29 1).toNat x3) 35 (M 29 1).toNat x4) 29 1 (M 29 1 + 1)) 31 i = if i = (S 5).toNat then x0 else M 31 i := fun i => by rw [sUpd_ne (by decide), sUpd_ne (by decide), sUpd_ne (by decide), sUpd_ne (by decide), sUpd_ne (by decide), sUpd_at, a5]
    have r1 : ∀ i, (sUpd (sUpd (sUpd (sUpd (sUpd (sUpd M 31 (M 29 1).toNat x0) 32 (M 29 1).toNat x1) 33 (M 29 1).toNat x2) 34 (M 29 1).toNat x3) 35 (M 29 1).toNat x4) 29 1 (M 29 1 + 1)) 32 i = if i = (S 5).toNat then x1 else M 32 i := fun i => by rw [sUpd_ne (by decide), sUpd_ne (by decide), sUpd_ne (by decide), sUpd_ne (by decide), sUpd_at, a5, sUpd_ne (by decide)]
    have r2 : ∀ i, (sUpd (sUpd (sUpd (sUpd (sUpd (sUpd M 31 (M 29 1).toNat x0) 32 (M 29 1).toNat x1) 33 (M 29 1).toNat x2) 34 (M 29 1).toNat x3) 35 (M 29 1).toNat x4) 29 1 (M 29 1 + 1)) 33 i = if i = (S 5).toNat then x2 else M 33 i := fun i => by rw [sUpd_ne (by decide), sUpd_ne (by decide), sUpd_ne (by decide), sUpd_at, a5, sUpd_ne (by decide), sUpd_ne (by decide)]
    have r3 : ∀ i, (sUpd (sUpd (sUpd (sUpd (sUpd (sUpd M 31 (M 29 1).toNat x0) 32 (M 29 1).toNat x1) 33 (M 29 1).toNat x2) 34 (M 29 1).toNat x3) 35 (M 29 1).toNat x4) 29 1 (M 29 1 + 1)) 34 i = if i = (S 5).toNat then x3 else M 34 i := fun i => by rw [sUpd_ne (by decide), sUpd_ne (by decide), sUpd_at, a5, sUpd_ne (by decide), sUpd_ne (by decide), sUpd_ne (by decide)]
    have r4 : ∀ i, (sUpd (sUpd (sUpd (sUpd (sUpd (sUpd M 31 (M 29 1).toNat x0) 32 (M 29 1).toNat x1) 33 (M 29 1).toNat x2) 34 (M 29 1).toNat x3) 35 (M 29 1).toNat x4) 29 1 (M 29 1 + 1)) 35 i = if i = (S 5).toNat then x4 else M 35 i := fun i => by rw [sUpd_ne (by decide), sUpd_at, a5, sUpd_ne (by decide), sUpd_ne (by decide), sUpd_ne (by decide), sUpd_ne (by decide)]
    by_cases e : w = S 5
    · subst e
      exact ⟨by rw [r0, if_pos rfl, wi_n0 hn2], by rw [r1, if_pos rfl, wi_n1 hn2], by rw [r2, if_pos rfl, wi_n2 hn2], by rw [r3, if_pos rfl, wi_n3 hn2], by rw [r4, if_pos rfl, wi_n4 hn2]⟩
    · have hh := h2 w w0 (by omega)
      exact ⟨by rw [r0, if_neg (by omega), wi_e0 hn2 w0 (by omega)]; exact hh.1, by rw [r1, if_neg (by omega), wi_e1 hn2 w0 (by omega)]; exact hh.2.1, by rw [r2, if_neg (by omega), wi_e2 hn2 w0 (by omega)]; exact hh.2.2.1, by rw [r3, if_neg (by omega), wi_e3 hn2 w0 (by omega)]; exact hh.2.2.2.1, by rw [r4, if_neg (by omega), wi_e4 hn2 w0 (by omega)]; exact hh.2.2.2.2⟩
  · rw [wi_o hn2 (by omega)] at k1
    rw [o 36 (by decide) (by decide) (by decide) (by decide) (by decide) (by decide), wi_o hn2 (j := (226 + k).toNat) (by omega)]
    exact h3 k k0 k1
  · rw [wi_o hn2 (by omega)] at f1
    rw [o 37 (by decide) (by decide) (by decide) (by decide) (by decide) (by decide), o 38 (by decide) (by decide) (by decide) (by decide) (by decide) (by decide), wi_o hn2 (j := (234 + (2 * f)).toNat) (by omega), wi_o hn2 (j := ((234 + (2 * f)) + 1).toNat) (by omega)]
    exact h4 f f0 f1
  · rw [wi_o hn2 (by omega)] at g1
    rw [o 39 (by decide) (by decide) (by decide) (by decide) (by decide) (by decide), o 40 (by decide) (by decide) (by decide) (by decide) (by decide) (by decide), wi_o hn2 (j := (250 + (2 * g)).toNat) (by omega), wi_o hn2 (j := ((250 + (2 * g)) + 1).toNat) (by omega)]
    exact h5 g g0 g1
end
section
variable {S : Nat → Int} {M : sM} {x0 : Int}
theorem we_o (hn : 0 ≤ S 6 ∧ S 6 < 8) {j : Nat} (hj : j ≠ 6 ∧ (j < 226 ∨ 234 ≤ j)) : (uS (uS S (226 + (S 6)).toNat x0) 6 (S 6 + 1)) j = S j := by
  rw [uS_ne (by omega), uS_ne (by omega)]
theorem we_c (hn : 0 ≤ S 6 ∧ S 6 < 8) : (uS (uS S (226 + (S 6)).toNat x0) 6 (S 6 + 1)) 6 = S 6 + 1 := uS_eq rfl
theorem we_n0 (hn : 0 ≤ S 6 ∧ S 6 < 8) : (uS (uS S (226 + (S 6)).toNat x0) 6 (S 6 + 1)) (226 + (S 6)).toNat = x0 := by
  rw [uS_ne (by omega), uS_eq rfl]
theorem we_e0 (hn : 0 ≤ S 6 ∧ S 6 < 8) {v : Int} (v0 : 0 ≤ v) (v1 : v < S 6) : (uS (uS S (226 + (S 6)).toNat x0) 6 (S 6 + 1)) (226 + v).toNat = S (226 + v).toNat := by
  rw [uS_ne (by omega), uS_ne (by omega)]
theorem we_t (hn : 0 ≤ S 6 ∧ S 6 < 8) : eqTown S (uS (uS S (226 + (S 6)).toNat x0) 6 (S 6 + 1)) := by
  have h := eqTown.refl S
  replace h := h.up (k := (226 + (S 6)).toNat) (x := x0) (by omega)
  exact h.up (by omega)
theorem we_p (hn : 0 ≤ S 6 ∧ S 6 < 8) {p : Int} (p0 : 0 ≤ p) (p1 : p < 12) : pO (uS (uS S (226 + (S 6)).toNat x0) 6 (S 6 + 1)) p 4 = pO S p 4 := by
  rw [pO4_up (by omega) p0 p1, pO4_up (by omega) p0 p1]
theorem we_v (hv : vTold S) (hn : S 6 < 8) (hx : (0 ≤ x0 ∧ x0 < 12) ∧ ∀ k : Int, 0 ≤ k → k < S 6 → S (226 + k).toNat ≠ x0) : vTold (uS (uS S (226 + (S 6)).toNat x0) 6 (S 6 + 1)) := by
  obtain ⟨a5, a6, a7, a8, a9, h1, h2, h3, h4, h5⟩ := hv
  have hn2 : 0 ≤ S 6 ∧ S 6 < 8 := ⟨by omega, hn⟩
  refine ⟨by rw [we_o hn2 (by omega)]; exact a5, by rw [we_c hn2]; omega, by rw [we_o hn2 (by omega)]; exact a7, by rw [we_o hn2 (by omega)]; exact a8, by rw [we_o hn2 (by omega)]; exact a9, fun w w0 w1 => ?_, fun k k0 k1 => ?_, fun j k j0 jk k1 => ?_, fun f f0 f1 => ?_, fun g g0 g1 => ?_⟩
  · rw [we_o hn2 (by omega)] at w1
    rw [we_o hn2 (j := (196 + (5 * w)).toNat) (by omega), we_o hn2 (j := ((196 + (5 * w)) + 1).toNat) (by omega), we_o hn2 (j := ((196 + (5 * w)) + 2).toNat) (by omega), we_o hn2 (j := ((196 + (5 * w)) + 3).toNat) (by omega), we_o hn2 (j := ((196 + (5 * w)) + 4).toNat) (by omega)]
    exact h1 w w0 w1
  · rw [we_c hn2] at k1
    by_cases e : k = S 6
    · subst e
      rw [we_n0 hn2]
      exact hx.1
    · rw [we_e0 hn2 k0 (by omega)]
      exact h2 k k0 (by omega)
  · rw [we_c hn2] at k1
    by_cases e : k = S 6
    · subst e
      rw [we_e0 hn2 j0 jk, we_n0 hn2]
      exact hx.2 j j0 jk
    · rw [we_e0 hn2 j0 (by omega), we_e0 hn2 (by omega) (by omega)]
      exact h3 j k j0 jk (by omega)
  · rw [we_o hn2 (by omega)] at f1
    rw [we_o hn2 (j := (234 + (2 * f)).toNat) (by omega), we_o hn2 (j := ((234 + (2 * f)) + 1).toNat) (by omega)]
    exact h4 f f0 f1
  · rw [we_o hn2 (by omega)] at g1
    rw [we_o hn2 (j := (250 + (2 * g)).toNat) (by omega), we_o hn2 (j := ((250 + (2 * g)) + 1).toNat) (by omega)]
    exact h5 g g0 g1
theorem we_m (hv : vTold S) (hn : S 6 < 8) (ht : TO 29 M S) : TO 29 (sUpd (sUpd M 36 (M 29 7).toNat x0) 29 7 (M 29 7 + 1)) (uS (uS S (226 + (S 6)).toNat x0) 6 (S 6 + 1)) := by
  obtain ⟨⟨a5, a6, a7, a8, a9⟩, h1, h2, h3, h4, h5⟩ := ht
  obtain ⟨v5, v6, v7, v8, -⟩ := hv
  have hn2 : 0 ≤ S 6 ∧ S 6 < 8 := ⟨by omega, hn⟩
  have o : ∀ a, a ≠ 36 → a ≠ 29 → (sUpd (sUpd M 36 (M 29 7).toNat x0) 29 7 (M 29 7 + 1)) a = M a := fun a h00 hz => by rw [sUpd_ne (by omega), sUpd_ne (by omega)]
  have o29 : ∀ i, i ≠ 7 → (sUpd (sUpd M 36 (M 29 7).toNat x0) 29 7 (M 29 7 + 1)) 29 i = M 29 i := fun i hi => by rw [sUpd_ni hi, sUpd_ne (by omega)]
  refine ⟨⟨by rw [o29 1 (by decide), we_o hn2 (by omega)]; exact a5, by rw [sUpd_eq, we_c hn2, a6], by rw [o29 9 (by decide), we_o hn2 (by omega)]; exact a7, by rw [o29 12 (by decide), we_o hn2 (by omega)]; exact a8, by rw [o29 15 (by decide), we_o hn2 (by omega)]; exact a9⟩, fun p p0 p1 => ?_, fun w w0 w1 => ?_, fun k k0 k1 => ?_, fun f f0 f1 => ?_, fun g g0 g1 => ?_⟩
  · rw [o 30 (by decide) (by decide), we_p hn2 p0 p1]; exact h1 p p0 p1
  · rw [we_o hn2 (by omega)] at w1
    rw [o 31 (by decide) (by decide), o 32 (by decide) (by decide), o 33 (by decide) (by decide), o 34 (by decide) (by decide), o 35 (by decide) (by decide), we_o hn2 (j := (196 + (5 * w)).toNat) (by omega), we_o hn2 (j := ((196 + (5 * w)) + 1).toNat) (by omega), we_o hn2 (j := ((196 + (5 * w)) + 2).toNat) (by omega), we_o hn2 (j := ((196 + (5 * w)) + 3).toNat) (by omega), we_o hn2 (j := ((196 + (5 * w)) + 4).toNat) (by omega)]
    exact h2 w w0 w1
  · rw [we_c hn2] at k1
    have r0 : ∀ i, (sUpd (sUpd M 36 (M 29 7).toNat x0) 29 7 (M 29 7 + 1)) 36 i = if i = (S 6).toNat then x0 else M 36 i := fun i => by rw [sUpd_ne (by decide), sUpd_at, a6]
    by_cases e : k = S 6
    · subst e
      exact (by rw [r0, if_pos rfl, we_n0 hn2])
    · have hh := h3 k k0 (by omega)
      exact (by rw [r0, if_neg (by omega), we_e0 hn2 k0 (by omega)]; exact hh)
  · rw [we_o hn2 (by omega)] at f1
    rw [o 37 (by decide) (by decide), o 38 (by decide) (by decide), we_o hn2 (j := (234 + (2 * f)).toNat) (by omega), we_o hn2 (j := ((234 + (2 * f)) + 1).toNat) (by omega)]
    exact h4 f f0 f1
  · rw [we_o hn2 (by omega)] at g1
    rw [o 39 (by decide) (by decide), o 40 (by decide) (by decide), we_o hn2 (j := (250 + (2 * g)).toNat) (by omega), we_o hn2 (j := ((250 + (2 * g)) + 1).toNat) (by omega)]
    exact h5 g g0 g1
end
section
variable {S : Nat → Int} {M : sM} {x0 x1 : Int}
theorem fa_o (hn : 0 ≤ S 7 ∧ S 7 < 8) {j : Nat} (hj : j ≠ 7 ∧ (j < 234 ∨ 250 ≤ j)) : (uS (uS (uS S (234 + (2 * (S 7))).toNat x0) ((234 + (2 * (S 7))) + 1).toNat x1) 7 (S 7 + 1)) j = S j := by
  rw [uS_ne (by omega), uS_ne (by omega), uS_ne (by omega)]
theorem fa_c (hn : 0 ≤ S 7 ∧ S 7 < 8) : (uS (uS (uS S (234 + (2 * (S 7))).toNat x0) ((234 + (2 * (S 7))) + 1).toNat x1) 7 (S 7 + 1)) 7 = S 7 + 1 := uS_eq rfl
theorem fa_n0 (hn : 0 ≤ S 7 ∧ S 7 < 8) : (uS (uS (uS S (234 + (2 * (S 7))).toNat x0) ((234 + (2 * (S 7))) + 1).toNat x1) 7 (S 7 + 1)) (234 + (2 * (S 7))).toNat = x0 := by
  rw [uS_ne (by omega), uS_ne (by omega), uS_eq rfl]
theorem fa_e0 (hn : 0 ≤ S 7 ∧ S 7 < 8) {v : Int} (v0 : 0 ≤ v) (v1 : v < S 7) : (uS (uS (uS S (234 + (2 * (S 7))).toNat x0) ((234 + (2 * (S 7))) + 1).toNat x1) 7 (S 7 + 1)) (234 + (2 * v)).toNat = S (234 + (2 * v)).toNat := by
  rw [uS_ne (by omega), uS_ne (by omega), uS_ne (by omega)]
theorem fa_n1 (hn : 0 ≤ S 7 ∧ S 7 < 8) : (uS (uS (uS S (234 + (2 * (S 7))).toNat x0) ((234 + (2 * (S 7))) + 1).toNat x1) 7 (S 7 + 1)) ((234 + (2 * (S 7))) + 1).toNat = x1 := by
  rw [uS_ne (by omega), uS_eq rfl]
theorem fa_e1 (hn : 0 ≤ S 7 ∧ S 7 < 8) {v : Int} (v0 : 0 ≤ v) (v1 : v < S 7) : (uS (uS (uS S (234 + (2 * (S 7))).toNat x0) ((234 + (2 * (S 7))) + 1).toNat x1) 7 (S 7 + 1)) ((234 + (2 * v)) + 1).toNat = S ((234 + (2 * v)) + 1).toNat := by
  rw [uS_ne (by omega), uS_ne (by omega), uS_ne (by omega)]
theorem fa_t (hn : 0 ≤ S 7 ∧ S 7 < 8) : eqTown S (uS (uS (uS S (234 + (2 * (S 7))).toNat x0) ((234 + (2 * (S 7))) + 1).toNat x1) 7 (S 7 + 1)) := by
  have h := eqTown.refl S
  replace h := h.up (k := (234 + (2 * (S 7))).toNat) (x := x0) (by omega)
  replace h := h.up (k := ((234 + (2 * (S 7))) + 1).toNat) (x := x1) (by omega)
  exact h.up (by omega)
theorem fa_p (hn : 0 ≤ S 7 ∧ S 7 < 8) {p : Int} (p0 : 0 ≤ p) (p1 : p < 12) : pO (uS (uS (uS S (234 + (2 * (S 7))).toNat x0) ((234 + (2 * (S 7))) + 1).toNat x1) 7 (S 7 + 1)) p 4 = pO S p 4 := by
  rw [pO4_up (by omega) p0 p1, pO4_up (by omega) p0 p1, pO4_up (by omega) p0 p1]
theorem fa_v (hv : vTold S) (hn : S 7 < 8) (hx : (0 ≤ x0 ∧ x0 < 12) ∧ (0 ≤ x1 ∧ x1 < 12) ∧ x0 ≠ x1) : vTold (uS (uS (uS S (234 + (2 * (S 7))).toNat x0) ((234 + (2 * (S 7))) + 1).toNat x1) 7 (S 7 + 1)) := by
  obtain ⟨a5, a6, a7, a8, a9, h1, h2, h3, h4, h5⟩ := hv
  have hn2 : 0 ≤ S 7 ∧ S 7 < 8 := ⟨by omega, hn⟩
  refine ⟨by rw [fa_o hn2 (by omega)]; exact a5, by rw [fa_o hn2 (by omega)]; exact a6, by rw [fa_c hn2]; omega, by rw [fa_o hn2 (by omega)]; exact a8, by rw [fa_o hn2 (by omega)]; exact a9, fun w w0 w1 => ?_, fun k k0 k1 => ?_, fun j k j0 jk k1 => ?_, fun f f0 f1 => ?_, fun g g0 g1 => ?_⟩
  · rw [fa_o hn2 (by omega)] at w1
    rw [fa_o hn2 (j := (196 + (5 * w)).toNat) (by omega), fa_o hn2 (j := ((196 + (5 * w)) + 1).toNat) (by omega), fa_o hn2 (j := ((196 + (5 * w)) + 2).toNat) (by omega), fa_o hn2 (j := ((196 + (5 * w)) + 3).toNat) (by omega), fa_o hn2 (j := ((196 + (5 * w)) + 4).toNat) (by omega)]
    exact h1 w w0 w1
  · rw [fa_o hn2 (by omega)] at k1
    rw [fa_o hn2 (j := (226 + k).toNat) (by omega)]
    exact h2 k k0 k1
  · rw [fa_o hn2 (by omega)] at k1
    rw [fa_o hn2 (j := (226 + j).toNat) (by omega), fa_o hn2 (j := (226 + k).toNat) (by omega)]
    exact h3 j k j0 jk k1
  · rw [fa_c hn2] at f1
    by_cases e : f = S 7
    · subst e
      rw [fa_n0 hn2, fa_n1 hn2]
      exact hx
    · rw [fa_e0 hn2 f0 (by omega), fa_e1 hn2 f0 (by omega)]
      exact h4 f f0 (by omega)
  · rw [fa_o hn2 (by omega)] at g1
    rw [fa_o hn2 (j := (250 + (2 * g)).toNat) (by omega), fa_o hn2 (j := ((250 + (2 * g)) + 1).toNat) (by omega)]
    exact h5 g g0 g1
theorem fa_m (hv : vTold S) (hn : S 7 < 8) (ht : TO 29 M S) : TO 29 (sUpd (sUpd (sUpd M 37 (M 29 9).toNat x0) 38 (M 29 9).toNat x1) 29 9 (M 29 9 + 1)) (uS (uS (uS S (234 + (2 * (S 7))).toNat x0) ((234 + (2 * (S 7))) + 1).toNat x1) 7 (S 7 + 1)) := by
  obtain ⟨⟨a5, a6, a7, a8, a9⟩, h1, h2, h3, h4, h5⟩ := ht
  obtain ⟨v5, v6, v7, v8, -⟩ := hv
  have hn2 : 0 ≤ S 7 ∧ S 7 < 8 := ⟨by omega, hn⟩
  have o : ∀ a, a ≠ 37 → a ≠ 38 → a ≠ 29 → (sUpd (sUpd (sUpd M 37 (M 29 9).toNat x0) 38 (M 29 9).toNat x1) 29 9 (M 29 9 + 1)) a = M a := fun a h00 h10 hz => by rw [sUpd_ne (by omega), sUpd_ne (by omega), sUpd_ne (by omega)]
  have o29 : ∀ i, i ≠ 9 → (sUpd (sUpd (sUpd M 37 (M 29 9).toNat x0) 38 (M 29 9).toNat x1) 29 9 (M 29 9 + 1)) 29 i = M 29 i := fun i hi => by rw [sUpd_ni hi, sUpd_ne (by omega), sUpd_ne (by omega)]
  refine ⟨⟨by rw [o29 1 (by decide), fa_o hn2 (by omega)]; exact a5, by rw [o29 7 (by decide), fa_o hn2 (by omega)]; exact a6, by rw [sUpd_eq, fa_c hn2, a7], by rw [o29 12 (by decide), fa_o hn2 (by omega)]; exact a8, by rw [o29 15 (by decide), fa_o hn2 (by omega)]; exact a9⟩, fun p p0 p1 => ?_, fun w w0 w1 => ?_, fun k k0 k1 => ?_, fun f f0 f1 => ?_, fun g g0 g1 => ?_⟩
  · rw [o 30 (by decide) (by decide) (by decide), fa_p hn2 p0 p1]; exact h1 p p0 p1
  · rw [fa_o hn2 (by omega)] at w1
    rw [o 31 (by decide) (by decide) (by decide), o 32 (by decide) (by decide) (by decide), o 33 (by decide) (by decide) (by decide), o 34 (by decide) (by decide) (by decide), o 35 (by decide) (by decide) (by decide), fa_o hn2 (j := (196 + (5 * w)).toNat) (by omega), fa_o hn2 (j := ((196 + (5 * w)) + 1).toNat) (by omega), fa_o hn2 (j := ((196 + (5 * w)) + 2).toNat) (by omega), fa_o hn2 (j := ((196 + (5 * w)) + 3).toNat) (by omega), fa_o hn2 (j := ((196 + (5 * w)) + 4).toNat) (by omega)]
    exact h2 w w0 w1
  · rw [fa_o hn2 (by omega)] at k1
    rw [o 36 (by decide) (by decide) (by decide), fa_o hn2 (j := (226 + k).toNat) (by omega)]
    exact h3 k k0 k1
  · rw [fa_c hn2] at f1
    have r0 : ∀ i, (sUpd (sUpd (sUpd M 37 (M 29 9).toNat x0) 38 (M 29 9).toNat x1) 29 9 (M 29 9 + 1)) 37 i = if i = (S 7).toNat then x0 else M 37 i := fun i => by rw [sUpd_ne (by decide), sUpd_ne (by decide), sUpd_at, a7]
    have r1 : ∀ i, (sUpd (sUpd (sUpd M 37 (M 29 9).toNat x0) 38 (M 29 9).toNat x1) 29 9 (M 29 9 + 1)) 38 i = if i = (S 7).toNat then x1 else M 38 i := fun i => by rw [sUpd_ne (by decide), sUpd_at, a7, sUpd_ne (by decide)]
    by_cases e : f = S 7
    · subst e
      exact ⟨by rw [r0, if_pos rfl, fa_n0 hn2], by rw [r1, if_pos rfl, fa_n1 hn2]⟩
    · have hh := h4 f f0 (by omega)
      exact ⟨by rw [r0, if_neg (by omega), fa_e0 hn2 f0 (by omega)]; exact hh.1, by rw [r1, if_neg (by omega), fa_e1 hn2 f0 (by omega)]; exact hh.2⟩
  · rw [fa_o hn2 (by omega)] at g1
    rw [o 39 (by decide) (by decide) (by decide), o 40 (by decide) (by decide) (by decide), fa_o hn2 (j := (250 + (2 * g)).toNat) (by omega), fa_o hn2 (j := ((250 + (2 * g)) + 1).toNat) (by omega)]
    exact h5 g g0 g1
end
section
variable {S : Nat → Int} {M : sM} {x0 x1 : Int}
theorem gu_o (hn : 0 ≤ S 8 ∧ S 8 < 12) {j : Nat} (hj : j ≠ 8 ∧ (j < 250 ∨ 274 ≤ j)) : (uS (uS (uS S (250 + (2 * (S 8))).toNat x0) ((250 + (2 * (S 8))) + 1).toNat x1) 8 (S 8 + 1)) j = S j := by
  rw [uS_ne (by omega), uS_ne (by omega), uS_ne (by omega)]
theorem gu_c (hn : 0 ≤ S 8 ∧ S 8 < 12) : (uS (uS (uS S (250 + (2 * (S 8))).toNat x0) ((250 + (2 * (S 8))) + 1).toNat x1) 8 (S 8 + 1)) 8 = S 8 + 1 := uS_eq rfl
theorem gu_n0 (hn : 0 ≤ S 8 ∧ S 8 < 12) : (uS (uS (uS S (250 + (2 * (S 8))).toNat x0) ((250 + (2 * (S 8))) + 1).toNat x1) 8 (S 8 + 1)) (250 + (2 * (S 8))).toNat = x0 := by
  rw [uS_ne (by omega), uS_ne (by omega), uS_eq rfl]
theorem gu_e0 (hn : 0 ≤ S 8 ∧ S 8 < 12) {v : Int} (v0 : 0 ≤ v) (v1 : v < S 8) : (uS (uS (uS S (250 + (2 * (S 8))).toNat x0) ((250 + (2 * (S 8))) + 1).toNat x1) 8 (S 8 + 1)) (250 + (2 * v)).toNat = S (250 + (2 * v)).toNat := by
  rw [uS_ne (by omega), uS_ne (by omega), uS_ne (by omega)]
theorem gu_n1 (hn : 0 ≤ S 8 ∧ S 8 < 12) : (uS (uS (uS S (250 + (2 * (S 8))).toNat x0) ((250 + (2 * (S 8))) + 1).toNat x1) 8 (S 8 + 1)) ((250 + (2 * (S 8))) + 1).toNat = x1 := by
  rw [uS_ne (by omega), uS_eq rfl]
theorem gu_e1 (hn : 0 ≤ S 8 ∧ S 8 < 12) {v : Int} (v0 : 0 ≤ v) (v1 : v < S 8) : (uS (uS (uS S (250 + (2 * (S 8))).toNat x0) ((250 + (2 * (S 8))) + 1).toNat x1) 8 (S 8 + 1)) ((250 + (2 * v)) + 1).toNat = S ((250 + (2 * v)) + 1).toNat := by
  rw [uS_ne (by omega), uS_ne (by omega), uS_ne (by omega)]
theorem gu_t (hn : 0 ≤ S 8 ∧ S 8 < 12) : eqTown S (uS (uS (uS S (250 + (2 * (S 8))).toNat x0) ((250 + (2 * (S 8))) + 1).toNat x1) 8 (S 8 + 1)) := by
  have h := eqTown.refl S
  replace h := h.up (k := (250 + (2 * (S 8))).toNat) (x := x0) (by omega)
  replace h := h.up (k := ((250 + (2 * (S 8))) + 1).toNat) (x := x1) (by omega)
  exact h.up (by omega)
theorem gu_p (hn : 0 ≤ S 8 ∧ S 8 < 12) {p : Int} (p0 : 0 ≤ p) (p1 : p < 12) : pO (uS (uS (uS S (250 + (2 * (S 8))).toNat x0) ((250 + (2 * (S 8))) + 1).toNat x1) 8 (S 8 + 1)) p 4 = pO S p 4 := by
  rw [pO4_up (by omega) p0 p1, pO4_up (by omega) p0 p1, pO4_up (by omega) p0 p1]
theorem gu_v (hv : vTold S) (hn : S 8 < 12) (hx : 0 ≤ x0 ∧ x0 < x1 ∧ x1 ≤ 95) : vTold (uS (uS (uS S (250 + (2 * (S 8))).toNat x0) ((250 + (2 * (S 8))) + 1).toNat x1) 8 (S 8 + 1)) := by
  obtain ⟨a5, a6, a7, a8, a9, h1, h2, h3, h4, h5⟩ := hv
  have hn2 : 0 ≤ S 8 ∧ S 8 < 12 := ⟨by omega, hn⟩
  refine ⟨by rw [gu_o hn2 (by omega)]; exact a5, by rw [gu_o hn2 (by omega)]; exact a6, by rw [gu_o hn2 (by omega)]; exact a7, by rw [gu_c hn2]; omega, by rw [gu_o hn2 (by omega)]; exact a9, fun w w0 w1 => ?_, fun k k0 k1 => ?_, fun j k j0 jk k1 => ?_, fun f f0 f1 => ?_, fun g g0 g1 => ?_⟩
  · rw [gu_o hn2 (by omega)] at w1
    rw [gu_o hn2 (j := (196 + (5 * w)).toNat) (by omega), gu_o hn2 (j := ((196 + (5 * w)) + 1).toNat) (by omega), gu_o hn2 (j := ((196 + (5 * w)) + 2).toNat) (by omega), gu_o hn2 (j := ((196 + (5 * w)) + 3).toNat) (by omega), gu_o hn2 (j := ((196 + (5 * w)) + 4).toNat) (by omega)]
    exact h1 w w0 w1
  · rw [gu_o hn2 (by omega)] at k1
    rw [gu_o hn2 (j := (226 + k).toNat) (by omega)]
    exact h2 k k0 k1
  · rw [gu_o hn2 (by omega)] at k1
    rw [gu_o hn2 (j := (226 + j).toNat) (by omega), gu_o hn2 (j := (226 + k).toNat) (by omega)]
    exact h3 j k j0 jk k1
  · rw [gu_o hn2 (by omega)] at f1
    rw [gu_o hn2 (j := (234 + (2 * f)).toNat) (by omega), gu_o hn2 (j := ((234 + (2 * f)) + 1).toNat) (by omega)]
    exact h4 f f0 f1
  · rw [gu_c hn2] at g1
    by_cases e : g = S 8
    · subst e
      rw [gu_n0 hn2, gu_n1 hn2]
      exact hx
    · rw [gu_e0 hn2 g0 (by omega), gu_e1 hn2 g0 (by omega)]
      exact h5 g g0 (by omega)
theorem gu_m (hv : vTold S) (hn : S 8 < 12) (ht : TO 29 M S) : TO 29 (sUpd (sUpd (sUpd M 39 (M 29 12).toNat x0) 40 (M 29 12).toNat x1) 29 12 (M 29 12 + 1)) (uS (uS (uS S (250 + (2 * (S 8))).toNat x0) ((250 + (2 * (S 8))) + 1).toNat x1) 8 (S 8 + 1)) := by
  obtain ⟨⟨a5, a6, a7, a8, a9⟩, h1, h2, h3, h4, h5⟩ := ht
  obtain ⟨v5, v6, v7, v8, -⟩ := hv
  have hn2 : 0 ≤ S 8 ∧ S 8 < 12 := ⟨by omega, hn⟩
  have o : ∀ a, a ≠ 39 → a ≠ 40 → a ≠ 29 → (sUpd (sUpd (sUpd M 39 (M 29 12).toNat x0) 40 (M 29 12).toNat x1) 29 12 (M 29 12 + 1)) a = M a := fun a h00 h10 hz => by rw [sUpd_ne (by omega), sUpd_ne (by omega), sUpd_ne (by omega)]
  have o29 : ∀ i, i ≠ 12 → (sUpd (sUpd (sUpd M 39 (M 29 12).toNat x0) 40 (M 29 12).toNat x1) 29 12 (M 29 12 + 1)) 29 i = M 29 i := fun i hi => by rw [sUpd_ni hi, sUpd_ne (by omega), sUpd_ne (by omega)]
  refine ⟨⟨by rw [o29 1 (by decide), gu_o hn2 (by omega)]; exact a5, by rw [o29 7 (by decide), gu_o hn2 (by omega)]; exact a6, by rw [o29 9 (by decide), gu_o hn2 (by omega)]; exact a7, by rw [sUpd_eq, gu_c hn2, a8], by rw [o29 15 (by decide), gu_o hn2 (by omega)]; exact a9⟩, fun p p0 p1 => ?_, fun w w0 w1 => ?_, fun k k0 k1 => ?_, fun f f0 f1 => ?_, fun g g0 g1 => ?_⟩
  · rw [o 30 (by decide) (by decide) (by decide), gu_p hn2 p0 p1]; exact h1 p p0 p1
  · rw [gu_o hn2 (by omega)] at w1
    rw [o 31 (by decide) (by decide) (by decide), o 32 (by decide) (by decide) (by decide), o 33 (by decide) (by decide) (by decide), o 34 (by decide) (by decide) (by decide), o 35 (by decide) (by decide) (by decide), gu_o hn2 (j := (196 + (5 * w)).toNat) (by omega), gu_o hn2 (j := ((196 + (5 * w)) + 1).toNat) (by omega), gu_o hn2 (j := ((196 + (5 * w)) + 2).toNat) (by omega), gu_o hn2 (j := ((196 + (5 * w)) + 3).toNat) (by omega), gu_o hn2 (j := ((196 + (5 * w)) + 4).toNat) (by omega)]
    exact h2 w w0 w1
  · rw [gu_o hn2 (by omega)] at k1
    rw [o 36 (by decide) (by decide) (by decide), gu_o hn2 (j := (226 + k).toNat) (by omega)]
    exact h3 k k0 k1
  · rw [gu_o hn2 (by omega)] at f1
    rw [o 37 (by decide) (by decide) (by decide), o 38 (by decide) (by decide) (by decide), gu_o hn2 (j := (234 + (2 * f)).toNat) (by omega), gu_o hn2 (j := ((234 + (2 * f)) + 1).toNat) (by omega)]
    exact h4 f f0 f1
  · rw [gu_c hn2] at g1
    have r0 : ∀ i, (sUpd (sUpd (sUpd M 39 (M 29 12).toNat x0) 40 (M 29 12).toNat x1) 29 12 (M 29 12 + 1)) 39 i = if i = (S 8).toNat then x0 else M 39 i := fun i => by rw [sUpd_ne (by decide), sUpd_ne (by decide), sUpd_at, a8]
    have r1 : ∀ i, (sUpd (sUpd (sUpd M 39 (M 29 12).toNat x0) 40 (M 29 12).toNat x1) 29 12 (M 29 12 + 1)) 40 i = if i = (S 8).toNat then x1 else M 40 i := fun i => by rw [sUpd_ne (by decide), sUpd_at, a8, sUpd_ne (by decide)]
    by_cases e : g = S 8
    · subst e
      exact ⟨by rw [r0, if_pos rfl, gu_n0 hn2], by rw [r1, if_pos rfl, gu_n1 hn2]⟩
    · have hh := h5 g g0 (by omega)
      exact ⟨by rw [r0, if_neg (by omega), gu_e0 hn2 g0 (by omega)]; exact hh.1, by rw [r1, if_neg (by omega), gu_e1 hn2 g0 (by omega)]; exact hh.2⟩
end
section
variable {S : Nat → Int} {M : sM}
theorem wi_z (hv : vTold S) : vTold (uS S 5 0) := by
  obtain ⟨a5, a6, a7, a8, a9, h1, h2, h3, h4, h5⟩ := hv
  have o : ∀ j : Nat, j ≠ 5 → uS S 5 0 j = S j := fun j hj => uS_ne hj
  refine ⟨⟨by rw [uS_eq rfl]; decide, by rw [uS_eq rfl]; decide⟩, by rw [o 6 (by decide)]; exact a6, by rw [o 7 (by decide)]; exact a7, by rw [o 8 (by decide)]; exact a8, by rw [o 9 (by decide)]; exact a9, fun w w0 w1 => ?_, fun k k0 k1 => ?_, fun j k j0 jk k1 => ?_, fun f f0 f1 => ?_, fun g g0 g1 => ?_⟩
  · rw [uS_eq rfl] at w1; omega
  · rw [o 6 (by decide)] at k1
    rw [o (226 + k).toNat (by omega)]
    exact h2 k k0 k1
  · rw [o 6 (by decide)] at k1
    rw [o (226 + j).toNat (by omega), o (226 + k).toNat (by omega)]
    exact h3 j k j0 jk k1
  · rw [o 7 (by decide)] at f1
    rw [o (234 + (2 * f)).toNat (by omega), o ((234 + (2 * f)) + 1).toNat (by omega)]
    exact h4 f f0 f1
  · rw [o 8 (by decide)] at g1
    rw [o (250 + (2 * g)).toNat (by omega), o ((250 + (2 * g)) + 1).toNat (by omega)]
    exact h5 g g0 g1
theorem wi_y (ht : TO 29 M S) : TO 29 (sUpd M 29 1 0) (uS S 5 0) := by
  obtain ⟨⟨a5, a6, a7, a8, a9⟩, h1, h2, h3, h4, h5⟩ := ht
  have o : ∀ j : Nat, j ≠ 5 → uS S 5 0 j = S j := fun j hj => uS_ne hj
  have m : ∀ a, a ≠ 29 → sUpd M 29 1 0 a = M a := fun a ha => sUpd_ne ha
  refine ⟨⟨by rw [sUpd_eq, uS_eq rfl], by rw [sUpd_ni (by decide), o 6 (by decide)]; exact a6, by rw [sUpd_ni (by decide), o 7 (by decide)]; exact a7, by rw [sUpd_ni (by decide), o 8 (by decide)]; exact a8, by rw [sUpd_ni (by decide), o 9 (by decide)]; exact a9⟩, fun p p0 p1 => ?_, fun w w0 w1 => ?_, fun k k0 k1 => ?_, fun f f0 f1 => ?_, fun g g0 g1 => ?_⟩
  · rw [m 30 (by decide), pO4_up (by omega) p0 p1]; exact h1 p p0 p1
  · rw [uS_eq rfl] at w1; omega
  · rw [o 6 (by decide)] at k1
    rw [m 36 (by decide), o (226 + k).toNat (by omega)]
    exact h3 k k0 k1
  · rw [o 7 (by decide)] at f1
    rw [m 37 (by decide), m 38 (by decide), o (234 + (2 * f)).toNat (by omega), o ((234 + (2 * f)) + 1).toNat (by omega)]
    exact h4 f f0 f1
  · rw [o 8 (by decide)] at g1
    rw [m 39 (by decide), m 40 (by decide), o (250 + (2 * g)).toNat (by omega), o ((250 + (2 * g)) + 1).toNat (by omega)]
    exact h5 g g0 g1
theorem we_z (hv : vTold S) : vTold (uS S 6 0) := by
  obtain ⟨a5, a6, a7, a8, a9, h1, h2, h3, h4, h5⟩ := hv
  have o : ∀ j : Nat, j ≠ 6 → uS S 6 0 j = S j := fun j hj => uS_ne hj
  refine ⟨by rw [o 5 (by decide)]; exact a5, ⟨by rw [uS_eq rfl]; decide, by rw [uS_eq rfl]; decide⟩, by rw [o 7 (by decide)]; exact a7, by rw [o 8 (by decide)]; exact a8, by rw [o 9 (by decide)]; exact a9, fun w w0 w1 => ?_, fun k k0 k1 => ?_, fun j k j0 jk k1 => ?_, fun f f0 f1 => ?_, fun g g0 g1 => ?_⟩
  · rw [o 5 (by decide)] at w1
    rw [o (196 + (5 * w)).toNat (by omega), o ((196 + (5 * w)) + 1).toNat (by omega), o ((196 + (5 * w)) + 2).toNat (by omega), o ((196 + (5 * w)) + 3).toNat (by omega), o ((196 + (5 * w)) + 4).toNat (by omega)]
    exact h1 w w0 w1
  · rw [uS_eq rfl] at k1; omega
  · rw [uS_eq rfl] at k1; omega
  · rw [o 7 (by decide)] at f1
    rw [o (234 + (2 * f)).toNat (by omega), o ((234 + (2 * f)) + 1).toNat (by omega)]
    exact h4 f f0 f1
  · rw [o 8 (by decide)] at g1
    rw [o (250 + (2 * g)).toNat (by omega), o ((250 + (2 * g)) + 1).toNat (by omega)]
    exact h5 g g0 g1
theorem we_y (ht : TO 29 M S) : TO 29 (sUpd M 29 7 0) (uS S 6 0) := by
  obtain ⟨⟨a5, a6, a7, a8, a9⟩, h1, h2, h3, h4, h5⟩ := ht
  have o : ∀ j : Nat, j ≠ 6 → uS S 6 0 j = S j := fun j hj => uS_ne hj
  have m : ∀ a, a ≠ 29 → sUpd M 29 7 0 a = M a := fun a ha => sUpd_ne ha
  refine ⟨⟨by rw [sUpd_ni (by decide), o 5 (by decide)]; exact a5, by rw [sUpd_eq, uS_eq rfl], by rw [sUpd_ni (by decide), o 7 (by decide)]; exact a7, by rw [sUpd_ni (by decide), o 8 (by decide)]; exact a8, by rw [sUpd_ni (by decide), o 9 (by decide)]; exact a9⟩, fun p p0 p1 => ?_, fun w w0 w1 => ?_, fun k k0 k1 => ?_, fun f f0 f1 => ?_, fun g g0 g1 => ?_⟩
  · rw [m 30 (by decide), pO4_up (by omega) p0 p1]; exact h1 p p0 p1
  · rw [o 5 (by decide)] at w1
    rw [m 31 (by decide), m 32 (by decide), m 33 (by decide), m 34 (by decide), m 35 (by decide), o (196 + (5 * w)).toNat (by omega), o ((196 + (5 * w)) + 1).toNat (by omega), o ((196 + (5 * w)) + 2).toNat (by omega), o ((196 + (5 * w)) + 3).toNat (by omega), o ((196 + (5 * w)) + 4).toNat (by omega)]
    exact h2 w w0 w1
  · rw [uS_eq rfl] at k1; omega
  · rw [o 7 (by decide)] at f1
    rw [m 37 (by decide), m 38 (by decide), o (234 + (2 * f)).toNat (by omega), o ((234 + (2 * f)) + 1).toNat (by omega)]
    exact h4 f f0 f1
  · rw [o 8 (by decide)] at g1
    rw [m 39 (by decide), m 40 (by decide), o (250 + (2 * g)).toNat (by omega), o ((250 + (2 * g)) + 1).toNat (by omega)]
    exact h5 g g0 g1
theorem fa_z (hv : vTold S) : vTold (uS S 7 0) := by
  obtain ⟨a5, a6, a7, a8, a9, h1, h2, h3, h4, h5⟩ := hv
  have o : ∀ j : Nat, j ≠ 7 → uS S 7 0 j = S j := fun j hj => uS_ne hj
  refine ⟨by rw [o 5 (by decide)]; exact a5, by rw [o 6 (by decide)]; exact a6, ⟨by rw [uS_eq rfl]; decide, by rw [uS_eq rfl]; decide⟩, by rw [o 8 (by decide)]; exact a8, by rw [o 9 (by decide)]; exact a9, fun w w0 w1 => ?_, fun k k0 k1 => ?_, fun j k j0 jk k1 => ?_, fun f f0 f1 => ?_, fun g g0 g1 => ?_⟩
  · rw [o 5 (by decide)] at w1
    rw [o (196 + (5 * w)).toNat (by omega), o ((196 + (5 * w)) + 1).toNat (by omega), o ((196 + (5 * w)) + 2).toNat (by omega), o ((196 + (5 * w)) + 3).toNat (by omega), o ((196 + (5 * w)) + 4).toNat (by omega)]
    exact h1 w w0 w1
  · rw [o 6 (by decide)] at k1
    rw [o (226 + k).toNat (by omega)]
    exact h2 k k0 k1
  · rw [o 6 (by decide)] at k1
    rw [o (226 + j).toNat (by omega), o (226 + k).toNat (by omega)]
    exact h3 j k j0 jk k1
  · rw [uS_eq rfl] at f1; omega
  · rw [o 8 (by decide)] at g1
    rw [o (250 + (2 * g)).toNat (by omega), o ((250 + (2 * g)) + 1).toNat (by omega)]
    exact h5 g g0 g1
theorem fa_y (ht : TO 29 M S) : TO 29 (sUpd M 29 9 0) (uS S 7 0) := by
  obtain ⟨⟨a5, a6, a7, a8, a9⟩, h1, h2, h3, h4, h5⟩ := ht
  have o : ∀ j : Nat, j ≠ 7 → uS S 7 0 j = S j := fun j hj => uS_ne hj
  have m : ∀ a, a ≠ 29 → sUpd M 29 9 0 a = M a := fun a ha => sUpd_ne ha
  refine ⟨⟨by rw [sUpd_ni (by decide), o 5 (by decide)]; exact a5, by rw [sUpd_ni (by decide), o 6 (by decide)]; exact a6, by rw [sUpd_eq, uS_eq rfl], by rw [sUpd_ni (by decide), o 8 (by decide)]; exact a8, by rw [sUpd_ni (by decide), o 9 (by decide)]; exact a9⟩, fun p p0 p1 => ?_, fun w w0 w1 => ?_, fun k k0 k1 => ?_, fun f f0 f1 => ?_, fun g g0 g1 => ?_⟩
  · rw [m 30 (by decide), pO4_up (by omega) p0 p1]; exact h1 p p0 p1
  · rw [o 5 (by decide)] at w1
    rw [m 31 (by decide), m 32 (by decide), m 33 (by decide), m 34 (by decide), m 35 (by decide), o (196 + (5 * w)).toNat (by omega), o ((196 + (5 * w)) + 1).toNat (by omega), o ((196 + (5 * w)) + 2).toNat (by omega), o ((196 + (5 * w)) + 3).toNat (by omega), o ((196 + (5 * w)) + 4).toNat (by omega)]
    exact h2 w w0 w1
  · rw [o 6 (by decide)] at k1
    rw [m 36 (by decide), o (226 + k).toNat (by omega)]
    exact h3 k k0 k1
  · rw [uS_eq rfl] at f1; omega
  · rw [o 8 (by decide)] at g1
    rw [m 39 (by decide), m 40 (by decide), o (250 + (2 * g)).toNat (by omega), o ((250 + (2 * g)) + 1).toNat (by omega)]
    exact h5 g g0 g1
theorem gu_z (hv : vTold S) : vTold (uS S 8 0) := by
  obtain ⟨a5, a6, a7, a8, a9, h1, h2, h3, h4, h5⟩ := hv
  have o : ∀ j : Nat, j ≠ 8 → uS S 8 0 j = S j := fun j hj => uS_ne hj
  refine ⟨by rw [o 5 (by decide)]; exact a5, by rw [o 6 (by decide)]; exact a6, by rw [o 7 (by decide)]; exact a7, ⟨by rw [uS_eq rfl]; decide, by rw [uS_eq rfl]; decide⟩, by rw [o 9 (by decide)]; exact a9, fun w w0 w1 => ?_, fun k k0 k1 => ?_, fun j k j0 jk k1 => ?_, fun f f0 f1 => ?_, fun g g0 g1 => ?_⟩
  · rw [o 5 (by decide)] at w1
    rw [o (196 + (5 * w)).toNat (by omega), o ((196 + (5 * w)) + 1).toNat (by omega), o ((196 + (5 * w)) + 2).toNat (by omega), o ((196 + (5 * w)) + 3).toNat (by omega), o ((196 + (5 * w)) + 4).toNat (by omega)]
    exact h1 w w0 w1
  · rw [o 6 (by decide)] at k1
    rw [o (226 + k).toNat (by omega)]
    exact h2 k k0 k1
  · rw [o 6 (by decide)] at k1
    rw [o (226 + j).toNat (by omega), o (226 + k).toNat (by omega)]
    exact h3 j k j0 jk k1
  · rw [o 7 (by decide)] at f1
    rw [o (234 + (2 * f)).toNat (by omega), o ((234 + (2 * f)) + 1).toNat (by omega)]
    exact h4 f f0 f1
  · rw [uS_eq rfl] at g1; omega
theorem gu_y (ht : TO 29 M S) : TO 29 (sUpd M 29 12 0) (uS S 8 0) := by
  obtain ⟨⟨a5, a6, a7, a8, a9⟩, h1, h2, h3, h4, h5⟩ := ht
  have o : ∀ j : Nat, j ≠ 8 → uS S 8 0 j = S j := fun j hj => uS_ne hj
  have m : ∀ a, a ≠ 29 → sUpd M 29 12 0 a = M a := fun a ha => sUpd_ne ha
  refine ⟨⟨by rw [sUpd_ni (by decide), o 5 (by decide)]; exact a5, by rw [sUpd_ni (by decide), o 6 (by decide)]; exact a6, by rw [sUpd_ni (by decide), o 7 (by decide)]; exact a7, by rw [sUpd_eq, uS_eq rfl], by rw [sUpd_ni (by decide), o 9 (by decide)]; exact a9⟩, fun p p0 p1 => ?_, fun w w0 w1 => ?_, fun k k0 k1 => ?_, fun f f0 f1 => ?_, fun g g0 g1 => ?_⟩
  · rw [m 30 (by decide), pO4_up (by omega) p0 p1]; exact h1 p p0 p1
  · rw [o 5 (by decide)] at w1
    rw [m 31 (by decide), m 32 (by decide), m 33 (by decide), m 34 (by decide), m 35 (by decide), o (196 + (5 * w)).toNat (by omega), o ((196 + (5 * w)) + 1).toNat (by omega), o ((196 + (5 * w)) + 2).toNat (by omega), o ((196 + (5 * w)) + 3).toNat (by omega), o ((196 + (5 * w)) + 4).toNat (by omega)]
    exact h2 w w0 w1
  · rw [o 6 (by decide)] at k1
    rw [m 36 (by decide), o (226 + k).toNat (by omega)]
    exact h3 k k0 k1
  · rw [o 7 (by decide)] at f1
    rw [m 37 (by decide), m 38 (by decide), o (234 + (2 * f)).toNat (by omega), o ((234 + (2 * f)) + 1).toNat (by omega)]
    exact h4 f f0 f1
  · rw [uS_eq rfl] at g1; omega
end
