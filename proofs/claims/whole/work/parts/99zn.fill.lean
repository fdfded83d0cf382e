/-! THE REFERENCE'S ROW OF A NEW STREET. -/
/-- the row behind a street: what is told stays -/
def nRow (S : Nat → Int) (σ : stT) : Nat → Int := fun j =>
  if j = 0 then (σ.2.1 : Int) else if j = 1 then (σ.2.2.1 : Int) else if j = 2 ∨ j = 3 ∨ j = 4 then 0
  else if 10 ≤ j ∧ j < 10 + 3 * σ.2.1 then σ.2.2.2.1 (j - 10)
  else if 28 ≤ j ∧ j < 28 + 6 * σ.2.2.1 then (if (j - 28) % 6 = 5 then 0 else σ.2.2.2.2 (5 * ((j - 28) / 6) + (j - 28) % 6))
  else if 136 ≤ j ∧ j < 196 then (if (j - 136) % 5 = 4 then S j else if (j - 136) % 5 = 2 then 0 else -1)
  else S j
section
variable {d : Nat} {P : Int → sM → sG → Prop} {M : sM} {G : sG} {σ : stT} {S : Nat → Int}
theorem c200d (hd : 3 ≤ d) (hR : rR M σ) (h : ∀ j, ¬ (136 ≤ j ∧ j < 196) → M 93 j = nRow S σ j) (h2 : ∀ j, 136 ≤ j → j < 196 → M 93 j = S j) (kk : ∀ M', (∀ a, a ≠ 93 → M' a = M a) → M' 93 = nRow S σ → P (σ.2.1 : Int) M' G) : sW (sC d) 200 (QI P) 175 [vO 12 82, vI 0, vN] [] M G 0 0 := by
  have e7 : ∀ N : sM, (∀ a, a ≠ 93 → N a = M a) → N 82 7 = (σ.2.1 : Int) := fun N hN => by rw [hN 82 (by decide)]; exact hR.1
  refine sUpTo (W := fun i => ∀ N : sM, (∀ a, a ≠ 93 → N a = M a) → (∀ j, ¬ (136 + 5 * i ≤ j ∧ j < 196) → N 93 j = nRow S σ j) → (∀ j, 136 + 5 * i ≤ j → j < 196 → N 93 j = S j) → sW (sC d) 200 (QI P) 175 [vO 12 82, vI (i : Int), vN] [] N G 0 0) 12 ?_ ?_ M (fun _ _ => rfl) h h2
  · intro N n1 n2 n3
    have := e7 N n1
    refine (s200_175 ⟨fun q1 => ?_, fun q2 => ?_⟩)
    · rw [this]; exact kk N n1 (funext fun j => n2 j (by omega))
    · omega
  · intro i hi ih N n1 n2 n3
    obtain ⟨d, rfl⟩ : ∃ e, d = e + 1 := ⟨d - 1, by omega⟩
    refine (s200_175 ⟨fun q1 => ?_, fun q2 => ?_⟩)
    · omega
    · refine e201 (s201_0 ⟨⟨by omega, by omega⟩, ⟨by omega, by omega⟩, ⟨(by first | omega | assumption | (refine ⟨?_, ?_⟩ <;> omega) | (simp_all; done)), (by first | omega | assumption | (refine ⟨?_, ?_⟩ <;> omega) | (simp_all; done))⟩, ⟨by omega, by omega⟩, ⟨(by first | omega | assumption | (refine ⟨?_, ?_⟩ <;> omega) | (simp_all; done)), (by first | omega | assumption | (refine ⟨?_, ?_⟩ <;> omega) | (simp_all; done))⟩, ⟨by omega, by omega⟩, ⟨(by first | omega | assumption | (refine ⟨?_, ?_⟩ <;> omega) | (simp_all; done)), (by first | omega | assumption | (refine ⟨?_, ?_⟩ <;> omega) | (simp_all; done))⟩, ?_⟩)
      have k0 : (136 + 5 * (i : Int)).toNat = 136 + 5 * i := by omega
      have k1 : (136 + 5 * (i : Int) + 1).toNat = 137 + 5 * i := by omega
      have k2 : (136 + 5 * (i : Int) + 2).toNat = 138 + 5 * i := by omega
      have k3 : (136 + 5 * (i : Int) + 3).toNat = 139 + 5 * i := by omega
      refine ⟨⟨by omega, by omega⟩, ⟨by omega, by omega⟩, ⟨by omega, by omega⟩, ⟨(by first | omega | assumption | (refine ⟨?_, ?_⟩ <;> omega) | (simp_all; done)), (by first | omega | assumption | (refine ⟨?_, ?_⟩ <;> omega) | (simp_all; done))⟩, ⟨by omega, by omega⟩, ?_⟩
      rw [k0, k1, k2, k3]
      refine ih _ (fun a ha => by rw [sUpd_ne ha, sUpd_ne ha, sUpd_ne ha, sUpd_ne ha]; exact n1 a ha) (fun j hj => ?_) (fun j j1 j2 => ?_)
      · rw [sU_if, sU_if, sU_if, sU_if]
        by_cases c : 136 + 5 * i ≤ j ∧ j < 141 + 5 * i
        · unfold nRow
          rw [if_neg (show ¬ j = 0 by omega), if_neg (show ¬ j = 1 by omega), if_neg (show ¬ (j = 2 ∨ j = 3 ∨ j = 4) by omega), if_neg (show ¬ (10 ≤ j ∧ j < 10 + 3 * σ.2.1) by have := hR.2.2.1; omega), if_neg (show ¬ (28 ≤ j ∧ j < 28 + 6 * σ.2.2.1) by have := hR.2.2.2.1; omega), if_pos (show 136 ≤ j ∧ j < 196 by omega)]
          by_cases c4 : j = 140 + 5 * i
          · rw [if_neg (by omega), if_neg (by omega), if_neg (by omega), if_neg (by omega), if_pos (by omega)]
            exact n3 j (by omega) (by omega)
          · rw [if_neg (show ¬ (j - 136) % 5 = 4 by omega)]
            by_cases c2 : j = 138 + 5 * i
            · rw [if_neg (by omega), if_pos c2, if_pos (by omega)]
            · rw [if_neg (show ¬ (j - 136) % 5 = 2 by omega)]
              by_cases c3 : j = 139 + 5 * i
              · rw [if_pos c3]
              · rw [if_neg c3, if_neg c2]
                by_cases c1 : j = 137 + 5 * i
                · rw [if_pos c1]
                · rw [if_neg c1, if_pos (by omega)]
        · rw [if_neg (by omega), if_neg (by omega), if_neg (by omega), if_neg (by omega)]
          exact n2 j (by omega)
      · rw [sU_if, sU_if, sU_if, sU_if, if_neg (by omega), if_neg (by omega), if_neg (by omega), if_neg (by omega)]
        exact n3 j (by omega) j2
end
