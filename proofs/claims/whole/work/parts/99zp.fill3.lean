/-! THE REFERENCE'S ROW OF A NEW STREET: houses. -/
section
variable {d : Nat} {P : Int → sM → sG → Prop} {M : sM} {G : sG} {σ : stT} {S : Nat → Int}
theorem c200b (hd : 3 ≤ d) (hR : rR M σ) (h : ∀ j, ¬ (10 ≤ j ∧ j < 10 + 3 * σ.2.1) → ¬ (28 ≤ j ∧ j < 28 + 6 * σ.2.2.1) → ¬ (136 ≤ j ∧ j < 196) → M 93 j = nRow S σ j) (h2 : ∀ j, 136 ≤ j → j < 196 → M 93 j = S j) (kk : ∀ M', (∀ a, a ≠ 93 → M' a = M a) → M' 93 = nRow S σ → P (σ.2.1 : Int) M' G) : sW (sC d) 200 (QI P) 74 [vO 12 82, vI 0, vN] [] M G 0 0 := by
  have r6 := hR.2.2.1
  have e7 : ∀ N : sM, (∀ a, a ≠ 93 → N a = M a) → N 82 7 = (σ.2.1 : Int) := fun N hN => by rw [hN 82 (by decide)]; exact hR.1
  refine sUpTo (W := fun i => ∀ N : sM, (∀ a, a ≠ 93 → N a = M a) → (∀ j, ¬ (10 + i ≤ j ∧ j < 10 + 3 * σ.2.1) → ¬ (28 ≤ j ∧ j < 28 + 6 * σ.2.2.1) → ¬ (136 ≤ j ∧ j < 196) → N 93 j = nRow S σ j) → (∀ j, 136 ≤ j → j < 196 → N 93 j = S j) → sW (sC d) 200 (QI P) 74 [vO 12 82, vI (i : Int), vN] [] N G 0 0) (3 * σ.2.1) ?_ ?_ M (fun _ _ => rfl) h h2
  · intro N n1 n2 n3
    have := e7 N n1
    refine (s200_74 ⟨⟨by omega, by omega⟩, fun q1 => ?_, fun q2 => ⟨⟨by omega, by omega⟩, ⟨(by first | omega | assumption | (refine ⟨?_, ?_⟩ <;> omega) | (simp_all; done)), (by first | omega | assumption | (refine ⟨?_, ?_⟩ <;> omega) | (simp_all; done))⟩, ⟨(by first | omega | assumption | (refine ⟨?_, ?_⟩ <;> omega) | (simp_all; done)), (by first | omega | assumption | (refine ⟨?_, ?_⟩ <;> omega) | (simp_all; done))⟩, ⟨by omega, by omega⟩, ?_⟩⟩)
    · refine c200c hd ?_ (fun j hj hj2 => n2 j (by omega) hj hj2) n3 (fun M' m1 m2 => kk M' (fun a ha => (m1 a ha).trans (n1 a ha)) m2)
      unfold rR
      rw [n1 82 (by decide), n1 88 (by decide), n1 89 (by decide)]
      exact hR
    · omega
  · intro i hi ih N n1 n2 n3
    have := e7 N n1
    have hv : N 88 ((i : Int)).toNat = σ.2.2.2.1 i := by rw [n1 88 (by decide)]; exact hR.2.2.2.2.1 i hi
    have ej : (10 + (i : Int)).toNat = 10 + i := by omega
    refine (s200_74 ⟨⟨by omega, by omega⟩, fun q1 => ?_, fun q2 => ⟨⟨by omega, by omega⟩, ⟨(by first | omega | assumption | (refine ⟨?_, ?_⟩ <;> omega) | (simp_all; done)), (by first | omega | assumption | (refine ⟨?_, ?_⟩ <;> omega) | (simp_all; done))⟩, ⟨(by first | omega | assumption | (refine ⟨?_, ?_⟩ <;> omega) | (simp_all; done)), (by first | omega | assumption | (refine ⟨?_, ?_⟩ <;> omega) | (simp_all; done))⟩, ⟨by omega, by omega⟩, ?_⟩⟩)
    · omega
    · rw [hv, ej]
      refine ih _ (fun a ha => by rw [sUpd_ne ha]; exact n1 a ha) (fun j h1 h2 h3 => ?_) (fun j j1 j2 => ?_)
      · rw [sU_if]
        by_cases c : j = 10 + i
        · rw [if_pos c, c]
          unfold nRow
          rw [if_neg (by omega), if_neg (by omega), if_neg (by omega), if_pos (by omega), show 10 + i - 10 = i by omega]
        · rw [if_neg c]; exact n2 j (by omega) h2 h3
      · rw [sU_if, if_neg (by omega)]; exact n3 j j1 j2
end
