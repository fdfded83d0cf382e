/-! THE REFERENCE'S ROW OF A NEW STREET: stays, houses. -/
section
variable {d : Nat} {P : Int → sM → sG → Prop} {M : sM} {G : sG} {σ : stT} {S : Nat → Int}
theorem nRow_stay {s k : Nat} (h6 : σ.2.1 ≤ 6) (hs : s < σ.2.2.1) (hk : k ≤ 5) : nRow S σ (28 + 6 * s + k) = if k = 5 then 0 else σ.2.2.2.2 (5 * s + k) := by
  unfold nRow
  rw [if_neg (by omega), if_neg (by omega), if_neg (by omega), if_neg (by omega), if_pos (by omega), show (28 + 6 * s + k - 28) % 6 = k by omega, show (28 + 6 * s + k - 28) / 6 = s by omega]
theorem c200c (hd : 3 ≤ d) (hR : rR M σ) (h : ∀ j, ¬ (28 ≤ j ∧ j < 28 + 6 * σ.2.2.1) → ¬ (136 ≤ j ∧ j < 196) → M 93 j = nRow S σ j) (h2 : ∀ j, 136 ≤ j → j < 196 → M 93 j = S j) (kk : ∀ M', (∀ a, a ≠ 93 → M' a = M a) → M' 93 = nRow S σ → P (σ.2.1 : Int) M' G) : sW (sC d) 200 (QI P) 107 [vO 12 82, vI 0, vN] [] M G 0 0 := by
  have r6 := hR.2.2.2.1
  have e8 : ∀ N : sM, (∀ a, a ≠ 93 → N a = M a) → N 82 8 = (σ.2.2.1 : Int) := fun N hN => by rw [hN 82 (by decide)]; exact hR.2.1
  refine sUpTo (W := fun i => ∀ N : sM, (∀ a, a ≠ 93 → N a = M a) → (∀ j, ¬ (28 + 6 * i ≤ j ∧ j < 28 + 6 * σ.2.2.1) → ¬ (136 ≤ j ∧ j < 196) → N 93 j = nRow S σ j) → (∀ j, 136 ≤ j → j < 196 → N 93 j = S j) → sW (sC d) 200 (QI P) 107 [vO 12 82, vI (i : Int), vN] [] N G 0 0) σ.2.2.1 ?_ ?_ M (fun _ _ => rfl) h h2
  · intro N n1 n2 n3
    have := e8 N n1
    refine (s200_107 ⟨fun q1 => ?_, fun q2 => ?_⟩)
    · refine c200d hd ?_ (fun j hj => n2 j (by omega) hj) n3 (fun M' m1 m2 => kk M' (fun a ha => (m1 a ha).trans (n1 a ha)) m2)
      unfold rR
      rw [n1 82 (by decide), n1 88 (by decide), n1 89 (by decide)]
      exact hR
    · omega
  · intro s hs ih N n1 n2 n3
    have := e8 N n1
    refine (s200_107 ⟨fun q1 => ?_, fun q2 => ?_⟩)
    · omega
    · refine sUpTo (W := fun k => ∀ N : sM, (∀ a, a ≠ 93 → N a = M a) → (∀ j, ¬ (28 + 6 * s + k ≤ j ∧ j < 28 + 6 * σ.2.2.1) → ¬ (136 ≤ j ∧ j < 196) → N 93 j = nRow S σ j) → (∀ j, 136 ≤ j → j < 196 → N 93 j = S j) → sW (sC d) 200 (QI P) 117 [vO 12 82, vI (s : Int), vI (k : Int)] [] N G 0 0) 5 ?_ ?_ N n1 n2 n3
      · intro N n1 n2 n3
        refine (s200_117 ⟨fun q1 => ⟨⟨by omega, by omega⟩, ⟨by omega, by omega⟩, ⟨by omega, by omega⟩, ⟨(by first | omega | assumption | (refine ⟨?_, ?_⟩ <;> omega) | (simp_all; done)), (by first | omega | assumption | (refine ⟨?_, ?_⟩ <;> omega) | (simp_all; done))⟩, ⟨by omega, by omega⟩, ?_⟩, fun q2 => ⟨⟨by omega, by omega⟩, ⟨by omega, by omega⟩, ⟨by omega, by omega⟩, ⟨by omega, by omega⟩, ⟨by omega, by omega⟩, ⟨(by first | omega | assumption | (refine ⟨?_, ?_⟩ <;> omega) | (simp_all; done)), (by first | omega | assumption | (refine ⟨?_, ?_⟩ <;> omega) | (simp_all; done))⟩, ⟨(by first | omega | assumption | (refine ⟨?_, ?_⟩ <;> omega) | (simp_all; done)), (by first | omega | assumption | (refine ⟨?_, ?_⟩ <;> omega) | (simp_all; done))⟩, ⟨by omega, by omega⟩, ?_⟩⟩)
        · have ej : ((28 + 6 * (s : Int)) + 5).toNat = 28 + 6 * s + 5 := by omega
          have := ih _ (fun a ha => (sUpd_ne (M := N) (i := 28 + 6 * s + 5) (x := 0) ha).trans (n1 a ha)) (fun j h1 h2 => by
            rw [sU_if]
            by_cases c : j = 28 + 6 * s + 5
            · rw [if_pos c, c, nRow_stay hR.2.2.1 hs (by omega), if_pos rfl]
            · rw [if_neg c]; exact n2 j (by omega) h2) (fun j j1 j2 => by rw [sU_if, if_neg (by omega)]; exact n3 j j1 j2)
          rw [← ej] at this
          exact this
        · omega
      · intro k hk ih2 N n1 n2 n3
        have hv : N 89 ((5 * (s : Int)) + (k : Int)).toNat = σ.2.2.2.2 (5 * s + k) := by rw [n1 89 (by decide), show ((5 * (s : Int)) + (k : Int)).toNat = 5 * s + k by omega]; exact hR.2.2.2.2.2 _ (by omega)
        have ej : ((28 + (6 * (s : Int))) + (k : Int)).toNat = 28 + 6 * s + k := by omega
        refine (s200_117 ⟨fun q1 => ⟨⟨by omega, by omega⟩, ⟨by omega, by omega⟩, ⟨by omega, by omega⟩, ⟨(by first | omega | assumption | (refine ⟨?_, ?_⟩ <;> omega) | (simp_all; done)), (by first | omega | assumption | (refine ⟨?_, ?_⟩ <;> omega) | (simp_all; done))⟩, ⟨by omega, by omega⟩, ?_⟩, fun q2 => ⟨⟨by omega, by omega⟩, ⟨by omega, by omega⟩, ⟨by omega, by omega⟩, ⟨by omega, by omega⟩, ⟨by omega, by omega⟩, ⟨(by first | omega | assumption | (refine ⟨?_, ?_⟩ <;> omega) | (simp_all; done)), (by first | omega | assumption | (refine ⟨?_, ?_⟩ <;> omega) | (simp_all; done))⟩, ⟨(by first | omega | assumption | (refine ⟨?_, ?_⟩ <;> omega) | (simp_all; done)), (by first | omega | assumption | (refine ⟨?_, ?_⟩ <;> omega) | (simp_all; done))⟩, ⟨by omega, by omega⟩, ?_⟩⟩)
        · omega
        · rw [hv, ej]
          refine ih2 _ (fun a ha => by rw [sUpd_ne ha]; exact n1 a ha) (fun j h1 h2 => ?_) (fun j j1 j2 => ?_)
          · rw [sU_if]
            by_cases c : j = 28 + 6 * s + k
            · rw [if_pos c, c, nRow_stay hR.2.2.1 hs (by omega), if_neg (by omega)]
            · rw [if_neg c]; exact n2 j (by omega) h2
          · rw [sU_if, if_neg (by omega)]; exact n3 j j1 j2
end
