/-! THE REFERENCE: street. -/
section
variable {d n : Nat} {T : Nat → Int} {P : Int → sM → sG → Prop} {M : sM} {G : sG}
/-- an empty street, ahead of the tape -/
def st0 : stT := (0, 0, 0, (fun _ => 0), fun _ => 0)
theorem c200 (hd : 24 ≤ d) (ho : tOk T n) (hT : rTp M T n) (k0 : (streetF T n 25 st0).1 ≠ 0 → ∀ M', (∀ a, a ≠ 82 → a ≠ 85 → a ≠ 88 → a ≠ 89 → M' a = M a) → M' 82 1 = 0 → M' 82 2 = M 82 2 → P (-2 - (streetF T n 25 st0).1) M' G) (k1 : (streetF T n 25 st0).1 = 0 → ∀ M', (∀ a, a ≠ 82 → a ≠ 85 → a ≠ 88 → a ≠ 89 → a ≠ 93 → M' a = M a) → M' 82 1 = 0 → M' 82 2 = M 82 2 → M' 93 = nRow (M 93) (streetF T n 25 st0).2 → P ((streetF T n 25 st0).2.2.1 : Int) M' G) : sC d 200 [vO 12 82] M G (QI P) := by
  obtain ⟨d, rfl⟩ := sD 1 (d := d) (by omega)
  obtain ⟨F, hF⟩ : ∃ F, F = streetF T n 25 st0 := ⟨_, rfl⟩
  rw [← hF] at k0 k1
  refine e200 (s200_0 (c173s (by omega) ho (((hT.u ⟨by decide, Or.inr (by decide)⟩).u ⟨by decide, Or.inr (by decide)⟩).u ⟨by decide, Or.inr (by decide)⟩) ?_ ?_ ?_ (fun X M' q' v' x1 x2 o y => ?_)))
  · rw [sUpd_ni (by decide), sUpd_ni (by decide), sUpd_eq]
  · rw [sUpd_ni (by decide), sUpd_eq]
  · exact sUpd_eq
  · have hf : streetF T n 25 (0, 0, 0, (fun _ => 0), fun _ => 0) = F := hF.symm
    rw [hf] at y ⊢
    have w1 : ∀ a, a ≠ 82 → a ≠ 85 → a ≠ 88 → a ≠ 89 → sUpd (rS M' q' F.1 v') 82 1 0 a = M a := fun a a1 a2 a3 a4 => by
      rw [sUpd_ne a1, rS_a a1, o.1 a a1 a3 a4, x1 a a1 a2, sUpd_ne a1, sUpd_ne a1, sUpd_ne a1]
    have w2 : sUpd (rS M' q' F.1 v') 82 1 0 82 2 = M 82 2 := by
      rw [sUpd_ni (by decide), rS_o (Or.inr ⟨by decide, by decide, by decide⟩), o.2 2 (by decide) (by decide) (by decide), x2 2 (by decide) (by decide) (by decide) (by decide), sUpd_ni (by decide), sUpd_ni (by decide), sUpd_ni (by decide)]
    have w3 : sUpd (rS M' q' F.1 v') 82 1 0 82 1 = 0 := sUpd_eq
    have w12 : sUpd (rS M' q' F.1 v') 82 1 0 82 12 = F.1 := by rw [sUpd_ni (by decide)]; exact rS_f
    by_cases c : F.1 = 0
    · rw [if_pos c]
      refine ⟨fun _ => ?_, fun z => absurd z (by decide)⟩
      have hR := y c
      obtain ⟨Y, hY⟩ : ∃ Y, Y = sUpd (rS M' q' F.1 v') 82 1 0 := ⟨_, rfl⟩
      rw [← hY] at w1 w2 w3 ⊢
      have w7 : Y 82 7 = (F.2.2.1 : Int) := by rw [hY, sUpd_ni (by decide), rS_o (Or.inr ⟨by decide, by decide, by decide⟩)]; exact hR.1
      have w8 : Y 82 8 = (F.2.2.2.1 : Int) := by rw [hY, sUpd_ni (by decide), rS_o (Or.inr ⟨by decide, by decide, by decide⟩)]; exact hR.2.1
      have w88 : Y 88 = M' 88 := by rw [hY, sUpd_ne (by decide), rS_a (by decide)]
      have w89 : Y 89 = M' 89 := by rw [hY, sUpd_ne (by decide), rS_a (by decide)]
      have w93 : Y 93 = M 93 := w1 93 (by decide) (by decide) (by decide) (by decide)
      rw [w7, w8]
      have o : ∀ a, a ≠ 93 → sUpd (sUpd (sUpd (sUpd (sUpd Y 93 0 (F.2.2.1 : Int)) 93 1 (F.2.2.2.1 : Int)) 93 2 0) 93 3 0) 93 4 0 a = Y a := fun a ha => by
        rw [sUpd_ne ha, sUpd_ne ha, sUpd_ne ha, sUpd_ne ha, sUpd_ne ha]
      have o93 : ∀ j, sUpd (sUpd (sUpd (sUpd (sUpd Y 93 0 (F.2.2.1 : Int)) 93 1 (F.2.2.2.1 : Int)) 93 2 0) 93 3 0) 93 4 0 93 j = if j = 4 then 0 else if j = 3 then 0 else if j = 2 then 0 else if j = 1 then (F.2.2.2.1 : Int) else if j = 0 then (F.2.2.1 : Int) else M 93 j := fun j => by
        rw [sU_if, sU_if, sU_if, sU_if, sU_if, w93]
      refine c200b (S := M 93) (σ := F.2) (by omega) ?_ (fun j j1 j2 j3 => ?_) (fun j j1 j2 => ?_) (fun N n1 n2 => k1 c N (fun a a1 a2 a3 a4 a5 => by rw [n1 a a5, o a a5]; exact w1 a a1 a2 a3 a4) (by rw [n1 82 (by decide), o 82 (by decide)]; exact w3) (by rw [n1 82 (by decide), o 82 (by decide)]; exact w2) n2)
      · unfold rR
        rw [o 82 (by decide), o 88 (by decide), o 89 (by decide), w88, w89]
        exact ⟨w7, w8, hR.2.2⟩
      · rw [o93]
        unfold nRow
        by_cases z0 : j = 0
        · rw [if_neg (by omega), if_neg (by omega), if_neg (by omega), if_neg (by omega), if_pos z0, if_pos z0]
        · by_cases z1 : j = 1
          · rw [if_neg (by omega), if_neg (by omega), if_neg (by omega), if_pos z1, if_neg z0, if_pos z1]
          · rw [if_neg (show ¬ (10 ≤ j ∧ j < 10 + 3 * F.2.2.1) from j1), if_neg (show ¬ (28 ≤ j ∧ j < 28 + 6 * F.2.2.2.1) from j2), if_neg (show ¬ (136 ≤ j ∧ j < 196) from j3), if_neg (show ¬ j = 1 from z1), if_neg (show ¬ j = 0 from z0), if_neg (show ¬ j = 0 from z0), if_neg (show ¬ j = 1 from z1)]
            by_cases z2 : j = 2 ∨ j = 3 ∨ j = 4
            · rw [if_pos z2]
              split
              · rfl
              · split
                · rfl
                · split
                  · rfl
                  · omega
            · rw [if_neg z2, if_neg (by omega), if_neg (by omega), if_neg (by omega)]
      · rw [o93, if_neg (by omega), if_neg (by omega), if_neg (by omega), if_neg (by omega), if_neg (by omega)]
    · rw [if_neg c]
      refine ⟨fun z => absurd rfl z, fun _ => ?_⟩
      rw [w12]
      have hb := k0 c _ w1 w3 w2
      have hs := streetF_sm (T := T) (n := n) 25 st0 (Nat.zero_le _)
      rw [← hF] at hs
      have h400 := ho.1
      unfold sm at hs
      exact ⟨⟨by omega, by omega⟩, hb⟩
end
