/-! THE REFERENCE: street. -/
section
variable {d n : Nat} {T : Nat → Int} {P : Int → sM → sG → Prop} {M : sM} {G : sG}
/-- an empty street, ahead of the tape -/
def st0 : stT := (0, 0, 0, (fun _ => 0), fun _ => 0)
theorem c200 (hd : 24 ≤ d) (ho : tOk T n) (hT : rTp M T n) (k0 : (streetF T n 25 st0).1 ≠ 0 → ∀ M', (∀ a, a ≠ 82 → a ≠ 85 → a ≠ 88 → a ≠ 89 → M' a = M a) → M' 82 1 = 0 → M' 82 2 = M 82 2 → P (-2 - (streetF T n 25 st0).1) M' G) (k1 : (streetF T n 25 st0).1 = 0 → ∀ M', (∀ a, a ≠ 82 → a ≠ 85 → a ≠ 88 → a ≠ 89 → a ≠ 93 → M' a = M a) → M' 82 1 = 0 → M' 82 2 = M 82 2 → M' 93 = nRow (M 93) (streetF T n 25 st0).2 → P ((streetF T n 25 st0).2.2.1 : Int) M' G) : sC d 200 [vO 12 82] M G (QI P) := by
  obtain ⟨d, rfl⟩ := sD 1 (d := d) (by omega)
  obtain ⟨F, hF⟩ : ∃ F, F = streetF T n 25 st0 := ⟨_, rfl⟩
  rw [← hF] at k0 k1
  refine e200 (s200_0 (c173s (by omega) ho (((hT.u ⟨by decide, Or.inr (by decide)⟩).u ⟨by decide, Or.inr (by decide)⟩).u ⟨by decide, Or.inr (by decide)⟩) ?_ ?_ ?_ (fun X M' q' v' x1 x2 o y => ?_)))
  · rw [sUpd_ni (by decide), sUpd_ni (by decide), sUpd_eq]
  · rw [sUpd_ni (by decide), sUpd_eq]
  · exact sUpd_eq
  · have hf : streetF T n 25 (0, 0, 0, (fun _ => 0), fun _ => 0) = F := hF.symm
    rw [hf] at y ⊢
    have w1 : ∀ a, a ≠ 82 → a ≠ 85 → a ≠ 88 → a ≠ 89 → sUpd (rS M' q' F.1 v') 82 1 0 a = M a := fun a a1 a2 a3 a4 => by
      rw [sUpd_ne a1, rS_a a1, o.1 a a1 a3 a4, x1 a a1 a2, sUpd_ne a1, sUpd_ne a1, sUpd_ne a1]
    have w2 : sUpd (rS M' q' F.1 v') 82 1 0 82 2 = M 82 2 := by
      rw [sUpd_ni (by decide), rS_o (Or.inr ⟨by decide, by decide, by decide⟩), o.2 2 (by decide) (by decide) (by decide), x2 2 (by decide) (by decide) (by decide) (by decide), sUpd_ni (by decide), sUpd_ni (by decide), sUpd_ni (by decide)]
    have w3 : sUpd (rS M' q' F.1 v') 82 1 0 82 1 = 0 := sUpd_eq
    have w12 : sUpd (rS M' q' F.1 v') 82 1 0 82 12 = F.1 := by rw [sUpd_ni (by decide)]; exact rS_f
    by_cases c : F.1 = 0
    · rw [if_pos c]
      refine ⟨fun _ => ?_, fun z => absurd z (by decide)⟩
      have hR := y c
      sorry
    · rw [if_neg c]
      refine ⟨fun z => absurd rfl z, fun _ => ?_⟩
      rw [w12]
      have hb := k0 c _ w1 w3 w2
      have hs := streetF_sm (T := T) (n := n) 25 st0 (Nat.zero_le _)
      rw [← hF] at hs
      have h400 := ho.1
      unfold sm at hs
      exact ⟨⟨by omega, by omega⟩, hb⟩
end
