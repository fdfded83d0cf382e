/-! THE REFERENCE READS A STREET: readsAll, from its beginning. -/
section
variable {d n : Nat} {T : Nat → Int} {P : Int → sM → sG → Prop} {M : sM} {G : sG}
theorem c173s (hd : 20 ≤ d) (ho : tOk T n) (hT : rTp M T n) (h14 : M 82 14 = 6) (h7 : M 82 7 = 0) (h8 : M 82 8 = 0) (kk : ∀ X M' q' v', (∀ a, a ≠ 82 → a ≠ 85 → X a = M a) → (∀ i, i ≠ 17 → i ≠ 11 → i ≠ 12 → i ≠ 15 → X 82 i = M 82 i) → offR X M' → ((streetF T n 25 (0, 0, 0, (fun _ => 0), fun _ => 0)).1 = 0 → rR M' (streetF T n 25 (0, 0, 0, (fun _ => 0), fun _ => 0)).2) → P (if (streetF T n 25 (0, 0, 0, (fun _ => 0), fun _ => 0)).1 = 0 then 1 else 0) (sUpd (rS M' q' (streetF T n 25 (0, 0, 0, (fun _ => 0), fun _ => 0)).1 v') 82 1 0) G) : sC d 173 [vO 12 82] M G (QI P) := by
  obtain ⟨d, rfl⟩ := sD 1 (d := d) (by omega)
  refine e173 (s173_0 ⟨⟨(by first | omega | assumption | (refine ⟨?_, ?_⟩ <;> omega) | (simp_all; done)), (by first | omega | assumption | (refine ⟨?_, ?_⟩ <;> omega) | (simp_all; done))⟩, ?_⟩)
  obtain ⟨X, hX⟩ : ∃ X, X = sUpd (sUpd (sUpd (sUpd (sUpd M 85 (M 82 14).toNat 0) 82 17 0) 82 11 0) 82 12 0) 82 15 0 := ⟨_, rfl⟩
  rw [← hX]
  have x1 : ∀ a, a ≠ 82 → a ≠ 85 → X a = M a := fun a h1 h2 => by
    rw [hX, sUpd_ne h1, sUpd_ne h1, sUpd_ne h1, sUpd_ne h1, sUpd_ne h2]
  have x2 : ∀ i, i ≠ 17 → i ≠ 11 → i ≠ 12 → i ≠ 15 → X 82 i = M 82 i := fun i i1 i2 i3 i4 => by
    rw [hX, sUpd_ni i4, sUpd_ni i3, sUpd_ni i2, sUpd_ni i1, sUpd_ne (by decide)]
  have x11 : X 82 11 = ((0 : Nat) : Int) := by rw [hX, sUpd_ni (by decide), sUpd_ni (by decide), sUpd_eq]; rfl
  have x12 : X 82 12 = 0 := by rw [hX, sUpd_ni (by decide), sUpd_eq]
  have x17 : X 82 17 = 0 := by rw [hX, sUpd_ni (by decide), sUpd_ni (by decide), sUpd_ni (by decide), sUpd_eq]
  have e := rS_self (M := X) (q := 0) (f := 0) (v := X 82 13) x11 x12 rfl
  rw [← e]
  have hTX : rTp X T n := by
    unfold rTp
    rw [x2 1 (by decide) (by decide) (by decide) (by decide), x1 83 (by decide) (by decide)]
    exact hT
  refine key173 (by omega) ho hTX ((x2 14 (by decide) (by decide) (by decide) (by decide)).trans h14) 24 (0, 0, 0, (fun _ => 0), fun _ => 0) X (X 82 13) (Nat.le_refl _) (Nat.zero_le _) (offR.refl X) ⟨(x2 7 (by decide) (by decide) (by decide) (by decide)).trans h7, (x2 8 (by decide) (by decide) (by decide) (by decide)).trans h8, by decide, by decide, fun i hi => absurd hi (Nat.not_lt_zero i), fun i hi => absurd hi (Nat.not_lt_zero i)⟩ x17 (fun M' q' v' y1 y2 => kk X M' q' v' x1 x2 y1 y2)
end
