/-! THE REFERENCE'S STAYS. -/
theorem numG_c {T : Nat → Int} {n p : Nat} {f lo hi : Int} (h : f ≠ 0) : (numG T n p f lo hi).2.1 = f := by rw [numG_f h]
theorem numG_z {T : Nat → Int} {n p : Nat} {f lo hi : Int} (h : f = 0) : numG T n p f lo hi = numF T n p lo hi := by subst h; exact numG_0
section
variable {d n : Nat} {T : Nat → Int} {P : Int → sM → sG → Prop} {M : sM} {G : sG} {v : Int}
theorem c184 {k q nh : Nat} (hd : 12 ≤ d) (ho : tOk T n) (hT : rTp M T n) (hq : q ≤ n) (hw : atW T n q wStay) (hM : M 82 8 = (k : Int)) (h6 : k < 18) (hN : M 82 7 = (nh : Int)) (hN6 : nh ≤ 6)
    (kb : ∀ M' q' v', q' ≤ n → offH M M' → (s5F T n (q + 4) nh).2.1 ≠ 0 → P 0 (rS M' q' (s5F T n (q + 4) nh).2.1 v') G)
    (kk : (s5F T n (q + 4) nh).2.1 = 0 → ∀ v', P 1 (rS (sUpd (sUpd (sUpd (sUpd (sUpd (sUpd M 89 (5 * k) (s1F T n (q + 4)).2.2) 89 (5 * k + 1) (s2F T n (q + 4) nh).2.2) 89 (5 * k + 2) (s3F T n (q + 4) nh).2.2) 89 (5 * k + 3) (s4F T n (q + 4) nh).2.2) 89 (5 * k + 4) (s5F T n (q + 4) nh).2.2) 82 8 ((k + 1 : Nat) : Int)) (s5F T n (q + 4) nh).1 0 v') G) :
    sC d 184 [vO 12 82, vI (q : Int)] (rS M q 0 v) G (QI P) := by
  obtain ⟨d, rfl⟩ := sD 1 (d := d) (by omega)
  have h400 := ho.1
  have e8 : ∀ X : sM, X 82 8 = (k : Int) → ∀ q g w, rS X q g w 82 8 = (k : Int) := fun X hX q g w => by rw [rS_o (Or.inr ⟨by decide, by decide, by decide⟩)]; exact hX
  have e7 : ∀ X : sM, X 82 7 = (nh : Int) → ∀ q g w, rS X q g w 82 7 = (nh : Int) := fun X hX q g w => by rw [rS_o (Or.inr ⟨by decide, by decide, by decide⟩)]; exact hX
  have l4 : lts T n q = q + 4 := (atW_lts hq ok_stay.1 hw).trans (by rw [ok_stay.2.2])
  have q4 : q + 4 ≤ n := by have := hw.1; rw [ok_stay.2.2] at this; exact this
  have n1 : (s1F T n (q + 4)).1 ≤ n := numG_le q4
  have n2 : (s2F T n (q + 4) nh).1 ≤ n := numG_le n1
  have n3 : (s3F T n (q + 4) nh).1 ≤ n := numG_le n2
  have n4 : (s4F T n (q + 4) nh).1 ≤ n := numG_le n3
  have g3 : 0 ≤ (s3F T n (q + 4) nh).2.2 := numG_ge (by decide)
  have u3 : (s3F T n (q + 4) nh).2.2 ≤ 95 := numG_up (by decide)
  have c4 : (s4F T n (q + 4) nh).2.1 ≠ 0 → (s5F T n (q + 4) nh).2.1 = (s4F T n (q + 4) nh).2.1 := fun h => numG_c h
  have c3 : (s3F T n (q + 4) nh).2.1 ≠ 0 → (s5F T n (q + 4) nh).2.1 = (s3F T n (q + 4) nh).2.1 := fun h => by
    have : (s4F T n (q + 4) nh).2.1 = (s3F T n (q + 4) nh).2.1 := numG_c h
    rw [c4 (by rw [this]; exact h), this]
  have c2 : (s2F T n (q + 4) nh).2.1 ≠ 0 → (s5F T n (q + 4) nh).2.1 = (s2F T n (q + 4) nh).2.1 := fun h => by
    have : (s3F T n (q + 4) nh).2.1 = (s2F T n (q + 4) nh).2.1 := numG_c h
    rw [c3 (by rw [this]; exact h), this]
  have c1 : (s1F T n (q + 4)).2.1 ≠ 0 → (s5F T n (q + 4) nh).2.1 = (s1F T n (q + 4)).2.1 := fun h => by
    have : (s2F T n (q + 4) nh).2.1 = (s1F T n (q + 4)).2.1 := numG_c h
    rw [c2 (by rw [this]; exact h), this]
  have f1 : s1F T n (q + 4) = numF T n (q + 4) 0 11 := numG_0
  have f2 : (s1F T n (q + 4)).2.1 = 0 → s2F T n (q + 4) nh = numF T n (s1F T n (q + 4)).1 0 ((nh : Int) - 1) := fun h => numG_z h
  have f3 : (s2F T n (q + 4) nh).2.1 = 0 → s3F T n (q + 4) nh = numF T n (s2F T n (q + 4) nh).1 0 95 := fun h => numG_z h
  have f4 : (s3F T n (q + 4) nh).2.1 = 0 → s4F T n (q + 4) nh = numF T n (s3F T n (q + 4) nh).1 ((s3F T n (q + 4) nh).2.2 + 1) 95 := fun h => numG_z h
  have f5 : (s4F T n (q + 4) nh).2.1 = 0 → s5F T n (q + 4) nh = numF T n (s4F T n (q + 4) nh).1 0 99 := fun h => numG_z h
  have e80 := e8 M hM q 0 v
  have ek : ∀ i : Nat, (5 * (k : Int) + (i : Int)).toNat = 5 * k + i := fun i => by omega
  refine e184 (s184_0 ⟨fun q1 => ?_, fun q12 => ?_⟩)
  · refine c180 (by omega) ho hT hq ?_
    rw [l4, e8 M hM]
    refine ⟨⟨by omega, by omega⟩, ?_⟩
    refine c181 (by omega) ho hT q4 (fun q' v' z0 z => ⟨fun y => absurd rfl y, fun _ => ?_⟩) (fun z => ⟨fun _ => ?_, fun y => absurd y (by decide)⟩)
    all_goals rw [← f1] at z ⊢
    · rw [← c1 z]; exact kb _ q' v' z0 (offH.refl M) (by rw [c1 z]; exact z)
    rw [e7 M hN, rS_v, show (5 * (k : Int)).toNat = 5 * k by omega, rS_u (Or.inl (by decide))]
    refine ⟨⟨by omega, by omega⟩, ⟨by omega, by omega⟩, ?_⟩
    have hT1 := hT.u (a := 89) (i := 5 * k) (x := (s1F T n (q + 4)).2.2) ⟨by decide, Or.inl (by decide)⟩
    have o1 := (offH.refl M).u (a := 89) (i := 5 * k) (x := (s1F T n (q + 4)).2.2) (Or.inr rfl)
    refine c181 (by omega) ho hT1 n1 (fun q' v' z0 z2 => ⟨fun y => absurd rfl y, fun _ => ?_⟩) (fun z2 => ⟨fun _ => ?_, fun y => absurd y (by decide)⟩)
    all_goals rw [← f2 z] at z2 ⊢
    · rw [← c2 z2]; exact kb _ q' v' z0 o1 (by rw [c2 z2]; exact z2)
    rw [rS_v, show (5 * (k : Int) + 1).toNat = 5 * k + 1 by omega, rS_u (Or.inl (by decide))]
    refine ⟨⟨by omega, by omega⟩, ⟨by omega, by omega⟩, ?_⟩
    have hT2 := hT1.u (a := 89) (i := 5 * k + 1) (x := (s2F T n (q + 4) nh).2.2) ⟨by decide, Or.inl (by decide)⟩
    have o2 := o1.u (a := 89) (i := 5 * k + 1) (x := (s2F T n (q + 4) nh).2.2) (Or.inr rfl)
    refine c181 (by omega) ho hT2 n2 (fun q' v' z0 z3 => ⟨fun y => absurd rfl y, fun _ => ?_⟩) (fun z3 => ⟨fun _ => ?_, fun y => absurd y (by decide)⟩)
    all_goals rw [← f3 z2] at z3 ⊢
    · rw [← c3 z3]; exact kb _ q' v' z0 o2 (by rw [c3 z3]; exact z3)
    rw [rS_v, show (5 * (k : Int) + 2).toNat = 5 * k + 2 by omega, rS_u (Or.inl (by decide))]
    refine ⟨⟨by omega, by omega⟩, ⟨by omega, by omega⟩, ⟨by omega, by omega⟩, ?_⟩
    have hT3 := hT2.u (a := 89) (i := 5 * k + 2) (x := (s3F T n (q + 4) nh).2.2) ⟨by decide, Or.inl (by decide)⟩
    have o3 := o2.u (a := 89) (i := 5 * k + 2) (x := (s3F T n (q + 4) nh).2.2) (Or.inr rfl)
    refine c181 (by omega) ho hT3 n3 (fun q' v' z0 z4 => ⟨fun y => absurd rfl y, fun _ => ?_⟩) (fun z4 => ⟨fun _ => ?_, fun y => absurd y (by decide)⟩)
    all_goals rw [← f4 z3] at z4 ⊢
    · rw [← c4 z4]; exact kb _ q' v' z0 o3 (by rw [c4 z4]; exact z4)
    rw [rS_v, show (5 * (k : Int) + 3).toNat = 5 * k + 3 by omega, rS_u (Or.inl (by decide))]
    refine ⟨⟨by omega, by omega⟩, ⟨by omega, by omega⟩, ?_⟩
    have hT4 := hT3.u (a := 89) (i := 5 * k + 3) (x := (s4F T n (q + 4) nh).2.2) ⟨by decide, Or.inl (by decide)⟩
    have o4 := o3.u (a := 89) (i := 5 * k + 3) (x := (s4F T n (q + 4) nh).2.2) (Or.inr rfl)
    refine c181 (by omega) ho hT4 n4 (fun q' v' z0 z5 => ⟨fun y => absurd rfl y, fun _ => ?_⟩) (fun z5 => ⟨fun _ => ?_, fun y => absurd y (by decide)⟩)
    all_goals rw [← f5 z4] at z5 ⊢
    · exact kb _ q' v' z0 o4 z5
    have hM5 : sUpd (sUpd (sUpd (sUpd M 89 (5 * k) (s1F T n (q + 4)).2.2) 89 (5 * k + 1) (s2F T n (q + 4) nh).2.2) 89 (5 * k + 2) (s3F T n (q + 4) nh).2.2) 89 (5 * k + 3) (s4F T n (q + 4) nh).2.2 82 8 = (k : Int) := by rw [sUpd_ne (by decide), sUpd_ne (by decide), sUpd_ne (by decide), sUpd_ne (by decide)]; exact hM
    rw [rS_v, e8 _ hM5, show (5 * (k : Int) + 4).toNat = 5 * k + 4 by omega, rS_u (Or.inl (by decide)), rS_u (Or.inr ⟨by decide, by decide, by decide⟩)]
    exact ⟨⟨by omega, by omega⟩, ⟨by omega, by omega⟩, ⟨by omega, by omega⟩, kk z5 _⟩
  · omega
end
