/-! THE REFERENCE'S CLAUSES OF A STREET: clauseHere. -/
section
variable {d n : Nat} {T : Nat → Int} {P : Int → sM → sG → Prop} {M : sM} {G : sG} {v : Int} {σ : stT}
theorem c174s {k : Nat} {more : Bool} (hd : 16 ≤ d) (ho : tOk T n) (hT : rTp M T n) (hp : σ.1 ≤ n) (hR : rR M σ) (h14 : M 82 14 = 6) (h17 : M 82 17 = (k : Int)) (hk : k ≤ 24) (hm : more = decide (k < 24))
    (kb : ∀ M' q' v', q' ≤ n → offR M M' → (clauseF T n more σ).1 ≠ 0 → P 0 (rS M' q' (clauseF T n more σ).1 v') G)
    (kk : (clauseF T n more σ).1 = 0 → ∀ M' v', offR M M' → rR M' (clauseF T n more σ).2 → M' 82 17 = ((k + 1 : Nat) : Int) → P 1 (rS M' (clauseF T n more σ).2.1 0 v') G) :
    sC d 174 [vO 12 82] (rS M σ.1 0 v) G (QI P) := by
  obtain ⟨d, rfl⟩ := sD 1 (d := d) (by omega)
  have h400 := ho.1
  obtain ⟨q, hq⟩ : ∃ q, q = blk T n σ.1 := ⟨_, rfl⟩
  have hqn : q ≤ n := by rw [hq]; exact run_le hp
  have hbb : blk T n q = q := by rw [hq]; exact run_stop (run_end hp)
  have e14 : rS M q 0 v 82 14 = 6 := by rw [rS_o (Or.inr ⟨by decide, by decide, by decide⟩)]; exact h14
  have e17 : rS M q 0 v 82 17 = (k : Int) := by rw [rS_o (Or.inr ⟨by decide, by decide, by decide⟩)]; exact h17
  have r0 := hR.1
  have r6 := hR.2.1
  have hT1 : rTp (sUpd M 82 17 ((k + 1 : Nat) : Int)) T n := hT.u ⟨by decide, Or.inr (by decide)⟩
  have oR : offR M (sUpd M 82 17 ((k + 1 : Nat) : Int)) := (offR.refl M).u (Or.inr (Or.inr ⟨rfl, Or.inr (Or.inr rfl)⟩))
  have z7 : sUpd M 82 17 ((k + 1 : Nat) : Int) 82 7 = (σ.2.1 : Int) := by rw [sU_if, if_neg (by decide)]; exact r0
  have z8 : sUpd M 82 17 ((k + 1 : Nat) : Int) 82 8 = (σ.2.2.1 : Int) := by rw [sU_if, if_neg (by decide)]; exact r6
  have hR1 : rR (sUpd M 82 17 ((k + 1 : Nat) : Int)) σ := ⟨z7, z8, hR.2.2.1, hR.2.2.2.1, by rw [sUpd_ne (show (88 : Nat) ≠ 82 by decide)]; exact hR.2.2.2.2.1, by rw [sUpd_ne (show (89 : Nat) ≠ 82 by decide)]; exact hR.2.2.2.2.2⟩
  have fail : ∀ (M' : sM) (v' e : Int), offR M M' → 0 ≤ e → e ≤ 7 → (clauseF T n more σ).1 = 1 + 8 * (q : Int) + e → sC d 178 [vO 12 82, vI e, vI (q : Int)] (rS M' q 0 v') G (QI (fun r M4 G4 => (r = 0 ∨ r = 1) ∧ P r M4 G4)) := fun M' v' e o e0 e7 he => by
    refine c178 (by omega) ⟨by omega, e0, e7⟩ ⟨Or.inl rfl, ?_⟩
    rw [if_pos rfl, ← he]
    exact kb M' q v' hqn o (by omega)
  have main : (atW T n q wHouse ∨ (¬ atW T n q wHouse ∧ atW T n q wStay)) → sW (sC d) 174 (QI P) 49 [vO 12 82, vI (q : Int), vI 1, vN] [] (rS M q 0 v) G 0 0 := fun hx => by
    refine (s174_49 ⟨fun q1 => ⟨fun q2 => ⟨⟨by omega, by omega⟩, ?_⟩, fun q7 => ?_⟩, fun q8 => ⟨fun q9 => ⟨⟨by omega, by omega⟩, ?_⟩, fun q12 => ?_⟩⟩)
    · omega
    · omega
    · have k24 : k < 24 := by omega
      have hmt : more = true := by rw [hm]; exact decide_eq_true k24
      rw [e17, show (k : Int) + 1 = ((k + 1 : Nat) : Int) from rfl, rS_u (Or.inr ⟨by decide, by decide, by decide⟩)]
      refine c176 (w := wHouse) (by omega) ho hT1 hqn ok_house.1 (by rw [ok_house.2.1]; rfl) (fun z1 => ?_) (fun z1 => ?_)
      all_goals rw [hbb] at z1 ⊢
      · refine ⟨fun y => absurd y (by decide), fun _ => ?_⟩
        by_cases c6 : σ.2.1 < 6
        · have e : clauseF T n more σ = if (houseF T n (q + 5)).1 ≠ 0 then ((houseF T n (q + 5)).1, σ)
              else (0, ((houseF T n (q + 5)).2.1, σ.2.1 + 1, σ.2.2.1, put3 σ.2.2.2.1 σ.2.1 (houseF T n (q + 5)).2.2.1 (houseF T n (q + 5)).2.2.2.1 (houseF T n (q + 5)).2.2.2.2, σ.2.2.2.2)) := by
            unfold clauseF
            rw [← hq, if_pos (atB_y z1), if_neg (by rw [hmt]; intro y; rcases y with y | y; exact absurd y (by decide); omega)]
          refine c179 (by omega) ho hT1 hqn z1 z7 c6 (fun M' q' v' y1 y2 y3 => ⟨Or.inl rfl, ?_⟩) (fun y3 v' => ⟨Or.inr rfl, ?_⟩)
          · rw [if_pos y3] at e
            rw [e] at kb
            exact kb M' q' v' y1 (oR.trans y2.r) y3
          · rw [if_neg (fun y => y y3)] at e
            rw [e] at kk
            refine kk rfl _ v' ((((oR.u (Or.inl rfl)).u (Or.inl rfl)).u (Or.inl rfl)).u (Or.inr (Or.inr ⟨rfl, Or.inl rfl⟩))) (hR1.house c6 _ _ _ _) ?_
            rw [sU_if, if_neg (by decide), sUpd_ne (show (82 : Nat) ≠ 88 by decide), sUpd_ne (show (82 : Nat) ≠ 88 by decide), sUpd_ne (show (82 : Nat) ≠ 88 by decide)]
            exact sUpd_eq
        · have e7 : rS (sUpd M 82 17 ((k + 1 : Nat) : Int)) q 0 v 82 7 = 6 := by
            rw [rS_o (Or.inr ⟨by decide, by decide, by decide⟩), z7]
            have := hR.2.2.1
            omega
          have e : (clauseF T n more σ).1 = 1 + 8 * (q : Int) + 4 := by
            unfold clauseF
            rw [← hq, if_pos (atB_y z1), if_pos (Or.inr (by omega))]
          obtain ⟨d, rfl⟩ := sD 1 (d := d) (by omega)
          refine e179 (s179_0 ⟨fun q1 => ?_, fun q20 => ?_⟩)
          · omega
          · refine c178 (by omega) ⟨by omega, by decide, by decide⟩ ⟨Or.inl rfl, Or.inl rfl, ?_⟩
            rw [if_pos rfl, ← e]
            exact kb _ q v hqn oR (by omega)
      · refine ⟨fun _ => ?_, fun y => absurd rfl y⟩
        have z2 : atW T n q wStay := by
          rcases hx with hx | hx
          · exact absurd hx z1
          · exact hx.2
        by_cases c6 : σ.2.2.1 < 18
        · have e : clauseF T n more σ = if (s5F T n (q + 4) σ.2.1).2.1 ≠ 0 then ((s5F T n (q + 4) σ.2.1).2.1, σ)
              else (0, ((s5F T n (q + 4) σ.2.1).1, σ.2.1, σ.2.2.1 + 1, σ.2.2.2.1, put5 σ.2.2.2.2 σ.2.2.1 (s1F T n (q + 4)).2.2 (s2F T n (q + 4) σ.2.1).2.2 (s3F T n (q + 4) σ.2.1).2.2 (s4F T n (q + 4) σ.2.1).2.2 (s5F T n (q + 4) σ.2.1).2.2)) := by
            unfold clauseF
            rw [← hq, if_neg (atB_n z1), if_pos (atB_y z2), if_neg (by rw [hmt]; intro y; rcases y with y | y; exact absurd y (by decide); omega)]
          refine c184 (by omega) ho hT1 hqn z2 z8 c6 z7 hR.2.2.1 (fun M' q' v' y1 y2 y3 => ⟨Or.inl rfl, ?_⟩) (fun y3 v' => ⟨Or.inr rfl, ?_⟩)
          · rw [if_pos y3] at e
            rw [e] at kb
            exact kb M' q' v' y1 (oR.trans y2.r) y3
          · rw [if_neg (fun y => y y3)] at e
            rw [e] at kk
            refine kk rfl _ v' ((((((oR.u (Or.inr (Or.inl rfl))).u (Or.inr (Or.inl rfl))).u (Or.inr (Or.inl rfl))).u (Or.inr (Or.inl rfl))).u (Or.inr (Or.inl rfl))).u (Or.inr (Or.inr ⟨rfl, Or.inr (Or.inl rfl)⟩))) (hR1.stay c6 _ _ _ _ _ _) ?_
            rw [sU_if, if_neg (by decide), sUpd_ne (show (82 : Nat) ≠ 89 by decide), sUpd_ne (show (82 : Nat) ≠ 89 by decide), sUpd_ne (show (82 : Nat) ≠ 89 by decide), sUpd_ne (show (82 : Nat) ≠ 89 by decide), sUpd_ne (show (82 : Nat) ≠ 89 by decide)]
            exact sUpd_eq
        · have e7 : rS (sUpd M 82 17 ((k + 1 : Nat) : Int)) q 0 v 82 8 = 18 := by
            rw [rS_o (Or.inr ⟨by decide, by decide, by decide⟩), z8]
            have := hR.2.2.2.1
            omega
          have e : (clauseF T n more σ).1 = 1 + 8 * (q : Int) + 4 := by
            unfold clauseF
            rw [← hq, if_neg (atB_n z1), if_pos (atB_y z2), if_pos (Or.inr (by omega))]
          obtain ⟨d, rfl⟩ := sD 1 (d := d) (by omega)
          refine e184 (s184_0 ⟨fun q1 => ?_, fun q12 => ?_⟩)
          · omega
          · refine c178 (by omega) ⟨by omega, by decide, by decide⟩ ⟨Or.inl rfl, Or.inl rfl, ?_⟩
            rw [if_pos rfl, ← e]
            exact kb _ q v hqn oR (by omega)
    · refine fail M v 4 (offR.refl M) (by decide) (by decide) ?_
      have hmf : more = false := by rw [hm]; exact decide_eq_false (by omega)
      unfold clauseF
      rw [← hq]
      rcases hx with hx | hx
      · rw [if_pos (atB_y hx), if_pos (Or.inl hmf)]
      · rw [if_neg (atB_n hx.1), if_pos (atB_y hx.2), if_pos (Or.inl hmf)]
  refine e174 (s174_0 (c175 (by omega) ho hT hp ?_))
  rw [← hq, e14, show rS M q 0 v 82 11 = (q : Int) from rS_p]
  refine ⟨fun y => absurd rfl y, fun _ => ?_⟩
  refine c176 (w := wHouse) (by omega) ho hT hqn ok_house.1 (by rw [ok_house.2.1]; rfl) (fun z1 => ?_) (fun z1 => ?_)
  all_goals rw [hbb] at z1 ⊢
  · exact ⟨fun _ => main (Or.inl z1), fun y => absurd y (by decide)⟩
  · refine ⟨fun y => absurd rfl y, fun _ => ?_⟩
    refine c176 (w := wStay) (by omega) ho hT hqn ok_stay.1 (by rw [ok_stay.2.1]; rfl) (fun z2 => ?_) (fun z2 => ?_)
    all_goals rw [hbb] at z2 ⊢
    · exact ⟨fun y => absurd y (by decide), fun _ => main (Or.inr ⟨z1, z2⟩)⟩
    · refine ⟨fun _ => ?_, fun y => absurd rfl y⟩
      refine fail M v 0 (offR.refl M) (by decide) (by decide) ?_
      unfold clauseF
      rw [← hq, if_neg (atB_n z1), if_neg (atB_n z2)]
      show 1 + 8 * (q : Int) = _
      omega
end
