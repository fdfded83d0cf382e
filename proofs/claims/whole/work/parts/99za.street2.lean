/-! THE STREET: the class's side, to the end. -/
section
variable {d n : Nat} {T : Nat → Int} {P : Int → sM → sG → Prop} {PV : sM → sG → Prop} {M : sM} {G : sG} {σ : stT}
theorem atW.le {p : Nat} {w : List Nat} (h : atW T n p w) : p + w.length ≤ n := h.1
theorem houseF_le {p : Nat} (h : p ≤ n) : (houseF T n p).2.1 ≤ n := by
  unfold houseF
  split
  · exact Nat.zero_le n
  · split
    · exact Nat.zero_le n
    · split
      · exact Nat.zero_le n
      · exact numF_le (numF_le (lawF_le h))
theorem s5F_le {p : Nat} {nh : Int} (h : p ≤ n) : (s5F T n p nh).1 ≤ n := numG_le (numG_le (numG_le (numG_le (numG_le h))))
theorem clauseF_le {more : Bool} (h : σ.1 ≤ n) : (clauseF T n more σ).2.1 ≤ n := by
  unfold clauseF
  split
  · rename_i c
    split
    · exact h
    · split
      · exact h
      · exact houseF_le (atB_i.1 c).1
  · split
    · rename_i c
      split
      · exact h
      · split
        · exact h
        · exact s5F_le (atB_i.1 c).1
    · exact h
theorem c21 {x2 : Int} {more : Bool} (hd : 14 ≤ d) (ho : tOk T n) (hT : cTp M T n) (hp : σ.1 ≤ n) (hR : cR M σ) (hm : x2 = if more = true then 1 else 0)
    (kb : ∀ p', p' ≤ n → (clauseF T n more σ).1 ≠ 0 → PV (cS M p' (clauseF T n more σ).1) G)
    (kk : (clauseF T n more σ).1 = 0 → ∀ M', offT M M' → cR M' (clauseF T n more σ).2 → PV (cS M' (clauseF T n more σ).2.1 0) G) : sC d 21 [vO 4 3, vO 10 42, vI x2] (cS M σ.1 0) G (QV PV) := by
  obtain ⟨d, rfl⟩ := sD 2 (d := d) (by omega)
  have h400 := ho.1
  have hb : blk T n σ.1 ≤ n := run_le hp
  have fail : ∀ (e : Int), 0 ≤ e → e ≤ 7 → (clauseF T n more σ).1 = 1 + 8 * (blk T n σ.1 : Int) + e → sC (d + 1) 24 [vO 4 3, vI e] (cS M (blk T n σ.1) 0) G (QV PV) := fun e e0 e7 he => by
    refine c24 (by omega) ⟨by omega, e0, e7⟩ ?_
    rw [if_pos rfl, ← he]
    exact kb _ hb (by omega)
  have e42 : ∀ q g i, cS M q g 42 i = M 42 i := fun q g i => by rw [cS_a (by decide)]
  have e420 := e42 (blk T n σ.1) 0 0
  have e426 := e42 (blk T n σ.1) 0 6
  have r0 := hR.1
  have r6 := hR.2.1
  refine e21 (s21_0 (c22 (by omega) ho hT hp ?_))
  refine c23 (w := wHouse) (by omega) (by decide) rfl (by decide) ho hT hb (fun z1 => ?_) (fun z1 => ?_)
  · have z1l : blk T n σ.1 + 5 ≤ n := z1.1
    have ep : cS M (blk T n σ.1) 0 3 2 = (blk T n σ.1 : Nat) := cS_p
    refine ⟨fun q1 => ⟨fun q2 => ?_, fun q3 => ⟨fun q4 => ⟨⟨by omega, by omega⟩, ?_⟩, fun q5 => ?_⟩⟩, fun q6 => ?_⟩
    · refine fail 4 (by decide) (by decide) ?_
      unfold clauseF
      rw [if_pos (atB_y z1), if_pos (Or.inl (by cases more with | true => rw [if_pos rfl] at hm; omega | false => rfl))]
    · have hm' : more = true := by
        cases more with
        | true => rfl
        | false => rw [if_neg (by decide)] at hm; omega
      have h6 : σ.2.1 < 6 := by omega
      have e : clauseF T n more σ = if (houseF T n (blk T n σ.1 + 5)).1 ≠ 0 then ((houseF T n (blk T n σ.1 + 5)).1, σ)
          else (0, ((houseF T n (blk T n σ.1 + 5)).2.1, σ.2.1 + 1, σ.2.2.1, put3 σ.2.2.2.1 σ.2.1 (houseF T n (blk T n σ.1 + 5)).2.2.1 (houseF T n (blk T n σ.1 + 5)).2.2.2.1 (houseF T n (blk T n σ.1 + 5)).2.2.2.2, σ.2.2.2.2)) := by
        unfold clauseF
        rw [if_pos (atB_y z1), if_neg (by rw [hm']; intro y; rcases y with y | y; exact absurd y (by decide); omega)]
      rw [ep, show ((blk T n σ.1 : Nat) : Int) + 5 = ((blk T n σ.1 + 5 : Nat) : Int) from rfl, cS_up]
      refine c27 (by omega) ho hT z1l r0 h6 (fun p' hp' hz => ?_) (fun hz => ?_)
      · rw [if_pos hz] at e
        rw [e] at kb
        exact kb p' hp' hz
      · rw [if_neg (fun y => y hz)] at e
        rw [e] at kk
        obtain ⟨o1, o2⟩ := hR.house h6 (houseF T n (blk T n σ.1 + 5)).2.1 (houseF T n (blk T n σ.1 + 5)).2.2.1 (houseF T n (blk T n σ.1 + 5)).2.2.2.1 (houseF T n (blk T n σ.1 + 5)).2.2.2.2
        exact kk rfl _ o1 o2
    · refine fail 4 (by decide) (by decide) ?_
      unfold clauseF
      rw [if_pos (atB_y z1), if_pos (Or.inr (by omega))]
    · omega
  · refine ⟨fun q1 => ⟨fun q2 => ?_, fun q3 => ⟨fun q4 => ⟨⟨by omega, by omega⟩, ?_⟩, fun q5 => ?_⟩⟩, fun q6 => ?_⟩
    · omega
    · omega
    · omega
    · refine c23 (w := wStay) (by omega) (by decide) rfl (by decide) ho hT hb (fun z2 => ?_) (fun z2 => ?_)
      · have z2l : blk T n σ.1 + 4 ≤ n := z2.1
        have ep : cS M (blk T n σ.1) 0 3 2 = (blk T n σ.1 : Nat) := cS_p
        refine ⟨fun q7 => ⟨fun q8 => ?_, fun q9 => ⟨fun q10 => ⟨⟨by omega, by omega⟩, ?_⟩, fun q11 => ?_⟩⟩, fun q12 => ?_⟩
        · refine fail 4 (by decide) (by decide) ?_
          unfold clauseF
          rw [if_neg (atB_n z1), if_pos (atB_y z2), if_pos (Or.inl (by cases more with | true => rw [if_pos rfl] at hm; omega | false => rfl))]
        · have hm' : more = true := by
            cases more with
            | true => rfl
            | false => rw [if_neg (by decide)] at hm; omega
          have h6 : σ.2.2.1 < 18 := by omega
          have e : clauseF T n more σ = if (s5F T n (blk T n σ.1 + 4) σ.2.1).2.1 ≠ 0 then ((s5F T n (blk T n σ.1 + 4) σ.2.1).2.1, σ)
              else (0, ((s5F T n (blk T n σ.1 + 4) σ.2.1).1, σ.2.1, σ.2.2.1 + 1, σ.2.2.2.1, put5 σ.2.2.2.2 σ.2.2.1 (s1F T n (blk T n σ.1 + 4)).2.2 (s2F T n (blk T n σ.1 + 4) σ.2.1).2.2 (s3F T n (blk T n σ.1 + 4) σ.2.1).2.2 (s4F T n (blk T n σ.1 + 4) σ.2.1).2.2 (s5F T n (blk T n σ.1 + 4) σ.2.1).2.2)) := by
            unfold clauseF
            rw [if_neg (atB_n z1), if_pos (atB_y z2), if_neg (by rw [hm']; intro y; rcases y with y | y; exact absurd y (by decide); omega)]
          rw [ep, show ((blk T n σ.1 : Nat) : Int) + 4 = ((blk T n σ.1 + 4 : Nat) : Int) from rfl, cS_up]
          refine c32 (by omega) ho hT z2l r0 hR.2.2.1 r6 h6 (fun hz => ?_) (fun hz => ?_)
          · rw [if_pos hz] at e
            rw [e] at kb
            exact kb _ (s5F_le z2l) hz
          · rw [if_neg (fun y => y hz)] at e
            rw [e] at kk
            obtain ⟨o1, o2⟩ := hR.stay h6 (s5F T n (blk T n σ.1 + 4) σ.2.1).1 (s1F T n (blk T n σ.1 + 4)).2.2 (s2F T n (blk T n σ.1 + 4) σ.2.1).2.2 (s3F T n (blk T n σ.1 + 4) σ.2.1).2.2 (s4F T n (blk T n σ.1 + 4) σ.2.1).2.2 (s5F T n (blk T n σ.1 + 4) σ.2.1).2.2
            exact kk rfl _ o1 o2
        · refine fail 4 (by decide) (by decide) ?_
          unfold clauseF
          rw [if_neg (atB_n z1), if_pos (atB_y z2), if_pos (Or.inr (by omega))]
        · omega
      · refine ⟨fun q7 => ⟨fun q8 => ?_, fun q9 => ⟨fun q10 => ⟨⟨by omega, by omega⟩, ?_⟩, fun q11 => ?_⟩⟩, fun q12 => ?_⟩
        · omega
        · omega
        · omega
        · refine fail 0 (by decide) (by decide) ?_
          unfold clauseF
          rw [if_neg (atB_n z1), if_neg (atB_n z2)]
          show 1 + 8 * (blk T n σ.1 : Int) = _
          omega
end
