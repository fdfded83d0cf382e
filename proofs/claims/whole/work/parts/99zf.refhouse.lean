/-! THE REFERENCE'S HOUSES. -/
theorem rTp.u {M : sM} {T : Nat → Int} {n a i : Nat} {x : Int} (h : rTp M T n) (ha : a ≠ 83 ∧ (a ≠ 82 ∨ i ≠ 1)) : rTp (sUpd M a i x) T n := by
  unfold rTp
  have e : sUpd M a i x 82 1 = M 82 1 := by unfold sUpd; rw [if_neg (by omega)]
  rw [e, sUpd_ne (show (83 : Nat) ≠ a by omega)]
  exact h
def offH (M M' : sM) : Prop := ∀ a, a ≠ 88 → a ≠ 89 → M' a = M a
theorem offH.refl (M : sM) : offH M M := fun _ _ _ => rfl
theorem offH.u {M M' : sM} {a i : Nat} {x : Int} (h : offH M M') (ha : a = 88 ∨ a = 89) : offH M (sUpd M' a i x) := fun b b1 b2 => by rw [sUpd_ne (by omega)]; exact h b b1 b2
theorem atW_lts {T : Nat → Int} {n q : Nat} {w : List Nat} (hq : q ≤ n) (hw : okL w) (h : atW T n q w) : lts T n q = q + w.length := by
  have hge : q ≤ lts T n q := run_ge hq
  have hin : ∀ i, i < lts T n q - q → 97 ≤ T (q + i) ∧ T (q + i) ≤ 122 := fun i hi => bLt_i.1 (run_in hq (by omega) (by show q + i < lts T n q; omega))
  have hen : ¬ (lts T n q < n ∧ 97 ≤ T (lts T n q) ∧ T (lts T n q) ≤ 122) := fun z => run_end (pr := bLt) (T := T) hq ⟨z.1, bLt_i.2 z.2⟩
  obtain ⟨a1, a2, a3⟩ := h
  have hlet : ∀ i, i < w.length → 97 ≤ T (q + i) ∧ T (q + i) ≤ 122 := fun i hi => by have := hw.2.2 i hi; rw [a2 i hi]; omega
  by_cases c : lts T n q - q < w.length
  · exact absurd ⟨by omega, by have := hlet (lts T n q - q) c; rw [show q + (lts T n q - q) = lts T n q by omega] at this; exact this⟩ hen
  · by_cases c2 : w.length < lts T n q - q
    · have := hin w.length c2
      have hle : lts T n q ≤ n := run_le hq
      omega
    · omega
section
variable {d n p : Nat} {T : Nat → Int} {P : Int → sM → sG → Prop} {PV : sM → sG → Prop} {M : sM} {G : sG} {f v : Int}
theorem c179n {k b : Nat} {law : Int} (hd : 8 ≤ d) (ho : tOk T n) (hT : rTp M T n) (hp : p ≤ n) (hb : b ≤ n) (hM : M 82 7 = (k : Int)) (h6 : k < 6) (hl : (lawF T n p).1 = lts T n b) (hf : (lawF T n p).2.1 = 0) (hlaw : (lawF T n p).2.2 = law)
    (kb : ∀ M' q' v', q' ≤ n → offH M M' → (houseF T n p).1 ≠ 0 → P 0 (rS M' q' (houseF T n p).1 v') G)
    (kk : (houseF T n p).1 = 0 → ∀ v', P 1 (rS (sUpd (sUpd (sUpd (sUpd M 88 (3 * k) (houseF T n p).2.2.1) 88 (3 * k + 1) (houseF T n p).2.2.2.1) 88 (3 * k + 2) (houseF T n p).2.2.2.2) 82 7 ((k + 1 : Nat) : Int)) (houseF T n p).2.1 0 v') G) :
    sC d 180 [vO 12 82] (rS M b 0 v) G (QV (fun M4 G4 => (sI (3 * (M4 82 7))) ∧ ((0 : Int) ≤ 3 * (M4 82 7) ∧ 3 * (M4 82 7) < 18) ∧ sC d 181 [vO 12 82, vI 1, vI 12] (sUpd M4 88 (3 * (M4 82 7)).toNat law) G4 (QI (fun r5 M5 G5 => ((r5 ≠ 0 → (sI (3 * (M5 82 7))) ∧ (sI ((3 * (M5 82 7)) + 1)) ∧ ((0 : Int) ≤ (3 * (M5 82 7)) + 1 ∧ (3 * (M5 82 7)) + 1 < 18) ∧ sC d 181 [vO 12 82, vI 0, vI 9] (sUpd M5 88 ((3 * (M5 82 7)) + 1).toNat (M5 82 13)) G5 (QI (fun r6 M6 G6 => ((r6 ≠ 0 → (sI (3 * (M6 82 7))) ∧ (sI ((3 * (M6 82 7)) + 2)) ∧ ((0 : Int) ≤ (3 * (M6 82 7)) + 2 ∧ (3 * (M6 82 7)) + 2 < 18) ∧ (sI ((M6 82 7) + 1)) ∧ P 1 (sUpd (sUpd M6 88 ((3 * (M6 82 7)) + 2).toNat (M6 82 13)) 82 7 ((M6 82 7) + 1)) G6)) ∧ (r6 = 0 → P 0 M6 G6))))) ∧ (r5 = 0 → P 0 M5 G5))))) := by
  refine c180 (by omega) ho hT hb ?_
  have l1 : lts T n b ≤ n := run_le hb
  have e7 : ∀ X : sM, X 82 7 = (k : Int) → ∀ q g w, rS X q g w 82 7 = (k : Int) := fun X hX q g w => by rw [rS_o (Or.inr ⟨by decide, by decide, by decide⟩)]; exact hX
  have e0 := e7 M hM (lts T n b) 0 v
  refine ⟨⟨by omega, by omega⟩, ⟨by omega, by omega⟩, ?_⟩
  rw [e0, show (3 * (k : Int)).toNat = 3 * k by omega, rS_u (Or.inl (by decide))]
  have hM1 : sUpd M 88 (3 * k) law 82 7 = (k : Int) := by rw [sUpd_ne (by decide)]; exact hM
  have hT1 : rTp (sUpd M 88 (3 * k) law) T n := hT.u ⟨by decide, Or.inl (by decide)⟩
  have n1 := numF_le (T := T) (lo := 1) (hi := 12) l1
  have hh : houseF T n p = if (numF T n (lts T n b) 1 12).2.1 ≠ 0 then ((numF T n (lts T n b) 1 12).2.1, 0, 0, 0, 0) else if (numF T n (numF T n (lts T n b) 1 12).1 0 9).2.1 ≠ 0 then ((numF T n (numF T n (lts T n b) 1 12).1 0 9).2.1, 0, 0, 0, 0) else (0, (numF T n (numF T n (lts T n b) 1 12).1 0 9).1, law, (numF T n (lts T n b) 1 12).2.2, (numF T n (numF T n (lts T n b) 1 12).1 0 9).2.2) := by
    unfold houseF
    rw [hl, if_neg (fun z => z hf), hlaw]
  refine c181 (by omega) ho hT1 l1 (fun q' v' z0 z => ⟨fun y => absurd rfl y, fun _ => ?_⟩) (fun z => ⟨fun _ => ?_, fun y => absurd y (by decide)⟩)
  · rw [if_pos z] at hh
    rw [hh] at kb
    exact kb _ q' v' z0 ((offH.refl M).u (Or.inl rfl)) z
  · rw [if_neg (fun y => y z)] at hh
    have e1 := e7 _ hM1 (numF T n (lts T n b) 1 12).1 0 (numF T n (lts T n b) 1 12).2.2
    refine ⟨⟨by omega, by omega⟩, ⟨by omega, by omega⟩, ⟨by omega, by omega⟩, ?_⟩
    rw [e1, rS_v, show (3 * (k : Int) + 1).toNat = 3 * k + 1 by omega, rS_u (Or.inl (by decide))]
    have hM2 : sUpd (sUpd M 88 (3 * k) law) 88 (3 * k + 1) (numF T n (lts T n b) 1 12).2.2 82 7 = (k : Int) := by rw [sUpd_ne (by decide)]; exact hM1
    refine c181 (by omega) ho (hT1.u ⟨by decide, Or.inl (by decide)⟩) n1 (fun q' v' z0 z' => ⟨fun y => absurd rfl y, fun _ => ?_⟩) (fun z' => ⟨fun _ => ?_, fun y => absurd y (by decide)⟩)
    · rw [if_pos z'] at hh
      rw [hh] at kb
      exact kb _ q' v' z0 (((offH.refl M).u (Or.inl rfl)).u (Or.inl rfl)) z'
    · rw [if_neg (fun y => y z')] at hh
      rw [hh] at kk
      have e2 := e7 _ hM2 (numF T n (numF T n (lts T n b) 1 12).1 0 9).1 0 (numF T n (numF T n (lts T n b) 1 12).1 0 9).2.2
      refine ⟨⟨by omega, by omega⟩, ⟨by omega, by omega⟩, ⟨by omega, by omega⟩, ⟨by omega, by omega⟩, ?_⟩
      rw [e2, rS_v, show (3 * (k : Int) + 2).toNat = 3 * k + 2 by omega, rS_u (Or.inl (by decide)), rS_u (Or.inr ⟨by decide, by decide, by decide⟩)]
      exact kk rfl _
theorem ok_last : okL wLast ∧ wvW wLast = 1818325876 ∧ wLast.length = 4 := by unfold okL; decide +kernel
theorem ok_first : okL wFirst ∧ wvW wFirst = 439855772532 ∧ wFirst.length = 5 := by unfold okL; decide +kernel
theorem ok_free : okL wFree ∧ wvW wFree = 1718773093 ∧ wFree.length = 4 := by unfold okL; decide +kernel
theorem ok_house : okL wHouse ∧ wvW wHouse = 448546567013 ∧ wHouse.length = 5 := by unfold okL; decide +kernel
theorem ok_stay : okL wStay ∧ wvW wStay = 1937006969 ∧ wStay.length = 4 := by unfold okL; decide +kernel
theorem c179 {k q : Nat} (hd : 12 ≤ d) (ho : tOk T n) (hT : rTp M T n) (hq : q ≤ n) (hw : atW T n q wHouse) (hM : M 82 7 = (k : Int)) (h6 : k < 6)
    (kb : ∀ M' q' v', q' ≤ n → offH M M' → (houseF T n (q + 5)).1 ≠ 0 → P 0 (rS M' q' (houseF T n (q + 5)).1 v') G)
    (kk : (houseF T n (q + 5)).1 = 0 → ∀ v', P 1 (rS (sUpd (sUpd (sUpd (sUpd M 88 (3 * k) (houseF T n (q + 5)).2.2.1) 88 (3 * k + 1) (houseF T n (q + 5)).2.2.2.1) 88 (3 * k + 2) (houseF T n (q + 5)).2.2.2.2) 82 7 ((k + 1 : Nat) : Int)) (houseF T n (q + 5)).2.1 0 v') G) :
    sC d 179 [vO 12 82, vI (q : Int)] (rS M q 0 v) G (QI P) := by
  obtain ⟨d, rfl⟩ := sD 1 (d := d) (by omega)
  have e7 : rS M q 0 v 82 7 = (k : Int) := by rw [rS_o (Or.inr ⟨by decide, by decide, by decide⟩)]; exact hM
  have l5 : lts T n q = q + 5 := (atW_lts hq ok_house.1 hw).trans (by rw [ok_house.2.2])
  have q5 : q + 5 ≤ n := by have := hw.1; rw [ok_house.2.2] at this; exact this
  obtain ⟨b, hb⟩ : ∃ b, b = blk T n (q + 5) := ⟨_, rfl⟩
  have hbn : b ≤ n := by rw [hb]; exact run_le q5
  have hbb : blk T n b = b := by rw [hb]; exact run_stop (run_end q5)
  have h400 := ho.1
  refine e179 (s179_0 ⟨fun q1 => ?_, fun q20 => ?_⟩)
  · refine c180 (by omega) ho hT hq ?_
    rw [l5]
    refine c175 (by omega) ho hT q5 ?_
    rw [← hb]
    refine c176 (w := wLast) (by omega) ho hT hbn ok_last.1 (by rw [ok_last.2.1]; rfl) (fun z1 => ?_) (fun z1 => ?_)
    all_goals rw [hbb] at z1 ⊢
    · refine ⟨fun y => absurd y (by decide), fun _ => ?_⟩
      exact c179n (p := q + 5) (by omega) ho hT q5 hbn hM h6 (by unfold lawF; rw [← hb, if_pos (atB_y z1), atW_lts hbn ok_last.1 z1, ok_last.2.2]) (by unfold lawF; rw [← hb, if_pos (atB_y z1)]) (by unfold lawF; rw [← hb, if_pos (atB_y z1)]) kb kk
    · refine ⟨fun _ => ?_, fun y => absurd rfl y⟩
      refine c176 (w := wFirst) (by omega) ho hT hbn ok_first.1 (by rw [ok_first.2.1]; rfl) (fun z2 => ?_) (fun z2 => ?_)
      all_goals rw [hbb] at z2 ⊢
      · refine ⟨fun y => absurd y (by decide), fun _ => ?_⟩
        exact c179n (p := q + 5) (by omega) ho hT q5 hbn hM h6 (by unfold lawF; rw [← hb, if_neg (atB_n z1), if_pos (atB_y z2), atW_lts hbn ok_first.1 z2, ok_first.2.2]) (by unfold lawF; rw [← hb, if_neg (atB_n z1), if_pos (atB_y z2)]) (by unfold lawF; rw [← hb, if_neg (atB_n z1), if_pos (atB_y z2)]) kb kk
      · refine ⟨fun _ => ?_, fun y => absurd rfl y⟩
        refine c176 (w := wFree) (by omega) ho hT hbn ok_free.1 (by rw [ok_free.2.1]; rfl) (fun z3 => ?_) (fun z3 => ?_)
        all_goals rw [hbb] at z3 ⊢
        · refine ⟨fun y => absurd y (by decide), fun _ => ?_⟩
          exact c179n (p := q + 5) (by omega) ho hT q5 hbn hM h6 (by unfold lawF; rw [← hb, if_neg (atB_n z1), if_neg (atB_n z2), if_pos (atB_y z3), atW_lts hbn ok_free.1 z3, ok_free.2.2]) (by unfold lawF; rw [← hb, if_neg (atB_n z1), if_neg (atB_n z2), if_pos (atB_y z3)]) (by unfold lawF; rw [← hb, if_neg (atB_n z1), if_neg (atB_n z2), if_pos (atB_y z3)]) kb kk
        · refine ⟨fun _ => ?_, fun y => absurd rfl y⟩
          have e : (houseF T n (q + 5)).1 = 1 + 8 * (b : Int) := by
            have el : lawF T n (q + 5) = (b, 1 + 8 * (b : Int), 0) := by
              unfold lawF
              rw [← hb, if_neg (atB_n z1), if_neg (atB_n z2), if_neg (atB_n z3)]
            unfold houseF
            rw [el, if_pos (by show ¬ (1 + 8 * (b : Int) = 0); omega)]
          rw [show rS M b 0 v 82 11 = (b : Int) from rS_p]
          refine c178 (by omega) ⟨by omega, by decide, by decide⟩ ⟨Or.inl rfl, ?_⟩
          rw [if_pos rfl, show 1 + 8 * (b : Int) + 0 = 1 + 8 * (b : Int) by omega, ← e]
          exact kb M b v hbn (offH.refl M) (by omega)
  · omega
end
