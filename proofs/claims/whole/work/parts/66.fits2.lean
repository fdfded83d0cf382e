/-! STEP: fits, the reference's side. -/
theorem i_div2 {x : Int} (h0 : 0 ≤ x) (h1 : x < 2147483648) : iDiv x 2 = x / 2 := by
  show (Int32.ofInt x / Int32.ofInt 2).toInt = _
  rw [Int32.toInt_div, i_to h0 h1, i_to (by decide) (by decide), Int.tdiv_eq_ediv_of_nonneg h0]
  have e : Int.bmod (x / 2) 4294967296 = x / 2 := by
    rw [Int.bmod_def]
    split <;> omega
  exact e
noncomputable def prR (S : Nat → Int) (law : Int) (x n : Nat) : Nat → Int := fun i => nS (prF S law x i) n
theorem prR_b (S : Nat → Int) (law : Int) (x n i : Nat) : 0 ≤ prR S law x n i ∧ prR S law x n i ≤ n := by
  have h1 := nS_ge0 (f := prF S law x i) (n := n) (fun j _ => (prF_b S law x i j).1)
  have h2 := nS_le (f := prF S law x i) (c := 1) (n := n) (fun j _ => (prF_b S law x i j).2)
  unfold prR
  omega
theorem prR_0 {S : Nat → Int} {law : Int} {x n i : Nat} (h : ¬ x.testBit i = true) : prR S law x n i = 0 := (nS_zero (fun j _ => (prF_b S law x i j).1)).mpr (fun j _ => if_neg (fun z => h z.1))
theorem prR_2 (S : Nat → Int) (law : Int) (x n : Nat) : nS (prR S law x n) n = 2 * nS (upS S law x n) n := nS_pairs (prF S law x) n (prF_0 S law x) (prF_s S law x)
section
variable {d : Nat} {P : Int → sM → sG → Prop} {PV : sM → sG → Prop} {M : sM} {G : sG}
theorem and_msk {Q : Nat → Bool} {n : Nat} {x1 : Int} (hn : n ≤ 18) (h0 : 0 ≤ x1) : iAnd ((mskN Q n : Nat) : Int) x1 = ((mskN Q n &&& x1.toNat : Nat) : Int) ∧ mskN Q n &&& x1.toNat < 262144 := by
  have hm := mskN_lt (Q := Q) (n := n)
  have hp := p18 (m := n) hn
  have hl : mskN Q n &&& x1.toNat ≤ mskN Q n := Nat.and_le_left
  refine ⟨?_, by omega⟩
  have e := n_and (a := mskN Q n) (b := x1.toNat) (by omega)
  rw [← z_nat h0] at e
  exact e
theorem c243 {law x1 : Int} (hd : 20 ≤ d) (hv0 : 0 ≤ M 93 1) (hv1 : M 93 1 ≤ 18) (h0 : 0 ≤ x1) (h1 : x1 < 262144) (hm : ∀ i : Nat, (i : Int) < M 93 1 → M 95 i = ((mskN (crQ (M 93) law i) (M 93 1).toNat : Nat) : Int)) (k1 : nS (upS (M 93) law x1.toNat (M 93 1).toNat) (M 93 1).toNat = 0 → P 1 M G) (k0 : nS (upS (M 93) law x1.toNat (M 93 1).toNat) (M 93 1).toNat ≠ 0 → P 0 M G) : sC d 243 [vO 12 82, vI x1] M G (QI P) := by
  obtain ⟨d, rfl⟩ := sD 3 (d := d) (by omega)
  have h2 := prR_2 (M 93) law x1.toNat (M 93 1).toNat
  have hz := nS_zero (f := prR (M 93) law x1.toNat (M 93 1).toNat) (n := (M 93 1).toNat) (fun i _ => (prR_b _ _ _ _ i).1)
  refine e243 (s243_0 ?_)
  refine sUpTo (W := fun i => (∀ k : Nat, k < i → prR (M 93) law x1.toNat (M 93 1).toNat k = 0) → sW (sC (d + 2)) 243 (QI P) 2 [vO 12 82, vI x1, vI (i : Int)] [] M G 0 0) (M 93 1).toNat ?_ ?_ (fun k hk => absurd hk (Nat.not_lt_zero _))
  · intro ha
    have := hz.mpr ha
    refine (s243_2 ⟨fun q1 => ?_, fun q2 => ⟨fun q3 => ⟨⟨by omega, by omega⟩, ?_⟩, fun q4 => ⟨⟨(by first | omega | assumption | (refine ⟨?_, ?_⟩ <;> omega) | (simp_all; done)), (by first | omega | assumption | (refine ⟨?_, ?_⟩ <;> omega) | (simp_all; done))⟩, fun q5 => ⟨⟨by omega, by omega⟩, ?_⟩, fun q6 => ?_⟩⟩⟩)
    · exact k1 (by omega)
    all_goals omega
  · intro i hi ih ha
    have hi1 := z_has1 h0 (by omega) (show (0 : Int) ≤ i by omega) (by omega)
    have e : M 95 ((i : Int)).toNat = ((mskN (crQ (M 93) law i) (M 93 1).toNat : Nat) : Int) := hm i (by omega)
    obtain ⟨ea, eb⟩ := and_msk (Q := crQ (M 93) law i) (n := (M 93 1).toNat) (x1 := x1) (by omega) h0
    rw [← e] at ea
    have nx : prR (M 93) law x1.toNat (M 93 1).toNat i = 0 → sW (sC (d + 2)) 243 (QI P) 2 [vO 12 82, vI x1, vI ((i + 1 : Nat) : Int)] [] M G 0 0 := fun h => ih (fun k hk => by
      by_cases c : k = i
      · rw [c]; exact h
      · exact ha k (by omega))
    have pp := fun h : x1.toNat.testBit i = true => pc_pr (S := M 93) (law := law) (x := x1.toNat) (i := i) (n := (M 93 1).toNat) (by omega) h
    refine (s243_2 ⟨fun q1 => ?_, fun q2 => ⟨fun q3 => ⟨⟨by omega, by omega⟩, ?_⟩, fun q4 => ⟨⟨(by first | omega | assumption | (refine ⟨?_, ?_⟩ <;> omega) | (simp_all; done)), (by first | omega | assumption | (refine ⟨?_, ?_⟩ <;> omega) | (simp_all; done))⟩, fun q5 => ⟨⟨by omega, by omega⟩, ?_⟩, fun q6 => ?_⟩⟩⟩)
    · omega
    · exact nx (prR_0 (fun z => q3 (hi1.mpr z)))
    · refine nx ?_
      have hw := pp (hi1.mp q4)
      rw [show mskN (crQ (M 93) law i) (M 93 1).toNat &&& x1.toNat = 0 by omega, pc_zero] at hw
      exact hw.symm
    · refine k0 (fun z => ?_)
      have hw := pp (hi1.mp q4)
      have hall := hz.mp (by omega) i (by omega)
      have hall' : nS (prF (M 93) law x1.toNat i) (M 93 1).toNat = 0 := hall
      have := pc_pos (hw.trans hall') (by have h3 : (2 : Nat) ^ 18 = 262144 := by decide
                                          omega)
      omega
theorem r240 {law x1 : Int} (hv0 : 0 ≤ M 93 1) (hv1 : M 93 1 ≤ 18) (h0 : 0 ≤ x1) (h1 : x1 < 262144) (hm : ∀ i : Nat, (i : Int) < M 93 1 → M 95 i = ((mskN (crQ (M 93) law i) (M 93 1).toNat : Nat) : Int)) (kk : P (nS (upS (M 93) law x1.toNat (M 93 1).toNat) (M 93 1).toNat) M G) : sW (sC (d + 20)) 240 (QI P) 61 [vO 12 82, vI x1, vN, vN, vI 0, vI 0] [] M G 0 0 := by
  have h2 := prR_2 (M 93) law x1.toNat (M 93 1).toNat
  have b := fun n => nS_ge0 (f := prR (M 93) law x1.toNat (M 93 1).toNat) (n := n) (fun i _ => (prR_b _ _ _ _ i).1)
  have b' := fun n => nS_le (f := prR (M 93) law x1.toNat (M 93 1).toNat) (c := 18) (n := n) (fun i _ => by have := (prR_b (M 93) law x1.toNat (M 93 1).toNat i).2; omega)
  refine sUpTo (W := fun i => sW (sC (d + 20)) 240 (QI P) 61 [vO 12 82, vI x1, vN, vN, vI (nS (prR (M 93) law x1.toNat (M 93 1).toNat) i), vI (i : Int)] [] M G 0 0) (M 93 1).toNat ?_ ?_
  · have b1 := b (M 93 1).toNat
    have b2 := b' (M 93 1).toNat
    refine (s240_61 ⟨fun q1 => ?_, fun q2 => ⟨fun q3 => ⟨⟨by omega, by omega⟩, ⟨by omega, by omega⟩, ?_⟩, fun q4 => ⟨⟨(by first | omega | assumption | (refine ⟨?_, ?_⟩ <;> omega) | (simp_all; done)), (by first | omega | assumption | (refine ⟨?_, ?_⟩ <;> omega) | (simp_all; done))⟩, ?_⟩⟩⟩)
    · rw [i_div2 b1 (by omega), show nS (prR (M 93) law x1.toNat (M 93 1).toNat) (M 93 1).toNat / 2 = nS (upS (M 93) law x1.toNat (M 93 1).toNat) (M 93 1).toNat by omega]
      exact kk
    all_goals omega
  · intro i hi ih
    have b1 := b i
    have b2 := b' i
    have hi1 := z_has1 h0 (by omega) (show (0 : Int) ≤ i by omega) (by omega)
    have e : M 95 ((i : Int)).toNat = ((mskN (crQ (M 93) law i) (M 93 1).toNat : Nat) : Int) := hm i (by omega)
    obtain ⟨ea, eb⟩ := and_msk (Q := crQ (M 93) law i) (n := (M 93 1).toNat) (x1 := x1) (by omega) h0
    rw [← e] at ea
    have pb := prR_b (M 93) law x1.toNat (M 93 1).toNat i
    refine (s240_61 ⟨fun q1 => ?_, fun q2 => ⟨fun q3 => ⟨⟨by omega, by omega⟩, ⟨by omega, by omega⟩, ?_⟩, fun q4 => ⟨⟨(by first | omega | assumption | (refine ⟨?_, ?_⟩ <;> omega) | (simp_all; done)), (by first | omega | assumption | (refine ⟨?_, ?_⟩ <;> omega) | (simp_all; done))⟩, ?_⟩⟩⟩)
    · omega
    · rw [nS_st (f := prR (M 93) law x1.toNat (M 93 1).toNat) (i := i) (x := 0) (prR_0 (fun z => q3 (hi1.mpr z)))] at ih; exact ih
    · have hw := pc_pr (S := M 93) (law := law) (x := x1.toNat) (i := i) (n := (M 93 1).toNat) (by omega) (hi1.mp q4)
      refine c245 (by omega) (by omega) (by omega) ?_
      rw [ea]
      show _ ∧ _
      rw [show (((mskN (crQ (M 93) law i) (M 93 1).toNat &&& x1.toNat : Nat) : Int)).toNat = mskN (crQ (M 93) law i) (M 93 1).toNat &&& x1.toNat from rfl, hw]
      have hw' : nS (prF (M 93) law x1.toNat i) (M 93 1).toNat = prR (M 93) law x1.toNat (M 93 1).toNat i := rfl
      rw [hw']
      refine ⟨⟨by omega, by omega⟩, ⟨by omega, by omega⟩, ?_⟩
      exact ih
theorem L101 (t x1 x2 x3 : Int) : Step t 101 240 [vI x1, vI x2, vI x3] := by
  intro d M G hd hI
  have hI1 := hI.same (kp.refl [] M)
  obtain ⟨hv, hlt, ht, hvo, hto, t0⟩ := hI.t
  have hs1 := hv.1.2.1
  have b6 := ht.1.2.1
  have ref : ∀ r : Int, (¬ (0 ≤ x1 ∧ x1 < iShl 1 (M 93 1) ∧ 0 ≤ x2 ∧ x2 ≤ 2 ∧ 0 ≤ x3 ∧ x3 ≤ 1) → r = -1) → (0 ≤ x1 ∧ x1 < iShl 1 (M 93 1) ∧ 0 ≤ x2 ∧ x2 ≤ 2 ∧ 0 ≤ x3 ∧ x3 ≤ 1 → r = if x3 = 1 then nS (upS (M 93) x2 x1.toNat (M 93 1).toNat) (M 93 1).toNat else if nS (upS (M 93) x2 x1.toNat (M 93 1).toNat) (M 93 1).toNat = 0 then 1 else 0) → sC d 240 [vO 12 82, vI x1, vI x2, vI x3] M G (QI (LPost t r)) := fun r r1 r2 => by
    obtain ⟨d, rfl⟩ := sD 30 (d := d) (by omega)
    refine e240 (s240_0 ⟨fun q1 => ?_, fun q2 => ⟨fun q3 => ?_, fun q4 => ⟨fun q5 => ?_, fun q6 => ⟨fun q7 => ?_, fun q8 => ⟨fun q9 => ?_, fun q10 => ⟨fun q11 => ?_, fun q12 => ?_⟩⟩⟩⟩⟩⟩)
    all_goals try (exact ⟨(r1 (by omega)).symm, hI1⟩)
    have hx := rng hs1.1 hs1.2 q2 q4
    refine c242 (by omega) hs1.1 hs1.2 (by omega) (fun M1 h1 h95 => ?_)
    have e93 : M1 93 = M 93 := h1 93 (by decide)
    have fin : Inv (t + 1) M1 G := hI.same ⟨fun a _ ha => h1 a (by omega), fun _ => by rw [h1 1 (by decide)], fun _ => by rw [h1 3 (by decide)], fun _ => by rw [h1 82 (by decide)]; exact ⟨rfl, rfl⟩⟩
    have r2' := r2 (by omega)
    refine ⟨fun q13 => ?_, fun q14 => ?_⟩
    · refine r240 (law := x2) (by rw [e93]; exact hs1.1) (by rw [e93]; exact hs1.2) q2 hx.2 (by rw [e93]; exact h95) ?_
      rw [e93]
      rw [if_pos (by omega)] at r2'
      exact ⟨r2'.symm, fin⟩
    · rw [if_neg (by omega)] at r2'
      refine c243 (law := x2) (by omega) (by rw [e93]; exact hs1.1) (by rw [e93]; exact hs1.2) q2 hx.2 (by rw [e93]; exact h95) (fun z => ?_) (fun z => ?_)
      · rw [e93] at z
        rw [if_pos z] at r2'
        refine ⟨fun q15 => ?_, fun q16 => ?_⟩
        · omega
        · exact ⟨r2'.symm, fin⟩
      · rw [e93] at z
        rw [if_neg z] at r2'
        refine ⟨fun q15 => ?_, fun q16 => ?_⟩
        · exact ⟨r2'.symm, fin⟩
        · omega
  obtain ⟨d, rfl⟩ := sD 7 (d := d) (by omega)
  refine e101 (s101_0 ⟨fun q1 => ?_, fun q2 => ⟨fun q3 => ?_, fun q4 => ⟨fun q5 => ?_, fun q6 => ⟨fun q7 => ?_, fun q8 => ⟨fun q9 => ?_, fun q10 => ⟨fun q11 => ?_, fun q16 => ?_⟩⟩⟩⟩⟩⟩)
  all_goals try (rw [b6] at *; exact ref _ (fun _ => rfl) (fun z => by omega))
  have hx := rng hs1.1 hs1.2 q2 (by rw [← b6]; exact q4)
  refine c103 (by omega) hs1.1 hs1.2 ht q2 hx.2 ?_
  rw [b6] at q4
  refine ⟨fun q12 => ⟨fun q13 => ?_, fun q14 => ?_⟩, fun q15 => ?_⟩
  · exact ref _ (fun z => absurd z (by omega)) (fun _ => by rw [if_neg (by omega), if_neg q13])
  · exact ref _ (fun z => absurd z (by omega)) (fun _ => by rw [if_neg (by omega), if_pos q14])
  · exact ref _ (fun z => absurd z (by omega)) (fun _ => by rw [if_pos (by omega)])
end
