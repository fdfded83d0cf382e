/-! STEP: orders. -/
noncomputable def isW (S : Nat → Int) (n p : Nat) : Bool := @decide (∃ k : Nat, k < n ∧ wR S k = (p : Int)) (Classical.propDecidable _)
theorem isW_i {S : Nat → Int} {n p : Nat} : isW S n p = true ↔ ∃ k : Nat, k < n ∧ wR S k = (p : Int) := @decide_eq_true_iff _ (Classical.propDecidable _)
noncomputable def pmS (S : Nat → Int) (n : Nat) : Nat := mskN (isW S n) 12
def plW (S : Nat → Int) : Nat → Nat → Nat
  | 0, _ => 0
  | k + 1, p => if wR S k = (p : Int) then k else plW S k p
noncomputable def c0S (S : Nat → Int) (n : Nat) : Nat → Nat := fun i => plW S n (pkF (pmS S n) 12 i)
section
variable {S : Nat → Int}
theorem plW_of {p : Nat} : ∀ {n : Nat}, (∃ k : Nat, k < n ∧ wR S k = (p : Int)) → plW S n p < n ∧ wR S (plW S n p) = (p : Int)
  | 0, ⟨k, h, _⟩ => absurd h (Nat.not_lt_zero k)
  | n + 1, ⟨k, h1, h2⟩ => by
    show (if wR S n = (p : Int) then n else plW S n p) < n + 1 ∧ wR S (if wR S n = (p : Int) then n else plW S n p) = (p : Int)
    by_cases c : wR S n = (p : Int)
    · rw [if_pos c]; exact ⟨by omega, c⟩
    · rw [if_neg c]
      have : k ≠ n := fun z => c (by rw [← z]; exact h2)
      obtain ⟨a, b⟩ := plW_of (n := n) ⟨k, by omega, h2⟩
      exact ⟨by omega, b⟩
theorem pm_bit {n p : Nat} (hp : p < 12) : (pmS S n).testBit p = true ↔ ∃ k : Nat, k < n ∧ wR S k = (p : Int) := by
  unfold pmS
  rw [mskN_bit, decide_eq_true hp, Bool.true_and, isW_i]
theorem pm_cnt (hv : vTold S) : cnB (pmS S (S 6).toNat) 12 = (S 6).toNat := by
  have h6 := hv.2.1
  have e1 := cnB_is (pmS S (S 6).toNat) 12
  have e2 : nS (pcF (pmS S (S 6).toNat)) 12 = nS (fun p => nS (fun k => if wR S k = (p : Int) then (1 : Int) else 0) (S 6).toNat) 12 := nS_congr (fun p hp => by
    unfold pcF
    by_cases c : (pmS S (S 6).toNat).testBit p = true
    · rw [if_pos c]
      obtain ⟨k, k0, k1⟩ := (pm_bit hp).mp c
      have a := nS_le1 (f := fun k => if wR S k = (p : Int) then (1 : Int) else 0) (n := (S 6).toNat) (fun i _ => by
        show (if wR S i = (p : Int) then (1 : Int) else 0) = 0 ∨ (if wR S i = (p : Int) then (1 : Int) else 0) = 1
        split
        · exact Or.inr rfl
        · exact Or.inl rfl) (fun i j hi hj h1 h2 => by
        have x1 : wR S i = (p : Int) := Classical.byContradiction fun z => by rw [if_neg z] at h1; exact absurd h1 (by decide)
        have x2 : wR S j = (p : Int) := Classical.byContradiction fun z => by rw [if_neg z] at h2; exact absurd h2 (by decide)
        exact row_inj hv (by omega) (by omega) (x1.trans x2.symm))
      have b := nS_one (f := fun k => if wR S k = (p : Int) then (1 : Int) else 0) (n := (S 6).toNat) (i := k) (fun j => by show 0 ≤ (if wR S j = (p : Int) then (1 : Int) else 0); split <;> decide) k0
      rw [if_pos k1] at b
      omega
    · rw [if_neg c]
      exact ((nS_zero (f := fun k => if wR S k = (p : Int) then (1 : Int) else 0) (fun j _ => by show 0 ≤ (if wR S j = (p : Int) then (1 : Int) else 0); split <;> decide)).mpr (fun k hk => if_neg (fun z => c ((pm_bit hp).mpr ⟨k, hk, z⟩)))).symm)
  rw [e2, nS_swap, nS_congr (g := fun _ => 1) (fun k hk => by
    have := row_v (k := k) hv (by omega)
    rw [nS_hit, if_pos ⟨this.1, by omega⟩])] at e1
  have ones : ∀ m : Nat, nS (fun _ => (1 : Int)) m = (m : Int) := fun m => by
    induction m with
    | zero => rfl
    | succ m ih => show nS (fun _ => (1 : Int)) m + 1 = _; rw [ih]; omega
  rw [ones] at e1
  omega
theorem c0_v (hv : vTold S) {i : Nat} (hi : i < (S 6).toNat) : c0S S (S 6).toNat i < (S 6).toNat ∧ wR S (c0S S (S 6).toNat i) = ((pkF (pmS S (S 6).toNat) 12 i : Nat) : Int) := by
  obtain ⟨a, b, -⟩ := pkF_b (m := pmS S (S 6).toNat) (s := 12) (k := i) (by rw [pm_cnt hv]; exact hi)
  exact plW_of ((pm_bit a).mp b)
theorem c0_lt (hv : vTold S) {i j : Nat} (h : i < j) (hj : j < (S 6).toNat) : pkF (pmS S (S 6).toNat) 12 i < pkF (pmS S (S 6).toNat) 12 j := by
  obtain ⟨-, -, a⟩ := pkF_b (m := pmS S (S 6).toNat) (s := 12) (k := i) (by rw [pm_cnt hv]; omega)
  obtain ⟨-, -, b⟩ := pkF_b (m := pmS S (S 6).toNat) (s := 12) (k := j) (by rw [pm_cnt hv]; exact hj)
  rcases Nat.lt_or_ge (pkF (pmS S (S 6).toNat) 12 i) (pkF (pmS S (S 6).toNat) 12 j) with c | c
  · exact c
  · have := cnB_mono (pmS S (S 6).toNat) c
    omega
theorem c0_asc (hv : vTold S) : asc S (S 6).toNat (c0S S (S 6).toNat) 0 := fun i j _ h2 h3 => by
  rw [(c0_v hv (show i < (S 6).toNat by omega)).2, (c0_v hv h3).2]
  have := c0_lt hv h2 h3
  omega
theorem c0_prm (hv : vTold S) : prm (S 6).toNat (c0S S (S 6).toNat) := ⟨fun i hi => (c0_v hv hi).1, fun i j hi hj e => by
  rcases Nat.lt_trichotomy i j with c | c | c
  · have := c0_asc hv i j (Nat.zero_le _) c hj
    rw [e] at this; omega
  · exact c
  · have := c0_asc hv j i (Nat.zero_le _) c hi
    rw [e] at this; omega⟩
end
section
variable {G : sG} {S : Nat → Int}
theorem c264 {d : Nat} {M : sM} {p : Nat} {P : Int → sM → sG → Prop} (hd : 5 ≤ d) (hv : vTold S) (hS : M 93 = S) (hp : p < 12) (k1 : (pmS S (S 6).toNat).testBit p = true → P 1 M G) (k0 : ¬ (pmS S (S 6).toNat).testBit p = true → P 0 M G) : sC d 264 [vO 12 82, vI 226, vI (S 6), vI 1, vI (p : Int)] M G (QI P) := by
  obtain ⟨d, rfl⟩ := sD 2 (d := d) (by omega)
  have h6 := hv.2.1
  refine e264 (s264_0 ?_)
  refine sUpTo (W := fun i => (∀ k : Nat, k < i → wR S k ≠ (p : Int)) → sW (sC (d + 1)) 264 (QI P) 3 [vO 12 82, vI 226, vI (S 6), vI 1, vI (p : Int), vI (i : Int)] [] M G 0 0) (S 6).toNat ?_ ?_ (fun k hk => absurd hk (Nat.not_lt_zero k))
  · intro h
    refine (s264_3 ⟨fun q1 => ?_, fun q2 => ⟨⟨by omega, by omega⟩, ⟨by omega, by omega⟩, ⟨(by first | omega | assumption | (refine ⟨?_, ?_⟩ <;> omega) | (simp_all; done)), (by first | omega | assumption | (refine ⟨?_, ?_⟩ <;> omega) | (simp_all; done))⟩, fun q3 => ⟨⟨by omega, by omega⟩, ?_⟩, fun q4 => ?_⟩⟩)
    · exact k0 (fun z => by
        obtain ⟨k, a, b⟩ := (pm_bit hp).mp z
        exact h k a b)
    all_goals omega
  · intro i hi ih h
    have e : M 93 (226 + (1 * (i : Int))).toNat = wR S i := by
      rw [hS, show (226 + (1 * (i : Int))) = 226 + (i : Int) by omega]; rfl
    refine (s264_3 ⟨fun q1 => ?_, fun q2 => ⟨⟨by omega, by omega⟩, ⟨by omega, by omega⟩, ⟨(by first | omega | assumption | (refine ⟨?_, ?_⟩ <;> omega) | (simp_all; done)), (by first | omega | assumption | (refine ⟨?_, ?_⟩ <;> omega) | (simp_all; done))⟩, fun q3 => ⟨⟨by omega, by omega⟩, ?_⟩, fun q4 => ?_⟩⟩)
    · omega
    · rw [e] at q3
      exact ih (fun k hk => by
        by_cases c : k = i
        · rw [c]; exact q3
        · exact h k (by omega))
    · rw [e] at q4
      exact k1 ((pm_bit hp).mpr ⟨i, hi, q4⟩)
    all_goals omega
theorem c266 {d : Nat} {M : sM} {x1 : Int} {P : Int → sM → sG → Prop} (hd : 60 ≤ d) (hv : vTold S) (hS : M 93 = S) (k0 : ¬ (-1 ≤ x1 ∧ x1 < S 6) → P (-1) M G) (kk : -1 ≤ x1 ∧ x1 < S 6 → ∀ N : sM, (∀ a, a ≠ 102 → a ≠ 103 → a ≠ 104 → N a = M a) → P (if x1 < 0 then aT S (S 6).toNat (S 6).toNat 0 (c0S S (S 6).toNat) else match aP S (S 6).toNat (S 6).toNat 0 (c0S S (S 6).toNat) with | some p => wR S (p x1.toNat) | none => -2) N G) : sC d 266 [vO 12 82, vI x1] M G (QI P) := by
  obtain ⟨d, rfl⟩ := sD 22 (d := d) (by omega)
  have h6 := hv.2.1
  have e6 : M 93 6 = S 6 := by rw [hS]
  refine e266 (s266_0 ⟨⟨by omega, by omega⟩, fun q1 => ?_, fun q2 => ⟨fun q3 => ?_, fun q4 => ?_⟩⟩)
  all_goals try omega
  · exact k0 (by omega)
  · exact k0 (by omega)
  · have kk' := kk (by omega)
    have ap := aP_aT (S := S) (n := (S 6).toNat) (S 6).toNat 0 (c0S S (S 6).toNat)
    have cp := c0_prm hv
    have ca := c0_asc hv
    have tb : aT S (S 6).toNat (S 6).toNat 0 (c0S S (S 6).toNat) ≤ 16777216 := by
      have w := (aT_wY (S := S) (n := (S 6).toNat) (S 6).toNat 0 (c0S S (S 6).toNat) (by omega) cp).1 (fun i hi => absurd hi (Nat.not_lt_zero i))
      have b := (wY_b (S := S) (n := (S 6).toNat) (S 6).toNat (cmM (c0S S (S 6).toNat) 0) (by omega)).2
      have h3 : (8 : Nat) ^ 8 = 16777216 := by decide
      have := Nat.pow_le_pow_right (n := 8) (by decide) (show (S 6).toNat ≤ 8 by omega)
      omega
    have loop : sW (sC (d + 21)) 266 (QI P) 27 [vO 12 82, vI x1, vI ((cnB (pmS S (S 6).toNat) 0 : Nat) : Int), vI ((0 : Nat) : Int), vN] [] M G 0 0 := by
      refine sUpTo (W := fun p => ∀ N : sM, (∀ a, a ≠ 102 → N a = M a) → (∀ i, i < cnB (pmS S (S 6).toNat) p → N 102 i = ((pkF (pmS S (S 6).toNat) p i : Nat) : Int)) → sW (sC (d + 21)) 266 (QI P) 27 [vO 12 82, vI x1, vI ((cnB (pmS S (S 6).toNat) p : Nat) : Int), vI (p : Int), vN] [] N G 0 0) 12 ?_ ?_ M (fun _ _ => rfl) (fun i hi => absurd hi (Nat.not_lt_zero i))
      · intro N n1 n2
        have e93 : N 93 = S := (n1 93 (by decide)).trans hS
        have oN : orR S N (c0S S (S 6).toNat) := fun i hi => by
          rw [n2 i (by rw [pm_cnt hv]; exact hi)]
          exact (c0_v hv hi).2.symm
        have main := r266 (G := G) hv (d := d + 21) (by omega) (P := P) (x1 := x1) (S 6).toNat 0 (c0S S (S 6).toNat) 0 N (by omega) cp ca oN e93 (Int.le_refl 0) (by omega) (fun N' b1 b2 b3 => by
          rw [Int.zero_add]
          have e93' : N' 93 = S := (b1 93 (by decide) (by decide) (by decide)).trans e93
          unfold beN
          refine c269n (S := S) (b := fun i => wR S (rev (S 6).toNat (c0S S (S 6).toNat) 0 i)) (by omega) hv e93' b2 (fun i hi => ?_) ?_
          · show wR S (rev (S 6).toNat (c0S S (S 6).toNat) 0 (i + 1)) < wR S (rev (S 6).toNat (c0S S (S 6).toNat) 0 i)
            unfold rev
            rw [if_neg (Nat.not_lt_zero _), if_neg (Nat.not_lt_zero _)]
            exact ca _ _ (Nat.zero_le _) (by omega) (by omega)
          · have kf := kk' N' (fun a r1 r2 r3 => (b1 a r1 r2 r3).trans (n1 a r1))
            unfold at75
            refine (s266_75 ⟨fun q1 => ⟨fun q2 => ⟨fun q3 => ⟨⟨(by first | omega | assumption | (refine ⟨?_, ?_⟩ <;> omega) | (simp_all; done)), (by first | omega | assumption | (refine ⟨?_, ?_⟩ <;> omega) | (simp_all; done))⟩, ?_⟩, fun q4 => ?_⟩, fun q5 => ?_⟩, fun q6 => ?_⟩)
            · rw [if_neg (by omega)] at kf
              cases hf : aP S (S 6).toNat (S 6).toNat 0 (c0S S (S 6).toNat) with
              | none => exact absurd (ap.1 hf) q3
              | some p =>
                rw [hf] at kf
                rw [b3.2 p rfl hf x1.toNat (by omega)]
                exact kf
            · rw [if_neg (by omega)] at kf
              cases hf : aP S (S 6).toNat (S 6).toNat 0 (c0S S (S 6).toNat) with
              | none => rw [hf] at kf; exact kf
              | some p => have := ap.2.1 p hf; omega
            · rw [if_pos (by omega)] at kf
              exact kf
            all_goals omega)
        refine (s266_27 ⟨fun q1 => ?_, fun q2 => ?_⟩)
        · exact main
        all_goals omega
      · intro p hp ih N n1 n2
        have e93 : N 93 = S := (n1 93 (by decide)).trans hS
        have e6b : N 93 6 = S 6 := by rw [e93]
        have cl := cnB_mono (pmS S (S 6).toNat) (show p + 1 ≤ 12 by omega)
        rw [pm_cnt hv] at cl
        refine (s266_27 ⟨fun q1 => ?_, fun q2 => ?_⟩)
        · omega
        · rw [e6b]
          refine c264 (S := S) (by omega) hv e93 hp (fun hy => ?_) (fun hn => ?_)
          · rw [cnB_y hy] at ih cl
            refine ⟨fun q3 => ⟨⟨(by first | omega | assumption | (refine ⟨?_, ?_⟩ <;> omega) | (simp_all; done)), (by first | omega | assumption | (refine ⟨?_, ?_⟩ <;> omega) | (simp_all; done))⟩, ⟨by omega, by omega⟩, ⟨by omega, by omega⟩, ?_⟩, fun q4 => ⟨⟨by omega, by omega⟩, ?_⟩⟩
            · have ec : (((cnB (pmS S (S 6).toNat) p : Nat) : Int)).toNat = cnB (pmS S (S 6).toNat) p := rfl
              rw [ec]
              refine ih _ (fun a ha => (sUpd_ne ha).trans (n1 a ha)) (fun i hi => ?_)
              by_cases z : i = cnB (pmS S (S 6).toNat) p
              · rw [z, pkF_nw hy]; exact sUpd_eq
              · rw [sUpd_ni z, pkF_st (by omega)]
                exact n2 i (by omega)
            all_goals omega
          · rw [cnB_n hn] at ih
            refine ⟨fun q3 => ⟨⟨(by first | omega | assumption | (refine ⟨?_, ?_⟩ <;> omega) | (simp_all; done)), (by first | omega | assumption | (refine ⟨?_, ?_⟩ <;> omega) | (simp_all; done))⟩, ⟨by omega, by omega⟩, ⟨by omega, by omega⟩, ?_⟩, fun q4 => ⟨⟨by omega, by omega⟩, ?_⟩⟩
            · omega
            · exact ih N n1 (fun i hi => by rw [pkF_st hi]; exact n2 i hi)
        all_goals omega
    exact loop
end
theorem L149 (t x1 : Int) : Step t 149 266 [vI x1] := by
  intro d M G hd hI
  obtain ⟨hv, hlt, ht, hvo, hto, t0⟩ := hI.t
  have h6 := hvo.2.1
  have e7 : M 29 7 = M 93 6 := hto.1.2.1
  have fin : ∀ N : sM, (∀ a, ¬ (78 ≤ a ∧ a ≤ 80) → a ≠ 102 → a ≠ 103 → a ≠ 104 → N a = M a) → Inv (t + 1) N G := fun N h => hI.same ⟨fun a _ ha => h a (by omega) (by omega) (by omega) (by omega), fun _ => by rw [h 1 (by decide) (by decide) (by decide) (by decide)], fun _ => by rw [h 3 (by decide) (by decide) (by decide) (by decide)], fun _ => by rw [h 82 (by decide) (by decide) (by decide) (by decide)]; exact ⟨rfl, rfl⟩⟩
  have cp := c0_prm hvo
  have ca := c0_asc hvo
  have ap := aP_aT (S := M 93) (n := (M 93 6).toNat) (M 93 6).toNat 0 (c0S (M 93) (M 93 6).toNat)
  have w := (aT_wY (S := M 93) (n := (M 93 6).toNat) (M 93 6).toNat 0 (c0S (M 93) (M 93 6).toNat) (by omega) cp).1 (fun i hi => absurd hi (Nat.not_lt_zero i))
  have ref : ∀ (N : sM) (r : Int), (∀ a, ¬ (78 ≤ a ∧ a ≤ 80) → N a = M a) → (¬ (-1 ≤ x1 ∧ x1 < M 93 6) → r = -1) → (-1 ≤ x1 ∧ x1 < M 93 6 → r = if x1 < 0 then aT (M 93) (M 93 6).toNat (M 93 6).toNat 0 (c0S (M 93) (M 93 6).toNat) else match aP (M 93) (M 93 6).toNat (M 93 6).toNat 0 (c0S (M 93) (M 93 6).toNat) with | some p => wR (M 93) (p x1.toNat) | none => -2) → sC d 266 [vO 12 82, vI x1] N G (QI (LPost t r)) := fun N r n1 r0 rk => by
    have e93 : N 93 = M 93 := n1 93 (by decide)
    refine c266 (S := M 93) (by omega) hvo e93 (fun z => ⟨(r0 z).symm, fin N (fun a z1 _ _ _ => n1 a z1)⟩) (fun ok N2 m1 => ?_)
    exact ⟨(rk ok).symm, fin N2 (fun a z1 z2 z3 z4 => (m1 a z2 z3 z4).trans (n1 a z1))⟩
  obtain ⟨d, rfl⟩ := sD 60 (d := d) (by omega)
  refine e149 (s149_0 ⟨fun q1 => ?_, fun q2 => ⟨fun q3 => ?_, fun q8 => ?_⟩⟩)
  · exact ref M _ (fun _ _ => rfl) (fun _ => rfl) (fun z => by omega)
  · rw [e7] at q3
    refine c150 (S := M 93) (by omega) hvo hto (fun N n1 n2 n3 => ?_)
    have e80 : N 80 0 = aT (M 93) (M 93 6).toNat (M 93 6).toNat 0 (c0S (M 93) (M 93 6).toNat) := by
      rw [n3 0 (Nat.le_refl 0) (Nat.two_pow_pos _), w]
      have : pcc (M 93 6).toNat 0 = 0 := by
        have b := pcc_b (M 93 6).toNat 0
        have z := pc_zero (M 93 6).toNat
        omega
      rw [this]; rfl
    have tN : TO 29 N (M 93) := hto.congr (fun a _ _ => n1 a (by omega))
    refine ⟨fun q4 => ⟨fun q5 => ?_, fun q6 => ?_⟩, fun q7 => ?_⟩
    · rw [e80] at q5
      cases hf : aP (M 93) (M 93 6).toNat (M 93 6).toNat 0 (c0S (M 93) (M 93 6).toNat) with
      | none => exact absurd (ap.1 hf) q5
      | some p =>
        obtain ⟨a, rfl⟩ : ∃ a : Nat, x1 = (a : Int) := ⟨x1.toNat, z_nat (by omega)⟩
        refine c153 (S := M 93) (k := a) (by omega) hvo tN n2 n3 (by omega) cp ca hf ?_
        refine ?_
        refine ref N _ n1 (fun z => absurd ⟨q2, q3⟩ z) (fun _ => ?_)
        rw [if_neg (by omega), hf]
        rfl
    · rw [e80] at q6
      refine ref N _ n1 (fun z => absurd ⟨q2, q3⟩ z) (fun _ => ?_)
      rw [if_neg (by omega)]
      cases hf : aP (M 93) (M 93 6).toNat (M 93 6).toNat 0 (c0S (M 93) (M 93 6).toNat) with
      | none => rfl
      | some p => have := ap.2.1 p hf; omega
    · refine ref N _ n1 (fun z => absurd ⟨q2, q3⟩ z) (fun _ => ?_)
      rw [if_pos (by omega)]
      exact e80
  · rw [e7] at q8
    exact ref M _ (fun _ _ => rfl) (fun _ => rfl) (fun z => by omega)
