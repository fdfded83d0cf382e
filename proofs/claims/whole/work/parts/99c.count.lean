/-! The class's planner: the first plan, and how many. -/
def cOk (v T : Int) : Prop := v = T ∨ (1000000 ≤ v ∧ v ≤ T)
theorem mskN12_lt {Q : Nat → Bool} : mskN Q 12 < 4096 := mskN_lt (n := 12)
section
variable {G : sG} {S : Nat → Int}
theorem rowbit {M : sM} {k x : Nat} {a : Nat → Nat} (hv : vTold S) (hr : rowK S M k a) (hk : (k : Int) < S 5) (hx : x < 12) : iAnd (iShr (M 74 (((k : Int) * 6) + (k : Int)).toNat) (x : Int)) 1 = 1 ↔ opB S k a k x = true := by
  have h5 := hv.1
  rw [show (((k : Int) * 6) + (k : Int)).toNat = k * 6 + k by omega, hr k (Nat.le_refl k) hk, has_12 mskN12_lt hx, row_bit hv hk, opB_i]
theorem c133 (hv : vTold S) : ∀ (r d : Nat) (M : sM) (k : Nat) (a : Nat → Nat) (P : Int → sM → sG → Prop), 2 * r + 14 ≤ d → (k : Int) + r = S 5 → M 69 0 = S 5 → fitR S M → rowK S M k a → (∀ i, i < k → M 75 i = ((a i : Nat) : Int)) → (∀ (p : Nat → Nat) (N : sM), fP S r k a = some p → (∀ b, b ≠ 74 → b ≠ 75 → N b = M b) → (∀ i : Nat, (i : Int) < S 5 → N 75 i = ((p i : Nat) : Int)) → P 1 N G) → (∀ N : sM, fP S r k a = none → (∀ b, b ≠ 74 → b ≠ 75 → N b = M b) → (∀ i, i < (k + 1) * 6 → N 74 i = M 74 i) → (∀ i, i < k → N 75 i = M 75 i) → P 0 N G) → sC d 133 [vO 3 69, vI (k : Int)] M G (QI P) := by
  have h5 := hv.1
  intro r
  induction r with
  | zero =>
    intro d M k a P hd hk m69 hf hr m75 k1 k0
    obtain ⟨d, rfl⟩ := sD 2 (d := d) (by omega)
    refine e133 (s133_0 ⟨fun q1 => ?_, fun q2 => ?_⟩)
    · omega
    · exact k1 a M rfl (fun _ _ _ => rfl) (fun i hi => m75 i (by omega))
  | succ r ihr =>
    intro d M k a P hd hk m69 hf hr m75 k1 k0
    obtain ⟨d, rfl⟩ := sD 3 (d := d) (by omega)
    have kl : (k : Int) < S 5 := by omega
    have loop : sW (sC (d + 2)) 133 (QI P) 12 [vO 3 69, vI (k : Int), vI ((0 : Nat) : Int)] [] M G 0 0 := by
      refine sUpTo (W := fun x => ∀ N : sM, (∀ b, b ≠ 74 → b ≠ 75 → N b = M b) → (∀ i, i < (k + 1) * 6 → N 74 i = M 74 i) → (∀ i, i < k → N 75 i = M 75 i) → fP S (r + 1) k a = fF (fun x => if opB S k a k x = true then fP S r (k + 1) (upC a k x) else none) x (12 - x) → sW (sC (d + 2)) 133 (QI P) 12 [vO 3 69, vI (k : Int), vI (x : Int)] [] N G 0 0) 12 ?_ ?_ M (fun _ _ _ => rfl) (fun _ _ => rfl) (fun _ _ => rfl) rfl
      · intro N n1 n2 n3 n4
        refine (s133_12 ⟨fun q1 => ?_, fun q2 => ⟨⟨by omega, by omega⟩, ⟨by omega, by omega⟩, ⟨(by first | omega | assumption | (refine ⟨?_, ?_⟩ <;> omega) | (simp_all; done)), (by first | omega | assumption | (refine ⟨?_, ?_⟩ <;> omega) | (simp_all; done))⟩, fun q3 => ⟨⟨by omega, by omega⟩, ?_⟩, fun q4 => ?_⟩⟩)
        · exact k0 N n4 n1 n2 n3
        all_goals omega
      · intro x hx ih N n1 n2 n3 n4
        have rN : rowK S N k a := hr.congr h5.2 n2
        have rb := rowbit hv rN kl hx
        have n69 : N 69 0 = S 5 := by rw [n1 69 (by decide) (by decide)]; exact m69
        have nf : fitR S N := by unfold fitR; rw [n1 72 (by decide) (by decide)]; exact hf
        rw [show 12 - x = (11 - x) + 1 by omega] at n4
        have skip : ∀ N2 : sM, (∀ b, b ≠ 74 → b ≠ 75 → N2 b = M b) → (∀ i, i < (k + 1) * 6 → N2 74 i = M 74 i) → (∀ i, i < k → N2 75 i = M 75 i) → (if opB S k a k x = true then fP S r (k + 1) (upC a k x) else none) = none → sW (sC (d + 2)) 133 (QI P) 12 [vO 3 69, vI (k : Int), vI ((x + 1 : Nat) : Int)] [] N2 G 0 0 := fun N2 b1 b2 b3 hz => ih N2 b1 b2 b3 (by
          rw [n4, fF_step hz, show 12 - (x + 1) = 11 - x by omega])
        refine (s133_12 ⟨fun q1 => ?_, fun q2 => ⟨⟨by omega, by omega⟩, ⟨by omega, by omega⟩, ⟨(by first | omega | assumption | (refine ⟨?_, ?_⟩ <;> omega) | (simp_all; done)), (by first | omega | assumption | (refine ⟨?_, ?_⟩ <;> omega) | (simp_all; done))⟩, fun q3 => ⟨⟨by omega, by omega⟩, ?_⟩, fun q4 => ?_⟩⟩)
        · omega
        · exact skip N n1 n2 n3 (if_neg (fun z => q3 (rb.mpr z)))
        · have ho := rb.mp q4
          have hxc := (opB_i.mp ho).1
          refine c131 (S := S) (by omega) hv n69 nf rN kl hxc (fun N2 b1 b2 b3 => ?_) (fun N2 b1 b2 b3 => ?_)
          · refine ⟨fun q5 => ⟨⟨by omega, by omega⟩, ?_⟩, fun q6 => ⟨⟨(by first | omega | assumption | (refine ⟨?_, ?_⟩ <;> omega) | (simp_all; done)), (by first | omega | assumption | (refine ⟨?_, ?_⟩ <;> omega) | (simp_all; done))⟩, ⟨by omega, by omega⟩, ?_⟩⟩
            · omega
            · have ih2 := ihr (d + 2) (sUpd N2 75 ((k : Int)).toNat (x : Int)) (k + 1) (upC a k x)
              rw [show ((k + 1 : Nat) : Int) = (k : Int) + 1 by omega] at ih2
              refine ih2 _ (by omega) (by omega) (by rw [sUpd_ne (by decide), b1 69 (by decide)]; exact n69) (by unfold fitR; rw [sUpd_ne (by decide), b1 72 (by decide)]; exact nf) (by
                unfold rowK
                rw [sUpd_ne (by decide)]
                exact b3) (fun i hi => ?_) (fun p N3 hp c1 c2 => ?_) (fun N3 hp c1 c2 c3 => ?_)
              · unfold upC
                by_cases c : i = k
                · rw [if_pos c, c]; exact sUpd_eq
                · rw [if_neg c]
                  refine (sUpd_ni (show i ≠ k from c)).trans ?_
                  rw [b1 75 (by decide), n3 i (by omega)]
                  exact m75 i (by omega)
              · refine ⟨fun q7 => ⟨⟨by omega, by omega⟩, ?_⟩, fun q8 => ?_⟩
                · omega
                · refine k1 p N3 ?_ (fun b r1 r2 => (c1 b r1 r2).trans ((sUpd_ne r2).trans ((b1 b r1).trans (n1 b r1 r2)))) c2
                  rw [n4]
                  exact fF_some (by rw [if_pos ho]; exact hp)
              · refine ⟨fun q7 => ⟨⟨by omega, by omega⟩, ?_⟩, fun q8 => ?_⟩
                · refine skip N3 (fun b r1 r2 => (c1 b r1 r2).trans ((sUpd_ne r2).trans ((b1 b r1).trans (n1 b r1 r2)))) (fun i hi => ?_) (fun i hi => ?_) (by rw [if_pos ho]; exact hp)
                  · rw [c2 i (by omega), sUpd_ne (by decide), b2 i hi]; exact n2 i hi
                  · rw [c3 i (by omega)]
                    refine (sUpd_ni (show i ≠ k by omega)).trans ?_
                    rw [b1 75 (by decide)]; exact n3 i hi
                · omega
            all_goals omega
          · refine ⟨fun q5 => ⟨⟨by omega, by omega⟩, ?_⟩, fun q6 => ⟨⟨(by first | omega | assumption | (refine ⟨?_, ?_⟩ <;> omega) | (simp_all; done)), (by first | omega | assumption | (refine ⟨?_, ?_⟩ <;> omega) | (simp_all; done))⟩, ⟨by omega, by omega⟩, ?_⟩⟩
            · obtain ⟨w, w1, w2, w3⟩ := b3
              refine skip N2 (fun b r1 r2 => (b1 b r1).trans (n1 b r1 r2)) (fun i hi => (b2 i hi).trans (n2 i hi)) (fun i hi => by rw [b1 75 (by decide)]; exact n3 i hi) ?_
              rw [if_pos ho]
              exact (cT_emp r (k + 1) (upC a k x) w w1 (by omega) w3).2
            all_goals omega
        all_goals omega
    refine e133 (s133_0 ⟨fun q1 => ?_, fun q2 => ?_⟩)
    · exact loop
    · omega
theorem cOk.mul {p v T : Int} (p0 : 0 ≤ p) (hT : 0 ≤ T) (h : cOk v T) : cOk (p * v) (p * T) := by
  rcases h with h | ⟨h1, h2⟩
  · exact Or.inl (by rw [h])
  · by_cases z : p = 0
    · left; rw [z, Int.zero_mul, Int.zero_mul]
    · right
      have a1 : 1 * v ≤ p * v := Int.mul_le_mul_of_nonneg_right (by omega) (by omega)
      have a2 : p * v ≤ p * T := Int.mul_le_mul_of_nonneg_left h2 p0
      omega
theorem c129 (hv : vTold S) {d : Nat} {M : sM} {k : Nat} {a : Nat → Nat} {P : Int → sM → sG → Prop} (hd : 10 ≤ d) (hk : (k : Int) + 2 = S 5) (hf : fitR S M) (hr : rowK S M k a) (kk : P (cT S 2 k a) M G) : sC d 129 [vO 3 69, vI (k : Int)] M G (QI P) := by
  have h5 := hv.1
  obtain ⟨d, rfl⟩ := sD 3 (d := d) (by omega)
  have ei : (((k : Int) * 6) + (k : Int)).toNat = k * 6 + k := by omega
  have ei1 : ((((k : Int) * 6) + (k : Int)) + 1).toNat = k * 6 + (k + 1) := by omega
  have e1 := hr k (Nat.le_refl k) (by omega)
  have e2 := hr (k + 1) (by omega) (by omega)
  have hTb := cT_b (S := S) 2 k a
  refine e129 (s129_0 ⟨⟨by omega, by omega⟩, ⟨by omega, by omega⟩, ⟨(by first | omega | assumption | (refine ⟨?_, ?_⟩ <;> omega) | (simp_all; done)), (by first | omega | assumption | (refine ⟨?_, ?_⟩ <;> omega) | (simp_all; done))⟩, ⟨by omega, by omega⟩, ⟨(by first | omega | assumption | (refine ⟨?_, ?_⟩ <;> omega) | (simp_all; done)), (by first | omega | assumption | (refine ⟨?_, ?_⟩ <;> omega) | (simp_all; done))⟩, ?_⟩)
  all_goals try omega
  rw [ei, ei1, e1, e2]
  have loop : ∀ W0 : Int, W0 = 0 → sW (sC (d + 2)) 129 (QI P) 32 [vO 3 69, vI (k : Int), vI ((mskN (opB S k a k) 12 : Nat) : Int), vI ((mskN (opB S k a (k + 1)) 12 : Nat) : Int), vI W0, vI ((0 : Nat) : Int)] [] M G 0 0 := fun W0 hW => by
    refine sUpTo (W := fun x => ∀ tg : Int, 0 ≤ tg → tg + sF (fun x => if opB S k a k x = true then cT S 1 (k + 1) (upC a k x) else 0) x (12 - x) = cT S 2 k a → sW (sC (d + 2)) 129 (QI P) 32 [vO 3 69, vI (k : Int), vI ((mskN (opB S k a k) 12 : Nat) : Int), vI ((mskN (opB S k a (k + 1)) 12 : Nat) : Int), vI tg, vI (x : Int)] [] M G 0 0) 12 ?_ ?_ W0 (by omega) (by rw [hW, Int.zero_add]; rfl)
    · intro tg t0 t1
      have e0 : sF (fun x => if opB S k a k x = true then cT S 1 (k + 1) (upC a k x) else 0) 12 (12 - 12) = 0 := rfl
      rw [e0, Int.add_zero] at t1
      refine (s129_32 ⟨fun q1 => ?_, fun q2 => ⟨fun q3 => ⟨⟨by omega, by omega⟩, ?_⟩, fun q4 => ⟨⟨by omega, by omega⟩, ⟨by omega, by omega⟩, ⟨by omega, by omega⟩, ⟨by omega, by omega⟩, ⟨by omega, by omega⟩, ⟨(by first | omega | assumption | (refine ⟨?_, ?_⟩ <;> omega) | (simp_all; done)), (by first | omega | assumption | (refine ⟨?_, ?_⟩ <;> omega) | (simp_all; done))⟩, ?_⟩⟩⟩)
      · rw [t1]; exact kk
      all_goals omega
    · intro x hx ih tg t0 t1
      have hh := has_12 (mskN12_lt (Q := opB S k a k)) hx
      rw [row_bit hv (show (k : Int) < S 5 by omega), ← opB_i] at hh
      have est : sF (fun x => if opB S k a k x = true then cT S 1 (k + 1) (upC a k x) else 0) x (12 - x) = (if opB S k a k x = true then cT S 1 (k + 1) (upC a k x) else 0) + sF (fun x => if opB S k a k x = true then cT S 1 (k + 1) (upC a k x) else 0) (x + 1) (12 - (x + 1)) := by
        rw [show 12 - x = (12 - (x + 1)) + 1 by omega]; rfl
      have vx := cT_b (S := S) 1 (k + 1) (upC a k x)
      have rest := sF_b (g := fun x => if opB S k a k x = true then cT S 1 (k + 1) (upC a k x) else 0) (B := ((12 ^ 1 : Nat) : Int)) (c := 12 - (x + 1)) (x := x + 1) (fun y => by
        show 0 ≤ (if opB S k a k y = true then cT S 1 (k + 1) (upC a k y) else 0) ∧ (if opB S k a k y = true then cT S 1 (k + 1) (upC a k y) else 0) ≤ ((12 ^ 1 : Nat) : Int)
        have := cT_b (S := S) 1 (k + 1) (upC a k y)
        split <;> omega)
      refine (s129_32 ⟨fun q1 => ?_, fun q2 => ⟨fun q3 => ⟨⟨by omega, by omega⟩, ?_⟩, fun q4 => ⟨⟨by omega, by omega⟩, ⟨by omega, by omega⟩, ⟨by omega, by omega⟩, ⟨by omega, by omega⟩, ⟨by omega, by omega⟩, ⟨(by first | omega | assumption | (refine ⟨?_, ?_⟩ <;> omega) | (simp_all; done)), (by first | omega | assumption | (refine ⟨?_, ?_⟩ <;> omega) | (simp_all; done))⟩, ?_⟩⟩⟩)
      all_goals try omega
      · refine ih tg t0 ?_
        rw [est, if_neg (fun z => q3 (hh.mpr z)), Int.zero_add] at t1
        exact t1
      · have ho := hh.mp q4
        have hxc := (opB_i.mp ho).1
        rw [est, if_pos ho] at t1
        have ef : (((((k : Int) * 12) + (x : Int)) * 6) + ((k : Int) + 1)).toNat = idX k x (k + 1) := by unfold idX; omega
        have e72 := hf k (k + 1) x (by omega) (by omega) hxc
        rw [ef, e72, n_and (by have := mskN12_lt (Q := opB S k a (k + 1)); omega), row_and hv (by omega)]
        have ec : nS (pcF (mskN (opB S (k + 1) (upC a k x) (k + 1)) 12)) 12 = cT S 1 (k + 1) (upC a k x) := by
          have e3 := sF_nS (g := fun y => if opB S (k + 1) (upC a k x) (k + 1) y = true then (1 : Int) else 0) (c := 12) (x := 0)
          have e4 : nS (pcF (mskN (opB S (k + 1) (upC a k x) (k + 1)) 12)) 12 = nS (fun y => if opB S (k + 1) (upC a k x) (k + 1) y = true then (1 : Int) else 0) 12 := nS_congr (fun i hi => by
            unfold pcF
            rw [mskN_bit, decide_eq_true hi, Bool.true_and])
          have e5 : nS (fun y => if opB S (k + 1) (upC a k x) (k + 1) y = true then (1 : Int) else 0) 0 = 0 := rfl
          have e6 : cT S 1 (k + 1) (upC a k x) = sF (fun y => if opB S (k + 1) (upC a k x) (k + 1) y = true then (1 : Int) else 0) 0 12 := rfl
          rw [e4, e6, ← e3, e5, Int.zero_add]
        refine c113n (by omega) mskN12_lt ?_
        rw [ec]
        have b144 : ((12 ^ 2 : Nat) : Int) = 144 := by decide
        refine ⟨⟨by omega, by omega⟩, ⟨by omega, by omega⟩, ?_⟩
        exact ih (tg + cT S 1 (k + 1) (upC a k x)) (by omega) (by omega)
  exact loop 0 rfl
end
