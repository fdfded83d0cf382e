/-! The class's planner: how many plans. -/
section
variable {G : sG} {S : Nat → Int}
theorem p12k {r : Nat} (h : r ≤ 6) : ((12 ^ r : Nat) : Int) ≤ 2985984 := by
  have h3 : (12 : Nat) ^ 6 = 2985984 := by decide
  have := Nat.pow_le_pow_right (n := 12) (by decide) h
  omega
theorem c128 (hv : vTold S) : ∀ (r d : Nat) (M : sM) (k : Nat) (a : Nat → Nat) (P : Int → sM → sG → Prop), 2 * r + 16 ≤ d → (k : Int) + r = S 5 → M 69 0 = S 5 → fitR S M → (∀ w : Nat, (w : Int) < S 5 → tieR S M w) → rowK S M k a → (∀ (v : Int) (N : sM), cOk v (cT S r k a) → 0 ≤ v → (∀ b, b ≠ 74 → N b = M b) → (∀ i, i < (k + 1) * 6 → N 74 i = M 74 i) → P v N G) → sC d 128 [vO 3 69, vI (k : Int)] M G (QI P) := by
  have h5 := hv.1
  intro r
  induction r with
  | zero =>
    intro d M k a P hd hk m69 hf ht hr kk
    obtain ⟨d, rfl⟩ := sD 2 (d := d) (by omega)
    refine e128 (s128_0 ⟨fun q1 => ⟨⟨(by first | omega | assumption | (refine ⟨?_, ?_⟩ <;> omega) | (simp_all; done)), (by first | omega | assumption | (refine ⟨?_, ?_⟩ <;> omega) | (simp_all; done))⟩, fun q2 => ⟨⟨by omega, by omega⟩, fun q3 => ?_, fun q4 => ?_⟩, fun q5 => ⟨⟨by omega, by omega⟩, ⟨by omega, by omega⟩, ⟨by omega, by omega⟩, ⟨(by first | omega | assumption | (refine ⟨?_, ?_⟩ <;> omega) | (simp_all; done)), (by first | omega | assumption | (refine ⟨?_, ?_⟩ <;> omega) | (simp_all; done)), (by first | omega | assumption | (refine ⟨?_, ?_⟩ <;> omega) | (simp_all; done)), (by first | omega | assumption | (refine ⟨?_, ?_⟩ <;> omega) | (simp_all; done)), (by first | omega | assumption | (refine ⟨?_, ?_⟩ <;> omega) | (simp_all; done))⟩, ⟨by omega, by omega⟩, ⟨(by first | omega | assumption | (refine ⟨?_, ?_⟩ <;> omega) | (simp_all; done)), (by first | omega | assumption | (refine ⟨?_, ?_⟩ <;> omega) | (simp_all; done))⟩, ?_⟩⟩, fun q6 => ?_⟩)
    all_goals try omega
    exact kk 1 M (Or.inl rfl) (by decide) (fun _ _ => rfl) (fun _ _ => rfl)
  | succ r ihr =>
    intro d M k a P hd hk m69 hf ht hr kk
    obtain ⟨d, rfl⟩ := sD 15 (d := d) (by omega)
    have kl : (k : Int) < S 5 := by omega
    have vk := wish_v hv kl
    have rl6 : r + 1 ≤ 6 := by omega
    have ih' : ∀ (N : sM) (a' : Nat → Nat) (P' : Int → sM → sG → Prop), N 69 0 = S 5 → fitR S N → (∀ w : Nat, (w : Int) < S 5 → tieR S N w) → rowK S N (k + 1) a' → (∀ (v : Int) (N2 : sM), cOk v (cT S r (k + 1) a') → 0 ≤ v → (∀ b, b ≠ 74 → N2 b = N b) → (∀ i, i < (k + 1 + 1) * 6 → N2 74 i = N 74 i) → P' v N2 G) → sC (d + 14) 128 [vO 3 69, vI ((k : Int) + 1)] N G (QI P') := fun N a' P' g1 g2 g3 g4 g5 => by
      rw [show (k : Int) + 1 = ((k + 1 : Nat) : Int) by omega]
      exact ihr (d + 14) N (k + 1) a' P' (by omega) (by omega) g1 g2 g3 g4 g5
    have tiK : ∀ N : sM, N 73 = M 73 → ∀ w : Nat, (w : Int) < S 5 → tieR S N w := fun N h w hw => by
      have := ht w hw
      unfold tieR at this ⊢
      rw [h]; exact this
    refine e128 (s128_0 ⟨fun q1 => ⟨⟨(by first | omega | assumption | (refine ⟨?_, ?_⟩ <;> omega) | (simp_all; done)), (by first | omega | assumption | (refine ⟨?_, ?_⟩ <;> omega) | (simp_all; done))⟩, fun q2 => ⟨⟨by omega, by omega⟩, fun q3 => ?_, fun q4 => ?_⟩, fun q5 => ⟨⟨by omega, by omega⟩, ⟨by omega, by omega⟩, ⟨by omega, by omega⟩, ⟨(by first | omega | assumption | (refine ⟨?_, ?_⟩ <;> omega) | (simp_all; done)), (by first | omega | assumption | (refine ⟨?_, ?_⟩ <;> omega) | (simp_all; done)), (by first | omega | assumption | (refine ⟨?_, ?_⟩ <;> omega) | (simp_all; done)), (by first | omega | assumption | (refine ⟨?_, ?_⟩ <;> omega) | (simp_all; done)), (by first | omega | assumption | (refine ⟨?_, ?_⟩ <;> omega) | (simp_all; done))⟩, ⟨by omega, by omega⟩, ⟨(by first | omega | assumption | (refine ⟨?_, ?_⟩ <;> omega) | (simp_all; done)), (by first | omega | assumption | (refine ⟨?_, ?_⟩ <;> omega) | (simp_all; done))⟩, ?_⟩⟩, fun q6 => ?_⟩)
    · -- tied
      have loop : ∀ W0 : Int, W0 = 0 → sW (sC (d + 14)) 128 (QI P) 81 [vO 3 69, vI (k : Int), vI W0, vI ((0 : Nat) : Int)] [] M G 0 0 := fun W0 hW => by
        refine sUpTo (W := fun x => ∀ (N : sM) (tg : Int), (∀ b, b ≠ 74 → N b = M b) → (∀ i, i < (k + 1) * 6 → N 74 i = M 74 i) → 0 ≤ tg → tg ≤ 9000000 → (tg + sF (fun x => if opB S k a k x = true then cT S r (k + 1) (upC a k x) else 0) x (12 - x) = cT S (r + 1) k a ∨ (1000000 ≤ tg ∧ tg + sF (fun x => if opB S k a k x = true then cT S r (k + 1) (upC a k x) else 0) x (12 - x) ≤ cT S (r + 1) k a)) → sW (sC (d + 14)) 128 (QI P) 81 [vO 3 69, vI (k : Int), vI tg, vI (x : Int)] [] N G 0 0) 12 ?_ ?_ M W0 (fun _ _ => rfl) (fun _ _ => rfl) (by omega) (by omega) (Or.inl (by rw [hW, Int.zero_add]; rfl))
        · intro N tg n1 n2 t0 t9 t1
          have e0 : sF (fun x => if opB S k a k x = true then cT S r (k + 1) (upC a k x) else 0) 12 (12 - 12) = 0 := rfl
          rw [e0, Int.add_zero] at t1
          refine (s128_81 ⟨fun q1 => ?_, fun q2 => ⟨fun q3 => ?_, fun q4 => ⟨⟨by omega, by omega⟩, ⟨by omega, by omega⟩, ⟨(by first | omega | assumption | (refine ⟨?_, ?_⟩ <;> omega) | (simp_all; done)), (by first | omega | assumption | (refine ⟨?_, ?_⟩ <;> omega) | (simp_all; done))⟩, fun q5 => ⟨⟨by omega, by omega⟩, ?_⟩, fun q6 => ?_⟩⟩⟩)
          · exact kk tg N t1 t0 n1 n2
          all_goals omega
        · intro x hx ih N tg n1 n2 t0 t9 t1
          have est : sF (fun x => if opB S k a k x = true then cT S r (k + 1) (upC a k x) else 0) x (12 - x) = (if opB S k a k x = true then cT S r (k + 1) (upC a k x) else 0) + sF (fun x => if opB S k a k x = true then cT S r (k + 1) (upC a k x) else 0) (x + 1) (12 - (x + 1)) := by
            rw [show 12 - x = (12 - (x + 1)) + 1 by omega]; rfl
          have gb : ∀ y, 0 ≤ (if opB S k a k y = true then cT S r (k + 1) (upC a k y) else 0) ∧ (if opB S k a k y = true then cT S r (k + 1) (upC a k y) else 0) ≤ ((12 ^ r : Nat) : Int) := fun y => by
            have := cT_b (S := S) r (k + 1) (upC a k y)
            split <;> omega
          have vx := gb x
          have pk := p12k (r := r) (by omega)
          have rest := sF_b (g := fun x => if opB S k a k x = true then cT S r (k + 1) (upC a k x) else 0) (B := ((12 ^ r : Nat) : Int)) (c := 12 - (x + 1)) (x := x + 1) gb
          have rN : rowK S N k a := hr.congr h5.2 n2
          have rb := rowbit hv rN kl hx
          have n69 : N 69 0 = S 5 := by rw [n1 69 (by decide)]; exact m69
          have nf : fitR S N := by unfold fitR; rw [n1 72 (by decide)]; exact hf
          have skip : ∀ N2 : sM, (∀ b, b ≠ 74 → N2 b = M b) → (∀ i, i < (k + 1) * 6 → N2 74 i = M 74 i) → (if opB S k a k x = true then cT S r (k + 1) (upC a k x) else 0) = 0 → sW (sC (d + 14)) 128 (QI P) 81 [vO 3 69, vI (k : Int), vI tg, vI ((x + 1 : Nat) : Int)] [] N2 G 0 0 := fun N2 b1 b2 hz => ih N2 tg b1 b2 t0 t9 (by
            rw [est, hz, Int.zero_add] at t1
            exact t1)
          refine (s128_81 ⟨fun q1 => ?_, fun q2 => ⟨fun q3 => ?_, fun q4 => ⟨⟨by omega, by omega⟩, ⟨by omega, by omega⟩, ⟨(by first | omega | assumption | (refine ⟨?_, ?_⟩ <;> omega) | (simp_all; done)), (by first | omega | assumption | (refine ⟨?_, ?_⟩ <;> omega) | (simp_all; done))⟩, fun q5 => ⟨⟨by omega, by omega⟩, ?_⟩, fun q6 => ?_⟩⟩⟩)
          · omega
          · exact kk tg N (by
              rw [est] at t1
              unfold cOk
              rcases t1 with z | z
              · right; omega
              · right; omega) t0 n1 n2
          · exact skip N n1 n2 (if_neg (fun z => q5 (rb.mpr z)))
          · have ho := rb.mp q6
            have hxc := (opB_i.mp ho).1
            have tx := t1.resolve_right (fun z => by omega)
            rw [est, if_pos ho] at tx
            rw [if_pos ho] at vx
            refine c131 (S := S) (by omega) hv n69 nf rN kl hxc (fun N2 b1 b2 b3 => ?_) (fun N2 b1 b2 b3 => ?_)
            · refine ⟨fun q7 => ⟨⟨by omega, by omega⟩, ?_⟩, fun q8 => ⟨⟨by omega, by omega⟩, ?_⟩⟩
              · omega
              · refine ih' N2 (upC a k x) _ (by rw [b1 69 (by decide)]; exact n69) (by unfold fitR; rw [b1 72 (by decide)]; exact nf) (tiK N2 (by rw [b1 73 (by decide), n1 73 (by decide)])) b3 (fun v N3 hv3 v0 c1 c2 => ?_)
                have vle : v ≤ cT S r (k + 1) (upC a k x) := by rcases hv3 with z | z <;> omega
                refine ⟨⟨by omega, by omega⟩, ⟨by omega, by omega⟩, ?_⟩
                refine ih N3 (tg + v) (fun b hb => (c1 b hb).trans ((b1 b hb).trans (n1 b hb))) (fun i hi => (c2 i (by omega)).trans ((b2 i hi).trans (n2 i hi))) (by omega) (by omega) ?_
                rcases hv3 with z | ⟨z1, z2⟩
                · left; omega
                · right; omega
            · refine ⟨fun q7 => ⟨⟨by omega, by omega⟩, ?_⟩, fun q8 => ⟨⟨by omega, by omega⟩, ?_⟩⟩
              · obtain ⟨w, w1, w2, w3⟩ := b3
                refine skip N2 (fun b hb => (b1 b hb).trans (n1 b hb)) (fun i hi => (b2 i hi).trans (n2 i hi)) ?_
                rw [if_pos ho]
                exact (cT_emp r (k + 1) (upC a k x) w w1 (by omega) w3).1
              · omega
          all_goals omega
      exact loop 0 rfl
    · -- the last two
      have er : r = 1 := by omega
      subst er
      refine c129 hv (by omega) (by omega) hf hr ?_
      exact kk _ M (Or.inl rfl) (cT_b 2 k a).1 (fun _ _ => rfl) (fun _ _ => rfl)
    · -- goes with all
      have q5' : M 73 k = 0 := q5
      have free := (ht k kl).mp q5'
      have hT := cT_free (S := S) (n := (S 5).toNat) (r := r) (k := k) (a := a) (by omega) (by omega) (fun x w y h1 h2 h3 h4 => free w x y h2 (by omega) h1 h4)
      have ei : (((k : Int) * 6) + (k : Int)).toNat = k * 6 + k := by omega
      have cn : ∀ b, b ≠ 74 → (sCpy M 74 ((k : Int) * 6).toNat 74 (((k : Int) + 1) * 6).toNat 6) b = M b := fun b hb => sCpy_ne hb
      have cl : ∀ i, i < (k + 1) * 6 → (sCpy M 74 ((k : Int) * 6).toNat 74 (((k : Int) + 1) * 6).toNat 6) 74 i = M 74 i := fun i hi => by
        unfold sCpy
        rw [if_neg (by omega)]
      have ch : ∀ w, w < 6 → (sCpy M 74 ((k : Int) * 6).toNat 74 (((k : Int) + 1) * 6).toNat 6) 74 ((k + 1) * 6 + w) = M 74 (k * 6 + w) := fun w hw => by
        unfold sCpy
        rw [if_pos ⟨rfl, by omega, by show _ < (((k : Int) + 1) * 6).toNat + 6; omega⟩]
        rw [show ((k : Int) * 6).toNat + ((k + 1) * 6 + w - (((k : Int) + 1) * 6).toNat) = k * 6 + w by omega]
      have pcb := pc12 (m := mskN (opB S k a k) 12)
      have tb := cT_b (S := S) r (k + 1) (upC a k 0)
      have pk := p12k (r := r) (by omega)
      have ev : (sCpy M 74 ((k : Int) * 6).toNat 74 (((k : Int) + 1) * 6).toNat 6) 74 (((k : Int) * 6) + (k : Int)).toNat = ((mskN (opB S k a k) 12 : Nat) : Int) := by
        rw [ei, cl _ (by omega)]; exact hr k (Nat.le_refl k) kl
      have ev2 : (sCpy M 74 ((k : Int) * 6).toNat 74 (((k : Int) + 1) * 6).toNat 6) 74 (((k : Int) * 6) + (k : Int)).toNat = ((mskN (opB S k a k) 12 : Nat) : Int) := ev
      rw [ev2]
      refine c113n (by omega) mskN12_lt ?_
      refine ?_
      refine ih' _ (upC a k 0) _ (by rw [cn 69 (by decide)]; exact m69) (by unfold fitR; rw [cn 72 (by decide)]; exact hf) (tiK _ (cn 73 (by decide))) (fun w h1 h2 => ?_) (fun v N3 hv3 v0 c1 c2 => ?_)
      · rw [ch w (by omega), hr w (by omega) h2]
        have : mskN (opB S k a w) 12 = mskN (opB S (k + 1) (upC a k 0) w) 12 := Nat.eq_of_testBit_eq (fun y => Bool.eq_iff_iff.mpr (by
          rw [row_bit hv h2, row_bit hv h2]
          unfold opQ
          rw [fiK_up]
          exact ⟨fun h => ⟨h.1, h.2, free w 0 y (by omega) h2 (by omega) h.1⟩, fun h => ⟨h.1, h.2.1⟩⟩))
        rw [this]
      · have vle : v ≤ cT S r (k + 1) (upC a k 0) := by rcases hv3 with z | z <;> omega
        have m1 : nS (pcF (mskN (opB S k a k) 12)) 12 * v ≤ 12 * v := Int.mul_le_mul_of_nonneg_right pcb.2 v0
        have m0 : 0 ≤ nS (pcF (mskN (opB S k a k) 12)) 12 * v := Int.mul_nonneg pcb.1 v0
        refine ⟨⟨by omega, by omega⟩, ?_⟩
        refine kk _ N3 ?_ m0 (fun b hb => (c1 b hb).trans (cn b hb)) (fun i hi => (c2 i (by omega)).trans (cl i hi))
        rw [hT]
        exact cOk.mul pcb.1 tb.1 hv3
    all_goals omega
end
