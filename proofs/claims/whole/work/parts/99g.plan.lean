/-! STEP: plan, together. -/
section
variable {G : sG} {S : Nat → Int}
theorem r252 (hv : vTold S) {d : Nat} (hd : 12 ≤ d) : ∀ (r k : Nat) (a : Nat → Nat) (P : Int → sM → sG → Prop), (k : Int) + (r + 1 : Nat) = S 5 → (∀ i, i < k → ((a i : Nat) : Int) < wC S i) → ∀ (m : Int) (N : sM), 0 ≤ m → m ≤ 1000000 → N 93 = S → (∀ i, i < k → N 99 i = wF S i + ((a i : Nat) : Int)) → N 99 k = wF S k - 1 → (m + cT S (r + 1) k a < 1000000 → ∀ N' : sM, (∀ b, b ≠ 99 → b ≠ 100 → N' b = N b) → (∀ i, i < k → N' 99 i = N 99 i) → plF S N N' m (fP S (r + 1) k a) → at33 S d P G (m + cT S (r + 1) k a) ((k : Int) + (-1)) N') → (1000000 ≤ m + cT S (r + 1) k a → ∀ N' : sM, (∀ b, b ≠ 99 → b ≠ 100 → N' b = N b) → plF S N N' m (fP S (r + 1) k a) → P 1000000 N' G) → at33 S d P G m k N := by
  have h5 := hv.1
  intro r
  induction r with
  | zero =>
    intro k a P hk hal m N m0 m1 hS hpre hk2 cont stop
    have kl : (k : Int) < S 5 := by omega
    have vk := wish_v hv kl
    refine r252c hv hd 0 k a P hk hal (fun y m N ho m0 m1 hS hpre hk2 cont stop => ⟨fun _ => ?_, fun z => absurd rfl z⟩) 12 0 m N (by decide) (by omega) m0 m1 hS hpre (by rw [hk2]; omega) cont stop
    have t1 : gT S 0 k a y = 1 := if_pos ho
    have p1 : gP S 0 k a y = some (upC a k y) := if_pos ho
    rw [t1, p1] at cont stop
    have fin : ∀ N' : sM, (∀ b, b ≠ 99 → b ≠ 100 → N' b = N b) → (∀ i, i < k + 1 → N' 99 i = N 99 i) → plF S N N' m (some (upC a k y)) → at33 S d P G (m + 1) k N' := fun N' a1 a2 a3 => by
      by_cases c : m + 1 < 1000000
      · exact cont c N' a1 a2 a3
      · refine ex1M hv (by omega) (by omega) ?_
        rw [show m + 1 = 1000000 by omega]
        exact stop (by omega) N' a1 a3
    by_cases hm : m = 0
    · have loop : sW (sC (d + 1)) 252 (QI P) 131 [vO 12 82, vI (S 5), vI m, vI (k : Int), vI ((0 : Nat) : Int)] [] N G 0 0 := by
        refine sUpTo (W := fun i => ∀ N' : sM, (∀ b, b ≠ 100 → N' b = N b) → (∀ j, j < i → N' 100 j = N 99 j) → sW (sC (d + 1)) 252 (QI P) 131 [vO 12 82, vI (S 5), vI m, vI (k : Int), vI (i : Int)] [] N' G 0 0) (k + 1) ?_ ?_ N (fun _ _ => rfl) (fun j hj => absurd hj (Nat.not_lt_zero j))
        · intro N' b1 b2
          have f := fin N' (fun b r1 r2 => b1 b r2) (fun i _ => by rw [b1 99 (by decide)]) ⟨fun z => by
            rcases z with z | z
            · exact absurd hm z
            · exact absurd z (by simp), fun p _ hp i hi => by
            have : upC a k y = p := Option.some.inj hp
            rw [← this, b2 i (by omega)]
            unfold upC
            by_cases c : i = k
            · rw [if_pos c, c]; exact hk2
            · rw [if_neg c]; exact hpre i (by omega)⟩
          refine (s252_131 ⟨fun q1 => ⟨⟨by omega, by omega⟩, ?_⟩, fun q2 => ⟨fun q3 => ⟨⟨by omega, by omega⟩, ?_⟩, fun q4 => ⟨⟨(by first | omega | assumption | (refine ⟨?_, ?_⟩ <;> omega) | (simp_all; done)), (by first | omega | assumption | (refine ⟨?_, ?_⟩ <;> omega) | (simp_all; done))⟩, ⟨by omega, by omega⟩, ?_⟩⟩⟩)
          · exact f
          · exact f
          all_goals omega
        · intro i hi ih N' b1 b2
          refine (s252_131 ⟨fun q1 => ⟨⟨by omega, by omega⟩, ?_⟩, fun q2 => ⟨fun q3 => ⟨⟨by omega, by omega⟩, ?_⟩, fun q4 => ⟨⟨(by first | omega | assumption | (refine ⟨?_, ?_⟩ <;> omega) | (simp_all; done)), (by first | omega | assumption | (refine ⟨?_, ?_⟩ <;> omega) | (simp_all; done))⟩, ⟨by omega, by omega⟩, ?_⟩⟩⟩)
          · omega
          · omega
          · refine ih _ (fun b hb => (sUpd_ne hb).trans (b1 b hb)) (fun j hj => ?_)
            by_cases c : j = i
            · rw [c]
              refine (sUpd_eq (i := i)).trans ?_
              rw [b1 99 (by decide)]; rfl
            · exact (sUpd_ni (show j ≠ i from c)).trans (b2 j (by omega))
          all_goals omega
      exact loop
    · have f := fin N (fun _ _ _ => rfl) (fun _ _ => rfl) (plF.same hm rfl _)
      refine (s252_131 ⟨fun q1 => ⟨⟨by omega, by omega⟩, ?_⟩, fun q2 => ⟨fun q3 => ⟨⟨by omega, by omega⟩, ?_⟩, fun q4 => ⟨⟨(by first | omega | assumption | (refine ⟨?_, ?_⟩ <;> omega) | (simp_all; done)), (by first | omega | assumption | (refine ⟨?_, ?_⟩ <;> omega) | (simp_all; done))⟩, ⟨by omega, by omega⟩, ?_⟩⟩⟩)
      · exact f
      · exact f
      · omega
      all_goals omega
  | succ r ihr =>
    intro k a P hk hal m N m0 m1 hS hpre hk2 cont stop
    have kl : (k : Int) < S 5 := by omega
    have vk := wish_v hv kl
    refine r252c hv hd (r + 1) k a P hk hal (fun y m N ho m0 m1 hS hpre hk2 cont stop => ⟨fun z => absurd z (by omega), fun _ => ?_⟩) 12 0 m N (by decide) (by omega) m0 m1 hS hpre (by rw [hk2]; omega) cont stop
    have t1 : gT S (r + 1) k a y = cT S (r + 1) (k + 1) (upC a k y) := if_pos ho
    have p1 : gP S (r + 1) k a y = fP S (r + 1) (k + 1) (upC a k y) := if_pos ho
    rw [t1, p1] at cont stop
    have hy := (opB_i.mp ho).1
    have e1 : ((k : Int) + 1).toNat = k + 1 := by omega
    rw [e1, show (k : Int) + 1 = ((k + 1 : Nat) : Int) by omega]
    refine ihr (k + 1) (upC a k y) P (by omega) (fun i hi => ?_) m _ m0 (by omega) ((sUpd_ne (by decide)).trans hS) (fun i hi => ?_) sUpd_eq (fun hlt N' b1 b2 b3 => ?_) (fun hge N' b1 b3 => ?_)
    · unfold upC
      by_cases c : i = k
      · rw [if_pos c, c]; exact hy
      · rw [if_neg c]; exact hal i (by omega)
    · refine (sUpd_ni (by omega)).trans ?_
      unfold upC
      by_cases c : i = k
      · rw [if_pos c, c]; exact hk2
      · rw [if_neg c]; exact hpre i (by omega)
    · rw [show ((k + 1 : Nat) : Int) + (-1) = (k : Int) by omega]
      exact cont hlt N' (fun b r1 r2 => (b1 b r1 r2).trans (sUpd_ne r1)) (fun i hi => (b2 i hi).trans (sUpd_ni (by omega))) ⟨fun z i hi => (b3.1 z i hi).trans (by rw [sUpd_ne (by decide)]), b3.2⟩
    · exact stop hge N' (fun b r1 r2 => (b1 b r1 r2).trans (sUpd_ne r1)) ⟨fun z i hi => (b3.1 z i hi).trans (by rw [sUpd_ne (by decide)]), b3.2⟩
theorem c252 {d : Nat} {M : sM} {P : Int → sM → sG → Prop} (hv : vTold S) (hS : M 93 = S) (hd : 30 ≤ d) (kk : ∀ (N : sM), (∀ b, b ≠ 99 → b ≠ 100 → N b = M b) → (∀ p, fP S (S 5).toNat 0 (fun _ => 0) = some p → ∀ i : Nat, (i : Int) < S 5 → N 100 i = wF S i + ((p i : Nat) : Int)) → P (if cT S (S 5).toNat 0 (fun _ => 0) < 1000000 then cT S (S 5).toNat 0 (fun _ => 0) else 1000000) N G) : sC d 252 [vO 12 82] M G (QI P) := by
  have h5 := hv.1
  obtain ⟨d, rfl⟩ := sD 15 (d := d) (by omega)
  have e5 : M 93 5 = S 5 := by rw [hS]
  by_cases z : S 5 = 0
  · have k0 := kk M (fun _ _ _ => rfl) (fun p _ i hi => by omega)
    rw [z] at k0
    have e1 : cT S (0 : Int).toNat 0 (fun _ => 0) = 1 := rfl
    rw [e1, if_pos (by decide)] at k0
    refine e252 (s252_0 ⟨fun q1 => ⟨⟨by omega, by omega⟩, ?_⟩, fun q2 => ?_⟩)
    · omega
    · exact k0
  · obtain ⟨r, hr⟩ : ∃ r : Nat, (S 5).toNat = r + 1 := ⟨(S 5).toNat - 1, by omega⟩
    rw [hr] at kk
    have v0 := wish_v hv (w := 0) (by omega)
    have wc0 : wC S 0 = wT S 0 - wF S 0 - wD S 0 + 1 := rfl
    have e198 : M 93 198 = wF S 0 := by rw [hS]; rfl
    have tb := (cT_b (S := S) (r + 1) 0 (fun _ => 0)).1
    have main := r252 (G := G) hv (d := d + 13) (by omega) r 0 (fun _ => 0) P (by omega) (fun i hi => absurd hi (Nat.not_lt_zero i)) 0 (sUpd M 99 0 (wF S 0 - 1)) (Int.le_refl 0) (by decide) ((sUpd_ne (by decide)).trans hS) (fun i hi => absurd hi (Nat.not_lt_zero i)) sUpd_eq (fun hlt N' b1 _ b3 => by
      rw [Int.zero_add] at hlt ⊢
      have k1 := kk N' (fun b r1 r2 => (b1 b r1 r2).trans (sUpd_ne r1)) (fun p hp i hi => b3.2 p rfl hp i hi)
      rw [if_pos hlt] at k1
      unfold at33
      refine (s252_33 ⟨fun q1 => ?_, fun q2 => ⟨fun q3 => ?_, fun q4 => ⟨⟨(by first | omega | assumption | (refine ⟨?_, ?_⟩ <;> omega) | (simp_all; done)), (by first | omega | assumption | (refine ⟨?_, ?_⟩ <;> omega) | (simp_all; done))⟩, ⟨by omega, by omega⟩, ⟨by omega, by omega⟩, ⟨by omega, by omega⟩, ⟨by omega, by omega⟩, ⟨(by first | omega | assumption | (refine ⟨?_, ?_⟩ <;> omega) | (simp_all; done)), (by first | omega | assumption | (refine ⟨?_, ?_⟩ <;> omega) | (simp_all; done))⟩, ⟨by omega, by omega⟩, ⟨by omega, by omega⟩, ⟨(by first | omega | assumption | (refine ⟨?_, ?_⟩ <;> omega) | (simp_all; done)), (by first | omega | assumption | (refine ⟨?_, ?_⟩ <;> omega) | (simp_all; done))⟩, fun q5 => ?_, fun q10 => ⟨⟨by omega, by omega⟩, ?_⟩⟩⟩⟩)
      · exact k1
      all_goals omega) (fun hge N' b1 b3 => by
      rw [Int.zero_add] at hge
      have k1 := kk N' (fun b r1 r2 => (b1 b r1 r2).trans (sUpd_ne r1)) (fun p hp i hi => b3.2 p rfl hp i hi)
      rw [if_neg (by omega)] at k1
      exact k1)
    have main2 : sW (sC (d + 14)) 252 (QI P) 33 [vO 12 82, vI (S 5), vI 0, vI 0, vN] [] (sUpd M 99 0 (wF S 0 - 1)) G 0 0 := main
    refine e252 (s252_0 ⟨fun q1 => ⟨⟨by omega, by omega⟩, ?_⟩, fun q2 => ?_⟩)
    all_goals try omega
    rw [e5, e198]
    exact main2
theorem fP_in : ∀ (r k : Nat) (a p : Nat → Nat), fP S r k a = some p → (∀ i, i < k → p i = a i) ∧ ∀ i, k ≤ i → i < k + r → ((p i : Nat) : Int) < wC S i
  | 0, k, a, p, h => by
    have : a = p := Option.some.inj h
    rw [this]
    exact ⟨fun _ _ => rfl, fun i h1 h2 => by omega⟩
  | r + 1, k, a, p, h => by
    obtain ⟨y, y1, y2, y3⟩ := fF_some' h
    have hy : (if opB S k a k y = true then fP S r (k + 1) (upC a k y) else none) = some p := y3
    by_cases c : opB S k a k y = true
    · rw [if_pos c] at hy
      obtain ⟨h1, h2⟩ := fP_in r (k + 1) (upC a k y) p hy
      refine ⟨fun i hi => ?_, fun i g1 g2 => ?_⟩
      · rw [h1 i (by omega)]
        unfold upC
        rw [if_neg (by omega)]
      · by_cases e : i = k
        · rw [e, h1 k (by omega)]
          unfold upC
          rw [if_pos rfl]
          exact (opB_i.mp c).1
        · exact h2 i (by omega) (by omega)
    · rw [if_neg c] at hy
      exact absurd hy (by simp)
end
theorem L122 (t x1 : Int) : Step t 122 251 [vI x1] := by
  intro d M G hd hI
  obtain ⟨hv, hlt, ht, hvo, hto, t0⟩ := hI.t
  have h5 := hvo.1
  have e1 : M 29 1 = M 93 5 := hto.1.1
  have fin : ∀ N : sM, (∀ a, ¬ (69 ≤ a ∧ a ≤ 75) → a ≠ 99 → a ≠ 100 → N a = M a) → Inv (t + 1) N G := fun N h => hI.same ⟨fun a _ ha => h a (by omega) (by omega) (by omega), fun _ => by rw [h 1 (by decide) (by decide) (by decide)], fun _ => by rw [h 3 (by decide) (by decide) (by decide)], fun _ => by rw [h 82 (by decide) (by decide) (by decide)]; exact ⟨rfl, rfl⟩⟩
  obtain ⟨T, hT⟩ : ∃ T, T = cT (M 93) (M 93 5).toNat 0 (fun _ => 0) := ⟨_, rfl⟩
  obtain ⟨F, hF⟩ : ∃ F, F = fP (M 93) (M 93 5).toNat 0 (fun _ => 0) := ⟨_, rfl⟩
  have tp := fP_cT (S := M 93) (M 93 5).toNat 0 (fun _ => 0)
  have tb := (cT_b (S := M 93) (M 93 5).toNat 0 (fun _ => 0))
  have pk := p12k (r := (M 93 5).toNat) (by omega)
  rw [← hT, ← hF] at tp
  rw [← hT] at tb
  have ref : ∀ (N : sM) (r : Int), (∀ a, ¬ (69 ≤ a ∧ a ≤ 75) → N a = M a) → (¬ (0 ≤ x1 ∧ x1 ≤ 6 ∧ (x1 = 6 ∨ x1 < M 93 5)) → r = -1) → (0 ≤ x1 → x1 < 6 → x1 < M 93 5 → (F = none → r = -2) ∧ ∀ p, F = some p → r = wF (M 93) x1.toNat + ((p x1.toNat : Nat) : Int)) → (x1 = 6 → r = if T < 1000000 then T else 1000000) → sC d 251 [vO 12 82, vI x1] N G (QI (LPost t r)) := fun N r n1 r0 rp rc => by
    obtain ⟨d, rfl⟩ := sD 40 (d := d) (by omega)
    have e93 : N 93 = M 93 := n1 93 (by decide)
    have e5 : N 93 5 = M 93 5 := by rw [e93]
    have bad : ¬ (0 ≤ x1 ∧ x1 ≤ 6 ∧ (x1 = 6 ∨ x1 < M 93 5)) → LPost t r (-1) N G := fun z => ⟨(r0 z).symm, fin N (fun a z1 _ _ => n1 a z1)⟩
    have fin2 : ∀ N2 : sM, (∀ b, b ≠ 99 → b ≠ 100 → N2 b = N b) → Inv (t + 1) N2 G := fun N2 h => fin N2 (fun a z1 z2 z3 => (h a z2 z3).trans (n1 a z1))
    refine e251 (s251_0 ⟨fun q1 => ?_, fun q2 => ⟨fun q3 => ?_, fun q4 => ⟨fun q5 => ?_, fun q10 => ⟨fun q11 => ?_, fun q16 => ?_⟩⟩⟩⟩)
    · exact bad (by omega)
    · exact bad (by omega)
    · refine c252 (S := M 93) hvo e93 (by omega) (fun N2 m1 m2 => ?_)
      rw [← hT]
      refine ⟨fun q6 => ⟨fun q7 => ⟨⟨(by first | omega | assumption | (refine ⟨?_, ?_⟩ <;> omega) | (simp_all; done)), (by first | omega | assumption | (refine ⟨?_, ?_⟩ <;> omega) | (simp_all; done))⟩, ?_⟩, fun q8 => ?_⟩, fun q9 => ?_⟩
      · omega
      · omega
      · exact ⟨(rc (by omega)).symm, fin2 N2 m1⟩
    · refine c252 (S := M 93) hvo e93 (by omega) (fun N2 m1 m2 => ?_)
      rw [← hT]
      rw [← hF] at m2
      have rp' := rp q2 q10 (by omega)
      refine ⟨fun q12 => ⟨fun q13 => ⟨⟨(by first | omega | assumption | (refine ⟨?_, ?_⟩ <;> omega) | (simp_all; done)), (by first | omega | assumption | (refine ⟨?_, ?_⟩ <;> omega) | (simp_all; done))⟩, ?_⟩, fun q14 => ?_⟩, fun q15 => ?_⟩
      · cases hf : F with
        | none =>
          have := tp.1 hf
          rw [if_pos (by omega)] at q13
          exact absurd this q13
        | some p =>
          refine ⟨?_, fin2 N2 m1⟩
          rw [m2 p hf x1.toNat (by omega)]
          exact (rp'.2 p hf).symm
      · cases hf : F with
        | none => exact ⟨(rp'.1 hf).symm, fin2 N2 m1⟩
        | some p =>
          have := tp.2 p hf
          by_cases c : T < 1000000
          · rw [if_pos c] at q14; omega
          · rw [if_neg c] at q14; omega
      · omega
    · exact bad (by omega)
  obtain ⟨d, rfl⟩ := sD 60 (d := d) (by omega)
  have toN : ∀ N : sM, (∀ a, ¬ (69 ≤ a ∧ a ≤ 74) → N a = M a) → TO 29 N (M 93) := fun N h => hto.congr (fun a _ _ => h a (by omega))
  refine e122 (s122_0 ⟨fun q1 => ?_, fun q2 => ⟨fun q3 => ?_, fun q4 => ⟨fun q5 => ?_, fun q12 => ⟨fun q13 => ?_, fun q20 => ?_⟩⟩⟩⟩)
  · exact ref M _ (fun _ _ => rfl) (fun _ => rfl) (fun z => by omega) (fun z => by omega)
  · exact ref M _ (fun _ _ => rfl) (fun _ => rfl) (fun z => by omega) (fun z => by omega)
  · refine c123 (S := M 93) (by omega) hvo hto (fun N n1 n2 n3 n4 => ?_)
    refine ⟨fun q6 => ?_, fun q11 => ?_⟩
    · omega
    · refine e127 (s127_0 (?_))
      refine c128 (S := M 93) hvo (M 93 5).toNat _ N 0 (fun _ => 0) _ (by omega) (by omega) n2.1 n3 n4 (row_0 hvo n2 _) (fun v N2 hv2 v0 b1 _ => ?_)
      rw [← hT] at hv2
      refine ?_
      have ev : (if v < 1000000 then v else 1000000) = if T < 1000000 then T else 1000000 := by
        rcases hv2 with z | z
        · rw [z]
        · rw [if_neg (by omega), if_neg (by omega)]
      rw [ev]
      exact ref N2 _ (fun a ha => (b1 a (by omega)).trans (n1 a (by omega))) (fun z => absurd (by omega) z) (fun _ z => by omega) (fun _ => rfl)
  · refine c123 (S := M 93) (by omega) hvo hto (fun N n1 n2 n3 n4 => ?_)
    have e69 := n2.1
    refine ⟨fun q14 => ?_, fun q19 => ?_⟩
    · refine c133 (S := M 93) hvo (M 93 5).toNat _ N 0 (fun _ => 0) _ (by omega) (by omega) n2.1 n3 (row_0 hvo n2 _) (fun i hi => absurd hi (Nat.not_lt_zero i)) (fun p N2 hp b1 b2 => ?_) (fun N2 hp b1 _ _ => ?_)
      · rw [← hF] at hp
        have e69b : N2 69 0 = M 93 5 := by rw [b1 69 (by decide) (by decide)]; exact e69
        have e70 : N2 70 x1.toNat = wF (M 93) x1.toNat := by rw [b1 70 (by decide) (by decide)]; exact (n2.2 x1.toNat (by omega)).1
        have e75 : N2 75 x1.toNat = ((p x1.toNat : Nat) : Int) := b2 x1.toNat (by omega)
        have pin := (fP_in _ _ _ _ (hF.symm.trans hp)).2 x1.toNat (Nat.zero_le _) (by omega)
        have vx := wish_v hvo (show ((x1.toNat : Nat) : Int) < M 93 5 by omega)
        have wcx : wC (M 93) x1.toNat = wT (M 93) x1.toNat - wF (M 93) x1.toNat - wD (M 93) x1.toNat + 1 := rfl
        refine ⟨(by first | omega | assumption | (refine ⟨?_, ?_⟩ <;> omega) | (simp_all; done)), fun q15 => ?_, fun q16 => ⟨fun q17 => ?_, fun q18 => ⟨⟨(by first | omega | assumption | (refine ⟨?_, ?_⟩ <;> omega) | (simp_all; done)), (by first | omega | assumption | (refine ⟨?_, ?_⟩ <;> omega) | (simp_all; done))⟩, ⟨by omega, by omega⟩, ?_⟩⟩⟩
        · omega
        · omega
        · rw [e70, e75]
          exact ref N2 _ (fun a ha => (b1 a (by omega) (by omega)).trans (n1 a (by omega))) (fun z => absurd (by omega) z) (fun _ _ _ => ⟨fun z => by rw [hp] at z; exact absurd z (by simp), fun p' hp2 => by
            rw [hp] at hp2
            have : p = p' := Option.some.inj hp2
            rw [this]⟩) (fun z => by omega)
        all_goals omega
      · rw [← hF] at hp
        refine ⟨(by first | omega | assumption | (refine ⟨?_, ?_⟩ <;> omega) | (simp_all; done)), fun q15 => ?_, fun q16 => ⟨fun q17 => ?_, fun q18 => ⟨⟨(by first | omega | assumption | (refine ⟨?_, ?_⟩ <;> omega) | (simp_all; done)), (by first | omega | assumption | (refine ⟨?_, ?_⟩ <;> omega) | (simp_all; done))⟩, ⟨by omega, by omega⟩, ?_⟩⟩⟩
        · exact ref N2 _ (fun a ha => (b1 a (by omega) (by omega)).trans (n1 a (by omega))) (fun z => absurd (by omega) z) (fun _ _ _ => ⟨fun _ => rfl, fun p hp2 => by rw [hp] at hp2; exact absurd hp2 (by simp)⟩) (fun z => by omega)
        all_goals omega
    · omega
  · rw [e1] at q20
    exact ref M _ (fun _ _ => rfl) (fun _ => rfl) (fun z => by omega) (fun z => by omega)
