/-! STEP: evenings. -/
def drV (v : Int) : Nat → Int
  | 0 => v
  | i + 1 => nxV (drV v i)
def drT (v : Int) (S : Nat → Int) (s : Nat) : Int := if tO S s 3 + drI (drV v (s + 1)) < 95 then tO S s 3 + drI (drV v (s + 1)) else 95
def drS (v : Int) (S : Nat → Int) : Nat → (Nat → Int)
  | 0 => S
  | i + 1 => uS (drS v S i) ((28 + (6 * (i : Int))) + 3).toNat (drT v S i)
theorem drV_b {v : Int} (h0 : 0 ≤ v) (h1 : v < 2147483648) : ∀ i, 0 ≤ drV v i ∧ drV v i < 2147483648
  | 0 => ⟨h0, h1⟩
  | _ + 1 => nxV_b _
theorem drI_b (v : Int) : 0 ≤ drI v ∧ drI v < 4 := by unfold drI; omega
theorem drS_out {v : Int} {S : Nat → Int} : ∀ {k j : Nat}, k ≤ 18 → (j < 28 ∨ 136 ≤ j) → drS v S k j = S j
  | 0, _, _, _ => rfl
  | k + 1, j, hk, hj => (uS_ne (by omega)).trans (drS_out (k := k) (by omega) hj)
theorem drS_t {v : Int} {S : Nat → Int} {s w : Int} (s0 : 0 ≤ s) (s1 : s < 18) (w0 : 0 ≤ w) (w1 : w < 6) : ∀ {k : Nat}, k ≤ 18 → tO (drS v S k) s w = if w = 3 ∧ s < (k : Int) then drT v S s.toNat else tO S s w
  | 0, _ => (if_neg (fun z => by have := z.2; omega)).symm
  | k + 1, hk => by
    show uS (drS v S k) ((28 + (6 * (k : Int))) + 3).toNat (drT v S k) ((28 + (6 * s)) + w).toNat = _
    by_cases c : w = 3 ∧ s = (k : Int)
    · rw [uS_eq (by rw [c.1, c.2]), if_pos ⟨c.1, by omega⟩, c.2]; rfl
    · rw [uS_ne (by omega)]
      have := drS_t (v := v) (S := S) s0 s1 w0 w1 (k := k) (by omega)
      refine (show drS v S k ((28 + (6 * s)) + w).toNat = tO (drS v S k) s w from rfl).trans (this.trans ?_)
      by_cases c2 : w = 3 ∧ s < (k : Int)
      · rw [if_pos c2, if_pos ⟨c2.1, by omega⟩]
      · rw [if_neg c2, if_neg (by omega)]
theorem drS_v {B v : Int} {S : Nat → Int} (hv : vTown B S) {k : Nat} (hk : k ≤ 18) : vTown B (drS v S k) := by
  obtain ⟨⟨a0, a1, a2, a3, a4⟩, g2, g3, g4, g5⟩ := hv
  have o : ∀ j, (j < 28 ∨ 136 ≤ j) → drS v S k j = S j := fun j hj => drS_out hk hj
  have eh : ∀ h w : Int, 0 ≤ h → h < 6 → 0 ≤ w → w < 3 → hO (drS v S k) h w = hO S h w := fun h w _ _ _ _ => o _ (by omega)
  have ep : ∀ h w : Int, 0 ≤ h → 0 ≤ w → pO (drS v S k) h w = pO S h w := fun h w _ _ => o _ (by omega)
  have ei : ∀ h, inN (drS v S k) h = inN S h := fun h => nS_congr (fun i hi => by
    show (if pO (drS v S k) (i : Int) 0 = h then (1 : Int) else 0) = _
    rw [ep i 0 (by omega) (by decide)]; rfl)
  refine ⟨⟨by rw [o 0 (by omega)]; exact a0, by rw [o 1 (by omega)]; exact a1, by rw [o 2 (by omega)]; exact a2, by rw [o 3 (by omega)]; exact a3, by rw [o 4 (by omega)]; exact a4⟩, fun h h0 h1 => ?_, fun s s0 s1 => ?_, fun p p0 p1 => ?_, fun h h0 h1 => ?_⟩
  · rw [o 0 (by omega)] at h1
    rw [eh h 0 h0 (by omega) (by decide) (by decide), eh h 1 h0 (by omega) (by decide) (by decide), eh h 2 h0 (by omega) (by decide) (by decide)]; exact g2 h h0 h1
  · rw [o 1 (by omega)] at s1
    have h := g3 s s0 s1
    have d := drI_b (drV v (s.toNat + 1))
    have e3 : tO S ((s.toNat : Nat) : Int) 3 = tO S s 3 := by rw [← z_nat s0]
    rw [drS_t s0 (by omega) (by decide) (by decide) hk, drS_t s0 (by omega) (by decide) (by decide) hk, drS_t s0 (by omega) (by decide) (by decide) hk, drS_t s0 (by omega) (by decide) (by decide) hk, drS_t s0 (by omega) (by decide) (by decide) hk, drS_t s0 (by omega) (by decide) (by decide) hk, o 0 (by omega), if_neg (c := (0 : Int) = 3 ∧ s < (k : Int)) (by omega), if_neg (c := (1 : Int) = 3 ∧ s < (k : Int)) (by omega), if_neg (c := (2 : Int) = 3 ∧ s < (k : Int)) (by omega), if_neg (c := (4 : Int) = 3 ∧ s < (k : Int)) (by omega), if_neg (c := (5 : Int) = 3 ∧ s < (k : Int)) (by omega)]
    refine ⟨h.1, h.2.1, h.2.2.1, ?_, ?_, h.2.2.2.2.2⟩
    · split
      · unfold drT; rw [e3]; split <;> omega
      · omega
    · split
      · unfold drT; rw [e3]; split <;> omega
      · omega
  · rw [ep p 0 p0 (by decide), ep p 1 p0 (by decide), ep p 2 p0 (by decide), ep p 3 p0 (by decide), ep p 4 p0 (by decide), o 0 (by omega), o 1 (by omega), o 4 (by omega)]
    exact g4 p p0 p1
  · rw [o 0 (by omega)] at h1
    rw [ei, eh h 1 h0 (by omega) (by decide) (by decide)]; exact g5 h h0 h1
theorem drS_TR {b : Nat} {B v : Int} {M M' : sM} {S : Nat → Int} (hv : vTown B S) (ht : TR b M S) (m : ∀ a, a ≠ b + 9 → M' a = M a) (m9 : ∀ s : Nat, (s : Int) < S 1 → M' (b + 9) s = drT v S s) : TR b M' (drS v S (S 1).toNat) := by
  obtain ⟨⟨a0, a1, a2, a3, a4⟩, -⟩ := hv
  have hk : (S 1).toNat ≤ 18 := by omega
  have o : ∀ j, (j < 28 ∨ 136 ≤ j) → drS v S (S 1).toNat j = S j := fun j hj => drS_out hk hj
  have eh : ∀ h w : Int, 0 ≤ h → h < 6 → 0 ≤ w → w < 3 → hO (drS v S (S 1).toNat) h w = hO S h w := fun h w _ _ _ _ => o _ (by omega)
  have ep : ∀ h w : Int, 0 ≤ h → 0 ≤ w → pO (drS v S (S 1).toNat) h w = pO S h w := fun h w _ _ => o _ (by omega)
  have ei : ∀ h, inN (drS v S (S 1).toNat) h = inN S h := fun h => nS_congr (fun i hi => by
    show (if pO (drS v S (S 1).toNat) (i : Int) 0 = h then (1 : Int) else 0) = _
    rw [ep i 0 (by omega) (by decide)]; rfl)
  obtain ⟨⟨l0, l1, l2, l3⟩, h2, h3, h4, h5⟩ := ht
  refine ⟨⟨by rw [m b (by omega), o 0 (by omega)]; exact l0, by rw [m b (by omega), o 1 (by omega)]; exact l1, by rw [m b (by omega), o 2 (by omega)]; exact l2, by rw [m b (by omega), o 3 (by omega)]; exact l3⟩, fun h h0 h1 => ?_, fun s s0 s1 => ?_, fun p p0 p1 => ?_, fun h h0 h1 => ?_⟩
  · rw [o 0 (by omega)] at h1
    rw [m (b + 1) (by omega), m (b + 2) (by omega), m (b + 3) (by omega), m (b + 4) (by omega), eh h 0 h0 (by omega) (by decide) (by decide), eh h 1 h0 (by omega) (by decide) (by decide), eh h 2 h0 (by omega) (by decide) (by decide), ei]; exact h2 h h0 h1
  · rw [o 1 (by omega)] at s1
    have z := h3 s s0 s1
    have z9 := m9 s.toNat (by omega)
    rw [drS_t s0 (by omega) (by decide) (by decide) hk, drS_t s0 (by omega) (by decide) (by decide) hk, drS_t s0 (by omega) (by decide) (by decide) hk, drS_t s0 (by omega) (by decide) (by decide) hk, drS_t s0 (by omega) (by decide) (by decide) hk, drS_t s0 (by omega) (by decide) (by decide) hk, if_neg (c := (0 : Int) = 3 ∧ s < ((S 1).toNat : Int)) (by omega), if_neg (c := (1 : Int) = 3 ∧ s < ((S 1).toNat : Int)) (by omega), if_neg (c := (2 : Int) = 3 ∧ s < ((S 1).toNat : Int)) (by omega), if_neg (c := (4 : Int) = 3 ∧ s < ((S 1).toNat : Int)) (by omega), if_neg (c := (5 : Int) = 3 ∧ s < ((S 1).toNat : Int)) (by omega), if_pos (c := (3 : Int) = 3 ∧ s < ((S 1).toNat : Int)) (by omega), m (b + 6) (by omega), m (b + 7) (by omega), m (b + 8) (by omega), m (b + 10) (by omega), m (b + 11) (by omega)]
    exact ⟨z.1, z.2.1, z.2.2.1, z9, z.2.2.2.2⟩
  · rw [ep p 0 p0 (by decide), ep p 1 p0 (by decide), ep p 3 p0 (by decide), m (b + 12) (by omega), m (b + 13) (by omega), m (b + 14) (by omega)]
    exact h4 p p0 p1
  · rw [o 0 (by omega)] at h1
    have hr := h5 h h0 h1
    have er : rW b M' = rW b M := by funext h i; unfold rW; rw [m (b + 5) (by omega)]
    refine ⟨fun g => ?_, fun i j i0 ij j1 => ?_⟩
    · rw [er, ei, ← hr.1 g]
      exact nS_congr (fun q hq => by rw [ep q 0 (by omega) (by decide)])
    · rw [ei] at j1
      obtain ⟨b1, b2, -⟩ := hr.mem i0 (by omega)
      obtain ⟨b3, b4, -⟩ := hr.mem (i := j) (by omega) j1
      rw [er, ep _ 2 b1 (by decide), ep _ 2 b3 (by decide)]
      exact hr.2 i j i0 ij j1
section
variable {d : Nat} {P : Int → sM → sG → Prop} {PV : sM → sG → Prop} {M : sM} {G : sG}
theorem c95 {B v : Int} {S : Nat → Int} (hd : 5 ≤ d) (hv : vTown B S) (ht : TR 42 M S) (v0 : 0 ≤ v) (v1 : v < 2147483648) (kk : ∀ M', (∀ a, a ≠ 51 → M' a = M a) → TR 42 M' (drS v S (S 1).toNat) → P (drV v (S 1).toNat) M' G) : sC d 95 [vO 10 42, vI v] M G (QI P) := by
  obtain ⟨d, rfl⟩ := sD 2 (d := d) (by omega)
  have hs := hv.1.2.1
  have b6 := ht.1.2.1
  refine e95 (s95_0 ?_)
  refine sUpTo (W := fun i => ∀ N : sM, (∀ a, a ≠ 51 → N a = M a) → (∀ j : Nat, N 51 j = if j < i then drT v S j else M 51 j) → sW (sC (d + 1)) 95 (QI P) 4 [vO 10 42, vN, vI (drV v i), vI (i : Int)] [] N G 0 0) (S 1).toNat ?_ ?_ M (fun _ _ => rfl) (fun j => (if_neg (Nat.not_lt_zero _)).symm)
  · intro N h1 h2
    have e6 : N 42 6 = S 1 := by rw [h1 42 (by decide)]; exact b6
    refine (s95_4 ⟨fun q1 => ?_, fun q2 => ⟨⟨(by first | omega | assumption | (refine ⟨?_, ?_⟩ <;> omega) | (simp_all; done)), (by first | omega | assumption | (refine ⟨?_, ?_⟩ <;> omega) | (simp_all; done))⟩, ⟨by omega, by omega⟩, ⟨by omega, by omega⟩, ?_⟩⟩)
    · exact kk N h1 (drS_TR hv ht h1 (fun s hs => (h2 s).trans (if_pos (by omega))))
    · omega
  · intro i hi ih N h1 h2
    have e6 : N 42 6 = S 1 := by rw [h1 42 (by decide)]; exact b6
    have vb := drV_b v0 v1 i
    have e1 := dr_c vb.1 vb.2
    have e2 := dr_ci (drV v i)
    rw [← e1] at e2
    have db := drI_b (drV v (i + 1))
    have e3 : drI (jInt (jAnd (jWrap ((jWrap (drV v i * 1103515245)) + 12345)) 2147483647)) = drI (drV v (i + 1)) := by rw [e1]; rfl
    have e9 : N 51 ((i : Int)).toNat = tO S i 3 := by
      have := (ht.2.2.1 i (by omega) (by omega)).2.2.2.1
      exact ((h2 i).trans (if_neg (Nat.lt_irrefl i))).trans this
    have hg := hv.2.2.1 i (by omega) (by omega)
    refine (s95_4 ⟨fun q1 => ?_, fun q2 => ⟨⟨(by first | omega | assumption | (refine ⟨?_, ?_⟩ <;> omega) | (simp_all; done)), (by first | omega | assumption | (refine ⟨?_, ?_⟩ <;> omega) | (simp_all; done))⟩, ⟨by omega, by omega⟩, ⟨by omega, by omega⟩, ?_⟩⟩)
    · omega
    · rw [e2, e3, e9, e1]
      refine ih _ (fun a ha => (sUpd_ne ha).trans (h1 a ha)) (fun j => ?_)
      rw [sUpd_at]
      by_cases c : j = ((i : Int)).toNat
      · rw [if_pos c, if_pos (c := j < i + 1) (by omega), c]; rfl
      · rw [if_neg c, h2 j]
        by_cases c2 : j < i
        · rw [if_pos c2, if_pos (by omega)]
        · rw [if_neg c2, if_neg (by omega)]
theorem r275 {B v : Int} {S : Nat → Int} {x1 x2 x3 x6 x7 x8 x9 : Int} (hv : vTown B S) (v0 : 0 ≤ v) (v1 : v < 2147483648) (h93 : M 93 = S) (kk : ∀ N : sM, (∀ a, a ≠ 93 → N a = M a) → N 93 = drS v S (S 1).toNat → sW (sC (d + 1)) 275 (QI P) 69 [vO 12 82, vI x1, vI x2, vI x3, vL (drV v (S 1).toNat), vN, vI x6, vI x7, vI x8, vI x9, vI (((S 1).toNat : Nat) : Int), vN] [] N G 0 0) : sW (sC (d + 1)) 275 (QI P) 69 [vO 12 82, vI x1, vI x2, vI x3, vL v, vN, vI x6, vI x7, vI x8, vI x9, vI 0, vN] [] M G 0 0 := by
  have hs1 := hv.1.2.1
  refine sUpTo (W := fun k => ∀ N : sM, (∀ a, a ≠ 93 → N a = M a) → N 93 = drS v S k → sW (sC (d + 1)) 275 (QI P) 69 [vO 12 82, vI x1, vI x2, vI x3, vL (drV v k), vN, vI x6, vI x7, vI x8, vI x9, vI (k : Int), vN] [] N G 0 0) (S 1).toNat kk ?_ M (fun _ _ => rfl) h93
  intro k hk1 ih2 N n1 n2
  have m1 : N 93 1 = S 1 := by rw [n2]; exact drS_out (by omega) (by omega)
  have vb := drV_b v0 v1 k
  have e1 := dr_r vb.1 vb.2
  have e2 := dr_ri (drV v k)
  rw [← e1] at e2
  have e3 : drI (jRem (jWrap ((jWrap (drV v k * 1103515245)) + 12345)) 2147483648) = drI (drV v (k + 1)) := by rw [e1]; rfl
  have e4 := e2.trans e3
  clear e2 e3
  have db := drI_b (drV v (k + 1))
  have e9 : N 93 ((28 + (6 * (k : Int))) + 3).toNat = tO S k 3 := by
    rw [n2]
    exact (drS_t (v := v) (S := S) (s := k) (w := 3) (by omega) (by omega) (by decide) (by decide) (k := k) (by omega)).trans (if_neg (by omega))
  have hg2 := (hv.2.2.1 k (by omega) (by omega)).2.2
  have nx : ∀ x : Int, x = drT v S k → sW (sC (d + 1)) 275 (QI P) 69 [vO 12 82, vI x1, vI x2, vI x3, vL (nxV (drV v k)), vN, vI x6, vI x7, vI x8, vI x9, vI ((k + 1 : Nat) : Int), vN] [] (sUpd N 93 ((28 + (6 * (k : Int))) + 3).toNat x) G 0 0 := fun x hx => by
    rw [hx]
    refine ih2 _ (fun a ha => (sUpd_ne ha).trans (n1 a ha)) ?_
    rw [upd_setS, setS_93, n2]
    rfl
  have nx1 : tO S k 3 + drI (drV v (k + 1)) ≤ 95 → tO S k 3 + drI (drV v (k + 1)) = drT v S k := fun z => by
    unfold drT
    generalize drI (drV v (k + 1)) = g at *
    split <;> omega
  have nx2 : 95 < tO S k 3 + drI (drV v (k + 1)) → 95 = drT v S k := fun z => by
    unfold drT
    generalize drI (drV v (k + 1)) = g at *
    split <;> omega
  refine s275_69 ?_
  rw [e4, e1, e9]
  generalize drI (drV v (k + 1)) = g at *
  refine ⟨fun q1 => absurd q1 (by omega), fun q4 => ⟨⟨by omega, by omega⟩, ⟨by omega, by omega⟩, ⟨by omega, by omega⟩, ⟨by omega, by omega⟩, ⟨by omega, by omega⟩, fun q5 => ⟨⟨by omega, by omega⟩, ⟨by omega, by omega⟩, nx _ (nx1 q5)⟩, fun q6 => ⟨⟨by omega, by omega⟩, ⟨by omega, by omega⟩, nx _ (nx2 q6)⟩⟩⟩
theorem L94 (t x1 x2 x3 : Int) (ht9 : t ≤ 600) : Step t 94 275 [vI x1, vI x2, vI x3] := by
  intro d M G hd hI
  have hI1 := hI.same (kp.refl [] M)
  obtain ⟨hv, hlt, ht, hvo, hto, t0⟩ := hI.t
  obtain ⟨_, own, N, hN, hN2, hT, hR, _⟩ := id hI
  obtain ⟨r0, r1, e82, hr⟩ := hR
  have b15 : M 29 15 = M 93 9 := hto.1.2.2.2.2
  have b14 := ht.1.2.2.2
  have b9 : 0 ≤ M 93 9 ∧ M 93 9 ≤ 2147483647 := hvo.2.2.2.2.1
  have hs1 := hv.1.2.1
  have hs2 := hv.1.2.2.1
  have hs3 := hv.1.2.2.2.1
  unfold lowLate at hlt
  have ref0 : (x1 < 0 ∨ M 1 11 ≤ x1 ∨ x2 < 1 ∨ 20 < x2 ∨ x3 < 0 ∨ 2 < x3) → sC d 275 [vO 12 82, vI x1, vI x2, vI x3] M G (QI (LPost t (-1))) := fun hno => by
    obtain ⟨d, rfl⟩ := sD 7 (d := d) (by omega)
    have z : sW (sC (d + 6)) 275 (QI (LPost t (-1))) 32 [vN, vN, vN, vN, vN, vN, vN, vN, vN, vN, vN, vN] [] M G 0 0 := s275_32 ⟨rfl, hI1⟩
    refine e275 (s275_0 ⟨fun q1 => ?_, fun q2 => ⟨fun q3 => ?_, fun q4 => ⟨fun q5 => ?_, fun q6 => ⟨fun q7 => ?_, fun q8 => ⟨fun q9 => ?_, fun q10 => ⟨fun q11 => ?_, fun q12 => ?_⟩⟩⟩⟩⟩⟩)
    all_goals try (exact z)
    omega
  by_cases hg : 0 ≤ x1 ∧ x1 < M 1 11 ∧ 1 ≤ x2 ∧ x2 ≤ 20 ∧ 0 ≤ x3 ∧ x3 ≤ 2
  · obtain ⟨g1, g2, n, kd, D, hc, hf⟩ := hr x1 hg.1 hg.2.1
    let sd : Nat → Int := fun j => Nat.rec (motive := fun _ => Int) (M 93 9) (fun _ v => drV v (M 93 1).toNat) j
    have sdb : ∀ j, 0 ≤ sd j ∧ sd j < 2147483648 := fun j => by
      induction j with
      | zero => exact ⟨b9.1, by show M 93 9 < _; omega⟩
      | succ j ih => exact drV_b ih.1 ih.2 _
    let R : Nat → Nat → Int := fun j => drS (sd j) (M 93) (M 93 1).toNat
    have hR : ∀ j, vTown (1200 * t) (R j) := fun j => drS_v hv (by omega)
    have o : ∀ j i, (i < 28 ∨ 136 ≤ i) → R j i = M 93 i := fun j i hi => drS_out (by omega) hi
    let F : Nat → Nat → Int := fun j => quasF D kd n (96 - M 93 2).toNat (R j)
    have hF := fun j => quas_v (D := D) (kd := kd) (n := n) (hR j) (96 - M 93 2).toNat (by rw [o j 3 (by omega)]; omega) (by rw [o j 2 (by omega)]; omega)
    let A : Nat → Int := fun j => F j 3 - M 93 3
    let B : Nat → Int := fun j => nS (fServed (F j)) (F j 1).toNat
    let C : Nat → Int := fun j => if nS (fHouse (F j)) (F j 0).toNat = 0 then 1 else 0
    have bA : ∀ j, 0 ≤ A j ∧ A j ≤ 1200 := fun j => by
      have h := (hF j).2.2.2.2
      have h3 := o j 3 (by omega)
      show 0 ≤ F j 3 - M 93 3 ∧ F j 3 - M 93 3 ≤ 1200
      show 0 ≤ quasF D kd n (96 - M 93 2).toNat (R j) 3 - M 93 3 ∧ quasF D kd n (96 - M 93 2).toNat (R j) 3 - M 93 3 ≤ 1200
      omega
    have bB : ∀ j, 0 ≤ B j ∧ B j ≤ 18 := fun j => served_le (hF j).1
    have bC : ∀ j, 0 ≤ C j ∧ C j ≤ 1 := fun j => by
      show 0 ≤ (if nS (fHouse (F j)) (F j 0).toNat = 0 then (1 : Int) else 0) ∧ (if nS (fHouse (F j)) (F j 0).toNat = 0 then (1 : Int) else 0) ≤ 1
      split <;> decide
    have sA := fun (j : Nat) => nS_ge0 (f := A) (n := j) (fun i _ => (bA i).1)
    have sA' := fun (j : Nat) => nS_le (f := A) (c := 1200) (n := j) (fun i _ => (bA i).2)
    have sB := fun (j : Nat) => nS_ge0 (f := B) (n := j) (fun i _ => (bB i).1)
    have sB' := fun (j : Nat) => nS_le (f := B) (c := 18) (n := j) (fun i _ => (bB i).2)
    have sC1 := fun (j : Nat) => nS_ge0 (f := C) (n := j) (fun i _ => (bC i).1)
    have sC' := fun (j : Nat) => nS_le (f := C) (c := 1) (n := j) (fun i _ => (bC i).2)
    -- the reference
    have ref : ∀ (M1 : sM) (r : Int), tC M M1 → (x3 = 0 → r = nS A x2.toNat) → (x3 = 1 → r = nS B x2.toNat) → (x3 = 2 → r = nS C x2.toNat) → sC d 275 [vO 12 82, vI x1, vI x2, vI x3] M1 G (QI (LPost t r)) := fun M1 r hm k0 k1 k2 => by
      obtain ⟨d, rfl⟩ := sD 7 (d := d) (by omega)
      have e93 : M1 93 = M 93 := hm 93 (by decide) (by decide) (by decide)
      have e82' : M1 82 2 = M 1 11 := by rw [hm 82 (by decide) (by decide) (by decide)]; exact e82
      refine e275 (s275_0 ⟨fun q1 => ?_, fun q2 => ⟨fun q3 => ?_, fun q4 => ⟨fun q5 => ?_, fun q6 => ⟨fun q7 => ?_, fun q8 => ⟨fun q9 => ?_, fun q10 => ⟨fun q11 => ?_, fun q12 => ?_⟩⟩⟩⟩⟩⟩)
      all_goals try omega
      refine c232 (by omega) (fun M2 h2 h94 => ?_)
      refine ?_
      rw [show M2 93 9 = sd 0 by rw [h2 93 (by decide), e93]; rfl]
      refine sUpTo (W := fun i => ∀ M3 : sM, tK M2 M3 → M3 94 = M2 94 → sW (sC (d + 6)) 275 (QI (LPost t r)) 60 [vO 12 82, vI x1, vI x2, vI x3, vL (sd i), vN, vI (nS A i), vI (nS B i), vI (nS C i), vI (i : Int), vN, vN] [] M3 G 0 0) x2.toNat ?_ ?_ M2 (tK.refl _) rfl
      · intro M3 h3 _
        have fin : Inv (t + 1) M3 G := hI.same (hm.kp.trans (tK.kp ⟨fun a a1 a2 a3 a4 => (h3.1 a a1 a2 a3 a4).trans (h2 a a4), fun i hi => (h3.2 i hi).trans (by rw [h2 82 (by decide)])⟩))
        refine (s275_60 ⟨fun q1 => ⟨fun q2 => ⟨fun q3 => ?_, fun q4 => ?_⟩, fun q5 => ?_⟩, fun q6 => ?_⟩)
        · exact ⟨(k2 (by omega)).symm, fin⟩
        · exact ⟨(k1 (by omega)).symm, fin⟩
        · exact ⟨(k0 (by omega)).symm, fin⟩
        · omega
      · intro i hi ih M3 h3 k94
        have f93 : M3 93 = M 93 := ((h3.1 93 (by decide) (by decide) (by decide) (by decide)).trans (h2 93 (by decide))).trans e93
        have hk : ∀ a, a ≠ 91 → a ≠ 92 → a ≠ 82 → a ≠ 94 → a ≠ 93 → (a < 42 ∨ 59 < a) → M3 a = M a := fun a a1 a2 a3 a4 a5 a6 => ((h3.1 a a1 a2 a3 a4).trans (h2 a a4)).trans (hm a (by omega) (by omega) (by omega))
        have cA := sA i
        have cA' := sA' i
        have cB := sB i
        have cB' := sB' i
        have cC := sC1 i
        have cC' := sC' i
        obtain ⟨v1, w0, w1, w2, w3, w4, w5⟩ := hF i
        have hbA := bA i
        have hbB := bB i
        have rb := v1.2.2.1
        have rb1 := v1.1.2.1
        refine (s275_60 ⟨fun q1 => ⟨fun q2 => ⟨fun q3 => ?_, fun q4 => ?_⟩, fun q5 => ?_⟩, fun q6 => ?_⟩)
        all_goals try omega
        refine r275 hv (sdb i).1 (sdb i).2 f93 ?_
        · intro N n1 n2
          have n2' : N 93 = R i := n2
          have m1 : N 93 1 = M 93 1 := by rw [n2']; exact o i 1 (by omega)
          have m2 : N 93 2 = M 93 2 := by rw [n2']; exact o i 2 (by omega)
          have m3 : N 93 3 = M 93 3 := by rw [n2']; exact o i 3 (by omega)
          refine (s275_69 ⟨fun q1 => ⟨⟨by omega, by omega⟩, ?_⟩, fun q4 => ⟨⟨by omega, by omega⟩, ⟨by omega, by omega⟩, ⟨by omega, by omega⟩, ⟨(by first | omega | assumption | (refine ⟨?_, ?_⟩ <;> omega) | (simp_all; done)), (by first | omega | assumption | (refine ⟨?_, ?_⟩ <;> omega) | (simp_all; done))⟩, ⟨by omega, by omega⟩, fun q5 => ⟨⟨(by first | omega | assumption | (refine ⟨?_, ?_⟩ <;> omega) | (simp_all; done)), (by first | omega | assumption | (refine ⟨?_, ?_⟩ <;> omega) | (simp_all; done))⟩, ⟨by omega, by omega⟩, ?_⟩, fun q6 => ⟨⟨(by first | omega | assumption | (refine ⟨?_, ?_⟩ <;> omega) | (simp_all; done)), (by first | omega | assumption | (refine ⟨?_, ?_⟩ <;> omega) | (simp_all; done))⟩, ⟨by omega, by omega⟩, ?_⟩⟩⟩)
          all_goals try omega
          refine c219 (by omega) (hf.congr ((n1 84 (by decide)).trans (hk 84 (by decide) (by decide) (by decide) (by decide) (by decide) (by decide))) ((n1 86 (by decide)).trans (hk 86 (by decide) (by decide) (by decide) (by decide) (by decide) (by decide))) ((n1 87 (by decide)).trans (hk 87 (by decide) (by decide) (by decide) (by decide) (by decide) (by decide)))) (by rw [n2']; exact hR i) (by omega) (by omega) (by omega) (by omega) (fun M4 h4 h44 => ?_)
          rw [n2', o i 2 (by omega)] at h44
          have h44' : M4 93 = F i := h44
          have i1 : M4 93 1 = M 93 1 := by rw [h44']; exact w1.trans (o i 1 (by omega))
          have i3 : M4 93 3 = F i 3 := by rw [h44']
          have j94 : M4 94 3 = M 93 3 := by rw [h4.1 94 (by decide) (by decide) (by decide) (by decide), n1 94 (by decide), k94, h94 3 (by decide), e93]
          have hA : M4 93 3 - M4 94 3 = A i := by rw [i3, j94]
          have hw1 : F i 1 = M 93 1 := w1.trans (o i 1 (by omega))
          rw [hA]
          refine ⟨⟨by omega, by omega⟩, ⟨by omega, by omega⟩, ?_⟩
          refine c234 (by omega) (by omega) (by omega) (fun s s0 s1 => ?_) ?_
          · rw [h44']
            have := (rb s s0 (by show s < F i 1; omega)).2.2.2.2.2.2
            show 0 ≤ tO (quasF D kd n (96 - M 93 2).toNat (R i)) s 5 ∧ tO (quasF D kd n (96 - M 93 2).toNat (R i)) s 5 ≤ 1
            omega
          · have iv : nS (fServed (M4 93)) (M4 93 1).toNat = B i := by rw [h44']
            rw [iv]
            refine ⟨⟨by omega, by omega⟩, ?_⟩
            refine c233 (by omega) ?_
            have ic : nS (fInside (M4 93)) 12 = nS (fHouse (F i)) (F i 0).toNat := by rw [h44']; exact (inside_sum v1).symm
            rw [ic]
            have nxt : ∀ M5 : sM, (∀ a, a ≠ 93 → M5 a = M4 a) → (∀ j : Nat, M5 93 j = if j < 274 then M4 94 j else M4 93 j) → ∀ x : Int, C i = x → sW (sC (d + 6)) 275 (QI (LPost t r)) 60 [vO 12 82, vI x1, vI x2, vI x3, vL (sd (i + 1)), vN, vI (nS A i + A i), vI (nS B i + B i), vI (nS C i + x), vI ((i + 1 : Nat) : Int), vN, vN] [] M5 G 0 0 := fun M5 h5 h55 x hx => by
              have hb := tK.back (M := M3) (M1 := M3) (M2 := M4) (M3 := M5) (fun a ha => rfl) (fun j hj => by rw [k94, h94 j hj, f93, e93]) ⟨fun a a1 a2 a3 a4 => (h4.1 a a1 a2 a3 a4).trans (n1 a a4), fun j hj => (h4.2 j hj).trans (by rw [n1 82 (by decide)])⟩ (fun j hj => by rw [h44', f93]; exact (w5 j (by omega)).trans (o i j (by omega))) h5 h55
              have := ih M5 (h3.trans hb.1) (hb.2.trans k94)
              rw [← hx]
              exact this
            refine ⟨fun q2 => ⟨⟨by omega, by omega⟩, ?_⟩, fun q3 => ⟨⟨by omega, by omega⟩, ?_⟩⟩
            · refine c235 (by omega) (fun M5 h5 h55 => ?_)
              have := nxt M5 h5 h55 0 (if_neg q2)
              refine ⟨⟨by omega, by omega⟩, ?_⟩
              exact this
            · refine c235 (by omega) (fun M5 h5 h55 => ?_)
              have := nxt M5 h5 h55 1 (if_pos q3)
              refine ⟨⟨by omega, by omega⟩, ?_⟩
              exact this
    have cls : ∀ (M1 : sM) (r : Int), tC M M1 → (x3 = 0 → r = nS A x2.toNat) → (x3 = 1 → r = nS B x2.toNat) → (x3 = 2 → r = nS C x2.toNat) → sC d 275 [vO 12 82, vI x1, vI x2, vI x3] M1 G (QI (LPost t r)) := ref
    clear ref ref0
    obtain ⟨d, rfl⟩ := sD 7 (d := d) (by omega)
    refine e94 (s94_0 ⟨fun q1 => ?_, fun q2 => ⟨fun q3 => ?_, fun q4 => ⟨⟨(by first | omega | assumption | (refine ⟨?_, ?_⟩ <;> omega) | (simp_all; done)), (by first | omega | assumption | (refine ⟨?_, ?_⟩ <;> omega) | (simp_all; done))⟩, fun q5 => ?_, fun q6 => ⟨fun q7 => ?_, fun q8 => ⟨fun q9 => ?_, fun q10 => ⟨fun q11 => ?_, fun q12 => ⟨fun q13 => ?_, fun q14 => ?_⟩⟩⟩⟩⟩⟩⟩)
    all_goals try omega
    rw [b15]
    have run : ∀ (acc : Nat → Int), ((x3 = 0 ∧ acc = A) ∨ (x3 = 1 ∧ acc = B) ∨ (x3 = 2 ∧ acc = C)) → sW (sC (d + 6)) 94 (QI fun r M1 G1 => sC (d + 7) 275 [vO 12 82, vI x1, vI x2, vI x3] M1 G1 (QI (LPost t r))) 61 [vO 11 1, vN, vI x2, vI x3, vQ 6 (M 12 x1.toNat).toNat, vO 10 14, vI (M 93 9), vI 0, vI 0] [] M G 0 0 := fun acc hacc => by
      refine sUpTo (W := fun i => ∀ N : sM, tC M N → sW (sC (d + 6)) 94 (QI fun r M1 G1 => sC (d + 7) 275 [vO 12 82, vI x1, vI x2, vI x3] M1 G1 (QI (LPost t r))) 61 [vO 11 1, vN, vI x2, vI x3, vQ 6 (M 12 x1.toNat).toNat, vO 10 14, vI (sd i), vI (nS acc i), vI (i : Int)] [] N G 0 0) x2.toNat ?_ ?_ M (tC.refl _)
      · intro N hN'
        refine (s94_61 ⟨fun q1 => ?_, fun q2 => ?_⟩)
        · refine cls N _ hN' (fun z => ?_) (fun z => ?_) (fun z => ?_)
          · rcases hacc with ⟨_, e⟩ | ⟨z2, e⟩ | ⟨z2, e⟩
            · rw [e]
            · omega
            · omega
          · rcases hacc with ⟨z2, e⟩ | ⟨z2, e⟩ | ⟨z2, e⟩
            · omega
            · rw [e]
            · omega
          · rcases hacc with ⟨z2, e⟩ | ⟨z2, e⟩ | ⟨z2, e⟩
            · omega
            · omega
            · rw [e]
        · omega
      · intro i hi ih N hN'
        obtain ⟨v1, w0, w1, w2, w3, w4, w5⟩ := hF i
        have hv' := hR i
        have bnd : 0 ≤ nS acc i ∧ nS acc i ≤ 1200 * i := by
          have cA := sA i
          have cA' := sA' i
          have cB := sB i
          have cB' := sB' i
          have cC := sC1 i
          have cC' := sC' i
          rcases hacc with ⟨_, e⟩ | ⟨z2, e⟩ | ⟨z2, e⟩ <;> rw [e] <;> omega
        have o2 := o i 2 (by omega)
        have o3 := o i 3 (by omega)
        have hbA := bA i
        have hbB := bB i
        have sb := sdb i
        refine (s94_61 ⟨fun q1 => ?_, fun q2 => ?_⟩)
        · omega
        · refine c34 (by omega) ?_
          have ht0 : TR 14 N (M 93) := ht.congr (fun a a1 a2 => hN' a (by omega) (by omega) (by omega))
          refine ?_
          refine c95 (by omega) hv (TR.copied hv (by decide) ht0) sb.1 sb.2 (fun N1 n1 ht1 => ?_)
          have ht1' : TR 42 N1 (R i) := ht1
          have hn1 : tC M N1 := hN'.trans (fun a a1 a2 a3 => (n1 a (by omega)).trans (cpTown_out (by omega)))
          have i13 : N1 42 13 = M 93 2 := ht1'.1.2.2.1.trans o2
          refine ⟨⟨by omega, by omega⟩, ?_⟩
          rw [i13]
          refine c78 (by omega) (hc.congr (fun k hk => hn1 _ (by omega) (by omega) (by omega))) hv' ht1' (by decide) (by omega) (by omega) (by omega) (by omega) (fun N2 n2 ht2 => ?_)
          have ht2' : TR 42 N2 (F i) := ht2
          have hn2 : tC M N2 := hn1.trans (fun a a1 a2 a3 => n2 a (by omega) a2 a3)
          have ih' := ih N2 hn2
          have j14 : N2 42 14 = F i 3 := ht2'.1.2.2.2
          have j14' : N2 14 14 = M 93 3 := by rw [hn2 14 (by decide) (by decide) (by decide)]; exact b14
          have jA : N2 42 14 - N2 14 14 = A i := by rw [j14, j14']
          have nx : ∀ x : Int, acc i = x → sW (sC (d + 6)) 94 (QI fun r M1 G1 => sC (d + 7) 275 [vO 12 82, vI x1, vI x2, vI x3] M1 G1 (QI (LPost t r))) 61 [vO 11 1, vN, vI x2, vI x3, vQ 6 (M 12 x1.toNat).toNat, vO 10 14, vI (sd (i + 1)), vI (nS acc i + x), vI ((i + 1 : Nat) : Int)] [] N2 G 0 0 := fun x hx => by rw [← nS_st hx]; exact ih'
          rw [jA]
          refine ⟨fun q3 => ⟨fun q4 => ?_, fun q7 => ?_⟩, fun q8 => ⟨⟨by omega, by omega⟩, ⟨by omega, by omega⟩, ⟨by omega, by omega⟩, ?_⟩⟩
          · refine c67 (by omega) v1 ht2' ?_
            have hC : acc = C := by rcases hacc with ⟨z2, e⟩ | ⟨z2, e⟩ | ⟨z2, e⟩ <;> first | omega | exact e
            refine ⟨fun q5 => ⟨⟨by omega, by omega⟩, ?_⟩, fun q6 => ⟨⟨by omega, by omega⟩, ⟨by omega, by omega⟩, ?_⟩⟩
            · have := nx 0 (by rw [hC]; exact if_neg q5); rw [Int.add_zero] at this; exact this
            · exact nx 1 (by rw [hC]; exact if_pos q6)
          · refine c65 (by omega) v1 ht2' ?_
            have hB : acc = B := by rcases hacc with ⟨z2, e⟩ | ⟨z2, e⟩ | ⟨z2, e⟩ <;> first | omega | exact e
            have iv : nS (fServed (F i)) (F i 1).toNat = B i := rfl
            rw [iv]
            refine ⟨⟨by omega, by omega⟩, ⟨by omega, by omega⟩, ?_⟩
            exact nx _ (by rw [hB])
          · have hA : acc = A := by rcases hacc with ⟨z2, e⟩ | ⟨z2, e⟩ | ⟨z2, e⟩ <;> first | omega | exact e
            exact nx _ (by rw [hA])
    by_cases z0 : x3 = 0
    · exact run A (Or.inl ⟨z0, rfl⟩)
    · by_cases z1 : x3 = 1
      · exact run B (Or.inr (Or.inl ⟨z1, rfl⟩))
      · exact run C (Or.inr (Or.inr ⟨by omega, rfl⟩))
  · have r0' := ref0 (by omega)
    obtain ⟨d, rfl⟩ := sD 7 (d := d) (by omega)
    refine e94 (s94_0 ⟨fun q1 => ?_, fun q2 => ⟨fun q3 => ?_, fun q4 => ⟨⟨(by first | omega | assumption | (refine ⟨?_, ?_⟩ <;> omega) | (simp_all; done)), (by first | omega | assumption | (refine ⟨?_, ?_⟩ <;> omega) | (simp_all; done))⟩, fun q5 => ?_, fun q6 => ⟨fun q7 => ?_, fun q8 => ⟨fun q9 => ?_, fun q10 => ⟨fun q11 => ?_, fun q12 => ⟨fun q13 => ?_, fun q14 => ?_⟩⟩⟩⟩⟩⟩⟩)
    all_goals try (exact r0')
    · have := (hr x1 q2 q4).1; omega
end
