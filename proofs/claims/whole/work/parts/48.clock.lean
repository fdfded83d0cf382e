/-! THE CLASS'S CLOCK: the coming ones, the late, quarters. -/
theorem lstN_spec {Q : Nat → Prop} : ∀ (k i : Nat), i ≤ lstN Q i k ∧ lstN Q i k ≤ i + k ∧ (lstN Q i k < i + k → Q (lstN Q i k)) ∧ ∀ j, i ≤ j → j < lstN Q i k → ¬ Q j
  | 0, i => ⟨Nat.le_refl i, Nat.le_refl i, fun h => absurd h (Nat.lt_irrefl i), fun j h1 h2 => absurd (show j < i from h2) (by omega)⟩
  | k + 1, i => by
    unfold lstN
    by_cases c : Q i
    · rw [if_pos c]
      exact ⟨by omega, by omega, fun _ => c, fun j h1 h2 => by omega⟩
    · rw [if_neg c]
      obtain ⟨h1, h2, h3, h4⟩ := lstN_spec k (i + 1) (Q := Q)
      refine ⟨by omega, by omega, fun z => h3 (by omega), fun j j1 j2 => ?_⟩
      by_cases e : j = i
      · rw [e]; exact c
      · exact h4 j (by omega) j2
section Come
variable {D : Nat → (Nat → Int) → Int} {kd : Nat → Int} {n : Int} {S : Nat → Int} {B : Int}
theorem nxS_spec (hS : 0 ≤ S 1) (q : Int) : 0 ≤ nxS S q ∧ nxS S q ≤ S 1 ∧ (nxS S q < S 1 → canS S q (nxS S q)) ∧ ∀ s' : Int, 0 ≤ s' → s' < nxS S q → ¬ canS S q s' := by
  obtain ⟨h1, h2, h3, h4⟩ := lstN_spec (S 1).toNat 0 (Q := fun s => canS S q s)
  unfold nxS
  refine ⟨by omega, by omega, fun z => h3 (by omega), fun s' a b => ?_⟩
  have := h4 s'.toNat (by omega) (by omega)
  rw [← z_nat a] at this
  exact this
theorem comF_pos {q : Int} (h : pO S q 0 = -1 ∧ nxS S q < S 1 ∧ inN S (tO S (nxS S q) 1) < hO S (tO S (nxS S q) 1) 1 ∧ (heldK D kd n 0 (wE S q (nxS S q)) ∨ ¬ hasK kd n 0)) : comF D kd n S q = enS (begS S (nxS S q)) q (tO S (nxS S q) 1) (nxS S q) := if_pos h
theorem comF_neg {q : Int} (h : ¬ (pO S q 0 = -1 ∧ nxS S q < S 1 ∧ inN S (tO S (nxS S q) 1) < hO S (tO S (nxS S q) 1) 1 ∧ (heldK D kd n 0 (wE S q (nxS S q)) ∨ ¬ hasK kd n 0))) : comF D kd n S q = S := if_neg h
theorem com_beg {q s : Int} (hv : vTown B S) (q0 : 0 ≤ q) (q1 : q < 12) (hp : pO S q 0 = -1) (s0 : 0 ≤ s) (s1 : s < S 1) (hr : inN S (tO S s 1) < hO S (tO S s 1) 1) : enR (begS S s) (enS (begS S s) q (tO S s 1) s) q (tO S s 1) s ∧ vTown (B + 1) (enS (begS S s) q (tO S s 1) s) := by
  have hs1 := hv.1.2.1
  have hst := (hv.2.2.1 s s0 s1).2.1
  have bv := beg_v hv s1
  have bp : ∀ w : Int, 0 ≤ w → pO (begS S s) q w = pO S q w := fun w w0 => beg_o (by omega) (by omega)
  have hl := enS_R (S := begS S s) (p := q) (h := tO S s 1) (s := s) q0 q1 (bv.2.2.2.1 q q0 q1).2.2.2.2.1
  have b0 : begS S s 0 = S 0 := beg_o (by omega) (by omega)
  have b1 : begS S s 1 = S 1 := beg_o (by omega) (by omega)
  have hs0 := hv.1.1
  refine ⟨hl, en_v bv hl q0 q1 hst.1 (by omega) ⟨by omega, by omega⟩ (by rw [bp 0 (by decide)]; exact hp) ?_⟩
  rw [inN_beg (by omega), show hO (begS S s) (tO S s 1) 1 = hO S (tO S s 1) 1 from beg_o (by omega) (by omega)]
  exact hr
theorem comF_v {q : Int} (hv : vTown B S) (q0 : 0 ≤ q) (q1 : q < 12) : vTown (B + 1) (comF D kd n S q) := by
  by_cases h : pO S q 0 = -1 ∧ nxS S q < S 1 ∧ inN S (tO S (nxS S q) 1) < hO S (tO S (nxS S q) 1) 1 ∧ (heldK D kd n 0 (wE S q (nxS S q)) ∨ ¬ hasK kd n 0)
  · rw [comF_pos h]
    exact (com_beg hv q0 q1 h.1 (nxS_spec hv.1.2.1.1 q).1 h.2.1 h.2.2.1).2
  · rw [comF_neg h]; exact hv.mono (by omega)
/-- another one's stays to begin stay what they are -/
theorem com_can {q q' s' : Int} (hv : vTown B S) (q0 : 0 ≤ q) (q1 : q < 12) (hne : q' ≠ q) (s0 : 0 ≤ s') (s1 : s' < S 1) : canS (comF D kd n S q) q' s' ↔ canS S q' s' := by
  by_cases h : pO S q 0 = -1 ∧ nxS S q < S 1 ∧ inN S (tO S (nxS S q) 1) < hO S (tO S (nxS S q) 1) 1 ∧ (heldK D kd n 0 (wE S q (nxS S q)) ∨ ¬ hasK kd n 0)
  · rw [comF_pos h]
    have hs1 := hv.1.2.1
    obtain ⟨n0, n1, n2, -⟩ := nxS_spec hs1.1 q
    have hl := (com_beg hv q0 q1 h.1 n0 h.2.1 h.2.2.1).1
    have hcan := n2 h.2.1
    have et : ∀ w : Int, 0 ≤ w → w < 6 → tO (enS (begS S (nxS S q)) q (tO S (nxS S q) 1) (nxS S q)) s' w = if s' = nxS S q ∧ w = 5 then 1 else tO S s' w := fun w w0 w1 => by rw [hl.1.t s0 (by omega) w0 w1, beg_t s0 w0 w1]
    have e2 : enS (begS S (nxS S q)) q (tO S (nxS S q) 1) (nxS S q) 2 = S 2 := (hl.1.1 2 (by decide) (by decide)).trans (beg_o (by omega) (by omega))
    unfold canS
    rw [et 0 (by decide) (by decide), et 2 (by decide) (by decide), et 3 (by decide) (by decide), et 5 (by decide) (by decide), e2, if_neg (c := s' = nxS S q ∧ (0 : Int) = 5) (fun z => absurd z.2 (by decide)), if_neg (c := s' = nxS S q ∧ (2 : Int) = 5) (fun z => absurd z.2 (by decide)), if_neg (c := s' = nxS S q ∧ (3 : Int) = 5) (fun z => absurd z.2 (by decide))]
    by_cases e : s' = nxS S q
    · constructor
      · intro z; exact absurd (z.1.symm.trans (by rw [e]; exact hcan.1)) hne
      · intro z; exact absurd (z.1.symm.trans (by rw [e]; exact hcan.1)) hne
    · rw [if_neg (fun z => e z.1)]
  · rw [comF_neg h]
theorem com_1 {q : Int} (hv : vTown B S) (q0 : 0 ≤ q) (q1 : q < 12) : comF D kd n S q 1 = S 1 := by
  by_cases h : pO S q 0 = -1 ∧ nxS S q < S 1 ∧ inN S (tO S (nxS S q) 1) < hO S (tO S (nxS S q) 1) 1 ∧ (heldK D kd n 0 (wE S q (nxS S q)) ∨ ¬ hasK kd n 0)
  · rw [comF_pos h]
    have hs1 := hv.1.2.1
    obtain ⟨n0, n1, n2, -⟩ := nxS_spec hs1.1 q
    have hl := (com_beg hv q0 q1 h.1 n0 h.2.1 h.2.2.1).1
    exact (hl.1.1 1 (by decide) (by decide)).trans (beg_o (by omega) (by omega))
  · rw [comF_neg h]
theorem comT_v (hv : vTown B S) : ∀ i : Nat, i ≤ 12 → vTown (B + i) (fT (comF D kd n) i S)
  | 0, _ => hv.mono (by omega)
  | i + 1, hi => by
    have := comF_v (D := D) (kd := kd) (n := n) (comT_v hv i (by omega)) (q := (i : Int)) (by omega) (by omega)
    exact this.mono (by omega)
theorem comT_1 (hv : vTown B S) : ∀ i : Nat, i ≤ 12 → fT (comF D kd n) i S 1 = S 1
  | 0, _ => rfl
  | i + 1, hi => (com_1 (comT_v hv i (by omega)) (by omega) (by omega)).trans (comT_1 hv i (by omega))
theorem comT_can (hv : vTown B S) : ∀ (i : Nat) (q' s' : Int), i ≤ 12 → (i : Int) ≤ q' → 0 ≤ s' → s' < S 1 → (canS (fT (comF D kd n) i S) q' s' ↔ canS S q' s')
  | 0, _, _, _, _, _, _ => Iff.rfl
  | i + 1, q', s', hi, hq, s0, s1 => by
    have e1 := comT_1 (D := D) (kd := kd) (n := n) hv i (by omega)
    exact (com_can (comT_v hv i (by omega)) (by omega) (by omega) (by omega) s0 (by omega)).trans (comT_can hv i q' s' (by omega) (by omega) s0 s1)
theorem late_p {x : Int} : ∀ p w : Int, 0 ≤ p → 0 ≤ w → pO (uS S 3 x) p w = pO S p w := fun p w p0 w0 => uS_ne (by omega)
theorem late_t {x : Int} : ∀ p w : Int, 0 ≤ p → 0 ≤ w → tO (uS S 3 x) p w = tO S p w := fun p w p0 w0 => uS_ne (by omega)
theorem late_due {x p : Int} (p0 : 0 ≤ p) : dueS (uS S 3 x) p ↔ dueS S p := by
  unfold dueS
  rw [late_p p 0 p0 (by decide), late_p p 1 p0 (by decide), show uS S 3 x 2 = S 2 from rfl]
  constructor
  · rintro ⟨a, b, c⟩; rw [late_t _ 3 b (by decide)] at c; exact ⟨a, b, c⟩
  · rintro ⟨a, b, c⟩; exact ⟨a, b, by rw [late_t _ 3 b (by decide)]; exact c⟩
theorem late_v {x : Int} (hv : vTown B S) (x0 : 0 ≤ x) (x1 : x ≤ 1300) : vTown B (uS S 3 x) := by
  obtain ⟨⟨a0, a1, a2, a3, a4⟩, h2, h3, h4, h5⟩ := hv
  refine ⟨⟨a0, a1, a2, ⟨x0, x1⟩, a4⟩, fun h h0 h1 => ?_, fun s s0 s1 => ?_, fun p p0 p1 => ?_, fun h h0 h1 => ?_⟩
  · have e : ∀ w : Int, 0 ≤ w → hO (uS S 3 x) h w = hO S h w := fun w w0 => uS_ne (by omega)
    rw [e 0 (by decide), e 1 (by decide), e 2 (by decide)]; exact h2 h h0 h1
  · rw [late_t s 0 s0 (by decide), late_t s 1 s0 (by decide), late_t s 2 s0 (by decide), late_t s 3 s0 (by decide), late_t s 4 s0 (by decide), late_t s 5 s0 (by decide)]; exact h3 s s0 s1
  · rw [late_p p 0 p0 (by decide), late_p p 1 p0 (by decide), late_p p 2 p0 (by decide), late_p p 3 p0 (by decide), late_p p 4 p0 (by decide)]; exact h4 p p0 p1
  · rw [inN_low (S' := uS S 3 x) rfl (by omega), show hO (uS S 3 x) h 1 = hO S h 1 from uS_ne (by omega)]; exact h5 h h0 h1
theorem now_v {x : Int} (hv : vTown B S) (x0 : 0 ≤ x) (x1 : x ≤ 96) : vTown B (uS S 2 x) := by
  obtain ⟨⟨a0, a1, a2, a3, a4⟩, h2, h3, h4, h5⟩ := hv
  have ep : ∀ p w : Int, 0 ≤ p → 0 ≤ w → pO (uS S 2 x) p w = pO S p w := fun p w p0 w0 => uS_ne (by omega)
  have et : ∀ p w : Int, 0 ≤ p → 0 ≤ w → tO (uS S 2 x) p w = tO S p w := fun p w p0 w0 => uS_ne (by omega)
  refine ⟨⟨a0, a1, ⟨x0, x1⟩, a3, a4⟩, fun h h0 h1 => ?_, fun s s0 s1 => ?_, fun p p0 p1 => ?_, fun h h0 h1 => ?_⟩
  · have e : ∀ w : Int, 0 ≤ w → hO (uS S 2 x) h w = hO S h w := fun w w0 => uS_ne (by omega)
    rw [e 0 (by decide), e 1 (by decide), e 2 (by decide)]; exact h2 h h0 h1
  · rw [et s 0 s0 (by decide), et s 1 s0 (by decide), et s 2 s0 (by decide), et s 3 s0 (by decide), et s 4 s0 (by decide), et s 5 s0 (by decide)]; exact h3 s s0 s1
  · rw [ep p 0 p0 (by decide), ep p 1 p0 (by decide), ep p 2 p0 (by decide), ep p 3 p0 (by decide), ep p 4 p0 (by decide)]; exact h4 p p0 p1
  · rw [inN_low (S' := uS S 2 x) rfl (by omega), show hO (uS S 2 x) h 1 = hO S h 1 from uS_ne (by omega)]; exact h5 h h0 h1
theorem TR.low {b : Nat} {M M' : sM} {k : Nat} {x : Int} (ht : TR b M S) (hk : k = 2 ∨ k = 3) (m : ∀ j, 1 ≤ j → j ≤ 14 → M' (b + j) = M (b + j)) (m0 : M' b 0 = M b 0 ∧ M' b 6 = M b 6) (m2 : M' b 13 = uS S k x 2) (m3 : M' b 14 = uS S k x 3) : TR b M' (uS S k x) := by
  obtain ⟨⟨l0, l1, l2, l3⟩, t2, t3, t4, t5⟩ := ht
  have ep : ∀ p w : Int, 0 ≤ p → 0 ≤ w → pO (uS S k x) p w = pO S p w := fun p w p0 w0 => uS_ne (by omega)
  have et : ∀ p w : Int, 0 ≤ p → 0 ≤ w → tO (uS S k x) p w = tO S p w := fun p w p0 w0 => uS_ne (by omega)
  have eh : ∀ p w : Int, 0 ≤ p → 0 ≤ w → hO (uS S k x) p w = hO S p w := fun p w p0 w0 => uS_ne (by omega)
  have ei : ∀ h, inN (uS S k x) h = inN S h := inN_low rfl (by omega)
  have e0 : uS S k x 0 = S 0 := uS_ne (by omega)
  have e1 : uS S k x 1 = S 1 := uS_ne (by omega)
  refine ⟨⟨by rw [m0.1, l0, e0], by rw [m0.2, l1, e1], m2, m3⟩, fun h h0 h1 => ?_, fun s s0 s1 => ?_, fun p p0 p1 => ?_, fun h h0 h1 => ?_⟩
  · rw [e0] at h1
    rw [m 1 (by omega) (by omega), m 2 (by omega) (by omega), m 3 (by omega) (by omega), m 4 (by omega) (by omega), eh h 0 h0 (by decide), eh h 1 h0 (by decide), eh h 2 h0 (by decide), ei]
    exact t2 h h0 h1
  · rw [e1] at s1
    rw [m 6 (by omega) (by omega), m 7 (by omega) (by omega), m 8 (by omega) (by omega), m 9 (by omega) (by omega), m 10 (by omega) (by omega), m 11 (by omega) (by omega), et s 0 s0 (by decide), et s 1 s0 (by decide), et s 2 s0 (by decide), et s 3 s0 (by decide), et s 4 s0 (by decide), et s 5 s0 (by decide)]
    exact t3 s s0 s1
  · rw [m 12 (by omega) (by omega), m 13 (by omega) (by omega), m 14 (by omega) (by omega), ep p 0 p0 (by decide), ep p 1 p0 (by decide), ep p 3 p0 (by decide)]
    exact t4 p p0 p1
  · rw [e0] at h1
    have hr := t5 h h0 h1
    have er : rW b M' = rW b M := by funext h i; unfold rW; rw [m 5 (by omega) (by omega)]
    refine ⟨fun g => ?_, fun i j i0 ij j1 => ?_⟩
    · rw [er, ei, ← hr.1 g]
      exact nS_congr (fun q _ => by rw [ep q 0 (by omega) (by decide)])
    · rw [ei] at j1
      rw [er, ep _ 2 (hr.mem i0 (by omega)).1 (by decide), ep _ 2 (hr.mem (by omega) j1).1 (by decide)]
      exact hr.2 i j i0 ij j1
theorem fLate01 (S : Nat → Int) (q : Nat) : 0 ≤ fLate S q ∧ fLate S q ≤ 1 := by unfold fLate; split <;> decide
end Come
section Clock2
variable {d : Nat} {P : Int → sM → sG → Prop} {PV : sM → sG → Prop} {M : sM} {G : sG} {b a : Nat} {S : Nat → Int} {B : Int} {D : Nat → (Nat → Int) → Int} {kd : Nat → Int} {n : Int}
theorem c88 (hd : 35 ≤ d) (hr : ruleC M G a n kd D) (hv : vTown B S) (ht : TR b M S) (hb : b + 14 < 58) (ha : 59 < a) (kk : ∀ M', cF b M M' → TR b M' (fT (comF D kd n) 12 S) → PV M' G) : sC d 88 [vO 0 57, vQ 6 a, vO 10 b] M G (QV PV) := by
  obtain ⟨d, rfl⟩ := sD 2 (d := d) (by omega)
  have hs1 := hv.1.2.1
  have key : ∀ (y : Int) (M2 : sM), (y ≠ 0 ↔ ¬ hasK kd n 0) → (∀ x, x ≠ 59 → M2 x = M x) → fbQ S 0 (M2 59) → sW (sC (d + 1)) 88 (QV PV) 25 [vO 0 57, vQ 6 a, vO 10 b, vI y, vI 0, vN] [] M2 G 0 0 := fun y M2 hy m2 hQ => by
    have hF2 : cF b M M2 := fun x _ _ h3 => m2 x h3
    refine sUpTo (W := fun i => ∀ M', cF b M M' → M' 59 = M2 59 → TR b M' (fT (comF D kd n) i S) → sW (sC (d + 1)) 88 (QV PV) 25 [vO 0 57, vQ 6 a, vO 10 b, vI y, vI (i : Int), vN] [] M' G 0 0) 12 ?_ ?_ M2 hF2 rfl (ht.congr (fun x _ _ => m2 x (by omega)))
    · intro M' hF h59 ht'
      exact s88_25 ⟨fun _ => kk M' hF ht', fun q => by omega⟩
    · intro i hi ih M' hF h59 ht'
      have hv' := comT_v (D := D) (kd := kd) (n := n) hv i (by omega)
      have e1 := comT_1 (D := D) (kd := kd) (n := n) hv i (by omega)
      have hcan := fun s' h0 h1 => comT_can (D := D) (kd := kd) (n := n) hv i (i : Int) s' (by omega) (Int.le_refl _) h0 h1
      obtain ⟨b0, b6, -, -⟩ := ht'.1
      have hp := (ht'.2.2.2.1 i (by omega) (by omega)).1
      have hs0' := hv'.1.1
      -- what is skipped
      have no : ¬ (pO (fT (comF D kd n) i S) i 0 = -1 ∧ nxS (fT (comF D kd n) i S) i < fT (comF D kd n) i S 1 ∧ inN (fT (comF D kd n) i S) (tO (fT (comF D kd n) i S) (nxS (fT (comF D kd n) i S) i) 1) < hO (fT (comF D kd n) i S) (tO (fT (comF D kd n) i S) (nxS (fT (comF D kd n) i S) i) 1) 1 ∧ (heldK D kd n 0 (wE (fT (comF D kd n) i S) i (nxS (fT (comF D kd n) i S) i)) ∨ ¬ hasK kd n 0)) → ∀ M'', cF b M M'' → M'' 59 = M2 59 → TR b M'' (fT (comF D kd n) i S) → sW (sC (d + 1)) 88 (QV PV) 25 [vO 0 57, vQ 6 a, vO 10 b, vI y, vI ((i + 1 : Nat) : Int), vN] [] M'' G 0 0 := fun hn M'' h1 h2 h3 => by
        have e : fT (comF D kd n) (i + 1) S = fT (comF D kd n) i S := comF_neg hn
        exact ih M'' h1 h2 (by rw [e]; exact h3)
      have hQi := hQ i (by omega) (by omega)
      have e59 : M' 59 ((i : Int)).toNat = M2 59 ((i : Int)).toNat := by rw [h59]
      rcases hQi with ⟨z1, z2⟩ | ⟨z1, z2, z3, z4⟩
      · have en : nxS (fT (comF D kd n) i S) i = fT (comF D kd n) i S 1 := nxS_is (by omega) (by omega) (Int.le_refl _) (fun h => by omega) (fun s' h0 h1 h2 => z2 s' h0 (by omega) ((hcan s' h0 (by omega)).mp h2))
        refine (s88_25 ⟨fun q1 => ?_, fun q2 => ⟨⟨(by first | omega | assumption | (refine ⟨?_, ?_⟩ <;> omega) | (simp_all; done)), (by first | omega | assumption | (refine ⟨?_, ?_⟩ <;> omega) | (simp_all; done))⟩, fun q3 => ⟨⟨by omega, by omega⟩, ?_⟩, fun q4 => ⟨fun q5 => ⟨⟨by omega, by omega⟩, ?_⟩, fun q6 => ⟨⟨(by first | omega | assumption | (refine ⟨?_, ?_⟩ <;> omega) | (simp_all; done)), (by first | omega | assumption | (refine ⟨?_, ?_⟩ <;> omega) | (simp_all; done))⟩, ⟨(by first | omega | assumption | (refine ⟨?_, ?_⟩ <;> omega) | (simp_all; done)), (by first | omega | assumption | (refine ⟨?_, ?_⟩ <;> omega) | (simp_all; done))⟩, ⟨by omega, by omega⟩, fun q7 => ⟨⟨by omega, by omega⟩, ?_⟩, fun q8 => ⟨fun q9 => ?_, fun q10 => ?_⟩⟩⟩⟩⟩)
        · omega
        · exact no (fun z => by have := z.2.1; omega) M' hF h59 ht'
        all_goals omega
      · have en : nxS (fT (comF D kd n) i S) i = M2 59 ((i : Int)).toNat := nxS_is (by omega) (by omega) (by omega) (fun _ => (hcan _ (by omega) (by omega)).mpr z3) (fun s' h0 h1 h2 => z4 s' h0 h1 ((hcan s' h0 (by omega)).mp h2))
        rw [en] at no
        rw [← e59] at z1 z2 no en
        obtain ⟨t0, t1, -⟩ := ht'.2.2.1 _ z1 (by omega)
        have tv := (hv'.2.2.1 _ z1 (by omega)).2.1
        obtain ⟨-, g2, -, g4⟩ := ht'.2.1 _ tv.1 tv.2
        have hin := inN_ge (fT (comF D kd n) i S) (tO (fT (comF D kd n) i S) (M' 59 ((i : Int)).toNat) 1)
        have hro := (hv'.2.1 _ tv.1 tv.2).2.1
        have g2' : M' (b + 2) (M' (b + 7) (M' 59 ((i : Int)).toNat).toNat).toNat = hO (fT (comF D kd n) i S) (tO (fT (comF D kd n) i S) (M' 59 ((i : Int)).toNat) 1) 1 := by rw [t1]; exact g2
        have g4' : M' (b + 4) (M' (b + 7) (M' 59 ((i : Int)).toNat).toNat).toNat = inN (fT (comF D kd n) i S) (tO (fT (comF D kd n) i S) (M' 59 ((i : Int)).toNat) 1) := by rw [t1]; exact g4
        have enter : ∀ M3 : sM, cF b M M3 → M3 59 = M2 59 → TR b M3 (fT (comF D kd n) i S) → pO (fT (comF D kd n) i S) i 0 = -1 → inN (fT (comF D kd n) i S) (tO (fT (comF D kd n) i S) (M' 59 ((i : Int)).toNat) 1) < hO (fT (comF D kd n) i S) (tO (fT (comF D kd n) i S) (M' 59 ((i : Int)).toNat) 1) 1 → (heldK D kd n 0 (wE (fT (comF D kd n) i S) i (M' 59 ((i : Int)).toNat)) ∨ ¬ hasK kd n 0) → sC (d + 1) 70 [vO 10 b, vI ((i : Nat) : Int), vI (tO (fT (comF D kd n) i S) (M' 59 ((i : Int)).toNat) 1), vI (M' 59 ((i : Int)).toNat)] M3 G (QV fun M4 G4 => sI ((i : Int) + 1) ∧ sW (sC (d + 1)) 88 (QV PV) 25 [vO 0 57, vQ 6 a, vO 10 b, vI y, vI ((i + 1 : Nat) : Int), vN] [] M4 G4 0 0) := fun M3 h1 h2 h3 h4 h5 h6 => by
          refine c70 (by omega) hv' h3 (by omega) (by omega) h4 tv.1 tv.2 (by omega) (by omega) (fun M4 mo ht4 => ⟨⟨by omega, by omega⟩, ?_⟩)
          have e : fT (comF D kd n) (i + 1) S = enS (begS (fT (comF D kd n) i S) (M' 59 ((i : Int)).toNat)) i (tO (fT (comF D kd n) i S) (M' 59 ((i : Int)).toNat) 1) (M' 59 ((i : Int)).toNat) := by
            have := comF_pos (D := D) (kd := kd) (n := n) (S := fT (comF D kd n) i S) (q := (i : Int)) (by rw [en]; exact ⟨h4, by omega, h5, h6⟩)
            rw [en] at this
            exact this
          refine ih M4 (fun x y1 y2 y3 => (mo x y1).trans (h1 x y1 y2 y3)) ((mo 59 (by omega)).trans h2) (by rw [e]; exact ht4)
        refine (s88_25 ⟨fun q1 => ?_, fun q2 => ⟨⟨(by first | omega | assumption | (refine ⟨?_, ?_⟩ <;> omega) | (simp_all; done)), (by first | omega | assumption | (refine ⟨?_, ?_⟩ <;> omega) | (simp_all; done))⟩, fun q3 => ⟨⟨by omega, by omega⟩, ?_⟩, fun q4 => ⟨fun q5 => ⟨⟨by omega, by omega⟩, ?_⟩, fun q6 => ⟨⟨(by first | omega | assumption | (refine ⟨?_, ?_⟩ <;> omega) | (simp_all; done)), (by first | omega | assumption | (refine ⟨?_, ?_⟩ <;> omega) | (simp_all; done))⟩, ⟨(by first | omega | assumption | (refine ⟨?_, ?_⟩ <;> omega) | (simp_all; done)), (by first | omega | assumption | (refine ⟨?_, ?_⟩ <;> omega) | (simp_all; done))⟩, ⟨by omega, by omega⟩, fun q7 => ⟨⟨by omega, by omega⟩, ?_⟩, fun q8 => ⟨fun q9 => ?_, fun q10 => ?_⟩⟩⟩⟩⟩)
        · omega
        · omega
        · exact no (fun z => by have := z.1; omega) M' hF h59 ht'
        · exact no (fun z => by have := z.2.2.1; omega) M' hF h59 ht'
        · rw [t1]; exact enter M' hF h59 ht' (by omega) (by omega) (Or.inr (hy.mp q9))
        · have hhas : hasK kd n 0 := Classical.byContradiction (fun z => hy.mpr z q10)
          refine c81 (by omega) (hr.congr (fun k hk => hF _ (by omega) (by omega) (by omega))) hv' ht' hb (by omega) (by omega) (by omega) z1 (by omega) (fun hh V => ⟨fun q11 => ⟨⟨by omega, by omega⟩, ?_⟩, fun q12 => ?_⟩) (fun hh V => ⟨fun q11 => ⟨⟨by omega, by omega⟩, ?_⟩, fun q12 => ?_⟩)
          · omega
          · have ht3 : TR b (setA M' 58 V) (fT (comF D kd n) i S) := ht'.congr (fun x _ _ => setA_ne (by omega))
            have hF3 : cF b M (setA M' 58 V) := fun x h1 h2 h3 => (setA_ne h2).trans (hF x h1 h2 h3)
            have e7 : setA M' 58 V (b + 7) = M' (b + 7) := setA_ne (by omega)
            rw [e7, t1]
            exact enter _ hF3 ((setA_ne (by decide)).trans h59) ht3 (by omega) (by omega) (Or.inl hh)
          · exact no (fun z => z.2.2.2.elim hh (fun w => w hhas)) _ (fun x h1 h2 h3 => (setA_ne h2).trans (hF x h1 h2 h3)) ((setA_ne (by decide)).trans h59) (ht'.congr (fun x _ _ => setA_ne (by omega)))
          · omega
  refine e88 (s88_0 ⟨hr.1, ?_⟩)
  refine c87 (by omega) hr (fun hk => ⟨fun q1 => ?_, fun q2 => ?_⟩) (fun hk => ⟨fun q1 => ?_, fun q2 => ?_⟩)
  · exact c89 (by omega) hv ht (by omega) (fun M' m2 hQ => key 0 M' ⟨fun z => absurd rfl z, fun z => absurd hk z⟩ m2 hQ)
  · omega
  · omega
  · exact c89 (by omega) hv ht (by omega) (fun M' m2 hQ => key 1 M' ⟨fun _ => hk, fun _ => by decide⟩ m2 hQ)
theorem c90 (hd : 15 ≤ d) (hv : vTown B S) (ht : TR b M S) (h3 : S 3 ≤ 1200) (kk : PV (sUpd M b 14 (S 3 + nS (fLate S) 12)) G) : sC d 90 [vO 10 b] M G (QV PV) := by
  obtain ⟨d, rfl⟩ := sD 2 (d := d) (by omega)
  have hs3 := hv.1.2.2.2.1
  have b14 := ht.1.2.2.2
  have u1 : ∀ x, sUpd M b 14 x b 14 = x := fun x => sUpd_eq
  have uu : ∀ x y, sUpd (sUpd M b 14 x) b 14 y = sUpd M b 14 y := fun x y => by
    funext c j
    unfold sUpd
    by_cases h : c = b ∧ j = 14
    · rw [if_pos h, if_pos h]
    · rw [if_neg h, if_neg h, if_neg h]
  have u0 : sUpd M b 14 (S 3) = M := by
    funext c j
    unfold sUpd
    by_cases h : c = b ∧ j = 14
    · rw [if_pos h, h.1, h.2, b14]
    · rw [if_neg h]
  have htx : ∀ x, TR b (sUpd M b 14 x) (uS S 3 x) := fun x => ht.low (Or.inr rfl) (fun j j1 _ => sUpd_ne (by omega)) ⟨sUpd_ni (by decide), sUpd_ni (by decide)⟩ ((sUpd_ni (by decide)).trans ht.1.2.2.1) (u1 x)
  refine e90 (s90_0 ?_)
  have lp := sUpTo (W := fun i => sW (sC (d + 1)) 90 (QV PV) 2 [vO 10 b, vI (i : Int)] [] (sUpd M b 14 (S 3 + nS (fLate S) i)) G 0 0) 12 ?_ ?_
  · rw [show S 3 + nS (fLate S) 0 = S 3 from Int.add_zero _, u0] at lp
    exact lp
  · exact s90_2 ⟨fun _ => kk, fun q => by omega⟩
  · intro i hi ih
    have hb := nS12 (fLate01 S) (i := i) (by omega)
    have u1' := u1 (S 3 + nS (fLate S) i)
    refine (s90_2 ⟨fun q1 => ?_, fun q2 => ?_⟩)
    · omega
    · refine c80 (B := B) (by omega) (late_v hv (by omega) (by omega)) (htx _) (by omega) (by omega) (fun hdue => ⟨fun q3 => ⟨⟨by omega, by omega⟩, ?_⟩, fun q4 => ⟨⟨by omega, by omega⟩, ⟨by omega, by omega⟩, ?_⟩⟩) (fun hnd => ⟨fun q3 => ⟨⟨by omega, by omega⟩, ?_⟩, fun q4 => ⟨⟨by omega, by omega⟩, ⟨by omega, by omega⟩, ?_⟩⟩)
      · omega
      · have e : fLate S i = 1 := if_pos ((late_due (by omega)).mp hdue)
        rw [nS_st e] at ih
        rw [u1, uu, Int.add_assoc]
        exact ih
      · have e : fLate S i = 0 := if_neg (fun z => hnd ((late_due (by omega)).mpr z))
        rw [nS_st e, Int.add_zero] at ih
        exact ih
      · omega
end Clock2
