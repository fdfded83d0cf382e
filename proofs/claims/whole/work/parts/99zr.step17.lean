/-! STEP: street. -/
section
variable {S : Nat → Int} {σ : stT}
theorem nRow_0 : nRow S σ 0 = (σ.2.1 : Int) := if_pos rfl
theorem nRow_1 : nRow S σ 1 = (σ.2.2.1 : Int) := by unfold nRow; rw [if_neg (by decide), if_pos rfl]
theorem nRow_z {j : Nat} (h : j = 2 ∨ j = 3 ∨ j = 4) : nRow S σ j = 0 := by unfold nRow; rw [if_neg (by omega), if_neg (by omega), if_pos h]
theorem nRow_h {h w : Int} (h6 : σ.2.1 ≤ 6) (h0 : 0 ≤ h) (h1 : h < (σ.2.1 : Int)) (w0 : 0 ≤ w) (w1 : w < 3) : hO (nRow S σ) h w = σ.2.2.2.1 (3 * h.toNat + w.toNat) := by
  unfold hO nRow
  rw [if_neg (by omega), if_neg (by omega), if_neg (by omega), if_pos (by omega)]
  exact congrArg σ.2.2.2.1 (by omega)
theorem nRow_t {s w : Int} (h6 : σ.2.1 ≤ 6) (h18 : σ.2.2.1 ≤ 18) (s0 : 0 ≤ s) (s1 : s < (σ.2.2.1 : Int)) (w0 : 0 ≤ w) (w1 : w < 6) : tO (nRow S σ) s w = if w = 5 then 0 else σ.2.2.2.2 (5 * s.toNat + w.toNat) := by
  unfold tO nRow
  rw [if_neg (by omega), if_neg (by omega), if_neg (by omega), if_neg (by omega), if_pos (by omega)]
  have e1 : ((28 + 6 * s) + w).toNat - 28 = w.toNat + 6 * s.toNat := by omega
  have e2 : (w.toNat + 6 * s.toNat) % 6 = w.toNat := by omega
  have e3 : (w.toNat + 6 * s.toNat) / 6 = s.toNat := by omega
  rw [e1, e2, e3]
  by_cases c : w = 5
  · rw [if_pos c, if_pos (by omega)]
  · rw [if_neg c, if_neg (by omega)]
theorem nRow_p {p w : Int} (h6 : σ.2.1 ≤ 6) (h18 : σ.2.2.1 ≤ 18) (p0 : 0 ≤ p) (p1 : p < 12) (w0 : 0 ≤ w) (w1 : w < 5) : pO (nRow S σ) p w = if w = 4 then pO S p 4 else if w = 2 then 0 else -1 := by
  unfold pO nRow
  rw [if_neg (by omega), if_neg (by omega), if_neg (by omega), if_neg (by omega), if_neg (by omega), if_pos (by omega)]
  have e1 : ((136 + 5 * p) + w).toNat - 136 = w.toNat + 5 * p.toNat := by omega
  have e2 : (w.toNat + 5 * p.toNat) % 5 = w.toNat := by omega
  rw [e1, e2]
  by_cases c : w = 4
  · rw [if_pos c, if_pos (by omega), c]
  · rw [if_neg c, if_neg (by omega)]
    by_cases c2 : w = 2
    · rw [if_pos c2, if_pos (by omega)]
    · rw [if_neg c2, if_neg (by omega)]
theorem nRow_told (h6 : σ.2.1 ≤ 6) (h18 : σ.2.2.1 ≤ 18) : eqTold S (nRow S σ) := by
  refine ⟨fun j hj => ?_, fun p p0 p1 => ?_⟩
  · unfold nRow
    rw [if_neg (by omega), if_neg (by omega), if_neg (by omega), if_neg (by omega), if_neg (by omega), if_neg (by omega)]
  · rw [nRow_p h6 h18 p0 p1 (by decide) (by decide), if_pos rfl]
theorem nRow_in (h6 : σ.2.1 ≤ 6) (h18 : σ.2.2.1 ≤ 18) {h : Int} (h0 : 0 ≤ h) (g : Int → Int) : nS (fun p : Nat => if pO (nRow S σ) (p : Int) 0 = h then g (p : Int) else 0) 12 = 0 := by
  have : nS (fun p : Nat => if pO (nRow S σ) (p : Int) 0 = h then g (p : Int) else 0) 12 = nS (fun _ => 0) 12 := nS_congr (fun i hi => by
    rw [nRow_p h6 h18 (by omega) (by omega) (by decide) (by decide), if_neg (show ¬ (0 : Int) = 4 by decide), if_neg (show ¬ (0 : Int) = 2 by decide), if_neg (by omega)])
  rw [this]; rfl
theorem nRow_inN (h6 : σ.2.1 ≤ 6) (h18 : σ.2.2.1 ≤ 18) {h : Int} (h0 : 0 ≤ h) : inN (nRow S σ) h = 0 := nRow_in h6 h18 h0 (fun _ => 1)
theorem nRow_v {B : Int} (hB : 0 ≤ B) (h6 : σ.2.1 ≤ 6) (h18 : σ.2.2.1 ≤ 18) (hv : vRd σ) (h4 : ∀ p : Int, 0 ≤ p → p < 12 → 0 ≤ pO S p 4 ∧ pO S p 4 ≤ 99) : vTown B (nRow S σ) := by
  refine ⟨⟨?_, ?_, ?_, ?_, ?_⟩, fun h h0 h1 => ?_, fun s s0 s1 => ?_, fun p p0 p1 => ?_, fun h h0 h1 => ?_⟩
  · rw [nRow_0]; omega
  · rw [nRow_1]; omega
  · rw [nRow_z (by omega)]; omega
  · rw [nRow_z (by omega)]; omega
  · rw [nRow_z (by omega)]; omega
  · rw [nRow_0] at h1
    rw [nRow_h h6 h0 h1 (by decide) (by decide), nRow_h h6 h0 h1 (by decide) (by decide), nRow_h h6 h0 h1 (by decide) (by decide)]
    exact hv.1 h.toNat (by omega)
  · rw [nRow_1] at s1
    rw [nRow_t h6 h18 s0 s1 (by decide) (by decide), nRow_t h6 h18 s0 s1 (by decide) (by decide), nRow_t h6 h18 s0 s1 (by decide) (by decide), nRow_t h6 h18 s0 s1 (by decide) (by decide), nRow_t h6 h18 s0 s1 (by decide) (by decide), nRow_t h6 h18 s0 s1 (by decide) (by decide), nRow_0]
    obtain ⟨a, b, ⟨c1, c2, c3⟩, e1, e2⟩ := hv.2 s.toNat (by omega)
    rw [if_neg (by decide), if_neg (by decide), if_neg (by decide), if_neg (by decide), if_neg (by decide), if_pos rfl]
    refine ⟨⟨a.1, ?_⟩, b, c1, c2, c3, ⟨e1, e2⟩, Or.inl rfl⟩
    have := a.2
    show σ.2.2.2.2 (5 * s.toNat) < 12
    omega
  · rw [nRow_p h6 h18 p0 p1 (by decide) (by decide), nRow_p h6 h18 p0 p1 (by decide) (by decide), nRow_p h6 h18 p0 p1 (by decide) (by decide), nRow_p h6 h18 p0 p1 (by decide) (by decide), nRow_p h6 h18 p0 p1 (by decide) (by decide), nRow_0, nRow_1, nRow_z (by omega)]
    rw [if_neg (by decide), if_neg (by decide), if_neg (by decide), if_neg (by decide), if_neg (by decide), if_pos rfl, if_neg (by decide), if_neg (by decide), if_pos rfl]
    have := h4 p p0 p1
    omega
  · rw [nRow_0] at h1
    rw [nRow_inN h6 h18 h0, nRow_h h6 h0 h1 (by decide) (by decide)]
    have := (hv.1 h.toNat (by omega)).2.1.1
    show (0 : Int) ≤ σ.2.2.2.1 (3 * h.toNat + 1)
    omega
theorem nRow_TR {M : sM} (hR : cR M σ) (hO : cO M) : TR 42 M (nRow S σ) := by
  obtain ⟨r0, r1, h6, h18, r2, r3⟩ := hR
  obtain ⟨o1, o2, o3, o4⟩ := hO
  refine ⟨⟨by rw [nRow_0]; exact r0, by rw [nRow_1]; exact r1, by rw [nRow_z (by omega)]; exact o2, by rw [nRow_z (by omega)]; exact o3⟩, fun h h0 h1 => ?_, fun s s0 s1 => ?_, fun p p0 p1 => ?_, fun h h0 h1 => ⟨fun g => ?_, fun i j i0 ij j1 => ?_⟩⟩
  · rw [nRow_0] at h1
    rw [nRow_h h6 h0 h1 (by decide) (by decide), nRow_h h6 h0 h1 (by decide) (by decide), nRow_h h6 h0 h1 (by decide) (by decide), nRow_inN h6 h18 h0]
    obtain ⟨a, b, c⟩ := r2 h.toNat (by omega)
    exact ⟨a, b, c, o1 h.toNat (by omega)⟩
  · rw [nRow_1] at s1
    rw [nRow_t h6 h18 s0 s1 (by decide) (by decide), nRow_t h6 h18 s0 s1 (by decide) (by decide), nRow_t h6 h18 s0 s1 (by decide) (by decide), nRow_t h6 h18 s0 s1 (by decide) (by decide), nRow_t h6 h18 s0 s1 (by decide) (by decide), nRow_t h6 h18 s0 s1 (by decide) (by decide)]
    rw [if_neg (by decide), if_neg (by decide), if_neg (by decide), if_neg (by decide), if_neg (by decide), if_pos rfl]
    exact r3 s.toNat (by omega)
  · rw [nRow_p h6 h18 p0 p1 (by decide) (by decide), nRow_p h6 h18 p0 p1 (by decide) (by decide), nRow_p h6 h18 p0 p1 (by decide) (by decide)]
    rw [if_neg (by decide), if_neg (by decide), if_neg (by decide), if_neg (by decide), if_neg (by decide), if_neg (by decide)]
    exact o4 p.toNat (by omega)
  · rw [nRow_inN h6 h18 h0]
    exact nRow_in h6 h18 h0 g
  · rw [nRow_inN h6 h18 h0] at j1
    omega
end
theorem L17 (t : Int) : Step t 17 200 [] := by
  intro d M G hd hI
  obtain ⟨t0, own, N, hN, hN2, h1, h2, h3, h4, h5⟩ := hI
  obtain ⟨d, rfl⟩ := sD 40 (d := d) (by omega)
  obtain ⟨n, hn⟩ : ∃ n : Nat, M 3 1 = (n : Int) := ⟨(M 3 1).toNat, z_nat h1.1⟩
  have ho : tOk (M 4) n := ⟨by have := h1.2.1; omega, fun i hi => (h1.2.2.2 i (by omega)).1⟩
  have hT : cTp M (M 4) n := ⟨hn, fun _ _ => rfl⟩
  obtain ⟨F, hF⟩ : ∃ F, F = streetF (M 4) n 25 st0 := ⟨_, rfl⟩
  have hs := streetF_sm (T := M 4) (n := n) 25 st0 (Nat.zero_le _)
  rw [← hF] at hs
  have h400 := ho.1
  have hl0 := hs.1
  have hl1 : F.1 ≤ 8 + 8 * (n : Int) := hs.2
  -- the reference, on a memory that the class left
  have ref : ∀ (M1 : sM) (r : Int), (∀ a, 82 ≤ a → a < 108 → M1 a = M a) → (F.1 ≠ 0 → r = -2 - F.1 ∧ ∀ M', (∀ a, a ≠ 82 → a ≠ 85 → a ≠ 88 → a ≠ 89 → M' a = M1 a) → M' 82 1 = 0 → M' 82 2 = M1 82 2 → Inv (t + 1) M' G) → (F.1 = 0 → r = (F.2.2.1 : Int) ∧ ∀ M', (∀ a, a ≠ 82 → a ≠ 85 → a ≠ 88 → a ≠ 89 → a ≠ 93 → M' a = M1 a) → M' 82 1 = 0 → M' 82 2 = M1 82 2 → M' 93 = nRow (M 93) F.2 → Inv (t + 1) M' G) → sC (d + 40) 200 [vO 12 82] M1 G (QI (LPost t r)) := by
    intro M1 r e k0 k1
    have hr : rTp M1 (M 4) n := ⟨by rw [e 82 (by decide) (by decide), h1.2.2.1]; exact hn, fun i hi => by rw [e 83 (by decide) (by decide)]; exact (h1.2.2.2 i (by omega)).2⟩
    refine c200 (T := M 4) (n := n) (by omega) ho hr (fun z M' a1 a2 a3 => ?_) (fun z M' a1 a2 a3 a4 => ?_)
    · rw [← hF] at z ⊢
      obtain ⟨b1, b2⟩ := k0 z
      exact ⟨b1.symm, b2 M' a1 a2 a3⟩
    · rw [← hF] at z a4 ⊢
      obtain ⟨b1, b2⟩ := k1 z
      rw [e 93 (by decide) (by decide)] at a4
      exact ⟨b1.symm, b2 M' a1 a2 a3 a4⟩
  have tape0 : ∀ M' : sM, M' 3 1 = 0 → M' 82 1 = 0 → iTape M' := fun M' a b => by
    unfold iTape
    rw [a, b]
    exact ⟨by decide, by decide, rfl, fun i hi => by omega⟩
  have rest : ∀ M' : sM, (∀ a, a = 12 ∨ a = 84 ∨ a = 86 ∨ a = 87 ∨ a = 41 ∨ a = 106 ∨ a = 107 ∨ 108 ≤ a → M' a = M a) → M' 1 11 = M 1 11 → M' 82 2 = M 82 2 → M' 3 1 = 0 → M' 82 1 = 0 → iTown (t + 1) M' → iTold M' → Inv (t + 1) M' G := fun M' e e11 e82 e3 e821 it il =>
    ⟨by omega, own, N, hN, hN2, tape0 M' e3 e821, h2.keep e11 e82 (e 12 (by omega)) (e 84 (by omega)) (e 86 (by omega)) (e 87 (by omega)) (fun a ha _ => e a (by omega)), h3.keep (by omega) (e 41 (by omega)) (e 106 (by omega)) (e 107 (by omega)) (fun a ha _ => e a (by omega)), it, il⟩
  refine e17 (s17_0 (c18 (T := M 4) (n := n) (by omega) ho hT (fun M1 p' o1 y => ?_)))
  have hf : streetF (M 4) n 25 (0, 0, 0, (fun _ => 0), fun _ => 0) = F := hF.symm
  rw [hf] at y ⊢
  obtain ⟨X, hX⟩ : ∃ X, X = sUpd (cS M1 p' F.1) 3 1 0 := ⟨_, rfl⟩
  rw [← hX]
  have x1 : ∀ a, a ≠ 3 → X a = M1 a := fun a ha => by rw [hX, sUpd_ne ha, cS_a ha]
  have x2 : ∀ a, a ≠ 3 → ¬ (42 ≤ a ∧ a ≤ 56) → X a = M a := fun a ha hb => (x1 a ha).trans (o1 a ha hb)
  have x31 : X 3 1 = 0 := by rw [hX]; exact sUpd_eq
  refine ⟨fun c => ?_, fun c => ?_⟩
  · obtain ⟨hR, hO⟩ := y c
    have h6 := hR.2.2.1
    have h18 := hR.2.2.2.1
    have hvr : vRd F.2 := by
      have := vRd.street (T := M 4) (n := n) 25 st0 ⟨fun h z => absurd z (Nat.not_lt_zero _), fun h z => absurd z (Nat.not_lt_zero _)⟩ (by rw [← hF]; exact c)
      rw [← hF] at this
      exact this
    have hv : vTown (1200 * (t + 1)) (nRow (M 93) F.2) := nRow_v (by omega) h6 h18 hvr (fun p p0 p1 => (h4.1.2.2.2.1 p p0 p1).2.2.2.2.2)
    have ht : TR 42 X (nRow (M 93) F.2) := (nRow_TR hR hO).congr (fun a _ _ => x1 a (by omega))
    have ht2 : TR 14 (cpTown X 14 42) (nRow (M 93) F.2) := TR.copied hv (by omega) ht
    have x3 : ∀ a, ¬ (14 ≤ a ∧ a ≤ 28) → cpTown X 14 42 a = X a := fun a ha => cpTown_out (by omega)
    refine c34 (by omega) ?_
    refine ref _ _ (fun a a1 a2 => by rw [x3 a (by omega)]; exact x2 a (by omega) (by omega)) (fun z => absurd c z) (fun _ => ⟨?_, fun M' a1 a2 a3 a4 => ?_⟩)
    · rw [ht2.1.1, nRow_0]
    · have hto := nRow_told (S := M 93) h6 h18
      refine rest M' (fun a ha => ?_) ?_ ?_ ?_ a2 ⟨?_, ?_, ?_⟩ ⟨?_, ?_⟩
      · rw [a1 a (by omega) (by omega) (by omega) (by omega) (by omega), x3 a (by omega)]
        exact x2 a (by omega) (by omega)
      · rw [a1 1 (by decide) (by decide) (by decide) (by decide) (by decide), x3 1 (by omega), x2 1 (by decide) (by omega)]
      · rw [a3, x3 82 (by omega), x2 82 (by decide) (by omega)]
      · rw [a1 3 (by decide) (by decide) (by decide) (by decide) (by decide), x3 3 (by omega)]; exact x31
      · rw [a4]; exact hv
      · rw [a4]
        unfold lowLate
        rw [nRow_z (by omega), nRow_z (by omega)]
        decide
      · rw [a4]
        exact ht2.congr (fun a _ _ => a1 a (by omega) (by omega) (by omega) (by omega) (by omega))
      · rw [a4]; exact h5.1.row hto
      · rw [a4]
        refine TO.row h5.1 (h5.2.congr (fun a _ _ => ?_)) hto
        rw [a1 a (by omega) (by omega) (by omega) (by omega) (by omega), x3 a (by omega)]
        exact x2 a (by omega) (by omega)
  · refine ⟨⟨by omega, by omega⟩, ?_⟩
    refine ref _ _ (fun a a1 a2 => x2 a (by omega) (by omega)) (fun _ => ⟨rfl, fun M' a1 a2 a3 => ?_⟩) (fun z => absurd z c)
    have e : ∀ a, a ≠ 3 → ¬ (42 ≤ a ∧ a ≤ 56) → a ≠ 82 → a ≠ 85 → a ≠ 88 → a ≠ 89 → M' a = M a := fun a b1 b2 b3 b4 b5 b6 => (a1 a b3 b4 b5 b6).trans (x2 a b1 b2)
    have e93 : M' 93 = M 93 := e 93 (by decide) (by omega) (by decide) (by decide) (by decide) (by decide)
    refine rest M' (fun a ha => e a (by omega) (by omega) (by omega) (by omega) (by omega) (by omega)) ?_ ?_ ?_ a2 ⟨?_, ?_, ?_⟩ ⟨?_, ?_⟩
    · rw [e 1 (by decide) (by omega) (by decide) (by decide) (by decide) (by decide)]
    · rw [a3, x2 82 (by decide) (by omega)]
    · rw [a1 3 (by decide) (by decide) (by decide) (by decide)]; exact x31
    · rw [e93]; exact h4.1.mono (by omega)
    · rw [e93]; exact h4.2.1
    · rw [e93]; exact h4.2.2.congr (fun a _ _ => e a (by omega) (by omega) (by omega) (by omega) (by omega) (by omega))
    · rw [e93]; exact h5.1
    · rw [e93]; exact h5.2.congr (fun a _ _ => e a (by omega) (by omega) (by omega) (by omega) (by omega) (by omega))
