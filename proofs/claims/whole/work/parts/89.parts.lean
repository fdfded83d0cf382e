/-! The reference's parts, set by set. -/
theorem low12a : ∀ a, a < 64 → ∀ b, b < 64 → iAnd (((64 * a + b : Nat)) : Int) (-((64 * a + b : Nat) : Int)) = (((64 * a + b) &&& ((64 * a + b) ^^^ (64 * a + b - 1)) : Nat) : Int) := by decide +kernel
theorem low12 (x : Nat) (h : x < 4096) : iAnd (x : Int) (-(x : Int)) = ((x &&& (x ^^^ (x - 1)) : Nat) : Int) := by
  have := low12a (x / 64) (by omega) (x % 64) (by omega)
  rw [show 64 * (x / 64) + x % 64 = x by omega] at this
  exact this
theorem low_ex : ∀ k m : Nat, 0 < m → m < 2 ^ k → ∃ t, m.testBit t = true ∧ ∀ q : Nat, (m &&& (m - 1)).testBit q = true ↔ m.testBit q = true ∧ q ≠ t
  | 0, m, h0, h1 => by omega
  | k + 1, m, h0, h1 => by
    have e : 2 ^ (k + 1) = 2 ^ k * 2 := Nat.pow_succ 2 k
    by_cases c : m % 2 = 1
    · refine ⟨0, by rw [Nat.testBit_zero, decide_eq_true c], fun q => ?_⟩
      rw [Nat.testBit_and, Bool.and_eq_true]
      cases q with
      | zero => rw [Nat.testBit_zero (m - 1), decide_eq_false (by omega)]; exact ⟨fun z => absurd z.2 (by decide), fun z => absurd rfl z.2⟩
      | succ q =>
        rw [Nat.testBit_succ, Nat.testBit_succ, show (m - 1) / 2 = m / 2 by omega]
        exact ⟨fun z => ⟨z.1, by omega⟩, fun z => ⟨z.1, z.1⟩⟩
    · obtain ⟨t, t1, t2⟩ := low_ex k (m / 2) (by omega) (by omega)
      refine ⟨t + 1, by rw [Nat.testBit_succ]; exact t1, fun q => ?_⟩
      have t2q := fun q => t2 q
      cases q with
      | zero => rw [Nat.testBit_and, Bool.and_eq_true, Nat.testBit_zero m, decide_eq_false c]; exact ⟨fun z => absurd z.1 (by decide), fun z => absurd z.1 (by decide)⟩
      | succ q =>
        have := t2q q
        rw [Nat.testBit_and, Bool.and_eq_true] at this ⊢
        rw [Nat.testBit_succ, Nat.testBit_succ, show (m - 1) / 2 = m / 2 - 1 by omega, this]
        exact ⟨fun z => ⟨z.1, by omega⟩, fun z => ⟨z.1, by omega⟩⟩
theorem sub_next : ∀ k s Y R : Nat, s < 2 ^ k → suB s R → suB Y R → Y < s → Y ≤ (s - 1) &&& R
  | 0, s, Y, R, h, _, _, h2 => by omega
  | k + 1, s, Y, R, h, hs, hy, h2 => by
    have e : 2 ^ (k + 1) = 2 ^ k * 2 := Nat.pow_succ 2 k
    have hv : ∀ {A : Nat}, suB A R → suB (A / 2) (R / 2) := fun ha i hi => by
      rw [← Nat.testBit_succ] at hi ⊢
      exact ha (i + 1) hi
    by_cases c : s % 2 = 1
    · have : (s - 1) &&& R = s - 1 := suB.eq (fun q hq => by rw [Nat.testBit_and, Bool.and_eq_true] at hq; exact hq.1) (fun q hq => by
        rw [Nat.testBit_and, Bool.and_eq_true]
        refine ⟨hq, ?_⟩
        cases q with
        | zero => rw [Nat.testBit_zero, decide_eq_false (by omega)] at hq; exact absurd hq (by decide)
        | succ q =>
          rw [Nat.testBit_succ, show (s - 1) / 2 = s / 2 by omega] at hq
          rw [Nat.testBit_succ]
          exact hv hs q hq)
      omega
    · have ih := sub_next k (s / 2) (Y / 2) (R / 2) (by omega) (hv hs) (hv hy) (by omega)
      have h3 : ((s - 1) &&& R) / 2 = (s / 2 - 1) &&& (R / 2) := by rw [Nat.and_div_two, show (s - 1) / 2 = s / 2 - 1 by omega]
      have h4 : Y % 2 = 1 → ((s - 1) &&& R) % 2 = 1 := fun z => by
        have a : Y.testBit 0 = true := by rw [Nat.testBit_zero, decide_eq_true z]
        have b := hy 0 a
        have : ((s - 1) &&& R).testBit 0 = true := by
          rw [Nat.testBit_and, b, Nat.testBit_zero, decide_eq_true (by omega)]; rfl
        rw [Nat.testBit_zero, decide_eq_true_iff] at this
        exact this
      omega
theorem xor_sub {R s : Nat} (h : suB s R) (q : Nat) : (R ^^^ s).testBit q = true ↔ R.testBit q = true ∧ ¬ s.testBit q = true := by
  rw [Nat.testBit_xor]
  have := h q
  cases a : R.testBit q <;> cases b : s.testBit q
  · decide
  · rw [b] at this; rw [this rfl] at a; exact absurd a (by decide)
  · decide
  · decide
theorem coL_12 {adj : Nat → Nat → Prop} {X : Nat} (h : X < 4096) : coL adj X 12 := ⟨fun i => i, fun i hi => bit_lt h hi, fun i j _ _ ne _ => ne⟩
section
variable {d : Nat} {P : Int → sM → sG → Prop} {PV : sM → sG → Prop} {M : sM} {G : sG}
theorem r247g {law x1 : Int} {pk : Nat → Nat} {n s1 : Nat} (hn : n ≤ 12) (hp : pkOk pk n s1) (hs : s1 ≤ 18) (hs1 : M 93 1 = (s1 : Int)) (hm : ∀ k, k < n → M 98 k = ((pk k : Nat) : Int)) (hc : ∀ i : Nat, i < s1 → M 95 i = ((mskN (crQ (M 93) law i) s1 : Nat) : Int)) (kk : ∀ g : Int, gaP (adJ (M 93) law pk) (2 ^ n - 1) g → P g M G) : sW (sC (d + 20)) 247 (QI P) 112 [vO 12 82, vN, vN, vI 1, vI (n : Int), vI 0, vI 1, vN, vN, vN, vN, vN] [] M G 0 0 := by
  have hpn := p12 hn
  have h2 := Nat.two_pow_pos n
  have esh : iShl 1 (n : Int) = ((2 ^ n : Nat) : Int) := z_bit (by omega) (by omega)
  have sb : ∀ Y : Nat, suB Y (2 ^ n - 1) → Y < 2 ^ n := fun Y h => by have := Nat.le_of_testBit h; omega
  have bs : ∀ Y : Nat, Y < 2 ^ n → suB Y (2 ^ n - 1) := fun Y h q hq => ones_b.mpr (by
    rcases Nat.lt_or_ge q n with c | c
    · exact c
    · rw [Nat.testBit_lt_two_pow (Nat.lt_of_lt_of_le h (Nat.pow_le_pow_right (by decide) c))] at hq
      exact absurd hq (by decide))
  refine sUpFrom (W := fun i => ∀ g : Int, (∃ Y, Y < i ∧ clQ (adJ (M 93) law pk) Y ∧ nS (pcF Y) 12 = g) → (∀ Y, Y < i → clQ (adJ (M 93) law pk) Y → nS (pcF Y) 12 ≤ g) → sW (sC (d + 20)) 247 (QI P) 112 [vO 12 82, vN, vN, vI 1, vI (n : Int), vI g, vI (i : Int), vN, vN, vN, vN, vN] [] M G 0 0) 1 (2 ^ n) (by omega) ?_ ?_ 0 ⟨0, by decide, fun i _ hi => absurd hi tb0, pc_zero 12⟩ (fun Y hY _ => by
    rw [show Y = 0 by omega, pc_zero]; decide)
  · intro g g1 g2
    refine (s247_112 ⟨fun q1 => ⟨fun q2 => ⟨⟨by omega, by omega⟩, ⟨(by first | omega | assumption | (refine ⟨?_, ?_⟩ <;> omega) | (simp_all; done)), (by first | omega | assumption | (refine ⟨?_, ?_⟩ <;> omega) | (simp_all; done))⟩, ?_⟩, fun q3 => ?_⟩, fun q4 => ⟨fun q5 => ⟨⟨(by first | omega | assumption | (refine ⟨?_, ?_⟩ <;> omega) | (simp_all; done)), (by first | omega | assumption | (refine ⟨?_, ?_⟩ <;> omega) | (simp_all; done))⟩, ⟨by omega, by omega⟩, ?_⟩, fun q6 => ?_⟩⟩)
    all_goals try omega
    refine kk g ⟨?_, fun Y hY hcl => g2 Y (sb Y hY) hcl⟩
    obtain ⟨Y, y1, y2, y3⟩ := g1
    exact ⟨Y, bs Y y1, y2, y3⟩
  · intro i hi0 hi ih g g1 g2
    have skip : (clQ (adJ (M 93) law pk) i → nS (pcF i) 12 ≤ g) → sW (sC (d + 20)) 247 (QI P) 112 [vO 12 82, vN, vN, vI 1, vI (n : Int), vI g, vI ((i + 1 : Nat) : Int), vN, vN, vN, vN, vN] [] M G 0 0 := fun h => ih g (by
      obtain ⟨Y, y1, y2, y3⟩ := g1
      exact ⟨Y, by omega, y2, y3⟩) (fun Y hY hcl => by
      by_cases c : Y = i
      · rw [c] at hcl ⊢; exact h hcl
      · exact g2 Y (by omega) hcl)
    have hYb : ∀ q, i.testBit q = true → q < n := fun q hq => ones_b.mp (bs i hi q hq)
    refine (s247_112 ⟨fun q1 => ⟨fun q2 => ⟨⟨by omega, by omega⟩, ⟨(by first | omega | assumption | (refine ⟨?_, ?_⟩ <;> omega) | (simp_all; done)), (by first | omega | assumption | (refine ⟨?_, ?_⟩ <;> omega) | (simp_all; done))⟩, ?_⟩, fun q3 => ?_⟩, fun q4 => ⟨fun q5 => ⟨⟨(by first | omega | assumption | (refine ⟨?_, ?_⟩ <;> omega) | (simp_all; done)), (by first | omega | assumption | (refine ⟨?_, ?_⟩ <;> omega) | (simp_all; done))⟩, ⟨by omega, by omega⟩, ?_⟩, fun q6 => ?_⟩⟩)
    all_goals try omega
    refine c245n (by omega) (by omega) ?_
    refine ⟨fun q7 => ⟨⟨by omega, by omega⟩, ?_⟩, fun q8 => ?_⟩
    · exact skip (fun _ => q7)
    · refine c248 (by omega) hn (by omega) hp hs hm ?_
      refine c249 (law := law) (by omega) hp hs hs1 hYb hc (fun z => ?_) (fun z => ?_)
      · refine ⟨fun q9 => ⟨⟨by omega, by omega⟩, ?_⟩, fun q10 => ⟨⟨by omega, by omega⟩, ?_⟩⟩
        · omega
        · refine ih _ ⟨i, by omega, z, rfl⟩ (fun Y hY hcl => ?_)
          by_cases c : Y = i
          · rw [c]; exact Int.le_refl _
          · have := g2 Y (by omega) hcl
            omega
      · refine ⟨fun q9 => ⟨⟨by omega, by omega⟩, ?_⟩, fun q10 => ⟨⟨by omega, by omega⟩, ?_⟩⟩
        · exact skip (fun w => absurd w z)
        · omega
end
