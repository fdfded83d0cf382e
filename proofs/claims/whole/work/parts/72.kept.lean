/-! STEP: kept. -/
theorem isR_ex {S : Nat → Int} {m n : Nat} {g : Int} (h : ∃ c, g ≤ c ∧ clR S m n c) : ∃ r, isR S m n g r := by
  obtain ⟨c, c0, c1⟩ := h
  have go : ∀ (k : Nat) (c : Int), g ≤ c → clR S m n c → c - g = (k : Int) → ∃ r, isR S m n g r := fun k => by
    induction k using Nat.strongRecOn with
    | ind k ih =>
      intro c c0 c1 hk
      by_cases z : ∀ r' : Int, g ≤ r' → clR S m n r' → c ≤ r'
      · exact ⟨c, c0, c1, z⟩
      · obtain ⟨r', hr⟩ := Classical.not_forall.mp z
        have h0 : g ≤ r' := Classical.byContradiction fun w => hr (fun a => absurd a w)
        have h1 : clR S m n r' := Classical.byContradiction fun w => hr (fun _ a => absurd a w)
        have h2 : r' < c := by
          rcases Int.lt_or_le r' c with w | w
          · exact w
          · exact absurd (fun _ _ => w) hr
        exact ih (r' - g).toNat (by omega) r' h0 h1 (by omega)
  exact go (c - g).toNat c c0 c1 (by omega)
theorem pc_ext {m n : Nat} (hm : m < 2 ^ n) : ∀ {k : Nat}, n ≤ k → nS (pcF m) k = nS (pcF m) n
  | 0, h => by rw [show n = 0 by omega]
  | k + 1, h => by
    by_cases c : n = k + 1
    · rw [c]
    · show nS (pcF m) k + pcF m k = _
      rw [pc_ext hm (k := k) (by omega)]
      have : pcF m k = 0 := if_neg (by
        rw [Nat.testBit_lt_two_pow (Nat.lt_of_lt_of_le hm (Nat.pow_le_pow_right (by decide) (by omega)))]
        decide)
      rw [this]; omega
theorem p12 {m : Nat} (h : m ≤ 12) : (2 : Nat) ^ m ≤ 4096 := by
  have h3 : (2 : Nat) ^ 12 = 4096 := by decide
  have := Nat.pow_le_pow_right (n := 2) (by decide) h
  omega
section
variable {d : Nat} {P : Int → sM → sG → Prop} {M : sM} {G : sG}
theorem c158 {g till f : Int} (hd : 30 ≤ d) (hv : vTold (M 93)) (ht : TO 29 M (M 93)) (g0 : 0 ≤ g) (g1 : g ≤ 95) (hex : ∃ m : Nat, m < 2 ^ (M 93 8).toNat ∧ nS (pcF m) (M 93 8).toNat = f ∧ ∀ r : Int, isR (M 93) m (M 93 8).toNat g r → till ≤ r) (kk : ∀ m : Nat, m < 2 ^ (M 93 8).toNat → nS (pcF m) (M 93 8).toNat = f → (∀ r : Int, isR (M 93) m (M 93 8).toNat g r → till ≤ r) → (∀ m' : Nat, m' < m → nS (pcF m') (M 93 8).toNat = f → ∀ r : Int, isR (M 93) m' (M 93 8).toNat g r → r < till) → P (m : Int) M G) : sC d 158 [vO 9 29, vI g, vI till, vI f] M G (QI P) := by
  obtain ⟨d, rfl⟩ := sD 3 (d := d) (by omega)
  have h8 := hv.2.2.2.1
  have hb : ∀ k : Nat, (k : Int) < M 93 8 → 0 ≤ gA (M 93) k ∧ gA (M 93) k < gB (M 93) k ∧ gB (M 93) k ≤ 95 := fun k hk => hv.2.2.2.2.2.2.2.2.2 k (by omega) hk
  have e12 : M 29 12 = M 93 8 := ht.1.2.2.2.1
  have esh : iShl 1 (M 29 12) = ((2 ^ (M 93 8).toNat : Nat) : Int) := by rw [e12]; exact z_bit (by omega) (by omega)
  have hp := p12 (m := (M 93 8).toNat) (by omega)
  refine e158 (s158_0 ?_)
  refine sUpTo (W := fun i => (∀ m' : Nat, m' < i → nS (pcF m') (M 93 8).toNat = f → ∀ r : Int, isR (M 93) m' (M 93 8).toNat g r → r < till) → sW (sC (d + 2)) 158 (QI P) 3 [vO 9 29, vI g, vI till, vI f, vI (i : Int)] [] M G 0 0) (2 ^ (M 93 8).toNat) ?_ ?_ (fun m' h => absurd h (Nat.not_lt_zero _))
  · intro ha
    obtain ⟨m, m0, m1, m2⟩ := hex
    obtain ⟨r, hr⟩ := isR_ex (S := M 93) (m := m) (n := (M 93 8).toNat) (g := g) ⟨95, g1, fun k k0 _ _ => (hb k (by omega)).2.2⟩
    have a := ha m m0 m1 r hr
    have b := m2 r hr
    omega
  · intro i hi ih ha
    have hpc : ((bcN ((i : Int)).toNat : Nat) : Int) = nS (pcF i) (M 93 8).toNat := by
      show ((bcN i : Nat) : Int) = _
      rw [bc12 i (by omega), ← pcN_is, pc_ext hi (by omega)]
    refine (s158_3 ⟨fun q1 => ?_, fun q2 => ?_⟩)
    · omega
    · refine c113 (by omega) (by omega) (by omega) ?_
      rw [hpc]
      refine ⟨fun q3 => ⟨⟨by omega, by omega⟩, ?_⟩, fun q4 => ?_⟩
      · refine ih (fun m' h hm => ?_)
        by_cases c : m' = i
        · rw [c] at hm; exact absurd hm q3
        · exact ha m' (by omega) hm
      · refine c159 (by omega) hv ht (by omega) (by omega) g0 g1 (fun r hr hr95 => ?_)
        refine ⟨fun q5 => ⟨⟨by omega, by omega⟩, ?_⟩, fun q6 => ?_⟩
        · refine ih (fun m' h hm r' hr' => ?_)
          by_cases c : m' = i
          · rw [c] at hr'
            have := hr'.uniq hr
            omega
          · exact ha m' (by omega) hm r' hr'
        · refine kk i hi q4 (fun r' hr' => ?_) ha
          have := hr'.uniq hr
          omega
end
