/-! STEP: kept, both sides. -/
def gNo (S : Nat → Int) (n : Nat) (g till : Int) (i : Nat) : Prop := ∀ m : Nat, m < i → ∀ r : Int, isR S m n g r → r < till
def gBest (S : Nat → Int) (n : Nat) (g till : Int) (i b : Nat) : Prop := b < i ∧ (∀ r : Int, isR S b n g r → till ≤ r) ∧ (∀ m : Nat, m < i → ∀ r : Int, isR S m n g r → till ≤ r → nS (pcF b) n ≤ nS (pcF m) n) ∧ ∀ m : Nat, m < b → ∀ r : Int, isR S m n g r → till ≤ r → nS (pcF b) n < nS (pcF m) n
def gSt (S : Nat → Int) (n : Nat) (g till : Int) (i : Nat) (x4 : Int) : Prop := (x4 = -2 ∧ gNo S n g till i) ∨ ∃ b : Nat, x4 = (b : Int) ∧ gBest S n g till i b
section
variable {d : Nat} {P : Int → sM → sG → Prop} {M : sM} {G : sG}
theorem r271 {g till x3 : Int} (hv : vTold (M 93)) (g0 : 0 ≤ g) (g1 : g ≤ 95) (kY : ∀ b : Nat, gBest (M 93) (M 93 8).toNat g till (2 ^ (M 93 8).toNat) b → P (if x3 = 0 then nS (pcF b) (M 93 8).toNat else (b : Int)) M G) (kN : gNo (M 93) (M 93 8).toNat g till (2 ^ (M 93 8).toNat) → P (-2) M G) : sW (sC (d + 31)) 271 (QI P) 43 [vO 12 82, vI g, vI till, vI x3, vI (-2), vI 0] [] M G 0 0 := by
  have h8 := hv.2.2.2.1
  have esh : iShl 1 (M 93 8) = ((2 ^ (M 93 8).toNat : Nat) : Int) := z_bit (by omega) (by omega)
  have hp := p12 (m := (M 93 8).toNat) (by omega)
  have hpc : ∀ i : Nat, i < 2 ^ (M 93 8).toNat → nS (pcF ((i : Int)).toNat) 18 = nS (pcF i) (M 93 8).toNat := fun i hi => pc_ext hi (by omega)
  refine sUpTo (W := fun i => ∀ x4 : Int, gSt (M 93) (M 93 8).toNat g till i x4 → sW (sC (d + 31)) 271 (QI P) 43 [vO 12 82, vI g, vI till, vI x3, vI x4, vI (i : Int)] [] M G 0 0) (2 ^ (M 93 8).toNat) ?_ ?_ (-2) (Or.inl ⟨rfl, fun m h => absurd h (Nat.not_lt_zero _)⟩)
  · intro x4 hs
    rcases hs with ⟨rfl, hn⟩ | ⟨b, rfl, hb⟩
    · refine (s271_43 ⟨fun q1 => ⟨fun q2 => ⟨fun q3 => ?_, fun q4 => ?_⟩, fun q5 => ?_⟩, fun q6 => ⟨fun q7 => ?_, fun q10 => ?_⟩⟩)
      all_goals try (exact kN hn)
      all_goals omega
    · have hY := kY b hb
      have hb1 := hb.1
      refine (s271_43 ⟨fun q1 => ⟨fun q2 => ⟨fun q3 => ?_, fun q4 => ?_⟩, fun q5 => ?_⟩, fun q6 => ⟨fun q7 => ?_, fun q10 => ?_⟩⟩)
      · rw [if_neg q3] at hY; exact hY
      · refine c245 (by omega) (by omega) (by omega) ?_
        rw [if_pos q4] at hY
        rw [hpc b hb1]; exact hY
      all_goals omega
  · intro i hi ih x4 hs
    have keep : ∀ b : Nat, gBest (M 93) (M 93 8).toNat g till i b → (∀ r : Int, isR (M 93) i (M 93 8).toNat g r → till ≤ r → nS (pcF b) (M 93 8).toNat ≤ nS (pcF i) (M 93 8).toNat) → gBest (M 93) (M 93 8).toNat g till (i + 1) b := fun b hb h => ⟨by have := hb.1; omega, hb.2.1, fun m hm r hr ht => by
      by_cases c : m = i
      · rw [c] at hr ⊢; exact h r hr ht
      · exact hb.2.2.1 m (by omega) r hr ht, hb.2.2.2⟩
    rcases hs with ⟨rfl, hn⟩ | ⟨b, rfl, hb⟩
    · refine (s271_43 ⟨fun q1 => ⟨fun q2 => ⟨fun q3 => ?_, fun q4 => ?_⟩, fun q5 => ?_⟩, fun q6 => ⟨fun q7 => ?_, fun q10 => ?_⟩⟩)
      all_goals try omega
      refine c272 (by omega) hv (by omega) (by omega) g0 g1 (fun r hr hr95 => ?_)
      refine ⟨fun q8 => ⟨⟨by omega, by omega⟩, ?_⟩, fun q9 => ⟨⟨by omega, by omega⟩, ?_⟩⟩
      · refine ih (-2) (Or.inl ⟨rfl, fun m hm r' hr' => ?_⟩)
        by_cases c : m = i
        · rw [c] at hr'
          have := hr'.uniq hr
          omega
        · exact hn m (by omega) r' hr'
      · refine ih (i : Int) (Or.inr ⟨i, rfl, by omega, fun r' hr' => ?_, fun m hm r' hr' h' => ?_, fun m hm r' hr' h' => ?_⟩)
        · have := hr'.uniq hr; omega
        · by_cases c : m = i
          · rw [c]; exact Int.le_refl _
          · have := hn m (by omega) r' hr'; omega
        · have := hn m hm r' hr'; omega
    · have hb1 := hb.1
      refine (s271_43 ⟨fun q1 => ⟨fun q2 => ⟨fun q3 => ?_, fun q4 => ?_⟩, fun q5 => ?_⟩, fun q6 => ⟨fun q7 => ?_, fun q10 => ?_⟩⟩)
      all_goals try omega
      refine c245 (by omega) (by omega) (by omega) ?_
      rw [hpc i hi]
      refine ?_
      refine c245 (by omega) (by omega) (by omega) ?_
      rw [hpc b (by omega)]
      refine ⟨fun q11 => ⟨⟨by omega, by omega⟩, ?_⟩, fun q12 => ?_⟩
      · exact ih _ (Or.inr ⟨b, rfl, keep b hb (fun _ _ _ => q11)⟩)
      · refine c272 (by omega) hv (by omega) (by omega) g0 g1 (fun r hr hr95 => ?_)
        refine ⟨fun q13 => ⟨⟨by omega, by omega⟩, ?_⟩, fun q14 => ⟨⟨by omega, by omega⟩, ?_⟩⟩
        · refine ih _ (Or.inr ⟨b, rfl, keep b hb (fun r' hr' h' => ?_)⟩)
          have := hr'.uniq hr; omega
        · refine ih (i : Int) (Or.inr ⟨i, rfl, by omega, fun r' hr' => ?_, fun m hm r' hr' h' => ?_, fun m hm r' hr' h' => ?_⟩)
          · have := hr'.uniq hr; omega
          · by_cases c : m = i
            · rw [c]; exact Int.le_refl _
            · have := hb.2.2.1 m (by omega) r' hr' h'; omega
          · have := hb.2.2.1 m hm r' hr' h'; omega
end
theorem L156 (t g till x3 : Int) : Step t 156 271 [vI g, vI till, vI x3] := by
  intro d M G hd hI
  have hI1 := hI.same (kp.refl [] M)
  obtain ⟨hv, hlt, ht, hvo, hto, t0⟩ := hI.t
  have h8 := hvo.2.2.2.1
  have hb : ∀ k : Nat, (k : Int) < M 93 8 → 0 ≤ gA (M 93) k ∧ gA (M 93) k < gB (M 93) k ∧ gB (M 93) k ≤ 95 := fun k hk => hvo.2.2.2.2.2.2.2.2.2 k (by omega) hk
  have ref : ∀ r : Int, (¬ (0 ≤ g ∧ g ≤ 95 ∧ 0 ≤ till ∧ till ≤ 95 ∧ 0 ≤ x3 ∧ x3 ≤ 1) → r = -1) → (0 ≤ g ∧ g ≤ 95 ∧ 0 ≤ till ∧ till ≤ 95 ∧ 0 ≤ x3 ∧ x3 ≤ 1 → (∀ b : Nat, gBest (M 93) (M 93 8).toNat g till (2 ^ (M 93 8).toNat) b → r = if x3 = 0 then nS (pcF b) (M 93 8).toNat else (b : Int)) ∧ (gNo (M 93) (M 93 8).toNat g till (2 ^ (M 93 8).toNat) → r = -2)) → sC d 271 [vO 12 82, vI g, vI till, vI x3] M G (QI (LPost t r)) := fun r r1 r2 => by
    obtain ⟨d, rfl⟩ := sD 32 (d := d) (by omega)
    refine e271 (s271_0 ⟨fun q1 => ?_, fun q2 => ⟨fun q3 => ?_, fun q4 => ⟨fun q5 => ?_, fun q6 => ⟨fun q7 => ?_, fun q8 => ⟨fun q9 => ?_, fun q10 => ⟨fun q11 => ?_, fun q12 => ?_⟩⟩⟩⟩⟩⟩)
    all_goals try (exact ⟨(r1 (by omega)).symm, hI1⟩)
    have r2' := r2 (by omega)
    exact r271 hvo q2 q4 (fun b hbb => ⟨(r2'.1 b hbb).symm, hI1⟩) (fun hn => ⟨(r2'.2 hn).symm, hI1⟩)
  have ex : 0 ≤ g ∧ g ≤ 95 → ∀ m : Nat, ∃ r, isR (M 93) m (M 93 8).toNat g r := fun hg m => isR_ex ⟨95, hg.2, fun k k0 _ _ => (hb k (by omega)).2.2⟩
  obtain ⟨d, rfl⟩ := sD 33 (d := d) (by omega)
  refine e156 (s156_0 ⟨fun q1 => ?_, fun q2 => ⟨fun q3 => ?_, fun q4 => ⟨fun q5 => ?_, fun q6 => ⟨fun q7 => ?_, fun q8 => ⟨fun q9 => ?_, fun q10 => ⟨fun q11 => ?_, fun q16 => ?_⟩⟩⟩⟩⟩⟩)
  all_goals try (exact ref _ (fun _ => rfl) (fun z => absurd z (by omega)))
  refine c157 (by omega) hvo hto q2 q4 (fun f hf hm => ?_) (fun hno => ?_)
  · have hf0 := hf
    obtain ⟨m, m0, m1, m2⟩ := hf
    have bst : ∀ b : Nat, gBest (M 93) (M 93 8).toNat g till (2 ^ (M 93 8).toNat) b → nS (pcF b) (M 93 8).toNat = f := fun b hbb => by
      obtain ⟨r, hr⟩ := ex ⟨q2, q4⟩ m
      have a1 := hbb.2.2.1 m m0 r hr (m2 r hr)
      obtain ⟨r', hr'⟩ := ex ⟨q2, q4⟩ b
      have a2 := hm b r' hr' (hbb.2.1 r' hr')
      omega
    have nn : ¬ gNo (M 93) (M 93 8).toNat g till (2 ^ (M 93 8).toNat) := fun hn => by
      obtain ⟨r, hr⟩ := ex ⟨q2, q4⟩ m
      have a1 := hn m m0 r hr
      have a2 := m2 r hr
      omega
    have fp : 0 ≤ f := by rw [← m1]; exact nS_ge0 (fun i _ => by unfold pcF; split <;> decide)
    refine ⟨fun q12 => ⟨fun q13 => ?_, fun q14 => ?_⟩, fun q15 => ?_⟩
    · refine c158 (by omega) hvo hto q2 q4 hf0 (fun k k0 k1 k2 k3 => ?_)
      refine ref _ (fun z => absurd z (by omega)) (fun _ => ⟨fun b hbb => ?_, fun hn => absurd hn nn⟩)
      rw [if_neg q13]
      have hbf := bst b hbb
      obtain ⟨r', hr'⟩ := ex ⟨q2, q4⟩ b
      obtain ⟨r, hr⟩ := ex ⟨q2, q4⟩ k
      have b2 := hbb.2.1 r' hr'
      have b3 := k2 r hr
      rcases Nat.lt_trichotomy b k with z | z | z
      · have := k3 b z hbf r' hr'
        omega
      · rw [z]
      · have := hbb.2.2.2 k z r hr b3
        omega
    · refine ref _ (fun z => absurd z (by omega)) (fun _ => ⟨fun b hbb => ?_, fun hn => absurd hn nn⟩)
      rw [if_pos q14, bst b hbb]
    · omega
  · refine ⟨fun q12 => ⟨fun q13 => ?_, fun q14 => ?_⟩, fun q15 => ?_⟩
    · omega
    · omega
    · refine ref _ (fun z => absurd z (by omega)) (fun _ => ⟨fun b hbb => ?_, fun _ => rfl⟩)
      obtain ⟨r', hr'⟩ := ex ⟨q2, q4⟩ b
      have b1 := hno b r' hr'
      have b2 := hbb.2.1 r' hr'
      omega
