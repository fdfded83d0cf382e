/-! WHAT HOLDS OF THE REFERENCE'S ROW, AND HOW A TOWN OF THE CLASS (at b) BELONGS TO IT. -/
def vLow (B : Int) (S : Nat → Int) : Prop := (0 ≤ S 0 ∧ S 0 ≤ 6) ∧ (0 ≤ S 1 ∧ S 1 ≤ 18) ∧ (0 ≤ S 2 ∧ S 2 ≤ 96) ∧ (0 ≤ S 3 ∧ S 3 ≤ 1300) ∧ (0 ≤ S 4 ∧ S 4 ≤ B)
def vHo (S : Nat → Int) : Prop := ∀ h : Int, 0 ≤ h → h < S 0 → (0 ≤ hO S h 0 ∧ hO S h 0 ≤ 2) ∧ (1 ≤ hO S h 1 ∧ hO S h 1 ≤ 12) ∧ (0 ≤ hO S h 2 ∧ hO S h 2 ≤ 9)
def vSt (S : Nat → Int) : Prop := ∀ s : Int, 0 ≤ s → s < S 1 → (0 ≤ tO S s 0 ∧ tO S s 0 < 12) ∧ (0 ≤ tO S s 1 ∧ tO S s 1 < S 0) ∧ 0 ≤ tO S s 2 ∧ tO S s 2 < tO S s 3 ∧ tO S s 3 ≤ 95 ∧ (0 ≤ tO S s 4 ∧ tO S s 4 ≤ 99) ∧ (tO S s 5 = 0 ∨ tO S s 5 = 1)
def vPe (S : Nat → Int) : Prop := ∀ p : Int, 0 ≤ p → p < 12 → (-1 ≤ pO S p 0 ∧ pO S p 0 < S 0) ∧ (-1 ≤ pO S p 1 ∧ pO S p 1 < S 1) ∧ (pO S p 0 = -1 → pO S p 1 = -1) ∧ (0 ≤ pO S p 2 ∧ pO S p 2 ≤ S 4) ∧ (-1 ≤ pO S p 3 ∧ pO S p 3 < 12 ∧ pO S p 3 ≠ p) ∧ (0 ≤ pO S p 4 ∧ pO S p 4 ≤ 99)
def vRo (S : Nat → Int) : Prop := ∀ h : Int, 0 ≤ h → h < S 0 → inN S h ≤ hO S h 1
def vTown (B : Int) (S : Nat → Int) : Prop := vLow B S ∧ vHo S ∧ vSt S ∧ vPe S ∧ vRo S
/-- what is told beside the street -/
def vTold (S : Nat → Int) : Prop := (0 ≤ S 5 ∧ S 5 ≤ 6) ∧ (0 ≤ S 6 ∧ S 6 ≤ 8) ∧ (0 ≤ S 7 ∧ S 7 ≤ 8) ∧ (0 ≤ S 8 ∧ S 8 ≤ 12) ∧ (0 ≤ S 9 ∧ S 9 ≤ 2147483647) ∧
  (∀ w : Int, 0 ≤ w → w < S 5 → (0 ≤ S (196 + (5 * w)).toNat ∧ S (196 + (5 * w)).toNat < 12) ∧ (0 ≤ S ((196 + (5 * w)) + 1).toNat ∧ S ((196 + (5 * w)) + 1).toNat < 6) ∧ 0 ≤ S ((196 + (5 * w)) + 2).toNat ∧ S ((196 + (5 * w)) + 3).toNat ≤ 95 ∧ 1 ≤ S ((196 + (5 * w)) + 4).toNat ∧ S ((196 + (5 * w)) + 2).toNat + S ((196 + (5 * w)) + 4).toNat ≤ S ((196 + (5 * w)) + 3).toNat ∧ S ((196 + (5 * w)) + 3).toNat ≤ S ((196 + (5 * w)) + 2).toNat + S ((196 + (5 * w)) + 4).toNat + 11) ∧
  (∀ k : Int, 0 ≤ k → k < S 6 → 0 ≤ S (226 + k).toNat ∧ S (226 + k).toNat < 12) ∧ (∀ j k : Int, 0 ≤ j → j < k → k < S 6 → S (226 + j).toNat ≠ S (226 + k).toNat) ∧
  (∀ f : Int, 0 ≤ f → f < S 7 → (0 ≤ S (234 + (2 * f)).toNat ∧ S (234 + (2 * f)).toNat < 12) ∧ (0 ≤ S ((234 + (2 * f)) + 1).toNat ∧ S ((234 + (2 * f)) + 1).toNat < 12) ∧ S (234 + (2 * f)).toNat ≠ S ((234 + (2 * f)) + 1).toNat) ∧
  (∀ g : Int, 0 ≤ g → g < S 8 → 0 ≤ S (250 + (2 * g)).toNat ∧ S (250 + (2 * g)).toNat < S ((250 + (2 * g)) + 1).toNat ∧ S ((250 + (2 * g)) + 1).toNat ≤ 95)
def rW (b : Nat) (M : sM) (h i : Int) : Int := M (b + 5) ((h * 12) + i).toNat
/-- of a house: those inside, in the order they came -/
def RW (b : Nat) (M : sM) (S : Nat → Int) (h : Int) : Prop := (∀ g : Int → Int, nS (fun p => if pO S p 0 = h then g p else 0) 12 = nS (fun i => g (rW b M h i)) (inN S h).toNat) ∧ ∀ i j : Int, 0 ≤ i → i < j → j < inN S h → pO S (rW b M h i) 2 < pO S (rW b M h j) 2
def TRl (b : Nat) (M : sM) (S : Nat → Int) : Prop := M b 0 = S 0 ∧ M b 6 = S 1 ∧ M b 13 = S 2 ∧ M b 14 = S 3
def TRh (b : Nat) (M : sM) (S : Nat → Int) : Prop := ∀ h : Int, 0 ≤ h → h < S 0 → M (b + 1) h.toNat = hO S h 0 ∧ M (b + 2) h.toNat = hO S h 1 ∧ M (b + 3) h.toNat = hO S h 2 ∧ M (b + 4) h.toNat = inN S h
def TRs (b : Nat) (M : sM) (S : Nat → Int) : Prop := ∀ s : Int, 0 ≤ s → s < S 1 → M (b + 6) s.toNat = tO S s 0 ∧ M (b + 7) s.toNat = tO S s 1 ∧ M (b + 8) s.toNat = tO S s 2 ∧ M (b + 9) s.toNat = tO S s 3 ∧ M (b + 10) s.toNat = tO S s 4 ∧ M (b + 11) s.toNat = tO S s 5
def TRp (b : Nat) (M : sM) (S : Nat → Int) : Prop := ∀ p : Int, 0 ≤ p → p < 12 → M (b + 12) p.toNat = pO S p 0 ∧ M (b + 13) p.toNat = pO S p 1 ∧ M (b + 14) p.toNat = pO S p 3
def TR (b : Nat) (M : sM) (S : Nat → Int) : Prop := TRl b M S ∧ TRh b M S ∧ TRs b M S ∧ TRp b M S ∧ ∀ h : Int, 0 ≤ h → h < S 0 → RW b M S h
def TO (c : Nat) (M : sM) (S : Nat → Int) : Prop := (M c 1 = S 5 ∧ M c 7 = S 6 ∧ M c 9 = S 7 ∧ M c 12 = S 8 ∧ M c 15 = S 9) ∧ (∀ p : Int, 0 ≤ p → p < 12 → M (c + 1) p.toNat = pO S p 4) ∧
  (∀ w : Int, 0 ≤ w → w < S 5 → M (c + 2) w.toNat = S (196 + (5 * w)).toNat ∧ M (c + 3) w.toNat = S ((196 + (5 * w)) + 1).toNat ∧ M (c + 4) w.toNat = S ((196 + (5 * w)) + 2).toNat ∧ M (c + 5) w.toNat = S ((196 + (5 * w)) + 3).toNat ∧ M (c + 6) w.toNat = S ((196 + (5 * w)) + 4).toNat) ∧
  (∀ k : Int, 0 ≤ k → k < S 6 → M (c + 7) k.toNat = S (226 + k).toNat) ∧
  (∀ f : Int, 0 ≤ f → f < S 7 → M (c + 8) f.toNat = S (234 + (2 * f)).toNat ∧ M (c + 9) f.toNat = S ((234 + (2 * f)) + 1).toNat) ∧
  (∀ g : Int, 0 ≤ g → g < S 8 → M (c + 10) g.toNat = S (250 + (2 * g)).toNat ∧ M (c + 11) g.toNat = S ((250 + (2 * g)) + 1).toNat)
theorem TR.congr {b : Nat} {M M' : sM} {S : Nat → Int} (h : TR b M S) (e : ∀ a, b ≤ a → a ≤ b + 14 → M' a = M a) : TR b M' S := by
  obtain ⟨h1, h2, h3, h4, h5⟩ := h
  have e' : ∀ k, k ≤ 14 → M' (b + k) = M (b + k) := fun k hk => e _ (by omega) (by omega)
  refine ⟨?_, ?_, ?_, ?_, ?_⟩
  · unfold TRl at h1 ⊢; rw [show M' b = M b from e b (by omega) (by omega)]; exact h1
  · unfold TRh at h2 ⊢; rw [e' 1 (by omega), e' 2 (by omega), e' 3 (by omega), e' 4 (by omega)]; exact h2
  · unfold TRs at h3 ⊢; rw [e' 6 (by omega), e' 7 (by omega), e' 8 (by omega), e' 9 (by omega), e' 10 (by omega), e' 11 (by omega)]; exact h3
  · unfold TRp at h4 ⊢; rw [e' 12 (by omega), e' 13 (by omega), e' 14 (by omega)]; exact h4
  · have er : rW b M' = rW b M := by funext h i; unfold rW; rw [e' 5 (by omega)]
    unfold RW at h5 ⊢; rw [er]; exact h5
section Rows
variable {b : Nat} {M : sM} {S : Nat → Int} {h : Int}
theorem inN_ge (S : Nat → Int) (h : Int) : 0 ≤ inN S h ∧ inN S h ≤ 12 := nS12 (fIn01 S h) (Nat.le_refl 12)
theorem nS_one {f : Nat → Int} {n i : Nat} (hf : ∀ j, 0 ≤ f j) (hi : i < n) : f i ≤ nS f n := by
  induction n with
  | zero => omega
  | succ n ih =>
    have h0 := nS_ge0 (f := f) (n := n) (fun j _ => hf j)
    have h1 := hf n
    show f i ≤ nS f n + f n
    by_cases e : i = n
    · subst e; omega
    · have := ih (by omega); omega
theorem nS_pos {f : Nat → Int} : ∀ {n : Nat}, 0 < nS f n → ∃ i, i < n ∧ 0 < f i
  | 0, h => absurd h (Int.lt_irrefl 0)
  | n + 1, h => by
    by_cases e : 0 < f n
    · exact ⟨n, by omega, e⟩
    · have h' : 0 < nS f n + f n := h
      obtain ⟨i, hi, hp⟩ := nS_pos (f := f) (n := n) (by omega)
      exact ⟨i, by omega, hp⟩
/-- whoever is in the row is in the house -/
theorem RW.mem (hr : RW b M S h) {i : Int} (h0 : 0 ≤ i) (h1 : i < inN S h) : 0 ≤ rW b M h i ∧ rW b M h i < 12 ∧ pO S (rW b M h i) 0 = h := by
  have key := hr.1 (fun x => if 0 ≤ x ∧ x < 12 ∧ pO S x 0 = h then 0 else 1)
  have hl : nS (fun p => if pO S (p : Int) 0 = h then (if 0 ≤ (p : Int) ∧ (p : Int) < 12 ∧ pO S (p : Int) 0 = h then (0 : Int) else 1) else 0) 12 = 0 := by
    refine (nS_zero (fun i _ => ?_)).mpr (fun i hi => ?_)
    · split; split <;> decide; decide
    · split
      · next hc => rw [if_pos ⟨by omega, by omega, hc⟩]
      · rfl
  rw [hl] at key
  have hz := (nS_zero (f := fun i => if 0 ≤ rW b M h i ∧ rW b M h i < 12 ∧ pO S (rW b M h i) 0 = h then (0 : Int) else 1) (n := (inN S h).toNat) (fun j _ => by split <;> decide)).mp key.symm i.toNat (by omega)
  rw [← z_nat h0] at hz
  by_cases hc : 0 ≤ rW b M h i ∧ rW b M h i < 12 ∧ pO S (rW b M h i) 0 = h
  · exact hc
  · rw [if_neg hc] at hz; exact absurd hz (by decide)
/-- whoever is in the house is in the row -/
theorem RW.ex (hr : RW b M S h) {p : Int} (h0 : 0 ≤ p) (h1 : p < 12) (hp : pO S p 0 = h) : ∃ i : Int, 0 ≤ i ∧ i < inN S h ∧ rW b M h i = p := by
  have key := hr.1 (fun x => if x = p then 1 else 0)
  have hl : 1 ≤ nS (fun q => if pO S (q : Int) 0 = h then (if (q : Int) = p then (1 : Int) else 0) else 0) 12 := by
    have := nS_one (f := fun q => if pO S (q : Int) 0 = h then (if (q : Int) = p then (1 : Int) else 0) else 0) (n := 12) (i := p.toNat) (fun j => by split; split <;> decide; decide) (by omega)
    rw [← z_nat h0, if_pos hp, if_pos rfl] at this
    exact this
  rw [key] at hl
  obtain ⟨i, hi, hpos⟩ := nS_pos (f := fun i => if rW b M h (i : Int) = p then (1 : Int) else 0) (n := (inN S h).toNat) (by omega)
  refine ⟨i, by omega, by omega, ?_⟩
  by_cases hc : rW b M h (i : Int) = p
  · exact hc
  · rw [if_neg hc] at hpos; exact absurd hpos (by decide)
/-- countings along a row that grows -/
theorem nS_gt {f : Nat → Int} {k : Nat} : ∀ {n : Nat}, k < n → (∀ i, i < n → f i = if k < i then 1 else 0) → nS f n = (n : Int) - 1 - k
  | 0, hk, _ => absurd hk (by omega)
  | n + 1, hk, hf => by
    show nS f n + f n = _
    rw [hf n (by omega)]
    by_cases e : k = n
    · subst e
      rw [if_neg (by omega), (nS_zero (n := k) (fun i hi => by rw [hf i (by omega)]; split <;> decide)).mpr (fun i hi => by rw [hf i (by omega), if_neg (by omega)])]
      omega
    · rw [if_pos (by omega), nS_gt (n := n) (by omega) (fun i hi => hf i (by omega))]
      omega
theorem nS_lt {f : Nat → Int} {k : Nat} : ∀ {n : Nat}, k ≤ n → (∀ i, i < n → f i = if i < k then 1 else 0) → nS f n = (k : Int)
  | 0, hk, _ => by have : k = 0 := by omega
                   subst this; rfl
  | n + 1, hk, hf => by
    show nS f n + f n = _
    rw [hf n (by omega)]
    by_cases e : k = n + 1
    · subst e
      rw [if_pos (by omega), nS_lt (f := f) (k := n) (n := n) (by omega) (fun i hi => by rw [hf i (by omega), if_pos (by omega), if_pos (by omega)])]
      omega
    · rw [if_neg (by omega), nS_lt (n := n) (by omega) (fun i hi => hf i (by omega))]
      omega
theorem RW.lt (hr : RW b M S h) {i j : Int} (i0 : 0 ≤ i) (i1 : i < inN S h) (j0 : 0 ≤ j) (j1 : j < inN S h) : pO S (rW b M h i) 2 < pO S (rW b M h j) 2 ↔ i < j := by
  constructor
  · intro z
    rcases Int.lt_trichotomy i j with q | q | q
    · exact q
    · subst q; omega
    · have := hr.2 j i j0 q i1; omega
  · intro q; exact hr.2 i j i0 q j1
theorem RW.inj (hr : RW b M S h) {i j : Int} (i0 : 0 ≤ i) (i1 : i < inN S h) (j0 : 0 ≤ j) (j1 : j < inN S h) (e : rW b M h i = rW b M h j) : i = j := by
  have a := (hr.lt i0 i1 j0 j1).mpr
  have c := (hr.lt j0 j1 i0 i1).mpr
  rw [e] at a c
  rcases Int.lt_trichotomy i j with q | q | q
  · have := a q; omega
  · exact q
  · have := c q; omega
theorem RW.aftN (hr : RW b M S h) {i : Int} (i0 : 0 ≤ i) (i1 : i < inN S h) : othA S (rW b M h i) = inN S h - 1 - i := by
  obtain ⟨q0, q1, q2⟩ := hr.mem i0 i1
  have key := hr.1 (fun x => if pO S (rW b M h i) 2 < pO S x 2 then 1 else 0)
  have e1 : othA S (rW b M h i) = nS (fun p => if pO S (p : Int) 0 = h then (if pO S (rW b M h i) 2 < pO S (p : Int) 2 then (1 : Int) else 0) else 0) 12 := by
    refine nS_congr (fun p _ => ?_)
    show (if pO S (p : Int) 0 = pO S (rW b M h i) 0 then (if pO S (rW b M h i) 2 < pO S (p : Int) 2 then (1 : Int) else 0) else 0) = _
    rw [q2]
  rw [e1, key, nS_gt (k := i.toNat) (by omega) (fun j hj => ?_)]
  · omega
  · have := hr.lt i0 i1 (j := (j : Int)) (by omega) (by omega)
    by_cases c : i < (j : Int)
    · rw [if_pos (this.mpr c), if_pos (by omega)]
    · rw [if_neg (fun z => c (this.mp z)), if_neg (by omega)]
theorem RW.befN (hr : RW b M S h) {i : Int} (i0 : 0 ≤ i) (i1 : i < inN S h) : othB S (rW b M h i) = i := by
  obtain ⟨q0, q1, q2⟩ := hr.mem i0 i1
  have key := hr.1 (fun x => if pO S x 2 < pO S (rW b M h i) 2 then 1 else 0)
  have e1 : othB S (rW b M h i) = nS (fun p => if pO S (p : Int) 0 = h then (if pO S (p : Int) 2 < pO S (rW b M h i) 2 then (1 : Int) else 0) else 0) 12 := by
    refine nS_congr (fun p _ => ?_)
    show (if pO S (p : Int) 0 = pO S (rW b M h i) 0 then (if pO S (p : Int) 2 < pO S (rW b M h i) 2 then (1 : Int) else 0) else 0) = _
    rw [q2]
  rw [e1, key, nS_lt (k := i.toNat) (by omega) (fun j hj => ?_)]
  · omega
  · have := hr.lt (i := (j : Int)) (j := i) (by omega) (by omega) i0 i1
    by_cases c : (j : Int) < i
    · rw [if_pos (this.mpr c), if_pos (by omega)]
    · rw [if_neg (fun z => c (this.mp z)), if_neg (by omega)]
end Rows
