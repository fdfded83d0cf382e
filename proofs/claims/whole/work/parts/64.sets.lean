/-! SETS AS BITS. -/
def mskN (Q : Nat → Bool) : Nat → Nat
  | 0 => 0
  | n + 1 => mskN Q n ||| (if Q n then 2 ^ n else 0)
theorem mskN_bit {Q : Nat → Bool} : ∀ {n j : Nat}, (mskN Q n).testBit j = (decide (j < n) && Q j)
  | 0, j => by show (0 : Nat).testBit j = _; rw [Nat.zero_testBit, decide_eq_false (Nat.not_lt_zero j)]; rfl
  | n + 1, j => by
    show (mskN Q n ||| (if Q n then 2 ^ n else 0)).testBit j = _
    rw [Nat.testBit_or, mskN_bit (n := n)]
    by_cases e : j = n
    · subst e
      rw [decide_eq_false (Nat.lt_irrefl j), decide_eq_true (Nat.lt_succ_self j)]
      cases Q j
      · show (false && false || (0 : Nat).testBit j) = _; rw [Nat.zero_testBit]; rfl
      · show (false && true || (2 ^ j).testBit j) = _; rw [Nat.testBit_two_pow_self]; rfl
    · have h2 : (if Q n then 2 ^ n else 0).testBit j = false := by
        cases Q n
        · exact Nat.zero_testBit j
        · show (2 ^ n).testBit j = false; rw [bit_pow, decide_eq_false (Ne.symm e)]
      rw [h2, Bool.or_false]
      by_cases c : j < n
      · rw [decide_eq_true c, decide_eq_true (by omega : j < n + 1)]
      · rw [decide_eq_false c, decide_eq_false (by omega : ¬ j < n + 1)]
theorem mskN_lt {Q : Nat → Bool} : ∀ {n : Nat}, mskN Q n < 2 ^ n
  | 0 => (by decide : (0 : Nat) < 2 ^ 0)
  | n + 1 => by
    have h := mskN_lt (Q := Q) (n := n)
    have e : 2 ^ (n + 1) = 2 ^ n * 2 := Nat.pow_succ 2 n
    refine Nat.or_lt_two_pow (by omega) ?_
    cases Q n
    · show 0 < 2 ^ (n + 1); exact Nat.two_pow_pos _
    · show 2 ^ n < 2 ^ (n + 1); have := Nat.two_pow_pos n; omega
def pcF (m : Nat) : Nat → Int := fun j => if m.testBit j then 1 else 0
theorem nS_shift (f : Nat → Int) : ∀ k : Nat, nS f (k + 1) = f 0 + nS (fun j => f (j + 1)) k
  | 0 => by show 0 + f 0 = f 0 + 0; omega
  | k + 1 => by
    show nS f (k + 1) + f (k + 1) = f 0 + (nS (fun j => f (j + 1)) k + f (k + 1))
    rw [nS_shift f k]; omega
theorem pc_half (m k : Nat) : nS (pcF m) (k + 1) = (if m.testBit 0 then 1 else 0) + nS (pcF (m / 2)) k := by
  rw [nS_shift]
  have e : (fun j => pcF m (j + 1)) = pcF (m / 2) := by
    funext j
    show (if m.testBit (j + 1) then (1 : Int) else 0) = if (m / 2).testBit j then 1 else 0
    rw [Nat.testBit_succ]
  rw [e]; rfl
theorem pc_low : ∀ k m : Nat, 0 < m → m < 2 ^ k → nS (pcF (m &&& (m - 1))) k = nS (pcF m) k - 1
  | 0, m, h0, h1 => by omega
  | k + 1, m, h0, h1 => by
    have e : 2 ^ (k + 1) = 2 ^ k * 2 := Nat.pow_succ 2 k
    have hb : ∀ x : Nat, x.testBit 0 = decide (x % 2 = 1) := fun x => Nat.testBit_zero x
    rw [pc_half, pc_half, Nat.testBit_and, hb, hb, Nat.and_div_two]
    by_cases c : m % 2 = 1
    · rw [decide_eq_true c, decide_eq_false (by omega : ¬ (m - 1) % 2 = 1), show (m - 1) / 2 = m / 2 by omega, Nat.and_self]
      show 0 + _ = 1 + _ - 1
      omega
    · rw [decide_eq_false c, show (m - 1) / 2 = m / 2 - 1 by omega]
      have := pc_low k (m / 2) (by omega) (by omega)
      show 0 + _ = 0 + _ - 1
      omega
theorem pc_zero (k : Nat) : nS (pcF 0) k = 0 := (nS_zero (fun i _ => by unfold pcF; split <;> decide)).mpr (fun i _ => by unfold pcF; rw [Nat.zero_testBit]; rfl)
theorem pc_pos {m k : Nat} (h : nS (pcF m) k = 0) (hm : m < 2 ^ k) : m = 0 := by
  have h2 := (nS_zero (f := pcF m) (fun i _ => by unfold pcF; split <;> decide)).mp h
  apply Nat.eq_of_testBit_eq
  intro i
  rw [Nat.zero_testBit]
  by_cases c : i < k
  · have := h2 i c
    unfold pcF at this
    cases hb : m.testBit i
    · rfl
    · rw [hb] at this; exact absurd this (by decide)
  · exact Nat.testBit_lt_two_pow (Nat.lt_of_lt_of_le hm (Nat.pow_le_pow_right (by decide) (by omega)))
theorem c245 {d : Nat} {P : Int → sM → sG → Prop} {M : sM} {G : sG} {x : Int} (hd : 5 ≤ d) (h0 : 0 ≤ x) (h1 : x < 262144) (kk : P (nS (pcF x.toNat) 18) M G) : sC d 245 [vI x] M G (QI P) := by
  obtain ⟨d, rfl⟩ := sD 2 (d := d) (by omega)
  refine e245 (s245_0 ?_)
  have go : ∀ (n m : Nat) (c : Int), m ≤ n → m < 2 ^ 18 → 0 ≤ c → c + nS (pcF m) 18 = nS (pcF x.toNat) 18 → sW (sC (d + 1)) 245 (QI P) 4 [vN, vI c, vI (m : Int)] [] M G 0 0 := fun n => by
    induction n with
    | zero =>
      intro m c hm h2 hc he
      have e : m = 0 := by omega
      subst e
      rw [pc_zero] at he
      refine (s245_4 ⟨fun q1 => ?_, fun q2 => ⟨⟨by omega, by omega⟩, ⟨by omega, by omega⟩, ?_⟩⟩)
      · rw [show c = nS (pcF x.toNat) 18 by omega]; exact kk
      all_goals omega
    | succ n ih =>
      intro m c hm h2 hc he
      have hle := nS_le (f := pcF x.toNat) (c := 1) (n := 18) (fun i _ => by unfold pcF; split <;> decide)
      have hge := nS_ge0 (f := pcF m) (n := 18) (fun i _ => by unfold pcF; split <;> decide)
      have h3 : (2 : Nat) ^ 18 = 262144 := by decide
      refine (s245_4 ⟨fun q1 => ?_, fun q2 => ⟨⟨by omega, by omega⟩, ⟨by omega, by omega⟩, ?_⟩⟩)
      · have e : m = 0 := by omega
        subst e
        rw [pc_zero] at he
        rw [show c = nS (pcF x.toNat) 18 by omega]; exact kk
      · have e : iAnd (m : Int) ((m : Int) - 1) = ((m &&& (m - 1) : Nat) : Int) := by
          rw [show (m : Int) - 1 = ((m - 1 : Nat) : Int) by omega]
          exact n_and (by omega)
        rw [e]
        have l : m &&& (m - 1) ≤ m - 1 := Nat.and_le_right
        have := pc_low 18 m (by omega) h2
        exact ih _ _ (by omega) (by omega) (by omega) (by omega)
  have h3 : (2 : Nat) ^ 18 = 262144 := by decide
  have := go x.toNat x.toNat 0 (Nat.le_refl _) (by omega) (Int.le_refl _) (by omega)
  rw [← z_nat h0] at this
  exact this
/-- a sum over all pairs, both ways round, is twice that over the pairs in order -/
theorem nS_pairs (g : Nat → Nat → Int) (n : Nat) (h0 : ∀ i, g i i = 0) (hs : ∀ i j, g i j = g j i) : nS (fun i => nS (g i) n) n = 2 * nS (fun i => nS (fun j => if i < j then g i j else 0) n) n := by
  have e1 : nS (fun i => nS (g i) n) n = nS (fun i => nS (fun j => if i < j then g i j else 0) n + nS (fun j => if j < i then g i j else 0) n) n := nS_congr (fun i _ => by
    rw [← nS_add]
    exact nS_congr (fun j _ => by
      show g i j = (if i < j then g i j else 0) + (if j < i then g i j else 0)
      by_cases c : i < j
      · rw [if_pos c, if_neg (by omega)]; omega
      · rw [if_neg c]
        by_cases c2 : j < i
        · rw [if_pos c2]; omega
        · rw [if_neg c2, show i = j by omega, h0]; rfl))
  have e2 : nS (fun i => nS (fun j => if j < i then g i j else 0) n) n = nS (fun i => nS (fun j => if i < j then g i j else 0) n) n := by
    rw [nS_swap]
    exact nS_congr (fun i _ => nS_congr (fun j _ => by rw [hs j i]))
  rw [e1, nS_add, e2]; omega
