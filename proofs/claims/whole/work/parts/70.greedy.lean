/-! STEP: kept. The fewest guests, found greedily. -/
def gIn (S : Nat → Int) (n m : Nat) (G : Int) : Int := nS (fun k => if m.testBit k = true ∧ gB S k ≤ G then 1 else 0) n
theorem gIn_pc (S : Nat → Int) (n m : Nat) (G : Int) : gIn S n m G ≤ nS (pcF m) n := by
  have h : ∀ n, gIn S n m G ≤ nS (pcF m) n := fun n => by
    induction n with
    | zero => exact Int.le_refl _
    | succ n ih =>
      show gIn S n m G + (if m.testBit n = true ∧ gB S n ≤ G then 1 else 0) ≤ nS (pcF m) n + (if m.testBit n then 1 else 0)
      by_cases c : m.testBit n = true
      · rw [if_pos c]; split <;> omega
      · rw [if_neg c, if_neg (fun z => c z.1)]; omega
  exact h n
theorem gIn_up {S : Nat → Int} {n m : Nat} {G G' : Int} (h : G ≤ G') (k : Nat) (hk : k < n) (hm : m.testBit k = true) (h1 : G < gB S k) (h2 : gB S k ≤ G') : gIn S n m G + 1 ≤ gIn S n m G' := by
  refine nS_more (fun i hi => ?_) ⟨k, hk, ?_⟩
  · show (if m.testBit i = true ∧ gB S i ≤ G then (1 : Int) else 0) ≤ (if m.testBit i = true ∧ gB S i ≤ G' then (1 : Int) else 0)
    by_cases c : m.testBit i = true ∧ gB S i ≤ G
    · rw [if_pos c, if_pos ⟨c.1, by omega⟩]; exact Int.le_refl _
    · rw [if_neg c]; split <;> decide
  · show (if m.testBit k = true ∧ gB S k ≤ G then (1 : Int) else 0) + 1 ≤ (if m.testBit k = true ∧ gB S k ≤ G' then (1 : Int) else 0)
    rw [if_neg (fun z => by have := z.2; omega), if_pos ⟨hm, h2⟩]
    decide
/-- one more guest: those who come before G is over stay till y at the most -/
theorem gIn_step {S : Nat → Int} {n m : Nat} {g G y r : Int} (hg : g ≤ G) (hG : G ≤ y) (hy : ∀ k : Nat, k < n → gA S k < G → gB S k ≤ y) (hr : isR S m n g r) (h : G < r) : gIn S n m G + 1 ≤ gIn S n m y := by
  by_cases c : clR S m n G
  · have := hr.2.2 G hg c; omega
  · obtain ⟨k, hk⟩ := Classical.not_forall.mp c
    have h0 : k < n := Classical.byContradiction fun z => hk (fun a => absurd a z)
    have h1 : m.testBit k = true := Classical.byContradiction fun z => hk (fun _ a => absurd a z)
    have h2 : gA S k < G := Classical.byContradiction fun z => hk (fun _ _ a => absurd a z)
    have h3 : G < gB S k := by
      rcases Int.lt_or_le G (gB S k) with z | z
      · exact z
      · exact absurd (fun _ _ _ => z) hk
    exact gIn_up hG k h0 h1 h3 (hy k h0 h2)
def gOk (S : Nat → Int) (n : Nat) (g till : Int) (m : Nat) : Prop := ∃ r, isR S m n g r ∧ till ≤ r
def gAt (S : Nat → Int) (n : Nat) (g G j : Int) : Prop := ∃ m : Nat, m < 2 ^ n ∧ nS (pcF m) n = j ∧ (∀ r : Int, g ≤ r → clR S m n r → G ≤ r) ∧ ∀ k : Nat, k < n → m.testBit k = true → gB S k ≤ G
theorem gAt_0 (S : Nat → Int) (n : Nat) (g : Int) : gAt S n g g 0 := ⟨0, Nat.two_pow_pos n, pc_zero n, fun r h _ => h, fun k _ h => by rw [Nat.zero_testBit] at h; exact absurd h (by decide)⟩
theorem gAt_le {S : Nat → Int} {n : Nat} {g G j : Int} (h : gAt S n g G j) : 0 ≤ j ∧ j ≤ n := by
  obtain ⟨m, -, h2, -, -⟩ := h
  have h3 := nS_ge0 (f := pcF m) (n := n) (fun i _ => by unfold pcF; split <;> decide)
  have h4 := nS_le (f := pcF m) (c := 1) (n := n) (fun i _ => by unfold pcF; split <;> decide)
  omega
theorem pc_or {m k : Nat} (hm : ¬ m.testBit k = true) {n : Nat} (hk : k < n) : nS (pcF (m ||| 2 ^ k)) n = nS (pcF m) n + 1 := by
  have := nS_ch (f := pcF m) (g := pcF (m ||| 2 ^ k)) (k := k) hk (fun i _ hne => by
    unfold pcF
    rw [Nat.testBit_or, bit_pow, decide_eq_false (Ne.symm hne), Bool.or_false])
  rw [this]
  have a : pcF m k = 0 := if_neg hm
  have b : pcF (m ||| 2 ^ k) k = 1 := if_pos (by rw [Nat.testBit_or, Nat.testBit_two_pow_self, Bool.or_true])
  rw [a, b]; omega
theorem gAt_step {S : Nat → Int} {n : Nat} {g G j : Int} (h : gAt S n g G j) (k : Nat) (hk : k < n) (h1 : gA S k < G) (h2 : G < gB S k) : gAt S n g (gB S k) (j + 1) := by
  obtain ⟨m, hm, hp, hc, hb⟩ := h
  have hn : ¬ m.testBit k = true := fun z => by have := hb k hk z; omega
  refine ⟨m ||| 2 ^ k, Nat.or_lt_two_pow hm (Nat.pow_lt_pow_right (by decide) hk), by rw [pc_or hn hk, hp], fun r r0 r1 => ?_, fun i hi ht => ?_⟩
  · have hr := hc r r0 (fun i i0 i1 i2 => r1 i i0 (by rw [Nat.testBit_or, i1]; rfl) i2)
    exact r1 k hk (by rw [Nat.testBit_or, Nat.testBit_two_pow_self, Bool.or_true]) (by omega)
  · rw [Nat.testBit_or, bit_pow] at ht
    by_cases c : k = i
    · rw [← c]; exact Int.le_refl _
    · rw [decide_eq_false c, Bool.or_false] at ht
      have := hb i hi ht
      omega
