/-! THE MOST: sets of stays that don't cross, and no more than p at a time. -/
def scF (S : Nat → Int) (s : Nat) : Int := tO S s 4 * 262144 - ((2 ^ s : Nat) : Int)
def scX (S : Nat → Int) (X : Nat) : Int := nS (fun s => if X.testBit s = true then scF S s else 0) 18
def cnX (S : Nat → Int) (X : Nat) (s : Nat) : Int := nS (fun o => if X.testBit o = true ∧ tO S o 2 ≤ tO S s 2 ∧ tO S s 2 < tO S o 3 then 1 else 0) 18
def fkS (od : Nat → Nat) (k s : Nat) : Prop := ∃ i, i < k ∧ od i = s
def vCh (S : Nat → Int) (od : Nat → Nat) (p : Int) (k : Nat) (b : Int) (X : Nat) : Prop := (∀ s : Nat, X.testBit s = true → fkS od k s ∧ b ≤ tO S s 2) ∧ (∀ i j : Nat, X.testBit i = true → X.testBit j = true → ¬ crS S i j 0) ∧ ∀ s : Nat, X.testBit s = true → cnX S X s ≤ p
def mCh (S : Nat → Int) (od : Nat → Nat) (p : Int) (k : Nat) (b v : Int) : Prop := (∃ X, vCh S od p k b X ∧ scX S X = v) ∧ ∀ X, vCh S od p k b X → scX S X ≤ v
def leO (S : Nat → Int) (a b : Nat) : Prop := tO S a 3 < tO S b 3 ∨ (tO S a 3 = tO S b 3 ∧ tO S b 2 ≤ tO S a 2)
def srt (S : Nat → Int) (od : Nat → Nat) (m : Nat) : Prop := (∀ i, i < m → od i < 18 ∧ tO S (od i) 2 < tO S (od i) 3) ∧ (∀ i j, i < j → j < m → leO S (od i) (od j)) ∧ ∀ i j, i < m → j < m → od i = od j → i = j
theorem nS_at {f : Nat → Int} {K : Nat} : ∀ {n : Nat}, K < n → nS (fun s => if s = K then f s else 0) n = f K
  | 0, h => absurd h (Nat.not_lt_zero K)
  | n + 1, h => by
    show nS (fun s => if s = K then f s else 0) n + (if n = K then f n else 0) = f K
    by_cases c : n = K
    · rw [if_pos c, c]
      have : nS (fun s => if s = K then f s else 0) K = 0 := by
        rw [nS_congr (g := fun _ => 0) (fun i hi => if_neg (by omega))]
        exact (nS_zero (fun _ _ => Int.le_refl 0)).mpr (fun _ _ => rfl)
      rw [this]; omega
    · rw [if_neg c, nS_at (n := n) (by omega)]; omega
theorem nS_mno {f g : Nat → Int} : ∀ {n : Nat}, (∀ i, i < n → f i ≤ g i) → nS f n ≤ nS g n
  | 0, _ => Int.le_refl _
  | n + 1, h => by
    have h1 := nS_mno (n := n) (fun i hi => h i (by omega))
    have h2 := h n (by omega)
    show nS f n + f n ≤ nS g n + g n
    omega
section
variable {S : Nat → Int} {od : Nat → Nat} {p : Int} {m k : Nat} {b : Int}
theorem mCh_0 (hp : 0 ≤ p) : mCh S od p 0 b 0 := by
  have z : scX S 0 = 0 := (nS_zero (fun i _ => by show 0 ≤ (if (0 : Nat).testBit i = true then scF S i else 0); rw [if_neg tb0]; exact Int.le_refl 0)).mpr (fun i _ => if_neg tb0)
  refine ⟨⟨0, ⟨fun s hs => absurd hs tb0, fun i _ hi => absurd hi tb0, fun s hs => absurd hs tb0⟩, z⟩, fun X hX => ?_⟩
  have : X = 0 := suB.eq (fun q hq => by
    obtain ⟨⟨i, i0, -⟩, -⟩ := hX.1 q hq
    exact absurd i0 (Nat.not_lt_zero i)) (fun q hq => absurd hq tb0)
  rw [this, z]; exact Int.le_refl 0
/-- with no place nobody -/
theorem mCh_none (hs : srt S od m) (hk : k ≤ m) : mCh S od 0 k b 0 := by
  have z := (mCh_0 (S := S) (od := od) (p := 0) (b := b) (Int.le_refl 0)).1
  obtain ⟨X0, x1, x2⟩ := z
  refine ⟨⟨X0, ⟨fun s hs => ?_, x1.2.1, x1.2.2⟩, x2⟩, fun X hX => ?_⟩
  · obtain ⟨⟨i, i0, -⟩, -⟩ := x1.1 s hs
    exact absurd i0 (Nat.not_lt_zero i)
  · have : X = 0 := suB.eq (fun q hq => by
      obtain ⟨⟨i, i0, i1⟩, -⟩ := hX.1 q hq
      have h1 := hX.2.2 q hq
      have h2 := hs.1 i (by omega)
      rw [i1] at h2
      have h3 := nS_one (f := fun o => if X.testBit o = true ∧ tO S o 2 ≤ tO S q 2 ∧ tO S q 2 < tO S o 3 then (1 : Int) else 0) (n := 18) (i := q) (fun j => by show 0 ≤ (if X.testBit j = true ∧ tO S j 2 ≤ tO S q 2 ∧ tO S q 2 < tO S j 3 then (1 : Int) else 0); split <;> decide) h2.1
      have h4 : (if X.testBit q = true ∧ tO S q 2 ≤ tO S q 2 ∧ tO S q 2 < tO S q 3 then (1 : Int) else 0) = 1 := if_pos ⟨hq, Int.le_refl _, h2.2⟩
      have h5 : (if X.testBit q = true ∧ tO S q 2 ≤ tO S q 2 ∧ tO S q 2 < tO S q 3 then (1 : Int) else 0) ≤ cnX S X q := h3
      omega) (fun q hq => absurd hq tb0)
    rw [this]
    have : scX S 0 = 0 := (nS_zero (fun i _ => by show 0 ≤ (if (0 : Nat).testBit i = true then scF S i else 0); rw [if_neg tb0]; exact Int.le_refl 0)).mpr (fun i _ => if_neg tb0)
    omega
theorem vCh_up {X : Nat} (h : vCh S od p k b X) : vCh S od p (k + 1) b X := ⟨fun s hs => by
  obtain ⟨⟨i, i0, i1⟩, h2⟩ := h.1 s hs
  exact ⟨⟨i, by omega, i1⟩, h2⟩, h.2⟩
theorem vCh_dn {X : Nat} (h : vCh S od p (k + 1) b X) (hn : ¬ X.testBit (od k) = true) : vCh S od p k b X := ⟨fun s hs => by
  obtain ⟨⟨i, i0, i1⟩, h2⟩ := h.1 s hs
  have : i ≠ k := fun z => hn (by rw [← z, i1]; exact hs)
  exact ⟨⟨i, by omega, i1⟩, h2⟩, h.2⟩
theorem mCh_skip {v : Int} (hb : tO S (od k) 2 < b) (h : mCh S od p k b v) : mCh S od p (k + 1) b v := by
  obtain ⟨⟨X, x1, x2⟩, h2⟩ := h
  refine ⟨⟨X, vCh_up x1, x2⟩, fun Y hY => h2 Y (vCh_dn hY (fun z => ?_))⟩
  have := (hY.1 _ z).2
  omega
theorem cn_sub {X Y : Nat} (h : suB X Y) (s : Nat) : cnX S X s ≤ cnX S Y s := nS_mno (fun o _ => by
  show (if X.testBit o = true ∧ tO S o 2 ≤ tO S s 2 ∧ tO S s 2 < tO S o 3 then (1 : Int) else 0) ≤ (if Y.testBit o = true ∧ tO S o 2 ≤ tO S s 2 ∧ tO S s 2 < tO S o 3 then (1 : Int) else 0)
  by_cases c : X.testBit o = true ∧ tO S o 2 ≤ tO S s 2 ∧ tO S s 2 < tO S o 3
  · rw [if_pos c, if_pos ⟨h o c.1, c.2⟩]; exact Int.le_refl _
  · rw [if_neg c]; split <;> decide)
/-- whoever stands ahead and doesn't cross lies within, or is over -/
theorem in_or {i : Nat} (hs : srt S od m) (hi : i < k) (hk : k < m) (hc : ¬ crS S (od i) (od k) 0) (hf : tO S (od i) 2 < tO S (od k) 2) : tO S (od i) 3 ≤ tO S (od k) 2 := by
  have h1 := hs.2.1 i k hi hk
  have h2 : ¬ crB S (od i) (od k) 0 := fun z => hc (Or.inl z)
  unfold crB at h2
  unfold leO at h1
  rcases Int.lt_or_le (tO S (od k) 2) (tO S (od i) 3) with z | z
  · exact absurd ⟨hf, Or.inl ⟨rfl, z, by omega⟩⟩ h2
  · exact z
theorem mCh_take {v u w : Int} {o : Nat} (hp : 1 ≤ p) (hs : srt S od m) (hk : k < m) (hb : b ≤ tO S (od k) 2) (ho : o ≤ k) (ho1 : ∀ i, i < o → tO S (od i) 3 ≤ tO S (od k) 2) (ho2 : ∀ i, o ≤ i → i < k → tO S (od k) 2 < tO S (od i) 3) (hv : mCh S od p k b v) (hu : mCh S od p o b u) (hw : mCh S od (p - 1) k (tO S (od k) 2) w) : mCh S od p (k + 1) b (if v < scF S (od k) + w + u then scF S (od k) + w + u else v) := by
  obtain ⟨⟨V, v1, v2⟩, v3⟩ := hv
  obtain ⟨⟨B, b1, b2⟩, b3⟩ := hu
  obtain ⟨⟨A, a1, a2⟩, a3⟩ := hw
  have hK := hs.1 k hk
  -- sums of three
  have sum : ∀ X A' B' : Nat, (∀ q : Nat, X.testBit q = true ↔ q = od k ∨ A'.testBit q = true ∨ B'.testBit q = true) → ¬ A'.testBit (od k) = true → ¬ B'.testBit (od k) = true → (∀ q : Nat, A'.testBit q = true → ¬ B'.testBit q = true) → scX S X = scF S (od k) + scX S A' + scX S B' := fun X A' B' e nA nB dj => by
    have e1 : scX S X = nS (fun s => (if s = od k then scF S s else 0) + ((if A'.testBit s = true then scF S s else 0) + (if B'.testBit s = true then scF S s else 0))) 18 := nS_congr (fun s _ => by
      show (if X.testBit s = true then scF S s else 0) = (if s = od k then scF S s else 0) + ((if A'.testBit s = true then scF S s else 0) + (if B'.testBit s = true then scF S s else 0))
      have es := e s
      by_cases c1 : s = od k
      · rw [if_pos (es.mpr (Or.inl c1)), if_pos c1, if_neg (by rw [c1]; exact nA), if_neg (by rw [c1]; exact nB)]; omega
      · rw [if_neg c1]
        by_cases c2 : A'.testBit s = true
        · rw [if_pos (es.mpr (Or.inr (Or.inl c2))), if_pos c2, if_neg (dj s c2)]; omega
        · rw [if_neg c2]
          by_cases c3 : B'.testBit s = true
          · rw [if_pos (es.mpr (Or.inr (Or.inr c3))), if_pos c3]; omega
          · rw [if_neg c3, if_neg (fun z => (es.mp z).elim c1 (fun y => y.elim c2 c3))]; rfl)
    rw [e1, nS_add, nS_add, nS_at hK.1]
    show scF S (od k) + (scX S A' + scX S B') = _
    omega
  have bA : ∀ q, A.testBit q = true → q < 18 ∧ q ≠ od k ∧ tO S (od k) 2 ≤ tO S q 2 ∧ ∃ i, i < k ∧ od i = q := fun q hq => by
    obtain ⟨⟨i, i0, i1⟩, h2⟩ := a1.1 q hq
    have := hs.1 i (by omega)
    refine ⟨by rw [← i1]; exact this.1, fun z => ?_, h2, i, i0, i1⟩
    have := hs.2.2 i k (by omega) hk (i1.trans z)
    omega
  have bB : ∀ q, B.testBit q = true → q < 18 ∧ q ≠ od k ∧ tO S q 3 ≤ tO S (od k) 2 ∧ tO S q 2 < tO S q 3 ∧ ∃ i, i < k ∧ od i = q := fun q hq => by
    obtain ⟨⟨i, i0, i1⟩, h2⟩ := b1.1 q hq
    have := hs.1 i (by omega)
    have h3 := ho1 i i0
    rw [i1] at this h3
    refine ⟨this.1, fun z => ?_, h3, this.2, i, by omega, i1⟩
    have := hs.2.2 i k (by omega) hk (i1.trans z)
    omega
  -- the three together
  obtain ⟨X, hX⟩ : ∃ X, X = mskN (fun q => decide (q = od k) || (A.testBit q || B.testBit q)) 18 := ⟨_, rfl⟩
  have xb : ∀ q, X.testBit q = true ↔ q = od k ∨ A.testBit q = true ∨ B.testBit q = true := fun q => by
    rw [hX, mskN_bit, Bool.and_eq_true, Bool.or_eq_true, Bool.or_eq_true, decide_eq_true_iff, decide_eq_true_iff]
    refine ⟨fun h => h.2, fun h => ⟨?_, h⟩⟩
    rcases h with z | z | z
    · rw [z]; exact hK.1
    · exact (bA q z).1
    · exact (bB q z).1
  have dj : ∀ q, A.testBit q = true → ¬ B.testBit q = true := fun q ha hb2 => by
    have h1 := (bA q ha).2.2.1
    obtain ⟨-, -, h2, h3, -⟩ := bB q hb2
    omega
  have vX : vCh S od p (k + 1) b X := by
    refine ⟨fun q hq => ?_, fun i j hi hj => ?_, fun q hq => ?_⟩
    · rcases (xb q).mp hq with z | z | z
      · rw [z]; exact ⟨⟨k, by omega, rfl⟩, hb⟩
      · obtain ⟨-, -, h2, i, i0, i1⟩ := bA q z
        exact ⟨⟨i, by omega, i1⟩, by omega⟩
      · obtain ⟨⟨i, i0, i1⟩, h2⟩ := b1.1 q z
        exact ⟨⟨i, by omega, i1⟩, h2⟩
    · -- no two cross
      have kA : ∀ q, A.testBit q = true → ¬ crS S (od k) q 0 := fun q hq h => by
        obtain ⟨-, -, h2, i, i0, i1⟩ := bA q hq
        have h3 := hs.2.1 i k i0 hk
        rw [i1] at h3
        unfold leO at h3
        rcases h with ⟨h4, ⟨-, h5, h6⟩ | ⟨h5, -⟩⟩ | ⟨h4, ⟨-, h5, h6⟩ | ⟨h5, -⟩⟩
        · omega
        · exact absurd h5 (by decide)
        · omega
        · exact absurd h5 (by decide)
      have kB : ∀ q, B.testBit q = true → ¬ crS S (od k) q 0 := fun q hq h => by
        obtain ⟨-, -, h2, h3, -⟩ := bB q hq
        rcases h with ⟨h4, ⟨-, h5, h6⟩ | ⟨h5, -⟩⟩ | ⟨h4, ⟨-, h5, h6⟩ | ⟨h5, -⟩⟩
        · omega
        · exact absurd h5 (by decide)
        · omega
        · exact absurd h5 (by decide)
      have AB : ∀ q r, A.testBit q = true → B.testBit r = true → ¬ crS S q r 0 := fun q r hq hr h => by
        have h1 := (bA q hq).2.2.1
        obtain ⟨-, -, h2, h3, -⟩ := bB r hr
        rcases h with ⟨h4, ⟨-, h5, h6⟩ | ⟨h5, -⟩⟩ | ⟨h4, ⟨-, h5, h6⟩ | ⟨h5, -⟩⟩
        · omega
        · exact absurd h5 (by decide)
        · omega
        · exact absurd h5 (by decide)
      rcases (xb i).mp hi with z | z | z <;> rcases (xb j).mp hj with y | y | y
      · rw [z, y]; exact crS_ir
      · rw [z]; exact kA j y
      · rw [z]; exact kB j y
      · rw [y]; exact fun h => kA i z h.sym
      · exact a1.2.1 i j z y
      · exact AB i j z y
      · rw [y]; exact fun h => kB i z h.sym
      · exact fun h => AB j i y z h.sym
      · exact b1.2.1 i j z y
    · -- no more than p at a time
      have atA : ∀ a, A.testBit a = true → cnX S X a ≤ p := fun a ha => by
        have h1 := (bA a ha).2.2.1
        have h2 := a1.2.2 a ha
        have h3 : cnX S X a ≤ nS (fun q => (if A.testBit q = true ∧ tO S q 2 ≤ tO S a 2 ∧ tO S a 2 < tO S q 3 then (1 : Int) else 0) + (if q = od k then 1 else 0)) 18 := nS_mno (fun q _ => by
          show (if X.testBit q = true ∧ tO S q 2 ≤ tO S a 2 ∧ tO S a 2 < tO S q 3 then (1 : Int) else 0) ≤ (if A.testBit q = true ∧ tO S q 2 ≤ tO S a 2 ∧ tO S a 2 < tO S q 3 then (1 : Int) else 0) + (if q = od k then 1 else 0)
          by_cases c : X.testBit q = true ∧ tO S q 2 ≤ tO S a 2 ∧ tO S a 2 < tO S q 3
          · rw [if_pos c]
            rcases (xb q).mp c.1 with z | z | z
            · rw [if_pos z]; split <;> decide
            · rw [if_pos ⟨z, c.2⟩]; split <;> decide
            · have := (bB q z).2.2.1
              have := c.2.2
              omega
          · rw [if_neg c]; split <;> split <;> decide)
        rw [nS_add, nS_at (f := fun _ => 1) hK.1] at h3
        have h4 : cnX S X a ≤ cnX S A a + 1 := h3
        omega
      rcases (xb q).mp hq with z | z | z
      · by_cases c : ∃ a, A.testBit a = true ∧ tO S a 2 = tO S (od k) 2
        · obtain ⟨a, ha, hf⟩ := c
          have := atA a ha
          have e : cnX S X q = cnX S X a := nS_congr (fun o _ => by rw [z, hf])
          omega
        · have h3 : cnX S X q ≤ nS (fun q => if q = od k then (1 : Int) else 0) 18 := nS_mno (fun r _ => by
            show (if X.testBit r = true ∧ tO S r 2 ≤ tO S q 2 ∧ tO S q 2 < tO S r 3 then (1 : Int) else 0) ≤ (if r = od k then (1 : Int) else 0)
            by_cases c2 : X.testBit r = true ∧ tO S r 2 ≤ tO S q 2 ∧ tO S q 2 < tO S r 3
            · have h5 := c2.2
              rw [z] at h5
              rcases (xb r).mp c2.1 with y | y | y
              · rw [if_pos c2, if_pos y]; decide
              · exact absurd ⟨r, y, by have := (bA r y).2.2.1; omega⟩ c
              · have := (bB r y).2.2.1
                omega
            · rw [if_neg c2]; split <;> decide)
          rw [nS_at (f := fun _ => 1) hK.1] at h3
          omega
      · exact atA q z
      · have h2 := b1.2.2 q z
        obtain ⟨-, -, h5, h6, -⟩ := bB q z
        have h3 : cnX S X q ≤ cnX S B q := nS_mno (fun r _ => by
          show (if X.testBit r = true ∧ tO S r 2 ≤ tO S q 2 ∧ tO S q 2 < tO S r 3 then (1 : Int) else 0) ≤ (if B.testBit r = true ∧ tO S r 2 ≤ tO S q 2 ∧ tO S q 2 < tO S r 3 then (1 : Int) else 0)
          by_cases c2 : X.testBit r = true ∧ tO S r 2 ≤ tO S q 2 ∧ tO S q 2 < tO S r 3
          · have h7 := c2.2
            rcases (xb r).mp c2.1 with y | y | y
            · rw [y] at h7; omega
            · have := (bA r y).2.2.1
              omega
            · rw [if_pos c2, if_pos ⟨y, c2.2⟩]; exact Int.le_refl _
          · rw [if_neg c2]; split <;> decide)
        omega
  constructor
  · by_cases c : v < scF S (od k) + w + u
    · rw [if_pos c]
      exact ⟨X, vX, by rw [sum X A B xb (fun z => (bA _ z).2.1 rfl) (fun z => (bB _ z).2.1 rfl) dj, a2, b2]⟩
    · rw [if_neg c]; exact ⟨V, vCh_up v1, v2⟩
  · intro Y hY
    have key : scX S Y ≤ v ∨ scX S Y ≤ scF S (od k) + w + u := by
      by_cases hk2 : Y.testBit (od k) = true
      · right
        have yl : ∀ q, Y.testBit q = true → q < 18 := fun q hq => by
          obtain ⟨⟨i, i0, i1⟩, -⟩ := hY.1 q hq
          rw [← i1]; exact (hs.1 i (by omega)).1
        have ab : ∀ q, (mskN (fun s => Y.testBit s && (!decide (s = od k) && decide (tO S (od k) 2 ≤ tO S (s : Int) 2))) 18).testBit q = true ↔ Y.testBit q = true ∧ q ≠ od k ∧ tO S (od k) 2 ≤ tO S q 2 := fun q => by
          rw [mskN_bit, Bool.and_eq_true, Bool.and_eq_true, Bool.and_eq_true, decide_eq_true_iff, decide_eq_true_iff, Bool.not_eq_true', decide_eq_false_iff_not]
          exact ⟨fun h => h.2, fun h => ⟨yl q h.1, h⟩⟩
        have bb : ∀ q, (mskN (fun s => Y.testBit s && (!decide (s = od k) && decide (tO S (s : Int) 2 < tO S (od k) 2))) 18).testBit q = true ↔ Y.testBit q = true ∧ q ≠ od k ∧ tO S q 2 < tO S (od k) 2 := fun q => by
          rw [mskN_bit, Bool.and_eq_true, Bool.and_eq_true, Bool.and_eq_true, decide_eq_true_iff, decide_eq_true_iff, Bool.not_eq_true', decide_eq_false_iff_not]
          exact ⟨fun h => h.2, fun h => ⟨yl q h.1, h⟩⟩
        have pos : ∀ q, Y.testBit q = true → q ≠ od k → ∃ i, i < k ∧ od i = q := fun q hq ne => by
          obtain ⟨⟨i, i0, i1⟩, -⟩ := hY.1 q hq
          have : i ≠ k := fun z => ne (by rw [← i1, z])
          exact ⟨i, by omega, i1⟩
        rw [sum Y _ _ (fun q => by
          rw [ab, bb]
          constructor
          · intro h
            by_cases c : q = od k
            · exact Or.inl c
            · by_cases c2 : tO S (od k) 2 ≤ tO S q 2
              · exact Or.inr (Or.inl ⟨h, c, c2⟩)
              · exact Or.inr (Or.inr ⟨h, c, by omega⟩)
          · rintro (h | h | h)
            · rw [h]; exact hk2
            · exact h.1
            · exact h.1) (fun z => ((ab _).mp z).2.1 rfl) (fun z => ((bb _).mp z).2.1 rfl) (fun q z y => by have := ((ab _).mp z).2.2; have := ((bb _).mp y).2.2; omega)]
        have hA := a3 _ ⟨fun q hq => by
          obtain ⟨h1, h2, h3⟩ := (ab q).mp hq
          exact ⟨pos q h1 h2, h3⟩, fun i j hi hj => hY.2.1 i j ((ab i).mp hi).1 ((ab j).mp hj).1, fun q hq => by
          obtain ⟨h1, h2, h3⟩ := (ab q).mp hq
          have h4 := hY.2.2 q h1
          obtain ⟨i, i0, i1⟩ := pos q h1 h2
          have h5 := hs.2.1 i k i0 hk
          have h6 := (hs.1 i (by omega)).2
          rw [i1] at h5 h6
          unfold leO at h5
          have h7 : cnX S (mskN (fun s => Y.testBit s && (!decide (s = od k) && decide (tO S (od k) 2 ≤ tO S (s : Int) 2))) 18) q + 1 ≤ cnX S Y q := nS_more (fun r hr => by
            show (if (mskN (fun s => Y.testBit s && (!decide (s = od k) && decide (tO S (od k) 2 ≤ tO S (s : Int) 2))) 18).testBit r = true ∧ tO S r 2 ≤ tO S q 2 ∧ tO S q 2 < tO S r 3 then (1 : Int) else 0) ≤ (if Y.testBit r = true ∧ tO S r 2 ≤ tO S q 2 ∧ tO S q 2 < tO S r 3 then (1 : Int) else 0)
            by_cases c : (mskN (fun s => Y.testBit s && (!decide (s = od k) && decide (tO S (od k) 2 ≤ tO S (s : Int) 2))) 18).testBit r = true ∧ tO S r 2 ≤ tO S q 2 ∧ tO S q 2 < tO S r 3
            · rw [if_pos c, if_pos ⟨((ab r).mp c.1).1, c.2⟩]; exact Int.le_refl _
            · rw [if_neg c]; split <;> decide) ⟨od k, hK.1, by
            show (if (mskN (fun s => Y.testBit s && (!decide (s = od k) && decide (tO S (od k) 2 ≤ tO S (s : Int) 2))) 18).testBit (od k) = true ∧ tO S (od k) 2 ≤ tO S q 2 ∧ tO S q 2 < tO S (od k) 3 then (1 : Int) else 0) + 1 ≤ (if Y.testBit (od k) = true ∧ tO S (od k) 2 ≤ tO S q 2 ∧ tO S q 2 < tO S (od k) 3 then (1 : Int) else 0)
            rw [if_neg (fun z => ((ab _).mp z.1).2.1 rfl), if_pos ⟨hk2, h3, by omega⟩]; decide⟩
          omega⟩
        have hB := b3 _ ⟨fun q hq => by
          obtain ⟨h1, h2, h3⟩ := (bb q).mp hq
          obtain ⟨i, i0, i1⟩ := pos q h1 h2
          refine ⟨⟨i, ?_, i1⟩, (hY.1 q h1).2⟩
          have h4 := in_or hs i0 hk (by rw [i1]; exact hY.2.1 q (od k) h1 hk2) (by rw [i1]; exact h3)
          rcases Nat.lt_or_ge i o with c | c
          · exact c
          · have := ho2 i c i0; omega, fun i j hi hj => hY.2.1 i j ((bb i).mp hi).1 ((bb j).mp hj).1, fun q hq => by
          have h1 := hY.2.2 q ((bb q).mp hq).1
          have h2 := cn_sub (S := S) (X := mskN (fun s => Y.testBit s && (!decide (s = od k) && decide (tO S (s : Int) 2 < tO S (od k) 2))) 18) (Y := Y) (fun r hr => ((bb r).mp hr).1) q
          omega⟩
        omega
      · exact Or.inl (v3 Y (vCh_dn hY hk2))
    by_cases c : v < scF S (od k) + w + u
    · rw [if_pos c]; omega
    · rw [if_neg c]; omega
end
