/-! ORDERS: how many there are, and the first. -/
def wR (S : Nat → Int) (k : Nat) : Int := S (226 + (k : Int)).toNat
def ahd (S : Nat → Int) (q p : Nat) : Prop := (p : Int) < S 6 ∧ (q : Int) < S 6 ∧ ∃ f : Nat, (f : Int) < S 7 ∧ S (234 + (2 * (f : Int))).toNat = wR S p ∧ S ((234 + (2 * (f : Int))) + 1).toNat = wR S q
/-- who is still in: some lesser one has not come -/
def stkQ (come q : Nat) : Prop := ∀ p g : Nat, come.testBit p = true → g < p → ¬ come.testBit g = true → q < p
def mayQ (S : Nat → Int) (come q : Nat) : Prop := ¬ come.testBit q = true ∧ stkQ come q ∧ ∀ p, ahd S q p → come.testBit p = true
noncomputable def mayB (S : Nat → Int) (come q : Nat) : Bool := @decide (mayQ S come q) (Classical.propDecidable _)
theorem mayB_i {S : Nat → Int} {come q : Nat} : mayB S come q = true ↔ mayQ S come q := @decide_eq_true_iff _ (Classical.propDecidable _)
noncomputable def wY (S : Nat → Int) (n : Nat) : Nat → Nat → Int
  | 0, _ => 1
  | r + 1, come => nS (fun q => if mayB S come q = true then wY S n r (come ||| 2 ^ q) else 0) n
/-- those who came first, as bits -/
def cmM (c : Nat → Nat) : Nat → Nat
  | 0 => 0
  | k + 1 => cmM c k ||| 2 ^ c k
theorem cmM_bit {c : Nat → Nat} {p : Nat} : ∀ {k : Nat}, (cmM c k).testBit p = true ↔ ∃ i, i < k ∧ c i = p
  | 0 => ⟨fun h => absurd h tb0, fun ⟨i, h, _⟩ => absurd h (Nat.not_lt_zero i)⟩
  | k + 1 => by
    show (cmM c k ||| 2 ^ c k).testBit p = true ↔ _
    rw [or_tb, cmM_bit (k := k)]
    constructor
    · rintro (⟨i, i0, i1⟩ | h)
      · exact ⟨i, by omega, i1⟩
      · exact ⟨k, by omega, h⟩
    · rintro ⟨i, i0, i1⟩
      by_cases z : i = k
      · rw [z] at i1; exact Or.inr i1
      · exact Or.inl ⟨i, by omega, i1⟩
theorem cmM_congr {c c' : Nat → Nat} : ∀ {k : Nat}, (∀ i, i < k → c i = c' i) → cmM c k = cmM c' k
  | 0, _ => rfl
  | k + 1, h => by
    show cmM c k ||| 2 ^ c k = cmM c' k ||| 2 ^ c' k
    rw [cmM_congr (k := k) (fun i hi => h i (by omega)), h k (by omega)]
/-- the one at k + j is put at k -/
def rot (c : Nat → Nat) (k j : Nat) : Nat → Nat := fun i => if i < k then c i else if i = k then c (k + j) else if i ≤ k + j then c (i - 1) else c i
def rev (n : Nat) (c : Nat → Nat) (k : Nat) : Nat → Nat := fun i => if i < k then c i else c (k + n - 1 - i)
def vld (S : Nat → Int) (c : Nat → Nat) (i : Nat) : Prop := mayQ S (cmM c i) (c i)
def good (S : Nat → Int) (n : Nat) (c : Nat → Nat) : Prop := ∀ i, i < n → vld S c i
noncomputable def gdB (S : Nat → Int) (n : Nat) (c : Nat → Nat) : Bool := @decide (good S n c) (Classical.propDecidable _)
theorem gdB_i {S : Nat → Int} {n : Nat} {c : Nat → Nat} : gdB S n c = true ↔ good S n c := @decide_eq_true_iff _ (Classical.propDecidable _)
noncomputable def aT (S : Nat → Int) (n : Nat) : Nat → Nat → (Nat → Nat) → Int
  | 0, _, c => if gdB S n c = true then 1 else 0
  | r + 1, k, c => sF (fun j => aT S n r (k + 1) (rot c k j)) 0 (r + 1)
noncomputable def aP (S : Nat → Int) (n : Nat) : Nat → Nat → (Nat → Nat) → Option (Nat → Nat)
  | 0, _, c => if gdB S n c = true then some c else none
  | r + 1, k, c => fF (fun j => aP S n r (k + 1) (rot c k j)) 0 (r + 1)
/-- all places, each once -/
def prm (n : Nat) (c : Nat → Nat) : Prop := (∀ i, i < n → c i < n) ∧ ∀ i j, i < n → j < n → c i = c j → i = j
section
variable {S : Nat → Int} {n : Nat}
theorem rot_p {c : Nat → Nat} {k j : Nat} (h : prm n c) (hk : k + j < n) : prm n (rot c k j) := by
  have e : ∀ i, i < n → ∃ i', i' < n ∧ rot c k j i = c i' ∧ (i < k → i' = i) ∧ (i = k → i' = k + j) ∧ (k < i → i ≤ k + j → i' = i - 1) ∧ (k + j < i → i' = i) := fun i hi => by
    unfold rot
    by_cases a : i < k
    · rw [if_pos a]; exact ⟨i, hi, rfl, fun _ => rfl, fun z => by omega, fun z _ => by omega, fun z => by omega⟩
    · rw [if_neg a]
      by_cases b : i = k
      · rw [if_pos b]; exact ⟨k + j, hk, rfl, fun z => by omega, fun _ => rfl, fun z _ => by omega, fun z => by omega⟩
      · rw [if_neg b]
        by_cases d : i ≤ k + j
        · rw [if_pos d]; exact ⟨i - 1, by omega, rfl, fun z => by omega, fun z => by omega, fun _ _ => rfl, fun z => by omega⟩
        · rw [if_neg d]; exact ⟨i, hi, rfl, fun _ => rfl, fun z => by omega, fun z _ => by omega, fun _ => rfl⟩
  constructor
  · intro i hi
    obtain ⟨i', h1, h2, -⟩ := e i hi
    rw [h2]; exact h.1 i' h1
  · intro i j' hi hj hij
    obtain ⟨x, x1, x2, x3⟩ := e i hi
    obtain ⟨y, y1, y2, y3⟩ := e j' hj
    rw [x2, y2] at hij
    have := h.2 x y x1 y1 hij
    omega
theorem nS_inj {F : Nat → Int} {c : Nat → Nat} (h : prm n c) : nS (fun i => F (c i)) n = nS F n := by
  have hin : ∀ q, nS (fun i => if ((c i : Nat) : Int) = (q : Int) then (1 : Int) else 0) n ≤ 1 := fun q => nS_le1 (fun i _ => by
    show (if ((c i : Nat) : Int) = (q : Int) then (1 : Int) else 0) = 0 ∨ (if ((c i : Nat) : Int) = (q : Int) then (1 : Int) else 0) = 1
    split
    · exact Or.inr rfl
    · exact Or.inl rfl) (fun i j hi hj h1 h2 => by
    have a : ((c i : Nat) : Int) = (q : Int) := Classical.byContradiction fun z => by rw [if_neg z] at h1; exact absurd h1 (by decide)
    have b : ((c j : Nat) : Int) = (q : Int) := Classical.byContradiction fun z => by rw [if_neg z] at h2; exact absurd h2 (by decide)
    exact h.2 i j hi hj (by omega))
  have tot : nS (fun q => nS (fun i => if ((c i : Nat) : Int) = (q : Int) then (1 : Int) else 0) n) n = (n : Int) := by
    rw [nS_swap]
    rw [nS_congr (g := fun _ => 1) (fun i hi => by rw [nS_hit, if_pos ⟨by omega, by have := h.1 i hi; omega⟩])]
    have : ∀ m : Nat, nS (fun _ => (1 : Int)) m = (m : Int) := fun m => by
      induction m with
      | zero => rfl
      | succ m ih => show nS (fun _ => (1 : Int)) m + 1 = _; rw [ih]; omega
    exact this n
  have ones : ∀ m : Nat, nS (fun _ => (1 : Int)) m = (m : Int) := fun m => by
    induction m with
    | zero => rfl
    | succ m ih => show nS (fun _ => (1 : Int)) m + 1 = _; rw [ih]; omega
  have each : ∀ q, q < n → nS (fun i => if ((c i : Nat) : Int) = (q : Int) then (1 : Int) else 0) n = 1 := fun q hq => by
    have z : nS (fun q => 1 + (-1) * nS (fun i => if ((c i : Nat) : Int) = (q : Int) then (1 : Int) else 0) n) n = 0 := by
      have sub : ∀ m : Nat, nS (fun q => 1 + (-1) * nS (fun i => if ((c i : Nat) : Int) = (q : Int) then (1 : Int) else 0) n) m = nS (fun _ => (1 : Int)) m - nS (fun q => nS (fun i => if ((c i : Nat) : Int) = (q : Int) then (1 : Int) else 0) n) m := fun m => by
        induction m with
        | zero => rfl
        | succ m ih =>
          show nS (fun q => 1 + (-1) * nS (fun i => if ((c i : Nat) : Int) = (q : Int) then (1 : Int) else 0) n) m + (1 + (-1) * nS (fun i => if ((c i : Nat) : Int) = ((m : Nat) : Int) then (1 : Int) else 0) n) = (nS (fun _ => (1 : Int)) m + 1) - (nS (fun q => nS (fun i => if ((c i : Nat) : Int) = (q : Int) then (1 : Int) else 0) n) m + nS (fun i => if ((c i : Nat) : Int) = ((m : Nat) : Int) then (1 : Int) else 0) n)
          omega
      rw [sub n, tot, ones n]; omega
    have := (nS_zero (f := fun q => 1 + (-1) * nS (fun i => if ((c i : Nat) : Int) = (q : Int) then (1 : Int) else 0) n) (fun q _ => by have := hin q; show 0 ≤ 1 + (-1) * nS (fun i => if ((c i : Nat) : Int) = (q : Int) then (1 : Int) else 0) n; omega)).mp z q hq
    have t : 1 + (-1) * nS (fun i => if ((c i : Nat) : Int) = (q : Int) then (1 : Int) else 0) n = 0 := this
    omega
  have e1 : nS F n = nS (fun q => nS (fun i => if ((c i : Nat) : Int) = (q : Int) then F q else 0) n) n := nS_congr (fun q hq => by
    have h1 := each q hq
    have mul : ∀ m : Nat, nS (fun i => if ((c i : Nat) : Int) = (q : Int) then F q else 0) m = nS (fun i => if ((c i : Nat) : Int) = (q : Int) then (1 : Int) else 0) m * F q := fun m => by
      induction m with
      | zero => show (0 : Int) = 0 * F q; rw [Int.zero_mul]
      | succ m ih =>
        show nS (fun i => if ((c i : Nat) : Int) = (q : Int) then F q else 0) m + (if ((c m : Nat) : Int) = (q : Int) then F q else 0) = (nS (fun i => if ((c i : Nat) : Int) = (q : Int) then (1 : Int) else 0) m + (if ((c m : Nat) : Int) = (q : Int) then (1 : Int) else 0)) * F q
        rw [ih, Int.add_mul]
        by_cases z : ((c m : Nat) : Int) = (q : Int)
        · rw [if_pos z, if_pos z, Int.one_mul]
        · rw [if_neg z, if_neg z, Int.zero_mul]
    show F q = _
    rw [mul n, h1, Int.one_mul])
  rw [e1, nS_swap]
  refine nS_congr (fun i hi => ?_)
  show F (c i) = nS (fun q => if ((c i : Nat) : Int) = (q : Int) then F q else 0) n
  rw [nS_congr (g := fun q => if q = c i then F q else 0) (fun q _ => by
    show (if ((c i : Nat) : Int) = (q : Int) then F q else 0) = if q = c i then F q else 0
    by_cases z : q = c i
    · rw [if_pos z, if_pos (by omega)]
    · rw [if_neg z, if_neg (by omega)])]
  exact (nS_at (h.1 i hi)).symm
theorem wY_b : ∀ (r come : Nat), n ≤ 8 → 0 ≤ wY S n r come ∧ wY S n r come ≤ ((8 ^ r : Nat) : Int)
  | 0, _, _ => by show (0 : Int) ≤ 1 ∧ (1 : Int) ≤ ((1 : Nat) : Int); decide
  | r + 1, come, hn => by
    have e : ∀ q, 0 ≤ (if mayB S come q = true then wY S n r (come ||| 2 ^ q) else 0) ∧ (if mayB S come q = true then wY S n r (come ||| 2 ^ q) else 0) ≤ ((8 ^ r : Nat) : Int) := fun q => by
      have := wY_b r (come ||| 2 ^ q) hn
      split <;> omega
    have h1 := nS_ge0 (f := fun q => if mayB S come q = true then wY S n r (come ||| 2 ^ q) else 0) (n := n) (fun q _ => (e q).1)
    have h2 := nS_le (f := fun q => if mayB S come q = true then wY S n r (come ||| 2 ^ q) else 0) (c := ((8 ^ r : Nat) : Int)) (n := n) (fun q _ => (e q).2)
    have h3 : ((8 ^ r : Nat) : Int) * (n : Int) ≤ ((8 ^ r : Nat) : Int) * 8 := Int.mul_le_mul_of_nonneg_left (by omega) (Int.natCast_nonneg (8 ^ r))
    have e2 : wY S n (r + 1) come = nS (fun q => if mayB S come q = true then wY S n r (come ||| 2 ^ q) else 0) n := rfl
    rw [Nat.pow_succ, e2]
    omega
theorem vld_congr {c c' : Nat → Nat} {i : Nat} (h : ∀ j, j ≤ i → c j = c' j) : vld S c i ↔ vld S c' i := by
  unfold vld
  rw [cmM_congr (fun j hj => h j (by omega)), h i (Nat.le_refl i)]
/-- the ways of those who have come -/
theorem aT_wY : ∀ (r k : Nat) (c : Nat → Nat), k + r = n → prm n c → ((∀ i, i < k → vld S c i) → aT S n r k c = wY S n r (cmM c k)) ∧ (¬ (∀ i, i < k → vld S c i) → aT S n r k c = 0)
  | 0, k, c, hk, hp => by
    have hkn : k = n := by omega
    subst hkn
    constructor
    · intro h
      show (if gdB S k c = true then (1 : Int) else 0) = 1
      exact if_pos (gdB_i.mpr h)
    · intro h
      show (if gdB S k c = true then (1 : Int) else 0) = 0
      exact if_neg (fun z => h (gdB_i.mp z))
  | r + 1, k, c, hk, hp => by
    have e : aT S n (r + 1) k c = sF (fun j => aT S n r (k + 1) (rot c k j)) 0 (r + 1) := rfl
    have pre : ∀ j i, i < k → rot c k j i = c i := fun j i hi => by unfold rot; rw [if_pos hi]
    have atk : ∀ j, rot c k j k = c (k + j) := fun j => by unfold rot; rw [if_neg (Nat.lt_irrefl k), if_pos rfl]
    have ih := fun j (hj : k + j < n) => aT_wY r (k + 1) (rot c k j) (by omega) (rot_p hp hj)
    constructor
    · intro h
      have t : ∀ j, 0 ≤ j → j < 0 + (r + 1) → aT S n r (k + 1) (rot c k j) = (fun i => if mayB S (cmM c k) (c i) = true then wY S n r (cmM c k ||| 2 ^ c i) else 0) (k + j) := fun j _ hj => by
        show _ = if mayB S (cmM c k) (c (k + j)) = true then wY S n r (cmM c k ||| 2 ^ c (k + j)) else 0
        have ecm : cmM (rot c k j) k = cmM c k := cmM_congr (fun i hi => pre j i hi)
        have ev : vld S (rot c k j) k ↔ mayQ S (cmM c k) (c (k + j)) := by unfold vld; rw [ecm, atk]
        by_cases z : mayB S (cmM c k) (c (k + j)) = true
        · rw [if_pos z, (ih j (by omega)).1 (fun i hi => by
            by_cases y : i = k
            · rw [y]; exact ev.mpr (mayB_i.mp z)
            · exact (vld_congr (fun l hl => pre j l (by omega))).mpr (h i (by omega)))]
          show wY S n r (cmM (rot c k j) k ||| 2 ^ rot c k j k) = _
          rw [ecm, atk]
        · rw [if_neg z]
          exact (ih j (by omega)).2 (fun w => z (mayB_i.mpr (ev.mp (w k (by omega)))))
      have shift : ∀ (G : Nat → Int) (m x : Nat), sF (fun j => G (k + j)) x m = sF G (k + x) m := fun G m => by
        induction m with
        | zero => exact fun _ => rfl
        | succ m ih2 =>
          intro x
          show G (k + x) + sF (fun j => G (k + j)) (x + 1) m = G (k + x) + sF G (k + x + 1) m
          rw [ih2 (x + 1)]; rfl
      rw [e, sF_congr t, shift (fun i => if mayB S (cmM c k) (c i) = true then wY S n r (cmM c k ||| 2 ^ c i) else 0) (r + 1) 0, Nat.add_zero]
      have s1 := sF_nS (g := fun i => if mayB S (cmM c k) (c i) = true then wY S n r (cmM c k ||| 2 ^ c i) else 0) (c := r + 1) (x := k)
      have s2 : nS (fun i => if mayB S (cmM c k) (c i) = true then wY S n r (cmM c k ||| 2 ^ c i) else 0) k = 0 := by
        rw [nS_congr (g := fun _ => 0) (fun i hi => if_neg (fun z => (mayB_i.mp z).1 (cmM_bit.mpr ⟨i, hi, rfl⟩)))]
        exact (nS_zero (fun _ _ => Int.le_refl 0)).mpr (fun _ _ => rfl)
      have s3 := nS_inj (F := fun q => if mayB S (cmM c k) q = true then wY S n r (cmM c k ||| 2 ^ q) else 0) hp
      have s4 : wY S n (r + 1) (cmM c k) = nS (fun q => if mayB S (cmM c k) q = true then wY S n r (cmM c k ||| 2 ^ q) else 0) n := rfl
      rw [s4, ← s3]
      rw [hk] at s1
      have s5 : nS (fun i => (fun q => if mayB S (cmM c k) q = true then wY S n r (cmM c k ||| 2 ^ q) else 0) (c i)) n = nS (fun i => if mayB S (cmM c k) (c i) = true then wY S n r (cmM c k ||| 2 ^ c i) else 0) n := rfl
      rw [s5]
      omega
    · intro h
      rw [e]
      exact sF_0 (fun j _ hj => (ih j (by omega)).2 (fun w => h (fun i hi => (vld_congr (fun l hl => pre j l (by omega))).mp (w i (by omega)))))
theorem aP_aT : ∀ (r k : Nat) (c : Nat → Nat), (aP S n r k c = none → aT S n r k c = 0) ∧ (∀ p, aP S n r k c = some p → 1 ≤ aT S n r k c) ∧ 0 ≤ aT S n r k c
  | 0, k, c => by
    have e1 : aP S n 0 k c = if gdB S n c = true then some c else none := rfl
    have e2 : aT S n 0 k c = if gdB S n c = true then 1 else 0 := rfl
    rw [e1, e2]
    by_cases z : gdB S n c = true
    · rw [if_pos z, if_pos z]; exact ⟨fun h => absurd h (by simp), fun _ _ => Int.le_refl 1, by decide⟩
    · rw [if_neg z, if_neg z]; exact ⟨fun _ => rfl, fun p h => absurd h (by simp), Int.le_refl 0⟩
  | r + 1, k, c => by
    have ih := fun j => aP_aT r (k + 1) (rot c k j)
    have e : aT S n (r + 1) k c = sF (fun j => aT S n r (k + 1) (rot c k j)) 0 (r + 1) := rfl
    refine ⟨fun h => ?_, fun p h => ?_, ?_⟩
    · rw [e]
      exact sF_0 (fun j h1 h2 => (ih j).1 (fF_none' h j h1 h2))
    · obtain ⟨j, j1, j2, j3⟩ := fF_some' h
      have a := (ih j).2.1 p j3
      have b := sF_ge (g := fun j => aT S n r (k + 1) (rot c k j)) (fun j => (ih j).2.2) (c := r + 1) (x := 0) (y := j) j1 j2
      rw [e]
      exact Int.le_trans a b
    · rw [e]
      exact sF_ge0 (fun j => (ih j).2.2) _ _
end
