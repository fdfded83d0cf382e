/-! THE RULE PARSER: its steps. -/
def wNot : List Nat := [110, 111, 116]
def wCome : List Nat := [99, 111, 109, 101]
def wHold : List Nat := [104, 111, 108, 100]
def wWin : List Nat := [119, 105, 110, 100, 111, 119]
def wNow : List Nat := [110, 111, 119]
def wPers : List Nat := [112, 101, 114, 115, 111, 110]
def wIns : List Nat := [105, 110, 115, 105, 100, 101]
def wAft : List Nat := [97, 102, 116, 101, 114]
def wRoom : List Nat := [114, 111, 111, 109]
def wWins : List Nat := [119, 105, 110, 100, 111, 119, 115]
def wWor : List Nat := [119, 111, 114, 116, 104]
def wLate : List Nat := [108, 97, 116, 101]
def wLong : List Nat := [108, 111, 110, 103]
def wOr : List Nat := [111, 114]
def wAnd : List Nat := [97, 110, 100]
def aJn (c : Int) : Nat := if c = 43 then 2 else if c = 45 then 3 else if c = 42 then 4 else if c = 47 then 5 else 0
def valD (o : Nat) (v : Int) : den := fun w => if o = 0 then v else w v.toNat
/-- a sign; whether it has a second byte -/
def sgS (c : Int) (b : Bool) : Nat := if c = 61 then 8 else if c = 60 then (if b = true then 7 else 6) else (if b = true then 9 else 10)
def a0S : aS := (7, 0, 0, [], (fun _ => 0), 0, [])
section
variable (T : Nat → Int) (n : Nat)
def wdF (q : Nat) : Int := if atB T n q wNow = true then 0 else if atB T n q wPers = true then 1 else if atB T n q wHouse = true then 2 else if atB T n q wIns = true then 3 else if atB T n q wAft = true then 4 else if atB T n q wRoom = true then 5 else if atB T n q wWins = true then 6 else if atB T n q wWor = true then 7 else if atB T n q wLate = true then 8 else if atB T n q wLong = true then 9 else -1
/-- a value at q: the place behind it, the fault, the step, its argument -/
def valF (q : Nat) : Nat × Int × Nat × Int := if 48 ≤ chr T n q ∧ chr T n q ≤ 57 then ((numF T n q 0 99999).1, (numF T n q 0 99999).2.1, 0, (numF T n q 0 99999).2.2) else if wdF T n q = -1 then (q, 1 + 8 * (q : Int), 1, 0) else (lts T n q, 0, 1, wdF T n q)
def lng (q : Nat) : Bool := decide (chr T n q ≠ 61 ∧ q + 1 < n ∧ T (q + 1) = 61)
/-- how far what waits comes, at a byte behind a value -/
def aDm (e q : Nat) : Nat := if e ≠ 6 ∧ aJn (chr T n q) ≠ 0 then bnd (aJn (chr T n q)) else if e = 4 then 4 else if atB T n q wOr = true then 1 else if atB T n q wAnd = true then 2 else 1
def aBeh (e q m : Nat) (k : Int) (cl : List (Int × den)) (z : stS × den) : Int × aS :=
  if e ≠ 6 ∧ aJn (chr T n q) ≠ 0 then (0, if e = 4 then 2 else 3, q + 1, m, (aJn (chr T n q), z.2) :: z.1, z.2, k, cl)
  else if e = 4 then
    if chr T n q ≠ 60 ∧ chr T n q ≠ 61 ∧ chr T n q ≠ 62 then (1 + 8 * (q : Int), a0S)
    else if 60 ≤ m then (1 + 8 * (q : Int) + 3, a0S)
    else (0, 3, q + (if lng T n q = true then 2 else 1), m + 1, (sgS (chr T n q) (lng T n q), z.2) :: z.1, z.2, k, cl)
  else if atB T n q wOr = true then (0, 1, q + 2, m, (13, z.2) :: z.1, z.2, k, cl)
  else if atB T n q wAnd = true then (0, 1, q + 3, m, (12, z.2) :: z.1, z.2, k, cl)
  else if chr T n q = 93 ∧ 0 < brk z.1 then (0, 6, q + 1, m, z.1.tail, z.2, k, cl)
  else if chr T n q = 59 ∧ brk z.1 = 0 then (0, 0, q + 1, m, [], z.2, k, (k, z.2) :: cl)
  else if chr T n q = -1 ∧ brk z.1 = 0 then (0, 7, q, m, [], z.2, k, (k, z.2) :: cl)
  else (1 + 8 * (q : Int), a0S)
def aKd (q : Nat) : Int := if atB T n q wCome = true then 0 else if atB T n q wHold = true then 1 else if atB T n q wWin = true then 2 else -1
def aCla (q m : Nat) (s : stS) (D : den) (cl : List (Int × den)) : Int × aS :=
  if aKd T n q = -1 then (1 + 8 * (q : Int), a0S)
  else if 12 ≤ cl.length then (1 + 8 * (q : Int) + 4, a0S)
  else (0, 1, q + (if aKd T n q = 2 then 6 else 4), m, s, D, aKd T n q, cl)
def aOpn (q m : Nat) (s : stS) (D : den) (k : Int) (cl : List (Int × den)) : Int × aS :=
  if 10 ≤ dpt s then (1 + 8 * (q : Int) + 2, a0S)
  else if chr T n q = 91 then (0, 1, q + 1, m, (14, D) :: s, D, k, cl)
  else (0, 1, q + 3, m, (11, D) :: s, D, k, cl)
def aVal (e q m : Nat) (s : stS) (k : Int) (cl : List (Int × den)) : Int × aS :=
  if (valF T n q).2.1 ≠ 0 then ((valF T n q).2.1, a0S)
  else if 60 ≤ m then (1 + 8 * (q : Int) + 3, a0S)
  else (0, if e = 3 then 5 else 4, (valF T n q).1, m + 1, s, valD (valF T n q).2.2.1 (valF T n q).2.2.2, k, cl)
def aStep : aS → Int × aS := fun (e, p, m, s, D, k, cl) =>
  if e = 0 then aCla T n (blk T n p) m s D cl
  else if e = 1 ∧ (chr T n (blk T n p) = 91 ∨ atB T n (blk T n p) wNot = true) then aOpn T n (blk T n p) m s D k cl
  else if e ≤ 3 then aVal T n e (blk T n p) m s k cl
  else aBeh T n e (blk T n p) m k cl (stl (aDm T n e (blk T n p)) s D)
def aRun : Nat → aS → Option (Int × List (Int × den))
  | 0, _ => none
  | r + 1, σ => if σ.1 = 7 then some (0, σ.2.2.2.2.2.2) else if (aStep T n σ).1 ≠ 0 then some ((aStep T n σ).1, []) else aRun r (aStep T n σ).2
/-- where it ends -/
def aTo (σ : aS) (x : Int × List (Int × den)) : Prop := ∃ r, aRun T n r σ = some x
end
section
variable {T : Nat → Int} {n p p' m e e' : Nat} {s s' : stS} {D D' : den} {k : Int} {cl : List (Int × den)} {σ σ' : aS} {x : Int × List (Int × den)}
theorem aTo.fin (h : σ.1 = 7) : aTo T n σ (0, σ.2.2.2.2.2.2) := ⟨1, if_pos h⟩
theorem aTo.bad (h : σ.1 ≠ 7) (hf : (aStep T n σ).1 ≠ 0) : aTo T n σ ((aStep T n σ).1, []) := ⟨1, (if_neg h).trans (if_pos hf)⟩
theorem aTo.go (h : σ.1 ≠ 7) (hf : (aStep T n σ).1 = 0) (ht : aTo T n (aStep T n σ).2 x) : aTo T n σ x := by
  obtain ⟨r, hr⟩ := ht
  exact ⟨r + 1, (if_neg h).trans ((if_neg (fun z => z hf)).trans hr)⟩
theorem aTo.fin' (ht : aTo T n σ x) (h : σ.1 = 7) : x = (0, σ.2.2.2.2.2.2) := by
  obtain ⟨r, hr⟩ := ht
  cases r with
  | zero => exact absurd hr (by intro z; cases z)
  | succ r =>
    have e : aRun T n (r + 1) σ = some (0, σ.2.2.2.2.2.2) := if_pos h
    rw [e] at hr
    exact (Option.some.inj hr).symm
theorem aTo.step (ht : aTo T n σ x) (h : σ.1 ≠ 7) : ((aStep T n σ).1 ≠ 0 → x = ((aStep T n σ).1, [])) ∧ ((aStep T n σ).1 = 0 → aTo T n (aStep T n σ).2 x) := by
  obtain ⟨r, hr⟩ := ht
  cases r with
  | zero => exact absurd hr (by intro z; cases z)
  | succ r =>
    refine ⟨fun c => ?_, fun c => ?_⟩
    · have e : aRun T n (r + 1) σ = some ((aStep T n σ).1, []) := (if_neg h).trans (if_pos c)
      rw [e] at hr
      exact (Option.some.inj hr).symm
    · have e : aRun T n (r + 1) σ = aRun T n r (aStep T n σ).2 := (if_neg h).trans (if_neg (fun z => z c))
      rw [e] at hr
      exact ⟨r, hr⟩
theorem aTo.alike (ht : aTo T n σ x) (h : σ.1 ≠ 7) (h' : σ'.1 ≠ 7) (he : aStep T n σ' = aStep T n σ) : aTo T n σ' x := by
  obtain ⟨h1, h2⟩ := ht.step h
  by_cases c : (aStep T n σ).1 = 0
  · exact aTo.go h' (by rw [he]; exact c) (by rw [he]; exact h2 c)
  · rw [h1 c, ← he]
    exact aTo.bad h' (by rw [he]; exact c)
theorem aStep_u : aStep T n (e, p, m, s, D, k, cl) = if e = 0 then aCla T n (blk T n p) m s D cl else if e = 1 ∧ (chr T n (blk T n p) = 91 ∨ atB T n (blk T n p) wNot = true) then aOpn T n (blk T n p) m s D k cl else if e ≤ 3 then aVal T n e (blk T n p) m s k cl else aBeh T n e (blk T n p) m k cl (stl (aDm T n e (blk T n p)) s D) := rfl
theorem aStep_0 : aStep T n (0, p, m, s, D, k, cl) = aCla T n (blk T n p) m s D cl := by rw [aStep_u, if_pos rfl]
theorem aStep_o (h : chr T n (blk T n p) = 91 ∨ atB T n (blk T n p) wNot = true) : aStep T n (1, p, m, s, D, k, cl) = aOpn T n (blk T n p) m s D k cl := by rw [aStep_u, if_neg (show ¬ (1 : Nat) = 0 by decide), if_pos ⟨rfl, h⟩]
theorem aStep_v (h1 : 1 ≤ e) (h3 : e ≤ 3) (h : e = 1 → ¬ (chr T n (blk T n p) = 91 ∨ atB T n (blk T n p) wNot = true)) : aStep T n (e, p, m, s, D, k, cl) = aVal T n e (blk T n p) m s k cl := by rw [aStep_u, if_neg (show ¬ e = 0 by omega), if_neg (fun z => h z.1 z.2), if_pos h3]
theorem aStep_b (h : 4 ≤ e) : aStep T n (e, p, m, s, D, k, cl) = aBeh T n e (blk T n p) m k cl (stl (aDm T n e (blk T n p)) s D) := by rw [aStep_u, if_neg (show ¬ e = 0 by omega), if_neg (fun z => by have := z.1; omega), if_neg (show ¬ e ≤ 3 by omega)]
theorem blk_blk (h : p ≤ n) : blk T n (blk T n p) = blk T n p := run_stop (run_end h)
/-- what comes before the next settling may come earlier -/
theorem aTo.early {b : Nat} (h4 : 4 ≤ e) (h7 : e ≠ 7) (hp : blk T n p' = blk T n p) (hb : aDm T n e (blk T n p) ≤ b) (he : stl b s' D' = stl b s D) (ht : aTo T n (e, p, m, s, D, k, cl) x) : aTo T n (e, p', m, s', D', k, cl) x := by
  refine ht.alike h7 h7 ?_
  rw [aStep_b h4, aStep_b h4, hp, ← stl_stl hb s D, ← stl_stl hb s' D', he]
theorem aDm_6 {q : Nat} : aDm T n e q ≤ 6 := by
  unfold aDm
  split
  · exact bnd_le _
  · split
    · decide
    · split
      · decide
      · split <;> decide
theorem aDm_1 {q : Nat} : 1 ≤ aDm T n e q := by
  unfold aDm
  split
  · rename_i c
    have h2 := c.2
    unfold aJn at h2 ⊢
    split
    · decide
    · split
      · decide
      · split
        · decide
        · split
          · decide
          · rename_i c1 c2 c3 c4
            rw [if_neg c1, if_neg c2, if_neg c3, if_neg c4] at h2
            exact absurd rfl h2
  · split
    · decide
    · split
      · decide
      · split <;> decide
theorem aDm_5 {q : Nat} (h : chr T n q ≠ 42 ∧ chr T n q ≠ 47) : aDm T n e q ≤ 5 := by
  unfold aDm
  split
  · unfold aJn
    rw [if_neg h.1, if_neg h.2]
    split
    · decide
    · split <;> decide
  · split
    · decide
    · split
      · decide
      · split <;> decide
theorem aJn_0 {c : Int} (h : c ≠ 42 ∧ c ≠ 47 ∧ c ≠ 43 ∧ c ≠ 45) : aJn c = 0 := by
  unfold aJn
  rw [if_neg h.2.2.1, if_neg h.2.2.2, if_neg h.1, if_neg h.2.1]
theorem aDm_2 {q : Nat} (h : e = 6 ∨ aJn (chr T n q) = 0) (h4 : e ≠ 4) : aDm T n e q ≤ 2 := by
  unfold aDm
  rw [if_neg (fun z => by rcases h with y | y; exact z.1 y; exact z.2 y), if_neg h4]
  split
  · decide
  · split <;> decide
/-- behind a comparison that nothing joins: as behind a fact -/
theorem aTo.fact (hp : blk T n p' = blk T n p) (hj : aJn (chr T n (blk T n p)) = 0) (he : stl 4 s' D' = stl 4 s D) (ht : aTo T n (5, p, m, s, D, k, cl) x) : aTo T n (6, p', m, s', D', k, cl) x := by
  have h1 := aTo.early (b := 4) (s' := s') (D' := D') (p' := p') (by decide) (by decide) hp (Nat.le_trans (aDm_2 (Or.inr hj) (by decide)) (by decide)) he ht
  refine h1.alike (by show (5 : Nat) ≠ 7; decide) (by show (6 : Nat) ≠ 7; decide) ?_
  rw [aStep_b (by decide), aStep_b (by decide), hp]
  have e1 : aDm T n 6 (blk T n p) = aDm T n 5 (blk T n p) := by
    unfold aDm
    rw [if_neg (show ¬ ((6 : Nat) ≠ 6 ∧ aJn (chr T n (blk T n p)) ≠ 0) from fun z => z.1 rfl), if_neg (show ¬ ((5 : Nat) ≠ 6 ∧ aJn (chr T n (blk T n p)) ≠ 0) from fun z => z.2 hj), if_neg (show ¬ (6 : Nat) = 4 by decide), if_neg (show ¬ (5 : Nat) = 4 by decide)]
  rw [e1]
  unfold aBeh
  rw [if_neg (show ¬ ((6 : Nat) ≠ 6 ∧ aJn (chr T n (blk T n p)) ≠ 0) from fun z => z.1 rfl), if_neg (show ¬ ((5 : Nat) ≠ 6 ∧ aJn (chr T n (blk T n p)) ≠ 0) from fun z => z.2 hj), if_neg (show ¬ (6 : Nat) = 4 by decide), if_neg (show ¬ (5 : Nat) = 4 by decide)]
end
