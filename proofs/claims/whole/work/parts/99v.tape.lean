/-! THE TAPE: runs of bytes, words, numbers; what the class's reader does. -/
def runF (pr : Int → Bool) (T : Nat → Int) (n : Nat) : Nat → Nat → Nat
  | 0, p => p
  | k + 1, p => if p < n ∧ pr (T p) = true then runF pr T n k (p + 1) else p
/-- the first place from p on that is no such byte -/
def run (pr : Int → Bool) (T : Nat → Int) (n p : Nat) : Nat := runF pr T n (n - p) p
section
variable {pr : Int → Bool} {T : Nat → Int} {n p : Nat}
theorem run_eq : run pr T n p = if p < n ∧ pr (T p) = true then run pr T n (p + 1) else p := by
  unfold run
  by_cases h : p < n
  · rw [show n - p = (n - (p + 1)) + 1 by omega]
    rfl
  · rw [show n - p = 0 by omega, if_neg (fun z => h z.1)]
    rfl
theorem run_go (h : p < n) (h2 : pr (T p) = true) : run pr T n p = run pr T n (p + 1) := by rw [run_eq, if_pos ⟨h, h2⟩]
theorem run_stop (h : ¬ (p < n ∧ pr (T p) = true)) : run pr T n p = p := by rw [run_eq, if_neg h]
theorem run_spec : ∀ k p, n - p = k → p ≤ n → p ≤ run pr T n p ∧ run pr T n p ≤ n ∧ (∀ i, p ≤ i → i < run pr T n p → pr (T i) = true) ∧ ¬ (run pr T n p < n ∧ pr (T (run pr T n p)) = true) := by
  intro k
  induction k with
  | zero =>
    intro p hk hp
    rw [run_stop (fun z => by omega)]
    exact ⟨Nat.le_refl _, hp, fun i h1 h2 => by omega, fun z => by omega⟩
  | succ k ih =>
    intro p hk hp
    by_cases h : p < n ∧ pr (T p) = true
    · rw [run_go h.1 h.2]
      obtain ⟨a, b, c, e⟩ := ih (p + 1) (by omega) (by omega)
      refine ⟨by omega, b, fun i h1 h2 => ?_, e⟩
      by_cases q : i = p
      · rw [q]; exact h.2
      · exact c i (by omega) h2
    · rw [run_stop h]
      exact ⟨Nat.le_refl _, hp, fun i h1 h2 => by omega, h⟩
theorem run_ge (h : p ≤ n) : p ≤ run pr T n p := (run_spec _ p rfl h).1
theorem run_le (h : p ≤ n) : run pr T n p ≤ n := (run_spec _ p rfl h).2.1
theorem run_in (h : p ≤ n) {i : Nat} (h1 : p ≤ i) (h2 : i < run pr T n p) : pr (T i) = true := (run_spec _ p rfl h).2.2.1 i h1 h2
theorem run_end (h : p ≤ n) : ¬ (run pr T n p < n ∧ pr (T (run pr T n p)) = true) := (run_spec _ p rfl h).2.2.2
end
def bBl (x : Int) : Bool := decide (x = 32)
def bDg (x : Int) : Bool := decide (48 ≤ x ∧ x ≤ 57)
def bLt (x : Int) : Bool := decide (97 ≤ x ∧ x ≤ 122)
theorem bBl_i {x : Int} : bBl x = true ↔ x = 32 := by unfold bBl; exact decide_eq_true_iff
theorem bDg_i {x : Int} : bDg x = true ↔ 48 ≤ x ∧ x ≤ 57 := by unfold bDg; exact decide_eq_true_iff
theorem bLt_i {x : Int} : bLt x = true ↔ 97 ≤ x ∧ x ≤ 122 := by unfold bLt; exact decide_eq_true_iff
def blk := run bBl
def dig := run bDg
def lts := run bLt
/-- the byte there, or -1 -/
def chr (T : Nat → Int) (n q : Nat) : Int := if q < n then T q else -1
/-- the letters w stand at p, and no letter behind them -/
def atW (T : Nat → Int) (n p : Nat) (w : List Nat) : Prop := p + w.length ≤ n ∧ (∀ i, i < w.length → T (p + i) = ((w.getD i 0 : Nat) : Int)) ∧ (p + w.length = n ∨ T (p + w.length) < 97 ∨ 122 < T (p + w.length))
/-- the number of the k digits from p on -/
def nmb (T : Nat → Int) (p : Nat) : Nat → Int
  | 0 => 0
  | k + 1 => 10 * nmb T p k + T (p + k) - 48
def tOk (T : Nat → Int) (n : Nat) : Prop := n ≤ 400 ∧ ∀ i, i < n → 0 ≤ T i ∧ T i ≤ 255
/-- the class's tape -/
def cTp (M : sM) (T : Nat → Int) (n : Nat) : Prop := M 3 1 = (n : Int) ∧ ∀ i, i < n → M 4 i = T i
/-- place and fault of the class's reader -/
def cS (M : sM) (q : Nat) (f : Int) : sM := fun a i => if a = 3 ∧ i = 2 then (q : Int) else if a = 3 ∧ i = 3 then f else M a i
section
variable {M : sM} {q q' : Nat} {f f' : Int}
theorem cS_p : cS M q f 3 2 = q := if_pos ⟨rfl, rfl⟩
theorem cS_f : cS M q f 3 3 = f := by unfold cS; rw [if_neg (by decide), if_pos ⟨rfl, rfl⟩]
theorem cS_o {a i : Nat} (h : a ≠ 3 ∨ (i ≠ 2 ∧ i ≠ 3)) : cS M q f a i = M a i := by unfold cS; rw [if_neg (by omega), if_neg (by omega)]
theorem cS_a {a : Nat} (h : a ≠ 3) : cS M q f a = M a := by funext i; exact cS_o (Or.inl h)
theorem cS_up : sUpd (cS M q f) 3 2 (q' : Int) = cS M q' f := by
  funext a i
  unfold sUpd cS
  by_cases h : a = 3 ∧ i = 2
  · rw [if_pos h, if_pos h]
  · rw [if_neg h, if_neg h, if_neg h]
theorem cS_uf : sUpd (cS M q f) 3 3 f' = cS M q f' := by
  funext a i
  unfold sUpd cS
  by_cases h : a = 3 ∧ i = 3
  · rw [if_pos h, if_neg (by omega), if_pos h]
  · by_cases h' : a = 3 ∧ i = 2
    · rw [if_neg h, if_pos h', if_pos h']
    · rw [if_neg h, if_neg h', if_neg h, if_neg h', if_neg h]
theorem cS_u {a i : Nat} {x : Int} (h : a ≠ 3) : sUpd (cS M q f) a i x = cS (sUpd M a i x) q f := by
  funext b j
  unfold sUpd cS
  by_cases c : b = a ∧ j = i
  · rw [if_pos c, if_neg (by omega), if_neg (by omega)]
    show x = if b = a ∧ j = i then x else M b j
    rw [if_pos c]
  · rw [if_neg c]
    show _ = if b = 3 ∧ j = 2 then (q : Int) else if b = 3 ∧ j = 3 then f else if b = a ∧ j = i then x else M b j
    rw [if_neg c]
theorem cS_self : cS M q f = M ↔ M 3 2 = q ∧ M 3 3 = f := by
  constructor
  · intro h
    constructor
    · rw [← h]; exact cS_p
    · rw [← h]; exact cS_f
  · intro h
    funext a i
    unfold cS
    by_cases c : a = 3 ∧ i = 2
    · rw [if_pos c, c.1, c.2, h.1]
    · rw [if_neg c]
      by_cases c' : a = 3 ∧ i = 3
      · rw [if_pos c', c'.1, c'.2, h.2]
      · rw [if_neg c']
end
