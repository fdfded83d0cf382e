/-! PLANS: how many there are, and the first. -/
def wP (S : Nat → Int) (w : Nat) : Int := S (196 + (5 * (w : Int))).toNat
def wH (S : Nat → Int) (w : Nat) : Int := S ((196 + (5 * (w : Int))) + 1).toNat
def wF (S : Nat → Int) (w : Nat) : Int := S ((196 + (5 * (w : Int))) + 2).toNat
def wT (S : Nat → Int) (w : Nat) : Int := S ((196 + (5 * (w : Int))) + 3).toNat
def wD (S : Nat → Int) (w : Nat) : Int := S ((196 + (5 * (w : Int))) + 4).toNat
/-- how many choices a wish has -/
def wC (S : Nat → Int) (w : Nat) : Int := wT S w - wF S w - wD S w + 1
theorem wish_v {S : Nat → Int} {w : Nat} (hv : vTold S) (h : (w : Int) < S 5) : (0 ≤ wP S w ∧ wP S w < 12) ∧ (0 ≤ wH S w ∧ wH S w < 6) ∧ 0 ≤ wF S w ∧ wT S w ≤ 95 ∧ 1 ≤ wD S w ∧ 1 ≤ wC S w ∧ wC S w ≤ 12 := by
  obtain ⟨-, -, -, -, -, h1, -⟩ := hv
  obtain ⟨a, b, c, d, e, f, g⟩ := h1 (w : Int) (by omega) h
  unfold wC
  refine ⟨a, b, c, d, e, ?_, ?_⟩
  · show 1 ≤ wT S w - wF S w - wD S w + 1
    have : wF S w + wD S w ≤ wT S w := f
    omega
  · have : wT S w ≤ wF S w + wD S w + 11 := g
    omega
/-- two choices go together -/
def okB (S : Nat → Int) (o w : Nat) (bo bw : Int) : Prop := ¬ (wH S o = wH S w ∧ ((bo < bw ∧ bw < bo + wD S o ∧ bo + wD S o < bw + wD S w) ∨ (bw < bo ∧ bo < bw + wD S w ∧ bw + wD S w < bo + wD S o))) ∧ ¬ (wP S o = wP S w ∧ bo < bw + wD S w ∧ bw < bo + wD S o)
def okW (S : Nat → Int) (o x w y : Nat) : Prop := okB S o w (wF S o + (x : Int)) (wF S w + (y : Int))
def fiK (S : Nat → Int) (k : Nat) (a : Nat → Nat) (w y : Nat) : Prop := ∀ o, o < k → okW S o (a o) w y
def opQ (S : Nat → Int) (k : Nat) (a : Nat → Nat) (w y : Nat) : Prop := (y : Int) < wC S w ∧ fiK S k a w y
noncomputable def opB (S : Nat → Int) (k : Nat) (a : Nat → Nat) (w y : Nat) : Bool := @decide (opQ S k a w y) (Classical.propDecidable _)
theorem opB_i {S : Nat → Int} {k : Nat} {a : Nat → Nat} {w y : Nat} : opB S k a w y = true ↔ opQ S k a w y := @decide_eq_true_iff _ (Classical.propDecidable _)
def sF (g : Nat → Int) : Nat → Nat → Int
  | _, 0 => 0
  | x, c + 1 => g x + sF g (x + 1) c
def fF (g : Nat → Option (Nat → Nat)) : Nat → Nat → Option (Nat → Nat)
  | _, 0 => none
  | x, c + 1 => match g x with
    | some p => some p
    | none => fF g (x + 1) c
noncomputable def cT (S : Nat → Int) : Nat → Nat → (Nat → Nat) → Int
  | 0, _, _ => 1
  | r + 1, k, a => sF (fun x => if opB S k a k x = true then cT S r (k + 1) (upC a k x) else 0) 0 12
noncomputable def fP (S : Nat → Int) : Nat → Nat → (Nat → Nat) → Option (Nat → Nat)
  | 0, _, a => some a
  | r + 1, k, a => fF (fun x => if opB S k a k x = true then fP S r (k + 1) (upC a k x) else none) 0 12
theorem sF_0 {g : Nat → Int} : ∀ {c x : Nat}, (∀ y, x ≤ y → y < x + c → g y = 0) → sF g x c = 0
  | 0, _, _ => rfl
  | c + 1, x, h => by
    show g x + sF g (x + 1) c = 0
    rw [h x (Nat.le_refl x) (by omega), sF_0 (c := c) (x := x + 1) (fun y h1 h2 => h y (by omega) (by omega))]
    rfl
theorem sF_congr {g g' : Nat → Int} : ∀ {c x : Nat}, (∀ y, x ≤ y → y < x + c → g y = g' y) → sF g x c = sF g' x c
  | 0, _, _ => rfl
  | c + 1, x, h => by
    show g x + sF g (x + 1) c = g' x + sF g' (x + 1) c
    rw [h x (Nat.le_refl x) (by omega), sF_congr (c := c) (x := x + 1) (fun y h1 h2 => h y (by omega) (by omega))]
theorem sF_b {g : Nat → Int} {B : Int} : ∀ {c x : Nat}, (∀ y, 0 ≤ g y ∧ g y ≤ B) → 0 ≤ sF g x c ∧ sF g x c ≤ B * c
  | 0, _, _ => ⟨Int.le_refl 0, by show (0 : Int) ≤ B * ((0 : Nat) : Int); simp⟩
  | c + 1, x, h => by
    have ih := sF_b (g := g) (B := B) (c := c) (x := x + 1) h
    have h1 := h x
    show 0 ≤ g x + sF g (x + 1) c ∧ g x + sF g (x + 1) c ≤ B * ((c + 1 : Nat) : Int)
    rw [show ((c + 1 : Nat) : Int) = (c : Int) + 1 by omega, Int.mul_add]
    omega
theorem fF_none {g : Nat → Option (Nat → Nat)} : ∀ {c x : Nat}, (∀ y, x ≤ y → y < x + c → g y = none) → fF g x c = none
  | 0, _, _ => rfl
  | c + 1, x, h => by
    have h1 := h x (Nat.le_refl x) (by omega)
    show (match g x with | some p => some p | none => fF g (x + 1) c) = none
    rw [h1]
    exact fF_none (c := c) (x := x + 1) (fun y h1 h2 => h y (by omega) (by omega))
theorem fF_some {g : Nat → Option (Nat → Nat)} {c x : Nat} {p : Nat → Nat} (h : g x = some p) : fF g x (c + 1) = some p := by
  show (match g x with | some p => some p | none => fF g (x + 1) c) = some p
  rw [h]
theorem fF_step {g : Nat → Option (Nat → Nat)} {c x : Nat} (h : g x = none) : fF g x (c + 1) = fF g (x + 1) c := by
  show (match g x with | some p => some p | none => fF g (x + 1) c) = _
  rw [h]
section
variable {S : Nat → Int}
theorem cT_b : ∀ (r k : Nat) (a : Nat → Nat), 0 ≤ cT S r k a ∧ cT S r k a ≤ ((12 ^ r : Nat) : Int)
  | 0, _, _ => by show (0 : Int) ≤ 1 ∧ (1 : Int) ≤ ((1 : Nat) : Int); decide
  | r + 1, k, a => by
    have h := sF_b (g := fun x => if opB S k a k x = true then cT S r (k + 1) (upC a k x) else 0) (B := ((12 ^ r : Nat) : Int)) (c := 12) (x := 0) (fun y => by
      show 0 ≤ (if opB S k a k y = true then cT S r (k + 1) (upC a k y) else 0) ∧ (if opB S k a k y = true then cT S r (k + 1) (upC a k y) else 0) ≤ ((12 ^ r : Nat) : Int)
      have := cT_b r (k + 1) (upC a k y)
      split
      · exact this
      · omega)
    rw [Nat.pow_succ]
    have e : cT S (r + 1) k a = sF (fun x => if opB S k a k x = true then cT S r (k + 1) (upC a k x) else 0) 0 12 := rfl
    rw [e]
    omega
theorem fiK_up {k w y x : Nat} {a : Nat → Nat} : fiK S (k + 1) (upC a k x) w y ↔ fiK S k a w y ∧ okW S k x w y := by
  constructor
  · intro h
    refine ⟨fun o ho => ?_, ?_⟩
    · have := h o (by omega)
      unfold upC at this
      rw [if_neg (by omega)] at this
      exact this
    · have := h k (by omega)
      unfold upC at this
      rw [if_pos rfl] at this
      exact this
  · rintro ⟨h1, h2⟩ o ho
    unfold upC
    by_cases c : o = k
    · rw [if_pos c, c]; exact h2
    · rw [if_neg c]; exact h1 o (by omega)
/-- with nothing left for one of the later there is no plan -/
theorem cT_emp : ∀ (r k : Nat) (a : Nat → Nat) (w : Nat), k ≤ w → w < k + r → (∀ y, ¬ opQ S k a w y) → cT S r k a = 0 ∧ fP S r k a = none
  | 0, k, a, w, h1, h2, _ => by omega
  | r + 1, k, a, w, h1, h2, h => by
    have nx : ∀ x, ¬ opB S k a k x = true ∨ (cT S r (k + 1) (upC a k x) = 0 ∧ fP S r (k + 1) (upC a k x) = none) := fun x => by
      by_cases c : w = k
      · left
        rw [c] at h
        exact fun z => h x (opB_i.mp z)
      · right
        exact cT_emp r (k + 1) (upC a k x) w (by omega) (by omega) (fun y z => h y ⟨z.1, (fiK_up.mp z.2).1⟩)
    constructor
    · exact sF_0 (fun y _ _ => by
        show (if opB S k a k y = true then cT S r (k + 1) (upC a k y) else 0) = 0
        rcases nx y with z | z
        · rw [if_neg z]
        · rw [z.1]; split <;> rfl)
    · exact fF_none (fun y _ _ => by
        show (if opB S k a k y = true then fP S r (k + 1) (upC a k y) else none) = none
        rcases nx y with z | z
        · rw [if_neg z]
        · rw [z.2]; split <;> rfl)
theorem cT_congr {n : Nat} : ∀ (r k : Nat) (a a' : Nat → Nat), k + r ≤ n → (∀ w y : Nat, k ≤ w → w < n → (y : Int) < wC S w → (fiK S k a w y ↔ fiK S k a' w y)) → cT S r k a = cT S r k a'
  | 0, _, _, _, _, _ => rfl
  | r + 1, k, a, a', hn, h => by
    refine sF_congr (fun y _ _ => ?_)
    show (if opB S k a k y = true then cT S r (k + 1) (upC a k y) else 0) = (if opB S k a' k y = true then cT S r (k + 1) (upC a' k y) else 0)
    have e : opB S k a k y = true ↔ opB S k a' k y = true := by
      rw [opB_i, opB_i]
      exact ⟨fun z => ⟨z.1, (h k y (Nat.le_refl k) (by omega) z.1).mp z.2⟩, fun z => ⟨z.1, (h k y (Nat.le_refl k) (by omega) z.1).mpr z.2⟩⟩
    by_cases c : opB S k a k y = true
    · rw [if_pos c, if_pos (e.mp c)]
      exact cT_congr r (k + 1) (upC a k y) (upC a' k y) (n := n) (by omega) (fun w z h1 h2 h3 => by
        rw [fiK_up, fiK_up, h w z (by omega) h2 h3])
    · rw [if_neg c, if_neg (fun z => c (e.mpr z))]
theorem sF_cnt {Q : Nat → Bool} {v : Int} {g : Nat → Int} : ∀ {c x : Nat}, (∀ y, x ≤ y → y < x + c → g y = if Q y = true then v else 0) → sF g x c = (sF (fun y => if Q y = true then 1 else 0) x c) * v
  | 0, _, _ => by show (0 : Int) = 0 * v; rw [Int.zero_mul]
  | c + 1, x, h => by
    show g x + sF g (x + 1) c = ((if Q x = true then 1 else 0) + sF (fun y => if Q y = true then 1 else 0) (x + 1) c) * v
    rw [h x (Nat.le_refl x) (by omega), sF_cnt (c := c) (x := x + 1) (fun y h1 h2 => h y (by omega) (by omega)), Int.add_mul]
    by_cases z : Q x = true
    · rw [if_pos z, if_pos z, Int.one_mul]
    · rw [if_neg z, if_neg z, Int.zero_mul]
theorem sF_nS {g : Nat → Int} : ∀ {c x : Nat}, nS g x + sF g x c = nS g (x + c)
  | 0, x => by show nS g x + 0 = nS g x; omega
  | c + 1, x => by
    have := sF_nS (g := g) (c := c) (x := x + 1)
    show nS g x + (g x + sF g (x + 1) c) = nS g (x + (c + 1))
    have e : nS g (x + 1) = nS g x + g x := rfl
    rw [show x + (c + 1) = x + 1 + c by omega]
    omega
/-- where the choices of one go with all of the later ones the ways multiply -/
theorem cT_free {n r k : Nat} {a : Nat → Nat} (hn : k + (r + 1) ≤ n) (h0 : 0 < wC S k) (h : ∀ x w y : Nat, (x : Int) < wC S k → k < w → w < n → (y : Int) < wC S w → okW S k x w y) : cT S (r + 1) k a = nS (pcF (mskN (opB S k a k) 12)) 12 * cT S r (k + 1) (upC a k 0) := by
  have e : cT S (r + 1) k a = sF (fun x => if opB S k a k x = true then cT S r (k + 1) (upC a k x) else 0) 0 12 := rfl
  have e2 : sF (fun x => if opB S k a k x = true then cT S r (k + 1) (upC a k x) else 0) 0 12 = (sF (fun y => if opB S k a k y = true then 1 else 0) 0 12) * cT S r (k + 1) (upC a k 0) := sF_cnt (fun y _ _ => by
    show (if opB S k a k y = true then cT S r (k + 1) (upC a k y) else 0) = _
    by_cases c : opB S k a k y = true
    · rw [if_pos c, if_pos c]
      have hy := (opB_i.mp c).1
      exact cT_congr r (k + 1) _ _ (n := n) (by omega) (fun w z h1 h2 h3 => by
        rw [fiK_up, fiK_up]
        exact ⟨fun q => ⟨q.1, h 0 w z (by omega) (by omega) h2 h3⟩, fun q => ⟨q.1, h y w z hy (by omega) h2 h3⟩⟩)
    · rw [if_neg c, if_neg c])
  have e3 := sF_nS (g := fun y => if opB S k a k y = true then (1 : Int) else 0) (c := 12) (x := 0)
  have e4 : nS (pcF (mskN (opB S k a k) 12)) 12 = nS (fun y => if opB S k a k y = true then (1 : Int) else 0) 12 := nS_congr (fun i hi => by
    unfold pcF
    rw [mskN_bit, decide_eq_true hi, Bool.true_and])
  have e5 : nS (fun y => if opB S k a k y = true then (1 : Int) else 0) 0 = 0 := rfl
  rw [e, e2, e4, ← e3, e5, Int.zero_add]
end
