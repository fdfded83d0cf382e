/-! THE REFERENCE'S ROW OF NUMBERS ('said', at 93), read; sums and countings. -/
def hO (S : Nat → Int) (h w : Int) : Int := S ((10 + (3 * h)) + w).toNat
def tO (S : Nat → Int) (s w : Int) : Int := S ((28 + (6 * s)) + w).toNat
def pO (S : Nat → Int) (p w : Int) : Int := S ((136 + (5 * p)) + w).toNat
def uS (S : Nat → Int) (i : Nat) (x : Int) : Nat → Int := fun j => if j = i then x else S j
def setS (M : sM) (S : Nat → Int) : sM := fun a i => if a = 93 then S i else M a i
theorem setS_93 (M : sM) (S : Nat → Int) : setS M S 93 = S := by funext i; unfold setS; rw [if_pos rfl]
theorem setS_ne {M : sM} {S : Nat → Int} {a : Nat} (h : a ≠ 93) : setS M S a = M a := by funext i; unfold setS; rw [if_neg h]
theorem setS_id (M : sM) : setS M (M 93) = M := by
  funext a i
  unfold setS
  by_cases h : a = 93
  · subst h; rw [if_pos rfl]
  · rw [if_neg h]
theorem setS_upd (M : sM) (S : Nat → Int) (i : Nat) (x : Int) : sUpd (setS M S) 93 i x = setS M (uS S i x) := by
  funext a j
  unfold setS sUpd uS
  dsimp only
  by_cases h : a = 93
  · subst h
    rw [if_pos rfl, if_pos rfl]
    by_cases h2 : j = i
    · rw [if_pos ⟨rfl, h2⟩, if_pos h2]
    · rw [if_neg (fun z => h2 z.2), if_neg h2]
  · rw [if_neg h, if_neg h, if_neg (fun z => h z.1)]
theorem upd_setS (M : sM) (i : Nat) (x : Int) : sUpd M 93 i x = setS M (uS (M 93) i x) := by
  rw [← setS_upd, setS_id]
theorem setS_setS (M : sM) (S S' : Nat → Int) : setS (setS M S) S' = setS M S' := by
  funext a i
  unfold setS
  by_cases h : a = 93
  · rw [if_pos h, if_pos h]
  · rw [if_neg h, if_neg h, if_neg h]
def nS (f : Nat → Int) : Nat → Int
  | 0 => 0
  | n + 1 => nS f n + f n
theorem nS_st {f : Nat → Int} {i : Nat} {x : Int} (h : f i = x) : nS f (i + 1) = nS f i + x := by show nS f i + f i = _; rw [h]
theorem nS_ge0 {f : Nat → Int} : ∀ {n : Nat}, (∀ i, i < n → 0 ≤ f i) → 0 ≤ nS f n
  | 0, _ => Int.le_refl 0
  | n + 1, h => by
    have h1 := nS_ge0 (n := n) (fun i hi => h i (by omega))
    have h2 := h n (by omega)
    show 0 ≤ nS f n + f n
    omega
theorem nS_le {f : Nat → Int} {c : Int} : ∀ {n : Nat}, (∀ i, i < n → f i ≤ c) → nS f n ≤ c * n
  | 0, _ => by show (0 : Int) ≤ c * ((0 : Nat) : Int); simp
  | n + 1, h => by
    have h1 := nS_le (n := n) (fun i hi => h i (by omega))
    have h2 := h n (by omega)
    show nS f n + f n ≤ c * ((n + 1 : Nat) : Int)
    rw [show ((n + 1 : Nat) : Int) = (n : Int) + 1 by omega, Int.mul_add]
    omega
theorem nS_congr {f g : Nat → Int} : ∀ {n : Nat}, (∀ i, i < n → f i = g i) → nS f n = nS g n
  | 0, _ => rfl
  | n + 1, h => by
    show nS f n + f n = nS g n + g n
    rw [nS_congr (n := n) (fun i hi => h i (by omega)), h n (by omega)]
theorem nS_zero {f : Nat → Int} : ∀ {n : Nat}, (∀ i, i < n → 0 ≤ f i) → (nS f n = 0 ↔ ∀ i, i < n → f i = 0)
  | 0, _ => ⟨fun _ i hi => absurd hi (by omega), fun _ => rfl⟩
  | n + 1, h => by
    have ih := nS_zero (n := n) (fun i hi => h i (by omega))
    have h0 := nS_ge0 (n := n) (fun i hi => h i (by omega))
    have h2 := h n (by omega)
    constructor
    · intro e
      have e' : nS f n + f n = 0 := e
      have ha := ih.mp (by omega)
      intro i hi
      by_cases q : i = n
      · subst q; omega
      · exact ha i (by omega)
    · intro e
      show nS f n + f n = 0
      rw [ih.mpr (fun i hi => e i (by omega)), e n (by omega)]
      rfl
theorem sD (n : Nat) {d : Nat} (h : n ≤ d) : ∃ e, d = e + n := ⟨d - n, by omega⟩
def fIn (S : Nat → Int) (h : Int) : Nat → Int := fun p => if pO S p 0 = h then 1 else 0
/-- how many are in a house -/
def inN (S : Nat → Int) (h : Int) : Int := nS (fIn S h) 12
def fA (S : Nat → Int) (p : Int) : Nat → Int := fun o => if pO S o 0 = pO S p 0 then (if pO S p 2 < pO S o 2 then 1 else 0) else 0
def fB (S : Nat → Int) (p : Int) : Nat → Int := fun o => if pO S o 0 = pO S p 0 then (if pO S o 2 < pO S p 2 then 1 else 0) else 0
def othA (S : Nat → Int) (p : Int) : Int := nS (fA S p) 12
def othB (S : Nat → Int) (p : Int) : Int := nS (fB S p) 12
def mayG (S : Nat → Int) (p : Int) : Prop := 0 ≤ pO S p 0 ∧ (hO S (pO S p 0) 0 = 2 ∨ (hO S (pO S p 0) 0 = 0 ∧ othA S p = 0) ∨ (hO S (pO S p 0) 0 ≠ 0 ∧ othB S p = 0))
def dueS (S : Nat → Int) (p : Int) : Prop := 0 ≤ pO S p 0 ∧ 0 ≤ pO S p 1 ∧ tO S (pO S p 1) 3 ≤ S 2
section Ref1
variable {d : Nat} {P : Int → sM → sG → Prop} {PV : sM → sG → Prop} {M : sM} {G : sG}
theorem nS12 {f : Nat → Int} (h : ∀ i, 0 ≤ f i ∧ f i ≤ 1) {i : Nat} (hi : i ≤ 12) : 0 ≤ nS f i ∧ nS f i ≤ 12 := by
  have h1 := nS_ge0 (f := f) (n := i) (fun j _ => (h j).1)
  have h2 := nS_le (f := f) (c := 1) (n := i) (fun j _ => (h j).2)
  omega
theorem fIn01 (S : Nat → Int) (h : Int) (i : Nat) : 0 ≤ fIn S h i ∧ fIn S h i ≤ 1 := by unfold fIn; split <;> decide
theorem fA01 (S : Nat → Int) (h : Int) (i : Nat) : 0 ≤ fA S h i ∧ fA S h i ≤ 1 := by unfold fA; split; split <;> decide; decide
theorem fB01 (S : Nat → Int) (h : Int) (i : Nat) : 0 ≤ fB S h i ∧ fB S h i ≤ 1 := by unfold fB; split; split <;> decide; decide
theorem c205 {x1 : Int} (hd : 5 ≤ d) (kk : P (inN (M 93) x1) M G) : sC d 205 [vO 12 82, vI x1] M G (QI P) := by
  obtain ⟨d, rfl⟩ := sD 2 (d := d) (by omega)
  refine e205 (s205_0 ?_)
  refine sUpTo (W := fun i => sW (sC (d + 1)) 205 (QI P) 4 [vO 12 82, vI x1, vI (nS (fIn (M 93) x1) i), vI (i : Int)] [] M G 0 0) 12 ?_ ?_
  · exact s205_4 ⟨fun _ => kk, fun q => absurd q (by decide)⟩
  · intro i hi ih
    have hb := nS12 (fIn01 (M 93) x1) (i := i) (by omega)
    refine (s205_4 ⟨fun q1 => ?_, fun q2 => ⟨⟨by omega, by omega⟩, ⟨by omega, by omega⟩, ⟨by omega, by omega⟩, ⟨(by first | omega | assumption | (refine ⟨?_, ?_⟩ <;> omega) | (simp_all; done)), (by first | omega | assumption | (refine ⟨?_, ?_⟩ <;> omega) | (simp_all; done))⟩, fun q3 => ⟨⟨by omega, by omega⟩, ⟨by omega, by omega⟩, ?_⟩, fun q4 => ⟨⟨by omega, by omega⟩, ⟨by omega, by omega⟩, ?_⟩⟩⟩)
    · exact absurd q1 (by omega)
    · rw [nS_st (f := fIn (M 93) x1) (if_neg q3)] at ih; exact ih
    · rw [nS_st (f := fIn (M 93) x1) (if_pos q4)] at ih; exact ih
theorem c213a {x1 : Int} (hd : 5 ≤ d) (h0 : 0 ≤ x1) (h1 : x1 < 12) (kk : P (othA (M 93) x1) M G) : sC d 213 [vO 12 82, vI x1, vI 1] M G (QI P) := by
  obtain ⟨d, rfl⟩ := sD 2 (d := d) (by omega)
  refine e213 (s213_0 ?_)
  refine sUpTo (W := fun i => sW (sC (d + 1)) 213 (QI P) 5 [vO 12 82, vI x1, vI 1, vI (nS (fA (M 93) x1) i), vI (i : Int)] [] M G 0 0) 12 ?_ ?_
  · exact s213_5 ⟨fun _ => kk, fun q => absurd q (by decide)⟩
  · intro i hi ih
    have hb := nS12 (fA01 (M 93) x1) (i := i) (by omega)
    refine (s213_5 ⟨fun q1 => ?_, fun q2 => ⟨⟨by omega, by omega⟩, ⟨by omega, by omega⟩, ⟨by omega, by omega⟩, ⟨(by first | omega | assumption | (refine ⟨?_, ?_⟩ <;> omega) | (simp_all; done)), (by first | omega | assumption | (refine ⟨?_, ?_⟩ <;> omega) | (simp_all; done))⟩, ⟨by omega, by omega⟩, ⟨by omega, by omega⟩, ⟨by omega, by omega⟩, ⟨(by first | omega | assumption | (refine ⟨?_, ?_⟩ <;> omega) | (simp_all; done)), (by first | omega | assumption | (refine ⟨?_, ?_⟩ <;> omega) | (simp_all; done))⟩, fun q3 => ⟨⟨by omega, by omega⟩, ⟨by omega, by omega⟩, ?_⟩, fun q4 => ⟨fun q5 => ⟨⟨by omega, by omega⟩, ⟨(by first | omega | assumption | (refine ⟨?_, ?_⟩ <;> omega) | (simp_all; done)), (by first | omega | assumption | (refine ⟨?_, ?_⟩ <;> omega) | (simp_all; done))⟩, ⟨by omega, by omega⟩, ⟨(by first | omega | assumption | (refine ⟨?_, ?_⟩ <;> omega) | (simp_all; done)), (by first | omega | assumption | (refine ⟨?_, ?_⟩ <;> omega) | (simp_all; done))⟩, fun q6 => ⟨⟨by omega, by omega⟩, ⟨by omega, by omega⟩, ?_⟩, fun q7 => ⟨⟨by omega, by omega⟩, ⟨by omega, by omega⟩, ?_⟩⟩, fun q8 => ⟨⟨by omega, by omega⟩, ⟨(by first | omega | assumption | (refine ⟨?_, ?_⟩ <;> omega) | (simp_all; done)), (by first | omega | assumption | (refine ⟨?_, ?_⟩ <;> omega) | (simp_all; done))⟩, ⟨by omega, by omega⟩, ⟨(by first | omega | assumption | (refine ⟨?_, ?_⟩ <;> omega) | (simp_all; done)), (by first | omega | assumption | (refine ⟨?_, ?_⟩ <;> omega) | (simp_all; done))⟩, fun q9 => ⟨⟨by omega, by omega⟩, ⟨by omega, by omega⟩, ?_⟩, fun q10 => ⟨⟨by omega, by omega⟩, ⟨by omega, by omega⟩, ?_⟩⟩⟩⟩⟩)
    · exact absurd q1 (by omega)
    · rw [nS_st (f := fA (M 93) x1) (if_neg q3)] at ih; exact ih
    · exact absurd q5 (by decide)
    · exact absurd q5 (by decide)
    · rw [nS_st (f := fA (M 93) x1) ((if_pos q4).trans (if_neg (Int.not_lt.mpr q9)))] at ih; exact ih
    · rw [nS_st (f := fA (M 93) x1) ((if_pos q4).trans (if_pos q10))] at ih; exact ih
theorem c213b {x1 : Int} (hd : 5 ≤ d) (h0 : 0 ≤ x1) (h1 : x1 < 12) (kk : P (othB (M 93) x1) M G) : sC d 213 [vO 12 82, vI x1, vI 0] M G (QI P) := by
  obtain ⟨d, rfl⟩ := sD 2 (d := d) (by omega)
  refine e213 (s213_0 ?_)
  refine sUpTo (W := fun i => sW (sC (d + 1)) 213 (QI P) 5 [vO 12 82, vI x1, vI 0, vI (nS (fB (M 93) x1) i), vI (i : Int)] [] M G 0 0) 12 ?_ ?_
  · exact s213_5 ⟨fun _ => kk, fun q => absurd q (by decide)⟩
  · intro i hi ih
    have hb := nS12 (fB01 (M 93) x1) (i := i) (by omega)
    refine (s213_5 ⟨fun q1 => ?_, fun q2 => ⟨⟨by omega, by omega⟩, ⟨by omega, by omega⟩, ⟨by omega, by omega⟩, ⟨(by first | omega | assumption | (refine ⟨?_, ?_⟩ <;> omega) | (simp_all; done)), (by first | omega | assumption | (refine ⟨?_, ?_⟩ <;> omega) | (simp_all; done))⟩, ⟨by omega, by omega⟩, ⟨by omega, by omega⟩, ⟨by omega, by omega⟩, ⟨(by first | omega | assumption | (refine ⟨?_, ?_⟩ <;> omega) | (simp_all; done)), (by first | omega | assumption | (refine ⟨?_, ?_⟩ <;> omega) | (simp_all; done))⟩, fun q3 => ⟨⟨by omega, by omega⟩, ⟨by omega, by omega⟩, ?_⟩, fun q4 => ⟨fun q5 => ⟨⟨by omega, by omega⟩, ⟨(by first | omega | assumption | (refine ⟨?_, ?_⟩ <;> omega) | (simp_all; done)), (by first | omega | assumption | (refine ⟨?_, ?_⟩ <;> omega) | (simp_all; done))⟩, ⟨by omega, by omega⟩, ⟨(by first | omega | assumption | (refine ⟨?_, ?_⟩ <;> omega) | (simp_all; done)), (by first | omega | assumption | (refine ⟨?_, ?_⟩ <;> omega) | (simp_all; done))⟩, fun q6 => ⟨⟨by omega, by omega⟩, ⟨by omega, by omega⟩, ?_⟩, fun q7 => ⟨⟨by omega, by omega⟩, ⟨by omega, by omega⟩, ?_⟩⟩, fun q8 => ⟨⟨by omega, by omega⟩, ⟨(by first | omega | assumption | (refine ⟨?_, ?_⟩ <;> omega) | (simp_all; done)), (by first | omega | assumption | (refine ⟨?_, ?_⟩ <;> omega) | (simp_all; done))⟩, ⟨by omega, by omega⟩, ⟨(by first | omega | assumption | (refine ⟨?_, ?_⟩ <;> omega) | (simp_all; done)), (by first | omega | assumption | (refine ⟨?_, ?_⟩ <;> omega) | (simp_all; done))⟩, fun q9 => ⟨⟨by omega, by omega⟩, ⟨by omega, by omega⟩, ?_⟩, fun q10 => ⟨⟨by omega, by omega⟩, ⟨by omega, by omega⟩, ?_⟩⟩⟩⟩⟩)
    · exact absurd q1 (by omega)
    · rw [nS_st (f := fB (M 93) x1) (if_neg q3)] at ih; exact ih
    · rw [nS_st (f := fB (M 93) x1) ((if_pos q4).trans (if_neg (Int.not_lt.mpr q6)))] at ih; exact ih
    · rw [nS_st (f := fB (M 93) x1) ((if_pos q4).trans (if_pos q7))] at ih; exact ih
    · exact absurd rfl q8
    · exact absurd rfl q8
theorem c212 {x1 : Int} (hd : 10 ≤ d) (h0 : 0 ≤ x1) (h1 : x1 < 12) (hh : pO (M 93) x1 0 < 6) (k1 : mayG (M 93) x1 → P 1 M G) (k0 : ¬ mayG (M 93) x1 → P 0 M G) : sC d 212 [vO 12 82, vI x1] M G (QI P) := by
  obtain ⟨d, rfl⟩ := sD 2 (d := d) (by omega)
  unfold pO at hh
  refine e212 (s212_0 ⟨⟨by omega, by omega⟩, ⟨by omega, by omega⟩, ⟨by omega, by omega⟩, ⟨(by first | omega | assumption | (refine ⟨?_, ?_⟩ <;> omega) | (simp_all; done)), (by first | omega | assumption | (refine ⟨?_, ?_⟩ <;> omega) | (simp_all; done))⟩, fun q1 => ⟨⟨by omega, by omega⟩, ⟨by omega, by omega⟩, ⟨by omega, by omega⟩, ⟨(by first | omega | assumption | (refine ⟨?_, ?_⟩ <;> omega) | (simp_all; done)), (by first | omega | assumption | (refine ⟨?_, ?_⟩ <;> omega) | (simp_all; done))⟩, fun q2 => ?_, fun q3 => ⟨fun q4 => ?_, fun q7 => ?_⟩⟩, fun q10 => ?_⟩)
  · exact k1 ⟨q1, Or.inl q2⟩
  · refine c213b (by omega) h0 h1 ⟨fun q5 => ?_, fun q6 => ?_⟩
    · exact k0 (fun z => by rcases z.2 with z | z | z; exact q3 z; exact q4 z.1; exact q5 z.2)
    · exact k1 ⟨q1, Or.inr (Or.inr ⟨q4, q6⟩)⟩
  · refine c213a (by omega) h0 h1 ⟨fun q8 => ?_, fun q9 => ?_⟩
    · exact k0 (fun z => by rcases z.2 with z | z | z; exact q3 z; exact q8 z.2; exact z.1 q7)
    · exact k1 ⟨q1, Or.inr (Or.inl ⟨q7, q9⟩)⟩
  · exact k0 (fun z => by have := z.1; unfold pO at this; omega)
theorem c221 {x1 : Int} (hd : 5 ≤ d) (h0 : 0 ≤ x1) (h1 : x1 < 12) (hh : pO (M 93) x1 1 < 18) (k1 : dueS (M 93) x1 → P 1 M G) (k0 : ¬ dueS (M 93) x1 → P 0 M G) : sC d 221 [vO 12 82, vI x1] M G (QI P) := by
  obtain ⟨d, rfl⟩ := sD 2 (d := d) (by omega)
  unfold pO at hh
  refine e221 (s221_0 ⟨⟨by omega, by omega⟩, ⟨by omega, by omega⟩, ⟨by omega, by omega⟩, ⟨(by first | omega | assumption | (refine ⟨?_, ?_⟩ <;> omega) | (simp_all; done)), (by first | omega | assumption | (refine ⟨?_, ?_⟩ <;> omega) | (simp_all; done))⟩, fun q1 => ?_, fun q2 => ⟨⟨by omega, by omega⟩, ⟨(by first | omega | assumption | (refine ⟨?_, ?_⟩ <;> omega) | (simp_all; done)), (by first | omega | assumption | (refine ⟨?_, ?_⟩ <;> omega) | (simp_all; done))⟩, fun q3 => ?_, fun q4 => ⟨⟨by omega, by omega⟩, ⟨by omega, by omega⟩, ⟨by omega, by omega⟩, ⟨(by first | omega | assumption | (refine ⟨?_, ?_⟩ <;> omega) | (simp_all; done)), (by first | omega | assumption | (refine ⟨?_, ?_⟩ <;> omega) | (simp_all; done))⟩, fun q5 => ?_, fun q6 => ?_⟩⟩⟩)
  · exact k0 (fun z => Int.not_lt.mpr z.1 q1)
  · exact k0 (fun z => Int.not_lt.mpr z.2.1 q3)
  · exact k0 (fun z => Int.not_lt.mpr z.2.2 q5)
  · exact k1 ⟨q2, q4, q6⟩
theorem c201 {x1 : Int} (hd : 5 ≤ d) (h0 : 0 ≤ x1) (h1 : x1 < 12) (kk : PV (setS M (uS (uS (uS (M 93) (136 + (5 * x1)).toNat (-1)) ((136 + (5 * x1)) + 1).toNat (-1)) ((136 + (5 * x1)) + 2).toNat 0)) G) : sC d 201 [vO 12 82, vI x1] M G (QV PV) := by
  obtain ⟨d, rfl⟩ := sD 2 (d := d) (by omega)
  refine e201 (s201_0 ⟨⟨by omega, by omega⟩, ⟨by omega, by omega⟩, ⟨(by first | omega | assumption | (refine ⟨?_, ?_⟩ <;> omega) | (simp_all; done)), (by first | omega | assumption | (refine ⟨?_, ?_⟩ <;> omega) | (simp_all; done))⟩, ⟨by omega, by omega⟩, ⟨(by first | omega | assumption | (refine ⟨?_, ?_⟩ <;> omega) | (simp_all; done)), (by first | omega | assumption | (refine ⟨?_, ?_⟩ <;> omega) | (simp_all; done))⟩, ⟨by omega, by omega⟩, ⟨(by first | omega | assumption | (refine ⟨?_, ?_⟩ <;> omega) | (simp_all; done)), (by first | omega | assumption | (refine ⟨?_, ?_⟩ <;> omega) | (simp_all; done))⟩, ?_⟩)
  rw [upd_setS M, setS_upd, setS_upd]
  exact kk
def fInside (S : Nat → Int) : Nat → Int := fun p => if pO S p 0 < 0 then 0 else 1
def fServed (S : Nat → Int) : Nat → Int := fun s => tO S s 5
theorem c233 (hd : 5 ≤ d) (kk : P (nS (fInside (M 93)) 12) M G) : sC d 233 [vO 12 82] M G (QI P) := by
  obtain ⟨d, rfl⟩ := sD 2 (d := d) (by omega)
  refine e233 (s233_0 ?_)
  refine sUpTo (W := fun i => sW (sC (d + 1)) 233 (QI P) 4 [vO 12 82, vI (nS (fInside (M 93)) i), vI (i : Int)] [] M G 0 0) 12 ?_ ?_
  · exact s233_4 ⟨fun _ => kk, fun q => absurd q (by decide)⟩
  · intro i hi ih
    have hb := nS12 (f := fInside (M 93)) (fun i => by unfold fInside; split <;> decide) (i := i) (by omega)
    refine (s233_4 ⟨fun q1 => ?_, fun q2 => ⟨⟨by omega, by omega⟩, ⟨by omega, by omega⟩, ⟨by omega, by omega⟩, ⟨(by first | omega | assumption | (refine ⟨?_, ?_⟩ <;> omega) | (simp_all; done)), (by first | omega | assumption | (refine ⟨?_, ?_⟩ <;> omega) | (simp_all; done))⟩, fun q3 => ⟨⟨by omega, by omega⟩, ⟨by omega, by omega⟩, ?_⟩, fun q4 => ⟨⟨by omega, by omega⟩, ⟨by omega, by omega⟩, ?_⟩⟩⟩)
    · exact absurd q1 (by omega)
    · rw [nS_st (f := fInside (M 93)) (if_pos q3)] at ih; exact ih
    · rw [nS_st (f := fInside (M 93)) (if_neg (Int.not_lt.mpr q4))] at ih; exact ih
theorem c234 (hd : 5 ≤ d) (h0 : 0 ≤ M 93 1) (h1 : M 93 1 ≤ 18) (hb : ∀ s : Int, 0 ≤ s → s < M 93 1 → 0 ≤ tO (M 93) s 5 ∧ tO (M 93) s 5 ≤ 1) (kk : P (nS (fServed (M 93)) (M 93 1).toNat) M G) : sC d 234 [vO 12 82] M G (QI P) := by
  obtain ⟨d, rfl⟩ := sD 2 (d := d) (by omega)
  refine e234 (s234_0 ?_)
  refine sUpTo (W := fun i => sW (sC (d + 1)) 234 (QI P) 4 [vO 12 82, vI (nS (fServed (M 93)) i), vI (i : Int)] [] M G 0 0) (M 93 1).toNat ?_ ?_
  · exact s234_4 ⟨fun _ => kk, fun q => absurd q (by omega)⟩
  · intro i hi ih
    have hb1 := nS_ge0 (f := fServed (M 93)) (n := i) (fun j hj => (hb j (by omega) (by omega)).1)
    have hb2 := nS_le (f := fServed (M 93)) (c := 1) (n := i) (fun j hj => (hb j (by omega) (by omega)).2)
    have hb3 := hb i (by omega) (by omega)
    unfold tO at hb3
    refine (s234_4 ⟨fun q1 => ?_, fun q2 => ⟨⟨by omega, by omega⟩, ⟨by omega, by omega⟩, ⟨by omega, by omega⟩, ⟨(by first | omega | assumption | (refine ⟨?_, ?_⟩ <;> omega) | (simp_all; done)), (by first | omega | assumption | (refine ⟨?_, ?_⟩ <;> omega) | (simp_all; done))⟩, ⟨by omega, by omega⟩, ⟨by omega, by omega⟩, ?_⟩⟩)
    · exact absurd q1 (by omega)
    · exact ih
end Ref1
