/-! WHAT A GOING AND A COMING DO TO THE REFERENCE'S ROW. -/
/-- all but the persons' five numbers, and the stamps' counter -/
def likeS (S S' : Nat → Int) : Prop := (∀ j, j < 136 → j ≠ 4 → S' j = S j) ∧ ∀ j, 196 ≤ j → S' j = S j
theorem likeS.h {S S' : Nat → Int} (e : likeS S S') {h w : Int} (h0 : 0 ≤ h) (h1 : h < 6) (w0 : 0 ≤ w) (w1 : w < 3) : hO S' h w = hO S h w := e.1 _ (by omega) (by omega)
theorem likeS.t {S S' : Nat → Int} (e : likeS S S') {s w : Int} (h0 : 0 ≤ s) (h1 : s < 18) (w0 : 0 ≤ w) (w1 : w < 6) : tO S' s w = tO S s w := e.1 _ (by omega) (by omega)
def lvR (S S' : Nat → Int) (p : Int) : Prop := likeS S S' ∧ S' 4 = S 4 ∧ ∀ q : Int, 0 ≤ q → q < 12 → pO S' q 0 = (if q = p then -1 else pO S q 0) ∧ pO S' q 1 = (if q = p then -1 else pO S q 1) ∧ pO S' q 2 = (if q = p then 0 else pO S q 2) ∧ pO S' q 3 = pO S q 3 ∧ pO S' q 4 = pO S q 4
def enR (S S' : Nat → Int) (p h s : Int) : Prop := likeS S S' ∧ S' 4 = S 4 + 1 ∧ ∀ q : Int, 0 ≤ q → q < 12 → pO S' q 0 = (if q = p then h else pO S q 0) ∧ pO S' q 1 = (if q = p then s else pO S q 1) ∧ pO S' q 2 = (if q = p then S 4 + 1 else pO S q 2) ∧
  pO S' q 3 = (if q = p then (if 0 ≤ pO S p 3 ∧ pO S (pO S p 3) 0 = h then -1 else pO S p 3) else (if pO S q 0 = h ∧ pO S q 3 = p then -1 else pO S q 3)) ∧ pO S' q 4 = pO S q 4
theorem uS_eq {S : Nat → Int} {i : Nat} {x : Int} {j : Nat} (h : j = i) : uS S i x j = x := if_pos h
theorem uS_ne {S : Nat → Int} {i : Nat} {x : Int} {j : Nat} (h : j ≠ i) : uS S i x j = S j := if_neg h
def lvS (S : Nat → Int) (p : Int) : Nat → Int := uS (uS (uS S (136 + (5 * p)).toNat (-1)) ((136 + (5 * p)) + 1).toNat (-1)) ((136 + (5 * p)) + 2).toNat 0
theorem lvS_R {S : Nat → Int} {p : Int} (h0 : 0 ≤ p) (h1 : p < 12) : lvR S (lvS S p) p := by
  have o : ∀ j : Nat, (j < 136 ∨ 196 ≤ j) → lvS S p j = S j := fun j hj => by
    unfold lvS; rw [uS_ne (by omega), uS_ne (by omega), uS_ne (by omega)]
  refine ⟨⟨fun j a _ => o j (Or.inl a), fun j a => o j (Or.inr a)⟩, o 4 (by omega), fun q q0 q1 => ⟨?_, ?_, ?_, ?_, ?_⟩⟩
  · unfold pO lvS
    by_cases e : q = p
    · rw [if_pos e, uS_ne (by omega), uS_ne (by omega), uS_eq (by omega)]
    · rw [if_neg e, uS_ne (by omega), uS_ne (by omega), uS_ne (by omega)]
  · unfold pO lvS
    by_cases e : q = p
    · rw [if_pos e, uS_ne (by omega), uS_eq (by omega)]
    · rw [if_neg e, uS_ne (by omega), uS_ne (by omega), uS_ne (by omega)]
  · unfold pO lvS
    by_cases e : q = p
    · rw [if_pos e, uS_eq (by omega)]
    · rw [if_neg e, uS_ne (by omega), uS_ne (by omega), uS_ne (by omega)]
  · unfold pO lvS; rw [uS_ne (by omega), uS_ne (by omega), uS_ne (by omega)]
  · unfold pO lvS; rw [uS_ne (by omega), uS_ne (by omega), uS_ne (by omega)]
def wtS (S : Nat → Int) (p h : Int) : Nat → Nat → Int
  | 0 => S
  | i + 1 => if (i : Int) ≠ p ∧ pO S i 0 = h ∧ pO S i 3 = p then uS (wtS S p h i) ((136 + (5 * (i : Int))) + 3).toNat (-1) else wtS S p h i
theorem wtS_o (S : Nat → Int) (p h : Int) : ∀ (i : Nat) (j : Nat), i ≤ 12 → (∀ q : Nat, q < 12 → j ≠ 139 + 5 * q) → wtS S p h i j = S j
  | 0, _, _, _ => rfl
  | i + 1, j, hi, hj => by
    unfold wtS
    have := hj i (by omega)
    split
    · rw [uS_ne (by omega)]; exact wtS_o S p h i j (by omega) hj
    · exact wtS_o S p h i j (by omega) hj
theorem wtS_3 (S : Nat → Int) (p h : Int) : ∀ (i : Nat) (q : Int), i ≤ 12 → 0 ≤ q → q < 12 → pO (wtS S p h i) q 3 = if q < (i : Int) ∧ q ≠ p ∧ pO S q 0 = h ∧ pO S q 3 = p then -1 else pO S q 3
  | 0, q, _, q0, _ => by rw [if_neg (fun z => by have := z.1; omega)]; rfl
  | i + 1, q, hi, q0, q1 => by
    have ih := wtS_3 S p h i q (by omega) q0 q1
    unfold wtS
    by_cases e : q = (i : Int)
    · split
      · next hc =>
        rw [if_pos ⟨by omega, by rw [e]; exact hc.1, by rw [e]; exact hc.2.1, by rw [e]; exact hc.2.2⟩]
        unfold pO
        rw [uS_eq (by omega)]
      · next hc =>
        rw [ih, if_neg (fun z => by have := z.1; omega), if_neg (fun z => hc ⟨by rw [← e]; exact z.2.1, by rw [← e]; exact z.2.2.1, by rw [← e]; exact z.2.2.2⟩)]
    · have hcond : (q < ((i + 1 : Nat) : Int) ∧ q ≠ p ∧ pO S q 0 = h ∧ pO S q 3 = p) ↔ (q < (i : Int) ∧ q ≠ p ∧ pO S q 0 = h ∧ pO S q 3 = p) := ⟨fun z => ⟨by have := z.1; omega, z.2⟩, fun z => ⟨by have := z.1; omega, z.2⟩⟩
      rw [show (if q < ((i + 1 : Nat) : Int) ∧ q ≠ p ∧ pO S q 0 = h ∧ pO S q 3 = p then (-1 : Int) else pO S q 3) = (if q < (i : Int) ∧ q ≠ p ∧ pO S q 0 = h ∧ pO S q 3 = p then (-1 : Int) else pO S q 3) from by
        by_cases c : q < (i : Int) ∧ q ≠ p ∧ pO S q 0 = h ∧ pO S q 3 = p
        · rw [if_pos c, if_pos (hcond.mpr c)]
        · rw [if_neg c, if_neg (fun z => c (hcond.mp z))], ← ih]
      split
      · unfold pO; rw [uS_ne (by omega)]
      · rfl
def en1 (S : Nat → Int) (p h s : Int) : Nat → Int := uS (uS (uS (uS S 4 (S 4 + 1)) (136 + (5 * p)).toNat h) ((136 + (5 * p)) + 1).toNat s) ((136 + (5 * p)) + 2).toNat (S 4 + 1)
def enE (S : Nat → Int) (p h : Int) : Nat → Int := if 0 ≤ pO S p 3 ∧ pO S (pO S p 3) 0 = h then uS S ((136 + (5 * p)) + 3).toNat (-1) else S
def enS (S : Nat → Int) (p h s : Int) : Nat → Int := enE (wtS (en1 S p h s) p h 12) p h
theorem en1_o {S : Nat → Int} {p h s : Int} (h0 : 0 ≤ p) (h1 : p < 12) {j : Nat} (hj : (j < 136 ∧ j ≠ 4) ∨ 196 ≤ j) : en1 S p h s j = S j := by
  unfold en1; rw [uS_ne (by omega), uS_ne (by omega), uS_ne (by omega), uS_ne (by omega)]
theorem en1_p {S : Nat → Int} {p h s q : Int} (h0 : 0 ≤ p) (h1 : p < 12) (q0 : 0 ≤ q) (q1 : q < 12) : pO (en1 S p h s) q 0 = (if q = p then h else pO S q 0) ∧ pO (en1 S p h s) q 1 = (if q = p then s else pO S q 1) ∧ pO (en1 S p h s) q 2 = (if q = p then S 4 + 1 else pO S q 2) ∧ pO (en1 S p h s) q 3 = pO S q 3 ∧ pO (en1 S p h s) q 4 = pO S q 4 := by
  refine ⟨?_, ?_, ?_, ?_, ?_⟩
  · unfold pO en1
    by_cases e : q = p
    · rw [if_pos e, uS_ne (by omega), uS_ne (by omega), uS_eq (by omega)]
    · rw [if_neg e, uS_ne (by omega), uS_ne (by omega), uS_ne (by omega), uS_ne (by omega)]
  · unfold pO en1
    by_cases e : q = p
    · rw [if_pos e, uS_ne (by omega), uS_eq (by omega)]
    · rw [if_neg e, uS_ne (by omega), uS_ne (by omega), uS_ne (by omega), uS_ne (by omega)]
  · unfold pO en1
    by_cases e : q = p
    · rw [if_pos e, uS_eq (by omega)]
    · rw [if_neg e, uS_ne (by omega), uS_ne (by omega), uS_ne (by omega), uS_ne (by omega)]
  · unfold pO en1; rw [uS_ne (by omega), uS_ne (by omega), uS_ne (by omega), uS_ne (by omega)]
  · unfold pO en1; rw [uS_ne (by omega), uS_ne (by omega), uS_ne (by omega), uS_ne (by omega)]
theorem enS_R {S : Nat → Int} {p h s : Int} (h0 : 0 ≤ p) (h1 : p < 12) (hw : -1 ≤ pO S p 3 ∧ pO S p 3 < 12 ∧ pO S p 3 ≠ p) : enR S (enS S p h s) p h s := by
  have wo : ∀ j : Nat, (∀ q : Nat, q < 12 → j ≠ 139 + 5 * q) → wtS (en1 S p h s) p h 12 j = en1 S p h s j := fun j hj => wtS_o _ p h 12 j (Nat.le_refl _) hj
  have w3 := fun (q : Int) (q0 : 0 ≤ q) (q1 : q < 12) => wtS_3 (en1 S p h s) p h 12 q (Nat.le_refl _) q0 q1
  have e3 : pO (wtS (en1 S p h s) p h 12) p 3 = pO S p 3 := by rw [w3 p h0 h1, if_neg (fun z => z.2.1 rfl), (en1_p h0 h1 h0 h1).2.2.2.1]
  have w0 : ∀ q : Int, 0 ≤ q → q < 12 → pO (wtS (en1 S p h s) p h 12) q 0 = pO (en1 S p h s) q 0 := fun q q0 q1 => wo _ (fun r hr => by omega)
  have eo : ∀ (T : Nat → Int) (j : Nat), j ≠ ((136 + (5 * p)) + 3).toNat → enE T p h j = T j := fun T j hj => by unfold enE; split; exact uS_ne hj; rfl
  have low : ∀ j : Nat, j < 136 ∨ 196 ≤ j → enS S p h s j = en1 S p h s j := fun j hj => by
    unfold enS; rw [eo _ _ (by omega), wo _ (fun q hq => by omega)]
  refine ⟨⟨fun j a b => by rw [low j (Or.inl a)]; exact en1_o h0 h1 (Or.inl ⟨a, b⟩), fun j a => by rw [low j (Or.inr a)]; exact en1_o h0 h1 (Or.inr a)⟩, ?_, fun q q0 q1 => ?_⟩
  · rw [low 4 (by omega)]; unfold en1; rw [uS_ne (by omega), uS_ne (by omega), uS_ne (by omega), uS_eq rfl]
  · obtain ⟨a0, a1, a2, a3, a4⟩ := en1_p (S := S) (p := p) (h := h) (s := s) h0 h1 q0 q1
    have g : ∀ w : Int, 0 ≤ w → w < 5 → w ≠ 3 → pO (enS S p h s) q w = pO (en1 S p h s) q w := fun w w0 w1 w3 => by
      unfold pO enS; rw [eo _ _ (by omega), wo _ (fun r hr => by omega)]
    refine ⟨by rw [g 0 (by decide) (by decide) (by decide), a0], by rw [g 1 (by decide) (by decide) (by decide), a1], by rw [g 2 (by decide) (by decide) (by decide), a2], ?_, by rw [g 4 (by decide) (by decide) (by decide), a4]⟩
    by_cases e : q = p
    · subst e
      rw [if_pos rfl]
      unfold enS enE
      rw [e3]
      by_cases c : 0 ≤ pO S q 3
      · rw [w0 _ c hw.2.1, (en1_p h0 h1 c hw.2.1).1, if_neg hw.2.2]
        by_cases c2 : pO S (pO S q 3) 0 = h
        · rw [if_pos ⟨c, c2⟩, if_pos ⟨c, c2⟩]; unfold pO; exact uS_eq rfl
        · rw [if_neg (fun z => c2 z.2), if_neg (fun z => c2 z.2)]; exact e3
      · rw [if_neg (fun z => c z.1), if_neg (fun z => c z.1)]; exact e3
    · rw [if_neg e]
      have : pO (enS S p h s) q 3 = pO (wtS (en1 S p h s) p h 12) q 3 := by unfold pO enS; exact eo _ _ (by omega)
      rw [this, w3 q q0 q1, a0, a3, if_neg e]
      by_cases c : pO S q 0 = h ∧ pO S q 3 = p
      · rw [if_pos c, if_pos ⟨by omega, e, c⟩]
      · rw [if_neg c, if_neg (fun z => c z.2.2)]
section Ref2
variable {d : Nat} {P : Int → sM → sG → Prop} {PV : sM → sG → Prop} {M : sM} {G : sG}
def canS (S : Nat → Int) (p s : Int) : Prop := tO S s 0 = p ∧ tO S s 5 = 0 ∧ tO S s 2 ≤ S 2 ∧ S 2 < tO S s 3
theorem c230 {x1 : Int} (hd : 5 ≤ d) (hS : 0 ≤ M 93 1 ∧ M 93 1 ≤ 18) (k1 : ∀ s : Int, 0 ≤ s → s < M 93 1 → canS (M 93) x1 s → (∀ s' : Int, 0 ≤ s' → s' < s → ¬ canS (M 93) x1 s') → P s M G) (k0 : (∀ s' : Int, 0 ≤ s' → s' < M 93 1 → ¬ canS (M 93) x1 s') → P (-1) M G) : sC d 230 [vO 12 82, vI x1] M G (QI P) := by
  obtain ⟨d, rfl⟩ := sD 2 (d := d) (by omega)
  refine e230 (s230_0 ?_)
  refine sUpTo (W := fun i => (∀ s' : Int, 0 ≤ s' → s' < (i : Int) → ¬ canS (M 93) x1 s') → sW (sC (d + 1)) 230 (QI P) 2 [vO 12 82, vI x1, vI (i : Int)] [] M G 0 0) (M 93 1).toNat ?_ ?_ (fun s' a b => by omega)
  · intro hno
    exact s230_2 ⟨fun _ => k0 (fun s' a b => hno s' a (by omega)), fun q => absurd q (by omega)⟩
  · intro i hi ih hno
    have nx : ¬ canS (M 93) x1 i → sW (sC (d + 1)) 230 (QI P) 2 [vO 12 82, vI x1, vI ((i + 1 : Nat) : Int)] [] M G 0 0 := fun h => ih (fun s' a b => by
      by_cases e : s' = i
      · rw [e]; exact h
      · exact hno s' a (by omega))
    refine (s230_2 ⟨fun q1 => ?_, fun q2 => ⟨⟨by omega, by omega⟩, ⟨by omega, by omega⟩, ⟨by omega, by omega⟩, ⟨(by first | omega | assumption | (refine ⟨?_, ?_⟩ <;> omega) | (simp_all; done)), (by first | omega | assumption | (refine ⟨?_, ?_⟩ <;> omega) | (simp_all; done))⟩, fun q3 => ⟨⟨by omega, by omega⟩, ?_⟩, fun q4 => ⟨⟨by omega, by omega⟩, ⟨(by first | omega | assumption | (refine ⟨?_, ?_⟩ <;> omega) | (simp_all; done)), (by first | omega | assumption | (refine ⟨?_, ?_⟩ <;> omega) | (simp_all; done))⟩, fun q5 => ⟨⟨by omega, by omega⟩, ?_⟩, fun q6 => ⟨⟨by omega, by omega⟩, ⟨(by first | omega | assumption | (refine ⟨?_, ?_⟩ <;> omega) | (simp_all; done)), (by first | omega | assumption | (refine ⟨?_, ?_⟩ <;> omega) | (simp_all; done))⟩, fun q7 => ⟨⟨by omega, by omega⟩, ?_⟩, fun q8 => ⟨⟨by omega, by omega⟩, ⟨(by first | omega | assumption | (refine ⟨?_, ?_⟩ <;> omega) | (simp_all; done)), (by first | omega | assumption | (refine ⟨?_, ?_⟩ <;> omega) | (simp_all; done))⟩, fun q9 => ⟨⟨by omega, by omega⟩, ?_⟩, fun q10 => ?_⟩⟩⟩⟩⟩)
    · exact absurd q1 (by omega)
    · exact nx (fun z => q3 z.1)
    · exact nx (fun z => q5 z.2.1)
    · exact nx (fun z => Int.not_lt.mpr z.2.2.1 q7)
    · exact nx (fun z => Int.not_lt.mpr q9 z.2.2.2)
    · exact k1 i (by omega) (by omega) ⟨q4, q6, q8, q10⟩ hno
theorem c215 {x1 x2 x3 : Int} (hd : 5 ≤ d) (h0 : 0 ≤ x1) (h1 : x1 < 12) (hw : -1 ≤ pO (M 93) x1 3 ∧ pO (M 93) x1 3 < 12 ∧ pO (M 93) x1 3 ≠ x1) (h4 : 0 ≤ M 93 4 ∧ M 93 4 < 1000000000) (kk : PV (setS M (enS (M 93) x1 x2 x3)) G) : sC d 215 [vO 12 82, vI x1, vI x2, vI x3] M G (QV PV) := by
  obtain ⟨d, rfl⟩ := sD 2 (d := d) (by omega)
  refine e215 (s215_0 ⟨⟨by omega, by omega⟩, ⟨by omega, by omega⟩, ⟨by omega, by omega⟩, ⟨(by first | omega | assumption | (refine ⟨?_, ?_⟩ <;> omega) | (simp_all; done)), (by first | omega | assumption | (refine ⟨?_, ?_⟩ <;> omega) | (simp_all; done))⟩, ⟨by omega, by omega⟩, ⟨(by first | omega | assumption | (refine ⟨?_, ?_⟩ <;> omega) | (simp_all; done)), (by first | omega | assumption | (refine ⟨?_, ?_⟩ <;> omega) | (simp_all; done))⟩, ⟨by omega, by omega⟩, ⟨(by first | omega | assumption | (refine ⟨?_, ?_⟩ <;> omega) | (simp_all; done)), (by first | omega | assumption | (refine ⟨?_, ?_⟩ <;> omega) | (simp_all; done))⟩, ?_⟩)
  have e4 : ((sUpd (sUpd (sUpd M 93 4 ((M 93 4) + 1)) 93 (136 + (5 * x1)).toNat x2) 93 ((136 + (5 * x1)) + 1).toNat x3) 93 4) = M 93 4 + 1 := by
    rw [upd_setS M, setS_upd, setS_upd, setS_93, uS_ne (by omega), uS_ne (by omega), uS_eq rfl]
  rw [e4, upd_setS M, setS_upd, setS_upd, setS_upd]
  refine sUpTo (W := fun i => sW (sC (d + 1)) 215 (QV PV) 61 [vO 12 82, vI x1, vI x2, vN, vI (i : Int)] [] (setS M (wtS (en1 (M 93) x1 x2 x3) x1 x2 i)) G 0 0) 12 ?_ ?_
  · have e3 : pO (wtS (en1 (M 93) x1 x2 x3) x1 x2 12) x1 3 = pO (M 93) x1 3 := by
      rw [wtS_3 _ _ _ 12 x1 (Nat.le_refl _) h0 h1, if_neg (fun z => z.2.1 rfl), (en1_p h0 h1 h0 h1).2.2.2.1]
    have hw2 : -1 ≤ setS M (wtS (en1 (M 93) x1 x2 x3) x1 x2 12) 93 ((136 + (5 * x1)) + 3).toNat ∧ setS M (wtS (en1 (M 93) x1 x2 x3) x1 x2 12) 93 ((136 + (5 * x1)) + 3).toNat < 12 := by
      rw [setS_93]; unfold pO at e3; rw [e3]; exact ⟨hw.1, hw.2.1⟩
    have fin : enS (M 93) x1 x2 x3 = enE (wtS (en1 (M 93) x1 x2 x3) x1 x2 12) x1 x2 := rfl
    rw [fin] at kk
    unfold enE pO at kk
    refine (s215_61 ⟨fun q1 => ⟨⟨by omega, by omega⟩, ⟨by omega, by omega⟩, ⟨by omega, by omega⟩, ⟨(by first | omega | assumption | (refine ⟨?_, ?_⟩ <;> omega) | (simp_all; done)), (by first | omega | assumption | (refine ⟨?_, ?_⟩ <;> omega) | (simp_all; done))⟩, fun q2 => ?_, fun q3 => ⟨⟨by omega, by omega⟩, ⟨by omega, by omega⟩, ⟨by omega, by omega⟩, ⟨(by first | omega | assumption | (refine ⟨?_, ?_⟩ <;> omega) | (simp_all; done)), (by first | omega | assumption | (refine ⟨?_, ?_⟩ <;> omega) | (simp_all; done))⟩, fun q4 => ?_, fun q5 => ?_⟩⟩, fun q6 => ⟨fun q7 => ⟨⟨by omega, by omega⟩, ?_⟩, fun q8 => ⟨⟨by omega, by omega⟩, ⟨by omega, by omega⟩, ⟨by omega, by omega⟩, ⟨(by first | omega | assumption | (refine ⟨?_, ?_⟩ <;> omega) | (simp_all; done)), (by first | omega | assumption | (refine ⟨?_, ?_⟩ <;> omega) | (simp_all; done))⟩, fun q9 => ⟨⟨by omega, by omega⟩, ?_⟩, fun q10 => ⟨⟨by omega, by omega⟩, ⟨(by first | omega | assumption | (refine ⟨?_, ?_⟩ <;> omega) | (simp_all; done)), (by first | omega | assumption | (refine ⟨?_, ?_⟩ <;> omega) | (simp_all; done))⟩, fun q11 => ⟨⟨by omega, by omega⟩, ?_⟩, fun q12 => ⟨⟨by omega, by omega⟩, ?_⟩⟩⟩⟩⟩)
    · rw [setS_93] at q2; rw [if_neg (fun z => by have := z.1; omega)] at kk; exact kk
    · rw [setS_93] at q4; rw [if_neg (fun z => q4 z.2)] at kk; exact kk
    · rw [setS_93] at q3 q5; rw [if_pos ⟨q3, q5⟩] at kk; rw [setS_upd]; exact kk
    · exact absurd q6 (by omega)
    · exact absurd q6 (by omega)
    · exact absurd q6 (by omega)
    · exact absurd q6 (by omega)
  · intro i hi ih
    have a0 : setS M (wtS (en1 (M 93) x1 x2 x3) x1 x2 i) 93 ((136 + (5 * (i : Int))) + 0).toNat = pO (en1 (M 93) x1 x2 x3) i 0 := by
      rw [setS_93]; exact wtS_o _ _ _ i _ (by omega) (fun q hq => by omega)
    have a3 : setS M (wtS (en1 (M 93) x1 x2 x3) x1 x2 i) 93 ((136 + (5 * (i : Int))) + 3).toNat = pO (en1 (M 93) x1 x2 x3) i 3 := by
      rw [setS_93]
      have := wtS_3 (en1 (M 93) x1 x2 x3) x1 x2 i (i : Int) (by omega) (by omega) (by omega)
      rw [if_neg (fun z => by have := z.1; omega)] at this
      exact this
    have no : ¬ ((i : Int) ≠ x1 ∧ pO (en1 (M 93) x1 x2 x3) i 0 = x2 ∧ pO (en1 (M 93) x1 x2 x3) i 3 = x1) → sW (sC (d + 1)) 215 (QV PV) 61 [vO 12 82, vI x1, vI x2, vN, vI ((i + 1 : Nat) : Int)] [] (setS M (wtS (en1 (M 93) x1 x2 x3) x1 x2 i)) G 0 0 := fun hn => by
      have e : wtS (en1 (M 93) x1 x2 x3) x1 x2 (i + 1) = wtS (en1 (M 93) x1 x2 x3) x1 x2 i := by rw [wtS, if_neg hn]
      rw [e] at ih
      exact ih
    refine s215_61 ⟨fun q1 => absurd q1 (by omega), fun q6 => ⟨fun q7 => ⟨⟨by omega, by omega⟩, no (fun z => z.1 q7)⟩, fun q8 => ⟨⟨by omega, by omega⟩, ⟨by omega, by omega⟩, ⟨by omega, by omega⟩, ⟨by omega, by omega⟩, fun q9 => ⟨⟨by omega, by omega⟩, no (fun z => q9 (a0.trans z.2.1))⟩, fun q10 => ⟨⟨by omega, by omega⟩, ⟨by omega, by omega⟩, fun q11 => ⟨⟨by omega, by omega⟩, no (fun z => q11 (a3.trans z.2.2))⟩, fun q12 => ⟨⟨by omega, by omega⟩, ?_⟩⟩⟩⟩⟩
    have e : wtS (en1 (M 93) x1 x2 x3) x1 x2 (i + 1) = uS (wtS (en1 (M 93) x1 x2 x3) x1 x2 i) ((136 + (5 * (i : Int))) + 3).toNat (-1) := by rw [wtS, if_pos ⟨q8, a0.symm.trans q10, a3.symm.trans q12⟩]
    rw [e, ← setS_upd] at ih
    exact ih
end Ref2
