/-! The reference's plans. -/
section
variable {G : sG} {S : Nat → Int}
theorem fF_none' {g : Nat → Option (Nat → Nat)} : ∀ {c x : Nat}, fF g x c = none → ∀ y, x ≤ y → y < x + c → g y = none
  | 0, x, _, y, h1, h2 => by omega
  | c + 1, x, h, y, h1, h2 => by
    have h' : (match g x with | some p => some p | none => fF g (x + 1) c) = none := h
    cases hg : g x with
    | some p => rw [hg] at h'; exact absurd h' (by simp)
    | none =>
      rw [hg] at h'
      by_cases e : y = x
      · rw [e]; exact hg
      · exact fF_none' (c := c) (x := x + 1) h' y (by omega) (by omega)
theorem fF_some' {g : Nat → Option (Nat → Nat)} {p : Nat → Nat} : ∀ {c x : Nat}, fF g x c = some p → ∃ y, x ≤ y ∧ y < x + c ∧ g y = some p
  | 0, x, h => by
    have h' : (none : Option (Nat → Nat)) = some p := h
    exact absurd h' (by simp)
  | c + 1, x, h => by
    have h' : (match g x with | some p => some p | none => fF g (x + 1) c) = some p := h
    cases hg : g x with
    | some p' =>
      rw [hg] at h'
      exact ⟨x, Nat.le_refl x, by omega, by rw [hg]; exact h'⟩
    | none =>
      rw [hg] at h'
      obtain ⟨y, y1, y2, y3⟩ := fF_some' (c := c) (x := x + 1) h'
      exact ⟨y, by omega, by omega, y3⟩
theorem sF_ge {g : Nat → Int} (h0 : ∀ y, 0 ≤ g y) : ∀ {c x y : Nat}, x ≤ y → y < x + c → g y ≤ sF g x c
  | 0, x, y, h1, h2 => by omega
  | c + 1, x, y, h1, h2 => by
    have r0 : ∀ c x, 0 ≤ sF g x c := fun c => by
      induction c with
      | zero => exact fun _ => Int.le_refl 0
      | succ c ih =>
        intro x
        have := ih (x + 1)
        have := h0 x
        show 0 ≤ g x + sF g (x + 1) c
        omega
    show g y ≤ g x + sF g (x + 1) c
    by_cases e : y = x
    · rw [e]; have := r0 c (x + 1); omega
    · have := sF_ge h0 (c := c) (x := x + 1) (y := y) (by omega) (by omega)
      have := h0 x
      omega
theorem fP_cT : ∀ (r k : Nat) (a : Nat → Nat), (fP S r k a = none → cT S r k a = 0) ∧ ∀ p, fP S r k a = some p → 1 ≤ cT S r k a
  | 0, k, a => ⟨fun h => by
      have h' : some a = none := h
      exact absurd h' (by simp), fun _ _ => Int.le_refl 1⟩
  | r + 1, k, a => by
    have g0 : ∀ y, 0 ≤ (if opB S k a k y = true then cT S r (k + 1) (upC a k y) else 0) := fun y => by
      have := (cT_b (S := S) r (k + 1) (upC a k y)).1
      split <;> omega
    constructor
    · intro h
      exact sF_0 (fun y h1 h2 => by
        have := fF_none' h y h1 h2
        show (if opB S k a k y = true then cT S r (k + 1) (upC a k y) else 0) = 0
        by_cases c : opB S k a k y = true
        · rw [if_pos c]
          have t : (if opB S k a k y = true then fP S r (k + 1) (upC a k y) else none) = none := this
          rw [if_pos c] at t
          exact (fP_cT r (k + 1) (upC a k y)).1 t
        · rw [if_neg c])
    · intro p h
      obtain ⟨y, y1, y2, y3⟩ := fF_some' h
      have hy : (if opB S k a k y = true then fP S r (k + 1) (upC a k y) else none) = some p := y3
      by_cases c : opB S k a k y = true
      · rw [if_pos c] at hy
        have h1 := (fP_cT r (k + 1) (upC a k y)).2 p hy
        have h2 := sF_ge g0 (c := 12) (x := 0) (y := y) y1 y2
        rw [if_pos c] at h2
        have e : cT S (r + 1) k a = sF (fun x => if opB S k a k x = true then cT S r (k + 1) (upC a k x) else 0) 0 12 := rfl
        omega
      · rw [if_neg c] at hy
        exact absurd hy (by simp)
theorem c254 {d : Nat} {M : sM} {w : Nat} {P : Int → sM → sG → Prop} (hd : 10 ≤ d) (hv : vTold S) (hS : M 93 = S) (hw : (w : Int) < S 5) (hb : ∀ o, o ≤ w → -1 ≤ M 99 o ∧ M 99 o ≤ 200) (k1 : (∀ o, o < w → okB S o w (M 99 o) (M 99 w)) → P 1 M G) (k0 : ¬ (∀ o, o < w → okB S o w (M 99 o) (M 99 w)) → P 0 M G) : sC d 254 [vO 12 82, vI (w : Int)] M G (QI P) := by
  obtain ⟨d, rfl⟩ := sD 3 (d := d) (by omega)
  have h5 := hv.1
  have vw := wish_v hv hw
  have wcw : wC S w = wT S w - wF S w - wD S w + 1 := rfl
  refine e254 (s254_0 ?_)
  refine sUpTo (W := fun o => (∀ o', o' < o → okB S o' w (M 99 o') (M 99 w)) → sW (sC (d + 2)) 254 (QI P) 2 [vO 12 82, vI (w : Int), vI (o : Int)] [] M G 0 0) w ?_ ?_ (fun o' h => absurd h (Nat.not_lt_zero o'))
  · intro h
    refine (s254_2 ⟨fun q1 => ?_, fun q2 => ⟨⟨by omega, by omega⟩, ⟨by omega, by omega⟩, ⟨by omega, by omega⟩, ⟨(by first | omega | assumption | (refine ⟨?_, ?_⟩ <;> omega) | (simp_all; done)), (by first | omega | assumption | (refine ⟨?_, ?_⟩ <;> omega) | (simp_all; done))⟩, ⟨by omega, by omega⟩, ⟨by omega, by omega⟩, ⟨by omega, by omega⟩, ⟨(by first | omega | assumption | (refine ⟨?_, ?_⟩ <;> omega) | (simp_all; done)), (by first | omega | assumption | (refine ⟨?_, ?_⟩ <;> omega) | (simp_all; done))⟩, fun q3 => ?_, fun q4 => ⟨⟨(by first | omega | assumption | (refine ⟨?_, ?_⟩ <;> omega) | (simp_all; done)), (by first | omega | assumption | (refine ⟨?_, ?_⟩ <;> omega) | (simp_all; done))⟩, ⟨by omega, by omega⟩, ⟨(by first | omega | assumption | (refine ⟨?_, ?_⟩ <;> omega) | (simp_all; done)), (by first | omega | assumption | (refine ⟨?_, ?_⟩ <;> omega) | (simp_all; done))⟩, ⟨by omega, by omega⟩, ⟨(by first | omega | assumption | (refine ⟨?_, ?_⟩ <;> omega) | (simp_all; done)), (by first | omega | assumption | (refine ⟨?_, ?_⟩ <;> omega) | (simp_all; done))⟩, ⟨by omega, by omega⟩, ⟨(by first | omega | assumption | (refine ⟨?_, ?_⟩ <;> omega) | (simp_all; done)), (by first | omega | assumption | (refine ⟨?_, ?_⟩ <;> omega) | (simp_all; done))⟩, ⟨by omega, by omega⟩, ?_⟩⟩⟩)
    · exact k1 h
    all_goals omega
  · intro o ho ih h
    have vo := wish_v hv (show (o : Int) < S 5 by omega)
    have wco : wC S o = wT S o - wF S o - wD S o + 1 := rfl
    have bo := hb o (by omega)
    have bw := hb w (Nat.le_refl w)
    have eP1 : M 93 (196 + (5 * (o : Int))).toNat = wP S o := by rw [hS]; rfl
    have eP2 : M 93 (196 + (5 * (w : Int))).toNat = wP S w := by rw [hS]; rfl
    have eH1 : M 93 ((196 + (5 * (o : Int))) + 1).toNat = wH S o := by rw [hS]; rfl
    have eH2 : M 93 ((196 + (5 * (w : Int))) + 1).toNat = wH S w := by rw [hS]; rfl
    have eD1 : M 93 ((196 + (5 * (o : Int))) + 4).toNat = wD S o := by rw [hS]; rfl
    have eD2 : M 93 ((196 + (5 * (w : Int))) + 4).toNat = wD S w := by rw [hS]; rfl
    have eo : M 99 ((o : Int)).toNat = M 99 o := rfl
    have ew : M 99 ((w : Int)).toNat = M 99 w := rfl
    have bad : ¬ okB S o w (M 99 o) (M 99 w) → P 0 M G := fun z => k0 (fun y => z (y o ho))
    have nx : okB S o w (M 99 o) (M 99 w) → sW (sC (d + 2)) 254 (QI P) 126 [vO 12 82, vI (w : Int), vI (o : Int)] [] M G 0 0 := fun z => by
      refine (s254_126 ⟨⟨by omega, by omega⟩, ?_⟩)
      exact ih (fun o' h2 => by
        by_cases c : o' = o
        · rw [c]; exact z
        · exact h o' (by omega))
    have key : okB S o w (M 99 o) (M 99 w) ↔ ¬ (wH S o = wH S w ∧ ((M 99 o < M 99 w ∧ M 99 w < M 99 o + wD S o ∧ M 99 o + wD S o < M 99 w + wD S w) ∨ (M 99 w < M 99 o ∧ M 99 o < M 99 w + wD S w ∧ M 99 w + wD S w < M 99 o + wD S o))) ∧ ¬ (wP S o = wP S w ∧ M 99 o < M 99 w + wD S w ∧ M 99 w < M 99 o + wD S o) := Iff.rfl
    have per : ¬ (wH S o = wH S w ∧ ((M 99 o < M 99 w ∧ M 99 w < M 99 o + wD S o ∧ M 99 o + wD S o < M 99 w + wD S w) ∨ (M 99 w < M 99 o ∧ M 99 o < M 99 w + wD S w ∧ M 99 w + wD S w < M 99 o + wD S o))) → sW (sC (d + 2)) 254 (QI P) 69 [vO 12 82, vI (w : Int), vI (o : Int)] [] M G 0 0 := fun z => by
      refine (s254_69 ⟨⟨by omega, by omega⟩, ⟨by omega, by omega⟩, ⟨(by first | omega | assumption | (refine ⟨?_, ?_⟩ <;> omega) | (simp_all; done)), (by first | omega | assumption | (refine ⟨?_, ?_⟩ <;> omega) | (simp_all; done))⟩, ⟨by omega, by omega⟩, ⟨by omega, by omega⟩, ⟨(by first | omega | assumption | (refine ⟨?_, ?_⟩ <;> omega) | (simp_all; done)), (by first | omega | assumption | (refine ⟨?_, ?_⟩ <;> omega) | (simp_all; done))⟩, fun q1 => ?_, fun q2 => ⟨⟨(by first | omega | assumption | (refine ⟨?_, ?_⟩ <;> omega) | (simp_all; done)), (by first | omega | assumption | (refine ⟨?_, ?_⟩ <;> omega) | (simp_all; done))⟩, ⟨(by first | omega | assumption | (refine ⟨?_, ?_⟩ <;> omega) | (simp_all; done)), (by first | omega | assumption | (refine ⟨?_, ?_⟩ <;> omega) | (simp_all; done))⟩, ⟨by omega, by omega⟩, ⟨(by first | omega | assumption | (refine ⟨?_, ?_⟩ <;> omega) | (simp_all; done)), (by first | omega | assumption | (refine ⟨?_, ?_⟩ <;> omega) | (simp_all; done))⟩, ⟨by omega, by omega⟩, fun q3 => ?_, fun q4 => ⟨⟨by omega, by omega⟩, ⟨(by first | omega | assumption | (refine ⟨?_, ?_⟩ <;> omega) | (simp_all; done)), (by first | omega | assumption | (refine ⟨?_, ?_⟩ <;> omega) | (simp_all; done))⟩, ⟨by omega, by omega⟩, fun q5 => ?_, fun q6 => ?_⟩⟩⟩)
      · exact nx (key.mpr (by omega))
      · exact nx (key.mpr (by omega))
      · exact nx (key.mpr (by omega))
      · exact bad (fun y => by have := key.mp y; omega)
      all_goals omega
    refine (s254_2 ⟨fun q1 => ?_, fun q2 => ⟨⟨by omega, by omega⟩, ⟨by omega, by omega⟩, ⟨by omega, by omega⟩, ⟨(by first | omega | assumption | (refine ⟨?_, ?_⟩ <;> omega) | (simp_all; done)), (by first | omega | assumption | (refine ⟨?_, ?_⟩ <;> omega) | (simp_all; done))⟩, ⟨by omega, by omega⟩, ⟨by omega, by omega⟩, ⟨by omega, by omega⟩, ⟨(by first | omega | assumption | (refine ⟨?_, ?_⟩ <;> omega) | (simp_all; done)), (by first | omega | assumption | (refine ⟨?_, ?_⟩ <;> omega) | (simp_all; done))⟩, fun q3 => ?_, fun q4 => ⟨⟨(by first | omega | assumption | (refine ⟨?_, ?_⟩ <;> omega) | (simp_all; done)), (by first | omega | assumption | (refine ⟨?_, ?_⟩ <;> omega) | (simp_all; done))⟩, ⟨by omega, by omega⟩, ⟨(by first | omega | assumption | (refine ⟨?_, ?_⟩ <;> omega) | (simp_all; done)), (by first | omega | assumption | (refine ⟨?_, ?_⟩ <;> omega) | (simp_all; done))⟩, ⟨by omega, by omega⟩, ⟨(by first | omega | assumption | (refine ⟨?_, ?_⟩ <;> omega) | (simp_all; done)), (by first | omega | assumption | (refine ⟨?_, ?_⟩ <;> omega) | (simp_all; done))⟩, ⟨by omega, by omega⟩, ⟨(by first | omega | assumption | (refine ⟨?_, ?_⟩ <;> omega) | (simp_all; done)), (by first | omega | assumption | (refine ⟨?_, ?_⟩ <;> omega) | (simp_all; done))⟩, ⟨by omega, by omega⟩, ?_⟩⟩⟩)
    · omega
    · exact per (by omega)
    · refine c239 (by omega) (by decide) (fun z => ?_) (fun z => ?_)
      · refine ⟨fun q5 => ?_, fun q6 => ?_⟩
        · omega
        · exact bad (fun y => by have := key.mp y; omega)
      · refine ⟨fun q5 => ?_, fun q6 => ?_⟩
        · exact per (by omega)
        · omega
    all_goals omega
def plF (S : Nat → Int) (N N' : sM) (m : Int) (F : Option (Nat → Nat)) : Prop := (m ≠ 0 ∨ F = none → ∀ i : Nat, (i : Int) < S 5 → N' 100 i = N 100 i) ∧ ∀ p, m = 0 → F = some p → ∀ i : Nat, (i : Int) < S 5 → N' 100 i = wF S i + ((p i : Nat) : Int)
theorem plF.comp {N N1 N2 : sM} {m T1 : Int} {F1 F2 : Option (Nat → Nat)} (hm : 0 ≤ m) (h : plF S N N1 m F1) (hn : F1 = none → T1 = 0) (hs : ∀ p, F1 = some p → 1 ≤ T1) (h' : plF S N1 N2 (m + T1) F2) (F : Option (Nat → Nat)) (hF1 : ∀ p, F1 = some p → F = some p) (hF0 : F1 = none → F = F2) : plF S N N2 m F := by
  constructor
  · intro z i hi
    cases hf : F1 with
    | none =>
      have e := hF0 hf
      have t := hn hf
      rw [h'.1 (by rcases z with z | z; exact Or.inl (by omega); exact Or.inr (by rw [← e]; exact z)) i hi]
      exact h.1 (Or.inr hf) i hi
    | some p =>
      have e := hF1 p hf
      have t := hs p hf
      have hm0 : m ≠ 0 := by
        rcases z with z | z
        · exact z
        · rw [e] at z; exact absurd z (by simp)
      rw [h'.1 (Or.inl (by omega)) i hi]
      exact h.1 (Or.inl hm0) i hi
  · intro p m0 hp i hi
    cases hf : F1 with
    | none =>
      have e := hF0 hf
      have t := hn hf
      exact h'.2 p (by omega) (by rw [← e]; exact hp) i hi
    | some p' =>
      have e := hF1 p' hf
      have t := hs p' hf
      rw [e] at hp
      have : p' = p := Option.some.inj hp
      rw [h'.1 (Or.inl (by omega)) i hi, ← this]
      exact h.2 p' m0 hf i hi
end
