/-! STEP: most. -/
def woX (S : Nat → Int) (X n : Nat) : Int := nS (fun s => if X.testBit s = true then tO S s 4 else 0) n
def vRe (S : Nat → Int) (h : Int) (X : Nat) : Prop := (∀ s : Nat, X.testBit s = true → (s : Int) < S 1 ∧ tO S s 1 = h) ∧ (∀ i j : Nat, X.testBit i = true → X.testBit j = true → ¬ crS S i j 0) ∧ ∀ s : Nat, X.testBit s = true → cnX S X s ≤ hO S h 1
def bOk (S : Nat → Int) (h : Int) (b : Nat) (w : Int) (i : Nat) : Prop := vRe S h b ∧ woX S b (S 1).toNat = w ∧ ∀ Y : Nat, Y < i → vRe S h Y → woX S Y (S 1).toNat < w ∨ (woX S Y (S 1).toNat = w ∧ b ≤ Y)
def meQ (S : Nat → Int) (s o : Nat) : Bool := decide (tO S o 2 ≤ tO S s 2 ∧ tO S s 2 < tO S o 3)
theorem nS_two (f : Nat → Int) : ∀ n : Nat, nS (fun j => 2 * f j) n = 2 * nS f n
  | 0 => rfl
  | n + 1 => by
    show nS (fun j => 2 * f j) n + 2 * f n = 2 * (nS f n + f n)
    rw [nS_two f n]; omega
theorem sumbits : ∀ n X : Nat, X < 2 ^ n → nS (fun s => if X.testBit s = true then ((2 ^ s : Nat) : Int) else 0) n = (X : Int)
  | 0, X, h => by
    have : X = 0 := by omega
    rw [this]; rfl
  | n + 1, X, h => by
    have e : 2 ^ (n + 1) = 2 ^ n * 2 := Nat.pow_succ 2 n
    rw [nS_shift]
    have e1 : (fun j => (fun s => if X.testBit s = true then ((2 ^ s : Nat) : Int) else 0) (j + 1)) = fun j => 2 * (if (X / 2).testBit j = true then ((2 ^ j : Nat) : Int) else 0) := by
      funext j
      show (if X.testBit (j + 1) = true then ((2 ^ (j + 1) : Nat) : Int) else 0) = _
      rw [Nat.testBit_succ]
      by_cases c : (X / 2).testBit j = true
      · rw [if_pos c, if_pos c, Nat.pow_succ]; omega
      · rw [if_neg c, if_neg c]; rfl
    rw [e1, nS_two, sumbits n (X / 2) (by omega)]
    show (if X.testBit 0 = true then ((2 ^ 0 : Nat) : Int) else 0) + 2 * ((X / 2 : Nat) : Int) = X
    rw [Nat.testBit_zero]
    by_cases c : X % 2 = 1
    · rw [decide_eq_true c, if_pos rfl]; show (1 : Int) + _ = _; omega
    · rw [decide_eq_false c, if_neg (by decide)]; omega
theorem nS_ext0 {f : Nat → Int} {n : Nat} : ∀ {k : Nat}, n ≤ k → (∀ i, n ≤ i → f i = 0) → nS f k = nS f n
  | 0, h, _ => by rw [show n = 0 by omega]
  | k + 1, h, hz => by
    by_cases c : n = k + 1
    · rw [c]
    · show nS f k + f k = nS f n
      rw [hz k (by omega), nS_ext0 (n := n) (k := k) (by omega) hz]; omega
theorem sc_wo {S : Nat → Int} {X n : Nat} (hn : n ≤ 18) (hX : ∀ s : Nat, X.testBit s = true → s < n) : X < 2 ^ 18 ∧ scX S X = woX S X n * 262144 - (X : Int) := by
  have hl : X < 2 ^ 18 := Nat.lt_pow_two_of_testBit X (fun i hi => by
    cases c : X.testBit i
    · rfl
    · have := hX i c; omega)
  refine ⟨hl, ?_⟩
  have e : nS (fun s => if X.testBit s = true then scF S s else 0) 18 + nS (fun s => if X.testBit s = true then ((2 ^ s : Nat) : Int) else 0) 18 = 262144 * nS (fun s => if X.testBit s = true then tO S s 4 else 0) 18 := by
    have m : ∀ n : Nat, nS (fun s => if X.testBit s = true then scF S s else 0) n + nS (fun s => if X.testBit s = true then ((2 ^ s : Nat) : Int) else 0) n = 262144 * nS (fun s => if X.testBit s = true then tO S s 4 else 0) n := fun n => by
      induction n with
      | zero => rfl
      | succ n ih =>
        show (nS (fun s => if X.testBit s = true then scF S s else 0) n + (if X.testBit n = true then scF S n else 0)) + (nS (fun s => if X.testBit s = true then ((2 ^ s : Nat) : Int) else 0) n + (if X.testBit n = true then ((2 ^ n : Nat) : Int) else 0)) = 262144 * (nS (fun s => if X.testBit s = true then tO S s 4 else 0) n + (if X.testBit n = true then tO S n 4 else 0))
        by_cases c : X.testBit n = true
        · rw [if_pos c, if_pos c, if_pos c]
          have es : scF S n = tO S n 4 * 262144 - ((2 ^ n : Nat) : Int) := rfl
          omega
        · rw [if_neg c, if_neg c, if_neg c]; omega
    exact m 18
  rw [sumbits 18 X hl] at e
  have e2 : nS (fun s => if X.testBit s = true then tO S s 4 else 0) 18 = woX S X n := nS_ext0 hn (fun i hi => if_neg (fun z => by have := hX i z; omega))
  have e3 : nS (fun s => if X.testBit s = true then scF S s else 0) 18 = scX S X := rfl
  rw [e2, e3] at e
  omega
section
variable {d : Nat} {P : Int → sM → sG → Prop} {PV : sM → sG → Prop} {M : sM} {G : sG} {B : Int}
theorem wo_b {S : Nat → Int} {X n : Nat} (hv : vTown B S) (hn : (n : Int) ≤ S 1) : 0 ≤ woX S X n ∧ woX S X n ≤ 99 * n := by
  have e : ∀ s, s < n → 0 ≤ (if X.testBit s = true then tO S s 4 else 0) ∧ (if X.testBit s = true then tO S s 4 else 0) ≤ 99 := fun s hs => by
    have := (hv.2.2.1 (s : Int) (by omega) (by omega)).2.2.2.2.2.1
    split <;> omega
  exact ⟨nS_ge0 (fun s hs => (e s hs).1), nS_le (fun s hs => (e s hs).2)⟩
theorem me_cn {S : Nat → Int} {X s n : Nat} (hn : n ≤ 18) (hX : ∀ q : Nat, X.testBit q = true → q < n) : nS (pcF (mskN (meQ S s) n &&& X)) 18 = cnX S X s := nS_congr (fun o _ => by
  show (if (mskN (meQ S s) n &&& X).testBit o then (1 : Int) else 0) = if X.testBit o = true ∧ tO S o 2 ≤ tO S s 2 ∧ tO S s 2 < tO S o 3 then 1 else 0
  have h : (mskN (meQ S s) n &&& X).testBit o = true ↔ X.testBit o = true ∧ tO S o 2 ≤ tO S s 2 ∧ tO S s 2 < tO S o 3 := by
    rw [Nat.testBit_and, Bool.and_eq_true, mskN_bit, Bool.and_eq_true, decide_eq_true_iff]
    unfold meQ
    rw [decide_eq_true_iff]
    exact ⟨fun z => ⟨z.2, z.1.2⟩, fun z => ⟨⟨hX o z.1, z.2⟩, z.1⟩⟩
  by_cases c : X.testBit o = true ∧ tO S o 2 ≤ tO S s 2 ∧ tO S s 2 < tO S o 3
  · rw [if_pos (h.mpr c), if_pos c]
  · rw [if_neg (fun z => c (h.mp z)), if_neg c])
/-- one set looked at -/
theorem r246i {h w : Int} {i b : Nat} {mo : Int} (hv : vTown B (M 93)) (h0 : 0 ≤ h) (h1 : h < M 93 0) (hi : i < 2 ^ (M 93 1).toNat) (hm : ∀ s : Nat, (s : Int) < M 93 1 → M 96 s = ((mskN (meQ (M 93) s) (M 93 1).toNat : Nat) : Int)) {own : Int} (mb : 0 ≤ mo ∧ mo ≤ 1782) (kt : (∀ s : Nat, i.testBit s = true → cnX (M 93) i s ≤ hO (M 93) h 1) → mo < woX (M 93) i (M 93 1).toNat → sW (sC (d + 21)) 246 (QI P) 158 [vO 12 82, vI h, vI w, vI own, vI (i : Int), vI (woX (M 93) i (M 93 1).toNat), vI ((i : Int) + 1), vN, vN, vN] [] M G 0 0) (ks : ((∀ s : Nat, i.testBit s = true → cnX (M 93) i s ≤ hO (M 93) h 1) → woX (M 93) i (M 93 1).toNat ≤ mo) → sW (sC (d + 21)) 246 (QI P) 158 [vO 12 82, vI h, vI w, vI own, vI (b : Int), vI mo, vI ((i : Int) + 1), vN, vN, vN] [] M G 0 0) : sW (sC (d + 21)) 246 (QI P) 201 [vO 12 82, vI h, vI w, vI own, vI (b : Int), vI mo, vI (i : Int), vI 0, vI 1, vI 0] [] M G 0 0 := by
  have hs1 := hv.1.2.1
  have hs0 := hv.1.1
  have hp := p18 (m := (M 93 1).toNat) (by omega)
  have ib : ∀ q : Nat, i.testBit q = true → q < (M 93 1).toNat := fun q hq => by
    rcases Nat.lt_or_ge q (M 93 1).toNat with c | c
    · exact c
    · rw [Nat.testBit_lt_two_pow (Nat.lt_of_lt_of_le hi (Nat.pow_le_pow_right (by decide) c))] at hq
      exact absurd hq (by decide)
  have go : sW (sC (d + 21)) 246 (QI P) 201 [vO 12 82, vI h, vI w, vI own, vI (b : Int), vI mo, vI (i : Int), vI (woX (M 93) i 0), vI 1, vI ((0 : Nat) : Int)] [] M G 0 0 := by
    refine sUpTo (W := fun s => ∀ is : Int, ((is = 1 ∧ ∀ s' : Nat, s' < s → i.testBit s' = true → cnX (M 93) i s' ≤ hO (M 93) h 1) ∨ (is = 0 ∧ ¬ ∀ s' : Nat, i.testBit s' = true → cnX (M 93) i s' ≤ hO (M 93) h 1)) → sW (sC (d + 21)) 246 (QI P) 201 [vO 12 82, vI h, vI w, vI own, vI (b : Int), vI mo, vI (i : Int), vI (woX (M 93) i s), vI is, vI (s : Int)] [] M G 0 0) (M 93 1).toNat ?_ ?_ 1 (Or.inl ⟨rfl, fun s' hs' => absurd hs' (Nat.not_lt_zero s')⟩)
    · intro is his
      refine (s246_201 ⟨fun q1 => ⟨fun q2 => ⟨⟨by omega, by omega⟩, ?_⟩, fun q3 => ⟨fun q4 => ⟨⟨by omega, by omega⟩, ?_⟩, fun q5 => ⟨⟨by omega, by omega⟩, ?_⟩⟩⟩, fun q6 => ⟨fun q7 => ⟨⟨by omega, by omega⟩, ?_⟩, fun q8 => ⟨⟨by omega, by omega⟩, ⟨by omega, by omega⟩, ⟨by omega, by omega⟩, ⟨(by first | omega | assumption | (refine ⟨?_, ?_⟩ <;> omega) | (simp_all; done)), (by first | omega | assumption | (refine ⟨?_, ?_⟩ <;> omega) | (simp_all; done))⟩, ⟨by omega, by omega⟩, fun q9 => ⟨⟨by omega, by omega⟩, ?_⟩, fun q10 => ⟨⟨(by first | omega | assumption | (refine ⟨?_, ?_⟩ <;> omega) | (simp_all; done)), (by first | omega | assumption | (refine ⟨?_, ?_⟩ <;> omega) | (simp_all; done))⟩, ?_⟩⟩⟩⟩)
      · refine ks (fun z => ?_)
        rcases his with ⟨e, -⟩ | ⟨-, e⟩
        · omega
        · exact absurd z e
      · rcases his with ⟨-, e⟩ | ⟨e, -⟩
        · exact kt (fun s hs => e s (ib s hs) hs) (by omega)
        · omega
      · exact ks (fun _ => by omega)
      all_goals omega
    · intro s hs ih is his
      have hh := z_has1 (s := (i : Int)) (by omega) (by omega) (show (0 : Int) ≤ s by omega) (by omega)
      have hh' : ((i : Int)).toNat.testBit ((s : Int)).toNat = i.testBit s := rfl
      rw [hh'] at hh
      have e4 : M 93 ((28 + (6 * (s : Int))) + 4).toNat = tO (M 93) s 4 := rfl
      have wv := (hv.2.2.1 (s : Int) (by omega) (by omega)).2.2.2.2.2.1
      have wb := wo_b (X := i) (n := s) hv (by omega)
      have e96 : M 96 ((s : Int)).toNat = ((mskN (meQ (M 93) s) (M 93 1).toNat : Nat) : Int) := hm s (by omega)
      have ml := mskN_lt (Q := meQ (M 93) s) (n := (M 93 1).toNat)
      have ea : iAnd ((mskN (meQ (M 93) s) (M 93 1).toNat : Nat) : Int) (i : Int) = ((mskN (meQ (M 93) s) (M 93 1).toNat &&& i : Nat) : Int) := n_and (by omega)
      have al : mskN (meQ (M 93) s) (M 93 1).toNat &&& i ≤ i := Nat.and_le_right
      have sy : i.testBit s = true → woX (M 93) i (s + 1) = woX (M 93) i s + tO (M 93) s 4 := fun z => nS_st (f := fun s => if i.testBit s = true then tO (M 93) s 4 else 0) (if_pos z)
      have sn : ¬ i.testBit s = true → woX (M 93) i (s + 1) = woX (M 93) i s := fun z => by
        have := nS_st (f := fun s => if i.testBit s = true then tO (M 93) s 4 else 0) (i := s) (if_neg z)
        rw [Int.add_zero] at this
        exact this
      have eh : M 93 ((10 + (3 * h)) + 1).toNat = hO (M 93) h 1 := rfl
      refine (s246_201 ⟨fun q1 => ⟨fun q2 => ⟨⟨by omega, by omega⟩, ?_⟩, fun q3 => ⟨fun q4 => ⟨⟨by omega, by omega⟩, ?_⟩, fun q5 => ⟨⟨by omega, by omega⟩, ?_⟩⟩⟩, fun q6 => ⟨fun q7 => ⟨⟨by omega, by omega⟩, ?_⟩, fun q8 => ⟨⟨by omega, by omega⟩, ⟨by omega, by omega⟩, ⟨by omega, by omega⟩, ⟨(by first | omega | assumption | (refine ⟨?_, ?_⟩ <;> omega) | (simp_all; done)), (by first | omega | assumption | (refine ⟨?_, ?_⟩ <;> omega) | (simp_all; done))⟩, ⟨by omega, by omega⟩, fun q9 => ⟨⟨by omega, by omega⟩, ?_⟩, fun q10 => ⟨⟨(by first | omega | assumption | (refine ⟨?_, ?_⟩ <;> omega) | (simp_all; done)), (by first | omega | assumption | (refine ⟨?_, ?_⟩ <;> omega) | (simp_all; done))⟩, ?_⟩⟩⟩⟩)
      · omega
      · omega
      · omega
      · have z : ¬ i.testBit s = true := fun z => q7 (hh.mpr z)
        rw [sn z] at ih
        exact ih is (by
          rcases his with ⟨e, e2⟩ | e
          · exact Or.inl ⟨e, fun s' hs' hb => by
              by_cases c : s' = s
              · rw [c] at hb; exact absurd hb z
              · exact e2 s' (by omega) hb⟩
          · exact Or.inr e)
      · rw [sy (hh.mp q8)] at ih
        rw [e4]
        exact ih 0 (by
          rcases his with ⟨e, e2⟩ | e
          · omega
          · exact Or.inr ⟨rfl, e.2⟩)
      · have hy := hh.mp q8
        rw [sy hy] at ih
        rw [e96, ea]
        refine c245 (by omega) (by omega) (by omega) ?_
        have ec := me_cn (S := M 93) (X := i) (s := s) (n := (M 93 1).toNat) (by omega) ib
        rw [show (((mskN (meQ (M 93) s) (M 93 1).toNat &&& i : Nat) : Int)).toNat = mskN (meQ (M 93) s) (M 93 1).toNat &&& i from rfl, ec]
        have his1 : is = 1 ∧ ∀ s' : Nat, s' < s → i.testBit s' = true → cnX (M 93) i s' ≤ hO (M 93) h 1 := by
          rcases his with e | e
          · exact e
          · omega
        rw [← eh] at ih his1
        refine ⟨⟨by omega, by omega⟩, ⟨by omega, by omega⟩, ⟨by omega, by omega⟩, ⟨(by first | omega | assumption | (refine ⟨?_, ?_⟩ <;> omega) | (simp_all; done)), (by first | omega | assumption | (refine ⟨?_, ?_⟩ <;> omega) | (simp_all; done))⟩, fun q11 => ⟨⟨by omega, by omega⟩, ?_⟩, fun q12 => ⟨⟨by omega, by omega⟩, ?_⟩⟩
        all_goals try omega
        · rw [e4]
          exact ih 0 (Or.inr ⟨rfl, fun z => by have := z s hy; omega⟩)
        · rw [e4]
          exact ih 1 (Or.inl ⟨rfl, fun s' hs' hb => by
            by_cases c : s' = s
            · rw [c]; exact q12
            · exact his1.2 s' (by omega) hb⟩)
      all_goals omega
  exact go
end
