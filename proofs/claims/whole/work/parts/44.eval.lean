/-! RULES, run by the class and by the reference. -/
def setA (M : sM) (a : Nat) (V : Nat → Int) : sM := fun b i => if b = a then V i else M b i
theorem setA_at (M : sM) (a : Nat) (V : Nat → Int) : setA M a V a = V := by funext i; unfold setA; rw [if_pos rfl]
theorem setA_ne {M : sM} {a : Nat} {V : Nat → Int} {b : Nat} (h : b ≠ a) : setA M a V b = M b := by funext i; unfold setA; rw [if_neg h]
theorem setA_id (M : sM) (a : Nat) : setA M a (M a) = M := by
  funext b i
  unfold setA
  by_cases h : b = a
  · subst h; rw [if_pos rfl]
  · rw [if_neg h]
theorem setA_upd (M : sM) (a : Nat) (V : Nat → Int) (i : Nat) (x : Int) : sUpd (setA M a V) a i x = setA M a (uS V i x) := by
  funext b j
  unfold setA sUpd uS
  dsimp only
  by_cases h : b = a
  · rw [if_pos h, if_pos h]
    by_cases h2 : j = i
    · rw [if_pos ⟨h, h2⟩, if_pos h2]
    · rw [if_neg (fun z => h2 z.2), if_neg h2]
  · rw [if_neg h, if_neg h, if_neg (fun z => h z.1)]
/-- the words' values of a person and a stay -/
def wE (S : Nat → Int) (p s : Int) : Nat → Int := fun j =>
  if j = 0 then S 2 else if j = 1 then p else if j = 2 then tO S s 1 else if j = 3 then inN S (tO S s 1) else if j = 4 then (if pO S p 0 = tO S s 1 then othA S p else 0)
  else if j = 5 then hO S (tO S s 1) 1 - inN S (tO S s 1) else if j = 6 then hO S (tO S s 1) 2 else if j = 7 then tO S s 4
  else if j = 8 then (if tO S s 3 < S 2 then S 2 - tO S s 3 else 0) else if j = 9 then (if S 2 < tO S s 3 then tO S s 3 - S 2 else 0) else 0
section Eval
variable {d : Nat} {P : Int → sM → sG → Prop} {PV : sM → sG → Prop} {M : sM} {G : sG} {b : Nat} {S : Nat → Int} {B : Int}
theorem c84 {x0 x2 x3 : Int} (hd : 10 ≤ d) (hv : vTown B S) (ht : TR b M S) (g0 : 0 ≤ x0) (g1 : x0 ≤ 9) (p0 : 0 ≤ x2) (p1 : x2 < 12) (s0 : 0 ≤ x3) (s1 : x3 < S 1) (kk : P (wE S x2 x3 x0.toNat) M G) : sC d 84 [vI x0, vO 10 b, vI x2, vI x3] M G (QL P) := by
  obtain ⟨d, rfl⟩ := sD 2 (d := d) (by omega)
  have hs0 := hv.1.1
  have hs1 := hv.1.2.1
  have hs2 := hv.1.2.2.1
  obtain ⟨l0, l1, l2, l3⟩ := ht.1
  obtain ⟨t0, t1, t2, t3, t4, t5⟩ := ht.2.2.1 x3 s0 s1
  obtain ⟨v0, v1, v2, v3, v4, v5, v6⟩ := hv.2.2.1 x3 s0 s1
  obtain ⟨g1', g2, g3, g4⟩ := ht.2.1 _ v1.1 v1.2
  obtain ⟨w1, w2, w3⟩ := hv.2.1 _ v1.1 v1.2
  have hn := inN_ge S (tO S x3 1)
  have hp := (ht.2.2.2.1 x2 p0 p1).1
  have hpv := (hv.2.2.2.1 x2 p0 p1).1
  rw [show (tO S x3 1).toNat = (M (b + 7) x3.toNat).toNat by rw [t1]] at g1' g2 g3 g4
  unfold wE at kk
  refine e84 (s84_0 ⟨fun q1 => ?_, fun q2 => ⟨fun q3 => ?_, fun q4 => ⟨fun q5 => ?_, fun q6 => ⟨fun q7 => ?_, fun q8 => ⟨⟨(by first | omega | assumption | (refine ⟨?_, ?_⟩ <;> omega) | (simp_all; done)), (by first | omega | assumption | (refine ⟨?_, ?_⟩ <;> omega) | (simp_all; done))⟩, fun q9 => ⟨⟨by omega, by omega⟩, ?_⟩, fun q10 => ?_, fun q11 => ?_, fun q12 => ?_, fun q13 => ⟨⟨(by first | omega | assumption | (refine ⟨?_, ?_⟩ <;> omega) | (simp_all; done)), (by first | omega | assumption | (refine ⟨?_, ?_⟩ <;> omega) | (simp_all; done))⟩, ?_⟩, fun q14 => ⟨⟨(by first | omega | assumption | (refine ⟨?_, ?_⟩ <;> omega) | (simp_all; done)), (by first | omega | assumption | (refine ⟨?_, ?_⟩ <;> omega) | (simp_all; done))⟩, fun q15 => ?_, fun q16 => ?_⟩, fun q17 => ⟨⟨(by first | omega | assumption | (refine ⟨?_, ?_⟩ <;> omega) | (simp_all; done)), (by first | omega | assumption | (refine ⟨?_, ?_⟩ <;> omega) | (simp_all; done))⟩, ⟨by omega, by omega⟩, ?_⟩, fun q18 => ⟨⟨(by first | omega | assumption | (refine ⟨?_, ?_⟩ <;> omega) | (simp_all; done)), (by first | omega | assumption | (refine ⟨?_, ?_⟩ <;> omega) | (simp_all; done))⟩, ?_⟩, fun q19 => ?_, fun q20 => ⟨⟨by omega, by omega⟩, ?_⟩⟩⟩⟩⟩⟩)
  · omega
  · omega
  · omega
  · omega
  · have e : x0 = 9 := by omega
    subst e
    have kk' : P (if S 2 < tO S x3 3 then tO S x3 3 - S 2 else 0) M G := kk
    rw [t3, l2]
    by_cases c : S 2 < tO S x3 3
    · rw [if_pos c] at kk'; rw [if_pos (by omega)]; exact kk'
    · rw [if_neg c] at kk'; rw [if_neg (by omega)]; exact kk'
  · subst q10; rw [l2]; exact kk
  · subst q11; exact kk
  · subst q12; rw [t1]; exact kk
  · subst q13; rw [g4]; exact kk
  · subst q14
    have kk' : P (if pO S x2 0 = tO S x3 1 then othA S x2 else 0) M G := kk
    rw [if_neg (by rw [← hp, ← t1]; exact q15)] at kk'
    exact kk'
  · subst q14
    have kk' : P (if pO S x2 0 = tO S x3 1 then othA S x2 else 0) M G := kk
    rw [if_pos (by rw [← hp, ← t1]; exact q16)] at kk'
    exact c63 (by omega) hv ht p0 p1 (fun _ => kk') (fun z => by omega)
  · subst q17; rw [g2, g4]; exact kk
  · subst q18; rw [g3]; exact kk
  · subst q19; rw [t4]; exact kk
  · subst q20
    have kk' : P (if tO S x3 3 < S 2 then S 2 - tO S x3 3 else 0) M G := kk
    rw [t3, l2]
    by_cases c : tO S x3 3 < S 2
    · rw [if_pos c] at kk'; rw [if_pos (by omega)]; exact kk'
    · rw [if_neg c] at kk'; rw [if_neg (by omega)]; exact kk'
/-- where a clause begins -/
def stC (e : Nat → Int) (c : Int) : Int := if 0 < c then e (c - 1).toNat else 0
/-- a rule as the class has it, at a -/
def ruleC (M : sM) (G : sG) (a : Nat) (n : Int) (kd : Nat → Int) (D : Nat → (Nat → Int) → Int) : Prop :=
  a ≠ 0 ∧ M a 4 = n ∧ 0 ≤ n ∧ n ≤ 12 ∧ n ≤ ((G (a + 3)).2.1 : Int) ∧ n ≤ ((G (a + 4)).2.1 : Int) ∧ ∀ c : Int, 0 ≤ c → c < n → M (a + 3) c.toNat = kd c.toNat ∧ 0 ≤ stC (M (a + 4)) c ∧ stC (M (a + 4)) c ≤ M (a + 4) c.toNat ∧ M (a + 4) c.toNat ≤ 400 ∧ M (a + 4) c.toNat ≤ ((G (a + 1)).2.1 : Int) ∧ M (a + 4) c.toNat ≤ ((G (a + 2)).2.1 : Int) ∧
    (∀ i : Nat, (i : Int) < M (a + 4) c.toNat → 0 ≤ M (a + 2) i ∧ M (a + 2) i ≤ 99999 ∧ (M (a + 1) i = 1 → M (a + 2) i ≤ 9)) ∧ (∃ h, h ≤ 64 ∧ cSeg (M (a + 1)) (M (a + 2)) (stC (M (a + 4)) c).toNat (M (a + 4) c.toNat).toNat h (D c.toNat)) ∧ ∀ w, D c.toNat w = 0 ∨ D c.toNat w = 1
theorem c82 {a : Nat} {n x2 p s : Int} {kd : Nat → Int} {D : Nat → (Nat → Int) → Int} (hd : 20 ≤ d) (hr : ruleC M G a n kd D) (hv : vTown B S) (ht : TR b M S) (hb : b + 14 < 58) (ha : 58 < a) (c0 : 0 ≤ x2) (c1 : x2 < n) (p0 : 0 ≤ p) (p1 : p < 12) (s0 : 0 ≤ s) (s1 : s < S 1)
    (k1 : D x2.toNat (wE S p s) = 1 → ∀ V, P 1 (setA M 58 V) G) (k0 : D x2.toNat (wE S p s) = 0 → ∀ V, P 0 (setA M 58 V) G) : sC d 82 [vO 0 57, vQ 6 a, vI x2, vO 10 b, vI p, vI s] M G (QI P) := by
  obtain ⟨d, rfl⟩ := sD 3 (d := d) (by omega)
  obtain ⟨a0, rn, n0, n1, l3, l4, hcl⟩ := hr
  obtain ⟨-, st0, st1, e400, le1, le2, hg, ⟨h, h64, H⟩, hD⟩ := hcl x2 c0 c1
  have hst : ∀ x : Int, x = stC (M (a + 4)) x2 → sW (sC (d + 1 + 1)) 82 (QI P) 18 [vO 0 57, vQ 6 a, vN, vO 10 b, vI p, vI s, vI 0, vI (M (a + 4) x2.toNat), vI x, vN, vN] [] M G 0 0 := fun x hx => by
    have er : ∀ k V, 1 ≤ k → k ≤ 4 → setA M 58 V (a + k) = M (a + k) := fun k V _ _ => setA_ne (by omega)
    have htv : ∀ V, TR b (setA M 58 V) S := fun V => ht.congr (fun a _ _ => setA_ne (by omega))
    have cl : cCl (M (a + 1)) (M (a + 2)) (wE S p s) (M (a + 4) x2.toNat).toNat (fun i t v => sW (sC (d + 1 + 1)) 82 (QI P) 18 [vO 0 57, vQ 6 a, vN, vO 10 b, vI p, vI s, vI ((t : Nat) : Int), vI (M (a + 4) x2.toNat), vI ((i : Nat) : Int), vN, vN] [] (setA M 58 v) G 0 0) := by
      refine ⟨fun i t v hi hs0 ht64 k => ?_, fun i t v hi hs0 ht64 k => ?_, fun i t v hi hs0 h1 ht64 k => ?_, fun i t v hi hs0 h1 ht64 k1 k2 => ?_, fun i t v hi hs0 h1 ht64 k1 k2 => ?_, fun i t v hi hs0 hs1 h1 ht64 k => ?_⟩
      · have e1 := er 1 v (by omega) (by omega)
        have e2 := er 2 v (by omega) (by omega)
        have hgi := hg i (by omega)
        refine (s82_18 ⟨fun q1 => ⟨fun q2 => ?_, fun q3 => ⟨⟨by omega, by omega⟩, ⟨(by first | omega | assumption | (refine ⟨?_, ?_⟩ <;> omega) | (simp_all; done)), (by first | omega | assumption | (refine ⟨?_, ?_⟩ <;> omega) | (simp_all; done))⟩, fun q4 => ?_, fun q5 => ?_⟩⟩, fun q6 => ⟨(by first | omega | assumption | (refine ⟨?_, ?_⟩ <;> omega) | (simp_all; done)), ⟨(by first | omega | assumption | (refine ⟨?_, ?_⟩ <;> omega) | (simp_all; done)), (by first | omega | assumption | (refine ⟨?_, ?_⟩ <;> omega) | (simp_all; done))⟩, ⟨(by first | omega | assumption | (refine ⟨?_, ?_⟩ <;> omega) | (simp_all; done)), (by first | omega | assumption | (refine ⟨?_, ?_⟩ <;> omega) | (simp_all; done))⟩, fun q7 => ?_, fun q8 => ⟨fun q9 => ⟨fun q10 => ⟨fun q11 => ⟨fun q12 => ?_, fun q13 => ⟨fun q14 => ⟨fun q15 => ⟨⟨by omega, by omega⟩, ⟨by omega, by omega⟩, ⟨(by first | omega | assumption | (refine ⟨?_, ?_⟩ <;> omega) | (simp_all; done)), (by first | omega | assumption | (refine ⟨?_, ?_⟩ <;> omega) | (simp_all; done))⟩, ⟨(by first | omega | assumption | (refine ⟨?_, ?_⟩ <;> omega) | (simp_all; done)), (by first | omega | assumption | (refine ⟨?_, ?_⟩ <;> omega) | (simp_all; done))⟩, ?_⟩, fun q16 => ?_⟩, fun q17 => ?_⟩⟩, fun q18 => ⟨⟨by omega, by omega⟩, ⟨(by first | omega | assumption | (refine ⟨?_, ?_⟩ <;> omega) | (simp_all; done)), (by first | omega | assumption | (refine ⟨?_, ?_⟩ <;> omega) | (simp_all; done))⟩, ?_⟩⟩, fun q19 => ?_⟩, fun q20 => ?_⟩⟩⟩)
        · omega
        · omega
        · omega
        · refine (s82_54 ⟨fun q1 => ⟨fun q2 => ?_, fun q3 => ⟨⟨(by first | omega | assumption | (refine ⟨?_, ?_⟩ <;> omega) | (simp_all; done)), (by first | omega | assumption | (refine ⟨?_, ?_⟩ <;> omega) | (simp_all; done))⟩, ⟨by omega, by omega⟩, ?_⟩⟩, fun q4 => ?_⟩)
          · rw [e1] at q2; exact absurd hs0 q2
          · refine s82_244 ⟨⟨by omega, by omega⟩, ?_⟩
            rw [e2, setA_upd, show ((i : Int)).toNat = i by omega, show ((t : Int)).toNat = t by omega]
            exact k
          · omega
        · rw [e1] at q8; exact absurd hs0 q8
        · rw [e1] at q8; exact absurd hs0 q8
        · rw [e1] at q8; exact absurd hs0 q8
        · rw [e1] at q8; exact absurd hs0 q8
        · rw [e1] at q8; exact absurd hs0 q8
        · rw [e1] at q8; exact absurd hs0 q8
        · rw [e1] at q8; exact absurd hs0 q8
      · have e1 := er 1 v (by omega) (by omega)
        have e2 := er 2 v (by omega) (by omega)
        have hgi := hg i (by omega)
        have hg9 := hgi.2.2 hs0
        have e1' : setA M 58 v (a + 1) ((i : Int)).toNat = 1 := by rw [e1, show ((i : Int)).toNat = i by omega]; exact hs0
        refine (s82_18 ⟨fun q1 => ⟨fun q2 => ?_, fun q3 => ⟨⟨by omega, by omega⟩, ⟨(by first | omega | assumption | (refine ⟨?_, ?_⟩ <;> omega) | (simp_all; done)), (by first | omega | assumption | (refine ⟨?_, ?_⟩ <;> omega) | (simp_all; done))⟩, fun q4 => ?_, fun q5 => ?_⟩⟩, fun q6 => ⟨(by first | omega | assumption | (refine ⟨?_, ?_⟩ <;> omega) | (simp_all; done)), ⟨(by first | omega | assumption | (refine ⟨?_, ?_⟩ <;> omega) | (simp_all; done)), (by first | omega | assumption | (refine ⟨?_, ?_⟩ <;> omega) | (simp_all; done))⟩, ⟨(by first | omega | assumption | (refine ⟨?_, ?_⟩ <;> omega) | (simp_all; done)), (by first | omega | assumption | (refine ⟨?_, ?_⟩ <;> omega) | (simp_all; done))⟩, fun q7 => ?_, fun q8 => ⟨fun q9 => ⟨fun q10 => ⟨fun q11 => ⟨fun q12 => ?_, fun q13 => ⟨fun q14 => ⟨fun q15 => ⟨⟨by omega, by omega⟩, ⟨by omega, by omega⟩, ⟨(by first | omega | assumption | (refine ⟨?_, ?_⟩ <;> omega) | (simp_all; done)), (by first | omega | assumption | (refine ⟨?_, ?_⟩ <;> omega) | (simp_all; done))⟩, ⟨(by first | omega | assumption | (refine ⟨?_, ?_⟩ <;> omega) | (simp_all; done)), (by first | omega | assumption | (refine ⟨?_, ?_⟩ <;> omega) | (simp_all; done))⟩, ?_⟩, fun q16 => ?_⟩, fun q17 => ?_⟩⟩, fun q18 => ⟨⟨by omega, by omega⟩, ⟨(by first | omega | assumption | (refine ⟨?_, ?_⟩ <;> omega) | (simp_all; done)), (by first | omega | assumption | (refine ⟨?_, ?_⟩ <;> omega) | (simp_all; done))⟩, ?_⟩⟩, fun q19 => ?_⟩, fun q20 => ?_⟩⟩⟩)
        · omega
        · omega
        · omega
        · omega
        · omega
        · omega
        · omega
        · omega
        · omega
        · omega
        · rw [e2]
          refine (s82_54 ⟨fun q1 => ⟨fun q2 => ?_, fun q3 => ⟨⟨(by first | omega | assumption | (refine ⟨?_, ?_⟩ <;> omega) | (simp_all; done)), (by first | omega | assumption | (refine ⟨?_, ?_⟩ <;> omega) | (simp_all; done))⟩, ⟨by omega, by omega⟩, ?_⟩⟩, fun q4 => ?_⟩)
          · refine c84 (by omega) hv (htv v) (by rw [show ((i : Int)).toNat = i by omega]; exact hgi.1) (by rw [show ((i : Int)).toNat = i by omega]; exact hg9) p0 p1 s0 s1 ⟨⟨(by first | omega | assumption | (refine ⟨?_, ?_⟩ <;> omega) | (simp_all; done)), (by first | omega | assumption | (refine ⟨?_, ?_⟩ <;> omega) | (simp_all; done))⟩, ⟨by omega, by omega⟩, ?_⟩
            refine s82_244 ⟨⟨by omega, by omega⟩, ?_⟩
            rw [setA_upd, show ((i : Int)).toNat = i by omega, show ((t : Int)).toNat = t by omega]
            exact k
          · omega
          · omega
      · have e1 := er 1 v (by omega) (by omega)
        have e1' : setA M 58 v (a + 1) ((i : Int)).toNat = 11 := by rw [e1, show ((i : Int)).toNat = i by omega]; exact hs0
        refine (s82_18 ⟨fun q1 => ⟨fun q2 => ?_, fun q3 => ⟨⟨by omega, by omega⟩, ⟨(by first | omega | assumption | (refine ⟨?_, ?_⟩ <;> omega) | (simp_all; done)), (by first | omega | assumption | (refine ⟨?_, ?_⟩ <;> omega) | (simp_all; done))⟩, fun q4 => ?_, fun q5 => ?_⟩⟩, fun q6 => ⟨(by first | omega | assumption | (refine ⟨?_, ?_⟩ <;> omega) | (simp_all; done)), ⟨(by first | omega | assumption | (refine ⟨?_, ?_⟩ <;> omega) | (simp_all; done)), (by first | omega | assumption | (refine ⟨?_, ?_⟩ <;> omega) | (simp_all; done))⟩, ⟨(by first | omega | assumption | (refine ⟨?_, ?_⟩ <;> omega) | (simp_all; done)), (by first | omega | assumption | (refine ⟨?_, ?_⟩ <;> omega) | (simp_all; done))⟩, fun q7 => ?_, fun q8 => ⟨fun q9 => ⟨fun q10 => ⟨fun q11 => ⟨fun q12 => ?_, fun q13 => ⟨fun q14 => ⟨fun q15 => ⟨⟨by omega, by omega⟩, ⟨by omega, by omega⟩, ⟨(by first | omega | assumption | (refine ⟨?_, ?_⟩ <;> omega) | (simp_all; done)), (by first | omega | assumption | (refine ⟨?_, ?_⟩ <;> omega) | (simp_all; done))⟩, ⟨(by first | omega | assumption | (refine ⟨?_, ?_⟩ <;> omega) | (simp_all; done)), (by first | omega | assumption | (refine ⟨?_, ?_⟩ <;> omega) | (simp_all; done))⟩, ?_⟩, fun q16 => ?_⟩, fun q17 => ?_⟩⟩, fun q18 => ⟨⟨by omega, by omega⟩, ⟨(by first | omega | assumption | (refine ⟨?_, ?_⟩ <;> omega) | (simp_all; done)), (by first | omega | assumption | (refine ⟨?_, ?_⟩ <;> omega) | (simp_all; done))⟩, ?_⟩⟩, fun q19 => ?_⟩, fun q20 => ?_⟩⟩⟩)
        · omega
        · omega
        · omega
        · omega
        · omega
        · omega
        · omega
        · omega
        · refine s82_244 ⟨⟨by omega, by omega⟩, ?_⟩
          rw [setA_upd, setA_at, show ((t : Int) - 1).toNat = t - 1 by omega]
          exact k
        · omega
        · omega
      · have e1 := er 1 v (by omega) (by omega)
        have e2 := er 2 v (by omega) (by omega)
        have hgi := hg i (by omega)
        have e1' : setA M 58 v (a + 1) ((i : Int)).toNat = 12 := by rw [e1, show ((i : Int)).toNat = i by omega]; exact hs0
        have e2' : setA M 58 v (a + 2) ((i : Int)).toNat = M (a + 2) i := by rw [e2, show ((i : Int)).toNat = i by omega]
        refine (s82_18 ⟨fun q1 => ⟨fun q2 => ?_, fun q3 => ⟨⟨by omega, by omega⟩, ⟨(by first | omega | assumption | (refine ⟨?_, ?_⟩ <;> omega) | (simp_all; done)), (by first | omega | assumption | (refine ⟨?_, ?_⟩ <;> omega) | (simp_all; done))⟩, fun q4 => ?_, fun q5 => ?_⟩⟩, fun q6 => ⟨(by first | omega | assumption | (refine ⟨?_, ?_⟩ <;> omega) | (simp_all; done)), ⟨(by first | omega | assumption | (refine ⟨?_, ?_⟩ <;> omega) | (simp_all; done)), (by first | omega | assumption | (refine ⟨?_, ?_⟩ <;> omega) | (simp_all; done))⟩, ⟨(by first | omega | assumption | (refine ⟨?_, ?_⟩ <;> omega) | (simp_all; done)), (by first | omega | assumption | (refine ⟨?_, ?_⟩ <;> omega) | (simp_all; done))⟩, fun q7 => ?_, fun q8 => ⟨fun q9 => ⟨fun q10 => ⟨fun q11 => ⟨fun q12 => ?_, fun q13 => ⟨fun q14 => ⟨fun q15 => ⟨⟨by omega, by omega⟩, ⟨by omega, by omega⟩, ⟨(by first | omega | assumption | (refine ⟨?_, ?_⟩ <;> omega) | (simp_all; done)), (by first | omega | assumption | (refine ⟨?_, ?_⟩ <;> omega) | (simp_all; done))⟩, ⟨(by first | omega | assumption | (refine ⟨?_, ?_⟩ <;> omega) | (simp_all; done)), (by first | omega | assumption | (refine ⟨?_, ?_⟩ <;> omega) | (simp_all; done))⟩, ?_⟩, fun q16 => ?_⟩, fun q17 => ?_⟩⟩, fun q18 => ⟨⟨by omega, by omega⟩, ⟨(by first | omega | assumption | (refine ⟨?_, ?_⟩ <;> omega) | (simp_all; done)), (by first | omega | assumption | (refine ⟨?_, ?_⟩ <;> omega) | (simp_all; done))⟩, ?_⟩⟩, fun q19 => ?_⟩, fun q20 => ?_⟩⟩⟩)
        · omega
        · omega
        · omega
        · omega
        · rw [e1', e2']
          refine (s82_149 ⟨⟨by omega, by omega⟩, ⟨(by first | omega | assumption | (refine ⟨?_, ?_⟩ <;> omega) | (simp_all; done)), (by first | omega | assumption | (refine ⟨?_, ?_⟩ <;> omega) | (simp_all; done))⟩, fun q1 => ⟨fun q2 => ⟨⟨by omega, by omega⟩, ?_⟩, fun q3 => ⟨⟨by omega, by omega⟩, ?_⟩⟩, fun q4 => ⟨fun q5 => ⟨⟨by omega, by omega⟩, ?_⟩, fun q6 => ⟨⟨by omega, by omega⟩, ?_⟩⟩⟩)
          · rw [setA_at, show ((t : Int) - 1).toNat = t - 1 by omega] at q1
            have := k1 q1
            dsimp only at this
            refine s82_244 ⟨by split <;> exact ⟨by omega, by omega⟩, ?_⟩
            rw [show ((Nat.max (i + 1) (M (a + 2) i).toNat : Nat) : Int) = (if (i : Int) < M (a + 2) i - 1 then M (a + 2) i - 1 else (i : Int)) + 1 by
              have e : Nat.max (i + 1) (M (a + 2) i).toNat = if i + 1 ≤ (M (a + 2) i).toNat then (M (a + 2) i).toNat else i + 1 := by rw [← Nat.max_def]
              rw [e]; split <;> split <;> omega] at this
            exact this
          · omega
          · rw [setA_at, show ((t : Int) - 1).toNat = t - 1 by omega] at q4
            have := k2 q4
            dsimp only at this
            refine s82_244 ⟨⟨by omega, by omega⟩, ?_⟩
            rw [show ((t - 1 : Nat) : Int) = (t : Int) + (-1) by omega] at this
            exact this
          · omega
        · omega
        · omega
        · omega
        · omega
        · omega
        · omega
      · have e1 := er 1 v (by omega) (by omega)
        have e2 := er 2 v (by omega) (by omega)
        have hgi := hg i (by omega)
        have e1' : setA M 58 v (a + 1) ((i : Int)).toNat = 13 := by rw [e1, show ((i : Int)).toNat = i by omega]; exact hs0
        have e2' : setA M 58 v (a + 2) ((i : Int)).toNat = M (a + 2) i := by rw [e2, show ((i : Int)).toNat = i by omega]
        refine (s82_18 ⟨fun q1 => ⟨fun q2 => ?_, fun q3 => ⟨⟨by omega, by omega⟩, ⟨(by first | omega | assumption | (refine ⟨?_, ?_⟩ <;> omega) | (simp_all; done)), (by first | omega | assumption | (refine ⟨?_, ?_⟩ <;> omega) | (simp_all; done))⟩, fun q4 => ?_, fun q5 => ?_⟩⟩, fun q6 => ⟨(by first | omega | assumption | (refine ⟨?_, ?_⟩ <;> omega) | (simp_all; done)), ⟨(by first | omega | assumption | (refine ⟨?_, ?_⟩ <;> omega) | (simp_all; done)), (by first | omega | assumption | (refine ⟨?_, ?_⟩ <;> omega) | (simp_all; done))⟩, ⟨(by first | omega | assumption | (refine ⟨?_, ?_⟩ <;> omega) | (simp_all; done)), (by first | omega | assumption | (refine ⟨?_, ?_⟩ <;> omega) | (simp_all; done))⟩, fun q7 => ?_, fun q8 => ⟨fun q9 => ⟨fun q10 => ⟨fun q11 => ⟨fun q12 => ?_, fun q13 => ⟨fun q14 => ⟨fun q15 => ⟨⟨by omega, by omega⟩, ⟨by omega, by omega⟩, ⟨(by first | omega | assumption | (refine ⟨?_, ?_⟩ <;> omega) | (simp_all; done)), (by first | omega | assumption | (refine ⟨?_, ?_⟩ <;> omega) | (simp_all; done))⟩, ⟨(by first | omega | assumption | (refine ⟨?_, ?_⟩ <;> omega) | (simp_all; done)), (by first | omega | assumption | (refine ⟨?_, ?_⟩ <;> omega) | (simp_all; done))⟩, ?_⟩, fun q16 => ?_⟩, fun q17 => ?_⟩⟩, fun q18 => ⟨⟨by omega, by omega⟩, ⟨(by first | omega | assumption | (refine ⟨?_, ?_⟩ <;> omega) | (simp_all; done)), (by first | omega | assumption | (refine ⟨?_, ?_⟩ <;> omega) | (simp_all; done))⟩, ?_⟩⟩, fun q19 => ?_⟩, fun q20 => ?_⟩⟩⟩)
        · omega
        · omega
        · omega
        · omega
        · omega
        · omega
        · omega
        · rw [e1', e2']
          refine (s82_149 ⟨⟨by omega, by omega⟩, ⟨(by first | omega | assumption | (refine ⟨?_, ?_⟩ <;> omega) | (simp_all; done)), (by first | omega | assumption | (refine ⟨?_, ?_⟩ <;> omega) | (simp_all; done))⟩, fun q1 => ⟨fun q2 => ⟨⟨by omega, by omega⟩, ?_⟩, fun q3 => ⟨⟨by omega, by omega⟩, ?_⟩⟩, fun q4 => ⟨fun q5 => ⟨⟨by omega, by omega⟩, ?_⟩, fun q6 => ⟨⟨by omega, by omega⟩, ?_⟩⟩⟩)
          · omega
          · rw [setA_at, show ((t : Int) - 1).toNat = t - 1 by omega] at q1
            have := k2 q1
            dsimp only at this
            refine s82_244 ⟨⟨by omega, by omega⟩, ?_⟩
            rw [show ((t - 1 : Nat) : Int) = (t : Int) + (-1) by omega] at this
            exact this
          · omega
          · rw [setA_at, show ((t : Int) - 1).toNat = t - 1 by omega] at q4
            have := k1 q4
            dsimp only at this
            refine s82_244 ⟨by split <;> exact ⟨by omega, by omega⟩, ?_⟩
            rw [show ((Nat.max (i + 1) (M (a + 2) i).toNat : Nat) : Int) = (if (i : Int) < M (a + 2) i - 1 then M (a + 2) i - 1 else (i : Int)) + 1 by
              have e : Nat.max (i + 1) (M (a + 2) i).toNat = if i + 1 ≤ (M (a + 2) i).toNat then (M (a + 2) i).toNat else i + 1 := by rw [← Nat.max_def]
              rw [e]; split <;> split <;> omega] at this
            exact this
        · omega
        · omega
        · omega
      · have e1 := er 1 v (by omega) (by omega)
        have e1' : setA M 58 v (a + 1) ((i : Int)).toNat = M (a + 1) i := by rw [e1, show ((i : Int)).toNat = i by omega]
        refine (s82_18 ⟨fun q1 => ⟨fun q2 => ?_, fun q3 => ⟨⟨by omega, by omega⟩, ⟨(by first | omega | assumption | (refine ⟨?_, ?_⟩ <;> omega) | (simp_all; done)), (by first | omega | assumption | (refine ⟨?_, ?_⟩ <;> omega) | (simp_all; done))⟩, fun q4 => ?_, fun q5 => ?_⟩⟩, fun q6 => ⟨(by first | omega | assumption | (refine ⟨?_, ?_⟩ <;> omega) | (simp_all; done)), ⟨(by first | omega | assumption | (refine ⟨?_, ?_⟩ <;> omega) | (simp_all; done)), (by first | omega | assumption | (refine ⟨?_, ?_⟩ <;> omega) | (simp_all; done))⟩, ⟨(by first | omega | assumption | (refine ⟨?_, ?_⟩ <;> omega) | (simp_all; done)), (by first | omega | assumption | (refine ⟨?_, ?_⟩ <;> omega) | (simp_all; done))⟩, fun q7 => ?_, fun q8 => ⟨fun q9 => ⟨fun q10 => ⟨fun q11 => ⟨fun q12 => ?_, fun q13 => ⟨fun q14 => ⟨fun q15 => ⟨⟨by omega, by omega⟩, ⟨by omega, by omega⟩, ⟨(by first | omega | assumption | (refine ⟨?_, ?_⟩ <;> omega) | (simp_all; done)), (by first | omega | assumption | (refine ⟨?_, ?_⟩ <;> omega) | (simp_all; done))⟩, ⟨(by first | omega | assumption | (refine ⟨?_, ?_⟩ <;> omega) | (simp_all; done)), (by first | omega | assumption | (refine ⟨?_, ?_⟩ <;> omega) | (simp_all; done))⟩, ?_⟩, fun q16 => ?_⟩, fun q17 => ?_⟩⟩, fun q18 => ⟨⟨by omega, by omega⟩, ⟨(by first | omega | assumption | (refine ⟨?_, ?_⟩ <;> omega) | (simp_all; done)), (by first | omega | assumption | (refine ⟨?_, ?_⟩ <;> omega) | (simp_all; done))⟩, ?_⟩⟩, fun q19 => ?_⟩, fun q20 => ?_⟩⟩⟩)
        · omega
        · omega
        · omega
        · omega
        · omega
        · rw [e1']
          refine c85 (by omega) ⟨hs0, hs1⟩ ⟨⟨(by first | omega | assumption | (refine ⟨?_, ?_⟩ <;> omega) | (simp_all; done)), (by first | omega | assumption | (refine ⟨?_, ?_⟩ <;> omega) | (simp_all; done))⟩, ?_⟩
          refine s82_244 ⟨⟨by omega, by omega⟩, ?_⟩
          rw [setA_upd, setA_at, show ((t : Int) + (-1) - 1).toNat = t - 2 by omega, show ((t : Int) + (-1)).toNat = t - 1 by omega]
          dsimp only at k
          rw [show ((t - 1 : Nat) : Int) = (t : Int) + (-1) by omega] at k
          exact k
        · omega
        · omega
        · omega
        · omega
        · omega
    have fin := H.2.2 (wE S p s) (M (a + 4) x2.toNat).toNat _ (Nat.le_refl _) cl 0 (M 58) (by omega) (fun v' _ e2 => ?_)
    · rw [setA_id, ← z_nat st0, ← hx] at fin
      exact fin
    · rcases hD (wE S p s) with z | z
      · refine (s82_18 ⟨fun q1 => ⟨fun q2 => ?_, fun q3 => ⟨⟨by omega, by omega⟩, ⟨(by first | omega | assumption | (refine ⟨?_, ?_⟩ <;> omega) | (simp_all; done)), (by first | omega | assumption | (refine ⟨?_, ?_⟩ <;> omega) | (simp_all; done))⟩, fun q4 => ?_, fun q5 => ?_⟩⟩, fun q6 => ⟨(by first | omega | assumption | (refine ⟨?_, ?_⟩ <;> omega) | (simp_all; done)), ⟨(by first | omega | assumption | (refine ⟨?_, ?_⟩ <;> omega) | (simp_all; done)), (by first | omega | assumption | (refine ⟨?_, ?_⟩ <;> omega) | (simp_all; done))⟩, ⟨(by first | omega | assumption | (refine ⟨?_, ?_⟩ <;> omega) | (simp_all; done)), (by first | omega | assumption | (refine ⟨?_, ?_⟩ <;> omega) | (simp_all; done))⟩, fun q7 => ?_, fun q8 => ⟨fun q9 => ⟨fun q10 => ⟨fun q11 => ⟨fun q12 => ?_, fun q13 => ⟨fun q14 => ⟨fun q15 => ⟨⟨by omega, by omega⟩, ⟨by omega, by omega⟩, ⟨(by first | omega | assumption | (refine ⟨?_, ?_⟩ <;> omega) | (simp_all; done)), (by first | omega | assumption | (refine ⟨?_, ?_⟩ <;> omega) | (simp_all; done))⟩, ⟨(by first | omega | assumption | (refine ⟨?_, ?_⟩ <;> omega) | (simp_all; done)), (by first | omega | assumption | (refine ⟨?_, ?_⟩ <;> omega) | (simp_all; done))⟩, ?_⟩, fun q16 => ?_⟩, fun q17 => ?_⟩⟩, fun q18 => ⟨⟨by omega, by omega⟩, ⟨(by first | omega | assumption | (refine ⟨?_, ?_⟩ <;> omega) | (simp_all; done)), (by first | omega | assumption | (refine ⟨?_, ?_⟩ <;> omega) | (simp_all; done))⟩, ?_⟩⟩, fun q19 => ?_⟩, fun q20 => ?_⟩⟩⟩)
        · omega
        · exact s82_273 (k0 z v')
        · rw [setA_at] at q5
          exact absurd (e2.trans z) q5
        all_goals omega
      · refine (s82_18 ⟨fun q1 => ⟨fun q2 => ?_, fun q3 => ⟨⟨by omega, by omega⟩, ⟨(by first | omega | assumption | (refine ⟨?_, ?_⟩ <;> omega) | (simp_all; done)), (by first | omega | assumption | (refine ⟨?_, ?_⟩ <;> omega) | (simp_all; done))⟩, fun q4 => ?_, fun q5 => ?_⟩⟩, fun q6 => ⟨(by first | omega | assumption | (refine ⟨?_, ?_⟩ <;> omega) | (simp_all; done)), ⟨(by first | omega | assumption | (refine ⟨?_, ?_⟩ <;> omega) | (simp_all; done)), (by first | omega | assumption | (refine ⟨?_, ?_⟩ <;> omega) | (simp_all; done))⟩, ⟨(by first | omega | assumption | (refine ⟨?_, ?_⟩ <;> omega) | (simp_all; done)), (by first | omega | assumption | (refine ⟨?_, ?_⟩ <;> omega) | (simp_all; done))⟩, fun q7 => ?_, fun q8 => ⟨fun q9 => ⟨fun q10 => ⟨fun q11 => ⟨fun q12 => ?_, fun q13 => ⟨fun q14 => ⟨fun q15 => ⟨⟨by omega, by omega⟩, ⟨by omega, by omega⟩, ⟨(by first | omega | assumption | (refine ⟨?_, ?_⟩ <;> omega) | (simp_all; done)), (by first | omega | assumption | (refine ⟨?_, ?_⟩ <;> omega) | (simp_all; done))⟩, ⟨(by first | omega | assumption | (refine ⟨?_, ?_⟩ <;> omega) | (simp_all; done)), (by first | omega | assumption | (refine ⟨?_, ?_⟩ <;> omega) | (simp_all; done))⟩, ?_⟩, fun q16 => ?_⟩, fun q17 => ?_⟩⟩, fun q18 => ⟨⟨by omega, by omega⟩, ⟨(by first | omega | assumption | (refine ⟨?_, ?_⟩ <;> omega) | (simp_all; done)), (by first | omega | assumption | (refine ⟨?_, ?_⟩ <;> omega) | (simp_all; done))⟩, ?_⟩⟩, fun q19 => ?_⟩, fun q20 => ?_⟩⟩⟩)
        · omega
        · rw [setA_at] at q4
          have : D x2.toNat (wE S p s) = 0 := e2.symm.trans q4
          omega
        · exact k1 z v'
        all_goals omega
  unfold stC at st0 hst
  refine e82 (s82_0 ⟨(by first | omega | assumption | (refine ⟨?_, ?_⟩ <;> omega) | (simp_all; done)), ⟨(by first | omega | assumption | (refine ⟨?_, ?_⟩ <;> omega) | (simp_all; done)), (by first | omega | assumption | (refine ⟨?_, ?_⟩ <;> omega) | (simp_all; done))⟩, fun q1 => ?_, fun q2 => ⟨fun q3 => ?_, fun q4 => ⟨⟨by omega, by omega⟩, ⟨(by first | omega | assumption | (refine ⟨?_, ?_⟩ <;> omega) | (simp_all; done)), (by first | omega | assumption | (refine ⟨?_, ?_⟩ <;> omega) | (simp_all; done))⟩, ?_⟩⟩⟩)
  · exact hst 0 (by rw [if_neg (by omega)])
  · omega
  · exact hst _ (by rw [if_pos q2])
end Eval
