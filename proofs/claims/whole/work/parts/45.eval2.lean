/-! RULES: some test of a kind; the reference's reckoning. -/
/-- some clause of a kind holds -/
def heldK (D : Nat → (Nat → Int) → Int) (kd : Nat → Int) (n : Int) (kind : Int) (w : Nat → Int) : Prop := ∃ c : Int, 0 ≤ c ∧ c < n ∧ kd c.toNat = kind ∧ D c.toNat w = 1
def hasK (kd : Nat → Int) (n : Int) (kind : Int) : Prop := ∃ c : Int, 0 ≤ c ∧ c < n ∧ kd c.toNat = kind
/-- a rule as the reference has it -/
def rSg (M : sM) (r : Int) (i : Nat) : Int := iAnd (M 84 ((400 * r) + (i : Int)).toNat) 15
def rVg (M : sM) (r : Int) (i : Nat) : Int := iShr (M 84 ((400 * r) + (i : Int)).toNat) 4
def ruleF (M : sM) (r n : Int) (kd : Nat → Int) (D : Nat → (Nat → Int) → Int) : Prop :=
  0 ≤ r ∧ r < 6 ∧ M 87 r.toNat = n ∧ 0 ≤ n ∧ n ≤ 12 ∧ ∀ c : Int, 0 ≤ c → c < n → M 86 ((36 * r) + (3 * c)).toNat = kd c.toNat ∧ 0 ≤ M 86 (((36 * r) + (3 * c)) + 1).toNat ∧ M 86 (((36 * r) + (3 * c)) + 1).toNat ≤ M 86 (((36 * r) + (3 * c)) + 2).toNat ∧ M 86 (((36 * r) + (3 * c)) + 2).toNat ≤ 400 ∧
    (∀ i : Nat, (i : Int) < M 86 (((36 * r) + (3 * c)) + 2).toNat → 0 ≤ rVg M r i ∧ rVg M r i ≤ 99999 ∧ (rSg M r i = 1 → rVg M r i ≤ 9)) ∧ (∃ h, h ≤ 64 ∧ rSeg (rSg M r) (rVg M r) (M 86 (((36 * r) + (3 * c)) + 1).toNat).toNat (M 86 (((36 * r) + (3 * c)) + 2).toNat).toNat h (D c.toNat)) ∧ ∀ w, D c.toNat w = 0 ∨ D c.toNat w = 1
/-- alike but for what a reckoning uses -/
def rK (M M' : sM) : Prop := (∀ a, a ≠ 91 → a ≠ 92 → a ≠ 82 → M' a = M a) ∧ ∀ i, i ≠ 21 → M' 82 i = M 82 i
theorem rK.refl (M : sM) : rK M M := ⟨fun _ _ _ _ => rfl, fun _ _ => rfl⟩
theorem rK.trans {M M' M'' : sM} (h : rK M M') (h' : rK M' M'') : rK M M'' := ⟨fun a h1 h2 h3 => (h'.1 a h1 h2 h3).trans (h.1 a h1 h2 h3), fun i hi => (h'.2 i hi).trans (h.2 i hi)⟩
theorem rK.a {M M' : sM} (h : rK M M') {a : Nat} (h1 : a ≠ 91) (h2 : a ≠ 92) (h3 : a ≠ 82) : M' a = M a := h.1 a h1 h2 h3
theorem ruleF.congr {M M' : sM} {r n : Int} {kd : Nat → Int} {D : Nat → (Nat → Int) → Int} (h : ruleF M r n kd D) (h84 : M' 84 = M 84) (h86 : M' 86 = M 86) (h87 : M' 87 = M 87) : ruleF M' r n kd D := by
  have e1 : rSg M' r = rSg M r := by funext i; unfold rSg; rw [h84]
  have e2 : rVg M' r = rVg M r := by funext i; unfold rVg; rw [h84]
  unfold ruleF at h ⊢
  rw [e1, e2, h86, h87]
  exact h
theorem ruleC.congr {M M' : sM} {G : sG} {a : Nat} {n : Int} {kd : Nat → Int} {D : Nat → (Nat → Int) → Int} (h : ruleC M G a n kd D) (e : ∀ k, k ≤ 4 → M' (a + k) = M (a + k)) : ruleC M' G a n kd D := by
  have e0 := e 0 (by omega)
  rw [Nat.add_zero] at e0
  unfold ruleC at h ⊢
  rw [e0, e 1 (by omega), e 2 (by omega), e 3 (by omega), e 4 (by omega)]
  exact h
section Eval2
variable {d : Nat} {P : Int → sM → sG → Prop} {PV : sM → sG → Prop} {M : sM} {G : sG} {b : Nat} {S : Nat → Int} {B : Int}
theorem c87 {a : Nat} {n x1 : Int} {kd : Nat → Int} {D : Nat → (Nat → Int) → Int} (hd : 5 ≤ d) (hr : ruleC M G a n kd D) (k1 : hasK kd n x1 → P 1 M G) (k0 : ¬ hasK kd n x1 → P 0 M G) : sC d 87 [vO 6 a, vI x1] M G (QI P) := by
  obtain ⟨d, rfl⟩ := sD 2 (d := d) (by omega)
  obtain ⟨a0, rn, n0, n1, l3, l4, hcl⟩ := hr
  refine e87 (s87_0 ?_)
  refine sUpTo (W := fun i => (∀ c : Int, 0 ≤ c → c < (i : Int) → kd c.toNat ≠ x1) → sW (sC (d + 1)) 87 (QI P) 2 [vO 6 a, vI x1, vI (i : Int)] [] M G 0 0) n.toNat ?_ ?_ (fun c a b => by omega)
  · intro hno
    exact s87_2 ⟨fun _ => k0 (fun ⟨c, c0, c1, c2⟩ => hno c c0 (by omega) c2), fun q => by omega⟩
  · intro i hi ih hno
    have e3 := (hcl i (by omega) (by omega)).1
    refine (s87_2 ⟨fun q1 => ?_, fun q2 => ⟨⟨(by first | omega | assumption | (refine ⟨?_, ?_⟩ <;> omega) | (simp_all; done)), (by first | omega | assumption | (refine ⟨?_, ?_⟩ <;> omega) | (simp_all; done))⟩, fun q3 => ⟨⟨by omega, by omega⟩, ?_⟩, fun q4 => ?_⟩⟩)
    · omega
    · exact ih (fun c c0 c1 => by
        by_cases e : c = (i : Int)
        · rw [e, ← e3]; exact q3
        · exact hno c c0 (by omega))
    · exact k1 ⟨i, by omega, by omega, e3.symm.trans q4⟩
theorem c81 {a : Nat} {n x2 p s : Int} {kd : Nat → Int} {D : Nat → (Nat → Int) → Int} (hd : 25 ≤ d) (hr : ruleC M G a n kd D) (hv : vTown B S) (ht : TR b M S) (hb : b + 14 < 58) (ha : 58 < a) (p0 : 0 ≤ p) (p1 : p < 12) (s0 : 0 ≤ s) (s1 : s < S 1)
    (k1 : heldK D kd n x2 (wE S p s) → ∀ V, P 1 (setA M 58 V) G) (k0 : ¬ heldK D kd n x2 (wE S p s) → ∀ V, P 0 (setA M 58 V) G) : sC d 81 [vO 0 57, vQ 6 a, vI x2, vO 10 b, vI p, vI s] M G (QI P) := by
  obtain ⟨d, rfl⟩ := sD 2 (d := d) (by omega)
  have hr0 := hr
  obtain ⟨a0, rn, n0, n1, l3, l4, hcl⟩ := hr
  refine e81 (s81_0 ?_)
  have lp := sUpTo (W := fun i => ∀ V, (∀ c : Int, 0 ≤ c → c < (i : Int) → ¬ (kd c.toNat = x2 ∧ D c.toNat (wE S p s) = 1)) → sW (sC (d + 1)) 81 (QI P) 3 [vO 0 57, vQ 6 a, vI x2, vO 10 b, vI p, vI s, vI (i : Int)] [] (setA M 58 V) G 0 0) n.toNat ?_ ?_
  · have := lp (M 58) (fun c a b => by omega)
    rw [setA_id] at this
    exact this
  · intro V hno
    have ea : setA M 58 V a = M a := setA_ne (by omega)
    exact s81_3 ⟨a0, fun _ => k0 (fun ⟨c, c0, c1, c2⟩ => hno c c0 (by omega) c2) V, fun q => by rw [ea] at q; omega⟩
  · intro i hi ih V hno
    have ea : setA M 58 V a = M a := setA_ne (by omega)
    have ea3 : setA M 58 V (a + 3) = M (a + 3) := setA_ne (by omega)
    have e3 := (hcl i (by omega) (by omega)).1
    have hD := (hcl i (by omega) (by omega)).2.2.2.2.2.2.2.2 (wE S p s)
    have nx : ¬ (kd ((i : Int)).toNat = x2 ∧ D ((i : Int)).toNat (wE S p s) = 1) → ∀ V', sW (sC (d + 1)) 81 (QI P) 3 [vO 0 57, vQ 6 a, vI x2, vO 10 b, vI p, vI s, vI ((i + 1 : Nat) : Int)] [] (setA M 58 V') G 0 0 := fun hn V' => ih V' (fun c c0 c1 => by
      by_cases e : c = (i : Int)
      · rw [e]; exact hn
      · exact hno c c0 (by omega))
    have ss : ∀ V', setA (setA M 58 V) 58 V' = setA M 58 V' := fun V' => by
      funext a i
      unfold setA
      by_cases h : a = 58
      · rw [if_pos h, if_pos h]
      · rw [if_neg h, if_neg h, if_neg h]
    refine (s81_3 ⟨(by first | omega | assumption | (refine ⟨?_, ?_⟩ <;> omega) | (simp_all; done)), fun q1 => ?_, fun q2 => ⟨⟨(by first | omega | assumption | (refine ⟨?_, ?_⟩ <;> omega) | (simp_all; done)), (by first | omega | assumption | (refine ⟨?_, ?_⟩ <;> omega) | (simp_all; done))⟩, fun q3 => ⟨⟨by omega, by omega⟩, ?_⟩, fun q4 => ?_⟩⟩)
    · rw [ea] at q1; omega
    · rw [ea3, e3] at q3
      exact nx (fun z => q3 z.1) V
    · refine c82 (by omega) (hr0.congr (fun k _ => setA_ne (by omega))) hv (ht.congr (fun x _ _ => setA_ne (by omega))) hb ha (by omega) (by omega) p0 p1 s0 s1 (fun z V' => ⟨fun q5 => ⟨⟨by omega, by omega⟩, ?_⟩, fun q6 => ?_⟩) (fun z V' => ⟨fun q5 => ⟨⟨by omega, by omega⟩, ?_⟩, fun q6 => ?_⟩)
      · omega
      · rw [ss]
        rw [ea3, e3] at q4
        exact k1 ⟨i, by omega, by omega, q4, z⟩ V'
      · rw [ss]; exact nx (fun y => by have := y.2; omega) V'
      · omega
theorem c223 {x1 x2 : Int} (hd : 10 ≤ d) (hv : vTown B (M 93)) (p0 : 0 ≤ x1) (p1 : x1 < 12) (s0 : 0 ≤ x2) (s1 : x2 < M 93 1) (kk : ∀ V : Nat → Int, (∀ j, j < 10 → V j = wE (M 93) x1 x2 j) → PV (setA M 92 V) G) : sC d 223 [vO 12 82, vI x1, vI x2] M G (QV PV) := by
  obtain ⟨d, rfl⟩ := sD 2 (d := d) (by omega)
  have hs0 := hv.1.1
  have hs1 := hv.1.2.1
  have hs2 := hv.1.2.2.1
  obtain ⟨v0, v1, v2, v3, v4, v5, v6⟩ := hv.2.2.1 x2 s0 s1
  obtain ⟨w1, w2, w3⟩ := hv.2.1 _ v1.1 v1.2
  have hn := inN_ge (M 93) (tO (M 93) x2 1)
  have e93 : ∀ V, setA M 92 V 93 = M 93 := fun V => setA_ne (by decide)
  have t1 : M 93 ((28 + (6 * x2)) + 1).toNat = tO (M 93) x2 1 := rfl
  have t3 : M 93 ((28 + (6 * x2)) + 3).toNat = tO (M 93) x2 3 := rfl
  have t4 : M 93 ((28 + (6 * x2)) + 4).toNat = tO (M 93) x2 4 := rfl
  have h1 : M 93 ((10 + (3 * tO (M 93) x2 1)) + 1).toNat = hO (M 93) (tO (M 93) x2 1) 1 := rfl
  have h2 : M 93 ((10 + (3 * tO (M 93) x2 1)) + 2).toNat = hO (M 93) (tO (M 93) x2 1) 2 := rfl
  have u0 : ∀ V i x, sUpd (setA M 92 V) 92 i x = setA M 92 (uS V i x) := fun V i x => setA_upd M 92 V i x
  have hM : M = setA M 92 (M 92) := (setA_id M 92).symm
  have fin : ∀ V, V 0 = M 93 2 → V 1 = x1 → V 2 = tO (M 93) x2 1 → V 3 = inN (M 93) (tO (M 93) x2 1) → V 4 = (if pO (M 93) x1 0 = tO (M 93) x2 1 then othA (M 93) x1 else 0) → V 5 = hO (M 93) (tO (M 93) x2 1) 1 - inN (M 93) (tO (M 93) x2 1) → V 6 = hO (M 93) (tO (M 93) x2 1) 2 → V 7 = tO (M 93) x2 4 → V 8 = (if tO (M 93) x2 3 < M 93 2 then M 93 2 - tO (M 93) x2 3 else 0) → V 9 = (if M 93 2 < tO (M 93) x2 3 then tO (M 93) x2 3 - M 93 2 else 0) → PV (setA M 92 V) G := fun V g0 g1 g2 g3 g4 g5 g6 g7 g8 g9 => kk V (fun j hj => by
    match j, hj with
    | 0, _ => exact g0
    | 1, _ => exact g1
    | 2, _ => exact g2
    | 3, _ => exact g3
    | 4, _ => exact g4
    | 5, _ => exact g5
    | 6, _ => exact g6
    | 7, _ => exact g7
    | 8, _ => exact g8
    | 9, _ => exact g9
    | j + 10, h => omega)
  refine e223 (s223_0 ⟨⟨by omega, by omega⟩, ⟨by omega, by omega⟩, ⟨by omega, by omega⟩, ⟨(by first | omega | assumption | (refine ⟨?_, ?_⟩ <;> omega) | (simp_all; done)), (by first | omega | assumption | (refine ⟨?_, ?_⟩ <;> omega) | (simp_all; done))⟩, ⟨by omega, by omega⟩, ⟨by omega, by omega⟩, ⟨by omega, by omega⟩, ⟨(by first | omega | assumption | (refine ⟨?_, ?_⟩ <;> omega) | (simp_all; done)), (by first | omega | assumption | (refine ⟨?_, ?_⟩ <;> omega) | (simp_all; done))⟩, fun q1 => ?_, fun q8 => ?_⟩)
  · rw [t1] at *
    rw [hM, u0, u0, u0]
    refine c205 (by omega) ?_
    rw [e93, u0, u0]
    refine ⟨⟨by omega, by omega⟩, ⟨by omega, by omega⟩, ⟨by omega, by omega⟩, ⟨by omega, by omega⟩, ?_⟩
    refine c205 (by omega) ?_
    simp only [e93, setA_id]
    rw [h1, h2, t3, t4]
    refine ⟨⟨by omega, by omega⟩, ⟨by omega, by omega⟩, ⟨by omega, by omega⟩, ⟨by omega, by omega⟩, ⟨by omega, by omega⟩, ⟨by omega, by omega⟩, ⟨by omega, by omega⟩, ?_⟩
    have e4 : (if pO (M 93) x1 0 = tO (M 93) x2 1 then othA (M 93) x1 else 0) = 0 := if_neg q1
    refine ⟨fun q2 => ⟨fun q3 => ?_, fun q4 => ⟨⟨by omega, by omega⟩, ?_⟩⟩, fun q5 => ⟨⟨by omega, by omega⟩, fun q6 => ?_, fun q7 => by omega⟩⟩
    · rw [u0, u0, u0, u0, u0]
      exact fin _ rfl rfl rfl rfl e4.symm rfl rfl rfl (if_neg (by omega)).symm (if_neg (by omega)).symm
    · rw [u0, u0, u0, u0, u0]
      exact fin _ rfl rfl rfl rfl e4.symm rfl rfl rfl (if_neg (by omega)).symm (if_pos (by omega)).symm
    · rw [u0, u0, u0, u0, u0]
      exact fin _ rfl rfl rfl rfl e4.symm rfl rfl rfl (if_pos (by omega)).symm (if_neg (by omega)).symm
  · rw [t1] at *
    rw [hM, u0, u0, u0]
    refine c205 (by omega) ?_
    rw [e93, u0]
    refine c213a (by omega) p0 p1 ?_
    rw [e93, u0]
    refine ⟨⟨by omega, by omega⟩, ⟨by omega, by omega⟩, ⟨by omega, by omega⟩, ⟨by omega, by omega⟩, ?_⟩
    refine c205 (by omega) ?_
    simp only [e93, setA_id]
    rw [h1, h2, t3, t4]
    refine ⟨⟨by omega, by omega⟩, ⟨by omega, by omega⟩, ⟨by omega, by omega⟩, ⟨by omega, by omega⟩, ⟨by omega, by omega⟩, ⟨by omega, by omega⟩, ⟨by omega, by omega⟩, ?_⟩
    have e4 : (if pO (M 93) x1 0 = tO (M 93) x2 1 then othA (M 93) x1 else 0) = othA (M 93) x1 := if_pos q8
    refine ⟨fun q2 => ⟨fun q3 => ?_, fun q4 => ⟨⟨by omega, by omega⟩, ?_⟩⟩, fun q5 => ⟨⟨by omega, by omega⟩, fun q6 => ?_, fun q7 => by omega⟩⟩
    · rw [u0, u0, u0, u0, u0]
      exact fin _ rfl rfl rfl rfl e4.symm rfl rfl rfl (if_neg (by omega)).symm (if_neg (by omega)).symm
    · rw [u0, u0, u0, u0, u0]
      exact fin _ rfl rfl rfl rfl e4.symm rfl rfl rfl (if_neg (by omega)).symm (if_pos (by omega)).symm
    · rw [u0, u0, u0, u0, u0]
      exact fin _ rfl rfl rfl rfl e4.symm rfl rfl rfl (if_pos (by omega)).symm (if_neg (by omega)).symm
end Eval2
