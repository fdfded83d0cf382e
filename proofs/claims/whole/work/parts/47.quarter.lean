/-! A QUARTER, said of the row alone. -/
noncomputable def lstN (Q : Nat → Prop) : Nat → Nat → Nat
  | i, 0 => i
  | i, k + 1 => @ite _ (Q i) (Classical.propDecidable _) i (lstN Q (i + 1) k)
theorem lstN_eq {Q : Nat → Prop} : ∀ (k i r : Nat), i ≤ r → r ≤ i + k → (∀ j, i ≤ j → j < r → ¬ Q j) → (r < i + k → Q r) → lstN Q i k = r
  | 0, i, r, h1, h2, _, _ => by show i = r; omega
  | k + 1, i, r, h1, h2, h3, h4 => by
    unfold lstN
    by_cases c : Q i
    · rw [if_pos c]
      by_cases e : i = r
      · exact e
      · exact absurd c (h3 i (Nat.le_refl _) (by omega))
    · rw [if_neg c]
      have hir : i ≠ r := fun e => c (e ▸ h4 (by omega))
      exact lstN_eq k (i + 1) r (by omega) (by omega) (fun j a b => h3 j (by omega) b) (fun z => h4 (by omega))
def fT (f : (Nat → Int) → Int → (Nat → Int)) : Nat → (Nat → Int) → (Nat → Int)
  | 0, S => S
  | n + 1, S => f (fT f n S) n
section Spec
variable (D : Nat → (Nat → Int) → Int) (kd : Nat → Int) (n : Int)
def goes (S : Nat → Int) (p : Int) : Prop := dueS S p ∧ mayG S p ∧ ¬ heldK D kd n 1 (wE S p (pO S p 1))
noncomputable def fstG (S : Nat → Int) : Nat := lstN (fun p => goes D kd n S p) 0 12
noncomputable def goF : Nat → (Nat → Int) → (Nat → Int)
  | 0, S => S
  | k + 1, S => if fstG D kd n S = 12 then S else goF k (lvS S (fstG D kd n S))
noncomputable def winF (S : Nat → Int) (q : Int) : Nat → Int := @ite _ (dueS S q ∧ 0 < hO S (pO S q 0) 2 ∧ heldK D kd n 2 (wE S q (pO S q 1))) (Classical.propDecidable _) (lvS (winS S (pO S q 0)) q) S
noncomputable def nxS (S : Nat → Int) (q : Int) : Int := ((lstN (fun s => canS S q s) 0 (S 1).toNat : Nat) : Int)
noncomputable def comF (S : Nat → Int) (q : Int) : Nat → Int := @ite _ (pO S q 0 = -1 ∧ nxS S q < S 1 ∧ inN S (tO S (nxS S q) 1) < hO S (tO S (nxS S q) 1) 1 ∧ (heldK D kd n 0 (wE S q (nxS S q)) ∨ ¬ hasK kd n 0)) (Classical.propDecidable _) (enS (begS S (nxS S q)) q (tO S (nxS S q) 1) (nxS S q)) S
noncomputable def fLate (S : Nat → Int) (q : Nat) : Int := @ite _ (dueS S q) (Classical.propDecidable _) 1 0
noncomputable def endS (S : Nat → Int) : Nat → Int := uS (uS S 3 (S 3 + nS (fLate S) 12)) 2 (S 2 + 1)
noncomputable def quaF (S : Nat → Int) : Nat → Int := endS (fT (comF D kd n) 12 (fT (winF D kd n) 12 (goF D kd n 12 S)))
noncomputable def quasF : Nat → (Nat → Int) → (Nat → Int)
  | 0, S => S
  | k + 1, S => quaF D kd n (quasF k S)
end Spec
section SpecL
variable {D : Nat → (Nat → Int) → Int} {kd : Nat → Int} {n : Int} {S : Nat → Int} {B : Int}
theorem nxS_is {q s : Int} (hS : 0 ≤ S 1) (s0 : 0 ≤ s) (s1 : s ≤ S 1) (hc : s < S 1 → canS S q s) (hno : ∀ s' : Int, 0 ≤ s' → s' < s → ¬ canS S q s') : nxS S q = s := by
  unfold nxS
  rw [lstN_eq (S 1).toNat 0 s.toNat (by omega) (by omega) (fun j _ hj => hno j (by omega) (by omega)) (fun z => by rw [← z_nat s0]; exact hc (by omega))]
  omega
theorem fstG_is {p : Nat} (p1 : p ≤ 12) (hg : p < 12 → goes D kd n S p) (hno : ∀ j : Nat, j < p → ¬ goes D kd n S j) : fstG D kd n S = p := lstN_eq 12 0 p (by omega) (by omega) (fun j _ hj => hno j hj) (fun z => hg (by omega))
/-- alike but for the memory of a town and the clock's own rows -/
def cF (b : Nat) (M M' : sM) : Prop := ∀ a, (a < b ∨ b + 14 < a) → a ≠ 58 → a ≠ 59 → M' a = M a
theorem cF.refl (b : Nat) (M : sM) : cF b M M := fun _ _ _ _ => rfl
theorem cF.trans {b : Nat} {M M' M'' : sM} (h : cF b M M') (h' : cF b M' M'') : cF b M M'' := fun a h1 h2 h3 => (h' a h1 h2 h3).trans (h a h1 h2 h3)
end SpecL
section Clock
variable {d : Nat} {P : Int → sM → sG → Prop} {PV : sM → sG → Prop} {M : sM} {G : sG} {b a : Nat} {S : Nat → Int} {B : Int} {D : Nat → (Nat → Int) → Int} {kd : Nat → Int} {n : Int}
theorem c79 (hd : 35 ≤ d) (hr : ruleC M G a n kd D) (hv : vTown B S) (ht : TR b M S) (hb : b + 14 < 58) (ha : 59 < a) (kk : ∀ M', cF b M M' → vTown B (goF D kd n 12 S) → TR b M' (goF D kd n 12 S) → PV M' G) : sC d 79 [vO 0 57, vQ 6 a, vO 10 b] M G (QV PV) := by
  obtain ⟨d, rfl⟩ := sD 2 (d := d) (by omega)
  refine e79 (s79_0 ?_)
  refine sUpTo (W := fun i => ∀ M' S', cF b M M' → vTown B S' → TR b M' S' → goF D kd n 12 S = goF D kd n (12 - i) S' → sW (sC (d + 1)) 79 (QV PV) 5 [vO 0 57, vQ 6 a, vO 10 b, vI 1, vI (i : Int), vN] [] M' G 0 0) 12 ?_ ?_ M S (cF.refl b M) hv ht rfl
  · intro M' S' hF hv' ht' e
    have e' : goF D kd n 12 S = S' := e
    rw [e'] at kk
    exact s79_5 ⟨fun _ => kk M' hF hv' ht', fun q => by omega⟩
  · intro i hi ih M' S' hF hv' ht' e
    refine (s79_5 ⟨fun q1 => ?_, fun q2 => ⟨fun q3 => ?_, fun q4 => ?_⟩⟩)
    · omega
    · omega
    · refine sUpTo (W := fun p => ∀ M'', cF b M M'' → TR b M'' S' → (∀ j : Nat, j < p → ¬ goes D kd n S' j) → sW (sC (d + 1)) 79 (QV PV) 21 [vO 0 57, vQ 6 a, vO 10 b, vI 0, vI (i : Int), vI (p : Int)] [] M'' G 0 0) 12 ?_ ?_ M' hF ht' (fun j h => by omega)
      · intro M'' hF'' ht'' hno
        have ef : fstG D kd n S' = 12 := fstG_is (Nat.le_refl _) (fun z => by omega) hno
        have eg : goF D kd n 12 S = S' := by
          rw [e, show 12 - i = (12 - (i + 1)) + 1 by omega]
          unfold goF
          rw [if_pos ef]
        rw [eg] at kk
        refine (s79_21 ⟨fun q1 => ⟨⟨by omega, by omega⟩, ?_⟩, fun q2 => ⟨fun q3 => ⟨⟨by omega, by omega⟩, ?_⟩, fun q4 => ?_⟩⟩)
        · refine (s79_5 ⟨fun q1 => ?_, fun q2 => ⟨fun q3 => ?_, fun q4 => ?_⟩⟩)
          · exact kk M'' hF'' hv' ht''
          · exact kk M'' hF'' hv' ht''
          · omega
        · omega
        · omega
      · intro p hp ihp M'' hF'' ht'' hno
        have nx : ¬ goes D kd n S' p → ∀ M3, cF b M M3 → TR b M3 S' → sW (sC (d + 1)) 79 (QV PV) 21 [vO 0 57, vQ 6 a, vO 10 b, vI 0, vI (i : Int), vI ((p + 1 : Nat) : Int)] [] M3 G 0 0 := fun hn M3 h3 h4 => ihp M3 h3 h4 (fun j hj => by
          by_cases c : j = p
          · rw [c]; exact hn
          · exact hno j (by omega))
        have hst := (ht''.2.2.2.1 p (by omega) (by omega)).2.1
        have hpe := hv'.2.2.2.1 p (by omega) (by omega)
        refine (s79_21 ⟨fun q1 => ⟨⟨by omega, by omega⟩, ?_⟩, fun q2 => ⟨fun q3 => ⟨⟨by omega, by omega⟩, ?_⟩, fun q4 => ?_⟩⟩)
        · omega
        · omega
        · refine c80 (by omega) hv' ht'' (by omega) (by omega) (fun hdue => ⟨fun q5 => ⟨⟨by omega, by omega⟩, ?_⟩, fun q6 => ?_⟩) (fun hnd => ⟨fun q5 => ⟨⟨by omega, by omega⟩, ?_⟩, fun q6 => ?_⟩)
          · omega
          · refine c62 (by omega) hv' ht'' (by omega) (by omega) (fun hmay => ⟨fun q7 => ⟨⟨by omega, by omega⟩, ?_⟩, fun q8 => ⟨⟨(by first | omega | assumption | (refine ⟨?_, ?_⟩ <;> omega) | (simp_all; done)), (by first | omega | assumption | (refine ⟨?_, ?_⟩ <;> omega) | (simp_all; done))⟩, ?_⟩⟩) (fun hnm => ⟨fun q7 => ⟨⟨by omega, by omega⟩, ?_⟩, fun q8 => ⟨⟨(by first | omega | assumption | (refine ⟨?_, ?_⟩ <;> omega) | (simp_all; done)), (by first | omega | assumption | (refine ⟨?_, ?_⟩ <;> omega) | (simp_all; done))⟩, ?_⟩⟩)
            · omega
            · rw [hst]
              refine c81 (by omega) (hr.congr (fun k hk => hF'' _ (by omega) (by omega) (by omega))) hv' ht'' hb (by omega) (by omega) (by omega) hdue.2.1 hpe.2.1.2 (fun hh V => ⟨fun q9 => ⟨⟨by omega, by omega⟩, ?_⟩, fun q10 => ?_⟩) (fun hh V => ⟨fun q9 => ⟨⟨by omega, by omega⟩, ?_⟩, fun q10 => ?_⟩)
              · exact nx (fun z => z.2.2 hh) _ (fun x h1 h2 h3 => (setA_ne h2).trans (hF'' x h1 h2 h3)) (ht''.congr (fun x _ _ => setA_ne (by omega)))
              · omega
              · omega
              · have hgo : goes D kd n S' p := ⟨hdue, hmay, hh⟩
                have ef : fstG D kd n S' = p := fstG_is (by omega) (fun _ => hgo) hno
                have eg : goF D kd n 12 S = goF D kd n (12 - (i + 1)) (lvS S' p) := by
                  rw [e, show 12 - i = (12 - (i + 1)) + 1 by omega]
                  show (if fstG D kd n S' = 12 then S' else goF D kd n (12 - (i + 1)) (lvS S' (fstG D kd n S'))) = _
                  rw [ef, if_neg (by omega)]
                have ht3 : TR b (setA M'' 58 V) S' := ht''.congr (fun x _ _ => setA_ne (by omega))
                refine c74 (by omega) hv' ht3 (by omega) (by omega) hdue.1 (fun M4 mo ht4 => ?_)
                have hv4 := lv_v hv' (lvS_R (S := S') (p := (p : Int)) (by omega) (by omega)) (by omega) (by omega)
                have hF4 : cF b M M4 := fun x h1 h2 h3 => (mo x h1).trans ((setA_ne h2).trans (hF'' x h1 h2 h3))
                refine ⟨⟨by omega, by omega⟩, ?_⟩
                have := ih M4 (lvS S' p) hF4 hv4 ht4 eg
                refine (s79_21 ⟨fun q1 => ⟨⟨by omega, by omega⟩, ?_⟩, fun q2 => ⟨fun q3 => ⟨⟨by omega, by omega⟩, ?_⟩, fun q4 => ?_⟩⟩)
                · exact this
                · exact this
                · omega
            · exact nx (fun z => hnm z.2.1) M'' hF'' ht''
            · omega
          · exact nx (fun z => hnd z.1) M'' hF'' ht''
          · omega
theorem winF_v {q : Int} (hv : vTown B S) (q0 : 0 ≤ q) (q1 : q < 12) : vTown B (winF D kd n S q) := by
  unfold winF
  split
  · next h =>
    have hp := (hv.2.2.2.1 q q0 q1).1
    have h0 := hv.1.1
    exact lv_v (win_v hv h.1.1 hp.2 h.2.1) (lvS_R q0 q1) q0 q1
  · exact hv
theorem c86 (hd : 35 ≤ d) (hr : ruleC M G a n kd D) (hv : vTown B S) (ht : TR b M S) (hb : b + 14 < 58) (ha : 59 < a) (kk : ∀ M', cF b M M' → vTown B (fT (winF D kd n) 12 S) → TR b M' (fT (winF D kd n) 12 S) → PV M' G) : sC d 86 [vO 0 57, vQ 6 a, vO 10 b] M G (QV PV) := by
  obtain ⟨d, rfl⟩ := sD 2 (d := d) (by omega)
  refine e86 (s86_0 ⟨hr.1, ?_⟩)
  refine c87 (by omega) hr (fun hk => ⟨fun q1 => ?_, fun q2 => ?_⟩) (fun hk => ⟨fun q1 => ?_, fun q2 => ?_⟩)
  · refine sUpTo (W := fun i => ∀ M', cF b M M' → vTown B (fT (winF D kd n) i S) → TR b M' (fT (winF D kd n) i S) → sW (sC (d + 1)) 86 (QV PV) 11 [vO 0 57, vQ 6 a, vO 10 b, vI (i : Int)] [] M' G 0 0) 12 ?_ ?_ M (cF.refl b M) hv ht
    · intro M' hF hv' ht'
      exact s86_11 ⟨fun _ => kk M' hF hv' ht', fun q => by omega⟩
    · intro i hi ih M' hF hv' ht'
      have hv2 : vTown B (fT (winF D kd n) (i + 1) S) := winF_v hv' (by omega) (by omega)
      have hst := (ht'.2.2.2.1 i (by omega) (by omega)).2.1
      have hpe := hv'.2.2.2.1 i (by omega) (by omega)
      have no : ¬ (dueS (fT (winF D kd n) i S) i ∧ 0 < hO (fT (winF D kd n) i S) (pO (fT (winF D kd n) i S) i 0) 2 ∧ heldK D kd n 2 (wE (fT (winF D kd n) i S) i (pO (fT (winF D kd n) i S) i 1))) → ∀ M'', cF b M M'' → TR b M'' (fT (winF D kd n) i S) → sW (sC (d + 1)) 86 (QV PV) 11 [vO 0 57, vQ 6 a, vO 10 b, vI ((i + 1 : Nat) : Int)] [] M'' G 0 0 := fun hn M'' h1 h2 => by
        have e : fT (winF D kd n) (i + 1) S = fT (winF D kd n) i S := by
          show winF D kd n (fT (winF D kd n) i S) i = _
          exact if_neg hn
        exact ih M'' h1 hv2 (by rw [e]; exact h2)
      refine (s86_11 ⟨fun q1 => ?_, fun q2 => ?_⟩)
      · omega
      · refine c80 (by omega) hv' ht' (by omega) (by omega) (fun hdue => ⟨fun q3 => ⟨⟨by omega, by omega⟩, ?_⟩, fun q4 => ⟨⟨(by first | omega | assumption | (refine ⟨?_, ?_⟩ <;> omega) | (simp_all; done)), (by first | omega | assumption | (refine ⟨?_, ?_⟩ <;> omega) | (simp_all; done))⟩, ?_⟩⟩) (fun hnd => ⟨fun q3 => ⟨⟨by omega, by omega⟩, ?_⟩, fun q4 => ⟨⟨(by first | omega | assumption | (refine ⟨?_, ?_⟩ <;> omega) | (simp_all; done)), (by first | omega | assumption | (refine ⟨?_, ?_⟩ <;> omega) | (simp_all; done))⟩, ?_⟩⟩)
        · omega
        · rw [hst]
          refine c81 (by omega) (hr.congr (fun k hk => hF _ (by omega) (by omega) (by omega))) hv' ht' hb (by omega) (by omega) (by omega) hdue.2.1 hpe.2.1.2 (fun hh V => ⟨fun q5 => ⟨⟨by omega, by omega⟩, ?_⟩, fun q6 => ?_⟩) (fun hh V => ⟨fun q5 => ⟨⟨by omega, by omega⟩, ?_⟩, fun q6 => ?_⟩)
          · omega
          · have ht3 : TR b (setA M' 58 V) (fT (winF D kd n) i S) := ht'.congr (fun x _ _ => setA_ne (by omega))
            have hF3 : cF b M (setA M' 58 V) := fun x h1 h2 h3 => (setA_ne h2).trans (hF x h1 h2 h3)
            refine c73 (by omega) hv' ht3 (by omega) (by omega) (fun g0 g1 M4 mo ht4 => ?_) (fun g => ?_)
            · refine ⟨⟨by omega, by omega⟩, ?_⟩
              have e : fT (winF D kd n) (i + 1) S = lvS (winS (fT (winF D kd n) i S) (pO (fT (winF D kd n) i S) i 0)) i := by
                show winF D kd n (fT (winF D kd n) i S) i = _
                exact if_pos ⟨hdue, g1, hh⟩
              exact ih M4 (fun x h1 h2 h3 => (mo x h1).trans (hF3 x h1 h2 h3)) hv2 (by rw [e]; exact ht4)
            · refine ⟨⟨by omega, by omega⟩, ?_⟩
              exact no (fun z => by have := z.2.1; rw [g hdue.1] at this; omega) _ hF3 ht3
          · exact no (fun z => hh z.2.2) _ (fun x h1 h2 h3 => (setA_ne h2).trans (hF x h1 h2 h3)) (ht'.congr (fun x _ _ => setA_ne (by omega)))
          · omega
        · exact no (fun z => hnd z.1) M' hF ht'
        · omega
  · omega
  · omega
  · have e : ∀ i, fT (winF D kd n) i S = S := by
      intro i
      induction i with
      | zero => rfl
      | succ i ih =>
        show winF D kd n (fT (winF D kd n) i S) i = S
        rw [ih]
        exact if_neg (fun z => hk (by obtain ⟨c, c0, c1, c2, -⟩ := z.2.2; exact ⟨c, c0, c1, c2⟩))
    rw [e 12] at kk
    exact kk M (cF.refl b M) hv ht
end Clock
