/-! STEP: most, together. -/
section
variable {d : Nat} {P : Int → sM → sG → Prop} {PV : sM → sG → Prop} {M : sM} {G : sG} {B : Int}
theorem c246 {h w : Int} (hd : 60 ≤ d) (hv : vTown B (M 93)) (k0 : ¬ (0 ≤ h ∧ h < M 93 0 ∧ 0 ≤ w ∧ w ≤ 1) → P (-1) M G) (kk : (0 ≤ h ∧ h < M 93 0 ∧ 0 ≤ w ∧ w ≤ 1) → ∀ N : sM, (∀ a, a ≠ 95 → a ≠ 96 → N a = M a) → ∀ (b : Nat) (mo : Int), bOk (M 93) h b mo (2 ^ (M 93 1).toNat) → P (if w = 0 then mo else (b : Int)) N G) : sC d 246 [vO 12 82, vI h, vI w] M G (QI P) := by
  obtain ⟨d, rfl⟩ := sD 22 (d := d) (by omega)
  have hs1 := hv.1.2.1
  have hs0 := hv.1.1
  have hp := p18 (m := (M 93 1).toNat) (by omega)
  have esh : iShl 1 (M 93 1) = ((2 ^ (M 93 1).toNat : Nat) : Int) := z_bit hs1.1 (by omega)
  refine e246 (s246_0 ⟨fun q1 => ?_, fun q2 => ⟨fun q3 => ?_, fun q4 => ⟨fun q5 => ?_, fun q6 => ⟨fun q7 => ?_, fun q8 => ?_⟩⟩⟩⟩)
  all_goals try (exact k0 (by omega))
  have kk' := kk (by omega)
  refine c242 (by omega) hs1.1 hs1.2 (by omega) (fun N n1 n2 => ?_)
  have e93 : N 93 = M 93 := n1 93 (by decide)
  refine ?_
  have main : sW (sC (d + 21)) 246 (QI P) 30 [vO 12 82, vI h, vI w, vI ((mskN (fun s => decide (tO (M 93) (s : Int) 1 = h)) 0 : Nat) : Int), vI ((0 : Nat) : Int), vN, vN, vN, vN, vN] [] N G 0 0 := by
    refine sUpTo (W := fun i => ∀ N2 : sM, (∀ a, a ≠ 96 → N2 a = N a) → (∀ s : Nat, s < i → N2 96 s = ((mskN (meQ (M 93) s) (M 93 1).toNat : Nat) : Int)) → sW (sC (d + 21)) 246 (QI P) 30 [vO 12 82, vI h, vI w, vI ((mskN (fun s => decide (tO (M 93) (s : Int) 1 = h)) i : Nat) : Int), vI (i : Int), vN, vN, vN, vN, vN] [] N2 G 0 0) (M 93 1).toNat ?_ ?_ N (fun _ _ => rfl) (fun s hs => absurd hs (Nat.not_lt_zero s))
    · intro N2 m1 m2
      have e93b : N2 93 = M 93 := (m1 93 (by decide)).trans e93
      have e1b : N2 93 1 = M 93 1 := by rw [e93b]
      have ol := mskN_lt (Q := fun s => decide (tO (M 93) (s : Int) 1 = h)) (n := (M 93 1).toNat)
      have ob : ∀ q : Nat, (mskN (fun s => decide (tO (M 93) (s : Int) 1 = h)) (M 93 1).toNat).testBit q = true ↔ q < (M 93 1).toNat ∧ tO (M 93) q 1 = h := fun q => by
        rw [mskN_bit, Bool.and_eq_true, decide_eq_true_iff, decide_eq_true_iff]
      have loop : sW (sC (d + 21)) 246 (QI P) 158 [vO 12 82, vI h, vI w, vI ((mskN (fun s => decide (tO (M 93) (s : Int) 1 = h)) (M 93 1).toNat : Nat) : Int), vI ((0 : Nat) : Int), vI 0, vI ((0 : Nat) : Int), vN, vN, vN] [] N2 G 0 0 := by
        refine sUpTo (W := fun i => ∀ (b : Nat) (mo : Int), b ≤ i → bOk (M 93) h b mo i → sW (sC (d + 21)) 246 (QI P) 158 [vO 12 82, vI h, vI w, vI ((mskN (fun s => decide (tO (M 93) (s : Int) 1 = h)) (M 93 1).toNat : Nat) : Int), vI (b : Int), vI mo, vI (i : Int), vN, vN, vN] [] N2 G 0 0) (2 ^ (M 93 1).toNat) ?_ ?_ 0 0 (Nat.le_refl 0) ⟨⟨fun s hs => absurd hs tb0, fun i _ hi => absurd hi tb0, fun s hs => absurd hs tb0⟩, (nS_zero (fun i _ => by show 0 ≤ (if (0 : Nat).testBit i = true then tO (M 93) i 4 else 0); rw [if_neg tb0]; exact Int.le_refl 0)).mpr (fun i _ => if_neg tb0), fun Y hY => absurd hY (Nat.not_lt_zero Y)⟩
        · intro b mo bl hb
          have := kk' N2 (fun a h1 h2 => (m1 a h2).trans (n1 a h1)) b mo hb
          have esh2 : iShl 1 (N2 93 1) = ((2 ^ (M 93 1).toNat : Nat) : Int) := by rw [e1b]; exact esh
          refine (s246_158 ⟨fun q1 => ⟨fun q2 => ?_, fun q3 => ?_⟩, fun q4 => ⟨fun q5 => ⟨⟨by omega, by omega⟩, ?_⟩, fun q6 => ?_⟩⟩)
          · rw [if_neg q2] at this; exact this
          · rw [if_pos q3] at this; exact this
          all_goals omega
        · intro i hi ih b mo bl hb
          have wb := wo_b (X := b) (n := (M 93 1).toNat) hv (by omega)
          have hw2 : woX (M 93) b (M 93 1).toNat = mo := hb.2.1
          have ed : iAnd (i : Int) (iXor ((mskN (fun s => decide (tO (M 93) (s : Int) 1 = h)) (M 93 1).toNat : Nat) : Int) (-1)) = ((i &&& (i ^^^ mskN (fun s => decide (tO (M 93) (s : Int) 1 = h)) (M 93 1).toNat) : Nat) : Int) := n_dif (by omega)
          have skip : (vRe (M 93) h i → woX (M 93) i (M 93 1).toNat ≤ mo) → sW (sC (d + 21)) 246 (QI P) 158 [vO 12 82, vI h, vI w, vI ((mskN (fun s => decide (tO (M 93) (s : Int) 1 = h)) (M 93 1).toNat : Nat) : Int), vI (b : Int), vI mo, vI ((i + 1 : Nat) : Int), vN, vN, vN] [] N2 G 0 0 := fun hs => ih b mo (by omega) ⟨hb.1, hb.2.1, fun Y hY hvY => by
            by_cases c : Y = i
            · rw [c] at hvY ⊢
              have := hs hvY
              omega
            · exact hb.2.2 Y (by omega) hvY⟩
          have esh2 : iShl 1 (N2 93 1) = ((2 ^ (M 93 1).toNat : Nat) : Int) := by rw [e1b]; exact esh
          refine (s246_158 ⟨fun q1 => ⟨fun q2 => ?_, fun q3 => ?_⟩, fun q4 => ⟨fun q5 => ⟨⟨by omega, by omega⟩, ?_⟩, fun q6 => ?_⟩⟩)
          · omega
          · omega
          · rw [ed] at q5
            exact skip (fun hvi => absurd (dif_0.mpr (fun q hq => (ob q).mpr ⟨by have := (hvi.1 q hq).1; omega, (hvi.1 q hq).2⟩)) (by omega))
          · rw [ed] at q6
            have sub := dif_0.mp (show i &&& (i ^^^ mskN (fun s => decide (tO (M 93) (s : Int) 1 = h)) (M 93 1).toNat) = 0 by omega)
            refine c243 (law := 0) (by omega) (by rw [e93b]; exact hs1.1) (by rw [e93b]; exact hs1.2) (by omega) (by omega) (fun j hj => by
              rw [e93b] at hj ⊢
              rw [m1 95 (by decide)]
              exact n2 j hj) (fun z => ?_) (fun z => ?_)
            · rw [e93b] at z
              have nc := up_0.mp z
              have vi : (∀ s : Nat, i.testBit s = true → cnX (M 93) i s ≤ hO (M 93) h 1) → vRe (M 93) h i := fun hc => ⟨fun s hs => ⟨by have := ((ob s).mp (sub s hs)).1; omega, ((ob s).mp (sub s hs)).2⟩, fun a b' ha hb' hcr => by
                have la := ((ob a).mp (sub a ha)).1
                have lb := ((ob b').mp (sub b' hb')).1
                rcases Nat.lt_trichotomy a b' with c | c | c
                · exact nc a b' c lb ha hb' hcr
                · rw [c] at hcr; exact crS_ir hcr
                · exact nc b' a c la hb' ha hcr.sym, hc⟩
              refine ⟨fun q7 => ?_, fun q8 => ⟨⟨by omega, by omega⟩, ?_⟩⟩
              · have r := r246i (d := d) (P := P) (M := N2) (G := G) (B := B) (h := h) (w := w) (i := i) (b := b) (mo := mo) (own := ((mskN (fun s => decide (tO (M 93) (s : Int) 1 = h)) (M 93 1).toNat : Nat) : Int)) (by rw [e93b]; exact hv) (by omega) (by rw [e93b]; omega) (by rw [e93b]; exact hi) (by rw [e93b]; exact fun s hs => m2 s (by omega)) (by omega) (fun hc hlt => by
                  rw [e93b] at hc hlt ⊢
                  have := ih i (woX (M 93) i (M 93 1).toNat) (by omega) ⟨vi hc, rfl, fun Y hY hvY => by
                    by_cases c : Y = i
                    · rw [c]; exact Or.inr ⟨rfl, Nat.le_refl _⟩
                    · have := hb.2.2 Y (by omega) hvY
                      omega⟩
                  exact this) (fun hc => by
                  rw [e93b] at hc
                  exact skip (fun hvi => hc hvi.2.2))
                exact r
              · omega
            · rw [e93b] at z
              refine ⟨fun q7 => ?_, fun q8 => ⟨⟨by omega, by omega⟩, ?_⟩⟩
              · omega
              · refine skip (fun hvi => absurd (up_0.mpr (fun a b' _ _ ha hb' => hvi.2.1 a b' ha hb')) z)
          all_goals omega
      refine (s246_30 ⟨fun q1 => ?_, fun q2 => ⟨⟨by omega, by omega⟩, ⟨by omega, by omega⟩, ⟨by omega, by omega⟩, ⟨(by first | omega | assumption | (refine ⟨?_, ?_⟩ <;> omega) | (simp_all; done)), (by first | omega | assumption | (refine ⟨?_, ?_⟩ <;> omega) | (simp_all; done))⟩, fun q3 => ⟨⟨(by first | omega | assumption | (refine ⟨?_, ?_⟩ <;> omega) | (simp_all; done)), (by first | omega | assumption | (refine ⟨?_, ?_⟩ <;> omega) | (simp_all; done))⟩, ?_⟩, fun q4 => ⟨⟨(by first | omega | assumption | (refine ⟨?_, ?_⟩ <;> omega) | (simp_all; done)), (by first | omega | assumption | (refine ⟨?_, ?_⟩ <;> omega) | (simp_all; done))⟩, ?_⟩⟩⟩)
      · exact loop
      all_goals omega
    · intro i hi ih N2 m1 m2
      have e93b : N2 93 = M 93 := (m1 93 (by decide)).trans e93
      have e1b : N2 93 1 = M 93 1 := by rw [e93b]
      have et : N2 93 ((28 + (6 * (i : Int))) + 1).toNat = tO (M 93) i 1 := by rw [e93b]; rfl
      have inner : ∀ N3 : sM, (∀ a, a ≠ 96 → N3 a = N a) → (∀ s : Nat, s < i → N3 96 s = ((mskN (meQ (M 93) s) (M 93 1).toNat : Nat) : Int)) → N3 96 i = 0 → sW (sC (d + 21)) 246 (QI P) 74 [vO 12 82, vI h, vI w, vI ((mskN (fun s => decide (tO (M 93) (s : Int) 1 = h)) (i + 1) : Nat) : Int), vI (i : Int), vI ((0 : Nat) : Int), vN, vN, vN, vN] [] N3 G 0 0 := fun N3 a1 a2 a3 => by
        refine sUpTo (W := fun j => ∀ N4 : sM, (∀ a, a ≠ 96 → N4 a = N a) → (∀ s : Nat, s < i → N4 96 s = ((mskN (meQ (M 93) s) (M 93 1).toNat : Nat) : Int)) → N4 96 i = ((mskN (meQ (M 93) i) j : Nat) : Int) → sW (sC (d + 21)) 246 (QI P) 74 [vO 12 82, vI h, vI w, vI ((mskN (fun s => decide (tO (M 93) (s : Int) 1 = h)) (i + 1) : Nat) : Int), vI (i : Int), vI (j : Int), vN, vN, vN, vN] [] N4 G 0 0) (M 93 1).toNat ?_ ?_ N3 a1 a2 a3
        · intro N4 b1 b2 b3
          have e1c : N4 93 1 = M 93 1 := by rw [b1 93 (by decide), e93]
          refine (s246_74 ⟨fun q1 => ⟨⟨by omega, by omega⟩, ?_⟩, fun q2 => ⟨⟨(by first | omega | assumption | (refine ⟨?_, ?_⟩ <;> omega) | (simp_all; done)), (by first | omega | assumption | (refine ⟨?_, ?_⟩ <;> omega) | (simp_all; done))⟩, ⟨by omega, by omega⟩, ⟨by omega, by omega⟩, ⟨by omega, by omega⟩, ⟨(by first | omega | assumption | (refine ⟨?_, ?_⟩ <;> omega) | (simp_all; done)), (by first | omega | assumption | (refine ⟨?_, ?_⟩ <;> omega) | (simp_all; done))⟩, ⟨by omega, by omega⟩, ⟨by omega, by omega⟩, ⟨by omega, by omega⟩, ⟨(by first | omega | assumption | (refine ⟨?_, ?_⟩ <;> omega) | (simp_all; done)), (by first | omega | assumption | (refine ⟨?_, ?_⟩ <;> omega) | (simp_all; done))⟩, fun q3 => ⟨⟨by omega, by omega⟩, ?_⟩, fun q4 => ⟨⟨by omega, by omega⟩, ⟨(by first | omega | assumption | (refine ⟨?_, ?_⟩ <;> omega) | (simp_all; done)), (by first | omega | assumption | (refine ⟨?_, ?_⟩ <;> omega) | (simp_all; done))⟩, fun q5 => ⟨⟨by omega, by omega⟩, ?_⟩, fun q6 => ⟨⟨by omega, by omega⟩, ?_⟩⟩⟩⟩)
          · exact ih N4 b1 (fun s hs => by
              by_cases c : s = i
              · rw [c]; exact b3
              · exact b2 s (by omega))
          all_goals omega
        · intro j hj ih2 N4 b1 b2 b3
          have e93c : N4 93 = M 93 := (b1 93 (by decide)).trans e93
          have e1c : N4 93 1 = M 93 1 := by rw [e93c]
          have i2 : N4 93 ((28 + (6 * (i : Int))) + 2).toNat = tO (M 93) i 2 := by rw [e93c]; rfl
          have j2 : N4 93 ((28 + (6 * (j : Int))) + 2).toNat = tO (M 93) j 2 := by rw [e93c]; rfl
          have j3 : N4 93 ((28 + (6 * (j : Int))) + 3).toNat = tO (M 93) j 3 := by rw [e93c]; rfl
          have b3' : N4 96 ((i : Int)).toNat = ((mskN (meQ (M 93) i) j : Nat) : Int) := b3
          have no : ¬ (tO (M 93) j 2 ≤ tO (M 93) i 2 ∧ tO (M 93) i 2 < tO (M 93) j 3) → sW (sC (d + 21)) 246 (QI P) 74 [vO 12 82, vI h, vI w, vI ((mskN (fun s => decide (tO (M 93) (s : Int) 1 = h)) (i + 1) : Nat) : Int), vI (i : Int), vI ((j + 1 : Nat) : Int), vN, vN, vN, vN] [] (sUpd N4 96 ((i : Int)).toNat (iOr (N4 96 ((i : Int)).toNat) 0)) G 0 0 := fun z => by
            rw [b3', msk_n (Q := meQ (M 93) i) (by omega) (decide_eq_false z)]
            exact ih2 _ (fun a ha => (sUpd_ne ha).trans (b1 a ha)) (fun s hs => (sUpd_ni (show s ≠ i by omega)).trans (b2 s hs)) sUpd_eq
          refine (s246_74 ⟨fun q1 => ⟨⟨by omega, by omega⟩, ?_⟩, fun q2 => ⟨⟨(by first | omega | assumption | (refine ⟨?_, ?_⟩ <;> omega) | (simp_all; done)), (by first | omega | assumption | (refine ⟨?_, ?_⟩ <;> omega) | (simp_all; done))⟩, ⟨by omega, by omega⟩, ⟨by omega, by omega⟩, ⟨by omega, by omega⟩, ⟨(by first | omega | assumption | (refine ⟨?_, ?_⟩ <;> omega) | (simp_all; done)), (by first | omega | assumption | (refine ⟨?_, ?_⟩ <;> omega) | (simp_all; done))⟩, ⟨by omega, by omega⟩, ⟨by omega, by omega⟩, ⟨by omega, by omega⟩, ⟨(by first | omega | assumption | (refine ⟨?_, ?_⟩ <;> omega) | (simp_all; done)), (by first | omega | assumption | (refine ⟨?_, ?_⟩ <;> omega) | (simp_all; done))⟩, fun q3 => ⟨⟨by omega, by omega⟩, ?_⟩, fun q4 => ⟨⟨by omega, by omega⟩, ⟨(by first | omega | assumption | (refine ⟨?_, ?_⟩ <;> omega) | (simp_all; done)), (by first | omega | assumption | (refine ⟨?_, ?_⟩ <;> omega) | (simp_all; done))⟩, fun q5 => ⟨⟨by omega, by omega⟩, ?_⟩, fun q6 => ⟨⟨by omega, by omega⟩, ?_⟩⟩⟩⟩)
          · omega
          · rw [i2, j2] at q3
            exact no (by omega)
          · rw [i2, j3] at q5
            exact no (by omega)
          · rw [i2, j2] at q4
            rw [i2, j3] at q6
            rw [b3', msk_y (Q := meQ (M 93) i) (by omega) (decide_eq_true ⟨q4, q6⟩)]
            exact ih2 _ (fun a ha => (sUpd_ne ha).trans (b1 a ha)) (fun s hs => (sUpd_ni (show s ≠ i by omega)).trans (b2 s hs)) sUpd_eq
          all_goals omega
      refine (s246_30 ⟨fun q1 => ?_, fun q2 => ⟨⟨by omega, by omega⟩, ⟨by omega, by omega⟩, ⟨by omega, by omega⟩, ⟨(by first | omega | assumption | (refine ⟨?_, ?_⟩ <;> omega) | (simp_all; done)), (by first | omega | assumption | (refine ⟨?_, ?_⟩ <;> omega) | (simp_all; done))⟩, fun q3 => ⟨⟨(by first | omega | assumption | (refine ⟨?_, ?_⟩ <;> omega) | (simp_all; done)), (by first | omega | assumption | (refine ⟨?_, ?_⟩ <;> omega) | (simp_all; done))⟩, ?_⟩, fun q4 => ⟨⟨(by first | omega | assumption | (refine ⟨?_, ?_⟩ <;> omega) | (simp_all; done)), (by first | omega | assumption | (refine ⟨?_, ?_⟩ <;> omega) | (simp_all; done))⟩, ?_⟩⟩⟩)
      · omega
      · rw [et] at q3
        rw [msk_n (Q := fun s => decide (tO (M 93) (s : Int) 1 = h)) (by omega) (decide_eq_false q3)]
        exact inner _ (fun a ha => (sUpd_ne ha).trans (m1 a ha)) (fun s hs => (sUpd_ni (show s ≠ i by omega)).trans (m2 s hs)) sUpd_eq
      · rw [et] at q4
        rw [msk_y (Q := fun s => decide (tO (M 93) (s : Int) 1 = h)) (by omega) (decide_eq_true q4)]
        exact inner _ (fun a ha => (sUpd_ne ha).trans (m1 a ha)) (fun s hs => (sUpd_ni (show s ≠ i by omega)).trans (m2 s hs)) sUpd_eq
      all_goals omega
  exact main
theorem most_is {S : Nat → Int} {h v : Int} {m : Nat} {od : Nat → Nat} {b : Nat} {mo : Int} (hv : vTown B S) (hmem : ∀ s, fkS od m s ↔ (s : Int) < S 1 ∧ tO S s 1 = h) (hm : mCh S od (hO S h 1) m 0 v) (hb : bOk S h b mo (2 ^ (S 1).toNat)) : b < 262144 ∧ v = mo * 262144 - (b : Int) ∧ 0 ≤ mo ∧ mo ≤ 1782 := by
  have hs1 := hv.1.2.1
  have lo : ∀ X : Nat, vRe S h X → ∀ q : Nat, X.testBit q = true → q < (S 1).toNat := fun X hX q hq => by
    have := (hX.1 q hq).1
    omega
  have iff : ∀ X : Nat, vCh S od (hO S h 1) m 0 X ↔ vRe S h X := fun X => by
    constructor
    · intro z
      exact ⟨fun s hs => (hmem s).mp (z.1 s hs).1, z.2.1, z.2.2⟩
    · intro z
      refine ⟨fun s hs => ⟨(hmem s).mpr (z.1 s hs), ?_⟩, z.2.1, z.2.2⟩
      exact (hv.2.2.1 (s : Int) (by omega) (z.1 s hs).1).2.2.1
  obtain ⟨hb1, hb2, hb3⟩ := hb
  obtain ⟨⟨X, x1, x2⟩, hmax⟩ := hm
  have vx := (iff X).mp x1
  obtain ⟨bl, be⟩ := sc_wo (S := S) (X := b) (n := (S 1).toNat) (by omega) (lo b hb1)
  obtain ⟨xl, xe⟩ := sc_wo (S := S) (X := X) (n := (S 1).toNat) (by omega) (lo X vx)
  have h18 : (2 : Nat) ^ 18 = 262144 := by decide
  have m1 := hmax b ((iff b).mpr hb1)
  have xlt : X < 2 ^ (S 1).toNat := Nat.lt_pow_two_of_testBit X (fun i hi => by
    cases c : X.testBit i
    · rfl
    · have := lo X vx i c; omega)
  have m2 := hb3 X xlt vx
  have wb := wo_b (X := b) (n := (S 1).toNat) hv (by omega)
  refine ⟨by omega, ?_, by omega, by omega⟩
  rcases m2 with z | ⟨z1, z2⟩ <;> omega
theorem most_ex {S : Nat → Int} {h v : Int} {m : Nat} {od : Nat → Nat} (hv : vTown B S) (hmem : ∀ s, fkS od m s ↔ (s : Int) < S 1 ∧ tO S s 1 = h) (hm : mCh S od (hO S h 1) m 0 v) : ∃ (b : Nat) (mo : Int), bOk S h b mo (2 ^ (S 1).toNat) := by
  have hs1 := hv.1.2.1
  have lo : ∀ X : Nat, vRe S h X → ∀ q : Nat, X.testBit q = true → q < (S 1).toNat := fun X hX q hq => by
    have := (hX.1 q hq).1
    omega
  have iff : ∀ X : Nat, vCh S od (hO S h 1) m 0 X ↔ vRe S h X := fun X => by
    constructor
    · intro z
      exact ⟨fun s hs => (hmem s).mp (z.1 s hs).1, z.2.1, z.2.2⟩
    · intro z
      refine ⟨fun s hs => ⟨(hmem s).mpr (z.1 s hs), ?_⟩, z.2.1, z.2.2⟩
      exact (hv.2.2.1 (s : Int) (by omega) (z.1 s hs).1).2.2.1
  obtain ⟨⟨X, x1, x2⟩, hmax⟩ := hm
  have vx := (iff X).mp x1
  obtain ⟨xl, xe⟩ := sc_wo (S := S) (X := X) (n := (S 1).toNat) (by omega) (lo X vx)
  have h18 : (2 : Nat) ^ 18 = 262144 := by decide
  refine ⟨X, woX S X (S 1).toNat, vx, rfl, fun Y hY hvY => ?_⟩
  obtain ⟨yl, ye⟩ := sc_wo (S := S) (X := Y) (n := (S 1).toNat) (by omega) (lo Y hvY)
  have := hmax Y ((iff Y).mpr hvY)
  omega
end
theorem L104 (t h w : Int) : Step t 104 246 [vI h, vI w] := by
  intro d M G hd hI
  obtain ⟨hv, hlt, ht, hvo, hto, t0⟩ := hI.t
  have hs1 := hv.1.2.1
  have b0 := ht.1.1
  have fin : ∀ N : sM, (∀ a, ¬ (61 ≤ a ∧ a ≤ 65) → a ≠ 95 → a ≠ 96 → N a = M a) → Inv (t + 1) N G := fun N h => hI.same ⟨fun a _ ha => h a (by omega) (by omega) (by omega), fun _ => by rw [h 1 (by decide) (by decide) (by decide)], fun _ => by rw [h 3 (by decide) (by decide) (by decide)], fun _ => by rw [h 82 (by decide) (by decide) (by decide)]; exact ⟨rfl, rfl⟩⟩
  have ref : ∀ (N : sM) (r : Int), (∀ a, ¬ (61 ≤ a ∧ a ≤ 65) → N a = M a) → (¬ (0 ≤ h ∧ h < M 93 0 ∧ 0 ≤ w ∧ w ≤ 1) → r = -1) → ((0 ≤ h ∧ h < M 93 0 ∧ 0 ≤ w ∧ w ≤ 1) → ∀ (b : Nat) (mo : Int), bOk (M 93) h b mo (2 ^ (M 93 1).toNat) → r = if w = 0 then mo else (b : Int)) → sC d 246 [vO 12 82, vI h, vI w] N G (QI (LPost t r)) := fun N r n1 r0 rg => by
    have e93 : N 93 = M 93 := n1 93 (by decide)
    refine c246 (B := 1200 * t) (by omega) (by rw [e93]; exact hv) (fun z => ?_) (fun ok N2 m1 b mo hb => ?_)
    · rw [e93] at z
      exact ⟨(r0 z).symm, fin N (fun a z1 _ _ => n1 a z1)⟩
    · rw [e93] at ok hb
      exact ⟨(rg ok b mo hb).symm, fin N2 (fun a z1 z2 z3 => (m1 a z2 z3).trans (n1 a z1))⟩
  obtain ⟨d, rfl⟩ := sD 43 (d := d) (by omega)
  refine e104 (s104_0 ⟨fun q1 => ?_, fun q2 => ⟨fun q3 => ?_, fun q4 => ⟨fun q5 => ?_, fun q6 => ⟨fun q7 => ?_, fun q10 => ?_⟩⟩⟩⟩)
  all_goals try (rw [b0] at *; exact ref M _ (fun _ _ => rfl) (fun _ => rfl) (fun z => by omega))
  rw [b0] at q4
  refine c105 (B := 1200 * t) (by omega) hv ht q2 q4 (fun N m od v n1 ml hM hmem hm => ?_)
  have vb := mCh_b hv hM (Nat.le_refl m) hm
  have key : ∀ (b : Nat) (mo : Int), bOk (M 93) h b mo (2 ^ (M 93 1).toNat) → iShr ((v + 262144) - 1) 18 = mo ∧ iShl mo 18 = mo * 262144 ∧ v = mo * 262144 - (b : Int) := fun b mo hb => by
    obtain ⟨k1, k2, k3, k4⟩ := most_is hv hmem hm hb
    have h18 : (2 : Nat) ^ 18 = 262144 := by decide
    obtain ⟨a, rfl⟩ : ∃ a : Nat, mo = (a : Int) := ⟨mo.toNat, z_nat k3⟩
    obtain ⟨c, hc⟩ : ∃ c : Nat, (v + 262144) - 1 = (c : Int) := ⟨((v + 262144) - 1).toNat, z_nat (by omega)⟩
    have e1 := n_shr (a := c) (k := 18) (by omega) (by decide)
    have e2 := n_shl (a := a) (k := 18) (by decide) (by rw [h18]; omega)
    rw [h18] at e1 e2
    refine ⟨?_, ?_, k2⟩
    · rw [hc, show (18 : Int) = ((18 : Nat) : Int) from rfl, e1]; omega
    · rw [show (18 : Int) = ((18 : Nat) : Int) from rfl, e2]; omega
  obtain ⟨b0', mo0, hb0⟩ := most_ex hv hmem hm
  obtain ⟨k1, k2, k3⟩ := key b0' mo0 hb0
  obtain ⟨j1, j2, j3, j4⟩ := most_is hv hmem hm hb0
  have same : ∀ (b : Nat) (mo : Int), bOk (M 93) h b mo (2 ^ (M 93 1).toNat) → mo = mo0 ∧ (b : Int) = b0' := fun b mo hb => by
    obtain ⟨i1, i2, i3, i4⟩ := most_is hv hmem hm hb
    omega
  have bad : ∀ z : ¬ (0 ≤ h ∧ h < M 93 0 ∧ 0 ≤ w ∧ w ≤ 1), False := fun z => z ⟨q2, q4, q6, q7⟩
  rw [← k1] at k2
  refine ⟨fun q8 => ⟨⟨by omega, by omega⟩, ⟨by omega, by omega⟩, ⟨by omega, by omega⟩, ?_⟩, fun q9 => ⟨⟨by omega, by omega⟩, ⟨by omega, by omega⟩, ?_⟩⟩
  all_goals try omega
  · rw [k2, k1]
    refine ref N _ n1 (fun z => (bad z).elim) (fun _ b mo hb => ?_)
    have := same b mo hb
    rw [if_neg q8]
    omega
  · rw [k1]
    refine ref N _ n1 (fun z => (bad z).elim) (fun _ b mo hb => ?_)
    have := same b mo hb
    rw [if_pos q9]
    omega
