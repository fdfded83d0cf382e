/-! UNDONE by the reference; the step: rings. -/
section
variable {d : Nat} {P : Int → sM → sG → Prop} {PV : sM → sG → Prop} {M : sM} {G : sG} {B : Int}
theorem c257 (hd : 40 ≤ d) (hv : vTown B (M 93)) (kk : ∀ M' : sM, (∀ a, a ≠ 101 → M' a = M a) → ∀ x : Nat, isB (M 93) (allM (M 93)) x → P (x : Int) M' G) : sC d 257 [vO 12 82] M G (QI P) := by
  obtain ⟨d, rfl⟩ := sD 30 (d := d) (by omega)
  refine e257 (s257_0 ?_)
  refine sUpTo (W := fun i => sW (sC (d + 29)) 257 (QI P) 4 [vO 12 82, vI ((mskN (fun p => decide (0 ≤ pO (M 93) p 0)) i : Nat) : Int), vI (i : Int), vN] [] M G 0 0) 12 ?_ ?_
  · have al := allM_lt (M 93)
    have vA : valS (M 93) (allM (M 93)) := fun U hU he hd => suB.eq (fun q hq => absurd (ea_all hU he q hq) (hd q hq)) (fun q hq => absurd hq tb0)
    have main : sW (sC (d + 29)) 257 (QI P) 39 [vO 12 82, vI ((allM (M 93) : Nat) : Int), vI ((allM (M 93) : Nat) : Int), vI 0] [] M G 0 0 := by
      refine sUpTo (W := fun i => ∀ (N : sM) (b : Nat), (∀ a, a ≠ 101 → N a = M a) → b < 4096 → suB b (allM (M 93)) → valS (M 93) b → (∀ y : Nat, y < i → suB y (allM (M 93)) → valS (M 93) y → lexL b y) → sW (sC (d + 29)) 257 (QI P) 39 [vO 12 82, vI ((allM (M 93) : Nat) : Int), vI (b : Int), vI (i : Int)] [] N G 0 0) 4096 ?_ ?_ M (allM (M 93)) (fun _ _ => rfl) al (fun _ h => h) vA (fun y hy => absurd hy (Nat.not_lt_zero _))
      · intro N b n1 b0 b1 b2 b3
        refine (s257_39 ⟨fun q1 => ?_, fun q2 => ⟨fun q3 => ⟨⟨by omega, by omega⟩, ?_⟩, fun q4 => ?_⟩⟩)
        · exact kk N n1 b ⟨b0, b1, b2, fun y y0 => b3 y y0⟩
        all_goals omega
      · intro i hi ih N b n1 b0 b1 b2 b3
        have ed : iAnd (i : Int) (iXor ((allM (M 93) : Nat) : Int) (-1)) = ((i &&& (i ^^^ allM (M 93)) : Nat) : Int) := n_dif (by omega)
        have skip : ∀ N2 : sM, (∀ a, a ≠ 101 → N2 a = M a) → (suB i (allM (M 93)) → valS (M 93) i → lexL b i) → sW (sC (d + 29)) 257 (QI P) 39 [vO 12 82, vI ((allM (M 93) : Nat) : Int), vI (b : Int), vI ((i + 1 : Nat) : Int)] [] N2 G 0 0 := fun N2 hN2 h => ih N2 b hN2 b0 b1 b2 (fun y hy y1 y2 => by
          by_cases c : y = i
          · rw [c] at y1 y2 ⊢; exact h y1 y2
          · exact b3 y (by omega) y1 y2)
        have take : ∀ N2 : sM, (∀ a, a ≠ 101 → N2 a = M a) → suB i (allM (M 93)) → valS (M 93) i → lexL i b → sW (sC (d + 29)) 257 (QI P) 39 [vO 12 82, vI ((allM (M 93) : Nat) : Int), vI (i : Int), vI ((i + 1 : Nat) : Int)] [] N2 G 0 0 := fun N2 hN2 h1 h2 h3 => ih N2 i hN2 hi h1 h2 (fun y hy y1 y2 => by
          by_cases c : y = i
          · rw [c]; exact lexL.refl i
          · have := b3 y (by omega) y1 y2
            unfold lexL at this h3 ⊢
            omega)
        -- the look at the set i
        have test : ∀ (Q : Int → sM → sG → Prop), (∀ N2 : sM, (∀ a, a ≠ 101 → N2 a = M a) → ∀ r : Nat, (r = 0 ↔ valS (M 93) i) → Q (r : Int) N2 G) → sC (d + 29) 258 [vO 12 82, vI (i : Int)] N G (QV (fun M5 G5 => sC (d + 29) 259 [vO 12 82] M5 G5 (QI Q))) := fun Q hQ => by
          have e93 : N 93 = M 93 := n1 93 (by decide)
          refine c258 (B := B) (by omega) (by rw [e93]; exact hv) (by omega) (by omega) (fun N2 m1 m2 => ?_)
          rw [e93] at m2
          have m2' : ∀ k : Nat, k < 12 → N2 101 k = ((ndS (M 93) i k : Nat) : Int) := m2
          refine c259 (by omega) (fun s _ => ndS_lt (M 93) i s) m2' ?_
          exact hQ N2 (fun a ha => (m1 a ha).trans (n1 a ha)) _ val_ref
        refine (s257_39 ⟨fun q1 => ?_, fun q2 => ⟨fun q3 => ⟨⟨by omega, by omega⟩, ?_⟩, fun q4 => ?_⟩⟩)
        · omega
        · rw [ed] at q3
          exact skip N n1 (fun h => absurd (dif_0.mpr h) (by omega))
        · rw [ed] at q4
          have sub := dif_0.mp (show i &&& (i ^^^ allM (M 93)) = 0 by omega)
          refine c245n (by omega) hi ?_
          refine c245n (by omega) b0 ?_
          refine ⟨fun q5 => ⟨⟨by omega, by omega⟩, ?_⟩, fun q6 => ?_⟩
          · refine skip N n1 (fun _ _ => ?_)
            unfold lexL; omega
          · refine c245n (by omega) hi ?_
            refine c245n (by omega) b0 ?_
            refine ⟨fun q7 => ?_, fun q10 => ⟨fun q11 => ?_, fun q14 => ⟨⟨by omega, by omega⟩, ?_⟩⟩⟩
            · refine test _ (fun N2 m1 r hr => ?_)
              refine ⟨fun q8 => ⟨⟨by omega, by omega⟩, ?_⟩, fun q9 => ⟨⟨by omega, by omega⟩, ?_⟩⟩
              · exact skip N2 m1 (fun _ z => absurd (hr.mpr z) (by omega))
              · refine take N2 m1 sub (hr.mp (by omega)) ?_
                unfold lexL; omega
            · refine test _ (fun N2 m1 r hr => ?_)
              refine ⟨fun q12 => ⟨⟨by omega, by omega⟩, ?_⟩, fun q13 => ⟨⟨by omega, by omega⟩, ?_⟩⟩
              · exact skip N2 m1 (fun _ z => absurd (hr.mpr z) (by omega))
              · refine take N2 m1 sub (hr.mp (by omega)) ?_
                unfold lexL; omega
            · refine skip N n1 (fun _ _ => ?_)
              unfold lexL; omega
    refine (s257_4 ⟨fun q1 => ?_, fun q2 => ⟨⟨by omega, by omega⟩, ⟨by omega, by omega⟩, ⟨by omega, by omega⟩, ⟨(by first | omega | assumption | (refine ⟨?_, ?_⟩ <;> omega) | (simp_all; done)), (by first | omega | assumption | (refine ⟨?_, ?_⟩ <;> omega) | (simp_all; done))⟩, fun q3 => ⟨⟨by omega, by omega⟩, ?_⟩, fun q4 => ⟨⟨by omega, by omega⟩, ?_⟩⟩⟩)
    · exact main
    all_goals omega
  · intro i hi ih
    have hpv := hv.2.2.2.1 (i : Int) (by omega) (by omega)
    have e0 : M 93 ((136 + (5 * (i : Int))) + 0).toNat = pO (M 93) i 0 := rfl
    refine (s257_4 ⟨fun q1 => ?_, fun q2 => ⟨⟨by omega, by omega⟩, ⟨by omega, by omega⟩, ⟨by omega, by omega⟩, ⟨(by first | omega | assumption | (refine ⟨?_, ?_⟩ <;> omega) | (simp_all; done)), (by first | omega | assumption | (refine ⟨?_, ?_⟩ <;> omega) | (simp_all; done))⟩, fun q3 => ⟨⟨by omega, by omega⟩, ?_⟩, fun q4 => ⟨⟨by omega, by omega⟩, ?_⟩⟩⟩)
    · omega
    · rw [e0] at q3
      rw [msk_n (Q := fun p => decide (0 ≤ pO (M 93) (p : Int) 0)) (by omega) (decide_eq_false (by omega))]
      exact ih
    · rw [e0] at q4
      rw [msk_y (Q := fun p => decide (0 ≤ pO (M 93) (p : Int) 0)) (by omega) (decide_eq_true q4)]
      exact ih
    all_goals omega
end
theorem kp2 {M M1 : sM} (h : ∀ a, a ≠ 77 → a ≠ 101 → M1 a = M a) : kp [] M M1 := ⟨fun a _ ha => h a (by omega) (by omega), fun _ => by rw [h 1 (by decide) (by decide)], fun _ => by rw [h 3 (by decide) (by decide)], fun _ => by rw [h 82 (by decide) (by decide)]; exact ⟨rfl, rfl⟩⟩
theorem L136 (t x1 : Int) : Step t 136 256 [vI x1] := by
  intro d M G hd hI
  obtain ⟨hv, hlt, ht, hvo, hto, t0⟩ := hI.t
  have hn : ∀ s, s < 12 → ndS (M 93) 0 s < 4096 := fun s _ => ndS_lt (M 93) 0 s
  have ref : ∀ (N : sM) (r : Int), (∀ a, a ≠ 77 → N a = M a) → ((x1 < 0 ∨ 3 < x1) → r = -1) → (x1 = 0 → r = mnF (rl (ndS (M 93) 0)) 12) → (x1 = 1 → ∀ T : Nat, isT (ndS (M 93) 0) 4095 T → r = (T : Int)) → (x1 = 2 → ∀ x : Nat, isB (M 93) (allM (M 93)) x → r = (x : Int)) → (x1 = 3 → ∀ x : Nat, isB (M 93) (allM (M 93)) x → r = nS (pcF x) 12) → sC d 256 [vO 12 82, vI x1] N G (QI (LPost t r)) := fun N r n1 r1 r2 r3 r4 r5 => by
    obtain ⟨d, rfl⟩ := sD 52 (d := d) (by omega)
    have e93 : N 93 = M 93 := n1 93 (by decide)
    have done : ∀ (N2 : sM) (r' : Int), (∀ a, a ≠ 101 → N2 a = N a) → r = r' → LPost t r r' N2 G := fun N2 r' a1 a2 => ⟨a2.symm, hI.same (kp2 (fun a h1 h2 => (a1 a h2).trans (n1 a h1)))⟩
    refine e256 (s256_0 ⟨fun q1 => ?_, fun q2 => ⟨fun q3 => ?_, fun q4 => ⟨fun q5 => ?_, fun q8 => ⟨fun q9 => ?_, fun q10 => ?_⟩⟩⟩⟩)
    · exact done N _ (fun _ _ => rfl) (r1 (by omega))
    · exact done N _ (fun _ _ => rfl) (r1 (by omega))
    · refine c258 (x1 := 0) (B := 1200 * t) (by omega) (by rw [e93]; exact hv) (by decide) (by decide) (fun N2 m1 m2 => ?_)
      rw [e93] at m2
      have m2' : ∀ k : Nat, k < 12 → N2 101 k = ((ndS (M 93) 0 k : Nat) : Int) := m2
      refine c259 (by omega) hn m2' ?_
      refine ⟨fun q6 => ?_, fun q7 => ?_⟩
      · exact r256a (d := d + 40) hn m2' (done N2 _ m1 (r2 (by omega)))
      · exact r256b (d := d + 40) hn m2' (fun T T0 hT => done N2 _ m1 (r3 (by omega) T hT))
    · refine c257 (B := 1200 * t) (by omega) (by rw [e93]; exact hv) (fun N2 m1 x hx => ?_)
      rw [e93] at hx
      refine c245n (by omega) hx.1 ?_
      exact done N2 _ m1 (r5 (by omega) x hx)
    · refine c257 (B := 1200 * t) (by omega) (by rw [e93]; exact hv) (fun N2 m1 x hx => ?_)
      rw [e93] at hx
      exact done N2 _ m1 (r4 (by omega) x hx)
  obtain ⟨d, rfl⟩ := sD 52 (d := d) (by omega)
  refine e136 (s136_0 ⟨fun q1 => ?_, fun q2 => ⟨fun q3 => ?_, fun q8 => ?_⟩⟩)
  · exact ref M _ (fun _ _ => rfl) (fun _ => rfl) (fun z => by omega) (fun z => by omega) (fun z => by omega) (fun z => by omega)
  · refine c137 (B := 1200 * t) (by omega) hv ht (fun N n1 n2 => ?_)
    refine ⟨fun q4 => ?_, fun q5 => ?_, fun q6 => ?_, fun q7 => ?_⟩
    · refine c143 (S := M 93) (by omega) n2 (fun x hx => ?_)
      refine c113n (by omega) hx.1 ?_
      exact ref N _ n1 (fun z => by omega) (fun z => by omega) (fun z => by omega) (fun z => by omega) (fun _ y hy => by rw [hx.uniq hy])
    · refine c139 (by omega) hn n2 ?_
      exact ref N _ n1 (fun z => by omega) (fun _ => rfl) (fun z => by omega) (fun z => by omega) (fun z => by omega)
    · refine c142 (X := 4095) (by omega) hn n2 (by decide) (fun T T0 hT => ?_)
      exact ref N _ n1 (fun z => by omega) (fun z => by omega) (fun _ T' hT' => by rw [hT.uniq hT']) (fun z => by omega) (fun z => by omega)
    · refine c143 (S := M 93) (by omega) n2 (fun x hx => ?_)
      exact ref N _ n1 (fun z => by omega) (fun z => by omega) (fun z => by omega) (fun _ y hy => by rw [hx.uniq hy]) (fun z => by omega)
  · exact ref M _ (fun _ _ => rfl) (fun _ => rfl) (fun z => by omega) (fun z => by omega) (fun z => by omega) (fun z => by omega)
