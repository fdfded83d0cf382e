/-! STEP: bestRule. -/
def bsN (L V : Nat → Int) : Nat → Int × Int × Int
  | 0 => (-2, 0, 0)
  | i + 1 => if (bsN L V i).1 < 0 ∨ L i < (bsN L V i).2.1 ∨ (L i = (bsN L V i).2.1 ∧ (bsN L V i).2.2 < V i) then ((i : Int), L i, V i) else bsN L V i
theorem bsN_y {L V : Nat → Int} {i : Nat} (h : (bsN L V i).1 < 0 ∨ L i < (bsN L V i).2.1 ∨ (L i = (bsN L V i).2.1 ∧ (bsN L V i).2.2 < V i)) : bsN L V (i + 1) = ((i : Int), L i, V i) := if_pos h
theorem bsN_n {L V : Nat → Int} {i : Nat} (h : ¬ ((bsN L V i).1 < 0 ∨ L i < (bsN L V i).2.1 ∨ (L i = (bsN L V i).2.1 ∧ (bsN L V i).2.2 < V i))) : bsN L V (i + 1) = bsN L V i := if_neg h
theorem L93 (t : Int) (ht9 : t ≤ 600) : Step t 93 236 [] := by
  intro d M G hd hI
  obtain ⟨hv, hlt, ht, hvo, hto, t0⟩ := hI.t
  obtain ⟨_, own, N, hN, hN2, hT, hR, _⟩ := id hI
  obtain ⟨r0, r1, e82, hr⟩ := hR
  have b13 := ht.1.2.2.1
  have b14 := ht.1.2.2.2
  have hs2 := hv.1.2.2.1
  have hs3 := hv.1.2.2.2.1
  unfold lowLate at hlt
  obtain ⟨q, hq⟩ := Classical.axiomOfChoice (fun r : Nat => show ∃ q : Int × (Nat → Int) × (Nat → (Nat → Int) → Int), (r : Int) < M 1 11 → 109 ≤ M 12 r ∧ ruleC M G (M 12 r).toNat q.1 q.2.1 q.2.2 ∧ ruleF M r q.1 q.2.1 q.2.2 from by
    by_cases c : (r : Int) < M 1 11
    · obtain ⟨g1, g2, n, kd, D, hc, hf⟩ := hr r (by omega) c
      exact ⟨(n, kd, D), fun _ => ⟨g1, hc, hf⟩⟩
    · exact ⟨(0, fun _ => 0, fun _ _ => 0), fun z => absurd z c⟩)
  let F : Nat → Nat → Int := fun r => quasF (q r).2.2 (q r).2.1 (q r).1 (96 - M 93 2).toNat (M 93)
  have hF := fun r => quas_v (D := (q r).2.2) (kd := (q r).2.1) (n := (q r).1) hv (96 - M 93 2).toNat (by omega) (by omega)
  let L : Nat → Int := fun r => F r 3
  let V : Nat → Int := fun r => nS (fServed (F r)) (F r 1).toNat
  -- the reference
  have ref : ∀ M1 : sM, tC M M1 → sC d 236 [vO 12 82] M1 G (QI (LPost t (bsN L V (M 1 11).toNat).1)) := fun M1 hm => by
    obtain ⟨d, rfl⟩ := sD 7 (d := d) (by omega)
    have e93 : M1 93 = M 93 := hm 93 (by decide) (by decide) (by decide)
    have e82' : M1 82 2 = M 1 11 := by rw [hm 82 (by decide) (by decide) (by decide)]; exact e82
    refine e236 (s236_0 (?_))
    refine c232 (by omega) (fun M2 h2 h94 => ?_)
    refine ?_
    refine sUpTo (W := fun i => ∀ M3 : sM, tK M2 M3 → M3 94 = M2 94 → sW (sC (d + 6)) 236 (QI (LPost t (bsN L V (M 1 11).toNat).1)) 14 [vO 12 82, vI (bsN L V i).1, vI (bsN L V i).2.1, vI (bsN L V i).2.2, vI (i : Int), vN, vN] [] M3 G 0 0) (M 1 11).toNat ?_ ?_ M2 (tK.refl _) rfl
    · intro M3 h3 _
      have e2 : M3 82 2 = M 1 11 := by rw [h3.2 2 (by decide), h2 82 (by decide)]; exact e82'
      refine (s236_14 ⟨fun q1 => ?_, fun q2 => ⟨⟨by omega, by omega⟩, ?_⟩⟩)
      · refine ⟨rfl, hI.same (hm.kp.trans (tK.kp ?_))⟩
        exact ⟨fun a a1 a2 a3 a4 => (h3.1 a a1 a2 a3 a4).trans (h2 a a4), fun i hi => (h3.2 i hi).trans (by rw [h2 82 (by decide)])⟩
      · omega
    · intro i hi ih M3 h3 k94
      have e2 : M3 82 2 = M 1 11 := by rw [h3.2 2 (by decide), h2 82 (by decide)]; exact e82'
      have f93 : M3 93 = M 93 := ((h3.1 93 (by decide) (by decide) (by decide) (by decide)).trans (h2 93 (by decide))).trans e93
      have f2 : M3 93 2 = M 93 2 := by rw [f93]
      obtain ⟨g1, hc, hf⟩ := hq i (by omega)
      obtain ⟨v1, w0, w1, w2, w3, w4, w5⟩ := hF i
      have hser := served_le v1
      have hk : ∀ a, a ≠ 91 → a ≠ 92 → a ≠ 82 → a ≠ 94 → a ≠ 93 → (a < 42 ∨ 59 < a) → M3 a = M a := fun a a1 a2 a3 a4 a5 a6 => ((h3.1 a a1 a2 a3 a4).trans (h2 a a4)).trans (hm a (by omega) (by omega) (by omega))
      refine (s236_14 ⟨fun q1 => ?_, fun q2 => ⟨⟨by omega, by omega⟩, ?_⟩⟩)
      · omega
      · refine c219 (by omega) (hf.congr (hk 84 (by decide) (by decide) (by decide) (by decide) (by decide) (by decide)) (hk 86 (by decide) (by decide) (by decide) (by decide) (by decide) (by decide)) (hk 87 (by decide) (by decide) (by decide) (by decide) (by decide) (by decide))) (by rw [f93]; exact hv) (by omega) (by omega) (by rw [f93]; omega) (by rw [f93]; omega) (fun M4 h4 h44 => ?_)
        rw [f93] at h44
        have h44' : M4 93 = F i := h44
        have i1 : M4 93 1 = M 93 1 := by rw [h44']; exact w1
        have i3 : M4 93 3 = L i := by rw [h44']
        have rb := v1.2.2.1
        have rb1 := v1.1.2.1
        have hb1 := hv.1.2.1
        refine ?_
        refine c234 (by omega) (by omega) (by omega) (fun s s0 s1 => ?_) ?_
        · rw [h44]
          have := (rb s s0 (by omega)).2.2.2.2.2.2
          omega
        · refine ?_
          have h94' : ∀ j : Nat, j < 274 → M3 94 j = M3 93 j := fun j hj => by rw [k94, h94 j hj, f93, e93]
          refine c235 (by omega) (fun M5 h5 h55 => ?_)
          have hb := tK.back (M := M3) (M1 := M3) (M2 := M4) (M3 := M5) (fun a ha => rfl) h94' h4 (fun j hj => by rw [h44, f93]; exact w5 j (by omega)) h5 h55
          have ih' := ih M5 (h3.trans hb.1) (hb.2.trans k94)
          have iv : nS (fServed (M4 93)) (M4 93 1).toNat = V i := by rw [h44']
          rw [i3, iv]
          refine ⟨fun q3 => ⟨⟨by omega, by omega⟩, ?_⟩, fun q4 => ⟨fun q5 => ⟨⟨by omega, by omega⟩, ?_⟩, fun q6 => ⟨fun q7 => ⟨⟨by omega, by omega⟩, ?_⟩, fun q8 => ⟨fun q9 => ⟨⟨by omega, by omega⟩, ?_⟩, fun q10 => ⟨⟨by omega, by omega⟩, ?_⟩⟩⟩⟩⟩
          · rw [bsN_y (by omega)] at ih'; exact ih'
          · rw [bsN_n (by omega)] at ih'; exact ih'
          · rw [bsN_y (by omega)] at ih'; exact ih'
          · rw [bsN_y (by omega)] at ih'; exact ih'
          · rw [bsN_n (by omega)] at ih'; exact ih'
  obtain ⟨d, rfl⟩ := sD 7 (d := d) (by omega)
  refine e93 (s93_0 ?_)
  refine sUpTo (W := fun i => ∀ M1 : sM, tC M M1 → sW (sC (d + 6)) 93 (QI fun r M1 G1 => sC (d + 7) 236 [vO 12 82] M1 G1 (QI (LPost t r))) 10 [vO 11 1, vI (bsN L V i).1, vI (bsN L V i).2.1, vI (bsN L V i).2.2, vI (i : Int), vN, vN] [] M1 G 0 0) (M 1 11).toNat ?_ ?_ M (tC.refl _)
  · intro M1 h1
    have e1 : M1 1 11 = M 1 11 := by rw [h1 1 (by decide) (by decide) (by decide)]
    refine (s93_10 ⟨fun q1 => ?_, fun q2 => ?_⟩)
    · exact ref M1 h1
    · omega
  · intro i hi ih M1 h1
    have e1 : M1 1 11 = M 1 11 := by rw [h1 1 (by decide) (by decide) (by decide)]
    obtain ⟨g1, hc, hf⟩ := hq i (by omega)
    obtain ⟨v1, w0, w1, w2, w3, w4, w5⟩ := hF i
    have hser := served_le v1
    refine (s93_10 ⟨fun q1 => ?_, fun q2 => ?_⟩)
    · omega
    · refine c34 (by omega) ?_
      have ht0 : TR 14 M1 (M 93) := ht.congr (fun a a1 a2 => h1 a (by omega) (by omega) (by omega))
      have ht1 : TR 42 (cpTown M1 42 14) (M 93) := TR.copied hv (by decide) ht0
      have i13 : cpTown M1 42 14 42 13 = M 93 2 := ht1.1.2.2.1
      have i11 : cpTown M1 42 14 1 11 = M 1 11 := by rw [cpTown_out (by decide)]; exact e1
      have i12 : cpTown M1 42 14 12 ((i : Int)).toNat = M 12 i := by rw [cpTown_out (by decide), h1 12 (by decide) (by decide) (by decide)]; rfl
      refine ⟨fun q3 => ⟨⟨by omega, by omega⟩, ?_⟩, fun q12 => ⟨fun q13 => ⟨⟨by omega, by omega⟩, ?_⟩, fun q22 => ⟨⟨(by first | omega | assumption | (refine ⟨?_, ?_⟩ <;> omega) | (simp_all; done)), (by first | omega | assumption | (refine ⟨?_, ?_⟩ <;> omega) | (simp_all; done))⟩, ⟨by omega, by omega⟩, ?_⟩⟩⟩
      all_goals try omega
      rw [i13, i12]
      refine c78 (by omega) (hc.congr (fun k hk => (cpTown_out (by omega)).trans (h1 _ (by omega) (by omega) (by omega)))) hv ht1 (by decide) (by omega) (by omega) (by omega) (by omega) (fun M2 h2 ht2 => ?_)
      have hm := h1.trans (tC.cp h2)
      have j14 : M2 42 14 = L i := ht2.1.2.2.2
      have ih' := ih M2 hm
      refine ?_
      refine c65 (by omega) v1 ht2 ?_
      have iv : nS (fServed (quasF (q i).2.2 (q i).2.1 (q i).1 (96 - M 93 2).toNat (M 93))) (quasF (q i).2.2 (q i).2.1 (q i).1 (96 - M 93 2).toNat (M 93) 1).toNat = V i := rfl
      rw [iv, j14]
      refine ⟨fun q23 => ?_, fun q24 => ⟨fun q25 => ?_, fun q26 => ⟨fun q27 => ?_, fun q28 => ⟨fun q29 => ?_, fun q30 => ?_⟩⟩⟩⟩
      · refine s93_100 (s93_109 ⟨⟨by omega, by omega⟩, ?_⟩)
        rw [bsN_y (by omega)] at ih'; exact ih'
      · refine s93_100 (s93_109 ⟨⟨by omega, by omega⟩, ?_⟩)
        rw [bsN_y (by omega)] at ih'; exact ih'
      · refine (s93_109 ⟨⟨by omega, by omega⟩, ?_⟩)
        rw [bsN_n (by omega)] at ih'; exact ih'
      · refine (s93_109 ⟨⟨by omega, by omega⟩, ?_⟩)
        rw [bsN_n (by omega)] at ih'; exact ih'
      · refine s93_100 (s93_109 ⟨⟨by omega, by omega⟩, ?_⟩)
        rw [bsN_y (by omega)] at ih'; exact ih'
