/-! THE CLASS'S TOWN: one comes; one goes by a window. -/
section Town3
variable {d : Nat} {P : Int → sM → sG → Prop} {PV : sM → sG → Prop} {M : sM} {G : sG} {b : Nat} {S : Nat → Int} {B : Int}
/-- the waits behind a coming, those of people below i looked at -/
def ewQ (M M' : sM) (b : Nat) (p h i : Int) : Prop := (∀ a, a ≠ b + 14 → M' a = M a) ∧ ∀ q : Int, 0 ≤ q → q < 12 → M' (b + 14) q.toNat = if q = p then (if 0 ≤ M (b + 14) p.toNat ∧ M (b + 14) p.toNat < i ∧ M (b + 12) (M (b + 14) p.toNat).toNat = h then -1 else M (b + 14) p.toNat) else (if q < i ∧ M (b + 12) q.toNat = h ∧ M (b + 14) q.toNat = p then -1 else M (b + 14) q.toNat)
theorem c71 {x1 x2 : Int} (hd : 5 ≤ d) (h0 : 0 ≤ x1) (h1 : x1 < 12) (hw : ∀ q : Int, 0 ≤ q → q < 12 → -1 ≤ M (b + 14) q.toNat ∧ M (b + 14) q.toNat < 12 ∧ M (b + 14) q.toNat ≠ q) (kk : ∀ M', ewQ M M' b x1 x2 12 → PV M' G) : sC d 71 [vO 10 b, vI x1, vI x2] M G (QV PV) := by
  obtain ⟨d, rfl⟩ := sD 2 (d := d) (by omega)
  refine e71 (s71_0 ?_)
  refine sUpTo (W := fun i => ∀ M', ewQ M M' b x1 x2 (i : Int) → sW (sC (d + 1)) 71 (QV PV) 2 [vO 10 b, vI x1, vI x2, vI (i : Int)] [] M' G 0 0) 12 ?_ ?_ M ⟨fun _ _ => rfl, fun q q0 q1 => ?_⟩
  · intro M' hM
    exact s71_2 ⟨fun _ => kk M' hM, fun q => absurd q (by decide)⟩
  · intro i hi ih M' hM
    have a12 : M' (b + 12) = M (b + 12) := hM.1 _ (by omega)
    have ai := hM.2 i (by omega) (by omega)
    have ap := hM.2 x1 h0 h1
    rw [if_pos rfl] at ap
    have hwp := hw x1 h0 h1
    have hwi := hw i (by omega) (by omega)
    -- the next look, when the two numbers are as they should be
    have nx : ∀ M'', (∀ a, a ≠ b + 14 → M'' a = M' a) → (∀ q : Int, 0 ≤ q → q < 12 → q ≠ x1 → q ≠ i → M'' (b + 14) q.toNat = M' (b + 14) q.toNat) → (M'' (b + 14) x1.toNat = if 0 ≤ M (b + 14) x1.toNat ∧ M (b + 14) x1.toNat < (i : Int) + 1 ∧ M (b + 12) (M (b + 14) x1.toNat).toNat = x2 then -1 else M (b + 14) x1.toNat) → ((i : Int) ≠ x1 → M'' (b + 14) ((i : Int)).toNat = if M (b + 12) ((i : Int)).toNat = x2 ∧ M (b + 14) ((i : Int)).toNat = x1 then -1 else M (b + 14) ((i : Int)).toNat) → sW (sC (d + 1)) 71 (QV PV) 2 [vO 10 b, vI x1, vI x2, vI ((i + 1 : Nat) : Int)] [] M'' G 0 0 := fun M'' g1 g2 g3 g4 => by
      refine ih M'' ⟨fun a ha => (g1 a ha).trans (hM.1 a ha), fun q q0 q1 => ?_⟩
      by_cases e : q = x1
      · rw [if_pos e, e, g3]; rfl
      · rw [if_neg e]
        by_cases e2 : q = (i : Int)
        · rw [e2, g4 (by omega)]
          by_cases c : M (b + 12) ((i : Int)).toNat = x2 ∧ M (b + 14) ((i : Int)).toNat = x1
          · rw [if_pos c, if_pos ⟨by omega, c⟩]
          · rw [if_neg c, if_neg (fun z => c z.2)]
        · rw [g2 q q0 q1 e e2, hM.2 q q0 q1, if_neg e]
          by_cases c : q < (i : Int) ∧ M (b + 12) q.toNat = x2 ∧ M (b + 14) q.toNat = x1
          · rw [if_pos c, if_pos ⟨by omega, c.2⟩]
          · rw [if_neg c, if_neg (fun z => c ⟨by have := z.1; omega, z.2⟩)]
    have nop : ¬ (M (b + 14) x1.toNat = (i : Int) ∧ M (b + 12) ((i : Int)).toNat = x2) → (if 0 ≤ M (b + 14) x1.toNat ∧ M (b + 14) x1.toNat < (i : Int) + 1 ∧ M (b + 12) (M (b + 14) x1.toNat).toNat = x2 then (-1 : Int) else M (b + 14) x1.toNat) = M' (b + 14) x1.toNat := fun hn => by
      rw [ap]
      by_cases c : 0 ≤ M (b + 14) x1.toNat ∧ M (b + 14) x1.toNat < (i : Int) ∧ M (b + 12) (M (b + 14) x1.toNat).toNat = x2
      · rw [if_pos c, if_pos ⟨c.1, by omega, c.2.2⟩]
      · rw [if_neg c, if_neg (fun z => by
          by_cases e : M (b + 14) x1.toNat = (i : Int)
          · exact hn ⟨e, by have := z.2.2; rw [e] at this; exact this⟩
          · exact c ⟨z.1, by have := z.2.1; omega, z.2.2⟩)]
    have noi : (i : Int) ≠ x1 → M' (b + 14) ((i : Int)).toNat = M (b + 14) ((i : Int)).toNat := fun hn => by
      rw [ai, if_neg hn, if_neg (fun z => by have := z.1; omega)]
    have npi : (i : Int) = x1 → M' (b + 14) ((i : Int)).toNat ≠ x1 := fun hn => by
      rw [ai, if_pos hn]
      split
      · omega
      · exact hwp.2.2
    refine (s71_2 ⟨fun q1 => ?_, fun q2 => ⟨⟨(by first | omega | assumption | (refine ⟨?_, ?_⟩ <;> omega) | (simp_all; done)), (by first | omega | assumption | (refine ⟨?_, ?_⟩ <;> omega) | (simp_all; done))⟩, fun q3 => ⟨⟨by omega, by omega⟩, ?_⟩, fun q4 => ⟨fun q5 => ⟨⟨(by first | omega | assumption | (refine ⟨?_, ?_⟩ <;> omega) | (simp_all; done)), (by first | omega | assumption | (refine ⟨?_, ?_⟩ <;> omega) | (simp_all; done))⟩, fun q6 => ⟨⟨by omega, by omega⟩, ?_⟩, fun q7 => ⟨⟨by omega, by omega⟩, ?_⟩⟩, fun q8 => ⟨⟨(by first | omega | assumption | (refine ⟨?_, ?_⟩ <;> omega) | (simp_all; done)), (by first | omega | assumption | (refine ⟨?_, ?_⟩ <;> omega) | (simp_all; done))⟩, fun q9 => ⟨⟨by omega, by omega⟩, ?_⟩, fun q10 => ⟨⟨by omega, by omega⟩, ?_⟩⟩⟩⟩⟩)
    · exact absurd q1 (by omega)
    · rw [a12] at q3
      exact nx M' (fun _ _ => rfl) (fun _ _ _ _ _ => rfl) (nop (fun z => q3 z.2)).symm (fun hn => by rw [noi hn, if_neg (fun z => q3 z.1)])
    · rw [a12] at q4
      refine nx M' (fun _ _ => rfl) (fun _ _ _ _ _ => rfl) (nop (fun z => q6 ?_)).symm (fun hn => by rw [noi hn, if_neg (fun z => q5 ((noi hn).trans z.2))])
      rw [ap, if_neg (fun y => by have := y.2.1; omega)]; exact z.1
    · rw [a12] at q4
      have e7 : M (b + 14) x1.toNat = (i : Int) := by
        rw [ap] at q7
        split at q7
        · omega
        · exact q7
      refine nx _ (fun a ha => sUpd_ne ha) (fun q q0 q1 n1 n2 => sUpd_ni (by omega)) ?_ (fun hn => ?_)
      · rw [sUpd_eq, if_pos ⟨by omega, by omega, by rw [e7]; exact q4⟩]
      · rw [sUpd_ni (by omega), noi hn, if_neg (fun z => q5 ((noi hn).trans z.2))]
    · rw [a12] at q4
      have hn : (i : Int) ≠ x1 := fun z => npi z q8
      rw [sUpd_ni (by omega)] at q9
      refine nx _ (fun a ha => sUpd_ne ha) (fun q q0 q1 n1 n2 => sUpd_ni (by omega)) ?_ (fun _ => ?_)
      · rw [sUpd_ni (by omega)]
        exact (nop (fun z => q9 (by rw [ap, if_neg (fun y => by have := y.2.1; omega)]; exact z.1))).symm
      · rw [sUpd_eq, if_pos ⟨q4, (noi hn).symm.trans q8⟩]
    · rw [a12] at q4
      have hn : (i : Int) ≠ x1 := fun z => npi z q8
      rw [sUpd_ni (by omega)] at q10
      have e7 : M (b + 14) x1.toNat = (i : Int) := by
        rw [ap] at q10
        split at q10
        · omega
        · exact q10
      refine nx _ (fun a ha => by rw [sUpd_ne ha, sUpd_ne ha]) (fun q q0 q1 n1 n2 => by rw [sUpd_ni (by omega), sUpd_ni (by omega)]) ?_ (fun _ => ?_)
      · rw [sUpd_eq, if_pos ⟨by omega, by omega, by rw [e7]; exact q4⟩]
      · rw [sUpd_ni (by omega), sUpd_eq, if_pos ⟨q4, (noi hn).symm.trans q8⟩]
  · by_cases e : q = x1
    · rw [if_pos e, if_neg (fun z => by have := z.2.1; omega), e]
    · rw [if_neg e, if_neg (fun z => by have := z.1; omega)]
/-- a town into which one has come -/
theorem TR.came {M' : sM} {p h s : Int} (hroom : inN S h < 12) (hv : vTown B S) (ht : TR b M S) (p0 : 0 ≤ p) (p1 : p < 12) (hp : pO S p 0 = -1) (h0 : 0 ≤ h) (h1 : h < S 0) (hs1 : s < S 1)
    (m : ∀ k, k ≠ 4 → k ≠ 5 → k ≠ 11 → k ≠ 12 → k ≠ 13 → k ≠ 14 → M' (b + k) = M (b + k)) (m4 : ∀ j, M' (b + 4) j = if j = h.toNat then inN S h + 1 else M (b + 4) j)
    (m5 : ∀ j, M' (b + 5) j = if j = ((h * 12) + inN S h).toNat then p else M (b + 5) j) (m11 : ∀ j, M' (b + 11) j = if 0 ≤ s ∧ j = s.toNat then 1 else M (b + 11) j) (m12 : ∀ j, M' (b + 12) j = if j = p.toNat then h else M (b + 12) j) (m13 : ∀ j, M' (b + 13) j = if j = p.toNat then s else M (b + 13) j)
    (m14 : ∀ q : Int, 0 ≤ q → q < 12 → M' (b + 14) q.toNat = if q = p then (if 0 ≤ pO S p 3 ∧ pO S (pO S p 3) 0 = h then -1 else pO S p 3) else (if pO S q 0 = h ∧ pO S q 3 = p then -1 else pO S q 3)) : TR b M' (enS (begS S s) p h s) := by
  have hs := hv.1.1
  have hst := hv.1.2.1
  have bo := fun (j : Nat) hj => beg_o (S := S) (s := s) (by omega) (j := j) hj
  have bp : ∀ q w : Int, 0 ≤ q → 0 ≤ w → pO (begS S s) q w = pO S q w := fun q w q0 w0 => bo _ (by omega)
  have hw := (hv.2.2.2.1 p p0 p1).2.2.2.2.1
  have hl := enS_R (S := begS S s) (p := p) (h := h) (s := s) p0 p1 (by rw [bp p 3 p0 (by decide)]; exact hw)
  have hp' : pO (begS S s) p 0 = -1 := by rw [bp p 0 p0 (by decide)]; exact hp
  generalize hT : enS (begS S s) p h s = T at hl ⊢
  obtain ⟨⟨l0, l1, l2, l3⟩, t2, t3, t4, t5⟩ := ht
  have e0 : T 0 = S 0 := (hl.1.1 0 (by decide) (by decide)).trans (bo 0 (by omega))
  have e1 : T 1 = S 1 := (hl.1.1 1 (by decide) (by decide)).trans (bo 1 (by omega))
  have e2 : T 2 = S 2 := (hl.1.1 2 (by decide) (by decide)).trans (bo 2 (by omega))
  have e3 : T 3 = S 3 := (hl.1.1 3 (by decide) (by decide)).trans (bo 3 (by omega))
  have m0 := m 0 (by decide) (by decide) (by decide) (by decide) (by decide) (by decide)
  rw [Nat.add_zero] at m0
  have hin : ∀ k : Int, 0 ≤ k → inN T k = inN S k + (if h = k then 1 else 0) := fun k k0 => by rw [en_inN hl p0 p1 hp' k0, inN_beg (by omega)]
  refine ⟨⟨by rw [m0, l0, e0], by rw [m0, l1, e1], by rw [m0, l2, e2], by rw [m0, l3, e3]⟩, fun k k0 k1 => ?_, fun k k0 k1 => ?_, fun q q0 q1 => ?_, fun k k0 k1 => ?_⟩
  · rw [e0] at k1
    obtain ⟨g1, g2, g3, g4⟩ := t2 k k0 k1
    have eh : ∀ w : Int, 0 ≤ w → w < 3 → hO T k w = hO S k w := fun w w0 w1 => (hl.1.h k0 (by omega) w0 w1).trans (bo _ (by omega))
    rw [m 1 (by decide) (by decide) (by decide) (by decide) (by decide) (by decide), m 2 (by decide) (by decide) (by decide) (by decide) (by decide) (by decide), m 3 (by decide) (by decide) (by decide) (by decide) (by decide) (by decide), eh 0 (by decide) (by decide), eh 1 (by decide) (by decide), eh 2 (by decide) (by decide), m4, hin k k0]
    refine ⟨g1, g2, g3, ?_⟩
    by_cases c : k = h
    · rw [if_pos (by rw [c]), if_pos c.symm, c]
    · rw [if_neg (by omega), if_neg (fun z => c z.symm), g4]; omega
  · rw [e1] at k1
    have et : ∀ w : Int, 0 ≤ w → w < 6 → tO T k w = if k = s ∧ w = 5 then 1 else tO S k w := fun w w0 w1 => by rw [hl.1.t k0 (by omega) w0 w1, beg_t k0 w0 w1]
    obtain ⟨g1, g2, g3, g4, g5, g6⟩ := t3 k k0 k1
    rw [m 6 (by decide) (by decide) (by decide) (by decide) (by decide) (by decide), m 7 (by decide) (by decide) (by decide) (by decide) (by decide) (by decide), m 8 (by decide) (by decide) (by decide) (by decide) (by decide) (by decide), m 9 (by decide) (by decide) (by decide) (by decide) (by decide) (by decide), m 10 (by decide) (by decide) (by decide) (by decide) (by decide) (by decide), m11, et 0 (by decide) (by decide), et 1 (by decide) (by decide), et 2 (by decide) (by decide), et 3 (by decide) (by decide), et 4 (by decide) (by decide), et 5 (by decide) (by decide)]
    rw [if_neg (c := k = s ∧ (0 : Int) = 5) (fun z => absurd z.2 (by decide)), if_neg (c := k = s ∧ (1 : Int) = 5) (fun z => absurd z.2 (by decide)), if_neg (c := k = s ∧ (2 : Int) = 5) (fun z => absurd z.2 (by decide)), if_neg (c := k = s ∧ (3 : Int) = 5) (fun z => absurd z.2 (by decide)), if_neg (c := k = s ∧ (4 : Int) = 5) (fun z => absurd z.2 (by decide))]
    refine ⟨g1, g2, g3, g4, g5, ?_⟩
    by_cases c : k = s
    · rw [if_pos ⟨by omega, by rw [c]⟩, if_pos ⟨c, rfl⟩]
    · rw [if_neg (fun z => by have := z.2; have := z.1; omega), if_neg (fun z => c z.1), g6]
  · obtain ⟨b0, b1, b2, b3, b4⟩ := hl.2.2 q q0 q1
    obtain ⟨g1, g2, g3⟩ := t4 q q0 q1
    rw [m12, m13, m14 q q0 q1, b0, b1, b3, g1, g2, bp q 0 q0 (by decide), bp q 1 q0 (by decide), bp q 3 q0 (by decide), bp p 3 p0 (by decide)]
    refine ⟨?_, ?_, ?_⟩
    · by_cases c : q = p
      · rw [if_pos (by rw [c]), if_pos c]
      · rw [if_neg (by omega), if_neg c]
    · by_cases c : q = p
      · rw [if_pos (by rw [c]), if_pos c]
      · rw [if_neg (by omega), if_neg c]
    · by_cases c : q = p
      · rw [if_pos c, if_pos c]
        by_cases z : 0 ≤ pO S p 3
        · rw [bp _ 0 z (by decide)]
        · rw [if_neg (fun y => z y.1), if_neg (fun y => z y.1)]
      · rw [if_neg c, if_neg c]
  · rw [e0] at k1
    have hn := inN_ge S k
    have hnh := inN_ge S h
    have hr := t5 k k0 k1
    have hik := hin k k0
    have st : ∀ x : Int, 0 ≤ x → x < 12 → x ≠ p → pO T x 2 = pO S x 2 := fun x x0 x1 xn => by rw [(hl.2.2 x x0 x1).2.2.1, if_neg xn, bp x 2 x0 (by decide)]
    have ne : ∀ j : Int, 0 ≤ j → j < inN S k → rW b M k j ≠ p := fun j j0 j1 z => by
      have := (hr.mem j0 j1).2.2
      rw [z, hp] at this
      omega
    have er : ∀ j : Int, 0 ≤ j → j < inN S k → rW b M' k j = rW b M k j := fun j j0 j1 => by
      unfold rW
      rw [m5, if_neg]
      intro z
      by_cases c : k = h
      · subst c; omega
      · omega
    have sum := fun g => en_sum hl p0 p1 hp' k0 g
    have sumb : ∀ g : Int → Int, nS (fun q => if pO (begS S s) (q : Int) 0 = k then g q else 0) 12 = nS (fun i => g (rW b M k i)) (inN S k).toNat := fun g => by
      rw [← hr.1 g]
      exact nS_congr (fun q _ => by rw [bp q 0 (by omega) (by decide)])
    by_cases c : h = k
    · rw [if_pos c] at hik
      have el : rW b M' k (inN S k) = p := by
        unfold rW
        rw [m5, if_pos (by rw [c])]
      refine ⟨fun g => ?_, fun j j' j0 jj j1 => ?_⟩
      · rw [sum g, sumb g, if_pos c, hik, show (inN S k + 1).toNat = (inN S k).toNat + 1 by omega]
        show _ = nS (fun i => g (rW b M' k (i : Int))) (inN S k).toNat + g (rW b M' k ((inN S k).toNat : Int))
        rw [← z_nat hn.1, el, nS_congr (n := (inN S k).toNat) (f := fun i => g (rW b M' k (i : Int))) (fun j hj => by rw [er j (by omega) (by omega)])]
      · rw [hik] at j1
        rw [er j j0 (by omega)]
        obtain ⟨x0, x1, -⟩ := hr.mem (i := j) j0 (by omega)
        rw [st _ x0 x1 (ne j j0 (by omega))]
        by_cases z : j' = inN S k
        · rw [z, el, (hl.2.2 p p0 p1).2.2.1, if_pos rfl, bo 4 (by omega)]
          have := (hv.2.2.2.1 _ x0 x1).2.2.2.1
          omega
        · rw [er j' (by omega) (by omega)]
          obtain ⟨y0, y1, -⟩ := hr.mem (i := j') (by omega) (by omega)
          rw [st _ y0 y1 (ne j' (by omega) (by omega))]
          exact hr.2 j j' j0 jj (by omega)
    · rw [if_neg c, Int.add_zero] at hik
      refine ⟨fun g => ?_, fun j j' j0 jj j1 => ?_⟩
      · rw [sum g, sumb g, if_neg c, hik, Int.add_zero]
        exact nS_congr (fun j hj => by rw [er j (by omega) (by omega)])
      · rw [hik] at j1
        rw [er j j0 (by omega), er j' (by omega) j1]
        obtain ⟨x0, x1, -⟩ := hr.mem (i := j) j0 (by omega)
        obtain ⟨y0, y1, -⟩ := hr.mem (i := j') (by omega) j1
        rw [st _ x0 x1 (ne j j0 (by omega)), st _ y0 y1 (ne j' (by omega) j1)]
        exact hr.2 j j' j0 jj j1
end Town3
