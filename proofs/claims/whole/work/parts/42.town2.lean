/-! THE CLASS'S TOWN: entering, windows, the stays to begin. -/
section Town4
variable {d : Nat} {P : Int → sM → sG → Prop} {PV : sM → sG → Prop} {M : sM} {G : sG} {b : Nat} {S : Nat → Int} {B : Int}
theorem c70 {x1 x2 x3 : Int} (hd : 10 ≤ d) (hv : vTown B S) (ht : TR b M S) (h0 : 0 ≤ x1) (h1 : x1 < 12) (hp : pO S x1 0 = -1) (hh0 : 0 ≤ x2) (hh1 : x2 < S 0) (hs : x3 < S 1) (hroom : inN S x2 < 12) (kk : ∀ M', (∀ a, a < b ∨ b + 14 < a → M' a = M a) → TR b M' (enS (begS S x3) x1 x2 x3) → PV M' G) : sC d 70 [vO 10 b, vI x1, vI x2, vI x3] M G (QV PV) := by
  obtain ⟨d, rfl⟩ := sD 2 (d := d) (by omega)
  have hs0 := hv.1.1
  have hs1 := hv.1.2.1
  have hb0 := ht.1.1
  have hb6 := ht.1.2.1
  have hi := (ht.2.1 _ hh0 hh1).2.2.2
  have hn := inN_ge S x2
  have r1 : (sUpd M (b + 5) ((x2 * 12) + (M (b + 4) x2.toNat)).toNat x1) (b + 4) x2.toNat = inN S x2 := by rw [sUpd_ne (by omega), hi]
  -- what all the ways come to
  have fin : ∀ M1 : sM, (∀ k, k ≠ 4 → k ≠ 5 → k ≠ 11 → k ≠ 12 → k ≠ 13 → M1 (b + k) = M (b + k)) → (∀ j, M1 (b + 4) j = if j = x2.toNat then inN S x2 + 1 else M (b + 4) j) → (∀ j, M1 (b + 5) j = if j = ((x2 * 12) + inN S x2).toNat then x1 else M (b + 5) j) → (∀ j, M1 (b + 11) j = if 0 ≤ x3 ∧ j = x3.toNat then 1 else M (b + 11) j) → (∀ j, M1 (b + 12) j = if j = x1.toNat then x2 else M (b + 12) j) → (∀ j, M1 (b + 13) j = if j = x1.toNat then x3 else M (b + 13) j) → (∀ a, a < b ∨ b + 14 < a → M1 a = M a) → sW (sC (d + 1)) 70 (QV PV) 76 [vO 10 b, vI x1, vI x2, vN] [] M1 G 0 0 := fun M1 m m4 m5 m11 m12 m13 mo => by
    have m14 := m 14 (by decide) (by decide) (by decide) (by decide) (by decide)
    have w3 : ∀ q : Int, 0 ≤ q → q < 12 → M1 (b + 14) q.toNat = pO S q 3 := fun q q0 q1 => by rw [m14]; exact (ht.2.2.2.1 q q0 q1).2.2
    have h12 : ∀ q : Int, 0 ≤ q → q < 12 → M1 (b + 12) q.toNat = if q = x1 then x2 else pO S q 0 := fun q q0 q1 => by
      rw [m12, (ht.2.2.2.1 q q0 q1).1]
      by_cases c : q = x1
      · rw [if_pos (by rw [c]), if_pos c]
      · rw [if_neg (by omega), if_neg c]
    refine s70_76 (c71 (by omega) h0 h1 (fun q q0 q1 => by rw [w3 q q0 q1]; exact (hv.2.2.2.1 q q0 q1).2.2.2.2.1) (fun M2 hM2 => ?_))
    refine kk M2 (fun a ha => (hM2.1 a (by omega)).trans (mo a ha)) (ht.came hroom hv h0 h1 hp hh0 hh1 hs (fun k k4 k5 k11 k12 k13 k14 => (hM2.1 _ (by omega)).trans (m k k4 k5 k11 k12 k13)) (fun j => by rw [hM2.1 _ (by omega), m4]) (fun j => by rw [hM2.1 _ (by omega), m5]) (fun j => by rw [hM2.1 _ (by omega), m11]) (fun j => by rw [hM2.1 _ (by omega), m12]) (fun j => by rw [hM2.1 _ (by omega), m13]) (fun q q0 q1 => ?_))
    have hwp := (hv.2.2.2.1 x1 h0 h1).2.2.2.2.1
    rw [hM2.2 q q0 q1, w3 x1 h0 h1, w3 q q0 q1]
    by_cases c : q = x1
    · rw [if_pos c, if_pos c]
      by_cases z : 0 ≤ pO S x1 3
      · rw [h12 _ z hwp.2.1, if_neg (c := pO S x1 3 = x1) hwp.2.2]
        by_cases y : pO S (pO S x1 3) 0 = x2
        · rw [if_pos ⟨z, hwp.2.1, y⟩, if_pos ⟨z, y⟩]
        · rw [if_neg (fun t => y t.2.2), if_neg (fun t => y t.2)]
      · rw [if_neg (fun t => z t.1), if_neg (fun t => z t.1)]
    · rw [if_neg c, if_neg c, h12 q q0 q1, if_neg c]
      by_cases y : pO S q 0 = x2 ∧ pO S q 3 = x1
      · rw [if_pos ⟨q1, y⟩, if_pos y]
      · rw [if_neg (fun t => y t.2), if_neg y]
  refine e70 (s70_0 ⟨fun q1 => ?_, fun q2 => ⟨fun q3 => ?_, fun q4 => ⟨⟨(by first | omega | assumption | (refine ⟨?_, ?_⟩ <;> omega) | (simp_all; done)), (by first | omega | assumption | (refine ⟨?_, ?_⟩ <;> omega) | (simp_all; done))⟩, fun q5 => ⟨⟨by omega, by omega⟩, ⟨by omega, by omega⟩, ⟨(by first | omega | assumption | (refine ⟨?_, ?_⟩ <;> omega) | (simp_all; done)), (by first | omega | assumption | (refine ⟨?_, ?_⟩ <;> omega) | (simp_all; done))⟩, ⟨by omega, by omega⟩, ⟨(by first | omega | assumption | (refine ⟨?_, ?_⟩ <;> omega) | (simp_all; done)), (by first | omega | assumption | (refine ⟨?_, ?_⟩ <;> omega) | (simp_all; done))⟩, fun q6 => ?_, fun q7 => ⟨fun q8 => ?_, fun q9 => ⟨⟨(by first | omega | assumption | (refine ⟨?_, ?_⟩ <;> omega) | (simp_all; done)), (by first | omega | assumption | (refine ⟨?_, ?_⟩ <;> omega) | (simp_all; done))⟩, ?_⟩⟩⟩, fun q10 => ?_⟩⟩⟩)
  · omega
  · omega
  · rw [r1, hi]
    refine fin _ (fun k k4 k5 k11 k12 k13 => by rw [sUpd_ne (by omega), sUpd_ne (by omega), sUpd_ne (by omega), sUpd_ne (by omega)]) (fun j => by rw [sUpd_ne (by omega), sUpd_ne (by omega), sUpd_at, sUpd_ne (by omega)]) (fun j => by rw [sUpd_ne (by omega), sUpd_ne (by omega), sUpd_ne (by omega), sUpd_at]) (fun j => by rw [sUpd_ne (by omega), sUpd_ne (by omega), sUpd_ne (by omega), sUpd_ne (by omega), if_neg (fun z => by have := z.1; omega)]) (fun j => by rw [sUpd_ne (by omega), sUpd_at, sUpd_ne (by omega), sUpd_ne (by omega)]) (fun j => by rw [sUpd_at, sUpd_ne (by omega), sUpd_ne (by omega), sUpd_ne (by omega)]) (fun a ha => by rw [sUpd_ne (by omega), sUpd_ne (by omega), sUpd_ne (by omega), sUpd_ne (by omega)])
  · exfalso
    rw [sUpd_ne (by omega), sUpd_ne (by omega), sUpd_ne (by omega), sUpd_ne (by omega)] at q8
    omega
  · rw [r1, hi]
    refine fin _ (fun k k4 k5 k11 k12 k13 => by rw [sUpd_ne (by omega), sUpd_ne (by omega), sUpd_ne (by omega), sUpd_ne (by omega), sUpd_ne (by omega)]) (fun j => by rw [sUpd_ne (by omega), sUpd_ne (by omega), sUpd_ne (by omega), sUpd_at, sUpd_ne (by omega)]) (fun j => by rw [sUpd_ne (by omega), sUpd_ne (by omega), sUpd_ne (by omega), sUpd_ne (by omega), sUpd_at]) (fun j => ?_) (fun j => by rw [sUpd_ne (by omega), sUpd_ne (by omega), sUpd_at, sUpd_ne (by omega), sUpd_ne (by omega)]) (fun j => by rw [sUpd_ne (by omega), sUpd_at, sUpd_ne (by omega), sUpd_ne (by omega), sUpd_ne (by omega)]) (fun a ha => by rw [sUpd_ne (by omega), sUpd_ne (by omega), sUpd_ne (by omega), sUpd_ne (by omega), sUpd_ne (by omega)])
    rw [sUpd_at, sUpd_ne (by omega), sUpd_ne (by omega), sUpd_ne (by omega), sUpd_ne (by omega)]
    by_cases c : j = x3.toNat
    · rw [if_pos c, if_pos ⟨q7, c⟩]
    · rw [if_neg c, if_neg (fun z => c z.2)]
  · omega
theorem lv_win {p h : Int} (p0 : 0 ≤ p) (h0 : 0 ≤ h) (h1 : h < 6) : lvS (winS S h) p = winS (lvS S p) h := by
  funext j
  have e : hO (lvS S p) h 2 = hO S h 2 := by unfold hO lvS; rw [uS_ne (by omega), uS_ne (by omega), uS_ne (by omega)]
  unfold winS
  rw [e]
  unfold lvS
  by_cases c : j = ((10 + (3 * h)) + 2).toNat
  · rw [uS_ne (by omega), uS_ne (by omega), uS_ne (by omega), uS_eq c, uS_eq c]
  · rw [uS_ne (i := ((10 + (3 * h)) + 2).toNat) c]
    unfold uS
    rw [if_neg (c := j = ((10 + (3 * h)) + 2).toNat) c]
theorem TR.win {h : Int} {M' : sM} (ht : TR b M S) (hs : S 0 ≤ 6) (h0 : 0 ≤ h) (h1 : h < S 0) (m : ∀ k, k ≠ 3 → M' (b + k) = M (b + k)) (m3 : ∀ j, M' (b + 3) j = if j = h.toNat then hO S h 2 - 1 else M (b + 3) j) : TR b M' (winS S h) := by
  obtain ⟨⟨l0, l1, l2, l3⟩, t2, t3, t4, t5⟩ := ht
  have o := fun (j : Nat) hj => win_o (S := S) h0 (by omega) (j := j) hj
  have m0 := m 0 (by decide)
  rw [Nat.add_zero] at m0
  refine ⟨⟨by rw [m0, l0, o 0 (by omega)], by rw [m0, l1, o 1 (by omega)], by rw [m0, l2, o 2 (by omega)], by rw [m0, l3, o 3 (by omega)]⟩, fun k k0 k1 => ?_, fun s s0 s1 => ?_, fun q q0 q1 => ?_, fun k k0 k1 => ?_⟩
  · rw [o 0 (by omega)] at k1
    obtain ⟨g1, g2, g3, g4⟩ := t2 k k0 k1
    rw [m 1 (by decide), m 2 (by decide), m3, m 4 (by decide), win_h h0 k0 (by decide) (by decide), win_h h0 k0 (by decide) (by decide), win_h h0 k0 (by decide) (by decide), if_neg (c := k = h ∧ (0 : Int) = 2) (fun z => absurd z.2 (by decide)), if_neg (c := k = h ∧ (1 : Int) = 2) (fun z => absurd z.2 (by decide)), inN_low (S' := winS S h) rfl (by omega)]
    refine ⟨g1, g2, ?_, g4⟩
    by_cases c : k = h
    · rw [if_pos (by rw [c]), if_pos ⟨c, rfl⟩]
    · rw [if_neg (by omega), if_neg (fun z => c z.1), g3]
  · rw [o 1 (by omega)] at s1
    have et : ∀ w : Int, 0 ≤ w → tO (winS S h) s w = tO S s w := fun w w0 => o _ (by omega)
    rw [m 6 (by decide), m 7 (by decide), m 8 (by decide), m 9 (by decide), m 10 (by decide), m 11 (by decide), et 0 (by decide), et 1 (by decide), et 2 (by decide), et 3 (by decide), et 4 (by decide), et 5 (by decide)]
    exact t3 s s0 s1
  · have ep : ∀ w : Int, 0 ≤ w → pO (winS S h) q w = pO S q w := fun w w0 => o _ (by omega)
    rw [m 12 (by decide), m 13 (by decide), m 14 (by decide), ep 0 (by decide), ep 1 (by decide), ep 3 (by decide)]
    exact t4 q q0 q1
  · rw [o 0 (by omega)] at k1
    obtain ⟨g1, g2⟩ := t5 k k0 k1
    have ep : ∀ q w : Int, 0 ≤ q → 0 ≤ w → pO (winS S h) q w = pO S q w := fun q w q0 w0 => o _ (by omega)
    have er : rW b M' = rW b M := by funext h i; unfold rW; rw [m 5 (by decide)]
    have ei := inN_low (S' := winS S h) (S := S) rfl (by omega) k
    refine ⟨fun g => ?_, fun i j i0 ij j1 => ?_⟩
    · rw [er, ei, ← g1 g]
      exact nS_congr (fun q _ => by rw [ep q 0 (by omega) (by decide)])
    · rw [ei] at j1
      have hr : RW b M S k := ⟨g1, g2⟩
      rw [er, ep _ 2 (hr.mem i0 (by omega)).1 (by decide), ep _ 2 (hr.mem (by omega) j1).1 (by decide)]
      exact g2 i j i0 ij j1
theorem c73 {x1 : Int} (hd : 20 ≤ d) (hv : vTown B S) (ht : TR b M S) (h0 : 0 ≤ x1) (h1 : x1 < 12) (k1 : 0 ≤ pO S x1 0 → 0 < hO S (pO S x1 0) 2 → ∀ M', (∀ a, a < b ∨ b + 14 < a → M' a = M a) → TR b M' (lvS (winS S (pO S x1 0)) x1) → P 1 M' G) (k0 : (0 ≤ pO S x1 0 → hO S (pO S x1 0) 2 = 0) → P 0 M G) : sC d 73 [vO 10 b, vI x1] M G (QI P) := by
  obtain ⟨d, rfl⟩ := sD 2 (d := d) (by omega)
  have hs0 := hv.1.1
  have hb0 := ht.1.1
  have hp := (ht.2.2.2.1 x1 h0 h1).1
  have hpv := (hv.2.2.2.1 x1 h0 h1).1
  refine e73 (s73_0 ⟨⟨(by first | omega | assumption | (refine ⟨?_, ?_⟩ <;> omega) | (simp_all; done)), (by first | omega | assumption | (refine ⟨?_, ?_⟩ <;> omega) | (simp_all; done))⟩, fun q1 => ?_, fun q2 => ⟨fun q3 => ?_, fun q4 => ⟨⟨(by first | omega | assumption | (refine ⟨?_, ?_⟩ <;> omega) | (simp_all; done)), (by first | omega | assumption | (refine ⟨?_, ?_⟩ <;> omega) | (simp_all; done))⟩, fun q5 => ?_, fun q6 => ?_⟩⟩⟩)
  · exact k0 (fun z => by omega)
  · omega
  · rw [hp] at q5
    have hq : 0 ≤ pO S x1 0 := by omega
    have hw := (ht.2.1 _ hq hpv.2).2.2.1
    have hwv := (hv.2.1 _ hq hpv.2).2.2
    refine c74 (by omega) hv ht h0 h1 hq (fun M1 mo ht1 => ?_)
    have hl := lvS_R (S := S) h0 h1
    have e0 : lvS S x1 0 = S 0 := hl.1.1 0 (by decide) (by decide)
    have e3 : M1 (b + 3) (pO S x1 0).toNat = hO S (pO S x1 0) 2 := by
      rw [(ht1.2.1 _ hq (by omega)).2.2.1]
      exact hl.1.h hq (by omega) (by decide) (by decide)
    rw [hp, e3]
    refine ⟨⟨by omega, by omega⟩, ?_⟩
    refine k1 hq (by omega) _ (fun a ha => (sUpd_ne (by omega)).trans (mo a ha)) ?_
    rw [lv_win h0 hq (by omega)]
    refine ht1.win (by omega) hq (by omega) (fun k k3 => sUpd_ne (by omega)) (fun j => ?_)
    rw [sUpd_at, show hO (lvS S x1) (pO S x1 0) 2 = hO S (pO S x1 0) 2 from hl.1.h hq (by omega) (by decide) (by decide)]
  · rw [hp] at q6
    refine k0 (fun z => ?_)
    have hw := (ht.2.1 _ z hpv.2).2.2.1
    have hwv := (hv.2.1 _ z hpv.2).2.2
    omega
/-- the stays to begin, from a place of the row of stays on -/
def fbQ (S : Nat → Int) (i : Int) (F : Nat → Int) : Prop := ∀ p : Int, 0 ≤ p → p < 12 → (F p.toNat = -1 ∧ ∀ s : Int, i ≤ s → s < S 1 → ¬ canS S p s) ∨ (i ≤ F p.toNat ∧ F p.toNat < S 1 ∧ canS S p (F p.toNat) ∧ ∀ s : Int, i ≤ s → s < F p.toNat → ¬ canS S p s)
theorem c89 {a1 : Nat} (hd : 20 ≤ d) (hv : vTown B S) (ht : TR b M S) (ha : a1 < b ∨ b + 14 < a1) (kk : ∀ M', (∀ a, a ≠ a1 → M' a = M a) → fbQ S 0 (M' a1) → PV M' G) : sC d 89 [vO 10 b, vA 0 a1 12] M G (QV PV) := by
  obtain ⟨d, rfl⟩ := sD 2 (d := d) (by omega)
  have hs1 := hv.1.2.1
  have hb6 := ht.1.2.1
  have hb13 := ht.1.2.2.1
  refine e89 (s89_0 (c6 (by omega) (by decide) (by decide) ?_))
  have eb : ∀ k, k ≤ 14 → sFill M a1 (12 : Int).toNat (-1) (b + k) = M (b + k) := fun k hk => sFill_ne (by omega)
  have eb0 := eb 0 (by omega)
  rw [Nat.add_zero] at eb0
  rw [eb0, hb6]
  refine ⟨⟨by omega, by omega⟩, ?_⟩
  have lp := sUpTo (W := fun j => ∀ M', (∀ a, a ≠ a1 → M' a = M a) → fbQ S (S 1 - (j : Int)) (M' a1) → sW (sC (d + 1)) 89 (QV PV) 12 [vO 10 b, vA 0 a1 12, vI (S 1 - 1 - (j : Int))] [] M' G 0 0) (S 1).toNat ?_ ?_
  · have e0 : S 1 - 1 - ((0 : Nat) : Int) = S 1 - 1 := by omega
    rw [e0] at lp
    refine lp _ (fun a h => sFill_ne h) (fun p p0 p1 => Or.inl ⟨sFill_at (by omega), fun s s0 s1 => by omega⟩)
  · intro M' mo hQ
    exact s89_12 ⟨fun _ => kk M' mo (by rw [show S 1 - ((S 1).toNat : Int) = 0 by omega] at hQ; exact hQ), fun q => by omega⟩
  · intro j hj ih M' mo hQ
    have er : ∀ k, k ≤ 14 → M' (b + k) = M (b + k) := fun k hk => mo _ (by omega)
    have er0 := er 0 (by omega)
    rw [Nat.add_zero] at er0
    obtain ⟨g1, g2, g3, g4, g5, g6⟩ := ht.2.2.1 (S 1 - 1 - (j : Int)) (by omega) (by omega)
    have hst := hv.2.2.1 (S 1 - 1 - (j : Int)) (by omega) (by omega)
    have no : (∀ p : Int, ¬ canS S p (S 1 - 1 - (j : Int))) → sW (sC (d + 1)) 89 (QV PV) 12 [vO 10 b, vA 0 a1 12, vI (S 1 - 1 - (j : Int) + (-1))] [] M' G 0 0 := fun hn => by
      have := ih M' mo (fun p p0 p1 => by
        rcases hQ p p0 p1 with ⟨z1, z2⟩ | ⟨z1, z2, z3, z4⟩
        · refine Or.inl ⟨z1, fun s s0 s1 => ?_⟩
          by_cases e : s = S 1 - 1 - (j : Int)
          · rw [e]; exact hn p
          · exact z2 s (by omega) s1
        · refine Or.inr ⟨by omega, z2, z3, fun s s0 s1 => ?_⟩
          by_cases e : s = S 1 - 1 - (j : Int)
          · rw [e]; exact hn p
          · exact z4 s (by omega) s1)
      rw [show S 1 - 1 - ((j + 1 : Nat) : Int) = S 1 - 1 - (j : Int) + (-1) by omega] at this
      exact this
    have e6 : M' (b + 6) (S 1 - 1 - (j : Int)).toNat = tO S (S 1 - 1 - (j : Int)) 0 := by rw [er 6 (by omega), g1]
    have e8 : M' (b + 8) (S 1 - 1 - (j : Int)).toNat = tO S (S 1 - 1 - (j : Int)) 2 := by rw [er 8 (by omega), g3]
    have e9 : M' (b + 9) (S 1 - 1 - (j : Int)).toNat = tO S (S 1 - 1 - (j : Int)) 3 := by rw [er 9 (by omega), g4]
    have e11 : M' (b + 11) (S 1 - 1 - (j : Int)).toNat = tO S (S 1 - 1 - (j : Int)) 5 := by rw [er 11 (by omega), g6]
    have e13 : M' b 13 = S 2 := by rw [er0, hb13]
    refine (s89_12 ⟨fun q1 => ?_, fun q2 => ⟨⟨(by first | omega | assumption | (refine ⟨?_, ?_⟩ <;> omega) | (simp_all; done)), (by first | omega | assumption | (refine ⟨?_, ?_⟩ <;> omega) | (simp_all; done))⟩, fun q3 => ⟨⟨by omega, by omega⟩, ?_⟩, fun q4 => ⟨fun q5 => ⟨⟨by omega, by omega⟩, ?_⟩, fun q6 => ⟨fun q7 => ⟨⟨by omega, by omega⟩, ?_⟩, fun q8 => ⟨⟨(by first | omega | assumption | (refine ⟨?_, ?_⟩ <;> omega) | (simp_all; done)), (by first | omega | assumption | (refine ⟨?_, ?_⟩ <;> omega) | (simp_all; done))⟩, ⟨by omega, by omega⟩, ?_⟩⟩⟩⟩⟩)
    · omega
    · exact no (fun p z => q3 (e11.trans z.2.1))
    · exact no (fun p z => by have := z.2.2.1; omega)
    · exact no (fun p z => by have := z.2.2.2; omega)
    · have := ih (sUpd M' a1 (M' (b + 6) (S 1 - 1 - (j : Int)).toNat).toNat (S 1 - 1 - (j : Int))) (fun a h => (sUpd_ne h).trans (mo a h)) (fun p p0 p1 => by
        rw [sUpd_at]
        by_cases c : p = tO S (S 1 - 1 - (j : Int)) 0
        · rw [if_pos (by rw [e6, c])]
          refine Or.inr ⟨by omega, by omega, ⟨c.symm, e11.symm.trans q4, by omega, by omega⟩, fun s s0 s1 => by omega⟩
        · rw [if_neg (by rw [e6]; omega)]
          rcases hQ p p0 p1 with ⟨z1, z2⟩ | ⟨z1, z2, z3, z4⟩
          · refine Or.inl ⟨z1, fun s s0 s1 => ?_⟩
            by_cases e : s = S 1 - 1 - (j : Int)
            · rw [e]; exact fun y => c y.1.symm
            · exact z2 s (by omega) s1
          · refine Or.inr ⟨by omega, z2, z3, fun s s0 s1 => ?_⟩
            by_cases e : s = S 1 - 1 - (j : Int)
            · rw [e]; exact fun y => c y.1.symm
            · exact z4 s (by omega) s1)
      rw [show S 1 - 1 - ((j + 1 : Nat) : Int) = S 1 - 1 - (j : Int) + (-1) by omega] at this
      exact this
end Town4
