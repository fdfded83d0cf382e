/-! THE CLASS'S TOWN: one goes. -/
def sShf (M : sM) (a lo hi : Nat) : sM := fun c j => if c = a ∧ lo ≤ j ∧ j < hi then M a (j + 1) else M c j
theorem sShf_ne {M : sM} {a lo hi c : Nat} (h : c ≠ a) : sShf M a lo hi c = M c := by
  funext j
  unfold sShf
  rw [if_neg (fun z => h z.1)]
theorem sShf_0 (M : sM) (a lo : Nat) : sShf M a lo lo = M := by
  funext c j
  unfold sShf
  rw [if_neg (fun z => by have := z.2.1; have := z.2.2; omega)]
theorem sShf_at (M : sM) (a lo hi j : Nat) : sShf M a lo hi a j = if lo ≤ j ∧ j < hi then M a (j + 1) else M a j := by
  unfold sShf
  by_cases c : lo ≤ j ∧ j < hi
  · rw [if_pos ⟨rfl, c⟩, if_pos c]
  · rw [if_neg (fun z => c z.2), if_neg c]
theorem sShf_st {M : sM} {a lo hi : Nat} (h : lo ≤ hi) : sUpd (sShf M a lo hi) a hi (sShf M a lo hi a (hi + 1)) = sShf M a lo (hi + 1) := by
  rw [sShf_at, if_neg (fun z => by have := z.2; omega)]
  funext c j
  by_cases e : c = a
  · subst e
    rw [sUpd_at, sShf_at, sShf_at]
    by_cases e2 : j = hi
    · rw [if_pos e2, if_pos ⟨by omega, by omega⟩, e2]
    · rw [if_neg e2]
      by_cases e3 : lo ≤ j ∧ j < hi
      · rw [if_pos e3, if_pos ⟨e3.1, by omega⟩]
      · rw [if_neg e3, if_neg (fun z => e3 ⟨z.1, by have := z.2; omega⟩)]
  · rw [sUpd_ne e, sShf_ne e, sShf_ne e]
theorem nS_del (f : Nat → Int) (i : Nat) : ∀ n : Nat, i ≤ n → nS (fun j => if j < i then f j else f (j + 1)) n = nS f (n + 1) - f i
  | 0, h => by
    have : i = 0 := by omega
    subst this
    show (0 : Int) = 0 + f 0 - f 0
    omega
  | n + 1, h => by
    show nS (fun j => if j < i then f j else f (j + 1)) n + (if n < i then f n else f (n + 1)) = nS f (n + 1) + f (n + 1) - f i
    by_cases e : i ≤ n
    · rw [nS_del f i n e, if_neg (by omega)]
      omega
    · have e2 : i = n + 1 := by omega
      rw [if_pos (by omega), nS_congr (n := n) (g := f) (fun j hj => by rw [if_pos (by omega)]), e2]
      show nS f n + f n = nS f n + f n + f (n + 1) - f (n + 1)
      omega
section Town2
variable {d : Nat} {P : Int → sM → sG → Prop} {PV : sM → sG → Prop} {M : sM} {G : sG} {b : Nat} {S : Nat → Int} {B : Int}
/-- a town out of which one has gone -/
theorem TR.left {M' : sM} {p i : Int} (hv : vTown B S) (ht : TR b M S) (p0 : 0 ≤ p) (p1 : p < 12) (hq : 0 ≤ pO S p 0) (i0 : 0 ≤ i) (i1 : i < inN S (pO S p 0)) (e : rW b M (pO S p 0) i = p)
    (m : ∀ k, k ≠ 4 → k ≠ 5 → k ≠ 12 → k ≠ 13 → M' (b + k) = M (b + k)) (m4 : ∀ j, M' (b + 4) j = if j = (pO S p 0).toNat then inN S (pO S p 0) - 1 else M (b + 4) j)
    (m5 : ∀ j, M' (b + 5) j = if ((pO S p 0 * 12) + i).toNat ≤ j ∧ j < ((pO S p 0 * 12) + (inN S (pO S p 0) - 1)).toNat then M (b + 5) (j + 1) else M (b + 5) j) (m12 : ∀ j, M' (b + 12) j = if j = p.toNat then -1 else M (b + 12) j) (m13 : ∀ j, M' (b + 13) j = if j = p.toNat then -1 else M (b + 13) j) : TR b M' (lvS S p) := by
  have hl := lvS_R (S := S) p0 p1
  obtain ⟨⟨l0, l1, l2, l3⟩, t2, t3, t4, t5⟩ := ht
  have hs := hv.1.1
  have hs1 := hv.1.2.1
  have hpv := (hv.2.2.2.1 p p0 p1).1
  have e0 : lvS S p 0 = S 0 := hl.1.1 0 (by decide) (by decide)
  have e1 : lvS S p 1 = S 1 := hl.1.1 1 (by decide) (by decide)
  have m0 := m 0 (by decide) (by decide) (by decide) (by decide)
  rw [Nat.add_zero] at m0
  refine ⟨⟨by rw [m0, l0, e0], by rw [m0, l1, e1], by rw [m0, l2]; exact (hl.1.1 2 (by decide) (by decide)).symm, by rw [m0, l3]; exact (hl.1.1 3 (by decide) (by decide)).symm⟩, fun k k0 k1 => ?_, fun s s0 s1 => ?_, fun q q0 q1 => ?_, fun k k0 k1 => ?_⟩
  · rw [e0] at k1
    obtain ⟨g1, g2, g3, g4⟩ := t2 k k0 k1
    rw [m 1 (by decide) (by decide) (by decide) (by decide), m 2 (by decide) (by decide) (by decide) (by decide), m 3 (by decide) (by decide) (by decide) (by decide), hl.1.h k0 (by omega) (by decide) (by decide), hl.1.h k0 (by omega) (by decide) (by decide), hl.1.h k0 (by omega) (by decide) (by decide), m4, lv_inN hl p0 p1 k0]
    refine ⟨g1, g2, g3, ?_⟩
    by_cases c : k = pO S p 0
    · rw [if_pos (by rw [c]), if_pos c.symm, c]
    · rw [if_neg (by omega), if_neg (fun z => c z.symm), g4]; omega
  · rw [e1] at s1
    rw [m 6 (by decide) (by decide) (by decide) (by decide), m 7 (by decide) (by decide) (by decide) (by decide), m 8 (by decide) (by decide) (by decide) (by decide), m 9 (by decide) (by decide) (by decide) (by decide), m 10 (by decide) (by decide) (by decide) (by decide), m 11 (by decide) (by decide) (by decide) (by decide), hl.1.t s0 (by omega) (by decide) (by decide), hl.1.t s0 (by omega) (by decide) (by decide), hl.1.t s0 (by omega) (by decide) (by decide), hl.1.t s0 (by omega) (by decide) (by decide), hl.1.t s0 (by omega) (by decide) (by decide), hl.1.t s0 (by omega) (by decide) (by decide)]
    exact t3 s s0 s1
  · obtain ⟨b0, b1, b2, b3, b4⟩ := hl.2.2 q q0 q1
    obtain ⟨g1, g2, g3⟩ := t4 q q0 q1
    rw [m12, m13, m 14 (by decide) (by decide) (by decide) (by decide), b0, b1, b3, g1, g2, g3]
    refine ⟨?_, ?_, rfl⟩
    · by_cases c : q = p
      · rw [if_pos (by rw [c]), if_pos c]
      · rw [if_neg (by omega), if_neg c]
    · by_cases c : q = p
      · rw [if_pos (by rw [c]), if_pos c]
      · rw [if_neg (by omega), if_neg c]
  · rw [e0] at k1
    have hn := inN_ge S k
    have hnp := inN_ge S (pO S p 0)
    have hr := t5 k k0 k1
    have hin := lv_inN hl p0 p1 k0
    have st : ∀ x : Int, 0 ≤ x → x < 12 → x ≠ p → pO (lvS S p) x 2 = pO S x 2 := fun x x0 x1 xn => by rw [(hl.2.2 x x0 x1).2.2.1, if_neg xn]
    by_cases c : k = pO S p 0
    · subst c
      rw [if_pos rfl] at hin
      have er : ∀ j : Int, 0 ≤ j → j < inN S (pO S p 0) - 1 → rW b M' (pO S p 0) j = if j < i then rW b M (pO S p 0) j else rW b M (pO S p 0) (j + 1) := fun j j0 j1 => by
        unfold rW
        rw [m5]
        by_cases z : j < i
        · rw [if_neg (by omega), if_pos z]
        · rw [if_pos (by omega), if_neg z, show ((pO S p 0 * 12) + j).toNat + 1 = ((pO S p 0 * 12) + (j + 1)).toNat by omega]
      have ne : ∀ j : Int, 0 ≤ j → j < inN S (pO S p 0) → j ≠ i → rW b M (pO S p 0) j ≠ p := fun j j0 j1 jn z => jn (hr.inj j0 j1 i0 i1 (z.trans e.symm))
      refine ⟨fun g => ?_, fun j j' j0 jj j1 => ?_⟩
      · rw [lv_sum hl p0 p1 k0 g, hr.1 g, if_pos rfl, hin]
        have hd := nS_del (fun j => g (rW b M (pO S p 0) (j : Int))) i.toNat (inN S (pO S p 0) - 1).toNat (by omega)
        rw [show (inN S (pO S p 0) - 1).toNat + 1 = (inN S (pO S p 0)).toNat by omega, ← z_nat i0, e] at hd
        rw [← hd]
        refine nS_congr (fun j hj => ?_)
        rw [er j (by omega) (by omega)]
        by_cases z : (j : Int) < i
        · rw [if_pos z, if_pos (by omega)]
        · rw [if_neg z, if_neg (by omega)]; rfl
      · rw [hin] at j1
        rw [er j j0 (by omega), er j' (by omega) (by omega)]
        by_cases z : j' < i
        · rw [if_pos (by omega), if_pos z]
          obtain ⟨x0, x1, -⟩ := hr.mem (i := j) j0 (by omega)
          obtain ⟨y0, y1, -⟩ := hr.mem (i := j') (by omega) (by omega)
          rw [st _ x0 x1 (ne j j0 (by omega) (by omega)), st _ y0 y1 (ne j' (by omega) (by omega) (by omega))]
          exact hr.2 j j' j0 jj (by omega)
        · rw [if_neg z]
          obtain ⟨y0, y1, -⟩ := hr.mem (i := j' + 1) (by omega) (by omega)
          rw [st _ y0 y1 (ne (j' + 1) (by omega) (by omega) (by omega))]
          by_cases z2 : j < i
          · rw [if_pos z2]
            obtain ⟨x0, x1, -⟩ := hr.mem (i := j) j0 (by omega)
            rw [st _ x0 x1 (ne j j0 (by omega) (by omega))]
            exact hr.2 j (j' + 1) j0 (by omega) (by omega)
          · rw [if_neg z2]
            obtain ⟨x0, x1, -⟩ := hr.mem (i := j + 1) (by omega) (by omega)
            rw [st _ x0 x1 (ne (j + 1) (by omega) (by omega) (by omega))]
            exact hr.2 (j + 1) (j' + 1) (by omega) (by omega) (by omega)
    · rw [if_neg (fun z => c z.symm), Int.sub_zero] at hin
      have er : ∀ j : Int, 0 ≤ j → j < inN S k → rW b M' k j = rW b M k j := fun j j0 j1 => by
        unfold rW
        rw [m5, if_neg (by omega)]
      have ne : ∀ j : Int, 0 ≤ j → j < inN S k → rW b M k j ≠ p := fun j j0 j1 z => by
        have := (hr.mem j0 j1).2.2
        rw [z] at this
        exact c this.symm
      refine ⟨fun g => ?_, fun j j' j0 jj j1 => ?_⟩
      · rw [lv_sum hl p0 p1 k0 g, hr.1 g, if_neg (fun z => c z.symm), hin, Int.sub_zero]
        exact nS_congr (fun j hj => by rw [er j (by omega) (by omega)])
      · rw [hin] at j1
        rw [er j j0 (by omega), er j' (by omega) j1]
        obtain ⟨x0, x1, -⟩ := hr.mem (i := j) j0 (by omega)
        obtain ⟨y0, y1, -⟩ := hr.mem (i := j') (by omega) j1
        rw [st _ x0 x1 (ne j j0 (by omega)), st _ y0 y1 (ne j' (by omega) j1)]
        exact hr.2 j j' j0 jj j1
theorem c74 {x1 : Int} (hd : 10 ≤ d) (hv : vTown B S) (ht : TR b M S) (h0 : 0 ≤ x1) (h1 : x1 < 12) (hq : 0 ≤ pO S x1 0) (kk : ∀ M', (∀ a, a < b ∨ b + 14 < a → M' a = M a) → TR b M' (lvS S x1) → PV M' G) : sC d 74 [vO 10 b, vI x1] M G (QV PV) := by
  obtain ⟨d, rfl⟩ := sD 2 (d := d) (by omega)
  have hs := hv.1.1
  have hp := (ht.2.2.2.1 x1 h0 h1).1
  have hpv := (hv.2.2.2.1 x1 h0 h1).1
  have hi := (ht.2.1 _ hq hpv.2).2.2.2
  have hn := inN_ge S (pO S x1 0)
  refine e74 (s74_0 (c75 (by omega) hv ht h0 h1 (fun _ i i0 i1 e => ⟨fun _ => ⟨⟨h0, h1⟩, ?_⟩, fun z => by omega⟩) (fun z => by omega)))
  rw [hp]
  have lp := sUpFrom (W := fun j => sW (sC (d + 1)) 74 (QV PV) 22 [vO 10 b, vI x1, vN, vI (pO S x1 0), vI (j : Int)] [] (sShf M (b + 5) ((pO S x1 0 * 12) + i).toNat ((pO S x1 0 * 12) + (j : Int)).toNat) G 0 0) i.toNat (inN S (pO S x1 0) - 1).toNat (by omega) ?_ ?_
  · rw [← z_nat i0, sShf_0] at lp
    exact lp
  · have e4 : sShf M (b + 5) ((pO S x1 0 * 12) + i).toNat ((pO S x1 0 * 12) + ((inN S (pO S x1 0) - 1).toNat : Int)).toNat (b + 4) (pO S x1 0).toNat = inN S (pO S x1 0) := by rw [sShf_ne (by omega)]; exact hi
    refine (s74_22 ⟨⟨(by first | omega | assumption | (refine ⟨?_, ?_⟩ <;> omega) | (simp_all; done)), (by first | omega | assumption | (refine ⟨?_, ?_⟩ <;> omega) | (simp_all; done))⟩, ⟨by omega, by omega⟩, fun q1 => ⟨⟨(by first | omega | assumption | (refine ⟨?_, ?_⟩ <;> omega) | (simp_all; done)), (by first | omega | assumption | (refine ⟨?_, ?_⟩ <;> omega) | (simp_all; done))⟩, ?_⟩, fun q2 => ⟨⟨by omega, by omega⟩, ⟨by omega, by omega⟩, ⟨by omega, by omega⟩, ⟨(by first | omega | assumption | (refine ⟨?_, ?_⟩ <;> omega) | (simp_all; done)), (by first | omega | assumption | (refine ⟨?_, ?_⟩ <;> omega) | (simp_all; done))⟩, ⟨(by first | omega | assumption | (refine ⟨?_, ?_⟩ <;> omega) | (simp_all; done)), (by first | omega | assumption | (refine ⟨?_, ?_⟩ <;> omega) | (simp_all; done))⟩, ⟨by omega, by omega⟩, ?_⟩⟩)
    · rw [e4]
      refine kk _ (fun a ha => by rw [sUpd_ne (by omega), sUpd_ne (by omega), sUpd_ne (by omega), sShf_ne (by omega)]) (ht.left hv h0 h1 hq i0 i1 e (fun k k4 k5 k12 k13 => by rw [sUpd_ne (by omega), sUpd_ne (by omega), sUpd_ne (by omega), sShf_ne (by omega)]) (fun j => ?_) (fun j => ?_) (fun j => ?_) (fun j => ?_))
      · rw [sUpd_ne (by omega), sUpd_ne (by omega), sUpd_at, sShf_ne (by omega)]
      · rw [sUpd_ne (by omega), sUpd_ne (by omega), sUpd_ne (by omega), sShf_at, ← z_nat (by omega)]
      · rw [sUpd_ne (by omega), sUpd_at, sUpd_ne (by omega), sShf_ne (by omega)]
      · rw [sUpd_at, sUpd_ne (by omega), sUpd_ne (by omega), sShf_ne (by omega)]
    · omega
  · intro j ja jb ih
    have e4 : sShf M (b + 5) ((pO S x1 0 * 12) + i).toNat ((pO S x1 0 * 12) + (j : Int)).toNat (b + 4) (pO S x1 0).toNat = inN S (pO S x1 0) := by rw [sShf_ne (by omega)]; exact hi
    refine (s74_22 ⟨⟨(by first | omega | assumption | (refine ⟨?_, ?_⟩ <;> omega) | (simp_all; done)), (by first | omega | assumption | (refine ⟨?_, ?_⟩ <;> omega) | (simp_all; done))⟩, ⟨by omega, by omega⟩, fun q1 => ⟨⟨(by first | omega | assumption | (refine ⟨?_, ?_⟩ <;> omega) | (simp_all; done)), (by first | omega | assumption | (refine ⟨?_, ?_⟩ <;> omega) | (simp_all; done))⟩, ?_⟩, fun q2 => ⟨⟨by omega, by omega⟩, ⟨by omega, by omega⟩, ⟨by omega, by omega⟩, ⟨(by first | omega | assumption | (refine ⟨?_, ?_⟩ <;> omega) | (simp_all; done)), (by first | omega | assumption | (refine ⟨?_, ?_⟩ <;> omega) | (simp_all; done))⟩, ⟨(by first | omega | assumption | (refine ⟨?_, ?_⟩ <;> omega) | (simp_all; done)), (by first | omega | assumption | (refine ⟨?_, ?_⟩ <;> omega) | (simp_all; done))⟩, ⟨by omega, by omega⟩, ?_⟩⟩)
    · omega
    · rw [show (((pO S x1 0 * 12) + (j : Int)) + 1).toNat = ((pO S x1 0 * 12) + (j : Int)).toNat + 1 by omega, sShf_st (by omega)]
      rw [show ((pO S x1 0 * 12) + ((j + 1 : Nat) : Int)).toNat = ((pO S x1 0 * 12) + (j : Int)).toNat + 1 by omega] at ih
      exact ih
end Town2
