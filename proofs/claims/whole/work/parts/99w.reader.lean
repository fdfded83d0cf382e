/-! WHAT THE CLASS'S READER DOES: next, isAt, fail, skip, take, number. -/
section
variable {d n p : Nat} {T : Nat → Int} {P : Int → sM → sG → Prop} {PV : sM → sG → Prop} {M : sM} {G : sG} {f : Int}
theorem cTp.l (h : cTp M T n) : cS M p f 3 1 = (n : Int) := (cS_o (by decide)).trans h.1
theorem cTp.b (h : cTp M T n) {i : Nat} (hi : i < n) : cS M p f 4 i = T i := (cS_o (Or.inl (by decide))).trans (h.2 i hi)
theorem c22 (hd : 2 ≤ d) (ho : tOk T n) (hT : cTp M T n) (hp : p ≤ n) (kk : P (chr T n (blk T n p)) (cS M (blk T n p) f) G) : sC d 22 [vO 4 3] (cS M p f) G (QI P) := by
  obtain ⟨d, rfl⟩ := sD 1 (d := d) (by omega)
  have h400 := ho.1
  refine e22 ?_
  have key : ∀ k p, n - p = k → p ≤ n → P (chr T n (blk T n p)) (cS M (blk T n p) f) G → sW (sC d) 22 (QI P) 0 [vO 4 3] [] (cS M p f) G 0 0 := by
    intro k
    induction k with
    | zero =>
      intro p hk hp kk
      have hl := hT.l (p := p) (f := f)
      have hpp : cS M p f 3 2 = p := cS_p
      refine (s22_0 ⟨fun q1 => ?_, fun q2 => ⟨⟨(by first | omega | assumption | (refine ⟨?_, ?_⟩ <;> omega) | (simp_all; done)), (by first | omega | assumption | (refine ⟨?_, ?_⟩ <;> omega) | (simp_all; done))⟩, fun q3 => ?_, fun q4 => ⟨⟨by omega, by omega⟩, ?_⟩⟩⟩)
      · rw [show blk T n p = p from run_stop (fun z => by omega)] at kk
        unfold chr at kk
        rw [if_neg (by omega)] at kk
        exact kk
      all_goals omega
    | succ k ih =>
      intro p hk hp kk
      have hl := hT.l (p := p) (f := f)
      have hpp : cS M p f 3 2 = p := cS_p
      have hb : cS M p f 4 (cS M p f 3 2).toNat = T p := by rw [hpp]; exact hT.b (by omega)
      refine (s22_0 ⟨fun q1 => ?_, fun q2 => ⟨⟨(by first | omega | assumption | (refine ⟨?_, ?_⟩ <;> omega) | (simp_all; done)), (by first | omega | assumption | (refine ⟨?_, ?_⟩ <;> omega) | (simp_all; done))⟩, fun q3 => ?_, fun q4 => ⟨⟨by omega, by omega⟩, ?_⟩⟩⟩)
      · omega
      · rw [show blk T n p = p from run_stop (fun z => q3 (hb.trans (bBl_i.1 z.2)))] at kk
        unfold chr at kk
        rw [if_pos (by omega)] at kk
        rw [hb]; exact kk
      · rw [hpp, show ((p : Int) + 1) = ((p + 1 : Nat) : Int) from rfl, cS_up]
        refine ih (p + 1) (by omega) (by omega) ?_
        rw [show blk T n p = blk T n (p + 1) from run_go (by omega) (bBl_i.2 (hb.symm.trans q4))] at kk
        exact kk
      all_goals omega
  exact key _ p rfl hp kk
theorem c30 {x : Int} (hd : 2 ≤ d) (k1 : 48 ≤ x ∧ x ≤ 57 → P 1 M G) (k0 : ¬ (48 ≤ x ∧ x ≤ 57) → P 0 M G) : sC d 30 [vI x] M G (QI P) := by
  obtain ⟨d, rfl⟩ := sD 1 (d := d) (by omega)
  refine e30 (s30_0 ⟨fun q1 => ?_, fun q2 => ⟨fun q3 => ?_, fun q4 => ?_⟩⟩)
  · exact k0 (by omega)
  · exact k0 (by omega)
  · exact k1 (by omega)
theorem c25 {x k : Int} (hd : 2 ≤ d) (hx : 0 ≤ x ∧ x ≤ 400 ∧ 0 ≤ k ∧ k ≤ 7) (kk : PV (cS M p (if f = 0 then 1 + 8 * x + k else f)) G) : sC d 25 [vO 4 3, vI x, vI k] (cS M p f) G (QV PV) := by
  obtain ⟨d, rfl⟩ := sD 1 (d := d) (by omega)
  have hf : cS M p f 3 3 = f := cS_f
  refine e25 (s25_0 ⟨fun q1 => ?_, fun q2 => ⟨⟨by omega, by omega⟩, ⟨by omega, by omega⟩, ⟨by omega, by omega⟩, ?_⟩⟩)
  · rw [if_neg (by omega)] at kk; exact kk
  · rw [cS_uf]; rw [if_pos (by omega)] at kk; exact kk
  all_goals omega
theorem c24 {k : Int} (hd : 3 ≤ d) (hp : p ≤ 400 ∧ 0 ≤ k ∧ k ≤ 7) (kk : PV (cS M p (if f = 0 then 1 + 8 * (p : Int) + k else f)) G) : sC d 24 [vO 4 3, vI k] (cS M p f) G (QV PV) := by
  obtain ⟨d, rfl⟩ := sD 1 (d := d) (by omega)
  refine e24 (s24_0 ?_)
  rw [show cS M p f 3 2 = (p : Int) from cS_p]
  exact c25 (by omega) (by omega) kk
theorem c23 {j : Nat} {w : List Nat} (hd : 2 ≤ d) (hj : j < 21) (hw : sByt.getD j [] = w) (hw1 : w.length ≤ 20) (ho : tOk T n) (hT : cTp M T n) (hp : p ≤ n) (k1 : atW T n p w → P 1 (cS M p f) G) (k0 : ¬ atW T n p w → P 0 (cS M p f) G) : sC d 23 [vO 4 3, vS j] (cS M p f) G (QI P) := by
  obtain ⟨d, rfl⟩ := sD 1 (d := d) (by omega)
  have h400 := ho.1
  have hl := hT.l (p := p) (f := f)
  have hpp : cS M p f 3 2 = p := cS_p
  have hn : sLen j = w.length := by unfold sLen; rw [hw]
  have hc : ∀ i, sChr j i = ((w.getD i 0 : Nat) : Int) := fun i => by unfold sChr; rw [hw]
  have key : ∀ r i, i + r = w.length → p + w.length ≤ n → (∀ i', i' < i → T (p + i') = ((w.getD i' 0 : Nat) : Int)) → sW (sC d) 23 (QI P) 22 [vO 4 3, vS j, vI ((p : Int) + (w.length : Int)), vI (i : Int)] [] (cS M p f) G 0 0 := by
    intro r
    induction r with
    | zero =>
      intro i hi hpn hs
      have hi' : i = w.length := by omega
      subst hi'
      by_cases c : p + w.length < n
      · have hb : cS M p f 4 ((p : Int) + (w.length : Int)).toNat = T (p + w.length) := by
          rw [show ((p : Int) + (w.length : Int)).toNat = p + w.length by omega]; exact hT.b c
        refine (s23_22 ⟨(by first | omega | assumption | (refine ⟨?_, ?_⟩ <;> omega) | (simp_all; done)), fun q1 => ⟨fun q2 => ?_, fun q3 => ⟨⟨(by first | omega | assumption | (refine ⟨?_, ?_⟩ <;> omega) | (simp_all; done)), (by first | omega | assumption | (refine ⟨?_, ?_⟩ <;> omega) | (simp_all; done))⟩, fun q4 => ?_, fun q5 => ⟨fun q6 => ?_, fun q7 => ?_⟩⟩⟩, fun q8 => ⟨⟨by omega, by omega⟩, ⟨(by first | omega | assumption | (refine ⟨?_, ?_⟩ <;> omega) | (simp_all; done)), (by first | omega | assumption | (refine ⟨?_, ?_⟩ <;> omega) | (simp_all; done))⟩, ⟨(by first | omega | assumption | (refine ⟨?_, ?_⟩ <;> omega) | (simp_all; done)), (by first | omega | assumption | (refine ⟨?_, ?_⟩ <;> omega) | (simp_all; done))⟩, fun q9 => ⟨⟨by omega, by omega⟩, ?_⟩, fun q10 => ?_⟩⟩)
        · omega
        · exact k1 ⟨hpn, hs, Or.inr (Or.inl (by omega))⟩
        · exact k0 (fun z => by have := z.2.2; omega)
        · exact k1 ⟨hpn, hs, Or.inr (Or.inr (by omega))⟩
        all_goals omega
      · refine (s23_22 ⟨(by first | omega | assumption | (refine ⟨?_, ?_⟩ <;> omega) | (simp_all; done)), fun q1 => ⟨fun q2 => ?_, fun q3 => ⟨⟨(by first | omega | assumption | (refine ⟨?_, ?_⟩ <;> omega) | (simp_all; done)), (by first | omega | assumption | (refine ⟨?_, ?_⟩ <;> omega) | (simp_all; done))⟩, fun q4 => ?_, fun q5 => ⟨fun q6 => ?_, fun q7 => ?_⟩⟩⟩, fun q8 => ⟨⟨by omega, by omega⟩, ⟨(by first | omega | assumption | (refine ⟨?_, ?_⟩ <;> omega) | (simp_all; done)), (by first | omega | assumption | (refine ⟨?_, ?_⟩ <;> omega) | (simp_all; done))⟩, ⟨(by first | omega | assumption | (refine ⟨?_, ?_⟩ <;> omega) | (simp_all; done)), (by first | omega | assumption | (refine ⟨?_, ?_⟩ <;> omega) | (simp_all; done))⟩, fun q9 => ⟨⟨by omega, by omega⟩, ?_⟩, fun q10 => ?_⟩⟩)
        · exact k1 ⟨hpn, hs, Or.inl (by omega)⟩
        all_goals omega
    | succ r ih =>
      intro i hi hpn hs
      have hb : cS M p f 4 (cS M p f 3 2 + (i : Int)).toNat = T (p + i) := by
        rw [hpp, show ((p : Int) + (i : Int)).toNat = p + i by omega]; exact hT.b (by omega)
      have hc' : sChr j ((i : Int)).toNat = ((w.getD i 0 : Nat) : Int) := hc i
      refine (s23_22 ⟨(by first | omega | assumption | (refine ⟨?_, ?_⟩ <;> omega) | (simp_all; done)), fun q1 => ⟨fun q2 => ?_, fun q3 => ⟨⟨(by first | omega | assumption | (refine ⟨?_, ?_⟩ <;> omega) | (simp_all; done)), (by first | omega | assumption | (refine ⟨?_, ?_⟩ <;> omega) | (simp_all; done))⟩, fun q4 => ?_, fun q5 => ⟨fun q6 => ?_, fun q7 => ?_⟩⟩⟩, fun q8 => ⟨⟨by omega, by omega⟩, ⟨(by first | omega | assumption | (refine ⟨?_, ?_⟩ <;> omega) | (simp_all; done)), (by first | omega | assumption | (refine ⟨?_, ?_⟩ <;> omega) | (simp_all; done))⟩, ⟨(by first | omega | assumption | (refine ⟨?_, ?_⟩ <;> omega) | (simp_all; done)), (by first | omega | assumption | (refine ⟨?_, ?_⟩ <;> omega) | (simp_all; done))⟩, fun q9 => ⟨⟨by omega, by omega⟩, ?_⟩, fun q10 => ?_⟩⟩)
      · omega
      · omega
      · omega
      · omega
      · refine ih (i + 1) (by omega) hpn (fun i' h' => ?_)
        by_cases c : i' = i
        · rw [c, ← hb, ← hc']; exact q9
        · exact hs i' (by omega)
      · exact k0 (fun z => q10 (by rw [hb, hc']; exact z.2.1 i (by omega)))
  refine e23 (s23_0 ⟨(by first | omega | assumption | (refine ⟨?_, ?_⟩ <;> omega) | (simp_all; done)), ⟨by omega, by omega⟩, fun q1 => ?_, fun q2 => ?_⟩)
  · rw [hpp, hn]
    exact key w.length 0 (by omega) (by omega) (fun i' h' => absurd h' (Nat.not_lt_zero i'))
  · exact k0 (fun z => by have := z.1; omega)
theorem c26 {k : Nat} (hd : 2 ≤ d) (hp : p + k ≤ 1000) (kk : PV (cS M (p + k) f) G) : sC d 26 [vO 4 3, vI (k : Int)] (cS M p f) G (QV PV) := by
  obtain ⟨d, rfl⟩ := sD 1 (d := d) (by omega)
  have hpp : cS M p f 3 2 = p := cS_p
  refine e26 (s26_0 ⟨⟨by omega, by omega⟩, ?_⟩)
  rw [hpp, show ((p : Int) + (k : Int)) = ((p + k : Nat) : Int) from rfl, cS_up]
  exact kk
theorem c28 {j : Nat} {w : List Nat} (hd : 4 ≤ d) (hj : j < 21) (hw : sByt.getD j [] = w) (hw1 : w.length ≤ 20) (ho : tOk T n) (hT : cTp M T n) (hp : p ≤ n) (kb : f ≠ 0 → P 0 (cS M (blk T n p) f) G) (k1 : f = 0 → atW T n (blk T n p) w → P 1 (cS M (blk T n p + w.length) f) G) (k0 : f = 0 → ¬ atW T n (blk T n p) w → P 0 (cS M (blk T n p) f) G) : sC d 28 [vO 4 3, vS j] (cS M p f) G (QI P) := by
  obtain ⟨d, rfl⟩ := sD 2 (d := d) (by omega)
  have h400 := ho.1
  have hb : blk T n p ≤ n := run_le hp
  have hn : sLen j = w.length := by unfold sLen; rw [hw]
  have hf : cS M (blk T n p) f 3 3 = f := cS_f
  have hpp : cS M (blk T n p) f 3 2 = (blk T n p : Nat) := cS_p
  refine e28 (s28_0 (c22 (by omega) ho hT hp ?_))
  refine ⟨fun q1 => ?_, fun q2 => ?_⟩
  · exact kb (by omega)
  · refine c23 (by omega) hj hw hw1 ho hT hb (fun z => ?_) (fun z => ?_)
    · refine ⟨fun q3 => ⟨(by first | omega | assumption | (refine ⟨?_, ?_⟩ <;> omega) | (simp_all; done)), ⟨by omega, by omega⟩, ?_⟩, fun q4 => ?_⟩
      · rw [hpp, hn, show ((blk T n p : Nat) : Int) + (w.length : Int) = ((blk T n p + w.length : Nat) : Int) from rfl, cS_up]
        exact k1 (by omega) z
      · omega
    · refine ⟨fun q3 => ⟨(by first | omega | assumption | (refine ⟨?_, ?_⟩ <;> omega) | (simp_all; done)), ⟨by omega, by omega⟩, ?_⟩, fun q4 => ?_⟩
      · omega
      · exact k0 (by omega) z
end
/-- a number from lo to hi at p: the place behind it, the fault, the number -/
def numF (T : Nat → Int) (n p : Nat) (lo hi : Int) : Nat × Int × Int :=
  if dig T n (blk T n p) = blk T n p then (blk T n p, 1 + 8 * (blk T n p : Int), 0)
  else if 5 < dig T n (blk T n p) - blk T n p ∨ nmb T (blk T n p) (dig T n (blk T n p) - blk T n p) < lo ∨ hi < nmb T (blk T n p) (dig T n (blk T n p) - blk T n p) then (blk T n p, 1 + 8 * (blk T n p : Int) + 1, 0)
  else (dig T n (blk T n p), 0, nmb T (blk T n p) (dig T n (blk T n p) - blk T n p))
theorem nmb_b {T : Nat → Int} {q k : Nat} (h : ∀ i, i < k → 48 ≤ T (q + i) ∧ T (q + i) ≤ 57) (hk : k ≤ 5) : 0 ≤ nmb T q k ∧ nmb T q k ≤ 99999 ∧ (k ≤ 4 → nmb T q k ≤ 9999) := by
  match k, hk, h with
  | 0, _, h => simp only [nmb]; omega
  | 1, _, h => have h0 := h 0 (by decide); simp only [nmb]; omega
  | 2, _, h => have h0 := h 0 (by decide); have h1 := h 1 (by decide); simp only [nmb]; omega
  | 3, _, h => have h0 := h 0 (by decide); have h1 := h 1 (by decide); have h2 := h 2 (by decide); simp only [nmb]; omega
  | 4, _, h => have h0 := h 0 (by decide); have h1 := h 1 (by decide); have h2 := h 2 (by decide); have h3 := h 3 (by decide); simp only [nmb]; omega
  | 5, _, h => have h0 := h 0 (by decide); have h1 := h 1 (by decide); have h2 := h 2 (by decide); have h3 := h 3 (by decide); have h4 := h 4 (by decide); simp only [nmb]; omega
section
variable {d n p : Nat} {T : Nat → Int} {P : Int → sM → sG → Prop} {M : sM} {G : sG} {f lo hi : Int}
theorem c29 (hd : 6 ≤ d) (ho : tOk T n) (hT : cTp M T n) (hp : p ≤ n) (hl : 0 ≤ lo) (hh : hi ≤ 99999) (kb : f ≠ 0 → P 0 (cS M p f) G) (kk : f = 0 → P (numF T n p lo hi).2.2 (cS M (numF T n p lo hi).1 (numF T n p lo hi).2.1) G) : sC d 29 [vO 4 3, vI lo, vI hi] (cS M p f) G (QI P) := by
  obtain ⟨d, rfl⟩ := sD 2 (d := d) (by omega)
  have h400 := ho.1
  have hf : cS M p f 3 3 = f := cS_f
  refine e29 (s29_0 ⟨fun q1 => ?_, fun q2 => ?_⟩)
  · exact kb (by omega)
  · have f0 : f = 0 := by omega
    subst f0
    have kk := kk rfl
    unfold numF at kk
    obtain ⟨q, hq⟩ : ∃ q, q = blk T n p := ⟨_, rfl⟩
    obtain ⟨e, he⟩ : ∃ e, e = dig T n q := ⟨_, rfl⟩
    have hqn : q ≤ n := by rw [hq]; exact run_le hp
    have hqe : q ≤ e := by rw [he]; exact run_ge hqn
    have hen : e ≤ n := by rw [he]; exact run_le hqn
    have hdg : ∀ i, q ≤ i → i < e → 48 ≤ T i ∧ T i ≤ 57 := fun i h1 h2 => bDg_i.1 (run_in hqn h1 (by rw [he] at h2; exact h2))
    have hst : ¬ (e < n ∧ 48 ≤ T e ∧ T e ≤ 57) := fun z => run_end (pr := bDg) (T := T) hqn ⟨by show dig T n q < n; rw [← he]; exact z.1, bDg_i.2 (by show 48 ≤ T (dig T n q) ∧ T (dig T n q) ≤ 57; rw [← he]; exact z.2)⟩
    rw [← hq, ← he] at kk
    refine c22 (by omega) ho hT hp ?_
    rw [← hq]
    have bad : ∀ k : Int, 0 ≤ k → k ≤ 7 → P 0 (cS M q (1 + 8 * (q : Int) + k)) G → sC (d + 1) 24 [vO 4 3, vI k] (cS M q 0) G (QV (fun M3 G3 => P 0 M3 G3)) := fun k k0 k7 z => by
      refine c24 (by omega) ⟨by omega, k0, k7⟩ ?_
      rw [if_pos rfl]
      exact z
    have hc : chr T n q = if q < n then T q else -1 := rfl
    have ok : ∀ x4 x3 : Int, q < e → x4 = (e : Int) → x3 = nmb T q (min (e - q) 5) → x4 - (q : Int) ≤ 5 → lo ≤ x3 → x3 ≤ hi → P x3 (sUpd (cS M q 0) 3 2 x4) G := fun x4 x3 z0 z1 z2 z3 z4 z5 => by
      rw [Nat.min_eq_left (by omega)] at z2
      rw [if_neg (by omega), if_neg (by omega)] at kk
      rw [z1, z2, cS_up]
      exact kk
    have bad1 : ∀ x4 x3 : Int, q < e → x4 = (e : Int) → x3 = nmb T q (min (e - q) 5) → (5 < x4 - (q : Int) ∨ (x4 - (q : Int) ≤ 5 ∧ (x3 < lo ∨ hi < x3))) → sC (d + 1) 24 [vO 4 3, vI 1] (cS M q 0) G (QV (fun M3 G3 => P 0 M3 G3)) := fun x4 x3 z0 z1 z2 z3 => by
      refine bad 1 (by decide) (by decide) ?_
      have z4 : 5 < e - q ∨ nmb T q (e - q) < lo ∨ hi < nmb T q (e - q) := by
        rcases z3 with z3 | z3
        · exact Or.inl (by omega)
        · rw [Nat.min_eq_left (by omega)] at z2
          rw [← z2]; exact Or.inr z3.2
      rw [if_neg (by omega), if_pos z4] at kk
      exact kk
    have hpp : cS M q 0 3 2 = q := cS_p
    have hlen : cS M q 0 3 1 = n := hT.l
    have key : ∀ r i, i + r = e - q → q < e → sW (sC (d + 1)) 29 (QI P) 34 [vO 4 3, vI lo, vI hi, vI (nmb T q (min i 5)), vI ((q + i : Nat) : Int)] [] (cS M q 0) G 0 0 := by
      intro r
      induction r with
      | zero =>
        intro i hi hqe'
        have hx : ((q + i : Nat) : Int) = (e : Int) := by omega
        have hv : nmb T q (min i 5) = nmb T q (min (e - q) 5) := by rw [show i = e - q by omega]
        by_cases c : e < n
        · have hb : cS M q 0 4 (((q + i : Nat) : Int)).toNat = T e := by rw [show (((q + i : Nat) : Int)).toNat = e by omega]; exact hT.b c
          refine (s29_34 ⟨fun q1 => ⟨⟨by omega, by omega⟩, fun q2 => ?_, fun q3 => ⟨fun q4 => ?_, fun q5 => ⟨fun q6 => ?_, fun q7 => ?_⟩⟩⟩, fun q8 => ⟨⟨(by first | omega | assumption | (refine ⟨?_, ?_⟩ <;> omega) | (simp_all; done)), (by first | omega | assumption | (refine ⟨?_, ?_⟩ <;> omega) | (simp_all; done))⟩, ?_⟩⟩)
          · omega
          · omega
          · omega
          · omega
          · rw [hb]
            refine c30 (by omega) (fun z => absurd ⟨c, z⟩ hst) (fun _ => ?_)
            refine ⟨fun q9 => ⟨⟨by omega, by omega⟩, fun q10 => ?_, fun q11 => ⟨fun q12 => ?_, fun q13 => ⟨fun q14 => ?_, fun q15 => ?_⟩⟩⟩, fun q16 => ⟨⟨by omega, by omega⟩, fun q17 => ⟨⟨by omega, by omega⟩, ?_⟩, fun q18 => ⟨⟨by omega, by omega⟩, ⟨by omega, by omega⟩, ⟨by omega, by omega⟩, ⟨by omega, by omega⟩, ?_⟩⟩⟩
            · exact bad1 _ _ hqe' hx hv (by omega)
            · exact bad1 _ _ hqe' hx hv (by omega)
            · exact ok _ _ hqe' hx hv (by omega) (by omega) (by omega)
            · exact bad1 _ _ hqe' hx hv (by omega)
            · omega
            · omega
        · refine (s29_34 ⟨fun q1 => ⟨⟨by omega, by omega⟩, fun q2 => ?_, fun q3 => ⟨fun q4 => ?_, fun q5 => ⟨fun q6 => ?_, fun q7 => ?_⟩⟩⟩, fun q8 => ⟨⟨(by first | omega | assumption | (refine ⟨?_, ?_⟩ <;> omega) | (simp_all; done)), (by first | omega | assumption | (refine ⟨?_, ?_⟩ <;> omega) | (simp_all; done))⟩, ?_⟩⟩)
          · exact bad1 _ _ hqe' hx hv (by omega)
          · exact bad1 _ _ hqe' hx hv (by omega)
          · exact ok _ _ hqe' hx hv (by omega) (by omega) (by omega)
          · exact bad1 _ _ hqe' hx hv (by omega)
          · omega
      | succ r ih =>
        intro i hi hqe'
        have hdi := hdg (q + i) (by omega) (by omega)
        have hb : cS M q 0 4 (((q + i : Nat) : Int)).toNat = T (q + i) := by rw [show (((q + i : Nat) : Int)).toNat = q + i by omega]; exact hT.b (by omega)
        have hnm := nmb_b (T := T) (q := q) (k := min i 5) (fun i' h' => hdg _ (by omega) (by omega)) (by omega)
        refine (s29_34 ⟨fun q1 => ⟨⟨by omega, by omega⟩, fun q2 => ?_, fun q3 => ⟨fun q4 => ?_, fun q5 => ⟨fun q6 => ?_, fun q7 => ?_⟩⟩⟩, fun q8 => ⟨⟨(by first | omega | assumption | (refine ⟨?_, ?_⟩ <;> omega) | (simp_all; done)), (by first | omega | assumption | (refine ⟨?_, ?_⟩ <;> omega) | (simp_all; done))⟩, ?_⟩⟩)
        · omega
        · omega
        · omega
        · omega
        · rw [hb]
          refine c30 (by omega) (fun _ => ?_) (fun z => absurd hdi z)
          have n4 : i < 5 → nmb T q (min i 5) ≤ 9999 := fun z => hnm.2.2 (by omega)
          refine ⟨fun q9 => ⟨⟨by omega, by omega⟩, fun q10 => ?_, fun q11 => ⟨fun q12 => ?_, fun q13 => ⟨fun q14 => ?_, fun q15 => ?_⟩⟩⟩, fun q16 => ⟨⟨by omega, by omega⟩, fun q17 => ⟨⟨by omega, by omega⟩, ?_⟩, fun q18 => ⟨⟨by omega, by omega⟩, ⟨by omega, by omega⟩, ⟨by omega, by omega⟩, ⟨by omega, by omega⟩, ?_⟩⟩⟩
          · omega
          · omega
          · omega
          · omega
          · have := ih (i + 1) (by omega) hqe'
            rw [show min (i + 1) 5 = min i 5 by omega] at this
            exact this
          · have := ih (i + 1) (by omega) hqe'
            rw [show min (i + 1) 5 = min i 5 + 1 by omega] at this
            have e1 : nmb T q (min i 5 + 1) = 10 * nmb T q (min i 5) + T (q + i) - 48 := by
              show 10 * nmb T q (min i 5) + T (q + min i 5) - 48 = _
              rw [show min i 5 = i by omega]
            rw [e1] at this
            rw [hb]
            exact this
    refine c30 (by omega) (fun z => ?_) (fun z => ?_)
    · have hqn' : q < n := by
        by_cases c : q < n
        · exact c
        · rw [if_neg c] at hc; omega
      rw [if_pos hqn'] at hc
      have hlt : q < e := by
        have : dig T n q = dig T n (q + 1) := run_go hqn' (bDg_i.2 (by omega))
        rw [he, this]
        exact run_ge (by omega)
      refine ⟨fun q3 => ?_, fun q4 => ?_⟩
      · rw [hpp]; exact key (e - q) 0 (by omega) hlt
      · omega
    · refine ⟨fun q3 => ?_, fun q4 => ?_⟩
      · omega
      · refine bad 0 (by decide) (by decide) ?_
        have : e = q := by
          rw [he]
          exact run_stop (fun y => z (by rw [hc, if_pos y.1]; exact bDg_i.1 y.2))
        rw [if_pos this] at kk
        rw [show (1 + 8 * (q : Int) + 0) = 1 + 8 * (q : Int) by omega]
        exact kk
end
