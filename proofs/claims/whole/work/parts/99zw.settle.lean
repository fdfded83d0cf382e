/-! THE RULE PARSER, class: its small methods, and settling. -/
section
variable {d n p m : Nat} {T : Nat → Int} {P : Int → sM → sG → Prop} {PV : sM → sG → Prop} {M : sM} {G : sG} {s : stS} {D : den} {cl : List (Int × den)}
theorem c44 {len : Nat} {x1 x2 : Int} (hd : 2 ≤ d) (hl : M 2 8 = (len : Int)) (h400 : len < 400) (kk : P (len : Int) (sUpd (sUpd (sUpd M 5 len x1) 6 len x2) 2 8 ((len + 1 : Nat) : Int)) G) : sC d 44 [vO 7 2, vI x1, vI x2] M G (QI P) := by
  obtain ⟨d, rfl⟩ := sD 1 (d := d) (by omega)
  refine e44 (s44_0 ⟨fun q1 => ⟨⟨(by first | omega | assumption | (refine ⟨?_, ?_⟩ <;> omega) | (simp_all; done)), (by first | omega | assumption | (refine ⟨?_, ?_⟩ <;> omega) | (simp_all; done))⟩, ⟨by omega, by omega⟩, ⟨by omega, by omega⟩, ?_⟩, fun q2 => ?_⟩)
  · rw [hl, show ((len : Int)).toNat = len from rfl, show ((len : Int) + 1) - 1 = (len : Int) by omega]
    exact kk
  all_goals omega
theorem c44f {len : Nat} {x1 x2 : Int} (hd : 2 ≤ d) (hl : M 2 8 = (len : Int)) (h400 : 400 ≤ len) (kk : P (-1) M G) : sC d 44 [vO 7 2, vI x1, vI x2] M G (QI P) := by
  obtain ⟨d, rfl⟩ := sD 1 (d := d) (by omega)
  refine e44 (s44_0 ⟨fun q1 => ⟨⟨(by first | omega | assumption | (refine ⟨?_, ?_⟩ <;> omega) | (simp_all; done)), (by first | omega | assumption | (refine ⟨?_, ?_⟩ <;> omega) | (simp_all; done))⟩, ⟨by omega, by omega⟩, ⟨by omega, by omega⟩, ?_⟩, fun q2 => ?_⟩)
  · omega
  · exact kk
  all_goals omega
theorem c40 {w : Nat} {x1 x2 x3 : Int} (hd : 2 ≤ d) (hw : M 2 10 = (w : Int)) (h48 : w < 48) (kk : PV (sUpd (sUpd (sUpd (sUpd M 9 w x1) 11 w x2) 10 w x3) 2 10 ((w + 1 : Nat) : Int)) G) : sC d 40 [vO 7 2, vI x1, vI x2, vI x3] M G (QV PV) := by
  obtain ⟨d, rfl⟩ := sD 1 (d := d) (by omega)
  refine e40 (s40_0 ⟨fun q1 => ?_, fun q2 => ⟨⟨(by first | omega | assumption | (refine ⟨?_, ?_⟩ <;> omega) | (simp_all; done)), (by first | omega | assumption | (refine ⟨?_, ?_⟩ <;> omega) | (simp_all; done))⟩, ⟨by omega, by omega⟩, ?_⟩⟩)
  · omega
  · rw [hw, show ((w : Int)).toNat = w from rfl]
    exact kk
  all_goals omega
theorem c43 {q k : Nat} {f : Int} (hd : 4 ≤ d) (hm : M 2 11 = (m : Int)) (hm6 : m ≤ 60) (hq : q ≤ 400) (kk : PV (cS (sUpd M 2 11 ((m + 1 : Nat) : Int)) p (if f = 0 ∧ 60 ≤ m then 1 + 8 * (q : Int) + 3 else f)) G) : sC d 43 [vO 7 2, vI (q : Int)] (cS M p f) G (QV PV) := by
  obtain ⟨d, rfl⟩ := sD 1 (d := d) (by omega)
  have e : ∀ g, cS M p g 2 11 = (m : Int) := fun g => by rw [cS_a (by decide)]; exact hm
  have e0 := e f
  refine e43 (s43_0 ⟨fun q1 => ⟨⟨by omega, by omega⟩, ?_⟩, fun q2 => ?_⟩)
  · rw [e0, cS_u (by decide)]
    rw [if_neg (by omega)] at kk
    exact kk
  · refine c25 (by omega) ⟨by omega, by omega, by omega, by omega⟩ ?_
    rw [e]
    refine ⟨⟨by omega, by omega⟩, ?_⟩
    rw [cS_u (by decide)]
    by_cases c : f = 0
    · rw [if_pos ⟨c, by omega⟩] at kk
      rw [if_pos c]
      exact kk
    · rw [if_neg (fun z => c z.1)] at kk
      rw [if_neg c]
      exact kk
  all_goals omega
/-- what settling may change -/
def offS (M M' : sM) : Prop := (∀ a, a ≠ 2 → a ≠ 5 → a ≠ 6 → M' a = M a) ∧ ∀ i, i ≠ 8 → i ≠ 10 → i ≠ 12 → M' 2 i = M 2 i
theorem offS.refl (M : sM) : offS M M := ⟨fun _ _ _ _ => rfl, fun _ _ _ _ => rfl⟩
theorem offS.trans {M M' M'' : sM} (h : offS M M') (h' : offS M' M'') : offS M M'' := ⟨fun a h1 h2 h3 => (h'.1 a h1 h2 h3).trans (h.1 a h1 h2 h3), fun i h1 h2 h3 => (h'.2 i h1 h2 h3).trans (h.2 i h1 h2 h3)⟩
theorem offS.u {M : sM} {a i : Nat} {x : Int} (h : a = 5 ∨ a = 6 ∨ (a = 2 ∧ (i = 8 ∨ i = 10 ∨ i = 12))) : offS M (sUpd M a i x) := ⟨fun b h1 h2 h3 => sUpd_ne (by omega), fun j h1 h2 h3 => by
  by_cases c : a = 2
  · rw [c, sUpd_ni (by omega)]
  · rw [sUpd_ne (by omega)]⟩
theorem c46 {b : Nat} (hd : 5 ≤ d) (b1 : 1 ≤ b) (hp : p ≤ 400) : ∀ (s : stS) (D : den) (M : sM), wfs s → s.length ≤ 48 → cCr2 M s D cl m p → (∀ M', offS M M' → cCr2 M' (stl b s D).1 (stl b s D).2 cl m p → PV M' G) → sC d 46 [vO 7 2, vI (b : Int)] M G (QV PV) := by
  obtain ⟨d, rfl⟩ := sD 1 (d := d) (by omega)
  have key : ∀ (s : stS) (D : den) (M : sM), wfs s → s.length ≤ 48 → cCr2 M s D cl m p → (∀ M', offS M M' → cCr2 M' (stl b s D).1 (stl b s D).2 cl m p → PV M' G) → sW (sC d) 46 (QV PV) 0 [vO 7 2, vI (b : Int), vN] [] M G 0 0 := by
    intro s
    induction s with
    | nil =>
      intro D M hw h48 hC kk
      obtain ⟨len, a, a0, h, H, h1, h2, hrest⟩ := hC
      have h2' : M 2 10 = 0 := h2
      have hk := kk M (offS.refl M) ⟨len, a, a0, h, H, h1, h2, hrest⟩
      exact s46_0 ⟨fun _ => hk, fun q => by omega⟩
    | cons x s ih =>
      intro D M hw h48 hC kk
      have hC' := hC
      obtain ⟨len, a, a0, h, H, h1, h2, h3, h4, h5, h6, h7, h8, h9⟩ := hC'
      have hl : (x :: s).length = s.length + 1 := rfl
      rw [hl] at h2 h4 h48
      have hdp : dpt (x :: s) = (if x.1 = 11 ∨ x.1 = 14 then 1 else 0) + dpt s := rfl
      have e10 : (M 2 10 - 1).toNat = s.length := by omega
      have hb : M 11 (M 2 10 - 1).toNat = (bnd x.1 : Int) := by rw [e10]; exact h6.2.1
      have ho : M 9 (M 2 10 - 1).toNat = (x.1 : Int) := by rw [e10]; exact h6.1
      have go : b ≤ bnd x.1 → ∀ N : sM, offS M N → N 2 10 = (s.length : Int) → N 2 12 = (dpt s : Int) → (x.1 = 12 ∨ x.1 = 13 → N 2 8 = (len : Int) ∧ N 5 = M 5 ∧ ∀ i : Nat, N 6 i = if (i : Int) = M 10 s.length then (len : Int) else M 6 i) → (¬ (x.1 = 12 ∨ x.1 = 13) → N 2 8 = ((len + 1 : Nat) : Int) ∧ (∀ i : Nat, N 5 i = if i = len then (x.1 : Int) else M 5 i) ∧ ∀ i : Nat, N 6 i = if i = len then 0 else M 6 i) → sW (sC d) 46 (QV PV) 0 [vO 7 2, vI (b : Int), vN] [] N G 0 0 := by
        intro cb N oN n10 n12 nj nn
        have x14 : x.1 ≠ 14 := fun z => by rw [z] at cb; have : bnd 14 = 0 := rfl; omega
        have e : stl b (x :: s) D = stl b s (apD x.1 x.2 D) := if_pos cb
        rw [e] at kk
        exact ih _ N hw.1 (by omega) (cPop hC x14 hp h1 (oN.1 7 (by decide) (by decide) (by decide)) (oN.1 8 (by decide) (by decide) (by decide)) (oN.1 9 (by decide) (by decide) (by decide)) (oN.1 10 (by decide) (by decide) (by decide)) (oN.1 11 (by decide) (by decide) (by decide)) n10 n12 nj nn) (fun M' o' c' => kk M' (oN.trans o') c')
      have low : ¬ b ≤ bnd x.1 → PV M G := fun cb => by
        have e : stl b (x :: s) D = (x :: s, D) := if_neg cb
        rw [e] at kk
        exact kk M (offS.refl M) hC
      have ap : b ≤ bnd x.1 → ¬ (x.1 = 12 ∨ x.1 = 13) → ∀ X : sM, X = sUpd M 2 10 (M 2 10 - 1) → sC d 44 [vO 7 2, vI (M 9 (M 2 10 - 1).toNat), vI 0] X G (QI (fun _ M1 G1 => G1 = G ∧ M1 2 10 = (s.length : Int) ∧ M1 9 (M1 2 10).toNat = (x.1 : Int) ∧ (x.1 ≠ 11 → sW (sC d) 46 (QV PV) 0 [vO 7 2, vI (b : Int), vN] [] M1 G 0 0) ∧ (x.1 = 11 → M1 2 12 = M 2 12 ∧ sW (sC d) 46 (QV PV) 0 [vO 7 2, vI (b : Int), vN] [] (sUpd M1 2 12 (M1 2 12 - 1)) G 0 0))) := by
        intro cb cx X hX
        have x8 : X 2 8 = (len : Int) := by rw [hX, sUpd_ni (by decide)]; exact h1
        refine c44 (len := len) (by omega) x8 (by omega) ?_
        obtain ⟨N, hN⟩ : ∃ N, N = sUpd (sUpd (sUpd X 5 len (M 9 (M 2 10 - 1).toNat)) 6 len 0) 2 8 ((len + 1 : Nat) : Int) := ⟨_, rfl⟩
        rw [← hN]
        have oN : offS M N := by
          rw [hN, hX]
          exact (((offS.u (Or.inr (Or.inr ⟨rfl, by decide⟩))).trans (offS.u (Or.inl rfl))).trans (offS.u (Or.inr (Or.inl rfl)))).trans (offS.u (Or.inr (Or.inr ⟨rfl, by decide⟩)))
        have n10 : N 2 10 = (s.length : Int) := by
          rw [hN, sUpd_ni (by decide), sUpd_ne (by decide), sUpd_ne (by decide), hX, sUpd_eq]; omega
        have n12 : N 2 12 = M 2 12 := by
          rw [hN, sUpd_ni (by decide), sUpd_ne (by decide), sUpd_ne (by decide), hX, sUpd_ni (by decide)]
        have n8 : N 2 8 = ((len + 1 : Nat) : Int) := by rw [hN, sUpd_eq]
        have n5 : ∀ i : Nat, N 5 i = if i = len then (x.1 : Int) else M 5 i := fun i => by
          rw [hN, sUpd_ne (by decide), sUpd_ne (by decide), ← ho]
          by_cases c : i = len
          · rw [c, sUpd_eq, if_pos rfl]
          · rw [sUpd_ni c, if_neg c, hX, sUpd_ne (by decide)]
        have n6 : ∀ i : Nat, N 6 i = if i = len then 0 else M 6 i := fun i => by
          rw [hN, sUpd_ne (by decide)]
          by_cases c : i = len
          · rw [c, sUpd_eq, if_pos rfl]
          · rw [sUpd_ni c, if_neg c, sUpd_ne (by decide), hX, sUpd_ne (by decide)]
        refine ⟨rfl, n10, ?_, fun z => ?_, fun z => ⟨n12, ?_⟩⟩
        · rw [n10, oN.1 9 (by decide) (by decide) (by decide)]; exact h6.1
        · have x14 : x.1 ≠ 14 := fun z => by rw [z] at cb; have : bnd 14 = 0 := rfl; omega
          exact go cb N oN n10 (by rw [n12, h3, hdp, if_neg (by omega)]; omega) (fun y => absurd y cx) (fun _ => ⟨n8, n5, n6⟩)
        · refine go cb _ (oN.trans (offS.u (Or.inr (Or.inr ⟨rfl, by decide⟩)))) (by rw [sUpd_ni (by decide)]; exact n10) (by rw [sUpd_eq, n12, h3, hdp, if_pos (Or.inl z)]; omega) (fun y => absurd y cx) (fun _ => ⟨by rw [sUpd_ni (by decide)]; exact n8, fun i => by rw [sUpd_ne (by decide)]; exact n5 i, fun i => by rw [sUpd_ne (by decide)]; exact n6 i⟩)
      have jmp : b ≤ bnd x.1 → (x.1 = 12 ∨ x.1 = 13) → ∀ N, N = sUpd (sUpd M 2 10 (M 2 10 - 1)) 6 (M 10 (M 2 10 - 1).toNat).toNat (M 2 8) → sW (sC d) 46 (QV PV) 0 [vO 7 2, vI (b : Int), vN] [] N G 0 0 := by
        intro cb cx N hN
        have oN : offS M N := by rw [hN]; exact (offS.u (Or.inr (Or.inr ⟨rfl, by decide⟩))).trans (offS.u (Or.inr (Or.inl rfl)))
        rcases h6.2.2 with ⟨y, -⟩ | ⟨y, bb, j, f', H', z, e1, e2, e3, e4, r⟩ | ⟨y, -⟩
        · omega
        · rw [e10, e3, h1] at hN
          refine go cb N oN (by rw [hN, sUpd_ne (by decide), sUpd_eq]; omega) (by rw [hN, sUpd_ne (by decide), sUpd_ni (by decide), h3, hdp, if_neg (by omega)]; omega) (fun _ => ⟨by rw [hN, sUpd_ne (by decide), sUpd_ni (by decide)]; exact h1, by rw [hN, sUpd_ne (by decide), sUpd_ne (by decide)], fun i => ?_⟩) (fun y => absurd cx y)
          rw [hN, e3]
          by_cases c : i = j
          · rw [if_pos (by omega)]
            subst c
            exact sUpd_eq
          · rw [if_neg (by omega)]
            rw [show ((j : Int)).toNat = j from rfl, sUpd_ni c, sUpd_ne (by decide)]
        · omega
      have hj : (x.1 = 12 ∨ x.1 = 13 → 0 ≤ M 10 (M 2 10 - 1).toNat ∧ M 10 (M 2 10 - 1).toNat < 400) ∧ (¬ (x.1 = 12 ∨ x.1 = 13) → M 10 (M 2 10 - 1).toNat = -1) := by
        rw [e10]
        have := h7.1
        rcases h6.2.2 with ⟨y, e1, -⟩ | ⟨y, bb, j, f', H', z, e1, e2, e3, -⟩ | ⟨y, e1, -⟩
        · exact ⟨fun z => by omega, fun _ => e1⟩
        · exact ⟨fun _ => by omega, fun z => absurd y z⟩
        · exact ⟨fun z => by omega, fun _ => e1⟩
      refine (s46_0 ⟨fun q1 => ?_, fun q2 => ⟨⟨by omega, by omega⟩, ⟨(by first | omega | assumption | (refine ⟨?_, ?_⟩ <;> omega) | (simp_all; done)), (by first | omega | assumption | (refine ⟨?_, ?_⟩ <;> omega) | (simp_all; done))⟩, fun q3 => ?_, fun q4 => ⟨⟨(by first | omega | assumption | (refine ⟨?_, ?_⟩ <;> omega) | (simp_all; done)), (by first | omega | assumption | (refine ⟨?_, ?_⟩ <;> omega) | (simp_all; done))⟩, fun q5 => ?_, fun q8 => ⟨fun q9 => ?_, fun q12 => ⟨⟨(by first | omega | assumption | (refine ⟨?_, ?_⟩ <;> omega) | (simp_all; done)), (by first | omega | assumption | (refine ⟨?_, ?_⟩ <;> omega) | (simp_all; done))⟩, fun q13 => ?_, fun q14 => ⟨⟨by omega, by omega⟩, ?_⟩⟩⟩⟩⟩⟩)
      · omega
      · exact low (by omega)
      · refine sC_mono d _ _ _ _ _ _ ?_ (ap (by omega) (fun z => by have := hj.1 z; omega) _ rfl)
        rintro r M1 G1 ⟨w, rfl, rfl, z1, z2, z3, z4⟩
        refine ⟨w, rfl, ?_⟩
        have z5 : x.1 = 11 → M1 2 12 = M 2 12 := fun y => (z4 y).1
        have z6 : M1 9 (M1 2 10).toNat = 11 → M1 2 12 = M 2 12 := fun y => z5 (by omega)
        refine ⟨⟨by omega, by omega⟩, fun q => z3 (by omega), fun q => ⟨?_, (z4 (by omega)).2⟩⟩
        have := z6 q
        have hdl := dpt_len (x :: s)
        rw [hl] at hdl
        exact ⟨by omega, by omega⟩
      · have := hj.1; have := hj.2; omega
      · exact jmp (by omega) (by by_cases c : x.1 = 12 ∨ x.1 = 13; exact c; have := hj.2 c; omega) _ rfl
      · have := hj.2; omega
      all_goals (have := hj.1; have := hj.2; omega)
  intro s D M hw h48 hC kk
  exact e46 (key s D M hw h48 hC kk)
end
