/-! THE RULE PARSER, reference: a comparison. -/
section
variable {d n p m len r u : Nat} {T : Nat → Int} {P : Int → sM → sG → Prop} {PV : sM → sG → Prop} {M : sM} {G : sG} {f v : Int} {s : stS} {D : den} {k : Int} {cl : List (Int × den)} {x : Int × List (Int × den)}
theorem aTo.sign {p : Nat} (hj : aJn (chr T n (blk T n p)) = 0) (hs : tb s ≤ 3) (ht : aTo T n (4, p, m, s, D, k, cl) x) : (chr T n (blk T n p) ≠ 60 → chr T n (blk T n p) ≠ 61 → chr T n (blk T n p) ≠ 62 → x.1 = 1 + 8 * (blk T n p : Int)) ∧ (chr T n (blk T n p) = 60 ∨ chr T n (blk T n p) = 61 ∨ chr T n (blk T n p) = 62 → (60 ≤ m → x.1 = 1 + 8 * (blk T n p : Int) + 3) ∧ (m < 60 → aTo T n (3, blk T n p + (if lng T n (blk T n p) = true then 2 else 1), m + 1, (sgS (chr T n (blk T n p)) (lng T n (blk T n p)), D) :: s, D, k, cl) x)) := by
  have h := ht.step (by show (4 : Nat) ≠ 7; decide)
  rw [aStep_b (by decide)] at h
  have hd : aDm T n 4 (blk T n p) = 4 := by unfold aDm; rw [if_neg (fun z => z.2 hj), if_pos rfl]
  rw [hd, stl_stop (by omega)] at h
  unfold aBeh at h
  rw [if_neg (fun z => z.2 hj), if_pos rfl] at h
  refine ⟨fun a b c => ?_, fun a => ⟨fun b => ?_, fun b => ?_⟩⟩
  · rw [if_pos ⟨a, b, c⟩] at h
    rw [h.1 (show 1 + 8 * (blk T n p : Int) ≠ 0 by omega)]
  · rw [if_neg (fun z => by omega), if_pos b] at h
    rw [h.1 (show 1 + 8 * (blk T n p : Int) + 3 ≠ 0 by omega)]
  · rw [if_neg (fun z => by omega), if_neg (by omega)] at h
    exact h.2 rfl
theorem c189 (hd : 24 ≤ d) (ho : tOk T n) (hT : rTp M T n) (hp : p ≤ n) (hlp : len ≤ p) (hA : rAt M r len m) (hR : rRng M r len) (hn : ¬ (chr T n (blk T n p) = 91 ∨ atB T n (blk T n p) wNot = true)) (hs : tb s ≤ 3) (ht : aTo T n (1, p, m, s, D, k, cl) x)
    (kf : ∀ M' q' v', offV r len M M' → x.1 ≠ 0 → q' ≤ n → P 0 (rS M' q' x.1 v') G)
    (kk : ∀ M' len' p' m' h D' v', rRs T n r 6 s k cl x M len p m M' len' p' m' h D' → d01 D' → P 1 (rS M' p' 0 v') G) : sC d 189 [vO 12 82] (rS M p 0 v) G (QI P) := by
  obtain ⟨d, rfl⟩ := sD 1 (d := d) (by omega)
  have h400 := ho.1
  refine e189 (s189_0 (c190 (u := 4) (by omega) ho hT hp hlp hA hR (e := 1) (by decide) (by decide) (by decide) (fun _ => hn) (by omega) ht (fun M' q' v' o' hf hq' => ⟨fun z => absurd rfl z, fun _ => kf M' q' v' o' hf hq'⟩) (fun M1 len1 p1 m1 h1 D1 v1 H hj => ⟨fun _ => ?_, fun z => absurd z (by decide)⟩)))
  have hH := H
  obtain ⟨t1, o1, a1, ⟨l1, l2, l3, l4⟩, i1, s1, g1⟩ := hH
  have hT1 : rTp M1 T n := o1.tp hT
  have sg := t1.sign hj hs
  obtain ⟨q, hq⟩ : ∃ q, q = blk T n p1 := ⟨_, rfl⟩
  have hq1 : p1 ≤ q := by rw [hq]; exact run_ge l4
  have hq2 : q ≤ n := by rw [hq]; exact run_le l4
  rw [← hq] at sg hj
  obtain ⟨a14, r6, a85, a15, m60⟩ := a1
  -- behind the sign
  have t105 : ∀ (b : Bool) (q' : Nat) (x3 : Int), (chr T n q = 60 ∨ chr T n q = 61 ∨ chr T n q = 62) → lng T n q = b → q + (if b = true then 2 else 1) = q' → (x3 = if b = true then 1 else 0) → (b = true → chr T n q ≠ 61) → q' ≤ n → sW (sC d) 189 (QI P) 105 [vO 12 82, vI (chr T n q), vI (q : Int), vI x3, vN] [] (rS M1 q' 0 v1) G 0 0 := by
    intro b q' x3 hc hl hq' hx3 hb61 hqn
    obtain ⟨sg1, sg2⟩ := sg.2 hc
    rw [hl] at sg2
    rw [hq'] at sg2
    have hqq : q < q' := by rw [← hq']; split <;> omega
    have hT2 : rTp (sUpd M1 82 15 ((m1 + 1 : Nat) : Int)) T n := hT1.u ⟨by decide, Or.inr (by decide)⟩
    have oU : offV r len1 M1 (sUpd M1 82 15 ((m1 + 1 : Nat) : Int)) := ⟨fun a h1 h2 h3 => sUpd_ne h1, fun i h1 h2 h3 h4 => sUpd_ni h4, fun j hj => by rw [sUpd_ne (by decide)], fun j hj => by rw [sUpd_ne (by decide)]⟩
    have go : ∀ (o : Nat) (xo : Int), m1 < 60 → xo = (o : Int) → sgS (chr T n q) b = o → sC d 190 [vO 12 82] (rS (sUpd M1 82 15 ((m1 + 1 : Nat) : Int)) q' 0 v1) G (QI (fun r2 M2 G2 => (r2 ≠ 0 → sC d 194 [vO 12 82, vI xo, vI 0] M2 G2 (QV (fun M3 G3 => P 1 M3 G3))) ∧ (r2 = 0 → P 0 M2 G2))) := by
      intro o xo hm hxo hso
      have ho' := sgS_b (c := chr T n q) (b := b)
      rw [hso] at ho'
      have t3 := sg2 hm
      rw [hso] at t3
      have hbo := bnd_sg ho'
      refine c190 (u := 5) (s := (o, D1) :: s) (len := len1) (m := m1 + 1) (r := r) (by omega) ho hT2 hqn (by omega) ⟨by rw [sUpd_ni (by decide)]; exact a14, r6, by rw [sUpd_ne (by decide)]; exact a85, sUpd_eq, by omega⟩ (fun i hi => by rw [(oU.rows hi).1, (oU.rows hi).2]; exact g1 i hi) (e := 3) (by decide) (by decide) (by decide) (fun z => absurd z (by decide)) (by show bnd o < 5; omega) t3 (fun M' q2 v' o' hf hq2 => ⟨fun z => absurd rfl z, fun _ => kf M' q2 v' ((o1.trans oU l1).trans o' l1) hf hq2⟩) (fun M2 len2 p2 m2 h2 D2 v2 H2 hj2 => ⟨fun _ => ?_, fun z => absurd z (by decide)⟩)
      have tE : aTo T n (6, p2, m2, s, apD o D1 D2, k, cl) x := H2.1.fact rfl hj2 (if_pos (show 4 ≤ bnd o by omega)).symm
      have J := rJoin h400 hlp H oU (Nat.le_succ m1) (show p1 < q' by omega) H2 ⟨by omega, by omega⟩ tE
      have a2 := H2.2.2.1
      refine c194 (o := o) (w := 0) (by omega) a2.1 a2.2.1 a2.2.2.1 J.1 hxo rfl (by omega) (by decide) ?_
      exact kk _ _ _ _ _ _ _ J.2 (apD_01 (by omega) (fun z => by omega) (fun z => by omega))
    refine s189_105 (c193 (m := m1) (by omega) a15 m60 (by omega) (fun hm => ⟨fun z => absurd rfl z, fun _ => ?_⟩) (fun hm => ⟨fun _ => ?_, fun z => absurd z (by decide)⟩))
    · rw [if_pos rfl, ← sg1 (by omega)]
      exact kf M1 q' v1 o1 (by rw [sg1 (by omega)]; omega) hqn
    · refine ⟨fun z60 => ⟨fun z61 => ⟨fun z => ?_, fun z => ?_⟩, fun z61 => ?_⟩, fun z60 => ⟨fun z => ?_, fun z => ?_⟩⟩
      · refine go 10 _ hm rfl ?_
        unfold sgS
        rw [if_neg z61, if_neg z60, if_neg (fun y => by rw [if_pos y] at hx3; omega)]
      · refine go 9 _ hm rfl ?_
        unfold sgS
        rw [if_neg z61, if_neg z60, if_pos (Decidable.byContradiction fun y => by rw [if_neg y] at hx3; omega)]
      · refine go 8 _ hm rfl ?_
        unfold sgS
        rw [if_pos z61]
      · refine go 6 _ hm rfl ?_
        unfold sgS
        rw [if_neg (by omega), if_pos z60, if_neg (fun y => by rw [if_pos y] at hx3; omega)]
      · refine go 7 _ hm rfl ?_
        unfold sgS
        rw [if_neg (by omega), if_pos z60, if_pos (Decidable.byContradiction fun y => by rw [if_neg y] at hx3; omega)]
  have t44 : (chr T n q = 60 ∨ chr T n q = 61 ∨ chr T n q = 62) → sW (sC d) 189 (QI P) 44 [vO 12 82, vI (chr T n q), vI (q : Int), vN, vN] [] (rS M1 q 0 v1) G 0 0 := by
    intro hc
    have hlt : q < n := by rcases hc with z | z | z <;> exact chr_lt z (by decide)
    have hl : rS M1 q 0 v1 82 1 = (n : Int) := hT1.l
    have hpp : rS M1 q 0 v1 82 11 = (q : Int) := rS_p
    have up : sUpd (rS M1 q 0 v1) 82 11 (rS M1 q 0 v1 82 11 + 1) = rS M1 (q + 1) 0 v1 := by
      rw [rS_p, show (q : Int) + 1 = ((q + 1 : Nat) : Int) from rfl, rS_up]
    have h83 : q + 1 < n → (rS M1 q 0 v1 83 (rS M1 q 0 v1 82 11 + 1).toNat = 61 ↔ T (q + 1) = 61) := fun z => by
      rw [hpp, show ((q : Int) + 1).toNat = q + 1 by omega]
      have := hT1.b (p := q) (f := 0) (v := v1) z
      have hr := ho.2 (q + 1) z
      rw [this]
      by_cases y : T (q + 1) < 128
      · rw [if_pos y]
      · rw [if_neg y]; exact ⟨fun w => by omega, fun w => by omega⟩
    have t89 : lng T n q = false → sW (sC d) 189 (QI P) 89 [vO 12 82, vI (chr T n q), vI (q : Int), vN, vN] [] (sUpd (rS M1 q 0 v1) 82 11 (rS M1 q 0 v1 82 11 + 1)) G 0 0 := fun z => by
      rw [up]
      exact s189_89 (t105 false (q + 1) 0 hc z rfl rfl (fun y => absurd y (by decide)) (by omega))
    refine s189_44 ⟨⟨by omega, by omega⟩, fun z61 => ?_, fun z61 => ⟨fun z => ?_, fun z => ⟨⟨by omega, by omega⟩, fun y => ?_, fun y => ⟨⟨by omega, by omega⟩, ?_⟩⟩⟩⟩
    · exact t89 (by unfold lng; exact decide_eq_false (fun w => w.1 z61))
    · exact t89 (by unfold lng; exact decide_eq_false (fun w => by omega))
    · exact t89 (by unfold lng; exact decide_eq_false (fun w => y ((h83 (by omega)).2 w.2.2)))
    · have hlg : lng T n q = true := by unfold lng; exact decide_eq_true ⟨z61, by omega, (h83 (by omega)).1 y⟩
      rw [up]
      have up2 : sUpd (rS M1 (q + 1) 0 v1) 82 11 (rS M1 q 0 v1 82 11 + 1 + 1) = rS M1 (q + 2) 0 v1 := by
        rw [hpp, show (q : Int) + 1 + 1 = ((q + 2 : Nat) : Int) by omega, rS_up]
      rw [up2]
      exact t105 true (q + 2) 1 hc hlg rfl rfl (fun _ => z61) (by omega)
  refine c175 (by omega) ho hT1 l4 ?_
  rw [← hq, rS_p]
  refine ⟨fun z => t44 (Or.inl z), fun z60 => ⟨fun z => t44 (Or.inr (Or.inl z)), fun z61 => ⟨fun z => t44 (Or.inr (Or.inr z)), fun z62 => ?_⟩⟩⟩
  refine c178 (by omega) ⟨by omega, by decide, by decide⟩ ⟨Or.inl rfl, ?_⟩
  have hx := sg.1 z60 z61 z62
  rw [if_pos rfl, Int.add_zero, ← hx]
  exact kf M1 q v1 o1 (by rw [hx]; omega) hq2
end
