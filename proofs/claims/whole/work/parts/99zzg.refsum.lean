/-! THE RULE PARSER, reference: products and sums. -/
/-- what reading a value, a product or a sum leaves -/
def rRs (T : Nat → Int) (n r u : Nat) (s : stS) (k : Int) (cl : List (Int × den)) (x : Int × List (Int × den)) (M : sM) (len p m : Nat) (M' : sM) (len' p' m' h : Nat) (D : den) : Prop :=
  aTo T n (u, p', m', s, D, k, cl) x ∧ offV r len M M' ∧ rAt M' r len' m' ∧ (len ≤ len' ∧ len' + p ≤ len + p' ∧ p ≤ p' ∧ p' ≤ n) ∧ h + m ≤ m' ∧ rSeg (rSg M' r) (rVg M' r) len len' h D ∧ rRng M' r len'
section
variable {d n p m len r u : Nat} {T : Nat → Int} {P : Int → sM → sG → Prop} {PV : sM → sG → Prop} {M : sM} {G : sG} {f v : Int} {s : stS} {D : den} {k : Int} {cl : List (Int × den)} {x : Int × List (Int × den)}
theorem aTo.place {e p : Nat} (h4 : 4 ≤ e) (h7 : e ≠ 7) (hp : p ≤ n) (ht : aTo T n (e, p, m, s, D, k, cl) x) : aTo T n (e, blk T n p, m, s, D, k, cl) x := ht.early (b := 6) h4 h7 (blk_blk hp) aDm_6 rfl
theorem aTo.join {p o : Nat} (hu : u = 4 ∨ u = 5) (hj : aJn (chr T n (blk T n p)) = o) (h0 : o ≠ 0) (hs : tb s < bnd o) (ht : aTo T n (u, p, m, s, D, k, cl) x) : aTo T n (if u = 4 then 2 else 3, blk T n p + 1, m, (o, D) :: s, D, k, cl) x := by
  have h := ht.step (show u ≠ 7 by omega)
  rw [aStep_b (by omega)] at h
  have hd : aDm T n u (blk T n p) = bnd o := by unfold aDm; rw [if_pos ⟨by omega, by rw [hj]; exact h0⟩, hj]
  rw [hd, stl_stop hs] at h
  unfold aBeh at h
  rw [if_pos ⟨by omega, by rw [hj]; exact h0⟩, hj] at h
  exact h.2 rfl
theorem aTo.val {e p : Nat} (e1 : 1 ≤ e) (e3 : e ≤ 3) (ho : e = 1 → ¬ (chr T n (blk T n p) = 91 ∨ atB T n (blk T n p) wNot = true)) (ht : aTo T n (e, p, m, s, D, k, cl) x) : (vFt T n (blk T n p) m ≠ 0 → x.1 = vFt T n (blk T n p) m) ∧ (vFt T n (blk T n p) m = 0 → (valF T n (blk T n p)).2.1 = 0 ∧ m < 60 ∧ aTo T n (if e = 3 then 5 else 4, (valF T n (blk T n p)).1, m + 1, s, valD (valF T n (blk T n p)).2.2.1 (valF T n (blk T n p)).2.2.2, k, cl) x) := by
  have h := ht.step (show e ≠ 7 by omega)
  rw [aStep_v e1 e3 ho] at h
  unfold aVal at h
  unfold vFt
  by_cases c1 : (valF T n (blk T n p)).2.1 ≠ 0
  · rw [if_pos c1] at h ⊢
    exact ⟨fun z => by rw [h.1 z], fun z => absurd z c1⟩
  · rw [if_neg c1] at h ⊢
    by_cases c2 : 60 ≤ m
    · rw [if_pos c2] at h ⊢
      exact ⟨fun z => by rw [h.1 z], fun z => by omega⟩
    · rw [if_neg c2] at h ⊢
      exact ⟨fun z => absurd rfl z, fun _ => ⟨Decidable.not_not.1 c1, by omega, h.2 rfl⟩⟩
theorem rValue {q o : Nat} {w : Int} (hA : rAt M r len m) (hR : rRng M r len) (hl : len < 400) (hm : m < 60) (ho : o ≤ 1) (hw : 0 ≤ w ∧ w ≤ 99999 ∧ (o = 1 → w ≤ 9)) (hpq : p < q ∧ q ≤ n) (ht : aTo T n (u, q, m + 1, s, valD o w, k, cl) x) : rRs T n r u s k cl x M len p m (rPut (sUpd M 82 15 ((m + 1 : Nat) : Int)) r len o w.toNat) (len + 1) q (m + 1) 1 (valD o w) := by
  obtain ⟨a1, a2, a3, a4, a5⟩ := hA
  have oU : offV r len M (sUpd M 82 15 ((m + 1 : Nat) : Int)) := ⟨fun a h1 h2 h3 => sUpd_ne h1, fun i h1 h2 h3 h4 => sUpd_ni h4, fun j hj => by rw [sUpd_ne (by decide)], fun j hj => by rw [sUpd_ne (by decide)]⟩
  have oP : offV r len (sUpd M 82 15 ((m + 1 : Nat) : Int)) (rPut (sUpd M 82 15 ((m + 1 : Nat) : Int)) r len o w.toNat) := rPut.off hl
  have hRU : rRng (sUpd M 82 15 ((m + 1 : Nat) : Int)) r len := fun i hi => by
    rw [(oU.rows hi).1, (oU.rows hi).2]; exact hR i hi
  have ha := rPut.at (M := sUpd M 82 15 ((m + 1 : Nat) : Int)) (r := r) (len := len) (o := o) (v := w.toNat) (by omega) (by omega)
  refine ⟨ht, oU.trans oP (Nat.le_refl _), ⟨?_, a2, rPut.len, ?_, by omega⟩, ⟨by omega, by omega, by omega, by omega⟩, by omega, ?_, rPut.rng hl hRU (by omega) (by omega) (fun z => by omega)⟩
  · unfold rPut; rw [sUpd_ne (by decide), sUpd_ne (by decide), sUpd_ni (by decide)]; exact a1
  · unfold rPut; rw [sUpd_ne (by decide), sUpd_ne (by decide), sUpd_eq]
  · have hwn : ((w.toNat : Nat) : Int) = w := by omega
    rw [hwn] at ha
    by_cases c : o = 0
    · have hs := rSeg.num (s := rSg (rPut (sUpd M 82 15 ((m + 1 : Nat) : Int)) r len o w.toNat) r) (g := rVg (rPut (sUpd M 82 15 ((m + 1 : Nat) : Int)) r len o w.toNat) r) (a := len) (by rw [ha.1, c]; rfl)
      rw [ha.2] at hs
      have : valD o w = fun _ => w := by funext y; unfold valD; rw [if_pos c]
      rw [this]
      exact hs
    · have hs := rSeg.word (s := rSg (rPut (sUpd M 82 15 ((m + 1 : Nat) : Int)) r len o w.toNat) r) (g := rVg (rPut (sUpd M 82 15 ((m + 1 : Nat) : Int)) r len o w.toNat) r) (a := len) (by rw [ha.1, show o = 1 by omega]; rfl)
      rw [ha.2] at hs
      have : valD o w = fun y => y w.toNat := by funext y; unfold valD; rw [if_neg c]
      rw [this]
      exact hs
theorem rJoin {M1 M1' M2 : sM} {len1 p1 p1' m1 m1' h1 len2 p2 m2 h2 o u1 u2 u3 : Nat} {D1 D2 : den} {s2 : stS} (h4 : n ≤ 400) (hlp : len ≤ p) (H1 : rRs T n r u1 s k cl x M len p m M1 len1 p1 m1 h1 D1) (o12 : offV r len1 M1 M1') (hm : m1 ≤ m1') (hpp : p1 < p1') (H2 : rRs T n r u2 s2 k cl x M1' len1 p1' m1' M2 len2 p2 m2 h2 D2) (ho : 2 ≤ o ∧ o ≤ 10) (ht : aTo T n (u3, p2, m2, s, apD o D1 D2, k, cl) x) : len2 < 400 ∧ rRs T n r u3 s k cl x M len p m (rPut M2 r len2 o 0) (len2 + 1) p2 m2 (h1 + h2) (apD o D1 D2) := by
  obtain ⟨t1, o1, a1, ⟨l1, l2, l3, l4⟩, i1, s1, g1⟩ := H1
  obtain ⟨t2, o2, a2, ⟨k1, k2, k3, k4⟩, i2, s2, g2⟩ := H2
  have hl : len2 < 400 := by omega
  refine ⟨hl, ?_⟩
  have oP : offV r len2 M2 (rPut M2 r len2 o 0) := rPut.off hl
  have ha := rPut.at (M := M2) (r := r) (len := len2) (o := o) (v := 0) (by omega) (by decide)
  obtain ⟨b1, b2, b3, b4, b5⟩ := a2
  refine ⟨ht, ((o1.trans o12 l1).trans o2 l1).trans oP (by omega), ⟨?_, b2, rPut.len, ?_, b5⟩, ⟨by omega, by omega, by omega, k4⟩, by omega, ?_, rPut.rng hl g2 (by omega) (by decide) (fun z => by omega)⟩
  · rw [oP.2.1 14 (by decide) (by decide) (by decide) (by decide)]; exact b1
  · unfold rPut; rw [sUpd_ne (by decide), sUpd_ne (by decide)]; exact b4
  · have e1 : ∀ i, i < len1 → rSg (rPut M2 r len2 o 0) r i = rSg M1 r i ∧ rVg (rPut M2 r len2 o 0) r i = rVg M1 r i := fun i hi => by
      rw [(oP.rows (i := i) (by omega)).1, (oP.rows (i := i) (by omega)).2]
      exact (o12.trans o2 (Nat.le_refl _)).rows hi
    have hs := (s1.congr (fun i _ hi => e1 i hi)).join (s2.congr (fun i _ hi => oP.rows hi)) (by rw [ha.1]; omega)
    rw [ha.1] at hs
    have : apD o D1 D2 = fun w => jn (o : Int) (D1 w) (D2 w) := by funext w; unfold apD; rw [if_neg (by omega), if_neg (by omega), if_neg (by omega)]
    rw [this]
    exact hs
theorem rBy {q : Nat} {M : sM} (ho : tOk T n) (hT : rTp M T n) {g w : Int} (hq : q < n) : 0 ≤ rS M q g w 82 11 ∧ rS M q g w 82 11 < 400 ∧ (T q < 128 → rS M q g w 83 (rS M q g w 82 11).toNat = T q) := by
  have h400 := ho.1
  rw [rS_p]
  refine ⟨by omega, by omega, fun z => ?_⟩
  have := hT.b (p := q) (f := g) (v := w) hq
  show rS M q g w 83 q = T q
  rw [this, if_pos z]
theorem c191 (hd : 14 ≤ d) (ho : tOk T n) (hT : rTp M T n) (hp : p ≤ n) (hlp : len ≤ p) (hA : rAt M r len m) (hR : rRng M r len) {e : Nat} (e1 : 1 ≤ e) (e3 : e ≤ 3) (hu : (if e = 3 then 5 else 4) = u) (hn : e = 1 → ¬ (chr T n (blk T n p) = 91 ∨ atB T n (blk T n p) wNot = true)) (hs : tb s < 6) (ht : aTo T n (e, p, m, s, D, k, cl) x)
    (kf : ∀ M' q' v', offV r len M M' → x.1 ≠ 0 → q' ≤ n → P 0 (rS M' q' x.1 v') G)
    (kk : ∀ M' len' p' m' h D' v', rRs T n r u s k cl x M len p m M' len' p' m' h D' → chr T n (blk T n p') ≠ 42 → chr T n (blk T n p') ≠ 47 → P 1 (rS M' p' 0 v') G) : sC d 191 [vO 12 82] (rS M p 0 v) G (QI P) := by
  obtain ⟨d, rfl⟩ := sD 1 (d := d) (by omega)
  have h400 := ho.1
  have u45 : u = 4 ∨ u = 5 := by rw [← hu]; split; exact Or.inr rfl; exact Or.inl rfl
  have loop : ∀ y M1 len1 p1 m1 h1 D1 v1, n - p1 ≤ y → rRs T n r u s k cl x M len p m M1 len1 p1 m1 h1 D1 → sW (sC d) 191 (QI P) 9 [vO 12 82, vN] [] (rS M1 p1 0 v1) G 0 0 := by
    intro y
    induction y with
    | zero =>
      intro M1 len1 p1 m1 h1 D1 v1 hy H
      have hT1 : rTp M1 T n := H.2.1.tp hT
      have hp1 : p1 ≤ n := H.2.2.2.1.2.2.2
      have hbn : blk T n p1 = n := by have a := run_ge (pr := bBl) (T := T) hp1; have b := run_le (pr := bBl) (T := T) hp1; unfold blk; omega
      have hc : chr T n (blk T n p1) = -1 := by unfold chr; rw [if_neg (by omega)]
      have hbb := blk_blk (T := T) hp1
      refine s191_9 (c175 (by omega) ho hT1 hp1 ⟨fun q => by omega, fun _ => c175 (by omega) ho hT1 (run_le hp1) ⟨fun _ => ?_, fun q => ?_⟩⟩)
      · have hbb' : blk T n (blk T n p1) = blk T n p1 := hbb
        show P 1 (rS M1 (blk T n (blk T n p1)) 0 v1) G
        rw [hbb]
        obtain ⟨t1, o1, a1, ⟨l1, l2, l3, l4⟩, i1, s1, g1⟩ := H
        refine kk M1 len1 _ m1 h1 D1 v1 ⟨t1.place (by omega) (by omega) hp1, o1, a1, ⟨l1, by omega, by omega, by omega⟩, i1, s1, g1⟩ ?_ ?_
        · rw [hbb, hc]; decide
        · rw [hbb, hc]; decide
      · have hq : chr T n (blk T n (blk T n p1)) = 47 := q
        rw [hbb, hc] at hq
        exact absurd hq (by decide)
    | succ y ih =>
      intro M1 len1 p1 m1 h1 D1 v1 hy H
      have hT1 : rTp M1 T n := H.2.1.tp hT
      have hp1 : p1 ≤ n := H.2.2.2.1.2.2.2
      have hb1 : p1 ≤ blk T n p1 := run_ge hp1
      have hb2 : blk T n p1 ≤ n := run_le hp1
      have hbb := blk_blk (T := T) hp1
      have hH := H
      obtain ⟨t1, o1, a1, ⟨l1, l2, l3, l4⟩, i1, s1, g1⟩ := hH
      -- a joint, and what follows
      have go : ∀ (o : Nat) (xo : Int), xo = (o : Int) → aJn (chr T n (blk T n p1)) = o → (o = 4 ∨ o = 5) → sC d 192 [vO 12 82] (rS M1 (blk T n p1 + 1) 0 v1) G (QI (fun r2 M2 G2 => (r2 ≠ 0 → sC d 194 [vO 12 82, vI xo, vI 0] M2 G2 (QV (fun M3 G3 => sW (sC d) 191 (QI P) 9 [vO 12 82, vN] [] M3 G3 0 0))) ∧ (r2 = 0 → P 0 M2 G2))) := by
        intro o xo hxo hj ho45
        have hlt : blk T n p1 < n := by rcases aJn_c (show aJn (chr T n (blk T n p1)) ≠ 0 by omega) with ⟨z, -⟩ | ⟨z, -⟩ | ⟨z, -⟩ | ⟨z, -⟩ <;> exact chr_lt z (by decide)
        have hbo : bnd o = 6 := by rcases ho45 with z | z <;> rw [z] <;> rfl
        have tj := t1.join u45 hj (by omega) (by rw [hbo]; exact hs)
        have e23 : (if u = 4 then 2 else 3) = 2 ∨ (if u = 4 then 2 else 3) = 3 := by split; exact Or.inl rfl; exact Or.inr rfl
        have eu : (if (if u = 4 then 2 else 3) = 3 then 5 else 4) = u := by rcases u45 with z | z <;> rw [z] <;> rfl
        have tv := tj.val (by omega) (by omega) (fun z => by omega)
        have hbv : blk T n p1 + 1 ≤ n := by omega
        refine c192 (by omega) ho hT1 hbv a1 (by omega) (fun q' v' hq' hf => ⟨fun z => absurd rfl z, fun _ => ?_⟩) (fun hf v' => ⟨fun _ => ?_, fun z => absurd z (by decide)⟩)
        · have hx := tv.1 hf
          rw [← hx] at hf ⊢
          exact kf M1 q' v' o1 hf hq'
        · obtain ⟨w1, w2, w3⟩ := tv.2 hf
          rw [eu] at w3
          have hbb2 : blk T n (blk T n (blk T n p1 + 1)) = blk T n (blk T n p1 + 1) := blk_blk hbv
          have hvs := valF_sp (T := T) (n := n) (q := blk T n (blk T n p1 + 1)) (run_le hbv) hbb2 w1
          have hge : blk T n p1 + 1 ≤ blk T n (blk T n p1 + 1) := run_ge hbv
          obtain ⟨M2, hM2⟩ : ∃ M2, M2 = rPut (sUpd M1 82 15 ((m1 + 1 : Nat) : Int)) r len1 (valF T n (blk T n (blk T n p1 + 1))).2.2.1 (valF T n (blk T n (blk T n p1 + 1))).2.2.2.toNat := ⟨_, rfl⟩
          have H2 := rValue (p := blk T n p1 + 1) a1 g1 (by omega) w2 hvs.2.2.1 hvs.2.2.2 ⟨by omega, hvs.2.1⟩ w3
          rw [← hM2] at H2 ⊢
          have tE : aTo T n (u, (valF T n (blk T n (blk T n p1 + 1))).1, m1 + 1, s, apD o D1 (valD (valF T n (blk T n (blk T n p1 + 1))).2.2.1 (valF T n (blk T n (blk T n p1 + 1))).2.2.2), k, cl) x := w3.early (b := 6) (by omega) (by omega) rfl aDm_6 (if_pos (show 6 ≤ bnd o by omega)).symm
          have J := rJoin h400 hlp H (offV.refl _ _ _) (Nat.le_refl _) (show p1 < blk T n p1 + 1 by omega) H2 ⟨by omega, by omega⟩ tE
          have a2 := H2.2.2.1
          refine c194 (o := o) (w := 0) (by omega) a2.1 a2.2.1 a2.2.2.1 J.1 hxo rfl (by omega) (by decide) ?_
          exact ih _ _ _ _ _ _ v' (by have := hvs.1; omega) J.2
      have stop : chr T n (blk T n p1) ≠ 42 → chr T n (blk T n p1) ≠ 47 → P 1 (rS M1 (blk T n p1) 0 v1) G := fun z1 z2 => by
        refine kk M1 len1 _ m1 h1 D1 v1 ⟨t1.place (by omega) (by omega) hp1, o1, a1, ⟨l1, by omega, by omega, by omega⟩, i1, s1, g1⟩ ?_ ?_
        · rw [hbb]; exact z1
        · rw [hbb]; exact z2
      have up : sUpd (rS M1 (blk T n p1) 0 v1) 82 11 (rS M1 (blk T n p1) 0 v1 82 11 + 1) = rS M1 (blk T n p1 + 1) 0 v1 := by
        rw [rS_p, show ((blk T n p1 : Nat) : Int) + 1 = ((blk T n p1 + 1 : Nat) : Int) from rfl, rS_up]
      refine s191_9 (c175 (by omega) ho hT1 hp1 ⟨fun q => ?_, fun q => c175 (by omega) ho hT1 hb2 ?_⟩)
      · have hlt := chr_lt q (by decide)
        have hc : T (blk T n p1) = 42 := by unfold chr at q; rw [if_pos hlt] at q; exact q
        have hB := rBy (g := 0) (w := v1) ho hT1 hlt
        have h83 := hB.2.2 (by omega)
        refine ⟨⟨hB.1, hB.2.1⟩, fun z => absurd (h83.trans hc) z, fun _ => ⟨⟨by omega, by omega⟩, ?_⟩⟩
        rw [up]
        exact go 4 4 rfl (by rw [q]; rfl) (Or.inl rfl)
      · rw [hbb]
        refine ⟨fun q2 => stop q q2, fun q2 => ?_⟩
        have hlt := chr_lt q2 (by decide)
        have hc : T (blk T n p1) = 47 := by unfold chr at q2; rw [if_pos hlt] at q2; exact q2
        have hB := rBy (g := 0) (w := v1) ho hT1 hlt
        have h83 := hB.2.2 (by omega)
        refine ⟨⟨hB.1, hB.2.1⟩, fun _ => ⟨⟨by omega, by omega⟩, ?_⟩, fun z => absurd (h83.symm.trans z) (by omega)⟩
        rw [up]
        exact go 5 5 rfl (by rw [q2]; rfl) (Or.inr rfl)
  have tv := ht.val e1 e3 hn
  refine e191 (s191_0 (c192 (by omega) ho hT hp hA hlp (fun q' v' hq' hf => ⟨fun z => absurd rfl z, fun _ => ?_⟩) (fun hf v' => ⟨fun _ => ?_, fun z => absurd z (by decide)⟩)))
  · have hx := tv.1 hf
    rw [← hx] at hf ⊢
    exact kf M q' v' (offV.refl _ _ _) hf hq'
  · obtain ⟨w1, w2, w3⟩ := tv.2 hf
    rw [hu] at w3
    have hbb2 : blk T n (blk T n p) = blk T n p := blk_blk hp
    have hvs := valF_sp (T := T) (n := n) (q := blk T n p) (run_le hp) hbb2 w1
    have hge : p ≤ blk T n p := run_ge hp
    have H2 := rValue (p := p) hA hR (by omega) w2 hvs.2.2.1 hvs.2.2.2 ⟨by omega, hvs.2.1⟩ w3
    exact loop _ _ _ _ _ _ _ v' (Nat.le_refl _) H2
theorem c190 (hd : 18 ≤ d) (ho : tOk T n) (hT : rTp M T n) (hp : p ≤ n) (hlp : len ≤ p) (hA : rAt M r len m) (hR : rRng M r len) {e : Nat} (e1 : 1 ≤ e) (e3 : e ≤ 3) (hu : (if e = 3 then 5 else 4) = u) (hn : e = 1 → ¬ (chr T n (blk T n p) = 91 ∨ atB T n (blk T n p) wNot = true)) (hs : tb s < 5) (ht : aTo T n (e, p, m, s, D, k, cl) x)
    (kf : ∀ M' q' v', offV r len M M' → x.1 ≠ 0 → q' ≤ n → P 0 (rS M' q' x.1 v') G)
    (kk : ∀ M' len' p' m' h D' v', rRs T n r u s k cl x M len p m M' len' p' m' h D' → aJn (chr T n (blk T n p')) = 0 → P 1 (rS M' p' 0 v') G) : sC d 190 [vO 12 82] (rS M p 0 v) G (QI P) := by
  obtain ⟨d, rfl⟩ := sD 1 (d := d) (by omega)
  have h400 := ho.1
  have u45 : u = 4 ∨ u = 5 := by rw [← hu]; split; exact Or.inr rfl; exact Or.inl rfl
  have loop : ∀ y M1 len1 p1 m1 h1 D1 v1, n - p1 ≤ y → chr T n (blk T n p1) ≠ 42 → chr T n (blk T n p1) ≠ 47 → rRs T n r u s k cl x M len p m M1 len1 p1 m1 h1 D1 → sW (sC d) 190 (QI P) 9 [vO 12 82, vN] [] (rS M1 p1 0 v1) G 0 0 := by
    intro y
    induction y with
    | zero =>
      intro M1 len1 p1 m1 h1 D1 v1 hy n42 n47 H
      have hT1 : rTp M1 T n := H.2.1.tp hT
      have hp1 : p1 ≤ n := H.2.2.2.1.2.2.2
      have hbn : blk T n p1 = n := by have a := run_ge (pr := bBl) (T := T) hp1; have b := run_le (pr := bBl) (T := T) hp1; unfold blk; omega
      have hc : chr T n (blk T n p1) = -1 := by unfold chr; rw [if_neg (by omega)]
      have hbb := blk_blk (T := T) hp1
      refine s190_9 (c175 (by omega) ho hT1 hp1 ⟨fun q => by omega, fun _ => c175 (by omega) ho hT1 (run_le hp1) ⟨fun _ => ?_, fun q => ?_⟩⟩)
      · show P 1 (rS M1 (blk T n (blk T n p1)) 0 v1) G
        rw [hbb]
        obtain ⟨t1, o1, a1, ⟨l1, l2, l3, l4⟩, i1, s1, g1⟩ := H
        refine kk M1 len1 _ m1 h1 D1 v1 ⟨t1.place (by omega) (by omega) hp1, o1, a1, ⟨l1, by omega, by omega, by omega⟩, i1, s1, g1⟩ ?_
        rw [hbb, hc]; rfl
      · have hq : chr T n (blk T n (blk T n p1)) = 45 := q
        rw [hbb, hc] at hq
        exact absurd hq (by decide)
    | succ y ih =>
      intro M1 len1 p1 m1 h1 D1 v1 hy n42 n47 H
      have hT1 : rTp M1 T n := H.2.1.tp hT
      have hp1 : p1 ≤ n := H.2.2.2.1.2.2.2
      have hb1 : p1 ≤ blk T n p1 := run_ge hp1
      have hb2 : blk T n p1 ≤ n := run_le hp1
      have hbb := blk_blk (T := T) hp1
      have hH := H
      obtain ⟨t1, o1, a1, ⟨l1, l2, l3, l4⟩, i1, s1, g1⟩ := hH
      have go : ∀ (o : Nat) (xo : Int), xo = (o : Int) → aJn (chr T n (blk T n p1)) = o → (o = 2 ∨ o = 3) → sC d 191 [vO 12 82] (rS M1 (blk T n p1 + 1) 0 v1) G (QI (fun r2 M2 G2 => (r2 ≠ 0 → sC d 194 [vO 12 82, vI xo, vI 0] M2 G2 (QV (fun M3 G3 => sW (sC d) 190 (QI P) 9 [vO 12 82, vN] [] M3 G3 0 0))) ∧ (r2 = 0 → P 0 M2 G2))) := by
        intro o xo hxo hj ho23
        have hlt : blk T n p1 < n := by rcases aJn_c (show aJn (chr T n (blk T n p1)) ≠ 0 by omega) with ⟨z, -⟩ | ⟨z, -⟩ | ⟨z, -⟩ | ⟨z, -⟩ <;> exact chr_lt z (by decide)
        have hbo : bnd o = 5 := by rcases ho23 with z | z <;> rw [z] <;> rfl
        have tj := t1.join u45 hj (by omega) (by rw [hbo]; exact hs)
        have e23 : (if u = 4 then 2 else 3) = 2 ∨ (if u = 4 then 2 else 3) = 3 := by split; exact Or.inl rfl; exact Or.inr rfl
        have eu : (if (if u = 4 then 2 else 3) = 3 then 5 else 4) = u := by rcases u45 with z | z <;> rw [z] <;> rfl
        refine c191 (by omega) ho hT1 (by omega) (by omega) a1 g1 (by omega) (by omega) eu (fun z => by omega) (show tb ((o, D1) :: s) < 6 by show bnd o < 6; omega) tj (fun M' q' v' o' hf hq' => ⟨fun z => absurd rfl z, fun _ => kf M' q' v' (o1.trans o' l1) hf hq'⟩) (fun M2 len2 p2 m2 h2 D2 v2 H2 z1 z2 => ⟨fun _ => ?_, fun z => absurd z (by decide)⟩)
        have tE : aTo T n (u, p2, m2, s, apD o D1 D2, k, cl) x := H2.1.early (b := 5) (by omega) (by omega) rfl (aDm_5 ⟨z1, z2⟩) (if_pos (show 5 ≤ bnd o by omega)).symm
        have J := rJoin h400 hlp H (offV.refl _ _ _) (Nat.le_refl _) (show p1 < blk T n p1 + 1 by omega) H2 ⟨by omega, by omega⟩ tE
        have a2 := H2.2.2.1
        refine c194 (o := o) (w := 0) (by omega) a2.1 a2.2.1 a2.2.2.1 J.1 hxo rfl (by omega) (by decide) ?_
        exact ih _ _ _ _ _ _ v2 (by have := H2.2.2.2.1; omega) z1 z2 J.2
      have stop : chr T n (blk T n p1) ≠ 43 → chr T n (blk T n p1) ≠ 45 → P 1 (rS M1 (blk T n p1) 0 v1) G := fun z1 z2 => by
        refine kk M1 len1 _ m1 h1 D1 v1 ⟨t1.place (by omega) (by omega) hp1, o1, a1, ⟨l1, by omega, by omega, by omega⟩, i1, s1, g1⟩ ?_
        rw [hbb]
        exact aJn_0 ⟨n42, n47, z1, z2⟩
      have up : sUpd (rS M1 (blk T n p1) 0 v1) 82 11 (rS M1 (blk T n p1) 0 v1 82 11 + 1) = rS M1 (blk T n p1 + 1) 0 v1 := by
        rw [rS_p, show ((blk T n p1 : Nat) : Int) + 1 = ((blk T n p1 + 1 : Nat) : Int) from rfl, rS_up]
      refine s190_9 (c175 (by omega) ho hT1 hp1 ⟨fun q => ?_, fun q => c175 (by omega) ho hT1 hb2 ?_⟩)
      · have hlt := chr_lt q (by decide)
        have hc : T (blk T n p1) = 43 := by unfold chr at q; rw [if_pos hlt] at q; exact q
        have hB := rBy (g := 0) (w := v1) ho hT1 hlt
        have h83 := hB.2.2 (by omega)
        refine ⟨⟨hB.1, hB.2.1⟩, fun z => absurd (h83.trans hc) z, fun _ => ⟨⟨by omega, by omega⟩, ?_⟩⟩
        rw [up]
        exact go 2 2 rfl (by rw [q]; rfl) (Or.inl rfl)
      · rw [hbb]
        refine ⟨fun q2 => stop q q2, fun q2 => ?_⟩
        have hlt := chr_lt q2 (by decide)
        have hc : T (blk T n p1) = 45 := by unfold chr at q2; rw [if_pos hlt] at q2; exact q2
        have hB := rBy (g := 0) (w := v1) ho hT1 hlt
        have h83 := hB.2.2 (by omega)
        refine ⟨⟨hB.1, hB.2.1⟩, fun _ => ⟨⟨by omega, by omega⟩, ?_⟩, fun z => absurd (h83.symm.trans z) (by omega)⟩
        rw [up]
        exact go 3 3 rfl (by rw [q2]; rfl) (Or.inr rfl)
  refine e190 (s190_0 (c191 (by omega) ho hT hp hlp hA hR e1 e3 hu hn (by omega) ht (fun M' q' v' o' hf hq' => ⟨fun z => absurd rfl z, fun _ => kf M' q' v' o' hf hq'⟩) (fun M' len' p' m' h D' v' H z1 z2 => ⟨fun _ => loop _ M' len' p' m' h D' v' (Nat.le_refl _) z1 z2 H, fun z => absurd z (by decide)⟩)))
end
