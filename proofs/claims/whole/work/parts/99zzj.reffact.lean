/-! THE RULE PARSER, reference: a fact; what closes. -/
section
variable {d n p m len r a0 : Nat} {T : Nat → Int} {P : Int → sM → sG → Prop} {PV : sM → sG → Prop} {M : sM} {G : sG} {f v : Int} {s : stS} {D : den} {k : Int} {cl : List (Int × den)} {x : Int × List (Int × den)}
theorem aTo.opn (ho : chr T n (blk T n p) = 91 ∨ atB T n (blk T n p) wNot = true) (ht : aTo T n (1, p, m, s, D, k, cl) x) : (10 ≤ dpt s → x.1 = 1 + 8 * (blk T n p : Int) + 2) ∧ (dpt s < 10 → (chr T n (blk T n p) = 91 → aTo T n (1, blk T n p + 1, m, (14, D) :: s, D, k, cl) x) ∧ (chr T n (blk T n p) ≠ 91 → aTo T n (1, blk T n p + 3, m, (11, D) :: s, D, k, cl) x)) := by
  have h := ht.step (by show (1 : Nat) ≠ 7; decide)
  rw [aStep_o ho] at h
  unfold aOpn at h
  refine ⟨fun z => ?_, fun z => ⟨fun y => ?_, fun y => ?_⟩⟩
  · rw [if_pos z] at h
    rw [h.1 (show 1 + 8 * (blk T n p : Int) + 2 ≠ 0 by omega)]
  · rw [if_neg (by omega), if_pos y] at h
    exact h.2 rfl
  · rw [if_neg (by omega), if_neg y] at h
    exact h.2 rfl
theorem c188 {o q : Nat} {y : Int} (hd : 4 ≤ d) (hF : rF1 M r a0 s len m p) (hd10 : dpt s ≤ 10) (hs : s.length ≤ 35) (hq : q ≤ 400) (ho : o = 11 ∨ o = 14) (hy : y = rCode o) (k0 : 10 ≤ dpt s → P 0 (rS M q (1 + 8 * (q : Int) + 2) v) G) (k1 : dpt s < 10 → ∀ M', offW r a0 M M' → (∀ p' D, p + 1 ≤ p' → rF1 M' r a0 ((o, D) :: s) len m p') → P 1 (rS M' q 0 v) G) : sC d 188 [vO 12 82, vI y] (rS M q 0 v) G (QI P) := by
  obtain ⟨d, rfl⟩ := sD 2 (d := d) (by omega)
  obtain ⟨⟨b1, b2, b3, b4, b5⟩, h19, h16, hlp, hR, H, hk, hH⟩ := hF
  have g19 : rS M q 0 v 82 19 = M 82 19 := rS_o (Or.inr ⟨by decide, by decide, by decide⟩)
  have g16 : rS M q 0 v 82 16 = M 82 16 := rS_o (Or.inr ⟨by decide, by decide, by decide⟩)
  have gp : rS M q 0 v 82 11 = (q : Int) := rS_p
  refine e188 (s188_0 ⟨fun z => ⟨⟨by omega, by omega⟩, ⟨by omega, by omega⟩, ⟨by omega, by omega⟩, ?_⟩, fun z => ?_⟩)
  · rw [g19, g16, h19, show ((s.length : Int)).toNat = s.length from rfl, rS_u (Or.inr ⟨by decide, by decide, by decide⟩), rS_u (Or.inl (by decide)), rS_u (Or.inr ⟨by decide, by decide, by decide⟩)]
    obtain ⟨N, hN⟩ : ∃ N, N = sUpd (sUpd (sUpd M 82 16 (M 82 16 + 1)) 90 s.length y) 82 19 ((s.length : Int) + 1) := ⟨_, rfl⟩
    rw [← hN]
    have oN : offW r a0 M N := by rw [hN]; exact ((offW.u (Or.inl ⟨rfl, Or.inr (Or.inl rfl)⟩)).trans (offW.u (Or.inr rfl))).trans (offW.u (Or.inl ⟨rfl, Or.inr (Or.inr rfl)⟩))
    have n84 : N 84 = M 84 := by rw [hN, sUpd_ne (by decide), sUpd_ne (by decide), sUpd_ne (by decide)]
    have n90 : ∀ i, N 90 i = if i = s.length then y else M 90 i := fun i => by
      rw [hN, sUpd_ne (by decide)]
      by_cases c : i = s.length
      · rw [c, sUpd_eq, if_pos rfl]
      · rw [sUpd_ni c, if_neg c, sUpd_ne (by decide)]
    refine k1 (by omega) N oN (fun p' D hp' => ⟨⟨?_, b2, ?_, ?_, b5⟩, ?_, ?_, ?_, fun i hi => ?_, H, ⟨?_, Or.inl ⟨ho, ?_⟩⟩, hH⟩)
    · rw [hN, sUpd_ni (by decide), sUpd_ne (by decide), sUpd_ni (by decide)]; exact b1
    · rw [hN, sUpd_ne (by decide), sUpd_ne (by decide), sUpd_ne (by decide)]; exact b3
    · rw [hN, sUpd_ni (by decide), sUpd_ne (by decide), sUpd_ni (by decide)]; exact b4
    · rw [hN, sUpd_eq]; rfl
    · have : dpt ((o, D) :: s) = (if o = 11 ∨ o = 14 then 1 else 0) + dpt s := rfl
      rw [this, if_pos ho, hN, sUpd_ni (by decide), sUpd_ne (by decide), sUpd_eq, h16]; omega
    · show len + (s.length + 1) ≤ p'
      omega
    · rw [(rSg_84 n84).1, (rSg_84 n84).2]; exact hR i hi
    · rw [n90, if_pos rfl, hy]
    · exact hk.congr (fun i hi => by rw [n90, if_neg (by omega)]) (fun i hi => by rw [(rSg_84 n84).1, (rSg_84 n84).2]; exact ⟨rfl, rfl⟩)
  · rw [gp]
    refine c178 (by omega) ⟨hq, by decide, by decide⟩ ⟨Or.inl rfl, ?_⟩
    rw [if_pos rfl]
    exact k0 (by omega)
theorem okA.fact {p' m' : Nat} {D' : den} (h : okA n (1, p, m, s, D, k, cl)) (hm : m' ≤ 60) (hp : p' ≤ n) (hD : d01 D') : okA n (6, p', m', s, D', k, cl) := by
  obtain ⟨h1, h2, h3, h4, h5, h6, h7, h8, h9, h10, h11, h12, h13⟩ := h
  exact ⟨h1, h2, hm, hp, by decide, h6, h7, fun z => by omega, fun _ => h9 (Or.inl rfl), fun z => by omega, fun z => by omega, fun _ => hD, fun _ _ => h13 (by decide) (by decide)⟩
theorem c187 (hd : 28 ≤ d) (ho : tOk T n) (hT : rTp M T n) (hF : rF1 M r a0 s len m p) (hA : okA n (1, p, m, s, D, k, cl)) (ht : aTo T n (1, p, m, s, D, k, cl) x)
    (kf : ∀ M' q' v', offW r a0 M M' → x.1 ≠ 0 → q' ≤ n → P 0 (rS M' q' x.1 v') G)
    (kk : ∀ M' len' p' m' s' D' v', p ≤ p' → offW r a0 M M' → rF2 M' r a0 s' D' len' m' p' → okA n (6, p', m', s', D', k, cl) → aTo T n (6, p', m', s', D', k, cl) x → P 1 (rS M' p' 0 v') G) : sC d 187 [vO 12 82] (rS M p 0 v) G (QI P) := by
  obtain ⟨d, rfl⟩ := sD 1 (d := d) (by omega)
  have h400 := ho.1
  -- no more opens: the comparison
  have cmp : ∀ M1 p1 s1 D1 v1, p ≤ p1 → offW r a0 M M1 → rF1 M1 r a0 s1 len m p1 → okA n (1, p1, m, s1, D1, k, cl) → aTo T n (1, p1, m, s1, D1, k, cl) x → ¬ (chr T n (blk T n p1) = 91 ∨ atB T n (blk T n p1) wNot = true) → ∀ q, (q = p1 ∨ q = blk T n p1) → sW (sC d) 187 (QI P) 2 [vO 12 82, vI 0, vN] [] (rS M1 q 0 v1) G 0 0 := by
    intro M1 p1 s1 D1 v1 hpp o1 hF1 hA1 ht1 hn q hq
    have hp1 : p1 ≤ n := hA1.2.2.2.1
    have hts : tb s1 ≤ 3 := hA1.2.2.2.2.2.2.2.2.1 (Or.inl rfl)
    obtain ⟨a1, h19, h16, hlp, hR, H, hk, hH⟩ := hF1
    have hbq : blk T n q = blk T n p1 := by
      rcases hq with z | z
      · rw [z]
      · rw [z]; exact blk_blk hp1
    have hqn : q ≤ n := by
      rcases hq with z | z
      · rw [z]; exact hp1
      · rw [z]; exact run_le hp1
    have hpq : p1 ≤ q := by
      rcases hq with z | z
      · rw [z]; exact Nat.le_refl _
      · rw [z]; exact run_ge hp1
    have htq : aTo T n (1, q, m, s1, D1, k, cl) x := ht1.alike (by show (1 : Nat) ≠ 7; decide) (by show (1 : Nat) ≠ 7; decide) (by rw [aStep_u, aStep_u, hbq])
    have ha0 : a0 ≤ len := hk.ge
    refine s187_2 ⟨fun _ => ?_, fun z => absurd rfl z⟩
    refine c189 (by omega) ho (o1.tp hT) hqn (by omega) a1 hR (by rw [hbq]; exact hn) hts htq (fun M' q' v' o' hf hq' => ⟨Or.inl rfl, kf M' q' v' (o1.trans (o'.w ha0)) hf hq'⟩) (fun M' len' p' m' h D' v' HR hD => ⟨Or.inr rfl, ?_⟩)
    obtain ⟨t2, o2, a2, ⟨l1, l2, l3, l4⟩, i2, s2, g2⟩ := HR
    refine kk M' len' p' m' s1 D' v' (by omega) (o1.trans (o2.w ha0)) ⟨a2, ?_, ?_, by omega, g2, len, h, H, ?_, s2, by omega⟩ (hA1.fact a2.2.2.2.2 l4 hD) t2
    · rw [o2.2.1 19 (by decide) (by decide) (by decide) (by decide)]; exact h19
    · rw [o2.2.1 16 (by decide) (by decide) (by decide) (by decide)]; exact h16
    · exact hk.congr (fun i _ => by rw [o2.1 90 (by decide) (by decide) (by decide)]) (fun i hi => o2.rows hi)
  have loop : ∀ y M1 p1 s1 D1 v1, n - p1 ≤ y → p ≤ p1 → offW r a0 M M1 → rF1 M1 r a0 s1 len m p1 → okA n (1, p1, m, s1, D1, k, cl) → aTo T n (1, p1, m, s1, D1, k, cl) x → sW (sC d) 187 (QI P) 2 [vO 12 82, vI 1, vN] [] (rS M1 p1 0 v1) G 0 0 := by
    intro y
    induction y with
    | zero =>
      intro M1 p1 s1 D1 v1 hy hpp o1 hF1 hA1 ht1
      have hp1 : p1 ≤ n := hA1.2.2.2.1
      have hT1 := o1.tp hT
      have hbn : blk T n p1 = n := by have a := run_ge (pr := bBl) (T := T) hp1; have b := run_le (pr := bBl) (T := T) hp1; unfold blk; omega
      have hc : chr T n (blk T n p1) = -1 := by unfold chr; rw [if_neg (by omega)]
      have hbb := blk_blk (T := T) hp1
      have nw : ¬ atW T n (blk T n p1) wNot := fun z => by have := (atW_c ok_not.1 z).1; omega
      refine s187_2 ⟨fun z => absurd z (by decide), fun _ => c175 (by omega) ho hT1 hp1 (c176 (w := wNot) (by omega) ho hT1 (run_le hp1) ok_not.1 (by rw [ok_not.2.1]; rfl) (fun z => ?_) (fun z => ?_))⟩
      · rw [hbb] at z; exact absurd z nw
      · rw [hbb]
        refine ⟨fun _ => ⟨fun _ => ?_, fun z2 => by rw [hc] at z2; exact absurd z2 (by decide)⟩, fun z2 => absurd rfl z2⟩
        exact cmp M1 p1 s1 D1 v1 hpp o1 hF1 hA1 ht1 (fun y => by rcases y with y | y; rw [hc] at y; exact absurd y (by decide); exact nw (atB_i.1 y)) _ (Or.inr rfl)
    | succ y ih =>
      intro M1 p1 s1 D1 v1 hy hpp o1 hF1 hA1 ht1
      have hp1 : p1 ≤ n := hA1.2.2.2.1
      have hT1 := o1.tp hT
      have hb1 : p1 ≤ blk T n p1 := run_ge hp1
      have hb2 : blk T n p1 ≤ n := run_le hp1
      have hbb := blk_blk (T := T) hp1
      have hw35 := wfs_48 hA1.1 hA1.2.1
      obtain ⟨q, hq⟩ : ∃ q, q = blk T n p1 := ⟨_, rfl⟩
      have opn : (chr T n q = 91 ∨ atB T n q wNot = true) → (10 ≤ dpt s1 → x.1 = 1 + 8 * (q : Int) + 2) ∧ (dpt s1 < 10 → (chr T n q = 91 → aTo T n (1, q + 1, m, (14, D1) :: s1, D1, k, cl) x ∧ okA n (1, q + 1, m, (14, D1) :: s1, D1, k, cl)) ∧ (chr T n q ≠ 91 → aTo T n (1, q + 3, m, (11, D1) :: s1, D1, k, cl) x ∧ okA n (1, q + 3, m, (11, D1) :: s1, D1, k, cl))) := by
        intro ho'
        rw [hq] at ho'
        have h := ht1.opn ho'
        have hk := hA1.opn ho'
        rw [← hq] at h hk
        unfold aOpn at hk
        refine ⟨h.1, fun z => ⟨fun y => ⟨(h.2 z).1 y, ?_⟩, fun y => ⟨(h.2 z).2 y, ?_⟩⟩⟩
        · rw [if_neg (by omega), if_pos y] at hk
          exact (hk rfl).1
        · rw [if_neg (by omega), if_neg y] at hk
          exact (hk rfl).1
      have fl : 10 ≤ dpt s1 → (chr T n q = 91 ∨ atB T n q wNot = true) → P 0 (rS M1 q (1 + 8 * (q : Int) + 2) v1) G := fun z ho' => by
        have hx := (opn ho').1 z
        rw [← hx]
        exact kf M1 q v1 o1 (by rw [hx]; omega) (by omega)
      refine s187_2 ⟨fun z => absurd z (by decide), fun _ => c175 (by omega) ho hT1 hp1 (c176 (w := wNot) (by omega) ho hT1 (run_le hp1) ok_not.1 (by rw [ok_not.2.1]; rfl) (fun z => ?_) (fun z => ?_))⟩
      · rw [hbb, ← hq] at z ⊢
        have ho' : chr T n q = 91 ∨ atB T n q wNot = true := Or.inr (atB_y z)
        have hwc := atW_c ok_not.1 z
        have hn3 := hwc.2.1
        rw [ok_not.2.2] at hn3
        have hl3 : lts T n q = q + 3 := (atW_lts (by omega) ok_not.1 z).trans (by rw [ok_not.2.2])
        refine ⟨fun z2 => absurd z2 (by decide), fun _ => ?_⟩
        refine c188 (o := 11) (by omega) hF1 hA1.2.1 hw35 (by omega) (Or.inl rfl) rfl (fun z3 => ⟨fun w => absurd rfl w, fun _ => fl z3 ho'⟩) (fun z3 M' o' hF' => ⟨fun _ => ?_, fun w => absurd w (by decide)⟩)
        refine c180 (by omega) ho (o'.tp hT1) (by omega) ?_
        rw [hl3]
        have hh := ((opn ho').2 z3).2 (by omega)
        exact ih M' (q + 3) _ D1 v1 (by omega) (by omega) (o1.trans o') (hF' (q + 3) D1 (by omega)) hh.2 hh.1
      · rw [hbb, ← hq] at z ⊢
        refine ⟨fun _ => ⟨fun z2 => ?_, fun z2 => ?_⟩, fun w => absurd rfl w⟩
        · have hno : ¬ (chr T n (blk T n p1) = 91 ∨ atB T n (blk T n p1) wNot = true) := fun y => by
            rw [← hq] at y
            rcases y with y | y
            · exact z2 y
            · exact z (atB_i.1 y)
          exact cmp M1 p1 s1 D1 v1 hpp o1 hF1 hA1 ht1 hno q (Or.inr hq)
        · have ho' : chr T n q = 91 ∨ atB T n q wNot = true := Or.inl z2
          have hlt := chr_lt z2 (by decide)
          refine c188 (o := 14) (by omega) hF1 hA1.2.1 hw35 (by omega) (Or.inr rfl) rfl (fun z3 => ⟨fun w => absurd rfl w, fun _ => fl z3 ho'⟩) (fun z3 M' o' hF' => ⟨fun _ => ?_, fun w => absurd w (by decide)⟩)
          have hh := ((opn ho').2 z3).1 z2
          have up : sUpd (rS M' q 0 v1) 82 11 (rS M' q 0 v1 82 11 + 1) = rS M' (q + 1) 0 v1 := by
            rw [rS_p, show (q : Int) + 1 = ((q + 1 : Nat) : Int) from rfl, rS_up]
          have gp : rS M' q 0 v1 82 11 = (q : Int) := rS_p
          rw [up]
          exact ⟨⟨by omega, by omega⟩, ih M' (q + 1) _ D1 v1 (by omega) (by omega) (o1.trans o') (hF' (q + 1) D1 (by omega)) hh.2 hh.1⟩
  exact e187 (s187_0 (loop _ M p s D v (Nat.le_refl _) (Nat.le_refl _) (offW.refl _ _ _) hF hA ht))
end
