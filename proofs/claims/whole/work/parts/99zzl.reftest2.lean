/-! THE RULE PARSER, reference: a test, from its first fact to its last. -/
section
variable {d n p m len r a0 : Nat} {T : Nat → Int} {P : Int → sM → sG → Prop} {PV : sM → sG → Prop} {M : sM} {G : sG} {f v : Int} {s : stS} {D : den} {k : Int} {cl : List (Int × den)} {x : Int × List (Int × den)}
theorem aTo.or (hw : atB T n (blk T n p) wOr = true) (hA : okA n (6, p, m, s, D, k, cl)) (ht : aTo T n (6, p, m, s, D, k, cl) x) : aTo T n (1, blk T n p + 2, m, (13, (stl 1 s D).2) :: (stl 1 s D).1, (stl 1 s D).2, k, cl) x ∧ okA n (1, blk T n p + 2, m, (13, (stl 1 s D).2) :: (stl 1 s D).1, (stl 1 s D).2, k, cl) := by
  have h := ht.step (by show (6 : Nat) ≠ 7; decide)
  have hk := hA.beh (T := T) (by decide) (by decide)
  rw [aStep_b (by decide)] at h
  have hd : aDm T n 6 (blk T n p) = 1 := by unfold aDm; rw [if_neg (fun z => z.1 rfl), if_neg (by decide), if_pos hw]
  rw [hd] at h hk
  unfold aBeh at h hk
  rw [if_neg (fun z => z.1 rfl), if_neg (show ¬ (6 : Nat) = 4 by decide), if_pos hw] at h hk
  exact ⟨h.2 rfl, (hk rfl).1⟩
theorem aTo.and (hw : atB T n (blk T n p) wAnd = true) (hA : okA n (6, p, m, s, D, k, cl)) (ht : aTo T n (6, p, m, s, D, k, cl) x) : aTo T n (1, blk T n p + 3, m, (12, (stl 2 s D).2) :: (stl 2 s D).1, (stl 2 s D).2, k, cl) x ∧ okA n (1, blk T n p + 3, m, (12, (stl 2 s D).2) :: (stl 2 s D).1, (stl 2 s D).2, k, cl) := by
  have h := ht.step (by show (6 : Nat) ≠ 7; decide)
  have hk := hA.beh (T := T) (by decide) (by decide)
  have no : ¬ atB T n (blk T n p) wOr = true := fun y => by
    have a := (atW_c ok_or.1 (atB_i.1 y)).2.2.1
    have b := (atW_c ok_and.1 (atB_i.1 hw)).2.2.1
    rw [a] at b
    exact absurd b (by decide)
  rw [aStep_b (by decide)] at h
  have hd : aDm T n 6 (blk T n p) = 2 := by unfold aDm; rw [if_neg (fun z => z.1 rfl), if_neg (by decide), if_neg no, if_pos hw]
  rw [hd] at h hk
  unfold aBeh at h hk
  rw [if_neg (fun z => z.1 rfl), if_neg (show ¬ (6 : Nat) = 4 by decide), if_neg no, if_pos hw] at h hk
  exact ⟨h.2 rfl, (hk rfl).1⟩
theorem aTo.last (ho : ¬ atB T n (blk T n p) wOr = true) (ha : ¬ atB T n (blk T n p) wAnd = true) (hc : ¬ (chr T n (blk T n p) = 93 ∧ 0 < brk s)) (ht : aTo T n (6, p, m, s, D, k, cl) x) : (0 < brk s → x.1 = 1 + 8 * (blk T n p : Int)) ∧ (brk s = 0 → aTo T n (6, p, m, (stl 1 s D).1, (stl 1 s D).2, k, cl) x ∧ (chr T n (blk T n p) = 59 → aTo T n (0, blk T n p + 1, m, [], (stl 1 s D).2, k, (k, (stl 1 s D).2) :: cl) x) ∧ (chr T n (blk T n p) = -1 → x = (0, (k, (stl 1 s D).2) :: cl)) ∧ (chr T n (blk T n p) ≠ 59 → chr T n (blk T n p) ≠ -1 → x.1 = 1 + 8 * (blk T n p : Int))) := by
  have h := ht.step (by show (6 : Nat) ≠ 7; decide)
  rw [aStep_b (by decide)] at h
  have hd : aDm T n 6 (blk T n p) = 1 := by unfold aDm; rw [if_neg (fun z => z.1 rfl), if_neg (by decide), if_neg ho, if_neg ha]
  have hbk := stl_brk (b := 1) (Nat.le_refl _) s D
  rw [hd] at h
  unfold aBeh at h
  rw [if_neg (fun z => z.1 rfl), if_neg (show ¬ (6 : Nat) = 4 by decide), if_neg ho, if_neg ha, hbk, if_neg hc] at h
  refine ⟨fun z => ?_, fun z => ⟨ht.early (b := 1) (by decide) (by decide) rfl (by rw [hd]; exact Nat.le_refl _) (stl_stl (Nat.le_refl _) s D), fun y => ?_, fun y => ?_, fun y1 y2 => ?_⟩⟩
  · rw [if_neg (fun w => by omega), if_neg (fun w => by omega)] at h
    rw [h.1 (show 1 + 8 * (blk T n p : Int) ≠ 0 by omega)]
  · rw [if_pos ⟨y, z⟩] at h
    exact h.2 rfl
  · rw [if_neg (fun w => by omega), if_pos ⟨y, z⟩] at h
    exact (h.2 rfl).fin' rfl
  · rw [if_neg (fun w => y1 w.1), if_neg (fun w => y2 w.1)] at h
    rw [h.1 (show 1 + 8 * (blk T n p : Int) ≠ 0 by omega)]
theorem rPush {o q : Nat} {xo : Int} {M : sM} (hF : rF2 M r a0 s D len m p) (ho : o = 12 ∨ o = 13) (hxo : xo = (o : Int)) (hq : p + 1 ≤ q) : offW r a0 M (sUpd (sUpd M 90 s.length xo) 82 19 ((s.length : Int) + 1)) ∧ rF1 (sUpd (sUpd M 90 s.length xo) 82 19 ((s.length : Int) + 1)) r a0 ((o, D) :: s) len m q := by
  obtain ⟨⟨b1, b2, b3, b4, b5⟩, h19, h16, hlp, hR, a, f, H, hk, hs, hH⟩ := hF
  obtain ⟨N, hN⟩ : ∃ N, N = sUpd (sUpd M 90 s.length xo) 82 19 ((s.length : Int) + 1) := ⟨_, rfl⟩
  rw [← hN]
  have n84 : N 84 = M 84 := by rw [hN, sUpd_ne (by decide), sUpd_ne (by decide)]
  have e := rSg_84 (r := r) n84
  have n90 : ∀ i, N 90 i = if i = s.length then xo else M 90 i := fun i => by
    rw [hN, sUpd_ne (by decide)]
    by_cases c : i = s.length
    · rw [c, sUpd_eq, if_pos rfl]
    · rw [sUpd_ni c, if_neg c]
  have hd : dpt ((o, D) :: s) = (if o = 11 ∨ o = 14 then 1 else 0) + dpt s := rfl
  refine ⟨by rw [hN]; exact (offW.u (Or.inr rfl)).trans (offW.u (Or.inl ⟨rfl, Or.inr (Or.inr rfl)⟩)), ⟨?_, b2, ?_, ?_, b5⟩, ?_, ?_, ?_, fun i hi => ?_, H + f, ⟨?_, Or.inr ⟨ho, a, f, H, ?_, Nat.le_refl _, ?_⟩⟩, hH⟩
  · rw [hN, sUpd_ni (by decide), sUpd_ne (by decide)]; exact b1
  · rw [hN, sUpd_ne (by decide), sUpd_ne (by decide)]; exact b3
  · rw [hN, sUpd_ni (by decide), sUpd_ne (by decide)]; exact b4
  · rw [hN, sUpd_eq]; rfl
  · rw [hd, if_neg (by omega), hN, sUpd_ni (by decide), sUpd_ne (by decide), h16, Nat.zero_add]
  · show len + (s.length + 1) ≤ q
    omega
  · rw [e.1, e.2]; exact hR i hi
  · rw [n90, if_pos rfl, hxo]; exact (if_neg (show ¬ o = 14 by omega)).symm
  · exact hk.congr (fun i hi => by rw [n90, if_neg (by omega)]) (fun i _ => by rw [e.1, e.2]; exact ⟨rfl, rfl⟩)
  · rw [e.1, e.2]; exact hs
theorem c186 (hd : 34 ≤ d) (ho : tOk T n) (hT : rTp M T n) (h0 : rAt M r len m) (hR : rRng M r len) (hlp : len ≤ p) (hA : okA n (1, p, m, [], D, k, cl)) (ht : aTo T n (1, p, m, [], D, k, cl) x)
    (kf : ∀ M' q' v', offW r len M M' → x.1 ≠ 0 → q' ≤ n → P 0 (rS M' q' x.1 v') G)
    (kk : ∀ M' len' p' m' D' h v', p ≤ p' → offW r len M M' → rAt M' r len' m' → rRng M' r len' → len' ≤ p' → rSeg (rSg M' r) (rVg M' r) len len' h D' → h ≤ m' → okA n (6, p', m', [], D', k, cl) → aTo T n (6, p', m', [], D', k, cl) x → blk T n p' = p' → ¬ atB T n p' wOr = true → ¬ atB T n p' wAnd = true → P 1 (rS M' p' 0 v') G) : sC d 186 [vO 12 82] (rS M p 0 v) G (QI P) := by
  obtain ⟨d, rfl⟩ := sD 1 (d := d) (by omega)
  have h400 := ho.1
  have cw : ∀ {P : Int → sM → sG → Prop} {M1 : sM} {q : Nat} {w : List Nat} {y g z : Int}, rTp M1 T n → q ≤ n → blk T n q = q → okL w → y = ((wvW w : Nat) : Int) → (atB T n q w = true → P 1 (rS M1 q g z) G) → (¬ atB T n q w = true → P 0 (rS M1 q g z) G) → sC d 176 [vO 12 82, vL y] (rS M1 q g z) G (QI P) := fun hT1 hq hb hw hy k1 k0 => by
    refine c176 (by omega) ho hT1 hq hw hy (fun z => ?_) (fun z => ?_)
    · rw [hb] at z ⊢; exact k1 (atB_y z)
    · rw [hb] at z ⊢; exact k0 (atB_n z)
  have loop : ∀ y M1 p1 m1 s1 D1 len1 v1, n - p1 < y → p ≤ p1 → offW r len M M1 → rF1 M1 r len s1 len1 m1 p1 → okA n (1, p1, m1, s1, D1, k, cl) → aTo T n (1, p1, m1, s1, D1, k, cl) x → sW (sC d) 186 (QI P) 12 [vO 12 82, vI 1, vN] [] (rS M1 p1 0 v1) G 0 0 := by
    intro y
    induction y with
    | zero => intro M1 p1 m1 s1 D1 len1 v1 hy hpp; omega
    | succ y ih =>
      intro M1 p1 m1 s1 D1 len1 v1 hy hpp o1 hF1 hA1 ht1
      refine s186_12 ⟨fun z => absurd z (by decide), fun _ => ?_⟩
      refine c187 (by omega) ho (o1.tp hT) hF1 hA1 ht1 (fun M' q' v' o' hf hq' => ⟨fun z => absurd rfl z, fun _ => kf M' q' v' (o1.trans o') hf hq'⟩) (fun M2 len2 p2 m2 s2 D2 v2 hp2 o2 hF2 hA2 ht2 => ⟨fun _ => ?_, fun z => absurd z (by decide)⟩)
      have hT2 := (o1.trans o2).tp hT
      refine c196 (by omega) ho hT2 hF2 hA2 ht2 (fun M3 len3 q s3 D3 hp3 o3 hF3 hA3 ht3 hb hnc => ?_)
      have hT3 := o3.tp hT2
      have oA := (o1.trans o2).trans o3
      have hqn : q ≤ n := hA3.2.2.2.1
      have hw35 := wfs_48 hA3.1 hA3.2.1
      have hts : tb s3 ≤ 3 := hA3.2.2.2.2.2.2.2.2.1 (Or.inr rfl)
      have hd3 : d01 D3 := hA3.2.2.2.2.2.2.2.2.2.2.2.1 rfl
      have hbq : blk T n q = q := hb
      -- a joint
      have jn1 : ∀ (o b w : Nat) (xo : Int), (o = 13 ∧ b = 1) ∨ (o = 12 ∧ b = 2) → xo = (o : Int) → aTo T n (1, q + w, m2, (o, (stl b s3 D3).2) :: (stl b s3 D3).1, (stl b s3 D3).2, k, cl) x → okA n (1, q + w, m2, (o, (stl b s3 D3).2) :: (stl b s3 D3).1, (stl b s3 D3).2, k, cl) → 2 ≤ w → sC d 197 [vO 12 82, vI (b : Int)] (rS M3 (q + w) 0 v2) G (QV (fun M4 G4 => (0 ≤ M4 82 19 ∧ M4 82 19 < 400) ∧ sI ((M4 82 19) + 1) ∧ sW (sC d) 186 (QI P) 12 [vO 12 82, vI 1, vN] [] (sUpd (sUpd M4 90 (M4 82 19).toNat xo) 82 19 ((M4 82 19) + 1)) G4 0 0)) := by
        intro o b w xo hob hxo htj hAj hw2
        refine c197 (p := q) (m := m2) (r := r) (a0 := len) (by omega) ⟨by omega, by omega⟩ (by omega) s3 D3 M3 len3 hA3.1 hts hd3 hF3 (fun M4 len4 o4 hF4 => ?_)
        have g19 : rS M4 (q + w) 0 v2 82 19 = M4 82 19 := rS_o (Or.inr ⟨by decide, by decide, by decide⟩)
        have h19 := hF4.2.1
        have hws : (stl b s3 D3).1.length ≤ 35 := wfs_48 (stl_wf s3 D3 hA3.1) (Nat.le_trans (stl_dpt s3 D3) hA3.2.1)
        refine ⟨⟨by omega, by omega⟩, ⟨by omega, by omega⟩, ?_⟩
        rw [g19, h19, show (((stl b s3 D3).1.length : Int)).toNat = (stl b s3 D3).1.length from rfl, rS_u (Or.inl (by decide)), rS_u (Or.inr ⟨by decide, by decide, by decide⟩)]
        have pu := rPush (q := q + w) hF4 (show o = 12 ∨ o = 13 by omega) hxo (by omega)
        have hqw : q + w ≤ n := hAj.2.2.2.1
        exact ih _ (q + w) m2 _ _ len4 v2 (by omega) (by omega) ((oA.trans o4).trans pu.1) pu.2 hAj htj
      have t49 : (atB T n q wOr = true ∨ atB T n q wAnd = true) → sW (sC d) 186 (QI P) 49 [vO 12 82, vN, vN] [] (rS M3 q 0 v2) G 0 0 := by
        intro hor
        refine s186_49 (cw hT3 hqn hbq ok_and.1 (by rw [ok_and.2.1]; rfl) (fun z => ?_) (fun z => ?_))
        · refine ⟨fun w => absurd w (by decide), fun _ => ?_⟩
          have hl : lts T n q = q + 3 := (atW_lts hqn ok_and.1 (atB_i.1 z)).trans (by rw [ok_and.2.2])
          refine c180 (by omega) ho hT3 hqn ?_
          rw [hl]
          have ha := aTo.and (p := q) (by rw [hbq]; exact z) hA3 ht3
          rw [hbq] at ha
          exact c198 (o := 12) (by omega) (by omega) (jn1 12 2 3 12 (Or.inr ⟨rfl, rfl⟩) rfl ha.1 ha.2 (by decide))
        · refine ⟨fun _ => ?_, fun w => absurd rfl w⟩
          have z2 := hor.resolve_right z
          have hl : lts T n q = q + 2 := (atW_lts hqn ok_or.1 (atB_i.1 z2)).trans (by rw [ok_or.2.2])
          refine c180 (by omega) ho hT3 hqn ?_
          rw [hl]
          have ha := aTo.or (p := q) (by rw [hbq]; exact z2) hA3 ht3
          rw [hbq] at ha
          exact c198 (o := 13) (by omega) (by omega) (jn1 13 1 2 13 (Or.inl ⟨rfl, rfl⟩) rfl ha.1 ha.2 (by decide))
      refine cw hT3 hqn hbq ok_and.1 (by rw [ok_and.2.1]; rfl) (fun z => ⟨fun _ => t49 (Or.inr z), fun w => absurd w (by decide)⟩) (fun z1 => ⟨fun w => absurd rfl w, fun _ => ?_⟩)
      refine cw hT3 hqn hbq ok_or.1 (by rw [ok_or.2.1]; rfl) (fun z => ⟨fun w => absurd w (by decide), fun _ => t49 (Or.inl z)⟩) (fun z2 => ⟨fun _ => ?_, fun w => absurd rfl w⟩)
      -- the end
      have hl := aTo.last (p := q) (by rw [hbq]; exact z2) (by rw [hbq]; exact z1) (by rw [hbq]; exact hnc) ht3
      rw [hbq] at hl
      have hF3' := hF3
      obtain ⟨a3, h19, h16, hll, hR3, a, fh, H, hk, hs, hH⟩ := hF3'
      refine s186_12 ⟨fun _ => ?_, fun w => absurd rfl w⟩
      refine c199 (by omega) h19 (by omega) hk (fun hbr => ⟨fun w => absurd w (by decide), fun _ => ?_⟩) (fun hbr => ⟨fun _ => ?_, fun w => absurd rfl w⟩)
      · refine c175 (by omega) ho hT3 hqn ?_
        rw [hbq, rS_p]
        refine c178 (by omega) ⟨by omega, by decide, by decide⟩ ⟨Or.inl rfl, ?_⟩
        have hx := hl.1 hbr
        rw [if_pos rfl, Int.add_zero, ← hx]
        exact kf M3 q v2 oA (by rw [hx]; omega) hqn
      · have hl2 := hl.2 hbr
        refine c197 (b := 1) (p := q) (m := m2) (r := r) (a0 := len) (by omega) ⟨by decide, by decide⟩ (by omega) s3 D3 M3 len3 hA3.1 hts hd3 hF3 (fun M4 len4 o4 hF4 => ?_)
        have t0 := stl_tb (b := 1) (Nat.le_refl _) s3 D3
        have hbk := stl_brk (b := 1) (Nat.le_refl _) s3 D3
        have e0 := brk_0 (stl_wf (b := 1) s3 D3 hA3.1) (by omega) (by omega)
        have hA4 := hA3.settle (b := 1) (Nat.le_refl _) (by decide) hqn
        rw [e0] at hF4 hA4
        have ht4 := hl2.1
        rw [e0] at ht4
        obtain ⟨a4, h19', h16', hll', hR4, a', f', H', hk', hs', hH'⟩ := hF4
        have ea : a' = len := hk'
        rw [ea] at hs'
        exact kk M4 len4 q m2 _ f' v2 (by omega) (oA.trans o4) a4 hR4 (by have : ([] : stS).length = 0 := rfl; omega) hs' (by omega) hA4 ht4 hbq z2 z1
  have g19 : ∀ i, rS M p 0 v 82 i = rS M p 0 v 82 i := fun i => rfl
  refine e186 (s186_0 ?_)
  rw [rS_u (Or.inr ⟨by decide, by decide, by decide⟩), rS_u (Or.inr ⟨by decide, by decide, by decide⟩)]
  obtain ⟨N, hN⟩ : ∃ N, N = sUpd (sUpd M 82 19 0) 82 16 0 := ⟨_, rfl⟩
  rw [← hN]
  have n84 : N 84 = M 84 := by rw [hN, sUpd_ne (by decide), sUpd_ne (by decide)]
  have e := rSg_84 (r := r) n84
  obtain ⟨b1, b2, b3, b4, b5⟩ := h0
  have oN : offW r len M N := by rw [hN]; exact (offW.u (Or.inl ⟨rfl, Or.inr (Or.inr rfl)⟩)).trans (offW.u (Or.inl ⟨rfl, Or.inr (Or.inl rfl)⟩))
  refine loop (n - p + 1) N p m [] D len v (Nat.lt_succ_self _) (Nat.le_refl _) oN ⟨⟨?_, b2, ?_, ?_, b5⟩, ?_, ?_, hlp, fun i hi => ?_, 0, rfl, Nat.zero_le _⟩ hA ht
  · rw [hN, sUpd_ni (by decide), sUpd_ni (by decide)]; exact b1
  · rw [hN, sUpd_ne (by decide), sUpd_ne (by decide)]; exact b3
  · rw [hN, sUpd_ni (by decide), sUpd_ni (by decide)]; exact b4
  · rw [hN, sUpd_ni (by decide), sUpd_eq]; rfl
  · rw [hN, sUpd_eq]; rfl
  · rw [e.1, e.2]; exact hR i hi
end
