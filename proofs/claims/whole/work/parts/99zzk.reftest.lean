/-! THE RULE PARSER, reference: what closes; a test. -/
section
variable {d n p m len r a0 : Nat} {T : Nat → Int} {P : Int → sM → sG → Prop} {PV : sM → sG → Prop} {M : sM} {G : sG} {f v : Int} {s : stS} {D : den} {k : Int} {cl : List (Int × den)} {x : Int × List (Int × den)}
theorem okA.settle {b p' : Nat} (h : okA n (6, p, m, s, D, k, cl)) (b1 : 1 ≤ b) (b4 : b ≤ 4) (hp : p' ≤ n) : okA n (6, p', m, (stl b s D).1, (stl b s D).2, k, cl) := by
  obtain ⟨h1, h2, h3, h4, h5, h6, h7, h8, h9, h10, h11, h12, h13⟩ := h
  exact ⟨stl_wf s D h1, Nat.le_trans (stl_dpt s D) h2, h3, hp, by decide, h6, h7, fun z => by omega, fun _ => by have := stl_tb (b := b) b1 s D; omega, fun z => by omega, fun z => by omega, fun _ => stl_01 b1 b4 s D h1 (Or.inl ⟨h9 (Or.inr rfl), h12 rfl⟩), fun _ _ => h13 (by decide) (by decide)⟩
theorem aTo.close (hw : wfs s) (hc : chr T n (blk T n p) = 93) (hb : 0 < brk s) (ht : aTo T n (6, p, m, s, D, k, cl) x) : aTo T n (6, blk T n p + 1, m, (stl 1 s D).1.tail, (stl 1 s D).2, k, cl) x := by
  have h := ht.step (by show (6 : Nat) ≠ 7; decide)
  rw [aStep_b (by decide)] at h
  have nw : ∀ w, okL w → ¬ atB T n (blk T n p) w = true := fun w hw y => by have := (atW_c hw (atB_i.1 y)).2.2.2; omega
  have hd : aDm T n 6 (blk T n p) = 1 := by unfold aDm; rw [if_neg (fun z => z.1 rfl), if_neg (by decide), if_neg (nw _ ok_or.1), if_neg (nw _ ok_and.1)]
  rw [hd] at h
  unfold aBeh at h
  rw [if_neg (fun z => z.1 rfl), if_neg (by decide), if_neg (nw _ ok_or.1), if_neg (nw _ ok_and.1), if_pos ⟨hc, by rw [stl_brk (Nat.le_refl _)]; exact hb⟩] at h
  exact h.2 rfl
theorem rClose {y : Nat × den} {N : sM} {p' : Nat} (h : rF2 M r a0 (y :: s) D len m p) (hy : y.1 = 14) (n84 : N 84 = M 84) (n85 : N 85 = M 85) (n90 : N 90 = M 90) (n14 : N 82 14 = M 82 14) (n15 : N 82 15 = M 82 15) (n19 : N 82 19 = M 82 19 - 1) (n16 : N 82 16 = M 82 16 - 1) (hp : p ≤ p') : rF2 N r a0 s D len m p' := by
  obtain ⟨⟨b1, b2, b3, b4, b5⟩, h19, h16, hlp, hR, a, f, H, hk, hs, hH⟩ := h
  have hl : (y :: s).length = s.length + 1 := rfl
  have hd : dpt (y :: s) = (if y.1 = 11 ∨ y.1 = 14 then 1 else 0) + dpt s := rfl
  rw [if_pos (Or.inr hy)] at hd
  have e := rSg_84 (r := r) n84
  refine ⟨⟨n14.trans b1, b2, by rw [n85]; exact b3, n15.trans b4, b5⟩, by rw [n19, h19, hl]; omega, by rw [n16, h16, hd]; omega, by rw [hl] at hlp; omega, fun i hi => by rw [e.1, e.2]; exact hR i hi, a, f, H, ?_, by rw [e.1, e.2]; exact hs, hH⟩
  rcases hk.2 with ⟨-, z⟩ | ⟨z, -⟩
  · exact z.congr (fun i _ => by rw [n90]) (fun i _ => by rw [e.1, e.2]; exact ⟨rfl, rfl⟩)
  · omega
theorem c196 (hd : 10 ≤ d) (ho : tOk T n) (hT : rTp M T n) (hF : rF2 M r a0 s D len m p) (hA : okA n (6, p, m, s, D, k, cl)) (ht : aTo T n (6, p, m, s, D, k, cl) x)
    (kk : ∀ M' len' p' s' D', p ≤ p' → offW r a0 M M' → rF2 M' r a0 s' D' len' m p' → okA n (6, p', m, s', D', k, cl) → aTo T n (6, p', m, s', D', k, cl) x → blk T n p' = p' → ¬ (chr T n p' = 93 ∧ 0 < brk s') → PV (rS M' p' f v) G) : sC d 196 [vO 12 82] (rS M p f v) G (QV PV) := by
  obtain ⟨d, rfl⟩ := sD 1 (d := d) (by omega)
  have h400 := ho.1
  -- settle, then go on
  have set3 : ∀ {Q : sM → sG → Prop} M1 p1 s1 D1 len1, offW r a0 M M1 → rF2 M1 r a0 s1 D1 len1 m p1 → okA n (6, p1, m, s1, D1, k, cl) → aTo T n (6, p1, m, s1, D1, k, cl) x → (∀ M' len', offW r a0 M M' → rF2 M' r a0 (stl 3 s1 D1).1 (stl 3 s1 D1).2 len' m p1 → okA n (6, p1, m, (stl 3 s1 D1).1, (stl 3 s1 D1).2, k, cl) → aTo T n (6, p1, m, (stl 3 s1 D1).1, (stl 3 s1 D1).2, k, cl) x → Q (rS M' p1 f v) G) → sC d 197 [vO 12 82, vI 3] (rS M1 p1 f v) G (QV Q) := by
    intro Q M1 p1 s1 D1 len1 o1 hF1 hA1 ht1 kk1
    have hp1 : p1 ≤ n := hA1.2.2.2.1
    refine c197 (b := 3) (p := p1) (m := m) (r := r) (a0 := a0) (by omega) ⟨by decide, by decide⟩ (by omega) s1 D1 M1 len1 hA1.1 (hA1.2.2.2.2.2.2.2.2.1 (Or.inr rfl)) (hA1.2.2.2.2.2.2.2.2.2.2.2.1 rfl) hF1 (fun M' len' o' hF' => kk1 M' len' (o1.trans o') hF' (hA1.settle (by decide) (by decide) hp1) ?_)
    exact ht1.early (b := 3) (by decide) (by decide) rfl (Nat.le_trans (aDm_2 (Or.inl rfl) (by decide)) (by decide)) (stl_stl (Nat.le_refl _) s1 D1)
  have loop : ∀ y M1 p1 s1 D1 len1, n - p1 ≤ y → p ≤ p1 → offW r a0 M M1 → rF2 M1 r a0 s1 D1 len1 m p1 → okA n (6, p1, m, s1, D1, k, cl) → aTo T n (6, p1, m, s1, D1, k, cl) x → sW (sC d) 196 (QV PV) 5 [vO 12 82] [] (rS M1 p1 f v) G 0 0 := by
    intro y
    induction y with
    | zero =>
      intro M1 p1 s1 D1 len1 hy hpp o1 hF1 hA1 ht1
      have hp1 : p1 ≤ n := hA1.2.2.2.1
      have hbn : blk T n p1 = n := by have a := run_ge (pr := bBl) (T := T) hp1; have b := run_le (pr := bBl) (T := T) hp1; unfold blk; omega
      have hc : chr T n (blk T n p1) = -1 := by unfold chr; rw [if_neg (by omega)]
      have hbb := blk_blk (T := T) hp1
      refine s196_5 (c175 (by omega) ho (o1.tp hT) hp1 ⟨fun _ => ?_, fun z => by rw [hc] at z; exact absurd z (by decide)⟩)
      obtain ⟨a1, h19, h16, hlp, hrest⟩ := hF1
      exact kk M1 len1 _ s1 D1 (by have := run_ge (pr := bBl) (T := T) hp1; unfold blk; omega) o1 ⟨a1, h19, h16, by omega, hrest⟩ (by obtain ⟨b1, b2, b3, b4, b5⟩ := hA1; exact ⟨b1, b2, b3, run_le hp1, b5⟩) (ht1.place (by decide) (by decide) hp1) hbb (fun z => by rw [hc] at z; exact absurd z.1 (by decide))
    | succ y ih =>
      intro M1 p1 s1 D1 len1 hy hpp o1 hF1 hA1 ht1
      have hp1 : p1 ≤ n := hA1.2.2.2.1
      have hb1 : p1 ≤ blk T n p1 := run_ge hp1
      have hb2 : blk T n p1 ≤ n := run_le hp1
      have hbb := blk_blk (T := T) hp1
      have hw35 := wfs_48 hA1.1 hA1.2.1
      obtain ⟨q, hq⟩ : ∃ q, q = blk T n p1 := ⟨_, rfl⟩
      have hAq : okA n (6, q, m, s1, D1, k, cl) := by obtain ⟨b1, b2, b3, b4, b5⟩ := hA1; exact ⟨b1, b2, b3, by omega, b5⟩
      have hFq : rF2 M1 r a0 s1 D1 len1 m q := by obtain ⟨a1, h19, h16, hlp, hrest⟩ := hF1; exact ⟨a1, h19, h16, by omega, hrest⟩
      have htq : aTo T n (6, q, m, s1, D1, k, cl) x := by rw [hq]; exact ht1.place (by decide) (by decide) hp1
      have stop : ¬ (chr T n q = 93 ∧ 0 < brk s1) → PV (rS M1 q f v) G := fun z => kk M1 len1 q s1 D1 (by omega) o1 hFq hAq htq (by rw [hq]; exact hbb) z
      refine s196_5 (c175 (by omega) ho (o1.tp hT) hp1 ?_)
      rw [← hq]
      refine ⟨fun z => stop (fun w => z w.1), fun z => ?_⟩
      have hlt := chr_lt z (by decide)
      have hFq' := hFq
      obtain ⟨a1, h19, h16, hlp, hR, a, fh, H, hk, hs, hH⟩ := hFq'
      refine c199 (by omega) h19 (by omega) hk (fun hb => ⟨fun w => absurd w (by decide), fun _ => ?_⟩) (fun hb => ⟨fun _ => stop (fun w => by omega), fun w => absurd rfl w⟩)
      refine c197 (b := 1) (p := q) (m := m) (r := r) (a0 := a0) (by omega) ⟨by decide, by decide⟩ (by omega) s1 D1 M1 len1 hA1.1 (hA1.2.2.2.2.2.2.2.2.1 (Or.inr rfl)) (hA1.2.2.2.2.2.2.2.2.2.2.2.1 rfl) hFq (fun M2 len2 o2 hF2 => ?_)
      have tc := aTo.close (p := p1) hA1.1 (by rw [← hq]; exact z) hb ht1
      rw [← hq] at tc
      have t0 := stl_tb (b := 1) (Nat.le_refl _) s1 D1
      have hbk := stl_brk (b := 1) (Nat.le_refl _) s1 D1
      have hAs := hAq.settle (b := 1) (Nat.le_refl _) (by decide) (show q ≤ n by omega)
      obtain ⟨w, s', hx, w14, hts⟩ := brk_1 (stl_wf (b := 1) s1 D1 hA1.1) (by omega) (by omega)
      rw [hx] at tc hF2 hAs
      have g19 : rS M2 q f v 82 19 = M2 82 19 := rS_o (Or.inr ⟨by decide, by decide, by decide⟩)
      have g16 : rS M2 q f v 82 16 = M2 82 16 := rS_o (Or.inr ⟨by decide, by decide, by decide⟩)
      have gp : rS M2 q f v 82 11 = (q : Int) := rS_p
      have h19' := hF2.2.1
      have h16' := hF2.2.2.1
      have hl' : (w :: s').length = s'.length + 1 := rfl
      have hd' : dpt (w :: s') = (if w.1 = 11 ∨ w.1 = 14 then 1 else 0) + dpt s' := rfl
      rw [if_pos (Or.inr w14)] at hd'
      have hdl := dpt_len s'
      have hll := hF2.2.2.2.1
      have up : sUpd (sUpd (sUpd (rS M2 q f v) 82 19 (rS M2 q f v 82 19 - 1)) 82 16 (rS M2 q f v 82 16 - 1)) 82 11 (rS M2 q f v 82 11 + 1) = rS (sUpd (sUpd M2 82 19 (M2 82 19 - 1)) 82 16 (M2 82 16 - 1)) (q + 1) f v := by
        rw [g19, g16, gp, show (q : Int) + 1 = ((q + 1 : Nat) : Int) from rfl, rS_u (Or.inr ⟨by decide, by decide, by decide⟩), rS_u (Or.inr ⟨by decide, by decide, by decide⟩), rS_up]
      refine ⟨⟨by omega, by omega⟩, ⟨by omega, by omega⟩, ⟨by omega, by omega⟩, ?_⟩
      rw [up]
      obtain ⟨N, hN⟩ : ∃ N, N = sUpd (sUpd M2 82 19 (M2 82 19 - 1)) 82 16 (M2 82 16 - 1) := ⟨_, rfl⟩
      rw [← hN]
      have oN : offW r a0 M N := by rw [hN]; exact ((o1.trans o2).trans (offW.u (Or.inl ⟨rfl, Or.inr (Or.inr rfl)⟩))).trans (offW.u (Or.inl ⟨rfl, Or.inr (Or.inl rfl)⟩))
      have hFN : rF2 N r a0 s' (stl 1 s1 D1).2 len2 m (q + 1) := rClose hF2 w14 (by rw [hN, sUpd_ne (by decide), sUpd_ne (by decide)]) (by rw [hN, sUpd_ne (by decide), sUpd_ne (by decide)]) (by rw [hN, sUpd_ne (by decide), sUpd_ne (by decide)]) (by rw [hN, sUpd_ni (by decide), sUpd_ni (by decide)]) (by rw [hN, sUpd_ni (by decide), sUpd_ni (by decide)]) (by rw [hN, sUpd_ni (by decide), sUpd_eq]) (by rw [hN, sUpd_eq]) (Nat.le_succ q)
      have hAN : okA n (6, q + 1, m, s', (stl 1 s1 D1).2, k, cl) := by
        obtain ⟨b1, b2, b3, b4, b5, b6, b7, b8, b9, b10, b11, b12, b13⟩ := hAs
        exact ⟨b1.1, by omega, b3, by omega, b5, b6, b7, fun z => by omega, fun _ => hts, fun z => by omega, fun z => by omega, b12, b13⟩
      exact set3 N (q + 1) s' _ len2 oN hFN hAN tc (fun M' len' o' hF' hA' ht' => ih M' (q + 1) _ _ len' (by omega) (by omega) o' hF' hA' ht')
  exact e196 (s196_0 (set3 M p s D len (offW.refl _ _ _) hF hA ht (fun M' len' o' hF' hA' ht' => loop _ M' p _ _ len' (Nat.le_refl _) (Nat.le_refl _) o' hF' hA' ht')))
end
