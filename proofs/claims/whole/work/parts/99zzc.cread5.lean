/-! THE RULE PARSER, class: behind a fact; the step. -/
section
variable {d n p m e p' m' : Nat} {T : Nat → Int} {P : Int → sM → sG → Prop} {PV : sM → sG → Prop} {M : sM} {G : sG} {s : stS} {D : den} {k : Int} {cl : List (Int × den)}
theorem c49o {o b w : Nat} (hd : 8 ≤ d) (ho : tOk T n) (hS : cSt M T n (e, p, m, s, D, k, cl)) (hA : okA n (e, p, m, s, D, k, cl)) (e56 : e = 5 ∨ e = 6) (ho1 : (o = 13 ∧ b = 1) ∨ (o = 12 ∧ b = 2)) (hw2 : 2 ≤ w) (hwn : p + w ≤ n) (kk : ∀ M', offR2 M M' → cSt M' T n (1, p + w, m, (o, (stl b s D).2) :: (stl b s D).1, (stl b s D).2, k, cl) → PV M' G) :
    sC d 46 [vO 7 2, vI (b : Int)] (sUpd M 3 2 (M 3 2 + (w : Int))) G (QV (fun M2 G2 => sC d 44 [vO 7 2, vI (o : Int), vI 0] M2 G2 (QI (fun r3 M3 G3 => sC d 40 [vO 7 2, vI (o : Int), vI (b : Int), vI r3] M3 G3 (QV (fun M4 G4 => PV (sUpd M4 2 14 1) G4)))))) := by
  have hS' := hS
  obtain ⟨h1, h2, h3, h4, h5, h6, h7, h8, -⟩ := hS'
  have hp : p ≤ n := hA.2.2.2.1
  have h400 := ho.1
  have hC := hS.c2 (by omega) (by omega)
  have h8' : M 7 cl.length = k := h8 (by omega) (by omega)
  have hw := wfs_48 hA.1 hA.2.1
  have hC' : cCr2 (sUpd M 3 2 (M 3 2 + (w : Int))) s D cl m p := hC.congr (sUpd_ne (by decide)) (sUpd_ne (by decide)) (sUpd_ne (by decide)) (sUpd_ne (by decide)) (sUpd_ne (by decide)) (fun i _ => by rw [sUpd_ne (by decide), sUpd_ne (by decide)]; exact ⟨rfl, rfl⟩) (by rw [sUpd_ne (by decide)]; exact ⟨rfl, rfl, rfl⟩) (Nat.le_refl _) (Nat.le_refl _)
  refine c46 (by omega) (by omega) (by omega) s D _ hA.1 (by omega) hC' (fun M1 o1 c1 => ?_)
  have hw1 : (stl b s D).1.length ≤ 35 := wfs_48 (stl_wf s D hA.1) (Nat.le_trans (stl_dpt s D) hA.2.1)
  refine pushJT (o := o) (b := b) (p' := p + w) (by omega) c1 (by omega) (by omega) (by omega) rfl (by rcases ho1 with ⟨z, y⟩ | ⟨z, y⟩ <;> rw [z, y] <;> rfl) (by omega) (fun N n1 n2 c2 => ?_)
  have oN : offR2 M (sUpd N 2 14 1) := by
    refine offR2.trans (M' := M1) ((offR2.u (Or.inr (Or.inl ⟨rfl, Or.inl rfl⟩))).trans o1.r) ?_
    exact offR2.trans (M' := N) ⟨fun a a2 a3 a5 => n1 a a2 (by omega) (by omega) (by omega) (by omega) (by omega), fun i i2 i3 => by rw [n1 3 (by decide) (by decide) (by decide) (by decide) (by decide) (by decide)]⟩ (offR2.u (Or.inl rfl))
  have en3 : N 3 = sUpd M 3 2 (M 3 2 + (w : Int)) 3 := (n1 3 (by decide) (by decide) (by decide) (by decide) (by decide) (by decide)).trans (o1.1 3 (by decide) (by decide) (by decide))
  have en7 : N 7 = M 7 := ((n1 7 (by decide) (by decide) (by decide) (by decide) (by decide) (by decide)).trans (o1.1 7 (by decide) (by decide) (by decide))).trans (sUpd_ne (by decide))
  have en2 : ∀ i, i ≠ 8 → i ≠ 10 → i ≠ 12 → N 2 i = M 2 i := fun i i1 i2 i3 => ((n2 i i1 i2).trans (o1.2 i i1 i2 i3)).trans (by rw [sUpd_ne (by decide)])
  have hbk : brk ((o, (stl b s D).2) :: (stl b s D).1) = brk s := by
    show (if o = 14 then 1 else 0) + brk (stl b s D).1 = _
    rw [if_neg (by omega), stl_brk (by omega), Nat.zero_add]
  refine kk _ oN ⟨oN.tp h1, ?_, ?_, ?_, ?_, ?_, ?_, fun _ _ => ?_, fun _ => ?_, fun z => by omega⟩
  · rw [sUpd_ne (by decide), en3, sUpd_eq, h2]; rfl
  · rw [sUpd_ne (by decide), en3, sUpd_ni (by decide), h3]
  · rw [sUpd_ni (by decide), en2 9 (by decide) (by decide) (by decide), h4]
  · rw [sUpd_ni (by decide), en2 11 (by decide) (by decide) (by decide), h5]
  · rw [sUpd_ni (by decide), en2 13 (by decide) (by decide) (by decide), h6, hbk]
  · rw [sUpd_eq]; rfl
  · rw [sUpd_ne (by decide), en7, h8']
  · exact c2.congr (sUpd_ne (by decide)) (sUpd_ne (by decide)) (sUpd_ne (by decide)) (sUpd_ne (by decide)) (sUpd_ne (by decide)) (fun i _ => by rw [sUpd_ne (by decide), sUpd_ne (by decide)]; exact ⟨rfl, rfl⟩) (by rw [sUpd_ni (by decide), sUpd_ni (by decide), sUpd_ni (by decide)]; exact ⟨rfl, rfl, rfl⟩) (Nat.le_refl _)
theorem c49 (hd : 10 ≤ d) (ho : tOk T n) (hS : cSt M T n (e, p, m, s, D, k, cl)) (hA : okA n (e, p, m, s, D, k, cl)) (e56 : e = 5 ∨ e = 6) (hj : e = 6 ∨ aJn (chr T n p) = 0) (kk : cK T n M G PV (aBeh T n e p m k cl (stl (aDm T n e p) s D))) : sC d 49 [vO 7 2, vI (chr T n p)] M G (QV PV) := by
  obtain ⟨d, rfl⟩ := sD 2 (d := d) (by omega)
  have hS' := hS
  obtain ⟨h1, h2, h3, h4, h5, h6, h7, h8, -⟩ := hS'
  have hp : p ≤ n := hA.2.2.2.1
  have hm : m ≤ 60 := hA.2.2.1
  have hcl : cl.length < 12 := hA.2.2.2.2.2.2.2.2.2.2.2.2 (by omega) (by omega)
  have h400 := ho.1
  have hC := hS.c2 (by omega) (by omega)
  have h8' : M 7 cl.length = k := h8 (by omega) (by omega)
  have hw := wfs_48 hA.1 hA.2.1
  have hM : cS M p 0 = M := cS_self.2 ⟨h2, h3⟩
  have hnj : ¬ (e ≠ 6 ∧ aJn (chr T n p) ≠ 0) := fun z => by rcases hj with y | y; exact z.1 y; exact z.2 y
  have cw : ∀ {P : Int → sM → sG → Prop} {j : Nat} {w : List Nat}, j < 21 → sByt.getD j [] = w → w.length ≤ 20 → (atW T n p w → P 1 M G) → (¬ atW T n p w → P 0 M G) → sC (d + 1) 23 [vO 4 3, vS j] M G (QI P) := fun hj hw hl k1 k0 => by
    have := c23 (d := d + 1) (G := G) (M := M) (p := p) (f := 0) (by omega) hj hw hl ho h1 hp (by rw [hM]; exact k1) (by rw [hM]; exact k0)
    rw [hM] at this
    exact this
  unfold aBeh aDm at kk
  rw [if_neg hnj, if_neg hnj, if_neg (show ¬ e = 4 by omega), if_neg (show ¬ e = 4 by omega)] at kk
  refine e49 (s49_0 (cw (w := wOr) (by decide) (by decide) (by decide) (fun w1 => ?_) (fun w1 => ?_)))
  · rw [if_pos (atB_y w1), if_pos (atB_y w1)] at kk
    have hwn := (atW_c ok_or.1 w1).2.1
    rw [ok_or.2.2] at hwn
    refine ⟨fun y => absurd y (by decide), fun _ => ⟨⟨by omega, by omega⟩, ?_⟩⟩
    refine sC_mono _ _ _ _ _ _ _ (fun r M1 G1 hh => ?_) (c49o (o := 13) (b := 1) (w := 2) (by omega) ho hS hA e56 (Or.inl ⟨rfl, rfl⟩) (by decide) hwn (fun M' a b => kk.2 rfl M' a b))
    refine ⟨hh.1, sC_mono _ _ _ _ _ _ _ (fun r M2 G2 h2 => ?_) hh.2⟩
    obtain ⟨w, y1, y2⟩ := h2
    refine ⟨w, y1, sC_mono _ _ _ _ _ _ _ (fun r M3 G3 h3 => ⟨h3.1, s49_195 h3.2⟩) y2⟩
  rw [if_neg (atB_n w1), if_neg (atB_n w1)] at kk
  refine ⟨fun _ => ?_, fun y => absurd rfl y⟩
  refine cw (w := wAnd) (by decide) (by decide) (by decide) (fun w2 => ?_) (fun w2 => ?_)
  · rw [if_pos (atB_y w2), if_pos (atB_y w2)] at kk
    have hwn := (atW_c ok_and.1 w2).2.1
    rw [ok_and.2.2] at hwn
    refine ⟨fun y => absurd y (by decide), fun _ => ⟨⟨by omega, by omega⟩, ?_⟩⟩
    refine sC_mono _ _ _ _ _ _ _ (fun r M1 G1 hh => ?_) (c49o (o := 12) (b := 2) (w := 3) (by omega) ho hS hA e56 (Or.inr ⟨rfl, rfl⟩) (by decide) hwn (fun M' a b => kk.2 rfl M' a b))
    refine ⟨hh.1, sC_mono _ _ _ _ _ _ _ (fun r M2 G2 h2 => ?_) hh.2⟩
    obtain ⟨w, y1, y2⟩ := h2
    refine ⟨w, y1, sC_mono _ _ _ _ _ _ _ (fun r M3 G3 h3 => ⟨h3.1, s49_195 h3.2⟩) y2⟩
  rw [if_neg (atB_n w2), if_neg (atB_n w2)] at kk
  have hbk := stl_brk (b := 1) (Nat.le_refl _) s D
  rw [hbk] at kk
  have bad : (¬ (chr T n p = 93 ∧ 0 < brk s)) → (¬ (chr T n p = 59 ∧ brk s = 0)) → (¬ (chr T n p = -1 ∧ brk s = 0)) → sW (sC (d + 1)) 49 (QV PV) 187 [vO 7 2, vN] [] M G 0 0 := fun z1 z2 z3 => by
    rw [if_neg z1, if_neg z2, if_neg z3] at kk
    refine s49_187 ?_
    refine failK (PV := fun M1 G1 => sW (sC (d + 1)) 49 (QV PV) 195 [vN, vN] [] M1 G1 0 0) (r := (1 + 8 * (p : Int), a0S)) (g := 0) (by omega) (by omega) h2 h3 ⟨by decide, by decide⟩ (show 1 + 8 * (p : Int) = _ by omega) ⟨fun z M' a b => s49_195 (kk.1 z M' a b), fun z M' a b => s49_195 (kk.2 z M' a b)⟩
  have ends : ∀ (w : Nat) (e' : Nat), (w = 1 ∧ e' = 0 ∧ p + 1 ≤ n) ∨ (w = 0 ∧ e' = 7) → brk s = 0 → (∀ M', offR2 M M' → cSt M' T n (e', p + w, m, [], (stl 1 s D).2, k, (k, (stl 1 s D).2) :: cl) → PV M' G) → sC (d + 1) 51 [vO 7 2] (sUpd M 3 2 (M 3 2 + (w : Int))) G (QV (fun M1 G1 => sW (sC (d + 1)) 49 (QV PV) 195 [vN, vN] [] (sUpd M1 2 14 (e' : Int)) G1 0 0)) := by
    intro w e' hwe hb kk
    obtain ⟨X, hX⟩ : ∃ X, X = sUpd M 3 2 (M 3 2 + (w : Int)) := ⟨_, rfl⟩
    rw [← hX]
    have x1 : ∀ a, a ≠ 3 → X a = M a := fun a ha => by rw [hX, sUpd_ne ha]
    have hC' : cCr2 X s D cl m p := hC.congr (x1 5 (by decide)) (x1 6 (by decide)) (x1 9 (by decide)) (x1 10 (by decide)) (x1 11 (by decide)) (fun i _ => by rw [x1 7 (by decide), x1 8 (by decide)]; exact ⟨rfl, rfl⟩) (by rw [x1 2 (by decide)]; exact ⟨rfl, rfl, rfl⟩) (Nat.le_refl _) (Nat.le_refl _)
    refine c51 (k := k) (by omega) (by omega) hA.1 (by omega) hb hm (by rw [x1 7 (by decide)]; exact h8') (by rw [x1 2 (by decide)]; exact h4) hcl hC' (fun N n1 n2 n9 c1 => s49_195 ?_)
    have oN : offR2 M (sUpd N 2 14 (e' : Int)) := by
      refine offR2.trans (M' := X) (by rw [hX]; exact offR2.u (Or.inr (Or.inl ⟨rfl, Or.inl rfl⟩))) ?_
      exact offR2.trans (M' := N) ⟨fun a a2 a3 a5 => n1 a a2 (by omega) (by omega) (by omega), fun i i2 i3 => by rw [n1 3 (by decide) (by decide) (by decide) (by decide)]⟩ (offR2.u (Or.inl rfl))
    have en3 : N 3 = X 3 := n1 3 (by decide) (by decide) (by decide) (by decide)
    refine kk _ oN ⟨oN.tp h1, ?_, ?_, ?_, ?_, ?_, ?_, fun z1 z2 => by omega, fun _ => ?_, fun z1 z2 => by omega⟩
    · rw [sUpd_ne (by decide), en3, hX, sUpd_eq, h2]; rfl
    · rw [sUpd_ne (by decide), en3, hX, sUpd_ni (by decide), h3]
    · rw [sUpd_ni (by decide), n9]; rfl
    · rw [sUpd_ni (by decide), n2 11 (by decide) (by decide) (by decide) (by decide), x1 2 (by decide), h5]
    · rw [sUpd_ni (by decide), n2 13 (by decide) (by decide) (by decide) (by decide), x1 2 (by decide), h6, hb]; rfl
    · rw [sUpd_eq]
    · exact c1.congr (sUpd_ne (by decide)) (sUpd_ne (by decide)) (sUpd_ne (by decide)) (sUpd_ne (by decide)) (sUpd_ne (by decide)) (fun i _ => by rw [sUpd_ne (by decide), sUpd_ne (by decide)]; exact ⟨rfl, rfl⟩) (by rw [sUpd_ni (by decide), sUpd_ni (by decide), sUpd_ni (by decide)]; exact ⟨rfl, rfl, rfl⟩) (by omega)
  have s139 : (chr T n p = 59 ∨ chr T n p = -1) → ¬ (chr T n p = 93 ∧ 0 < brk s) → sW (sC (d + 1)) 49 (QV PV) 139 [vO 7 2, vI (chr T n p)] [] M G 0 0 := by
    intro hc h93
    refine (s49_139 ⟨fun q1 => ?_, fun q2 => ⟨fun q3 => ⟨⟨by omega, by omega⟩, ?_⟩, fun q4 => ⟨⟨by omega, by omega⟩, ?_⟩⟩⟩)
    · exact bad h93 (fun z => by omega) (fun z => by omega)
    · rw [if_neg h93, if_neg (fun z => by have := z.1; omega), if_pos ⟨by omega, by omega⟩] at kk
      have := ends 0 7 (Or.inr ⟨rfl, rfl⟩) (by omega) (fun M' a b => kk.2 rfl M' a b)
      exact this
    · have hlt := chr_lt q4 (by decide)
      rw [if_neg h93, if_pos ⟨q4, by omega⟩] at kk
      have := ends 1 0 (Or.inl ⟨rfl, rfl, by omega⟩) (by omega) (fun M' a b => kk.2 rfl M' a b)
      exact this
    all_goals omega
  have s128 : ¬ (chr T n p = 93 ∧ 0 < brk s) → sW (sC (d + 1)) 49 (QV PV) 128 [vO 7 2, vI (chr T n p)] [] M G 0 0 := by
    intro h93
    refine (s49_128 ⟨fun q1 => ?_, fun q2 => ⟨fun q3 => ?_, fun q4 => ?_⟩⟩)
    · exact s139 (Or.inl q1) h93
    · exact bad h93 (fun z => q2 z.1) (fun z => q3 z.1)
    · exact s139 (Or.inr q4) h93
  have hbl := brk_len s
  refine ⟨fun _ => ⟨fun q3 => ?_, fun q4 => ⟨fun q5 => ?_, fun q6 => ⟨⟨by omega, by omega⟩, ?_⟩⟩⟩, fun y => absurd rfl y⟩
  · exact s128 (fun z => q3 z.1)
  · exact s128 (fun z => by omega)
  · have hlt := chr_lt q4 (by decide)
    rw [if_pos ⟨q4, by omega⟩] at kk
    obtain ⟨X, hX⟩ : ∃ X, X = sUpd M 3 2 (M 3 2 + 1) := ⟨_, rfl⟩
    rw [← hX]
    have x1 : ∀ a, a ≠ 3 → X a = M a := fun a ha => by rw [hX, sUpd_ne ha]
    have hC' : cCr2 X s D cl m p := hC.congr (x1 5 (by decide)) (x1 6 (by decide)) (x1 9 (by decide)) (x1 10 (by decide)) (x1 11 (by decide)) (fun i _ => by rw [x1 7 (by decide), x1 8 (by decide)]; exact ⟨rfl, rfl⟩) (by rw [x1 2 (by decide)]; exact ⟨rfl, rfl, rfl⟩) (Nat.le_refl _) (Nat.le_refl _)
    refine c50 (by omega) (by omega) hA.1 (by omega) (by omega) (by rw [x1 2 (by decide)]; exact h6) hC' (fun N n1 n2 n13 c1 => s49_195 ?_)
    have oN : offR2 M (sUpd N 2 14 6) := by
      refine offR2.trans (M' := X) (by rw [hX]; exact offR2.u (Or.inr (Or.inl ⟨rfl, Or.inl rfl⟩))) ?_
      exact offR2.trans (M' := N) ⟨fun a a2 a3 a5 => n1 a a2 (by omega) (by omega), fun i i2 i3 => by rw [n1 3 (by decide) (by decide) (by decide)]⟩ (offR2.u (Or.inl rfl))
    have en3 : N 3 = X 3 := n1 3 (by decide) (by decide) (by decide)
    refine kk.2 rfl _ oN ⟨oN.tp h1, ?_, ?_, ?_, ?_, ?_, ?_, fun _ _ => ?_, fun z => by omega, fun _ _ => ?_⟩
    · rw [sUpd_ne (by decide), en3, hX, sUpd_eq, h2]; rfl
    · rw [sUpd_ne (by decide), en3, hX, sUpd_ni (by decide), h3]
    · rw [sUpd_ni (by decide), n2 9 (by decide) (by decide) (by decide) (by decide), x1 2 (by decide), h4]
    · rw [sUpd_ni (by decide), n2 11 (by decide) (by decide) (by decide) (by decide), x1 2 (by decide), h5]
    · rw [sUpd_ni (by decide), n13]
    · rw [sUpd_eq]; rfl
    · rw [sUpd_ne (by decide), n1 7 (by decide) (by decide) (by decide), x1 7 (by decide), h8']
    · exact c1.congr (sUpd_ne (by decide)) (sUpd_ne (by decide)) (sUpd_ne (by decide)) (sUpd_ne (by decide)) (sUpd_ne (by decide)) (fun i _ => by rw [sUpd_ne (by decide), sUpd_ne (by decide)]; exact ⟨rfl, rfl⟩) (by rw [sUpd_ni (by decide), sUpd_ni (by decide), sUpd_ni (by decide)]; exact ⟨rfl, rfl, rfl⟩) (by omega) (Nat.le_refl _)
theorem c37 (hd : 15 ≤ d) (ho : tOk T n) (hb : blk T n p = p) (hS : cSt M T n (e, p, m, s, D, k, cl)) (hA : okA n (e, p, m, s, D, k, cl)) (e7 : e ≠ 7) (kk : cK T n M G PV (aStep T n (e, p, m, s, D, k, cl))) : sC d 37 [vO 7 2, vI (chr T n p)] M G (QV PV) := by
  obtain ⟨d, rfl⟩ := sD 1 (d := d) (by omega)
  have hS' := hS
  obtain ⟨h1, h2, h3, h4, h5, h6, h7, h8, -⟩ := hS'
  have hp : p ≤ n := hA.2.2.2.1
  have he7 : e ≤ 7 := hA.2.2.2.2.1
  have hM : cS M p 0 = M := cS_self.2 ⟨h2, h3⟩
  have u := aStep_u (T := T) (n := n) (p := p) (m := m) (s := s) (D := D) (k := k) (cl := cl) (e := e)
  rw [hb] at u
  rw [u] at kk
  have cw : ∀ {P : Int → sM → sG → Prop} {j : Nat} {w : List Nat}, j < 21 → sByt.getD j [] = w → w.length ≤ 20 → (atW T n p w → P 1 M G) → (¬ atW T n p w → P 0 M G) → sC d 23 [vO 4 3, vS j] M G (QI P) := fun hj hw hl k1 k0 => by
    have := c23 (d := d) (G := G) (M := M) (p := p) (f := 0) (by omega) hj hw hl ho h1 hp (by rw [hM]; exact k1) (by rw [hM]; exact k0)
    rw [hM] at this
    exact this
  have t156 : ∀ M1, PV M1 G → sW (sC d) 37 (QV PV) 156 [vN, vN, vN, vN] [] M1 G 0 0 := fun M1 z => s37_156 z
  have cK' : ∀ {r : Int × aS}, cK T n M G PV r → cK T n M G (fun M1 G1 => sW (sC d) 37 (QV PV) 156 [vN, vN, vN, vN] [] M1 G1 0 0) r := fun z => ⟨fun a M' b c => s37_156 (z.1 a M' b c), fun a M' b c => s37_156 (z.2 a M' b c)⟩
  have d38 : e = 0 → sC d 38 [vO 7 2] M G (QV (fun M1 G1 => sW (sC d) 37 (QV PV) 156 [vN, vN, vN, vN] [] M1 G1 0 0)) := fun z => by
    subst z
    rw [if_pos rfl] at kk
    exact c38 (by omega) ho hS hA (cK' kk)
  have d39 : ∀ x1 : Int, e = 1 → (chr T n p = 91 ∨ atB T n p wNot = true) → (x1 = if chr T n p = 91 then 1 else 0) → sC d 39 [vO 7 2, vI x1] M G (QV (fun M1 G1 => sW (sC d) 37 (QV PV) 156 [vN, vN, vN, vN] [] M1 G1 0 0)) := fun x1 z z2 z3 => by
    subst z
    rw [if_neg (show ¬ (1 : Nat) = 0 by decide), if_pos ⟨rfl, z2⟩] at kk
    exact c39 (by omega) ho hS hA z3 (cK' kk)
  have d41 : 1 ≤ e → e ≤ 3 → (e = 1 → ¬ (chr T n p = 91 ∨ atB T n p wNot = true)) → sC d 41 [vO 7 2, vI (chr T n p)] M G (QV (fun M1 G1 => sW (sC d) 37 (QV PV) 156 [vN, vN, vN, vN] [] M1 G1 0 0)) := fun z1 z3 z => by
    rw [if_neg (show ¬ e = 0 by omega), if_neg (fun y => z y.1 y.2), if_pos z3] at kk
    exact c41 (by omega) ho hb hS hA z1 z3 (cK' kk)
  have kb : 4 ≤ e → cK T n M G PV (aBeh T n e p m k cl (stl (aDm T n e p) s D)) := fun z => by
    rw [if_neg (show ¬ e = 0 by omega), if_neg (fun y => by have := y.1; omega), if_neg (show ¬ e ≤ 3 by omega)] at kk
    exact kk
  have t135 : 4 ≤ e → (e = 6 ∨ aJn (chr T n p) = 0) → sW (sC d) 37 (QV PV) 135 [vO 7 2, vI (chr T n p), vN, vN] [] M G 0 0 := fun z z2 => by
    refine (s37_135 ⟨fun q1 => ?_, fun q2 => ?_⟩)
    · exact c49 (by omega) ho hS hA (by omega) z2 (cK' (kb z))
    · have e4 : e = 4 := by omega
      have hk := kb z
      subst e4
      exact c47 (by omega) ho hS hA (by omega) (cK' hk)
  have t98 : ∀ x3 : Int, 1 ≤ e → (x3 = if aJn (chr T n p) = 0 then 0 else 1) → (e = 1 → ¬ (chr T n p = 91 ∨ atB T n p wNot = true)) → sW (sC d) 37 (QV PV) 98 [vO 7 2, vI (chr T n p), vN, vI x3] [] M G 0 0 := fun x3 z z2 z3 => by
    refine (s37_98 ⟨fun q1 => ⟨fun q2 => ?_, fun q3 => ⟨fun q4 => ?_, fun q5 => ?_⟩⟩, fun q6 => ?_⟩)
    · exact t135 (by omega) (Or.inr (Decidable.byContradiction fun y => by rw [if_neg y] at z2; omega))
    · exact t135 (by omega) (Or.inl (by omega))
    · exact c45 (by omega) ho hS hA (by omega) (fun y => by rw [if_pos y] at z2; omega) (cK' (kb (by omega)))
    · exact d41 z (by omega) z3
  have j0 : chr T n p ≠ 43 → chr T n p ≠ 45 → chr T n p ≠ 42 → chr T n p ≠ 47 → aJn (chr T n p) = 0 := fun a b c d => aJn_0 ⟨c, d, a, b⟩
  have t48 : ∀ x2 : Int, (chr T n p = 43 ∨ chr T n p = 45 ∨ chr T n p = 42 ∨ chr T n p = 47) → x2 = 0 → ¬ (chr T n p = 91 ∨ atB T n p wNot = true) → sW (sC d) 37 (QV PV) 48 [vO 7 2, vI (chr T n p), vI x2, vN] [] M G 0 0 := fun x2 z z2 z3 => by
    have hj : (1 : Int) = if aJn (chr T n p) = 0 then 0 else 1 := by
      rw [if_neg (fun y => by unfold aJn at y; rcases z with z | z | z | z <;> rw [z] at y <;> exact absurd y (by decide))]
    refine (s37_48 ⟨fun q1 => ⟨fun q2 => ?_, fun q3 => ⟨fun q4 => ?_, fun q5 => ⟨fun q6 => ?_, fun q7 => ?_⟩⟩⟩, fun q8 => ?_⟩)
    · exact t98 1 (by omega) hj (fun _ => z3)
    · exact t98 1 (by omega) hj (fun _ => z3)
    · omega
    · omega
    · exact d38 (by omega)
  have t18 : (chr T n p = 91 ∨ atB T n p wNot = true) → sW (sC d) 37 (QV PV) 18 [vO 7 2, vI (chr T n p), vN, vN] [] M G 0 0 := fun z => by
    have hn : chr T n p ≠ 43 ∧ chr T n p ≠ 45 ∧ chr T n p ≠ 42 ∧ chr T n p ≠ 47 := by
      rcases z with z | z
      · omega
      · have := atW_c ok_not.1 (atB_i.1 z)
        omega
    have hj : (0 : Int) = if aJn (chr T n p) = 0 then 0 else 1 := by rw [if_pos (j0 hn.1 hn.2.1 hn.2.2.1 hn.2.2.2)]
    refine (s37_18 ⟨fun q1 => ?_, fun q2 => ⟨fun q3 => ?_, fun q4 => ⟨fun q5 => ?_, fun q6 => ⟨fun q7 => ⟨fun q8 => ⟨fun q9 => ?_, fun q10 => ⟨fun q11 => ?_, fun q12 => ?_⟩⟩, fun q13 => ?_⟩, fun q14 => ?_⟩⟩⟩⟩)
    · omega
    · omega
    · omega
    · exact t98 0 (by omega) hj (fun y => by omega)
    · exact d39 0 (by omega) z (by rw [if_neg q11])
    · exact d39 1 (by omega) z (by rw [if_pos q12])
    · exact d38 (by omega)
    · omega
  refine e37 (s37_0 ⟨fun q1 => ?_, fun q2 => ?_⟩)
  · exact t18 (Or.inl q1)
  · refine cw (w := wNot) (by decide) (by decide) (by decide) ?_ ?_
    · intro w1
      refine ⟨fun q3 => ⟨fun q4 => ?_, fun q5 => ⟨fun q6 => ?_, fun q7 => ⟨fun q8 => ?_, fun q9 => ⟨fun q10 => ⟨fun q11 => ⟨fun q12 => ?_, fun q13 => ?_⟩, fun q14 => ?_⟩, fun q15 => ?_⟩⟩⟩⟩, fun q16 => ?_⟩
      · omega
      · omega
      · omega
      · omega
      · omega
      · omega
      · omega
      · exact t18 (Or.inr (atB_y w1))
    · intro w1
      have hno : ¬ (chr T n p = 91 ∨ atB T n p wNot = true) := fun z => by rcases z with z | z; exact q2 z; exact atB_n w1 z
      refine ⟨fun q3 => ⟨fun q4 => ?_, fun q5 => ⟨fun q6 => ?_, fun q7 => ⟨fun q8 => ?_, fun q9 => ⟨fun q10 => ⟨fun q11 => ⟨fun q12 => ?_, fun q13 => ?_⟩, fun q14 => ?_⟩, fun q15 => ?_⟩⟩⟩⟩, fun q16 => ?_⟩
      · exact t48 0 (by omega) rfl hno
      · exact t48 0 (by omega) rfl hno
      · exact t48 0 (by omega) rfl hno
      · exact t98 0 (by omega) (by rw [if_pos (j0 q5 q7 q9 q10)]) (fun _ => hno)
      · exact t98 0 (by omega) (by rw [if_pos (j0 q5 q7 q9 q10)]) (fun _ => hno)
      · exact d38 (by omega)
      · exact t48 0 (by omega) rfl hno
      · omega
end
theorem okA.step {n : Nat} {T : Nat → Int} {σ : aS} (h : okA n σ) (e7 : σ.1 ≠ 7) (hf : (aStep T n σ).1 = 0) : okA n (aStep T n σ).2 ∧ (σ.2.1 < (aStep T n σ).2.2.1 ∨ (aStep T n σ).2.1 = 7) := by
  obtain ⟨e, p, m, s, D, k, cl⟩ := σ
  have he7 : e ≤ 7 := h.2.2.2.2.1
  have e7' : e ≠ 7 := e7
  by_cases c0 : e = 0
  · subst c0
    rw [aStep_0] at hf ⊢
    have := h.cla hf
    exact ⟨this.1, Or.inl this.2⟩
  · by_cases c1 : e = 1 ∧ (chr T n (blk T n p) = 91 ∨ atB T n (blk T n p) wNot = true)
    · obtain ⟨c1, c2⟩ := c1
      subst c1
      rw [aStep_o c2] at hf ⊢
      have := h.opn c2 hf
      exact ⟨this.1, Or.inl this.2⟩
    · by_cases c3 : e ≤ 3
      · rw [aStep_v (by omega) c3 (fun z y => c1 ⟨z, y⟩)] at hf ⊢
        have := h.val (by omega) c3 hf
        exact ⟨this.1, Or.inl this.2⟩
      · rw [aStep_b (by omega)] at hf ⊢
        exact h.beh (by omega) e7' hf
