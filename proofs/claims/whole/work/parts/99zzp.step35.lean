/-! STEP: rule. -/
theorem ruleF.congrL {M M' : sM} {r n : Int} {kd : Nat → Int} {D : Nat → (Nat → Int) → Int} (h : ruleF M r n kd D) (h84 : ∀ i : Nat, i < 400 → M' 84 ((400 * r) + (i : Int)).toNat = M 84 ((400 * r) + (i : Int)).toNat) (h86 : ∀ j : Int, 36 * r ≤ j → j < 36 * r + 36 → M' 86 j.toNat = M 86 j.toNat) (h87 : M' 87 r.toNat = M 87 r.toNat) : ruleF M' r n kd D := by
  obtain ⟨r0, r1, e, n0, n1, hc⟩ := h
  have eg : ∀ i : Nat, i < 400 → rSg M' r i = rSg M r i ∧ rVg M' r i = rVg M r i := fun i hi => by
    unfold rSg rVg
    rw [h84 i hi]
    exact ⟨rfl, rfl⟩
  refine ⟨r0, r1, h87.trans e, n0, n1, fun c c0 c1 => ?_⟩
  rw [h86 ((36 * r) + (3 * c)) (by omega) (by omega), h86 (((36 * r) + (3 * c)) + 1) (by omega) (by omega), h86 (((36 * r) + (3 * c)) + 2) (by omega) (by omega)]
  obtain ⟨g1, g2, g3, g4, g5, ⟨k, k64, H⟩, g7⟩ := hc c c0 c1
  refine ⟨g1, g2, g3, g4, fun i hi => ?_, ⟨k, k64, H.congr (fun i _ i2 => eg i (by omega))⟩, g7⟩
  rw [(eg i (by omega)).1, (eg i (by omega)).2]
  exact g5 i hi
theorem rCls.at {M : sM} {r : Nat} : ∀ {cl : List (Int × den)} {a : Nat}, rCls M r cl a → ∀ c, c < cl.length → ∃ b e h : Nat, M 86 (36 * r + 3 * c) = clK cl c ∧ M 86 (36 * r + 3 * c + 1) = (b : Int) ∧ M 86 (36 * r + 3 * c + 2) = (e : Int) ∧ e ≤ a ∧ h ≤ 64 ∧ rSeg (rSg M r) (rVg M r) b e h (clD cl c)
  | [], a, _, c, hc => absurd hc (Nat.not_lt_zero c)
  | x :: cl, a, h, c, hc => by
    obtain ⟨h1, h2, b, f, h3, hf, hl, hs⟩ := h
    have hba := hs.1
    have hc' : c < cl.length + 1 := hc
    by_cases e : c = cl.length
    · refine ⟨b, a, f, ?_, ?_, ?_, Nat.le_refl _, hf, ?_⟩
      · rw [e, clK_l.1]; exact h1
      · rw [e]; exact h3
      · rw [e]; exact h2
      · rw [e, clK_l.2]; exact hs
    · obtain ⟨b', e', g, j1, j2, j3, j4, j5, j6⟩ := hl.at c (by omega)
      have hk := clK_s (x := x) (cl := cl) (c := c) (by omega)
      exact ⟨b', e', g, by rw [hk.1]; exact j1, j2, j3, by omega, j5, by rw [hk.2]; exact j6⟩
theorem rCls.F {M : sM} {r len : Nat} {cl : List (Int × den)} (h : rCls M r cl len) (r6 : r < 6) (hl : len ≤ 400) (hR : rRng M r len) (h87 : M 87 r = (cl.length : Int)) (h12 : cl.length ≤ 12) (h01 : ∀ y, y ∈ cl → d01 y.2) : ruleF M (r : Int) (cl.length : Int) (clK cl) (clD cl) := by
  refine ⟨by omega, by omega, h87, by omega, by omega, fun c c0 c1 => ?_⟩
  obtain ⟨c, rfl⟩ : ∃ q : Nat, c = (q : Int) := ⟨c.toNat, z_nat c0⟩
  obtain ⟨b, e, g, j1, j2, j3, j4, j5, j6⟩ := h.at c (by omega)
  have hbe := j6.1
  rw [show ((36 * (r : Int)) + (3 * (c : Int))).toNat = 36 * r + 3 * c by omega, show (((36 * (r : Int)) + (3 * (c : Int))) + 1).toNat = 36 * r + 3 * c + 1 by omega, show (((36 * (r : Int)) + (3 * (c : Int))) + 2).toNat = 36 * r + 3 * c + 2 by omega, j1, j2, j3]
  refine ⟨rfl, by omega, by omega, by omega, fun i hi => hR i (by omega), ⟨g, j5, j6⟩, clD_01 h01 (show c < cl.length by omega)⟩
theorem rule1.loc {own own' : Nat → Nat} {M M' : sM} {G G' : sG} {r' : Int} {r : Nat} (h : 109 ≤ M 12 r'.toNat ∧ (∀ j, j < 5 → own ((M 12 r'.toNat).toNat + j) = 1) ∧ ∃ n kd D, ruleC M G (M 12 r'.toNat).toNat n kd D ∧ ruleF M r' n kd D) (r0 : 0 ≤ r') (r1 : r' < (r : Int)) (e12 : M' 12 r'.toNat = M 12 r'.toNat) (h84 : ∀ j, j < 400 * r ∨ 400 * r + 400 ≤ j → M' 84 j = M 84 j) (h86 : ∀ j, j < 36 * r ∨ 36 * r + 36 ≤ j → M' 86 j = M 86 j) (h87 : ∀ j, j ≠ r → M' 87 j = M 87 j) (eo : ∀ a, own a = 1 → own' a = 1) (e : ∀ a, 109 ≤ a → own a = 1 → M' a = M a ∧ G' a = G a) : 109 ≤ M' 12 r'.toNat ∧ (∀ j, j < 5 → own' ((M' 12 r'.toNat).toNat + j) = 1) ∧ ∃ n kd D, ruleC M' G' (M' 12 r'.toNat).toNat n kd D ∧ ruleF M' r' n kd D := by
  obtain ⟨g1, g2, n, kd, D, hc, hf⟩ := h
  rw [e12]
  refine ⟨g1, fun j hj => eo _ (g2 j hj), n, kd, D, ?_, hf.congrL (fun i hi => h84 _ (by omega)) (fun j j1 j2 => h86 _ (by omega)) (h87 _ (by omega))⟩
  exact (hc.congr (M' := M') (fun k hk => (e _ (by omega) (g2 k (by omega))).1)).congrG (fun k hk => (e _ (by omega) (g2 k (by omega))).2)
section
variable {d n r : Nat} {T : Nat → Int} {P : Int → sM → sG → Prop} {M : sM} {G : sG} {x : Int × List (Int × den)}
/-- what rule may change, of the reference -/
def offQ (r : Nat) (M M' : sM) : Prop := (∀ a, a ≠ 82 → a ≠ 84 → a ≠ 85 → a ≠ 86 → a ≠ 87 → a ≠ 90 → M' a = M a) ∧ (∀ j, j < 400 * r ∨ 400 * r + 400 ≤ j → M' 84 j = M 84 j) ∧ (∀ j, j < 36 * r ∨ 36 * r + 36 ≤ j → M' 86 j = M 86 j) ∧ ∀ j, j ≠ r → M' 87 j = M 87 j
theorem c172r (hd : 55 ≤ d) (ho : tOk T n) (hT : rTp M T n) (h2 : M 82 2 = (r : Int)) (r6 : r < 6) (ht : aTo T n aI x)
    (kf : ∀ N, offQ r M N → N 82 1 = 0 → N 82 2 = (r : Int) → x.1 ≠ 0 → P (-2 - x.1) N G)
    (kk : ∀ N len, offQ r M N → N 82 1 = 0 → N 82 2 = (r : Int) + 1 → x.1 = 0 → len ≤ 400 → rRng N r len → rCls N r x.2 len → N 87 r = (x.2.length : Int) → x.2.length ≤ 12 → (∀ y, y ∈ x.2 → d01 y.2) → P (r : Int) N G) : sC d 172 [vO 12 82] M G (QI P) := by
  obtain ⟨d, rfl⟩ := sD 1 (d := d) (by omega)
  have hsm := aTo_sm ht
  have h400 := ho.1
  unfold sm at hsm
  have hs1 : 0 ≤ x.1 := hsm.1
  have hs2 : x.1 ≤ 8 + 8 * (n : Int) := hsm.2
  refine e172 (s172_0 ⟨fun _ => ⟨⟨by omega, by omega⟩, ?_⟩, fun z => by omega⟩)
  rw [h2, show ((r : Int)).toNat = r from rfl]
  obtain ⟨X, hX⟩ : ∃ X, X = sUpd (sUpd M 82 14 (r : Int)) 87 r 0 := ⟨_, rfl⟩
  rw [← hX]
  have x1 : ∀ a, a ≠ 82 → a ≠ 87 → X a = M a := fun a h1 h2 => by rw [hX, sUpd_ne h2, sUpd_ne h1]
  have x87 : ∀ j, j ≠ r → X 87 j = M 87 j := fun j hj => by rw [hX, sUpd_ni hj, sUpd_ne (by decide)]
  have x82 : ∀ i, i ≠ 14 → X 82 i = M 82 i := fun i hi => by rw [hX, sUpd_ne (by decide), sUpd_ni hi]
  have hTX : rTp X T n := ⟨(x82 1 (by decide)).trans hT.1, fun i hi => by rw [x1 83 (by decide) (by decide)]; exact hT.2 i hi⟩
  have off : ∀ N q f v, (∀ a, a ≠ 82 → a ≠ 84 → a ≠ 85 → a ≠ 86 → a ≠ 87 → a ≠ 90 → N a = X a) → (∀ j, j < 400 * r ∨ 400 * r + 400 ≤ j → N 84 j = X 84 j) → (∀ j, j < 36 * r ∨ 36 * r + 36 ≤ j → N 86 j = X 86 j) → (∀ j, j ≠ r → N 87 j = X 87 j) → ∀ Z, (∀ a, a ≠ 82 → Z a = rS N q f v a) → offQ r M Z := fun N q f v f1 f3 f4 f5 Z hz => by
    have z : ∀ a, a ≠ 82 → Z a = N a := fun a ha => (hz a ha).trans (rS_a ha)
    refine ⟨fun a h1 h2 h3 h4 h5 h6 => (z a h1).trans ((f1 a h1 h2 h3 h4 h5 h6).trans (x1 a h1 h5)), fun j hj => ?_, fun j hj => ?_, fun j hj => ?_⟩
    · rw [z 84 (by decide), f3 j hj, x1 84 (by decide) (by decide)]
    · rw [z 86 (by decide), f4 j hj, x1 86 (by decide) (by decide)]
    · rw [z 87 (by decide), f5 j hj, x87 j hj]
  refine c173r (by omega) ho hTX (by rw [hX, sUpd_ne (by decide), sUpd_eq]) r6 (by rw [hX, sUpd_eq]) ht (fun N q v f1 f2 f3 f4 f5 hx => ?_) (fun N q v len m f1 f2 f3 f4 f5 hx ha hl hR hC h87 h12 h01 => ?_)
  · obtain ⟨Z, hZ⟩ : ∃ Z, Z = sUpd (rS N q x.1 v) 82 1 0 := ⟨_, rfl⟩
    have z1 : Z 82 1 = 0 := by rw [hZ]; exact sUpd_eq
    have z2 : Z 82 2 = (r : Int) := by rw [hZ, sUpd_ni (by decide), rS_o (Or.inr ⟨by decide, by decide, by decide⟩), f2, x82 2 (by decide)]; exact h2
    have z12 : Z 82 12 = x.1 := by rw [hZ, sUpd_ni (by decide)]; exact rS_f
    have zo := off N q x.1 v f1 f3 f4 f5 Z (fun a ha => by rw [hZ, sUpd_ne ha])
    rw [← hZ]
    refine ⟨fun z => absurd rfl z, fun _ => ?_⟩
    rw [z12]
    exact ⟨⟨by omega, by omega⟩, kf Z zo z1 z2 hx⟩
  · obtain ⟨Z, hZ⟩ : ∃ Z, Z = sUpd (rS N q 0 v) 82 1 0 := ⟨_, rfl⟩
    have z1 : Z 82 1 = 0 := by rw [hZ]; exact sUpd_eq
    have z2 : Z 82 2 = (r : Int) := by rw [hZ, sUpd_ni (by decide), rS_o (Or.inr ⟨by decide, by decide, by decide⟩), f2, x82 2 (by decide)]; exact h2
    have zo := off N q 0 v f1 f3 f4 f5 Z (fun a ha => by rw [hZ, sUpd_ne ha])
    have zN : ∀ a, a ≠ 82 → Z a = N a := fun a ha => by rw [hZ, sUpd_ne ha, rS_a ha]
    rw [← hZ]
    refine ⟨fun _ => ?_, fun z => absurd z (by decide)⟩
    rw [z2]
    refine ⟨⟨by omega, by omega⟩, ⟨by omega, by omega⟩, ?_⟩
    obtain ⟨Y, hY⟩ : ∃ Y, Y = sUpd Z 82 2 ((r : Int) + 1) := ⟨_, rfl⟩
    have yN : ∀ a, a ≠ 82 → Y a = N a := fun a ha => by rw [hY, sUpd_ne ha, zN a ha]
    have y84 : Y 84 = N 84 := yN 84 (by decide)
    have ye := rSg_84 (r := r) y84
    have yo : offQ r M Y := by
      refine ⟨fun a h1 h2 h3 h4 h5 h6 => ?_, fun j hj => ?_, fun j hj => ?_, fun j hj => ?_⟩
      · rw [hY, sUpd_ne h1]; exact zo.1 a h1 h2 h3 h4 h5 h6
      · rw [hY, sUpd_ne (by decide)]; exact zo.2.1 j hj
      · rw [hY, sUpd_ne (by decide)]; exact zo.2.2.1 j hj
      · rw [hY, sUpd_ne (by decide)]; exact zo.2.2.2 j hj
    have y1 : Y 82 1 = 0 := by rw [hY, sUpd_ni (by decide)]; exact z1
    have y2 : Y 82 2 = (r : Int) + 1 := by rw [hY]; exact sUpd_eq
    have yR : rRng Y r len := fun i hi => by rw [ye.1, ye.2]; exact hR i hi
    have yC : rCls Y r x.2 len := hC.congr (fun j _ => by rw [yN 86 (by decide)]) (fun i _ => by rw [ye.1, ye.2]; exact ⟨rfl, rfl⟩)
    have y87 : Y 87 r = (x.2.length : Int) := by rw [yN 87 (by decide)]; exact h87
    rw [← hY, show (r : Int) + 1 - 1 = (r : Int) by omega]
    exact kk Y len yo y1 y2 hx hl yR yC y87 h12 h01
end
theorem L35 (t : Int) : Step t 35 172 [] := by
  intro d M G hd hI
  have hI1 := hI.same (kp.refl [] M)
  obtain ⟨t0, own, N, hN, hN2, h1, h2, h3, h4, h5⟩ := hI
  obtain ⟨r, hr⟩ : ∃ r : Nat, M 1 11 = (r : Int) := ⟨(M 1 11).toNat, z_nat h2.1⟩
  have r6 : r ≤ 6 := by have := h2.2.1; omega
  have hm : M 82 2 = (r : Int) := h2.2.2.1.trans hr
  by_cases c6 : r = 6
  · refine c35n (by omega) (by rw [hr, c6]; rfl) ?_
    obtain ⟨d, rfl⟩ := sD 1 (d := d) (by omega)
    exact e172 (s172_0 ⟨fun z => absurd (by rw [hm, c6]; rfl) z, fun _ => ⟨rfl, hI1⟩⟩)
  have r5 : r < 6 := by omega
  obtain ⟨n, hn⟩ : ∃ n : Nat, M 3 1 = (n : Int) := ⟨(M 3 1).toNat, z_nat h1.1⟩
  have ho : tOk (M 4) n := ⟨by have := h1.2.1; omega, fun i hi => (h1.2.2.2 i (by omega)).1⟩
  have hT : cTp M (M 4) n := ⟨hn, fun _ _ => rfl⟩
  have hrT : ∀ X : sM, X 82 = M 82 → X 83 = M 83 → rTp X (M 4) n := fun X e1 e2 => ⟨by rw [e1, h1.2.2.1]; exact hn, fun i hi => by rw [e2]; exact (h1.2.2.2 i (by omega)).2⟩
  have tape0 : ∀ M' : sM, M' 3 1 = 0 → M' 82 1 = 0 → iTape M' := fun M' a b => by
    unfold iTape
    rw [a, b]
    exact ⟨by decide, by decide, rfl, fun i hi => by omega⟩
  have town : ∀ M' : sM, (∀ a, (14 ≤ a ∧ a ≤ 40) ∨ a = 93 → M' a = M a) → iTown (t + 1) M' ∧ iTold M' := fun M' e => by
    have e93 := e 93 (Or.inr rfl)
    refine ⟨⟨?_, ?_, ?_⟩, ?_, ?_⟩
    · rw [e93]; exact h4.1.mono (by omega)
    · rw [e93]; exact h4.2.1
    · rw [e93]; exact h4.2.2.congr (fun a _ _ => e a (by omega))
    · rw [e93]; exact h5.1
    · rw [e93]; exact h5.2.congr (fun a _ _ => e a (by omega))
  refine c35 (T := M 4) (n := n) (a := N) (by omega) ho hT hr r5 hN2 (fun i _ => (hN _ (by omega)).1) (fun f M1 hf ht o1 => ?_) (fun cl M1 G1 ht f1 f2 f3 hc => ?_)
  · -- a fault
    obtain ⟨Y, hY⟩ : ∃ Y, Y = sUpd M1 3 1 0 := ⟨_, rfl⟩
    have y1 : ∀ a, a ≠ 2 → a ≠ 3 → ¬ (5 ≤ a ∧ a ≤ 11) → Y a = M a := fun a a1 a2 a3 => by rw [hY, sUpd_ne a2]; exact o1.1 a a1 a2 a3
    have y31 : Y 3 1 = 0 := by rw [hY]; exact sUpd_eq
    rw [← hY]
    refine c172r (x := (f, [])) (by omega) ho (hrT Y (y1 82 (by decide) (by decide) (by omega)) (y1 83 (by decide) (by decide) (by omega))) (by rw [y1 82 (by decide) (by decide) (by omega)]; exact hm) r5 ht (fun Z o z1 z2 _ => ⟨rfl, ?_⟩) (fun Z len _ _ _ z => absurd z hf)
    have zM : ∀ a, a ≠ 2 → a ≠ 3 → ¬ (5 ≤ a ∧ a ≤ 11) → a ≠ 82 → a ≠ 84 → a ≠ 85 → a ≠ 86 → a ≠ 87 → a ≠ 90 → Z a = M a := fun a a1 a2 a3 a4 a5 a6 a7 a8 a9 => (o.1 a a4 a5 a6 a7 a8 a9).trans (y1 a a1 a2 a3)
    have zM' : ∀ a, (14 ≤ a ∧ a ≤ 81) ∨ (91 ≤ a) → Z a = M a := fun a ha => zM a (by omega) (by omega) (by omega) (by omega) (by omega) (by omega) (by omega) (by omega) (by omega)
    have z12 : Z 12 = M 12 := zM 12 (by decide) (by decide) (by omega) (by decide) (by decide) (by decide) (by decide) (by decide) (by decide)
    have z11 : Z 1 11 = M 1 11 := by rw [zM 1 (by decide) (by decide) (by omega) (by decide) (by decide) (by decide) (by decide) (by decide) (by decide)]
    have z3 : Z 3 1 = 0 := by rw [o.1 3 (by decide) (by decide) (by decide) (by decide) (by decide) (by decide)]; exact y31
    have tt := town Z (fun a ha => zM' a (by omega))
    refine ⟨by omega, own, N, hN, hN2, tape0 Z z3 z1, ⟨?_, ?_, ?_, fun r' r0 r1 => ?_⟩, h3.keep (by omega) (zM' 41 (by omega)) (zM' 106 (by omega)) (zM' 107 (by omega)) (fun a ha _ => zM' a (by omega)), tt.1, tt.2⟩
    · rw [z11]; exact h2.1
    · rw [z11]; exact h2.2.1
    · rw [z2, z11]; exact hr.symm
    · rw [z11, hr] at r1
      refine rule1.loc (r := r) (h2.2.2.2 r' r0 (by rw [hr]; exact r1)) r0 r1 (by rw [z12]) (fun j hj => ?_) (fun j hj => ?_) (fun j hj => ?_) (fun a ha => ha) (fun a ha _ => ⟨zM' a (by omega), rfl⟩)
      · rw [o.2.1 j hj, y1 84 (by decide) (by decide) (by omega)]
      · rw [o.2.2.1 j hj, y1 86 (by decide) (by decide) (by omega)]
      · rw [o.2.2.2 j hj, y1 87 (by decide) (by decide) (by omega)]
  · -- a rule read
    obtain ⟨Y, hY⟩ : ∃ Y, Y = sUpd (sUpd (sUpd M1 3 1 0) 12 r (N : Int)) 1 11 ((r : Int) + 1) := ⟨_, rfl⟩
    have y1 : ∀ a, a ≠ 1 → a ≠ 2 → a ≠ 3 → ¬ (5 ≤ a ∧ a ≤ 12) → ¬ (N ≤ a ∧ a < N + 5) → Y a = M a := fun a a0 a1 a2 a3 a4 => by rw [hY, sUpd_ne a0, sUpd_ne (by omega), sUpd_ne a2]; exact f1 a a1 a2 (by omega) a4
    have yN : ∀ a, a ≠ 1 → a ≠ 3 → a ≠ 12 → Y a = M1 a := fun a a0 a1 a2 => by rw [hY, sUpd_ne a0, sUpd_ne a2, sUpd_ne a1]
    have y31 : Y 3 1 = 0 := by rw [hY, sUpd_ne (by decide), sUpd_ne (by decide)]; exact sUpd_eq
    have y11 : Y 1 11 = (r : Int) + 1 := by rw [hY]; exact sUpd_eq
    have y12 : Y 12 r = (N : Int) := by rw [hY, sUpd_ne (by decide)]; exact sUpd_eq
    have y12' : ∀ j, j ≠ r → Y 12 j = M 12 j := fun j hj => by rw [hY, sUpd_ne (by decide), sUpd_ni hj, sUpd_ne (by decide), f1 12 (by decide) (by decide) (by omega) (by omega)]
    rw [← hY]
    refine c172r (x := (0, cl)) (by omega) ho (hrT Y (y1 82 (by decide) (by decide) (by decide) (by omega) (by omega)) (y1 83 (by decide) (by decide) (by decide) (by omega) (by omega))) (by rw [y1 82 (by decide) (by decide) (by decide) (by omega) (by omega)]; exact hm) r5 ht (fun Z _ _ _ z => absurd rfl z) (fun Z len o z1 z2 _ l400 zR zC z87 l12 l01 => ⟨rfl, ?_⟩)
    have zY : ∀ a, a ≠ 82 → a ≠ 84 → a ≠ 85 → a ≠ 86 → a ≠ 87 → a ≠ 90 → Z a = Y a := o.1
    have zM : ∀ a, (14 ≤ a ∧ a ≤ 81) ∨ (91 ≤ a ∧ ¬ (N ≤ a ∧ a < N + 5)) → Z a = M a := fun a ha => (zY a (by omega) (by omega) (by omega) (by omega) (by omega) (by omega)).trans (y1 a (by omega) (by omega) (by omega) (by omega) (by omega))
    have z12 : ∀ j, Z 12 j = Y 12 j := fun j => by rw [zY 12 (by decide) (by decide) (by decide) (by decide) (by decide) (by decide)]
    have z11 : Z 1 11 = (r : Int) + 1 := by rw [zY 1 (by decide) (by decide) (by decide) (by decide) (by decide) (by decide)]; exact y11
    have z3 : Z 3 1 = 0 := by rw [zY 3 (by decide) (by decide) (by decide) (by decide) (by decide) (by decide)]; exact y31
    have tt := town Z (fun a ha => zM a (by omega))
    obtain ⟨own', hown⟩ : ∃ own' : Nat → Nat, own' = fun b => if N ≤ b ∧ b < N + 5 then 1 else own b := ⟨_, rfl⟩
    have o1 : ∀ b, N ≤ b → b < N + 5 → own' b = 1 := fun b b1 b2 => by rw [hown]; exact if_pos ⟨b1, b2⟩
    have o2 : ∀ b, ¬ (N ≤ b ∧ b < N + 5) → own' b = own b := fun b hb => by rw [hown]; exact if_neg hb
    have olt : ∀ b, own b ≠ 0 → b < N := fun b hb => Nat.lt_of_not_le (fun z => hb (hN b z).2)
    have h3' : iImgs own' (t + 1) Z G1 := by
      have h3k := h3.keep (t' := t + 1) (M' := Z) (by omega) (zM 41 (by omega)) (zM 106 (by omega)) (zM 107 (by omega)) (fun a ha hb => zM a (by have := olt a (by omega); omega))
      intro k k0 k1
      rcases h3k k k0 k1 with z | ⟨a1, a2, a3, a4⟩
      · exact Or.inl z
      · refine Or.inr ⟨a1, a2, fun j hj => ?_, a4⟩
        have y := a3 j hj
        rw [o2 _ (by have := olt _ (show own ((Z 41 k.toNat).toNat + j) ≠ 0 by omega); omega)]
        exact y
    refine ⟨by omega, own', N + 5, fun b hb => ?_, by omega, tape0 Z z3 z1, ⟨?_, ?_, ?_, fun r' r0 r1 => ?_⟩, h3', tt.1, tt.2⟩
    · rw [f3 b (by omega), o2 b (by omega)]
      exact hN b (by omega)
    · rw [z11]; omega
    · rw [z11]; omega
    · rw [z2, z11]
    · rw [z11] at r1
      by_cases er : r' = (r : Int)
      · subst er
        rw [show ((r : Int)).toNat = r from rfl, z12 r, y12, show ((N : Int)).toNat = N from rfl]
        refine ⟨by omega, fun j hj => o1 _ (by omega) (by omega), (cl.length : Int), clK cl, clD cl, hc.congr (fun k hk => ?_), zC.F r5 l400 zR z87 l12 l01⟩
        rw [zY _ (by omega) (by omega) (by omega) (by omega) (by omega) (by omega), yN _ (by omega) (by omega) (by omega)]
      · refine rule1.loc (r := r) (h2.2.2.2 r' r0 (by rw [hr]; omega)) r0 (by omega) (by rw [z12, y12' _ (by omega)]) (fun j hj => ?_) (fun j hj => ?_) (fun j hj => ?_) (fun a ha => ?_) (fun a ha hb => ?_)
        · rw [o.2.1 j hj, y1 84 (by decide) (by decide) (by decide) (by omega) (by omega)]
        · rw [o.2.2.1 j hj, y1 86 (by decide) (by decide) (by decide) (by omega) (by omega)]
        · rw [o.2.2.2 j hj, y1 87 (by decide) (by decide) (by decide) (by omega) (by omega)]
        · rw [o2 a (by have := olt a (by omega); omega)]; exact ha
        · have := olt a (by omega)
          exact ⟨zM a (by omega), f3 a (by omega)⟩
