/-! THE RULE PARSER, class: a sign; behind a fact; the step. -/
section
variable {d n p m e p' m' : Nat} {T : Nat → Int} {P : Int → sM → sG → Prop} {PV : sM → sG → Prop} {M : sM} {G : sG} {s : stS} {D : den} {k : Int} {cl : List (Int × den)}
theorem c47t {o q : Nat} {g : Int} (hd : 8 ≤ d) (ho : tOk T n) (hS : cSt M T n (4, p, m, s, D, k, cl)) (hA : okA n (4, p, m, s, D, k, cl)) (ho1 : 6 ≤ o ∧ o ≤ 10) (hq : p < q ∧ q ≤ n) (kf : g ≠ 0 → ∀ M', offR2 M M' → M' 3 3 = g → PV M' G) (kk : g = 0 → ∀ M', offR2 M M' → cSt M' T n (3, q, m + 1, (o, (stl 4 s D).2) :: (stl 4 s D).1, (stl 4 s D).2, k, cl) → PV M' G) : sW (sC (d + 1)) 47 (QV PV) 109 [vO 7 2, vN, vI (o : Int)] [] (cS (sUpd M 2 11 ((m + 1 : Nat) : Int)) q g) G 0 0 := by
  have hS' := hS
  obtain ⟨h1, h2, h3, h4, h5, h6, h7, h8, -⟩ := hS'
  have hp : p ≤ n := hA.2.2.2.1
  have h400 := ho.1
  have hC := hS.c2 (by decide) (by decide)
  have h8' : M 7 cl.length = k := h8 (by decide) (by decide)
  have hw := wfs_48 hA.1 hA.2.1
  obtain ⟨X, hX⟩ : ∃ X, X = cS (sUpd M 2 11 ((m + 1 : Nat) : Int)) q g := ⟨_, rfl⟩
  have x1 : ∀ a, a ≠ 2 → a ≠ 3 → X a = M a := fun a a2 a3 => by rw [hX, cS_a a3, sUpd_ne a2]
  have x2 : ∀ i, i ≠ 11 → X 2 i = M 2 i := fun i hi => by rw [hX, cS_a (by decide), sUpd_ni hi]
  have oX : offR2 M X := by rw [hX]; exact (offR2.u (Or.inl rfl)).trans offR2.cs
  have x11 : X 2 11 = ((m + 1 : Nat) : Int) := by rw [hX, cS_a (by decide), sUpd_eq]
  have x32 : X 3 2 = (q : Int) := by rw [hX, cS_p]
  have x33 : X 3 3 = g := by rw [hX, cS_f]
  rw [← hX]
  have hC' : cCr2 X s D cl m p := hC.congr (x1 5 (by decide) (by decide)) (x1 6 (by decide) (by decide)) (x1 9 (by decide) (by decide)) (x1 10 (by decide) (by decide)) (x1 11 (by decide) (by decide)) (fun i _ => by rw [x1 7 (by decide) (by decide), x1 8 (by decide) (by decide)]; exact ⟨rfl, rfl⟩) ⟨x2 8 (by decide), x2 10 (by decide), x2 12 (by decide)⟩ (Nat.le_refl _) (Nat.le_refl _)
  refine s47_109 (c46 (b := 4) (by omega) (by decide) (by omega) s D X hA.1 (by omega) hC' (fun M1 o1 c1 => ?_))
  have hw1 : (stl 4 s D).1.length ≤ 35 := wfs_48 (stl_wf s D hA.1) (Nat.le_trans (stl_dpt s D) hA.2.1)
  refine pushT (o := o) (b := 4) (p' := q) (m' := m + 1) (by omega) c1 (by omega) (by omega) rfl (by rw [bnd_sg ho1]; rfl) (by omega) (by omega) (fun N n1 n2 c2 => ?_)
  have oN : offR2 M (sUpd N 2 14 3) := by
    refine offR2.trans (M' := M1) (oX.trans o1.r) ?_
    exact offR2.trans (M' := N) ⟨fun a a2 a3 a5 => n1 a a2 (by omega) (by omega) (by omega), fun i i2 i3 => by rw [n1 3 (by decide) (by decide) (by decide) (by decide)]⟩ (offR2.u (Or.inl rfl))
  have en3 : N 3 = X 3 := (n1 3 (by decide) (by decide) (by decide) (by decide)).trans (o1.1 3 (by decide) (by decide) (by decide))
  have en7 : N 7 = M 7 := ((n1 7 (by decide) (by decide) (by decide) (by decide)).trans (o1.1 7 (by decide) (by decide) (by decide))).trans (x1 7 (by decide) (by decide))
  have en2 : ∀ i, i ≠ 8 → i ≠ 10 → i ≠ 12 → N 2 i = X 2 i := fun i i1 i2 i3 => (n2 i i2).trans (o1.2 i i1 i2 i3)
  have hbk : brk ((o, (stl 4 s D).2) :: (stl 4 s D).1) = brk s := by
    show (if o = 14 then 1 else 0) + brk (stl 4 s D).1 = _
    rw [if_neg (by omega), stl_brk (by omega), Nat.zero_add]
  by_cases c : g = 0
  · refine kk c _ oN ⟨oN.tp h1, ?_, ?_, ?_, ?_, ?_, ?_, fun _ _ => ?_, fun _ => ?_, fun z => by omega⟩
    · rw [sUpd_ne (by decide), en3, x32]
    · rw [sUpd_ne (by decide), en3, x33, c]
    · rw [sUpd_ni (by decide), en2 9 (by decide) (by decide) (by decide), x2 9 (by decide), h4]
    · rw [sUpd_ni (by decide), en2 11 (by decide) (by decide) (by decide), x11]
    · rw [sUpd_ni (by decide), en2 13 (by decide) (by decide) (by decide), x2 13 (by decide), h6, hbk]
    · rw [sUpd_eq]; rfl
    · rw [sUpd_ne (by decide), en7, h8']
    · exact c2.congr (sUpd_ne (by decide)) (sUpd_ne (by decide)) (sUpd_ne (by decide)) (sUpd_ne (by decide)) (sUpd_ne (by decide)) (fun i _ => by rw [sUpd_ne (by decide), sUpd_ne (by decide)]; exact ⟨rfl, rfl⟩) (by rw [sUpd_ni (by decide), sUpd_ni (by decide), sUpd_ni (by decide)]; exact ⟨rfl, rfl, rfl⟩) (Nat.le_refl _)
  · exact kf c _ oN (by rw [sUpd_ne (by decide), en3, x33])
theorem c47 (hd : 10 ≤ d) (ho : tOk T n) (hS : cSt M T n (4, p, m, s, D, k, cl)) (hA : okA n (4, p, m, s, D, k, cl)) (hj : aJn (chr T n p) = 0) (kk : cK T n M G PV (aBeh T n 4 p m k cl (stl (aDm T n 4 p) s D))) : sC d 47 [vO 7 2, vI (chr T n p)] M G (QV PV) := by
  obtain ⟨d, rfl⟩ := sD 2 (d := d) (by omega)
  have hS' := hS
  obtain ⟨h1, h2, h3, h4, h5, h6, h7, h8, -⟩ := hS'
  have hp : p ≤ n := hA.2.2.2.1
  have hm : m ≤ 60 := hA.2.2.1
  have h400 := ho.1
  have hM : cS M p 0 = M := cS_self.2 ⟨h2, h3⟩
  have hdm : aDm T n 4 p = 4 := by unfold aDm; rw [if_neg (fun z => z.2 hj), if_pos rfl]
  have hr : aBeh T n 4 p m k cl (stl (aDm T n 4 p) s D) = if chr T n p ≠ 60 ∧ chr T n p ≠ 61 ∧ chr T n p ≠ 62 then (1 + 8 * (p : Int), a0S) else if 60 ≤ m then (1 + 8 * (p : Int) + 3, a0S) else (0, 3, p + (if lng T n p = true then 2 else 1), m + 1, (sgS (chr T n p) (lng T n p), (stl 4 s D).2) :: (stl 4 s D).1, (stl 4 s D).2, k, cl) := by unfold aBeh; rw [if_neg (fun z => z.2 hj), if_pos rfl, hdm]
  rw [hr] at kk
  have s27 : ¬ (chr T n p ≠ 60 ∧ chr T n p ≠ 61 ∧ chr T n p ≠ 62) → sW (sC (d + 1)) 47 (QV PV) 27 [vO 7 2, vI (chr T n p), vN] [] M G 0 0 := by
    intro hc
    rw [if_neg hc] at kk
    have hlt : p < n := by
      by_cases y : p < n
      · exact y
      · have : chr T n p = -1 := by unfold chr; rw [if_neg y]
        rw [this] at hc
        exact absurd ⟨by decide, by decide, by decide⟩ hc
    have hchr : chr T n p = T p := by unfold chr; rw [if_pos hlt]
    have fin : ∀ (o q : Nat), sgS (chr T n p) (lng T n p) = o → p + (if lng T n p = true then 2 else 1) = q → q ≤ n → sW (sC (d + 1)) 47 (QV PV) 109 [vO 7 2, vN, vI (o : Int)] [] (cS (sUpd M 2 11 ((m + 1 : Nat) : Int)) q (if (0 : Int) = 0 ∧ 60 ≤ m then 1 + 8 * (p : Int) + 3 else 0)) G 0 0 := by
      intro o q ho' hq hqn
      have hs := sgS_b (c := chr T n p) (b := lng T n p)
      rw [ho'] at hs
      have hpq : p < q := by rw [← hq]; split <;> omega
      by_cases c6 : 60 ≤ m
      · rw [if_pos c6] at kk
        rw [if_pos ⟨rfl, c6⟩]
        exact c47t (by omega) ho hS hA hs ⟨hpq, hqn⟩ (fun _ M' a b => kk.1 (show 1 + 8 * (p : Int) + 3 ≠ 0 by omega) M' a b) (fun z => by omega)
      · rw [if_neg c6, ho', hq] at kk
        rw [if_neg (fun z => c6 z.2)]
        exact c47t (by omega) ho hS hA hs ⟨hpq, hqn⟩ (fun z => absurd rfl z) (fun _ M' a b => kk.2 rfl M' a b)
    have u : ∀ Y : sM, ∀ g : Int, sUpd (cS Y p g) 3 2 (cS Y p g 3 2 + 1) = cS Y (p + 1) g := fun Y g => by
      rw [cS_p, show ((p : Int) + 1) = ((p + 1 : Nat) : Int) from rfl, cS_up]
    have hT1 : cTp (sUpd M 2 11 ((m + 1 : Nat) : Int)) T n := (offR2.u (M := M) (Or.inl rfl)).tp h1
    refine s47_27 ?_
    rw [h2, ← hM]
    refine c43 (m := m) (k := 0) (by omega) h5 hm (by omega) ?_
    refine c48 (by omega) ho hT1 hp (fun z1 z2 z3 => ?_) (fun z1 => ?_)
    · have hl : lng T n p = true := by unfold lng; exact decide_eq_true ⟨by omega, z1, z3⟩
      refine ⟨fun y => absurd y (by decide), fun _ => ?_⟩
      exact fin 7 (p + 2) (by rw [hl, hchr, z2]; rfl) (by rw [hl]; rfl) (by omega)
    · refine ⟨fun _ => ?_, fun y => absurd rfl y⟩
      refine c48 (by omega) ho hT1 hp (fun z2 z3 z4 => ?_) (fun z2 => ?_)
      · have hl : lng T n p = true := by unfold lng; exact decide_eq_true ⟨by omega, z2, z4⟩
        refine ⟨fun y => absurd y (by decide), fun _ => ?_⟩
        exact fin 9 (p + 2) (by rw [hl, hchr, z3]; rfl) (by rw [hl]; rfl) (by omega)
      · have hl : lng T n p = false := by
          unfold lng
          refine decide_eq_false (fun z => ?_)
          by_cases c60 : T p = 60
          · exact z1 ⟨z.2.1, c60, z.2.2⟩
          · exact z2 ⟨z.2.1, by have := z.1; omega, z.2.2⟩
        have hl1 : p + (if lng T n p = true then 2 else 1) = p + 1 := by rw [hl]; rfl
        refine ⟨fun _ => ?_, fun y => absurd rfl y⟩
        have hpp : ∀ Y g, cS Y p g 3 2 = (p : Int) := fun Y g => cS_p
        refine ⟨⟨by rw [hpp]; omega, by rw [hpp]; omega⟩, fun z61 => ?_, fun z61 => ⟨fun z60 => ?_, fun z60 => ?_⟩⟩
        · rw [u]
          exact fin 8 (p + 1) (by rw [hl, z61]; rfl) hl1 (by omega)
        · rw [u]
          exact fin 10 (p + 1) (by rw [hl, show chr T n p = 62 by omega]; rfl) hl1 (by omega)
        · rw [u]
          exact fin 6 (p + 1) (by rw [hl, z60]; rfl) hl1 (by omega)
  refine e47 (s47_0 ⟨fun q1 => ?_, fun q2 => ⟨fun q3 => ?_, fun q4 => ⟨fun q5 => ?_, fun q6 => ?_⟩⟩⟩)
  · exact s27 (by omega)
  · exact s27 (by omega)
  · exact s27 (by omega)
  · rw [if_pos ⟨by omega, by omega, by omega⟩] at kk
    exact failK (g := 0) (by omega) (by omega) h2 h3 ⟨by decide, by decide⟩ (show 1 + 8 * (p : Int) = _ by omega) kk
theorem c50 (hd : 8 ≤ d) (hp : p ≤ 400) (hw : wfs s) (hl : s.length ≤ 35) (hb : 0 < brk s) (hb2 : M 2 13 = (brk s : Int)) (hC : cCr2 M s D cl m p) (kk : ∀ N : sM, (∀ a, a ≠ 2 → a ≠ 5 → a ≠ 6 → N a = M a) → (∀ i, i ≠ 8 → i ≠ 10 → i ≠ 12 → i ≠ 13 → N 2 i = M 2 i) → N 2 13 = (brk (stl 1 s D).1.tail : Int) → cCr2 N (stl 1 s D).1.tail (stl 1 s D).2 cl m p → PV N G) : sC d 50 [vO 7 2] M G (QV PV) := by
  obtain ⟨d, rfl⟩ := sD 1 (d := d) (by omega)
  refine e50 (s50_0 (c46 (b := 1) (by omega) (by decide) hp s D M hw (by omega) hC (fun M1 o1 c1 => ?_)))
  have t0 := stl_tb (b := 1) (Nat.le_refl _) s D
  have hbk := stl_brk (b := 1) (Nat.le_refl _) s D
  obtain ⟨x, s', hx, x14, ht⟩ := brk_1 (stl_wf (b := 1) s D hw) (by omega) (by omega)
  rw [hx] at c1 kk hbk
  obtain ⟨l1, l2, len, l3, l4⟩ := c1.len
  have hls : (x :: s').length = s'.length + 1 := rfl
  have hds : dpt (x :: s') = (if x.1 = 11 ∨ x.1 = 14 then 1 else 0) + dpt s' := rfl
  have hbs : brk (x :: s') = (if x.1 = 14 then 1 else 0) + brk s' := rfl
  rw [if_pos x14] at hbs
  rw [if_pos (Or.inr x14)] at hds
  have e13 : M1 2 13 = M 2 13 := o1.2 13 (by decide) (by decide) (by decide)
  have hbl := brk_len s
  have hdl := dpt_len s'
  refine ⟨⟨by omega, by omega⟩, ⟨by omega, by omega⟩, fun q1 => ?_, fun q2 => ⟨⟨by omega, by omega⟩, ?_⟩⟩
  · omega
  · refine kk _ (fun a a2 a5 a6 => by rw [sUpd_ne a2, sUpd_ne a2, sUpd_ne a2]; exact o1.1 a a2 a5 a6) (fun i i8 i10 i12 i13 => by rw [sUpd_ni i10, sUpd_ni i12, sUpd_ni i13]; exact o1.2 i i8 i10 i12) ?_ (cClose c1 x14 ?_ ?_ ?_ ?_ ?_ ?_ ?_ ?_ ?_ (Nat.le_refl _))
    · rw [sUpd_ni (by decide), sUpd_ni (by decide), sUpd_eq]
      show M1 2 13 - 1 = (brk s' : Int)
      omega
    · rw [sUpd_ne (by decide), sUpd_ne (by decide), sUpd_ne (by decide)]
    · rw [sUpd_ne (by decide), sUpd_ne (by decide), sUpd_ne (by decide)]
    · rw [sUpd_ne (by decide), sUpd_ne (by decide), sUpd_ne (by decide)]
    · rw [sUpd_ne (by decide), sUpd_ne (by decide), sUpd_ne (by decide)]
    · rw [sUpd_ne (by decide), sUpd_ne (by decide), sUpd_ne (by decide)]
    · intro i _; rw [sUpd_ne (by decide), sUpd_ne (by decide), sUpd_ne (by decide), sUpd_ne (by decide), sUpd_ne (by decide), sUpd_ne (by decide)]; exact ⟨rfl, rfl⟩
    · rw [sUpd_ni (by decide), sUpd_ni (by decide), sUpd_ni (by decide)]
    · rw [sUpd_eq]
    · rw [sUpd_ni (by decide), sUpd_eq]
  all_goals omega
theorem c51 (hd : 8 ≤ d) (hp : p ≤ 400) (hw : wfs s) (hl : s.length ≤ 35) (hb : brk s = 0) (hm : m ≤ 60) (hk : M 7 cl.length = k) (h9 : M 2 9 = (cl.length : Int)) (h12 : cl.length < 12) (hC : cCr2 M s D cl m p) (kk : ∀ N : sM, (∀ a, a ≠ 2 → a ≠ 5 → a ≠ 6 → a ≠ 8 → N a = M a) → (∀ i, i ≠ 8 → i ≠ 9 → i ≠ 10 → i ≠ 12 → N 2 i = M 2 i) → N 2 9 = ((cl.length + 1 : Nat) : Int) → cCr1 N [] ((k, (stl 1 s D).2) :: cl) m p → PV N G) : sC d 51 [vO 7 2] M G (QV PV) := by
  obtain ⟨d, rfl⟩ := sD 1 (d := d) (by omega)
  refine e51 (s51_0 (c46 (b := 1) (by omega) (by decide) hp s D M hw (by omega) hC (fun M1 o1 c1 => ?_)))
  have t0 := stl_tb (b := 1) (Nat.le_refl _) s D
  have hbk := stl_brk (b := 1) (Nat.le_refl _) s D
  have h0 := brk_0 (stl_wf (b := 1) s D hw) (by omega) (by omega)
  rw [h0] at c1
  obtain ⟨l1, l2, len, l3, l4⟩ := c1.len
  have e9 : M1 2 9 = (cl.length : Int) := (o1.2 9 (by decide) (by decide) (by decide)).trans h9
  have e7 : M1 7 = M 7 := o1.1 7 (by decide) (by decide) (by decide)
  refine ⟨fun q1 => ?_, fun q2 => ⟨⟨(by first | omega | assumption | (refine ⟨?_, ?_⟩ <;> omega) | (simp_all; done)), (by first | omega | assumption | (refine ⟨?_, ?_⟩ <;> omega) | (simp_all; done))⟩, ⟨by omega, by omega⟩, ?_⟩⟩
  · omega
  · rw [e9, show ((cl.length : Int)).toNat = cl.length from rfl]
    refine kk _ (fun a a2 a5 a6 a8 => by rw [sUpd_ne a2, sUpd_ne a8]; exact o1.1 a a2 a5 a6) (fun i i8 i9 i10 i12 => by rw [sUpd_ni i9, sUpd_ne (by decide)]; exact o1.2 i i8 i10 i12) (by rw [sUpd_eq]; rfl) (cEnd c1 l3 (by omega) ?_ ?_ ?_ ?_ (by rw [e7, hk]) ?_ ?_ ?_ (Nat.le_refl _))
    · rw [sUpd_ne (by decide), sUpd_ne (by decide)]
    · rw [sUpd_ne (by decide), sUpd_ne (by decide)]
    · intro i; rw [sUpd_ne (by decide), sUpd_ne (by decide)]
    · intro i
      rw [sUpd_ne (by decide)]
      by_cases c : i = cl.length
      · rw [c, sUpd_eq, if_pos rfl, l3]
      · rw [sUpd_ni c, if_neg c]
    · rw [sUpd_ni (by decide), sUpd_ne (by decide)]
    · rw [sUpd_ni (by decide), sUpd_ne (by decide)]
    · rw [sUpd_ni (by decide), sUpd_ne (by decide)]
  all_goals omega
end
