/-! THE RULE PARSER, class: what joins, a sign. -/
section
variable {d n p m e p' m' : Nat} {T : Nat → Int} {P : Int → sM → sG → Prop} {PV : sM → sG → Prop} {M : sM} {G : sG} {s : stS} {D : den} {k : Int} {cl : List (Int × den)}
theorem cCr2.len (h : cCr2 M s D cl m p) : M 2 10 = (s.length : Int) ∧ M 2 12 = (dpt s : Int) ∧ ∃ len : Nat, M 2 8 = (len : Int) ∧ len + s.length ≤ p := by
  obtain ⟨len, a, a0, f, H, h1, h2, h3, h4, -⟩ := h
  exact ⟨h2, h3, len, h1, h4⟩
theorem cSt.c2 (hS : cSt M T n (e, p, m, s, D, k, cl)) (h4 : 4 ≤ e) (h6 : e ≤ 6) : cCr2 M s D cl m p := hS.2.2.2.2.2.2.2.2.2 h4 h6
theorem pushT {o b : Nat} {x1 x2 : Int} (hd : 2 ≤ d) (h : cCr2 M s D cl m p) (hw : s.length ≤ 47) (ho : 2 ≤ o ∧ o ≤ 10) (h1 : x1 = (o : Int)) (h2 : x2 = (bnd o : Int)) (hp : p + 1 ≤ p') (hm : m ≤ m') (kk : ∀ N : sM, (∀ a, a ≠ 2 → a ≠ 9 → a ≠ 10 → a ≠ 11 → N a = M a) → (∀ i, i ≠ 10 → N 2 i = M 2 i) → cCr1 N ((o, D) :: s) cl m' p' → PV N G) : sC d 40 [vO 7 2, vI x1, vI x2, vI (-1)] M G (QV PV) := by
  obtain ⟨l1, l2, len, l3, l4⟩ := h.len
  refine c40 (w := s.length) hd l1 (by omega) (kk _ (fun a a2 a9 a10 a11 => by rw [sUpd_ne a2, sUpd_ne a10, sUpd_ne a11, sUpd_ne a9]) (fun i hi => by rw [sUpd_ni hi, sUpd_ne (by decide), sUpd_ne (by decide), sUpd_ne (by decide)]) (cPush h ho ?_ ?_ ?_ ?_ ?_ ?_ ?_ ?_ ?_ hp hm))
  · funext i; simp [sUpd]
  · funext i; simp [sUpd]
  · intro i _; simp [sUpd]
  · intro i; simp [sUpd, h1]
  · intro i; simp [sUpd]
  · intro i; simp [sUpd, h2]
  · simp [sUpd]
  · simp [sUpd]
  · simp [sUpd]
theorem pushJT {o b : Nat} {x1 x2 : Int} (hd : 2 ≤ d) (h : cCr2 M s D cl m p) (hw : s.length ≤ 47) (hp4 : p < 400) (ho : o = 12 ∨ o = 13) (h1 : x1 = (o : Int)) (h2 : x2 = (bnd o : Int)) (hp : p + 2 ≤ p') (kk : ∀ N : sM, (∀ a, a ≠ 2 → a ≠ 5 → a ≠ 6 → a ≠ 9 → a ≠ 10 → a ≠ 11 → N a = M a) → (∀ i, i ≠ 8 → i ≠ 10 → N 2 i = M 2 i) → cCr1 N ((o, D) :: s) cl m p' → PV N G) : sC d 44 [vO 7 2, vI x1, vI 0] M G (QI (fun r M1 G1 => sC d 40 [vO 7 2, vI x1, vI x2, vI r] M1 G1 (QV PV))) := by
  obtain ⟨l1, l2, len, l3, l4⟩ := h.len
  refine c44 (len := len) hd l3 (by omega) (c40 (w := s.length) hd (by simp [sUpd, l1]) (by omega) (kk _ (fun a a2 a5 a6 a9 a10 a11 => by rw [sUpd_ne a2, sUpd_ne a10, sUpd_ne a11, sUpd_ne a9, sUpd_ne a2, sUpd_ne a6, sUpd_ne a5]) (fun i h8 hi => by rw [sUpd_ni hi, sUpd_ne (by decide), sUpd_ne (by decide), sUpd_ne (by decide), sUpd_ni h8, sUpd_ne (by decide), sUpd_ne (by decide)]) (cPushJ h l3 ho ?_ ?_ ?_ ?_ ?_ ?_ ?_ ?_ ?_ hp)))
  · intro i; simp [sUpd, h1]
  · intro i; simp [sUpd]
  · intro i _; simp [sUpd]
  · intro i; simp [sUpd, h1]
  · intro i; simp [sUpd]
  · intro i; simp [sUpd, h2]
  · simp [sUpd]
  · simp [sUpd]
  · simp [sUpd]
theorem c45 (hd : 10 ≤ d) (ho : tOk T n) (hS : cSt M T n (e, p, m, s, D, k, cl)) (hA : okA n (e, p, m, s, D, k, cl)) (e4 : e = 4 ∨ e = 5) (hj : aJn (chr T n p) ≠ 0) (kk : cK T n M G PV (aBeh T n e p m k cl (stl (aDm T n e p) s D))) : sC d 45 [vO 7 2, vI (chr T n p)] M G (QV PV) := by
  obtain ⟨d, rfl⟩ := sD 2 (d := d) (by omega)
  have hS' := hS
  obtain ⟨h1, h2, h3, h4, h5, h6, h7, h8, -⟩ := hS'
  have hp : p ≤ n := hA.2.2.2.1
  have h400 := ho.1
  have hC := hS.c2 (by omega) (by omega)
  have h8' : M 7 cl.length = k := h8 (by omega) (by omega)
  have hw := wfs_48 hA.1 hA.2.1
  have hb6 := bnd_le (aJn (chr T n p))
  have hjb := aJn_b hj
  have hdm : aDm T n e p = bnd (aJn (chr T n p)) := by unfold aDm; rw [if_pos ⟨by omega, hj⟩]
  have hr : aBeh T n e p m k cl (stl (aDm T n e p) s D) = (0, if e = 4 then 2 else 3, p + 1, m, (aJn (chr T n p), (stl (aDm T n e p) s D).2) :: (stl (aDm T n e p) s D).1, (stl (aDm T n e p) s D).2, k, cl) := by unfold aBeh; rw [if_pos ⟨by omega, hj⟩]
  rw [hr, hdm] at kk
  have main : ∀ o b : Nat, aJn (chr T n p) = o → bnd o = b → sC (d + 1) 46 [vO 7 2, vI (b : Int)] (sUpd M 3 2 (M 3 2 + 1)) G (QV (fun M1 G1 => sC (d + 1) 40 [vO 7 2, vI (o : Int), vI (b : Int), vI (-1)] M1 G1 (QV (fun M2 G2 => (M2 2 14 ≠ 4 → PV (sUpd M2 2 14 3) G2) ∧ (M2 2 14 = 4 → PV (sUpd M2 2 14 2) G2))))) := by
    intro o b eo eb
    rw [eo, eb] at kk hjb
    have hC' : cCr2 (sUpd M 3 2 (M 3 2 + 1)) s D cl m p := hC.congr (sUpd_ne (by decide)) (sUpd_ne (by decide)) (sUpd_ne (by decide)) (sUpd_ne (by decide)) (sUpd_ne (by decide)) (fun i _ => by rw [sUpd_ne (by decide), sUpd_ne (by decide)]; exact ⟨rfl, rfl⟩) (by rw [sUpd_ne (by decide)]; exact ⟨rfl, rfl, rfl⟩) (Nat.le_refl _) (Nat.le_refl _)
    refine c46 (by omega) (by omega) (by omega) s D _ hA.1 (by omega) hC' (fun M1 o1 c1 => ?_)
    have hw1 : (stl b s D).1.length ≤ 35 := wfs_48 (stl_wf s D hA.1) (Nat.le_trans (stl_dpt s D) hA.2.1)
    refine pushT (o := o) (b := b) (p' := p + 1) (m' := m) (by omega) c1 (by omega) (by omega) rfl (by rw [eb]) (Nat.le_refl _) (Nat.le_refl _) (fun N n1 n2 c2 => ?_)
    have oN : ∀ y, offR2 M (sUpd N 2 14 y) := fun y => by
      refine offR2.trans (M' := M1) ((offR2.u (Or.inr (Or.inl ⟨rfl, Or.inl rfl⟩))).trans o1.r) ?_
      refine offR2.trans (M' := N) ⟨fun a a2 a3 a5 => n1 a a2 (by omega) (by omega) (by omega), fun i i2 i3 => by rw [n1 3 (by decide) (by decide) (by decide) (by decide)]⟩ (offR2.u (Or.inl rfl))
    have en3 : N 3 = sUpd M 3 2 (M 3 2 + 1) 3 := (n1 3 (by decide) (by decide) (by decide) (by decide)).trans (o1.1 3 (by decide) (by decide) (by decide))
    have en7 : N 7 = M 7 := ((n1 7 (by decide) (by decide) (by decide) (by decide)).trans (o1.1 7 (by decide) (by decide) (by decide))).trans (sUpd_ne (by decide))
    have en2 : ∀ i, i ≠ 8 → i ≠ 10 → i ≠ 12 → N 2 i = M 2 i := fun i i1 i2 i3 => ((n2 i i2).trans (o1.2 i i1 i2 i3)).trans (by rw [sUpd_ne (by decide)])
    have hbk : brk ((o, (stl b s D).2) :: (stl b s D).1) = brk s := by
      show (if o = 14 then 1 else 0) + brk (stl b s D).1 = _
      rw [if_neg (by omega), stl_brk (by omega), Nat.zero_add]
    have fin : ∀ e' : Nat, (if e = 4 then 2 else 3) = e' → PV (sUpd N 2 14 (e' : Int)) G := fun e' he => by
      rw [he] at kk
      have e23 : e' = 2 ∨ e' = 3 := by rw [← he]; split; exact Or.inl rfl; exact Or.inr rfl
      refine kk.2 rfl _ (oN _) ⟨(oN _).tp h1, ?_, ?_, ?_, ?_, ?_, ?_, fun _ _ => ?_, fun _ => ?_, fun z => by omega⟩
      · rw [sUpd_ne (by decide), en3, sUpd_eq, h2]; rfl
      · rw [sUpd_ne (by decide), en3, sUpd_ni (by decide), h3]
      · rw [sUpd_ni (by decide), en2 9 (by decide) (by decide) (by decide), h4]
      · rw [sUpd_ni (by decide), en2 11 (by decide) (by decide) (by decide), h5]
      · rw [sUpd_ni (by decide), en2 13 (by decide) (by decide) (by decide), h6, hbk]
      · rw [sUpd_eq]
      · rw [sUpd_ne (by decide), en7, h8']
      · exact c2.congr (sUpd_ne (by decide)) (sUpd_ne (by decide)) (sUpd_ne (by decide)) (sUpd_ne (by decide)) (sUpd_ne (by decide)) (fun i _ => by rw [sUpd_ne (by decide), sUpd_ne (by decide)]; exact ⟨rfl, rfl⟩) (by rw [sUpd_ni (by decide), sUpd_ni (by decide), sUpd_ni (by decide)]; exact ⟨rfl, rfl, rfl⟩) (Nat.le_refl _)
    have e14 : N 2 14 = (e : Int) := (en2 14 (by decide) (by decide) (by decide)).trans h7
    exact ⟨fun z => fin 3 (if_neg (by omega)), fun z => fin 2 (if_pos (by omega))⟩
  have hc := aJn_c hj
  refine e45 (s45_0 ⟨⟨by omega, by omega⟩, fun q1 => ?_, fun q4 => ⟨fun q5 => ?_, fun q12 => ?_⟩⟩)
  · exact main 2 5 (by omega) rfl
  · refine sC_mono _ _ _ _ _ _ _ (fun r M1 G1 hh => ?_) (main (aJn (chr T n p)) 6 rfl (by rcases hc with ⟨z, -⟩ | ⟨z, -⟩ | ⟨-, z⟩ | ⟨-, z⟩; omega; omega; rw [z]; rfl; rw [z]; rfl))
    obtain ⟨hr1, hh⟩ := hh
    refine ⟨hr1, ⟨fun z => ?_, fun z => ?_⟩⟩
    · rw [show aJn (chr T n p) = 5 by omega] at hh; exact hh
    · rw [show aJn (chr T n p) = 4 by omega] at hh; exact hh
  · exact main 3 5 (by omega) rfl
  all_goals omega
theorem c48 {x1 x2 f : Int} (hd : 2 ≤ d) (ho : tOk T n) (hT : cTp M T n) (hp : p ≤ n) (k1 : p + 1 < n → T p = x1 → T (p + 1) = x2 → P 1 (cS M (p + 2) f) G) (k0 : ¬ (p + 1 < n ∧ T p = x1 ∧ T (p + 1) = x2) → P 0 (cS M p f) G) : sC d 48 [vO 4 3, vI x1, vI x2] (cS M p f) G (QI P) := by
  obtain ⟨d, rfl⟩ := sD 2 (d := d) (by omega)
  have h400 := ho.1
  have hl : cS M p f 3 1 = (n : Int) := hT.l
  have hpp : cS M p f 3 2 = (p : Int) := cS_p
  have hb : p < n → cS M p f 4 (cS M p f 3 2).toNat = T p := fun z => by rw [hpp]; exact hT.b z
  have hb1 : p + 1 < n → cS M p f 4 (cS M p f 3 2 + 1).toNat = T (p + 1) := fun z => by rw [hpp]; exact hT.b z
  refine e48 (s48_0 ⟨⟨by omega, by omega⟩, fun q1 => ?_, fun q2 => ⟨⟨(by first | omega | assumption | (refine ⟨?_, ?_⟩ <;> omega) | (simp_all; done)), (by first | omega | assumption | (refine ⟨?_, ?_⟩ <;> omega) | (simp_all; done))⟩, fun q3 => ?_, fun q4 => ⟨⟨(by first | omega | assumption | (refine ⟨?_, ?_⟩ <;> omega) | (simp_all; done)), (by first | omega | assumption | (refine ⟨?_, ?_⟩ <;> omega) | (simp_all; done))⟩, fun q5 => ?_, fun q6 => ⟨⟨by omega, by omega⟩, ?_⟩⟩⟩⟩)
  · exact k0 (fun z => by omega)
  · exact k0 (fun z => by have := hb (by omega); omega)
  · exact k0 (fun z => by have := hb1 (by omega); omega)
  · rw [hpp, show ((p : Int) + 2) = ((p + 2 : Nat) : Int) from rfl, cS_up]
    exact k1 (by omega) (by have := hb (by omega); omega) (by have := hb1 (by omega); omega)
  all_goals omega
end
