/-! STEP: houses, together. -/
section
variable {d : Nat} {P : Int → sM → sG → Prop} {PV : sM → sG → Prop} {M : sM} {G : sG}
theorem r247d {law : Int} {pk : Nat → Nat} {n s1 : Nat} (hn : n ≤ 12) (hp : pkOk pk n s1) (hs : s1 ≤ 18) (hs1 : M 93 1 = (s1 : Int)) (hm : ∀ k, k < n → M 98 k = ((pk k : Nat) : Int)) (hc : ∀ i : Nat, i < s1 → M 95 i = ((mskN (crQ (M 93) law i) s1 : Nat) : Int)) (h97 : M 97 0 = 0) (kk : ∀ (h : Nat) (N : sM), (∀ a, a ≠ 97 → N a = M a) → chI (adJ (M 93) law pk) (2 ^ n - 1) h → P (h : Int) N G) : sW (sC (d + 20)) 247 (QI P) 112 [vO 12 82, vN, vN, vI 0, vI (n : Int), vI 0, vI 1, vN, vN, vN, vN, vN] [] M G 0 0 := by
  have hpn := p12 hn
  have h2 := Nat.two_pow_pos n
  have esh : iShl 1 (n : Int) = ((2 ^ n : Nat) : Int) := z_bit (by omega) (by omega)
  refine sUpFrom (W := fun i => ∀ N : sM, (∀ a, a ≠ 97 → N a = M a) → chT (adJ (M 93) law pk) N i → sW (sC (d + 20)) 247 (QI P) 112 [vO 12 82, vN, vN, vI 0, vI (n : Int), vI 0, vI (i : Int), vN, vN, vN, vN, vN] [] N G 0 0) 1 (2 ^ n) (by omega) ?_ ?_ M (fun _ _ => rfl) (fun Y hY => ⟨0, by rw [show Y = 0 by omega]; exact ch_0, by rw [show Y = 0 by omega]; exact h97⟩)
  · intro N n1 nt
    obtain ⟨h, hh, eh⟩ := nt (2 ^ n - 1) (by omega)
    have e1 : (iShl 1 (n : Int)) - 1 = ((2 ^ n - 1 : Nat) : Int) := by omega
    refine (s247_112 ⟨fun q1 => ⟨fun q2 => ⟨⟨by omega, by omega⟩, ⟨(by first | omega | assumption | (refine ⟨?_, ?_⟩ <;> omega) | (simp_all; done)), (by first | omega | assumption | (refine ⟨?_, ?_⟩ <;> omega) | (simp_all; done))⟩, ?_⟩, fun q3 => ?_⟩, fun q4 => ⟨fun q5 => ⟨⟨(by first | omega | assumption | (refine ⟨?_, ?_⟩ <;> omega) | (simp_all; done)), (by first | omega | assumption | (refine ⟨?_, ?_⟩ <;> omega) | (simp_all; done))⟩, ⟨by omega, by omega⟩, ?_⟩, fun q6 => ?_⟩⟩)
    all_goals try omega
    rw [e1]
    show P (N 97 (2 ^ n - 1)) N G
    rw [eh]
    exact kk h N n1 hh
  · intro i i0 hi ih N n1 nt
    obtain ⟨t, t1, t2⟩ := low_ex 12 i (by omega) (by omega)
    have e93 : N 93 = M 93 := n1 93 (by decide)
    have el : iAnd (i : Int) (-(i : Int)) = ((2 ^ t : Nat) : Int) := by
      rw [low12 i (by omega)]
      have : i &&& (i ^^^ (i - 1)) = 2 ^ t := Nat.eq_of_testBit_eq (fun q => Bool.eq_iff_iff.mpr (by
        rw [dif_b, bit_pow, decide_eq_true_iff]
        have := t2 q
        rw [Nat.testBit_and, Bool.and_eq_true] at this
        constructor
        · rintro ⟨a, b⟩
          refine Classical.byContradiction fun z => b (this.mpr ⟨a, fun w => z w.symm⟩).2
        · intro z
          rw [← z]
          refine ⟨t1, fun w => ?_⟩
          rw [← z] at this
          exact (this.mp ⟨t1, w⟩).2 rfl))
      rw [this]
    have t12 := bit_lt (show i < 4096 by omega) t1
    have pt := p12 (m := t) (by omega)
    have er : iXor (i : Int) ((2 ^ t : Nat) : Int) = ((i &&& (i - 1) : Nat) : Int) := by
      rw [n_xor (by omega) (by omega)]
      have : i ^^^ 2 ^ t = i &&& (i - 1) := Nat.eq_of_testBit_eq (fun q => Bool.eq_iff_iff.mpr (by
        rw [xor_sub (fun j hj => by rw [bit_pow, decide_eq_true_iff] at hj; rw [← hj]; exact t1), t2 q, bit_pow, decide_eq_true_iff]
        exact ⟨fun z => ⟨z.1, fun w => z.2 w.symm⟩, fun z => ⟨z.1, fun w => z.2 w.symm⟩⟩))
      rw [this]
    have body := r247h (d := d) (P := P) (M := N) (G := G) (law := law) (pk := pk) (n := n) (s1 := s1) hn hp hs (by rw [e93]; exact hs1) (fun k hk => by rw [n1 98 (by decide)]; exact hm k hk) (fun j hj => by rw [n1 95 (by decide), e93]; exact hc j hj) (i := i) (by omega) hi (by rw [e93]; exact nt) (fun N2 m1 m2 => ih N2 (fun a ha => (m1 a ha).trans (n1 a ha)) (by rw [e93] at m2; exact m2)) t1 t2
    refine (s247_112 ⟨fun q1 => ⟨fun q2 => ⟨⟨by omega, by omega⟩, ⟨(by first | omega | assumption | (refine ⟨?_, ?_⟩ <;> omega) | (simp_all; done)), (by first | omega | assumption | (refine ⟨?_, ?_⟩ <;> omega) | (simp_all; done))⟩, ?_⟩, fun q3 => ?_⟩, fun q4 => ⟨fun q5 => ⟨⟨(by first | omega | assumption | (refine ⟨?_, ?_⟩ <;> omega) | (simp_all; done)), (by first | omega | assumption | (refine ⟨?_, ?_⟩ <;> omega) | (simp_all; done))⟩, ⟨by omega, by omega⟩, ?_⟩, fun q6 => ?_⟩⟩)
    all_goals try omega
    rw [el, er]
    exact body
def hsOk (S : Nat → Int) (x law w : Int) : Prop := 0 ≤ x ∧ x < iShl 1 (S 1) ∧ 1 ≤ cnB x.toNat (S 1).toNat ∧ cnB x.toNat (S 1).toNat ≤ 12 ∧ 0 ≤ law ∧ law ≤ 2 ∧ 0 ≤ w ∧ w ≤ 1
theorem rgb {x n : Nat} (h : x < 2 ^ n) (hn : n ≤ 18) : nS (pcF x) 18 = ((cnB x n : Nat) : Int) := by rw [cnB_is, pc_ext h hn]
theorem c247 {x law w : Int} (hd : 60 ≤ d) (hs1 : 0 ≤ M 93 1 ∧ M 93 1 ≤ 18) (k0 : ¬ hsOk (M 93) x law w → P (-1) M G) (kg : hsOk (M 93) x law w → w = 1 → ∀ N : sM, (∀ a, a ≠ 95 → a ≠ 97 → a ≠ 98 → N a = M a) → ∀ g : Int, gaP (adJ (M 93) law (pkF x.toNat (M 93 1).toNat)) (2 ^ cnB x.toNat (M 93 1).toNat - 1) g → P g N G) (kh : hsOk (M 93) x law w → w = 0 → ∀ N : sM, (∀ a, a ≠ 95 → a ≠ 97 → a ≠ 98 → N a = M a) → ∀ h : Nat, chI (adJ (M 93) law (pkF x.toNat (M 93 1).toNat)) (2 ^ cnB x.toNat (M 93 1).toNat - 1) h → P (h : Int) N G) : sC d 247 [vO 12 82, vI x, vI law, vI w] M G (QI P) := by
  obtain ⟨d, rfl⟩ := sD 22 (d := d) (by omega)
  refine e247 (s247_0 ⟨fun q1 => ?_, fun q2 => ⟨fun q3 => ?_, fun q4 => ?_⟩⟩)
  · exact k0 (fun z => by unfold hsOk at z; omega)
  · exact k0 (fun z => by unfold hsOk at z; omega)
  · have hx := rng hs1.1 hs1.2 q2 q4
    have ec := rgb hx.1 (by omega)
    refine c245 (by omega) (by omega) (by omega) ?_
    rw [ec]
    refine ⟨fun q5 => ?_, fun q6 => ⟨fun q7 => ?_, fun q8 => ⟨fun q9 => ?_, fun q10 => ⟨fun q11 => ?_, fun q12 => ⟨fun q13 => ?_, fun q14 => ⟨fun q15 => ?_, fun q16 => ?_⟩⟩⟩⟩⟩⟩
    all_goals try (exact k0 (fun z => by unfold hsOk at z; omega))
    have ok : hsOk (M 93) x law w := by unfold hsOk; omega
    refine c242 (by omega) hs1.1 hs1.2 (by omega) (fun N n1 n2 => ?_)
    have e93 : N 93 = M 93 := n1 93 (by decide)
    refine ?_
    have main : sW (sC (d + 21)) 247 (QI P) 58 [vO 12 82, vI x, vN, vI w, vI ((cnB x.toNat 0 : Nat) : Int), vI ((0 : Nat) : Int), vN, vN, vN, vN, vN, vN] [] N G 0 0 := by
      refine sUpTo (W := fun s => ∀ N2 : sM, (∀ a, a ≠ 98 → N2 a = N a) → (∀ k, k < cnB x.toNat s → N2 98 k = ((pkF x.toNat s k : Nat) : Int)) → sW (sC (d + 21)) 247 (QI P) 58 [vO 12 82, vI x, vN, vI w, vI ((cnB x.toNat s : Nat) : Int), vI (s : Int), vN, vN, vN, vN, vN, vN] [] N2 G 0 0) (M 93 1).toNat ?_ ?_ N (fun _ _ => rfl) (fun k hk => absurd hk (Nat.not_lt_zero k))
      · intro N2 m1 m2
        have e93b : N2 93 = M 93 := (m1 93 (by decide)).trans e93
        have e1b : N2 93 1 = M 93 1 := by rw [e93b]
        have al : ∀ N3 : sM, (∀ a, a ≠ 97 → N3 a = (sUpd N2 97 0 0) a) → ∀ a, a ≠ 95 → a ≠ 97 → a ≠ 98 → N3 a = M a := fun N3 h3 a z1 z2 z3 => (h3 a z2).trans ((sUpd_ne z2).trans ((m1 a z3).trans (n1 a z1)))
        have pok : pkOk (pkF x.toNat (M 93 1).toNat) (cnB x.toNat (M 93 1).toNat) (M 93 1).toNat := ⟨fun k hk => (pkF_b hk).1, fun i j hi hj h => pkF_inj hi hj h⟩
        have f1 : (sUpd N2 97 0 0) 93 1 = (((M 93 1).toNat : Nat) : Int) := by rw [sUpd_ne (by decide), e1b]; omega
        have f2 : ∀ k, k < cnB x.toNat (M 93 1).toNat → (sUpd N2 97 0 0) 98 k = ((pkF x.toNat (M 93 1).toNat k : Nat) : Int) := fun k hk => by rw [sUpd_ne (by decide)]; exact m2 k hk
        have f3 : (sUpd N2 97 0 0) 93 = M 93 := (sUpd_ne (by decide)).trans e93b
        have f4 : ∀ i : Nat, i < (M 93 1).toNat → (sUpd N2 97 0 0) 95 i = ((mskN (crQ ((sUpd N2 97 0 0) 93) law i) (M 93 1).toNat : Nat) : Int) := fun i hi => by
          rw [f3, sUpd_ne (by decide), m1 95 (by decide)]
          exact n2 i (by omega)
        refine (s247_58 ⟨fun q1 => ?_, fun q2 => ⟨fun q3 => ⟨⟨by omega, by omega⟩, ?_⟩, fun q4 => ⟨⟨(by first | omega | assumption | (refine ⟨?_, ?_⟩ <;> omega) | (simp_all; done)), (by first | omega | assumption | (refine ⟨?_, ?_⟩ <;> omega) | (simp_all; done))⟩, ⟨by omega, by omega⟩, ⟨by omega, by omega⟩, ?_⟩⟩⟩)
        · by_cases hw : w = 1
          · rw [hw]
            refine r247g (d := d + 1) (x1 := x) (law := law) (by omega) pok (by omega) f1 f2 f4 (fun g hg => kg ok hw _ (al _ (fun _ _ => rfl)) g ?_)
            rw [f3] at hg
            exact hg
          · have hw0 : w = 0 := by omega
            rw [hw0]
            refine r247d (d := d + 1) (law := law) (by omega) pok (by omega) f1 f2 f4 sUpd_eq (fun h N3 h3 hh => kh ok hw0 N3 (al N3 h3) h ?_)
            rw [f3] at hh
            exact hh
        all_goals omega
      · intro s hs ih N2 m1 m2
        have e1b : N2 93 1 = M 93 1 := by rw [m1 93 (by decide), e93]
        have hs1 := z_has1 q2 (by omega) (show (0 : Int) ≤ s by omega) (by omega)
        have hs1' : x.toNat.testBit ((s : Int)).toNat = x.toNat.testBit s := rfl
        rw [hs1'] at hs1
        have cl := cnB_mono x.toNat (show s + 1 ≤ (M 93 1).toNat by omega)
        have cl0 := cnB_mono x.toNat (show s ≤ (M 93 1).toNat by omega)
        have cl3 : iAnd (iShr x (s : Int)) 1 = 1 → cnB x.toNat s < 12 := fun z => by
          rw [cnB_y (hs1.mp z)] at cl; omega
        refine (s247_58 ⟨fun q1 => ?_, fun q2 => ⟨fun q3 => ⟨⟨by omega, by omega⟩, ?_⟩, fun q4 => ⟨⟨(by first | omega | assumption | (refine ⟨?_, ?_⟩ <;> omega) | (simp_all; done)), (by first | omega | assumption | (refine ⟨?_, ?_⟩ <;> omega) | (simp_all; done))⟩, ⟨by omega, by omega⟩, ⟨by omega, by omega⟩, ?_⟩⟩⟩)
        · omega
        · rw [cnB_n (fun z => q3 (hs1.mpr z))] at ih
          exact ih N2 m1 (fun k hk => by rw [pkF_st hk]; exact m2 k hk)
        · have hy := hs1.mp q4
          rw [cnB_y hy] at ih cl
          have ec : (((cnB x.toNat s : Nat) : Int)).toNat = cnB x.toNat s := rfl
          rw [ec]
          have nx := ih (sUpd N2 98 (cnB x.toNat s) (s : Int)) (fun a ha => (sUpd_ne ha).trans (m1 a ha)) (fun k hk => by
            by_cases z : k = cnB x.toNat s
            · rw [z, pkF_nw hy]; exact sUpd_eq
            · rw [sUpd_ni z, pkF_st (by omega)]
              exact m2 k (by omega))
          exact nx
        all_goals omega
    exact main
end
theorem L112 (t x law w : Int) : Step t 112 247 [vI x, vI law, vI w] := by
  intro d M G hd hI
  obtain ⟨hv, hlt, ht, hvo, hto, t0⟩ := hI.t
  have hs1 := hv.1.2.1
  have b6 := ht.1.2.1
  have b6' : M 14 6 = M 93 1 := b6
  have fin : ∀ N : sM, (∀ a, a ≠ 60 → a ≠ 66 → a ≠ 67 → a ≠ 68 → a ≠ 95 → a ≠ 97 → a ≠ 98 → N a = M a) → Inv (t + 1) N G := fun N h => hI.same ⟨fun a _ ha => h a (by omega) (by omega) (by omega) (by omega) (by omega) (by omega) (by omega), fun _ => by rw [h 1 (by decide) (by decide) (by decide) (by decide) (by decide) (by decide) (by decide)], fun _ => by rw [h 3 (by decide) (by decide) (by decide) (by decide) (by decide) (by decide) (by decide)], fun _ => by rw [h 82 (by decide) (by decide) (by decide) (by decide) (by decide) (by decide) (by decide)]; exact ⟨rfl, rfl⟩⟩
  have ref : ∀ (N : sM) (r : Int), (∀ a, a ≠ 60 → a ≠ 66 → a ≠ 67 → a ≠ 68 → N a = M a) → (¬ hsOk (M 93) x law w → r = -1) → (hsOk (M 93) x law w → w = 1 → ∀ g : Int, gaP (adJ (M 93) law (pkF x.toNat (M 93 1).toNat)) (2 ^ cnB x.toNat (M 93 1).toNat - 1) g → r = g) → (hsOk (M 93) x law w → w = 0 → ∀ h : Nat, chI (adJ (M 93) law (pkF x.toNat (M 93 1).toNat)) (2 ^ cnB x.toNat (M 93 1).toNat - 1) h → r = (h : Int)) → sC d 247 [vO 12 82, vI x, vI law, vI w] N G (QI (LPost t r)) := fun N r n1 r0 rg rh => by
    have e93 : N 93 = M 93 := n1 93 (by decide) (by decide) (by decide) (by decide)
    refine c247 (by omega) (by rw [e93]; exact hs1) (fun z => ?_) (fun ok hw N2 m1 g hg => ?_) (fun ok hw N2 m1 h hh => ?_)
    · rw [e93] at z
      exact ⟨(r0 z).symm, fin N (fun a z1 z2 z3 z4 _ _ _ => n1 a z1 z2 z3 z4)⟩
    · rw [e93] at hg ok
      exact ⟨(rg ok hw g hg).symm, fin N2 (fun a z1 z2 z3 z4 z5 z6 z7 => (m1 a z5 z6 z7).trans (n1 a z1 z2 z3 z4))⟩
    · rw [e93] at hh ok
      exact ⟨(rh ok hw h hh).symm, fin N2 (fun a z1 z2 z3 z4 z5 z6 z7 => (m1 a z5 z6 z7).trans (n1 a z1 z2 z3 z4))⟩
  obtain ⟨d, rfl⟩ := sD 40 (d := d) (by omega)
  have bad : ∀ r : Int, r = -1 → ¬ hsOk (M 93) x law w → sC (d + 40) 247 [vO 12 82, vI x, vI law, vI w] M G (QI (LPost t r)) := fun r hr z => ref M r (fun _ _ _ _ _ => rfl) (fun _ => hr) (fun ok _ => absurd ok z) (fun ok _ => absurd ok z)
  refine e112 (s112_0 ⟨fun q1 => ?_, fun q2 => ⟨fun q3 => ?_, fun q4 => ⟨fun q5 => ?_, fun q6 => ⟨fun q7 => ?_, fun q8 => ⟨fun q9 => ?_, fun q10 => ⟨fun q11 => ?_, fun q18 => ?_⟩⟩⟩⟩⟩⟩)
  all_goals try (rw [b6'] at *; exact bad _ rfl (fun z => by unfold hsOk at z; omega))
  have hx := rng hs1.1 hs1.2 q2 (by rw [← b6']; exact q4)
  have ec := rgb hx.1 (by omega)
  rw [b6'] at q4
  refine c113 (by omega) q2 hx.2 ?_
  rw [bc18 x.toNat (by omega), ec]
  refine ⟨fun q12 => ?_, fun q13 => ⟨fun q14 => ?_, fun q17 => ?_⟩⟩
  · exact bad _ rfl (fun z => by unfold hsOk at z; omega)
  · have hp12 : cnB x.toNat (M 93 1).toNat ≤ 12 := by omega
    refine c114 (S := M 93) (by omega) hs1.1 hs1.2 ht q2 hx.2 hp12 (fun N n1 n2 n3 => ?_)
    have am0 : ∀ i, i < cnB x.toNat (M 93 1).toNat → mskN (adQ (M 93) law (pkF x.toNat (M 93 1).toNat) i) (cnB x.toNat (M 93 1).toNat) < 4096 := fun i _ => by
      have := mskN_lt (Q := adQ (M 93) law (pkF x.toNat (M 93 1).toNat) i) (n := cnB x.toNat (M 93 1).toNat)
      have := p12 hp12
      omega
    have am1 : ∀ i j, i < cnB x.toNat (M 93 1).toNat → ((mskN (adQ (M 93) law (pkF x.toNat (M 93 1).toNat) i) (cnB x.toNat (M 93 1).toNat)).testBit j = true ↔ j < cnB x.toNat (M 93 1).toNat ∧ adJ (M 93) law (pkF x.toNat (M 93 1).toNat) i j) := fun i j _ => by
      rw [mskN_bit, Bool.and_eq_true, decide_eq_true_iff, adQ_i]
    have sy : ∀ i j, adJ (M 93) law (pkF x.toNat (M 93 1).toNat) i j → adJ (M 93) law (pkF x.toNat (M 93 1).toNat) j i := fun i j h => h.sym
    refine ⟨fun q15 => ?_, fun q16 => ?_⟩
    · refine c116 (by omega) hp12 am0 am1 sy n2 n3 (fun g hg => ?_)
      exact ref N _ (fun a z1 z2 _ z4 => n1 a z1 z2 z4) (fun z => absurd (by unfold hsOk; omega) z) (fun _ _ g' hg' => hg.uniq hg') (fun _ z => by omega)
    · refine c115 (by omega) hp12 am0 am1 sy (fun i h => crS_ir h) n2 n3 (fun h hh N2 m1 => ?_)
      exact ref N2 _ (fun a z1 z2 z3 z4 => (m1 a z3).trans (n1 a z1 z2 z4)) (fun z => absurd (by unfold hsOk; omega) z) (fun _ z => by omega) (fun _ _ h' hh' => by rw [hh.uniq hh'])
  · exact bad _ rfl (fun z => by unfold hsOk at z; omega)
