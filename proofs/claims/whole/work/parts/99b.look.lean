/-! The class's planner: looked at, and a choice taken. -/
section
variable {d : Nat} {P : Int → sM → sG → Prop} {PV : sM → sG → Prop} {M : sM} {G : sG} {S : Nat → Int}
def fitR (S : Nat → Int) (M : sM) : Prop := ∀ w o x : Nat, w < o → (o : Int) < S 5 → (x : Int) < wC S w → M 72 (idX w x o) = ((fitM S w x o : Nat) : Int)
def tieR (S : Nat → Int) (M : sM) (w : Nat) : Prop := M 73 w = 0 ↔ ∀ o x y : Nat, w < o → (o : Int) < S 5 → (x : Int) < wC S w → (y : Int) < wC S o → okW S w x o y
theorem clampC {c : Int} (h0 : 1 ≤ c) (h1 : c ≤ 12) : (if 0 < (if c < 12 then c else 12) then (if c < 12 then c else 12) else 0) = c := by
  by_cases z : c < 12
  · rw [if_pos z, if_pos (by omega)]
  · rw [if_neg z, if_pos (by decide)]; omega
theorem c123 (hd : 40 ≤ d) (hv : vTold S) (ht : TO 29 M S) (kk : ∀ N : sM, (∀ a, ¬ (69 ≤ a ∧ a ≤ 74) → N a = M a) → plR S N → fitR S N → (∀ w : Nat, (w : Int) < S 5 → tieR S N w) → PV N G) : sC d 123 [vO 3 69, vO 9 29] M G (QV PV) := by
  obtain ⟨d, rfl⟩ := sD 22 (d := d) (by omega)
  have h5 := hv.1
  have e5 : M 29 1 = S 5 := ht.1.1
  refine e123 (s123_0 (?_))
  have e60 : (if 6 < M 29 1 then (6 : Int) else M 29 1) = S 5 := by rw [e5, if_neg (by omega)]
  rw [e60]
  have l1 : ∀ N0 : sM, (∀ a, a ≠ 69 → N0 a = M a) → N0 69 0 = S 5 → sW (sC (d + 21)) 123 (QV PV) 15 [vO 3 69, vO 9 29, vI ((0 : Nat) : Int), vN] [] N0 G 0 0 := fun N0 h1 h2 => by
    refine sUpTo (W := fun i => ∀ N : sM, (∀ a, ¬ (69 ≤ a ∧ a ≤ 74) → N a = M a) → N 69 0 = S 5 → (∀ w : Nat, w < i → N 70 w = wF S w ∧ N 71 w = wC S w ∧ N 74 w = ((2 ^ (wC S w).toNat - 1 : Nat) : Int)) → sW (sC (d + 21)) 123 (QV PV) 15 [vO 3 69, vO 9 29, vI (i : Int), vN] [] N G 0 0) (S 5).toNat ?_ ?_ N0 (fun a ha => h1 a (by omega)) h2 (fun w hw => absurd hw (Nat.not_lt_zero w))
    · intro N n1 n2 n3
      have hp : plR S N := ⟨n2, fun w hw => n3 w (by omega)⟩
      have l2 : sW (sC (d + 21)) 123 (QV PV) 98 [vO 3 69, vO 9 29, vI ((0 : Nat) : Int), vN] [] N G 0 0 := by
        refine sUpTo (W := fun i => ∀ N2 : sM, (∀ a, a ≠ 72 → a ≠ 73 → N2 a = N a) → (∀ w o x : Nat, w < i → w < o → (o : Int) < S 5 → (x : Int) < wC S w → N2 72 (idX w x o) = ((fitM S w x o : Nat) : Int)) → (∀ w : Nat, w < i → tieR S N2 w) → sW (sC (d + 21)) 123 (QV PV) 98 [vO 3 69, vO 9 29, vI (i : Int), vN] [] N2 G 0 0) (S 5).toNat ?_ ?_ N (fun _ _ _ => rfl) (fun w o x hw => absurd hw (Nat.not_lt_zero w)) (fun w hw => absurd hw (Nat.not_lt_zero w))
        · intro N2 m1 m2 m3
          have hp2 := hp.congr m1
          have e69 := hp2.1
          refine (s123_98 ⟨fun q1 => ?_, fun q2 => ⟨⟨(by first | omega | assumption | (refine ⟨?_, ?_⟩ <;> omega) | (simp_all; done)), (by first | omega | assumption | (refine ⟨?_, ?_⟩ <;> omega) | (simp_all; done))⟩, ⟨by omega, by omega⟩, ?_⟩⟩)
          · exact kk N2 (fun a ha => (m1 a (by omega) (by omega)).trans (n1 a ha)) hp2 (fun w o x hwo ho hx => m2 w o x (by omega) hwo ho hx) (fun w hw => m3 w (by omega))
          all_goals omega
        · intro i hi ih N2 m1 m2 m3
          have hp2 := hp.congr m1
          have e69 := hp2.1
          have inner : sW (sC (d + 21)) 123 (QV PV) 117 [vO 3 69, vO 9 29, vI (i : Int), vI ((i + 1 : Nat) : Int)] [] (sUpd N2 73 i 0) G 0 0 := by
            refine sUpFrom (W := fun j => ∀ N3 : sM, (∀ a, a ≠ 72 → a ≠ 73 → N3 a = N a) → (∀ w o x : Nat, w < i ∨ (w = i ∧ o < j) → w < o → (o : Int) < S 5 → (x : Int) < wC S w → N3 72 (idX w x o) = ((fitM S w x o : Nat) : Int)) → (∀ w : Nat, w < i → tieR S N3 w) → (N3 73 i = 0 ↔ ∀ o x y : Nat, i < o → o < j → (x : Int) < wC S i → (y : Int) < wC S o → okW S i x o y) → sW (sC (d + 21)) 123 (QV PV) 117 [vO 3 69, vO 9 29, vI (i : Int), vI (j : Int)] [] N3 G 0 0) (i + 1) (S 5).toNat (by omega) ?_ ?_ _ (fun a r1 r2 => (sUpd_ne r2).trans (m1 a r1 r2)) (fun w o x hw hwo ho hx => by
              rw [sUpd_ne (by decide)]
              exact m2 w o x (by omega) hwo ho hx) (fun w hw => by
              have := m3 w hw
              unfold tieR at this ⊢
              rw [sUpd_ni (by omega)]
              exact this) (by
              rw [sUpd_eq]
              exact ⟨fun _ o x y h1 h2 => by omega, fun _ => rfl⟩)
            · intro N3 b1 b2 b3 b4
              have e69c := (hp.congr b1).1
              refine (s123_117 ⟨fun q1 => ⟨⟨by omega, by omega⟩, ?_⟩, fun q2 => ?_⟩)
              · exact ih N3 b1 (fun w o x hw hwo ho hx => b2 w o x (by omega) hwo ho hx) (fun w hw => by
                  by_cases c : w = i
                  · rw [c]
                    unfold tieR
                    rw [b4]
                    exact ⟨fun h o x y h1 h2 h3 h4 => h o x y h1 (by omega) h3 h4, fun h o x y h1 h2 h3 h4 => h o x y h1 (by omega) h3 h4⟩
                  · exact b3 w (by omega))
              all_goals omega
            · intro j hj1 hj2 ih2 N3 b1 b2 b3 b4
              have hp3 := hp.congr b1
              have e69c := hp3.1
              have t3 : TO 29 N3 S := ht.congr (fun a r1 r2 => (b1 a (by omega) (by omega)).trans (n1 a (by omega)))
              refine (s123_117 ⟨fun q1 => ⟨⟨by omega, by omega⟩, ?_⟩, fun q2 => ?_⟩)
              · omega
              · refine c124 (by omega) hv t3 hp3 (by omega) (by omega) (fun N4 p1 p2 p3 p4 p5 => ?_)
                refine ⟨⟨by omega, by omega⟩, ?_⟩
                refine ih2 N4 (fun a r1 r2 => (p1 a r1 r2).trans (b1 a r1 r2)) (fun w o x hw hwo ho hx => ?_) (fun w hw => ?_) ?_
                · by_cases c : w = i ∧ o = j
                  · rw [c.1, c.2]
                    rw [c.1] at hx
                    exact p2 x hx
                  · rw [p3 _ (fun x' hx' z => by
                      have vw := wish_v hv (show (w : Int) < S 5 by omega)
                      have := idX_inj (show x < 12 by omega) (show o < 6 by omega) hx' (show j < 6 by omega) z
                      exact c ⟨this.1, this.2.2⟩)]
                    exact b2 w o x (by omega) hwo ho hx
                · have := b3 w hw
                  unfold tieR at this ⊢
                  rw [p4 w (by omega)]
                  exact this
                · rw [p5, b4]
                  constructor
                  · rintro ⟨h1, h2⟩ o x y g1 g2 g3 g4
                    by_cases c : o = j
                    · rw [c] at g4 ⊢; exact h2 x y g3 g4
                    · exact h1 o x y g1 (by omega) g3 g4
                  · intro h
                    exact ⟨fun o x y g1 g2 g3 g4 => h o x y g1 (by omega) g3 g4, fun x y g3 g4 => h j x y (by omega) (by omega) g3 g4⟩
          refine (s123_98 ⟨fun q1 => ?_, fun q2 => ⟨⟨(by first | omega | assumption | (refine ⟨?_, ?_⟩ <;> omega) | (simp_all; done)), (by first | omega | assumption | (refine ⟨?_, ?_⟩ <;> omega) | (simp_all; done))⟩, ⟨by omega, by omega⟩, ?_⟩⟩)
          · omega
          · exact inner
          all_goals omega
      refine (s123_15 ⟨fun q1 => ?_, fun q2 => ⟨⟨(by first | omega | assumption | (refine ⟨?_, ?_⟩ <;> omega) | (simp_all; done)), (by first | omega | assumption | (refine ⟨?_, ?_⟩ <;> omega) | (simp_all; done))⟩, ⟨by omega, by omega⟩, ⟨by omega, by omega⟩, ⟨by omega, by omega⟩, ⟨by omega, by omega⟩, ⟨(by first | omega | assumption | (refine ⟨?_, ?_⟩ <;> omega) | (simp_all; done)), (by first | omega | assumption | (refine ⟨?_, ?_⟩ <;> omega) | (simp_all; done))⟩, ⟨by omega, by omega⟩, ?_⟩⟩)
      · exact l2
      all_goals omega
    · intro i hi ih N n1 n2 n3
      have tN : TO 29 N S := ht.congr (fun a r1 r2 => n1 a (by omega))
      have f3 : N 33 ((i : Int)).toNat = wF S i := (wish_m tN (by omega)).2.2.1
      have f4 : N 34 ((i : Int)).toNat = wT S i := (wish_m tN (by omega)).2.2.2.1
      have f5 : N 35 ((i : Int)).toNat = wD S i := (wish_m tN (by omega)).2.2.2.2
      have vw := wish_v hv (show (i : Int) < S 5 by omega)
      have wc : wC S i = wT S i - wF S i - wD S i + 1 := rfl
      have ev : (((N 34 ((i : Int)).toNat) - (N 33 ((i : Int)).toNat)) - (N 35 ((i : Int)).toNat)) + 1 = wC S i := by omega
      have cl := clampC vw.2.2.2.2.2.1 vw.2.2.2.2.2.2
      have pc := p12 (m := (wC S i).toNat) (by omega)
      have pc0 := Nat.two_pow_pos (wC S i).toNat
      have esh : iShl 1 (wC S i) = ((2 ^ (wC S i).toNat : Nat) : Int) := z_bit (by omega) (by omega)
      refine s123_15 ⟨fun q1 => by omega, fun q2 => ?_⟩
      rw [ev, cl, sUpd_eq, f3]
      refine ⟨⟨by omega, by omega⟩, ⟨by omega, by omega⟩, ⟨by omega, by omega⟩, ⟨by omega, by omega⟩, ⟨by omega, by omega⟩, ⟨by omega, by omega⟩, ⟨by omega, by omega⟩, ?_⟩
      rw [show (iShl 1 (wC S i)) - 1 = ((2 ^ (wC S i).toNat - 1 : Nat) : Int) by omega]
      have nx := ih (sUpd (sUpd (sUpd N 70 i (wF S i)) 71 i (wC S i)) 74 i ((2 ^ (wC S i).toNat - 1 : Nat) : Int)) (fun a ha => (sUpd_ne (by omega)).trans ((sUpd_ne (by omega)).trans ((sUpd_ne (by omega)).trans (n1 a ha)))) (by rw [sUpd_ne (by decide), sUpd_ne (by decide), sUpd_ne (by decide)]; exact n2) (fun w hw => by
        by_cases c : w = i
        · rw [c]
          refine ⟨?_, ?_, sUpd_eq⟩
          · rw [sUpd_ne (by decide), sUpd_ne (by decide)]; exact sUpd_eq
          · rw [sUpd_ne (by decide)]; exact sUpd_eq
        · obtain ⟨x1, x2, x3⟩ := n3 w (by omega)
          refine ⟨?_, ?_, (sUpd_ni c).trans ?_⟩
          · rw [sUpd_ne (by decide), sUpd_ne (by decide), sUpd_ni c]; exact x1
          · rw [sUpd_ne (by decide), sUpd_ni c, sUpd_ne (by decide)]; exact x2
          · rw [sUpd_ne (by decide), sUpd_ne (by decide)]; exact x3)
      exact nx
  exact l1 _ (fun a ha => sUpd_ne ha) sUpd_eq
def rowK (S : Nat → Int) (M : sM) (k : Nat) (a : Nat → Nat) : Prop := ∀ w : Nat, k ≤ w → (w : Int) < S 5 → M 74 (k * 6 + w) = ((mskN (opB S k a w) 12 : Nat) : Int)
theorem row_bit {k w y : Nat} {a : Nat → Nat} (hv : vTold S) (hw : (w : Int) < S 5) : (mskN (opB S k a w) 12).testBit y = true ↔ opQ S k a w y := by
  have := wish_v hv hw
  rw [mskN_bit, Bool.and_eq_true, decide_eq_true_iff, opB_i]
  exact ⟨fun h => h.2, fun h => ⟨by have := h.1; omega, h⟩⟩
theorem row_and {k x o : Nat} {a : Nat → Nat} (hv : vTold S) (ho : (o : Int) < S 5) : mskN (opB S k a o) 12 &&& fitM S k x o = mskN (opB S (k + 1) (upC a k x) o) 12 := Nat.eq_of_testBit_eq (fun y => Bool.eq_iff_iff.mpr (by
  rw [Nat.testBit_and, Bool.and_eq_true, row_bit hv ho, fitM_bit, row_bit hv ho]
  unfold opQ
  rw [fiK_up]
  exact ⟨fun h => ⟨h.1.1, h.1.2, h.2.2⟩, fun h => ⟨⟨h.1, h.2.1⟩, h.1, h.2.2⟩⟩))
theorem row_0 {M : sM} (hv : vTold S) (hp : plR S M) (a : Nat → Nat) : rowK S M 0 a := fun w _ hw => by
  have vw := wish_v hv hw
  rw [Nat.zero_mul, Nat.zero_add, (hp.2 w hw).2.2]
  have : 2 ^ (wC S w).toNat - 1 = mskN (opB S 0 a w) 12 := Nat.eq_of_testBit_eq (fun y => Bool.eq_iff_iff.mpr (by
    rw [row_bit hv hw, ones_b]
    exact ⟨fun h => ⟨by omega, fun o ho => absurd ho (Nat.not_lt_zero o)⟩, fun h => by have := h.1; omega⟩))
  rw [this]
theorem rowK.congr {N : sM} {k : Nat} {a : Nat → Nat} (h5 : S 5 ≤ 6) (h : rowK S M k a) (e : ∀ i, i < (k + 1) * 6 → N 74 i = M 74 i) : rowK S N k a := fun w h1 h2 => by
  rw [e _ (by omega)]
  exact h w h1 h2
theorem c131 {k x : Nat} {a : Nat → Nat} (hd : 10 ≤ d) (hv : vTold S) (h69 : M 69 0 = S 5) (hf : fitR S M) (hr : rowK S M k a) (hk : (k : Int) < S 5) (hx : (x : Int) < wC S k) (k1 : ∀ N : sM, (∀ b, b ≠ 74 → N b = M b) → (∀ i, i < (k + 1) * 6 → N 74 i = M 74 i) → rowK S N (k + 1) (upC a k x) → P 1 N G) (k0 : ∀ N : sM, (∀ b, b ≠ 74 → N b = M b) → (∀ i, i < (k + 1) * 6 → N 74 i = M 74 i) → (∃ w, k + 1 ≤ w ∧ (w : Int) < S 5 ∧ ∀ y, ¬ opQ S (k + 1) (upC a k x) w y) → P 0 N G) : sC d 131 [vO 3 69, vI (k : Int), vI (x : Int)] M G (QI P) := by
  obtain ⟨d, rfl⟩ := sD 3 (d := d) (by omega)
  have h5 := hv.1
  have vk := wish_v hv hk
  refine e131 (s131_0 ⟨⟨by omega, by omega⟩, ?_⟩)
  have main : sW (sC (d + 2)) 131 (QI P) 4 [vO 3 69, vI (k : Int), vI (x : Int), vI ((k + 1 : Nat) : Int), vN] [] M G 0 0 := by
    refine sUpFrom (W := fun o => ∀ N : sM, (∀ b, b ≠ 74 → N b = M b) → (∀ i, i < (k + 1) * 6 → N 74 i = M 74 i) → (∀ w, k + 1 ≤ w → w < o → N 74 ((k + 1) * 6 + w) = ((mskN (opB S (k + 1) (upC a k x) w) 12 : Nat) : Int)) → sW (sC (d + 2)) 131 (QI P) 4 [vO 3 69, vI (k : Int), vI (x : Int), vI (o : Int), vN] [] N G 0 0) (k + 1) (S 5).toNat (by omega) ?_ ?_ M (fun _ _ => rfl) (fun _ _ => rfl) (fun w h1 h2 => by omega)
    · intro N n1 n2 n3
      have e69 : N 69 0 = S 5 := by rw [n1 69 (by decide)]; exact h69
      refine (s131_4 ⟨fun q1 => ?_, fun q2 => ⟨⟨by omega, by omega⟩, ⟨by omega, by omega⟩, ⟨(by first | omega | assumption | (refine ⟨?_, ?_⟩ <;> omega) | (simp_all; done)), (by first | omega | assumption | (refine ⟨?_, ?_⟩ <;> omega) | (simp_all; done))⟩, ⟨by omega, by omega⟩, ⟨by omega, by omega⟩, ⟨by omega, by omega⟩, ⟨by omega, by omega⟩, ⟨(by first | omega | assumption | (refine ⟨?_, ?_⟩ <;> omega) | (simp_all; done)), (by first | omega | assumption | (refine ⟨?_, ?_⟩ <;> omega) | (simp_all; done))⟩, fun q3 => ⟨⟨by omega, by omega⟩, ⟨by omega, by omega⟩, ⟨by omega, by omega⟩, ⟨(by first | omega | assumption | (refine ⟨?_, ?_⟩ <;> omega) | (simp_all; done)), (by first | omega | assumption | (refine ⟨?_, ?_⟩ <;> omega) | (simp_all; done))⟩, ⟨by omega, by omega⟩, ?_⟩, fun q4 => ?_⟩⟩)
      · exact k1 N n1 n2 (fun w h1 h2 => n3 w h1 (by omega))
      all_goals omega
    · intro o ho1 ho2 ih N n1 n2 n3
      have e69 : N 69 0 = S 5 := by rw [n1 69 (by decide)]; exact h69
      have vo := wish_v hv (show (o : Int) < S 5 by omega)
      have ei : (((k : Int) * 6) + (o : Int)).toNat = k * 6 + o := by omega
      have ef : (((((k : Int) * 12) + (x : Int)) * 6) + (o : Int)).toNat = idX k x o := by unfold idX; omega
      have en : ((((k : Int) + 1) * 6) + (o : Int)).toNat = (k + 1) * 6 + o := by omega
      have e1 : N 74 (((k : Int) * 6) + (o : Int)).toNat = ((mskN (opB S k a o) 12 : Nat) : Int) := by
        rw [ei, n2 _ (by omega)]; exact hr o (by omega) (by omega)
      have e2 : N 72 (((((k : Int) * 12) + (x : Int)) * 6) + (o : Int)).toNat = ((fitM S k x o : Nat) : Int) := by
        rw [ef, n1 72 (by decide)]; exact hf k o x (by omega) (by omega) hx
      have ml := mskN_lt (Q := opB S k a o) (n := 12)
      have ea : iAnd (N 74 (((k : Int) * 6) + (o : Int)).toNat) (N 72 (((((k : Int) * 12) + (x : Int)) * 6) + (o : Int)).toNat) = ((mskN (opB S (k + 1) (upC a k x) o) 12 : Nat) : Int) := by
        rw [e1, e2, ← row_and hv (by omega)]
        exact n_and (by omega)
      refine (s131_4 ⟨fun q1 => ?_, fun q2 => ⟨⟨by omega, by omega⟩, ⟨by omega, by omega⟩, ⟨(by first | omega | assumption | (refine ⟨?_, ?_⟩ <;> omega) | (simp_all; done)), (by first | omega | assumption | (refine ⟨?_, ?_⟩ <;> omega) | (simp_all; done))⟩, ⟨by omega, by omega⟩, ⟨by omega, by omega⟩, ⟨by omega, by omega⟩, ⟨by omega, by omega⟩, ⟨(by first | omega | assumption | (refine ⟨?_, ?_⟩ <;> omega) | (simp_all; done)), (by first | omega | assumption | (refine ⟨?_, ?_⟩ <;> omega) | (simp_all; done))⟩, fun q3 => ⟨⟨by omega, by omega⟩, ⟨by omega, by omega⟩, ⟨by omega, by omega⟩, ⟨(by first | omega | assumption | (refine ⟨?_, ?_⟩ <;> omega) | (simp_all; done)), (by first | omega | assumption | (refine ⟨?_, ?_⟩ <;> omega) | (simp_all; done))⟩, ⟨by omega, by omega⟩, ?_⟩, fun q4 => ?_⟩⟩)
      · omega
      · rw [ea, en]
        have nx := ih (sUpd N 74 ((k + 1) * 6 + o) ((mskN (opB S (k + 1) (upC a k x) o) 12 : Nat) : Int)) (fun b hb => (sUpd_ne hb).trans (n1 b hb)) (fun i hi => (sUpd_ni (by omega)).trans (n2 i hi)) (fun w h1 h2 => by
          by_cases c : w = o
          · rw [c]; exact sUpd_eq
          · exact (sUpd_ni (by omega)).trans (n3 w h1 (by omega)))
        exact nx
      · rw [ea] at q4
        refine k0 N n1 n2 ⟨o, ho1, by omega, fun y z => ?_⟩
        have := (row_bit hv (show (o : Int) < S 5 by omega)).mpr z
        rw [show mskN (opB S (k + 1) (upC a k x) o) 12 = 0 by omega] at this
        exact tb0 this
      all_goals omega
  exact main
end
