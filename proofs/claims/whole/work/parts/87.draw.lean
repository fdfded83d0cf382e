/-! The stays of a set as points, in order. -/
def cnB (m : Nat) : Nat → Nat
  | 0 => 0
  | s + 1 => cnB m s + (if m.testBit s = true then 1 else 0)
def pkF (m : Nat) : Nat → Nat → Nat
  | 0, _ => 0
  | s + 1, k => if m.testBit s = true ∧ k = cnB m s then s else pkF m s k
theorem cnB_is (m : Nat) : ∀ s : Nat, ((cnB m s : Nat) : Int) = nS (pcF m) s
  | 0 => rfl
  | s + 1 => by
    show (((cnB m s + (if m.testBit s = true then 1 else 0) : Nat)) : Int) = nS (pcF m) s + (if m.testBit s then 1 else 0)
    rw [← cnB_is m s]
    by_cases c : m.testBit s = true
    · rw [if_pos c, if_pos c]; omega
    · rw [if_neg c, if_neg c]; omega
theorem cnB_y {m s : Nat} (h : m.testBit s = true) : cnB m (s + 1) = cnB m s + 1 := by show cnB m s + (if m.testBit s = true then 1 else 0) = _; rw [if_pos h]
theorem cnB_n {m s : Nat} (h : ¬ m.testBit s = true) : cnB m (s + 1) = cnB m s := by show cnB m s + (if m.testBit s = true then 1 else 0) = _; rw [if_neg h]; rfl
theorem cnB_le (m : Nat) {s : Nat} : ∀ k : Nat, cnB m s ≤ cnB m (s + k)
  | 0 => Nat.le_refl _
  | k + 1 => Nat.le_trans (cnB_le m k) (Nat.le_add_right _ _)
theorem cnB_mono (m : Nat) {s s' : Nat} (h : s ≤ s') : cnB m s ≤ cnB m s' := by
  have := cnB_le m (s := s) (s' - s)
  rw [show s + (s' - s) = s' by omega] at this
  exact this
theorem pkF_b {m : Nat} : ∀ {s k : Nat}, k < cnB m s → pkF m s k < s ∧ m.testBit (pkF m s k) = true ∧ cnB m (pkF m s k) = k
  | 0, k, h => absurd h (Nat.not_lt_zero k)
  | s + 1, k, h => by
    show (if m.testBit s = true ∧ k = cnB m s then s else pkF m s k) < s + 1 ∧ m.testBit (if m.testBit s = true ∧ k = cnB m s then s else pkF m s k) = true ∧ cnB m (if m.testBit s = true ∧ k = cnB m s then s else pkF m s k) = k
    by_cases c : m.testBit s = true ∧ k = cnB m s
    · rw [if_pos c]; exact ⟨by omega, c.1, c.2.symm⟩
    · rw [if_neg c]
      have hk : k < cnB m s := by
        by_cases z : m.testBit s = true
        · rw [cnB_y z] at h
          have : k ≠ cnB m s := fun w => c ⟨z, w⟩
          omega
        · rw [cnB_n z] at h; exact h
      obtain ⟨a, b, e⟩ := pkF_b hk
      exact ⟨by omega, b, e⟩
theorem pkF_of {m t : Nat} (ht : m.testBit t = true) : ∀ {s : Nat}, t < s → pkF m s (cnB m t) = t
  | 0, h => absurd h (Nat.not_lt_zero t)
  | s + 1, h => by
    show (if m.testBit s = true ∧ cnB m t = cnB m s then s else pkF m s (cnB m t)) = t
    by_cases c : t = s
    · rw [c] at ht ⊢
      rw [if_pos ⟨ht, rfl⟩]
    · have h1 := cnB_y ht
      have h2 := cnB_mono m (show t + 1 ≤ s by omega)
      rw [if_neg (fun z => by omega)]
      exact pkF_of ht (by omega)
theorem pkF_inj {m s i j : Nat} (hi : i < cnB m s) (hj : j < cnB m s) (h : pkF m s i = pkF m s j) : i = j := by
  have a := (pkF_b hi).2.2
  have b := (pkF_b hj).2.2
  rw [h] at a
  omega
theorem pkF_st {m s k : Nat} (hk : k < cnB m s) : pkF m (s + 1) k = pkF m s k := by
  show (if m.testBit s = true ∧ k = cnB m s then s else pkF m s k) = _
  rw [if_neg (fun z => by omega)]
theorem pkF_nw {m s : Nat} (h : m.testBit s = true) : pkF m (s + 1) (cnB m s) = s := pkF_of h (by omega)
/-- two points are joined if their stays cross -/
def adJ (S : Nat → Int) (law : Int) (pk : Nat → Nat) (i j : Nat) : Prop := crS S (pk i) (pk j) law
theorem crS_ir {S : Nat → Int} {a law : Int} : ¬ crS S a a law := fun h => by
  rcases h with h | h <;> (have := h.1; omega)
noncomputable def adQ (S : Nat → Int) (law : Int) (pk : Nat → Nat) (i j : Nat) : Bool := @decide (adJ S law pk i j) (Classical.propDecidable _)
theorem adQ_i {S : Nat → Int} {law : Int} {pk : Nat → Nat} {i j : Nat} : adQ S law pk i j = true ↔ adJ S law pk i j := @decide_eq_true_iff _ (Classical.propDecidable _)
theorem adQ_n {S : Nat → Int} {law : Int} {pk : Nat → Nat} {i j : Nat} (h : ¬ adJ S law pk i j) : adQ S law pk i j = false := @decide_eq_false _ (Classical.propDecidable _) h
section
variable {d : Nat} {P : Int → sM → sG → Prop} {PV : sM → sG → Prop} {M : sM} {G : sG} {S : Nat → Int}
theorem c114 {x law : Int} (hd : 20 ≤ d) (hv0 : 0 ≤ S 1) (hv1 : S 1 ≤ 18) (ht : TR 14 M S) (h0 : 0 ≤ x) (h1 : x < 262144) (hn : cnB x.toNat (S 1).toNat ≤ 12) (kk : ∀ M' : sM, (∀ a, a ≠ 60 → a ≠ 66 → a ≠ 68 → M' a = M a) → M' 60 8 = ((cnB x.toNat (S 1).toNat : Nat) : Int) → (∀ i, i < cnB x.toNat (S 1).toNat → M' 66 i = ((mskN (adQ S law (pkF x.toNat (S 1).toNat) i) (cnB x.toNat (S 1).toNat) : Nat) : Int)) → PV M' G) : sC d 114 [vO 1 60, vO 10 14, vI x, vI law] M G (QV PV) := by
  obtain ⟨d, rfl⟩ := sD 15 (d := d) (by omega)
  have e6 : M 14 6 = S 1 := ht.1.2.1
  refine e114 (s114_0 ?_)
  have main : ∀ N : sM, (∀ a, a ≠ 60 → a ≠ 68 → N a = M a) → N 60 8 = 0 → sW (sC (d + 14)) 114 (QV PV) 8 [vO 1 60, vO 10 14, vI x, vI law, vI ((0 : Nat) : Int), vN] [] N G 0 0 := fun N0 a1 a2 => by
    refine sUpTo (W := fun s => ∀ N : sM, (∀ a, a ≠ 60 → a ≠ 68 → N a = M a) → N 60 8 = ((cnB x.toNat s : Nat) : Int) → (∀ k, k < cnB x.toNat s → N 68 k = ((pkF x.toNat s k : Nat) : Int)) → sW (sC (d + 14)) 114 (QV PV) 8 [vO 1 60, vO 10 14, vI x, vI law, vI (s : Int), vN] [] N G 0 0) (S 1).toNat ?_ ?_ N0 a1 a2 (fun k hk => absurd hk (Nat.not_lt_zero k))
    · intro N n1 n2 n3
      have e6' : N 14 6 = S 1 := by rw [n1 14 (by decide) (by decide)]; exact e6
      refine (s114_8 ⟨fun q1 => ?_, fun q2 => ⟨fun q3 => ⟨⟨by omega, by omega⟩, ?_⟩, fun q4 => ⟨fun q5 => ⟨⟨by omega, by omega⟩, ?_⟩, fun q6 => ⟨⟨(by first | omega | assumption | (refine ⟨?_, ?_⟩ <;> omega) | (simp_all; done)), (by first | omega | assumption | (refine ⟨?_, ?_⟩ <;> omega) | (simp_all; done))⟩, ⟨by omega, by omega⟩, ⟨by omega, by omega⟩, ?_⟩⟩⟩⟩)
      · have hb : ∀ k, k < cnB x.toNat (S 1).toNat → pkF x.toNat (S 1).toNat k < (S 1).toNat := fun k hk => (pkF_b hk).1
        have go : sW (sC (d + 14)) 114 (QV PV) 66 [vO 1 60, vO 10 14, vN, vI law, vI ((0 : Nat) : Int), vN] [] N G 0 0 := by
          refine sUpTo (W := fun i => ∀ N2 : sM, (∀ a, a ≠ 66 → N2 a = N a) → (∀ k, k < i → N2 66 k = ((mskN (adQ S law (pkF x.toNat (S 1).toNat) k) (cnB x.toNat (S 1).toNat) : Nat) : Int)) → sW (sC (d + 14)) 114 (QV PV) 66 [vO 1 60, vO 10 14, vN, vI law, vI (i : Int), vN] [] N2 G 0 0) (cnB x.toNat (S 1).toNat) ?_ ?_ N (fun _ _ => rfl) (fun k hk => absurd hk (Nat.not_lt_zero k))
          · intro N2 b1 b2
            have e8 : N2 60 8 = ((cnB x.toNat (S 1).toNat : Nat) : Int) := by rw [b1 60 (by decide)]; exact n2
            refine (s114_66 ⟨fun q1 => ?_, fun q2 => ⟨⟨(by first | omega | assumption | (refine ⟨?_, ?_⟩ <;> omega) | (simp_all; done)), (by first | omega | assumption | (refine ⟨?_, ?_⟩ <;> omega) | (simp_all; done))⟩, ?_⟩⟩)
            · exact kk N2 (fun a c1 c2 c3 => (b1 a c2).trans (n1 a c1 c3)) e8 b2
            all_goals omega
          · intro i hi ih N2 b1 b2
            have e8 : N2 60 8 = ((cnB x.toNat (S 1).toNat : Nat) : Int) := by rw [b1 60 (by decide)]; exact n2
            refine (s114_66 ⟨fun q1 => ?_, fun q2 => ⟨⟨(by first | omega | assumption | (refine ⟨?_, ?_⟩ <;> omega) | (simp_all; done)), (by first | omega | assumption | (refine ⟨?_, ?_⟩ <;> omega) | (simp_all; done))⟩, ?_⟩⟩)
            · omega
            · refine sUpTo (W := fun j => ∀ N3 : sM, (∀ a, a ≠ 66 → N3 a = N a) → (∀ k, k < i → N3 66 k = ((mskN (adQ S law (pkF x.toNat (S 1).toNat) k) (cnB x.toNat (S 1).toNat) : Nat) : Int)) → N3 66 i = ((mskN (adQ S law (pkF x.toNat (S 1).toNat) i) j : Nat) : Int) → sW (sC (d + 14)) 114 (QV PV) 86 [vO 1 60, vO 10 14, vN, vI law, vI (i : Int), vI (j : Int)] [] N3 G 0 0) (cnB x.toNat (S 1).toNat) ?_ ?_ _ (fun a c => (sUpd_ne c).trans (b1 a c)) (fun k hk => (sUpd_ni (show k ≠ i by omega)).trans (b2 k hk)) sUpd_eq
              · intro N3 c1 c2 c3
                have e8' : N3 60 8 = ((cnB x.toNat (S 1).toNat : Nat) : Int) := by rw [c1 60 (by decide)]; exact n2
                refine (s114_86 ⟨fun q1 => ⟨⟨by omega, by omega⟩, ?_⟩, fun q2 => ⟨⟨(by first | omega | assumption | (refine ⟨?_, ?_⟩ <;> omega) | (simp_all; done)), (by first | omega | assumption | (refine ⟨?_, ?_⟩ <;> omega) | (simp_all; done))⟩, ⟨(by first | omega | assumption | (refine ⟨?_, ?_⟩ <;> omega) | (simp_all; done)), (by first | omega | assumption | (refine ⟨?_, ?_⟩ <;> omega) | (simp_all; done))⟩, ?_⟩⟩)
                · exact ih N3 c1 (fun k hk => by
                    by_cases z : k = i
                    · rw [z]; exact c3
                    · exact c2 k (by omega))
                all_goals omega
              · intro j hj ih2 N3 c1 c2 c3
                have e8' : N3 60 8 = ((cnB x.toNat (S 1).toNat : Nat) : Int) := by rw [c1 60 (by decide)]; exact n2
                have ei : N3 68 ((i : Int)).toNat = ((pkF x.toNat (S 1).toNat i : Nat) : Int) := by rw [c1 68 (by decide)]; exact n3 i hi
                have ej : N3 68 ((j : Int)).toNat = ((pkF x.toNat (S 1).toNat j : Nat) : Int) := by rw [c1 68 (by decide)]; exact n3 j hj
                have bi := hb i hi
                have bj := hb j hj
                have c3' : N3 66 ((i : Int)).toNat = ((mskN (adQ S law (pkF x.toNat (S 1).toNat) i) j : Nat) : Int) := c3
                have tr3 : TR 14 N3 S := ht.congr (fun a r1 r2 => (c1 a (by omega)).trans (n1 a (by omega) (by omega)))
                refine (s114_86 ⟨fun q1 => ⟨⟨by omega, by omega⟩, ?_⟩, fun q2 => ⟨⟨(by first | omega | assumption | (refine ⟨?_, ?_⟩ <;> omega) | (simp_all; done)), (by first | omega | assumption | (refine ⟨?_, ?_⟩ <;> omega) | (simp_all; done))⟩, ⟨(by first | omega | assumption | (refine ⟨?_, ?_⟩ <;> omega) | (simp_all; done)), (by first | omega | assumption | (refine ⟨?_, ?_⟩ <;> omega) | (simp_all; done))⟩, ?_⟩⟩)
                · omega
                · rw [ei, ej]
                  refine c99 (S := S) (by omega) hv1 tr3 (by omega) (by omega) (by omega) (by omega) (fun z => ?_) (fun z => ?_)
                  · refine ⟨fun q3 => ⟨⟨by omega, by omega⟩, ?_⟩, fun q4 => ⟨⟨by omega, by omega⟩, ?_⟩⟩
                    · omega
                    · rw [c3', msk_y (by omega) (adQ_i.mpr z)]
                      exact ih2 _ (fun a h9 => (sUpd_ne h9).trans (c1 a h9)) (fun k hk => (sUpd_ni (show k ≠ i by omega)).trans (c2 k hk)) sUpd_eq
                  · refine ⟨fun q3 => ⟨⟨by omega, by omega⟩, ?_⟩, fun q4 => ⟨⟨by omega, by omega⟩, ?_⟩⟩
                    · refine ih2 N3 c1 c2 ?_
                      rw [← msk_n (by omega) (adQ_n z), or_no (by have := mskN_lt (Q := adQ S law (pkF x.toNat (S 1).toNat) i) (n := j); have := p12 (m := j) (by omega); omega)]
                      exact c3
                    · omega
                all_goals omega
            all_goals omega
        exact go
      all_goals omega
    · intro s hs ih N n1 n2 n3
      have e6' : N 14 6 = S 1 := by rw [n1 14 (by decide) (by decide)]; exact e6
      have hs1 := z_has1 h0 (by omega) (show (0 : Int) ≤ s by omega) (by omega)
      have hs1' : x.toNat.testBit ((s : Int)).toNat = x.toNat.testBit s := rfl
      rw [hs1'] at hs1
      have cl := cnB_mono x.toNat (show s + 1 ≤ (S 1).toNat by omega)
      refine (s114_8 ⟨fun q1 => ?_, fun q2 => ⟨fun q3 => ⟨⟨by omega, by omega⟩, ?_⟩, fun q4 => ⟨fun q5 => ⟨⟨by omega, by omega⟩, ?_⟩, fun q6 => ⟨⟨(by first | omega | assumption | (refine ⟨?_, ?_⟩ <;> omega) | (simp_all; done)), (by first | omega | assumption | (refine ⟨?_, ?_⟩ <;> omega) | (simp_all; done))⟩, ⟨by omega, by omega⟩, ⟨by omega, by omega⟩, ?_⟩⟩⟩⟩)
      · omega
      · refine ih N n1 (by rw [cnB_n (fun z => q3 (hs1.mpr z))]; exact n2) (fun k hk => ?_)
        rw [cnB_n (fun z => q3 (hs1.mpr z))] at hk
        rw [pkF_st hk]; exact n3 k hk
      · rw [cnB_y (hs1.mp q4)] at cl; omega
      · have hy := hs1.mp q4
        have e8 : (N 60 8).toNat = cnB x.toNat s := by omega
        refine ih _ (fun a r1 r2 => (sUpd_ne r1).trans ((sUpd_ne r2).trans (n1 a r1 r2))) ?_ (fun k hk => ?_)
        · rw [cnB_y hy, sUpd_eq]; omega
        · rw [cnB_y hy] at hk
          rw [sUpd_ne (by decide), e8]
          by_cases z : k = cnB x.toNat s
          · rw [z, pkF_nw hy]; exact sUpd_eq
          · rw [sUpd_ni z, pkF_st (by omega)]
            exact n3 k (by omega)
      all_goals omega
  exact main _ (fun a r1 _ => sUpd_ne r1) sUpd_eq
end
