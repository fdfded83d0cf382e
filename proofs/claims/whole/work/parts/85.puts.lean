/-! The class puts points into parts, and looks for the most of which each two are joined. -/
theorem mskN_congr {Q Q' : Nat → Bool} {n : Nat} (h : ∀ i, i < n → Q i = Q' i) : mskN Q n = mskN Q' n := Nat.eq_of_testBit_eq (fun i => by
  rw [mskN_bit, mskN_bit]
  by_cases c : i < n
  · rw [h i c]
  · rw [decide_eq_false c, Bool.false_and, Bool.false_and])
def pmC (c0 : Nat → Nat) (point j : Nat) : Nat := mskN (fun i => decide (c0 i = j)) point
theorem pmC_bit {c0 : Nat → Nat} {point j i : Nat} : (pmC c0 point j).testBit i = true ↔ i < point ∧ c0 i = j := by
  unfold pmC
  rw [mskN_bit, Bool.and_eq_true, decide_eq_true_iff, decide_eq_true_iff]
theorem pmC_lt {c0 : Nat → Nat} {point j : Nat} (h : point ≤ 12) : pmC c0 point j < 4096 := by
  have := mskN_lt (Q := fun i => decide (c0 i = j)) (n := point)
  have := p12 h
  unfold pmC
  omega
theorem pmC_up {c0 : Nat → Nat} {point part j : Nat} : pmC (upC c0 point part) (point + 1) j = if j = part then pmC c0 point part ||| 2 ^ point else pmC c0 point j := Nat.eq_of_testBit_eq (fun i => by
  apply Bool.eq_iff_iff.mpr
  rw [pmC_bit]
  unfold upC
  by_cases z : j = part
  · rw [if_pos z, or_tb, pmC_bit, z]
    by_cases w : i = point
    · rw [if_pos w]; exact ⟨fun _ => Or.inr w.symm, fun _ => ⟨by omega, rfl⟩⟩
    · rw [if_neg w]; exact ⟨fun h => Or.inl ⟨by omega, h.2⟩, fun h => h.elim (fun y => ⟨by omega, y.2⟩) (fun y => absurd y.symm w)⟩
  · rw [if_neg z, pmC_bit]
    by_cases w : i = point
    · rw [if_pos w]; exact ⟨fun h => absurd h.2.symm z, fun h => absurd h.1 (by omega)⟩
    · rw [if_neg w]; exact ⟨fun h => ⟨by omega, h.2⟩, fun h => ⟨by omega, h.2⟩⟩)
theorem pmC_0 {c0 : Nat → Nat} {point begun : Nat} (hb : ∀ i, i < point → c0 i < begun) : pmC c0 point begun = 0 := suB.eq (fun i hi => by
  have h := pmC_bit.mp hi
  have := hb i h.1
  omega) (fun i hi => absurd hi tb0)
section
variable {G : sG} {adj : Nat → Nat → Prop} {n : Nat} {am : Nat → Nat}
theorem c118 (hn : n ≤ 12) (ha0 : ∀ i, i < n → am i < 4096) (ha : ∀ i j, i < n → ((am i).testBit j = true ↔ j < n ∧ adj i j)) (hsy : ∀ i j, adj i j → adj j i) (hir : ∀ i, ¬ adj i i) {many : Nat} (hmn : many ≤ 12) : ∀ (k d : Nat) (M : sM) (point begun : Nat) (c0 : Nat → Nat) (P : Int → sM → sG → Prop), k + 2 ≤ d → point + k = n → begun ≤ point → (∀ i, i < point → c0 i < begun) → (∀ i, i < point → c0 i < many) → (∀ i j, i < point → j < point → adj i j → c0 i ≠ c0 j) → M 60 8 = (n : Int) → (∀ i, i < n → M 66 i = ((am i : Nat) : Int)) → (∀ j, j < begun → M 67 j = ((pmC c0 point j : Nat) : Int)) → (exT adj n many point c0 → ∀ M' : sM, (∀ a, a ≠ 67 → M' a = M a) → P 1 M' G) → (¬ exT adj n many point c0 → ∀ M' : sM, (∀ a, a ≠ 67 → M' a = M a) → (∀ j, j < begun → M' 67 j = M 67 j) → P 0 M' G) → sC d 118 [vO 1 60, vI (many : Int), vI (point : Int), vI (begun : Int)] M G (QI P) := by
  intro k
  induction k with
  | zero =>
    intro d M point begun c0 P hd hp hb h1 h2 h3 m1 m2 m3 k1 k0
    obtain ⟨d, rfl⟩ := sD 2 (d := d) (by omega)
    refine e118 (s118_0 ⟨fun q1 => ?_, fun q2 => ?_⟩)
    · omega
    · have e : point = n := by omega
      subst e
      exact k1 ⟨c0, fun _ _ => rfl, h2, h3⟩ M (fun _ _ => rfl)
  | succ k ihk =>
    intro d M point begun c0 P hd hp hb h1 h2 h3 m1 m2 m3 k1 k0
    obtain ⟨d, rfl⟩ := sD 2 (d := d) (by omega)
    have pl : point < n := by omega
    have rek : ∀ (part : Nat) (N : sM) (P' : Int → sM → sG → Prop), part ≤ begun → part < many → okP adj point part c0 → (∀ a, a ≠ 67 → N a = M a) → (∀ j, j < begun → j ≠ part → N 67 j = ((pmC c0 point j : Nat) : Int)) → N 67 part = ((pmC c0 point part ||| 2 ^ point : Nat) : Int) → (exT adj n many (point + 1) (upC c0 point part) → ∀ M' : sM, (∀ a, a ≠ 67 → M' a = M a) → P' 1 M' G) → (¬ exT adj n many (point + 1) (upC c0 point part) → ∀ M' : sM, (∀ a, a ≠ 67 → M' a = M a) → (∀ j, j < begun → j ≠ part → M' 67 j = ((pmC c0 point j : Nat) : Int)) → P' 0 M' G) → sC (d + 1) 118 [vO 1 60, vI (many : Int), vI ((point : Int) + 1), vI (if (begun : Int) < (part : Int) + 1 then (part : Int) + 1 else (begun : Int))] N G (QI P') := fun part N P' p0 p1 p2 n1 n2 n3 j1 j0 => by
      have eb : (if (begun : Int) < (part : Int) + 1 then (part : Int) + 1 else (begun : Int)) = (((if begun < part + 1 then part + 1 else begun) : Nat) : Int) := by
        by_cases c : begun < part + 1
        · rw [if_pos c, if_pos (by omega)]; omega
        · rw [if_neg c, if_neg (by omega)]
      rw [eb, show (point : Int) + 1 = ((point + 1 : Nat) : Int) by omega]
      have hb2 : ∀ j, j < (if begun < part + 1 then part + 1 else begun) → j = part ∨ j < begun := fun j hj => by
        by_cases c : begun < part + 1
        · rw [if_pos c] at hj; omega
        · rw [if_neg c] at hj; omega
      have hb3 : part < (if begun < part + 1 then part + 1 else begun) ∧ begun ≤ (if begun < part + 1 then part + 1 else begun) ∧ (if begun < part + 1 then part + 1 else begun) ≤ point + 1 := by
        by_cases c : begun < part + 1
        · rw [if_pos c]; omega
        · rw [if_neg c]; omega
      have vals : ∀ j, j < (if begun < part + 1 then part + 1 else begun) → N 67 j = ((pmC (upC c0 point part) (point + 1) j : Nat) : Int) := fun j hj => by
        rw [pmC_up]
        by_cases c : j = part
        · rw [if_pos c, c]; exact n3
        · rw [if_neg c]; exact n2 j ((hb2 j hj).resolve_left c) c
      refine ihk (d + 1) N (point + 1) _ (upC c0 point part) P' (by omega) (by omega) hb3.2.2 (fun i hi => ?_) (fun i hi => ?_) (fun i j hi hj hij => ?_) (by rw [n1 60 (by decide)]; exact m1) (fun i hi => by rw [n1 66 (by decide)]; exact m2 i hi) vals (fun h M' hM' => j1 h M' (fun a h9 => (hM' a h9).trans (n1 a h9))) (fun h M' hM' hM2 => j0 h M' (fun a h9 => (hM' a h9).trans (n1 a h9)) (fun j hj hne => (hM2 j (by omega)).trans (n2 j hj hne)))
      · unfold upC
        by_cases c : i = point
        · rw [if_pos c]; exact hb3.1
        · rw [if_neg c]
          have := h1 i (by omega)
          omega
      · unfold upC
        by_cases c : i = point
        · rw [if_pos c]; exact p1
        · rw [if_neg c]; exact h2 i (by omega)
      · unfold upC
        by_cases c : i = point
        · by_cases c2 : j = point
          · rw [c, c2] at hij; exact absurd hij (hir _)
          · rw [if_pos c, if_neg c2]
            rw [c] at hij
            exact fun z => p2 j (by omega) z.symm hij
        · by_cases c2 : j = point
          · rw [if_neg c, if_pos c2]
            rw [c2] at hij
            exact fun z => p2 i (by omega) z (hsy _ _ hij)
          · rw [if_neg c, if_neg c2]
            exact h3 i j (by omega) (by omega) hij
    have fin : ∀ (part : Nat) (N : sM), (∀ a, a ≠ 67 → N a = M a) → (∀ j, j < begun → N 67 j = ((pmC c0 point j : Nat) : Int)) → (∀ q, q < part → ¬ (okP adj point q c0 ∧ exT adj n many (point + 1) (upC c0 point q))) → (many ≤ part ∨ begun < part) → P 0 N G := fun part N n1 n2 hq hf => k0 (fun h => by
      obtain ⟨q, q0, q1, q2, q3⟩ := exT_dn pl h1 h
      exact hq q (by omega) ⟨q2, q3⟩) N n1 (fun j hj => (n2 j hj).trans (m3 j hj).symm)
    have loop : sW (sC (d + 1)) 118 (QI P) 13 [vO 1 60, vI (many : Int), vI (point : Int), vI (begun : Int), vI ((0 : Nat) : Int), vN] [] M G 0 0 := by
      refine sUpTo (W := fun part => ∀ N : sM, (∀ a, a ≠ 67 → N a = M a) → (∀ j, j < begun → N 67 j = ((pmC c0 point j : Nat) : Int)) → (∀ q, q < part → ¬ (okP adj point q c0 ∧ exT adj n many (point + 1) (upC c0 point q))) → sW (sC (d + 1)) 118 (QI P) 13 [vO 1 60, vI (many : Int), vI (point : Int), vI (begun : Int), vI (part : Int), vN] [] N G 0 0) (begun + 1) ?_ ?_ M (fun _ _ => rfl) m3 (fun q hq => absurd hq (Nat.not_lt_zero _))
      · intro N n1 n2 hq
        refine (s118_13 ⟨fun q1 => ?_, fun q2 => ⟨fun q3 => ?_, fun q4 => ⟨fun q5 => ?_, fun q6 => ⟨fun q7 => ⟨⟨(by first | omega | assumption | (refine ⟨?_, ?_⟩ <;> omega) | (simp_all; done)), (by first | omega | assumption | (refine ⟨?_, ?_⟩ <;> omega) | (simp_all; done))⟩, fun q8 => ⟨⟨by omega, by omega⟩, ?_⟩, fun q9 => ⟨⟨(by first | omega | assumption | (refine ⟨?_, ?_⟩ <;> omega) | (simp_all; done)), (by first | omega | assumption | (refine ⟨?_, ?_⟩ <;> omega) | (simp_all; done))⟩, ⟨by omega, by omega⟩, ⟨by omega, by omega⟩, ?_⟩⟩, fun q12 => ⟨⟨(by first | omega | assumption | (refine ⟨?_, ?_⟩ <;> omega) | (simp_all; done)), (by first | omega | assumption | (refine ⟨?_, ?_⟩ <;> omega) | (simp_all; done))⟩, ⟨(by first | omega | assumption | (refine ⟨?_, ?_⟩ <;> omega) | (simp_all; done)), (by first | omega | assumption | (refine ⟨?_, ?_⟩ <;> omega) | (simp_all; done))⟩, fun q13 => ⟨⟨by omega, by omega⟩, ?_⟩, fun q14 => ⟨⟨by omega, by omega⟩, ⟨by omega, by omega⟩, ?_⟩⟩⟩⟩⟩⟩)
        · exact fin _ N n1 n2 hq (by omega)
        · exact fin _ N n1 n2 hq (by omega)
        all_goals omega
      · intro part hpart ih N n1 n2 hq
        have e66 : N 66 ((point : Int)).toNat = ((am point : Nat) : Int) := by rw [n1 66 (by decide)]; exact m2 point pl
        have pml := pmC_lt (c0 := c0) (point := point) (j := part) (by omega)
        have apl := ha0 point pl
        have okm : pmC c0 point part &&& am point = 0 ↔ okP adj point part c0 := by
          constructor
          · intro z i hi e hadj
            exact and_nz.mpr ⟨i, pmC_bit.mpr ⟨hi, e⟩, (ha point i pl).mpr ⟨by omega, hadj⟩⟩ z
          · intro h
            refine Classical.byContradiction fun z => ?_
            obtain ⟨i, i1, i2⟩ := and_nz.mp z
            obtain ⟨a1, a2⟩ := pmC_bit.mp i1
            exact h i a1 a2 ((ha point i pl).mp i2).2
        have nx : ∀ N2 : sM, (∀ a, a ≠ 67 → N2 a = M a) → (∀ j, j < begun → N2 67 j = ((pmC c0 point j : Nat) : Int)) → ¬ (okP adj point part c0 ∧ exT adj n many (point + 1) (upC c0 point part)) → sW (sC (d + 1)) 118 (QI P) 13 [vO 1 60, vI (many : Int), vI (point : Int), vI (begun : Int), vI ((part + 1 : Nat) : Int), vN] [] N2 G 0 0 := fun N2 a1 a2 a3 => ih N2 a1 a2 (fun q hq2 => by
          by_cases c : q = part
          · rw [c]; exact a3
          · exact hq q (by omega))
        have z0 : iAnd 0 ((am point : Nat) : Int) = 0 := by
          rw [show (0 : Int) = ((0 : Nat) : Int) from rfl, n_and (by decide), Nat.zero_and]
        have esh : iShl 1 (point : Int) = ((2 ^ point : Nat) : Int) := z_bit (by omega) (by omega)
        have p2l := p12 (m := point) (by omega)
        refine (s118_13 ⟨fun q1 => ?_, fun q2 => ⟨fun q3 => ?_, fun q4 => ⟨fun q5 => ?_, fun q6 => ⟨fun q7 => ⟨⟨(by first | omega | assumption | (refine ⟨?_, ?_⟩ <;> omega) | (simp_all; done)), (by first | omega | assumption | (refine ⟨?_, ?_⟩ <;> omega) | (simp_all; done))⟩, fun q8 => ⟨⟨by omega, by omega⟩, ?_⟩, fun q9 => ⟨⟨(by first | omega | assumption | (refine ⟨?_, ?_⟩ <;> omega) | (simp_all; done)), (by first | omega | assumption | (refine ⟨?_, ?_⟩ <;> omega) | (simp_all; done))⟩, ⟨by omega, by omega⟩, ⟨by omega, by omega⟩, ?_⟩⟩, fun q12 => ⟨⟨(by first | omega | assumption | (refine ⟨?_, ?_⟩ <;> omega) | (simp_all; done)), (by first | omega | assumption | (refine ⟨?_, ?_⟩ <;> omega) | (simp_all; done))⟩, ⟨(by first | omega | assumption | (refine ⟨?_, ?_⟩ <;> omega) | (simp_all; done)), (by first | omega | assumption | (refine ⟨?_, ?_⟩ <;> omega) | (simp_all; done))⟩, fun q13 => ⟨⟨by omega, by omega⟩, ?_⟩, fun q14 => ⟨⟨by omega, by omega⟩, ⟨by omega, by omega⟩, ?_⟩⟩⟩⟩⟩⟩)
        · exact fin _ N n1 n2 hq (by omega)
        · omega
        · omega
        · rw [e66] at q8; omega
        · have e : part = begun := by omega
          have ok : okP adj point part c0 := fun i hi z => by have := h1 i hi; omega
          have p0 : pmC c0 point part = 0 := by rw [e]; exact pmC_0 h1
          rw [esh]
          refine rek part _ _ (by omega) (by omega) ok (fun a h9 => (sUpd_ne h9).trans (n1 a h9)) (fun j hj hne => (sUpd_ni hne).trans (n2 j hj)) ?_ (fun h M' hM' => ?_) (fun h M' hM' hM2 => ?_)
          · rw [p0, show (0 : Int) = ((0 : Nat) : Int) from rfl, n_or (by decide) (by omega)]
            exact sUpd_eq
          · refine ⟨fun q10 => ?_, fun q11 => ?_⟩
            · omega
            · exact k1 (exT_up h) M' hM'
          · refine ⟨fun q10 => ?_, fun q11 => ?_⟩
            · exact nx _ (fun a h9 => (sUpd_ne h9).trans (hM' a h9)) (fun j hj => (sUpd_ni (show j ≠ part by omega)).trans (hM2 j hj (by omega))) (fun z => h z.2)
            · omega
        · have e67 : N 67 ((part : Int)).toNat = ((pmC c0 point part : Nat) : Int) := n2 part (by omega)
          rw [e66, e67, n_and (by omega)] at q13
          exact nx N n1 n2 (fun z => by have := okm.mpr z.1; omega)
        · have e67 : N 67 ((part : Int)).toNat = ((pmC c0 point part : Nat) : Int) := n2 part (by omega)
          rw [e66, e67, n_and (by omega)] at q14
          have ok := okm.mp (by omega)
          rw [esh, e67]
          refine rek part _ _ (by omega) (by omega) ok (fun a h9 => (sUpd_ne h9).trans (n1 a h9)) (fun j hj hne => (sUpd_ni hne).trans (n2 j hj)) ?_ (fun h M' hM' => ?_) (fun h M' hM' hM2 => ?_)
          · rw [n_or (by omega) (by omega)]
            exact sUpd_eq
          · refine ⟨fun q15 => ?_, fun q16 => ?_⟩
            · omega
            · exact k1 (exT_up h) M' hM'
          · refine ⟨fun q15 => ?_, fun q16 => ?_⟩
            · refine nx _ (fun a h9 => (sUpd_ne h9).trans (hM' a h9)) (fun j hj => ?_) (fun z => h z.2)
              by_cases c : j = part
              · rw [c]
                exact sUpd_eq
              · exact (sUpd_ni c).trans (hM2 j hj c)
            · omega
        all_goals omega
    refine e118 (s118_0 ⟨fun q1 => ?_, fun q2 => ?_⟩)
    · exact loop
    · omega
end
