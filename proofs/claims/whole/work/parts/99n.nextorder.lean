/-! The reference's next order. -/
section
variable {d : Nat} {P : Int → sM → sG → Prop} {PV : sM → sG → Prop} {M : sM} {G : sG} {S : Nat → Int}
def arR (n : Nat) (N : sM) (b : Nat → Int) : Prop := ∀ i : Nat, i < n → N 102 i = b i
theorem c269n {b : Nat → Int} (hd : 10 ≤ d) (hv : vTold S) (hS : M 93 = S) (hb : arR (S 6).toNat M b) (hdn : ∀ i, i + 1 < (S 6).toNat → b (i + 1) < b i) (kk : P 0 M G) : sC d 269 [vO 12 82] M G (QI P) := by
  obtain ⟨d, rfl⟩ := sD 3 (d := d) (by omega)
  have h6 := hv.2.1
  have e6 : M 93 6 = S 6 := by rw [hS]
  refine e269 (s269_0 ⟨⟨by omega, by omega⟩, ?_⟩)
  rw [e6]
  have go : ∀ m : Nat, (m : Int) ≤ S 6 - 1 → sW (sC (d + 2)) 269 (QI P) 10 [vO 12 82, vI ((m : Int) - 1), vN, vN, vN, vN] [] M G 0 0 := fun m => by
    induction m with
    | zero =>
      intro _
      refine (s269_10 ⟨fun q1 => ?_, fun q2 => ⟨⟨(by first | omega | assumption | (refine ⟨?_, ?_⟩ <;> omega) | (simp_all; done)), (by first | omega | assumption | (refine ⟨?_, ?_⟩ <;> omega) | (simp_all; done))⟩, ⟨by omega, by omega⟩, ⟨(by first | omega | assumption | (refine ⟨?_, ?_⟩ <;> omega) | (simp_all; done)), (by first | omega | assumption | (refine ⟨?_, ?_⟩ <;> omega) | (simp_all; done))⟩, fun q3 => ⟨⟨by omega, by omega⟩, ?_⟩, fun q4 => ⟨⟨by omega, by omega⟩, ?_⟩⟩⟩)
      · exact kk
      all_goals omega
    | succ m ih =>
      intro hm
      have e0 : M 102 (((m + 1 : Nat) : Int) - 1).toNat = b m := by
        rw [show (((m + 1 : Nat) : Int) - 1).toNat = m by omega]; exact hb m (by omega)
      have e1 : M 102 ((((m + 1 : Nat) : Int) - 1) + 1).toNat = b (m + 1) := by
        rw [show ((((m + 1 : Nat) : Int) - 1) + 1).toNat = m + 1 by omega]; exact hb (m + 1) (by omega)
      have := hdn m (by omega)
      refine (s269_10 ⟨fun q1 => ?_, fun q2 => ⟨⟨(by first | omega | assumption | (refine ⟨?_, ?_⟩ <;> omega) | (simp_all; done)), (by first | omega | assumption | (refine ⟨?_, ?_⟩ <;> omega) | (simp_all; done))⟩, ⟨by omega, by omega⟩, ⟨(by first | omega | assumption | (refine ⟨?_, ?_⟩ <;> omega) | (simp_all; done)), (by first | omega | assumption | (refine ⟨?_, ?_⟩ <;> omega) | (simp_all; done))⟩, fun q3 => ⟨⟨by omega, by omega⟩, ?_⟩, fun q4 => ⟨⟨by omega, by omega⟩, ?_⟩⟩⟩)
      · omega
      · omega
      · rw [show (((m + 1 : Nat) : Int) - 1) + (-1) = (m : Int) - 1 by omega]
        exact ih (by omega)
      all_goals omega
  by_cases z : S 6 = 0
  · refine (s269_10 ⟨fun q1 => ?_, fun q2 => ⟨⟨(by first | omega | assumption | (refine ⟨?_, ?_⟩ <;> omega) | (simp_all; done)), (by first | omega | assumption | (refine ⟨?_, ?_⟩ <;> omega) | (simp_all; done))⟩, ⟨by omega, by omega⟩, ⟨(by first | omega | assumption | (refine ⟨?_, ?_⟩ <;> omega) | (simp_all; done)), (by first | omega | assumption | (refine ⟨?_, ?_⟩ <;> omega) | (simp_all; done))⟩, fun q3 => ⟨⟨by omega, by omega⟩, ?_⟩, fun q4 => ⟨⟨by omega, by omega⟩, ?_⟩⟩⟩)
    · exact kk
    all_goals omega
  · have := go (S 6 - 1).toNat (by omega)
    rw [show (((S 6 - 1).toNat : Nat) : Int) - 1 = S 6 - 2 by omega] at this
    exact this
def nxA (n : Nat) (b : Nat → Int) (k o : Nat) : Nat → Int := fun i => if i < k then b i else if i = k then b o else if k + n - i = o then b k else b (k + n - i)
theorem c269y {b : Nat → Int} {k o : Nat} (hd : 10 ≤ d) (hv : vTold S) (hS : M 93 = S) (hb : arR (S 6).toNat M b) (hk : k + 1 < (S 6).toNat) (h0 : b k < b (k + 1)) (hdn : ∀ i, k < i → i + 1 < (S 6).toNat → b (i + 1) < b i) (ho : k < o ∧ o < (S 6).toNat) (ho1 : b k < b o) (ho2 : ∀ i, o < i → i < (S 6).toNat → b i < b k) (kk : ∀ N : sM, (∀ a, a ≠ 102 → N a = M a) → arR (S 6).toNat N (nxA (S 6).toNat b k o) → P 1 N G) : sC d 269 [vO 12 82] M G (QI P) := by
  obtain ⟨d, rfl⟩ := sD 3 (d := d) (by omega)
  have h6 := hv.2.1
  have e6 : M 93 6 = S 6 := by rw [hS]
  refine e269 (s269_0 ⟨⟨by omega, by omega⟩, ?_⟩)
  rw [e6]
  -- the ends change places
  have swap : ∀ (b1 : Nat → Int), (∀ i, i < (S 6).toNat → b1 i = if i = k then b o else if i = o then b k else b i) → ∀ (m low high : Nat) (N : sM), high + 1 ≤ low + m → low + high = k + (S 6).toNat → k < low → low ≤ high + 1 → (∀ a, a ≠ 102 → N a = M a) → (∀ i, i < (S 6).toNat → N 102 i = if i ≤ k then b1 i else if low ≤ i ∧ i ≤ high then b1 i else b1 (k + (S 6).toNat - i)) → sW (sC (d + 2)) 269 (QI P) 116 [vO 12 82, vN, vN, vN, vI (low : Int), vI (high : Int)] [] N G 0 0 := fun b1 hb1 m => by
    have fin : ∀ (low high : Nat) (N : sM), high ≤ low → low + high = k + (S 6).toNat → k < low → low ≤ high + 1 → (∀ a, a ≠ 102 → N a = M a) → (∀ i, i < (S 6).toNat → N 102 i = if i ≤ k then b1 i else if low ≤ i ∧ i ≤ high then b1 i else b1 (k + (S 6).toNat - i)) → P 1 N G := fun low high N g1 g2 g3 g4 g5 g6 => kk N g5 (fun i hi => by
      rw [g6 i hi]
      unfold nxA
      by_cases a : i ≤ k
      · rw [if_pos a, hb1 i hi]
        by_cases c : i = k
        · rw [if_pos c, if_neg (by omega), if_pos c]
        · rw [if_neg c, if_neg (by omega), if_pos (by omega)]
      · rw [if_neg a]
        have e : (if low ≤ i ∧ i ≤ high then b1 i else b1 (k + (S 6).toNat - i)) = b1 (k + (S 6).toNat - i) := by
          by_cases c : low ≤ i ∧ i ≤ high
          · rw [if_pos c, show k + (S 6).toNat - i = i by omega]
          · rw [if_neg c]
        rw [e, hb1 _ (by omega), if_neg (show ¬ (k + (S 6).toNat - i = k) by omega), if_neg (show ¬ i < k by omega), if_neg (show ¬ i = k by omega)])
    induction m with
    | zero =>
      intro low high N g1 g2 g3 g4 g5 g6
      refine (s269_116 ⟨fun q1 => ?_, fun q2 => ⟨⟨(by first | omega | assumption | (refine ⟨?_, ?_⟩ <;> omega) | (simp_all; done)), (by first | omega | assumption | (refine ⟨?_, ?_⟩ <;> omega) | (simp_all; done))⟩, ⟨(by first | omega | assumption | (refine ⟨?_, ?_⟩ <;> omega) | (simp_all; done)), (by first | omega | assumption | (refine ⟨?_, ?_⟩ <;> omega) | (simp_all; done))⟩, ⟨by omega, by omega⟩, ⟨by omega, by omega⟩, ?_⟩⟩)
      · exact fin low high N (by omega) g2 g3 g4 g5 g6
      all_goals omega
    | succ m ih =>
      intro low high N g1 g2 g3 g4 g5 g6
      refine (s269_116 ⟨fun q1 => ?_, fun q2 => ⟨⟨(by first | omega | assumption | (refine ⟨?_, ?_⟩ <;> omega) | (simp_all; done)), (by first | omega | assumption | (refine ⟨?_, ?_⟩ <;> omega) | (simp_all; done))⟩, ⟨(by first | omega | assumption | (refine ⟨?_, ?_⟩ <;> omega) | (simp_all; done)), (by first | omega | assumption | (refine ⟨?_, ?_⟩ <;> omega) | (simp_all; done))⟩, ⟨by omega, by omega⟩, ⟨by omega, by omega⟩, ?_⟩⟩)
      · exact fin low high N (by omega) g2 g3 g4 g5 g6
      · have el : N 102 ((low : Int)).toNat = b1 low := by
          have := g6 low (by omega)
          rw [if_neg (by omega), if_pos ⟨Nat.le_refl _, by omega⟩] at this
          exact this
        have eh : N 102 ((high : Int)).toNat = b1 high := by
          have := g6 high (by omega)
          rw [if_neg (by omega), if_pos ⟨by omega, Nat.le_refl _⟩] at this
          exact this
        rw [el, eh]
        have nx := ih (low + 1) (high - 1) (sUpd (sUpd N 102 low (b1 high)) 102 high (b1 low)) (by omega) (by omega) (by omega) (by omega) (fun a ha => (sUpd_ne ha).trans ((sUpd_ne ha).trans (g5 a ha))) (fun i hi => by
          by_cases c1 : i = high
          · rw [c1, sUpd_eq, if_neg (by omega), if_neg (by omega), show k + (S 6).toNat - high = low by omega]
          · rw [sUpd_ni c1]
            by_cases c2 : i = low
            · rw [c2, sUpd_eq, if_neg (by omega), if_neg (by omega), show k + (S 6).toNat - low = high by omega]
            · rw [sUpd_ni c2, g6 i hi]
              by_cases c3 : i ≤ k
              · rw [if_pos c3, if_pos c3]
              · rw [if_neg c3, if_neg c3]
                by_cases c4 : low ≤ i ∧ i ≤ high
                · rw [if_pos c4, if_pos ⟨by omega, by omega⟩]
                · rw [if_neg c4, if_neg (by omega)])
        rw [show ((high - 1 : Nat) : Int) = (high : Int) + (-1) by omega] at nx
        exact nx
      all_goals omega
  have look : ∀ m : Nat, o + m < (S 6).toNat → sW (sC (d + 2)) 269 (QI P) 53 [vO 12 82, vI (k : Int), vI ((o + m : Nat) : Int), vN, vN, vN] [] M G 0 0 := fun m => by
    induction m with
    | zero =>
      intro hm
      have ek : M 102 ((k : Int)).toNat = b k := hb k (by omega)
      have eo : M 102 ((o + 0 : Nat) : Int).toNat = b o := hb o (by omega)
      refine (s269_53 ⟨⟨(by first | omega | assumption | (refine ⟨?_, ?_⟩ <;> omega) | (simp_all; done)), (by first | omega | assumption | (refine ⟨?_, ?_⟩ <;> omega) | (simp_all; done))⟩, ⟨(by first | omega | assumption | (refine ⟨?_, ?_⟩ <;> omega) | (simp_all; done)), (by first | omega | assumption | (refine ⟨?_, ?_⟩ <;> omega) | (simp_all; done))⟩, fun q1 => ⟨⟨by omega, by omega⟩, ⟨by omega, by omega⟩, ?_⟩, fun q2 => ⟨⟨by omega, by omega⟩, ?_⟩⟩)
      all_goals try omega
      rw [ek, eo, e6]
      have sw := swap (fun i => if i = k then b o else if i = o then b k else b i) (fun i _ => rfl) (S 6).toNat (k + 1) ((S 6).toNat - 1) (sUpd (sUpd M 102 k (b o)) 102 o (b k)) (by omega) (by omega) (by omega) (by omega) (fun a ha => (sUpd_ne ha).trans (sUpd_ne ha)) (fun i hi => by
        have e1 : sUpd (sUpd M 102 k (b o)) 102 o (b k) 102 i = if i = k then b o else if i = o then b k else b i := by
          by_cases c1 : i = o
          · rw [c1, sUpd_eq, if_neg (by omega), if_pos rfl]
          · rw [sUpd_ni c1]
            by_cases c2 : i = k
            · rw [c2, sUpd_eq, if_pos rfl]
            · rw [sUpd_ni c2, if_neg c2, if_neg c1]; exact hb i hi
        rw [e1]
        by_cases c3 : i ≤ k
        · rw [if_pos c3]
        · rw [if_neg c3, if_pos (show k + 1 ≤ i ∧ i ≤ (S 6).toNat - 1 by omega)])
      rw [show (((S 6).toNat - 1 : Nat) : Int) = S 6 - 1 by omega, show ((k + 1 : Nat) : Int) = (k : Int) + 1 by omega] at sw
      exact sw
    | succ m ih =>
      intro hm
      have ek : M 102 ((k : Int)).toNat = b k := hb k (by omega)
      have eo : M 102 ((o + (m + 1) : Nat) : Int).toNat = b (o + (m + 1)) := hb (o + (m + 1)) (by omega)
      have := ho2 (o + (m + 1)) (by omega) (by omega)
      refine (s269_53 ⟨⟨(by first | omega | assumption | (refine ⟨?_, ?_⟩ <;> omega) | (simp_all; done)), (by first | omega | assumption | (refine ⟨?_, ?_⟩ <;> omega) | (simp_all; done))⟩, ⟨(by first | omega | assumption | (refine ⟨?_, ?_⟩ <;> omega) | (simp_all; done)), (by first | omega | assumption | (refine ⟨?_, ?_⟩ <;> omega) | (simp_all; done))⟩, fun q1 => ⟨⟨by omega, by omega⟩, ⟨by omega, by omega⟩, ?_⟩, fun q2 => ⟨⟨by omega, by omega⟩, ?_⟩⟩)
      · omega
      · rw [show ((o + (m + 1) : Nat) : Int) + (-1) = ((o + m : Nat) : Int) by omega]
        exact ih (by omega)
      all_goals omega
  have go : ∀ m : Nat, k + m + 1 < (S 6).toNat → sW (sC (d + 2)) 269 (QI P) 10 [vO 12 82, vI ((k + m : Nat) : Int), vN, vN, vN, vN] [] M G 0 0 := fun m => by
    induction m with
    | zero =>
      intro hm
      have e0 : M 102 ((k + 0 : Nat) : Int).toNat = b k := hb k (by omega)
      have e1 : M 102 (((k + 0 : Nat) : Int) + 1).toNat = b (k + 1) := by
        rw [show (((k + 0 : Nat) : Int) + 1).toNat = k + 1 by omega]; exact hb (k + 1) (by omega)
      have lk := look ((S 6).toNat - 1 - o) (by omega)
      rw [show ((o + ((S 6).toNat - 1 - o) : Nat) : Int) = S 6 - 1 by omega] at lk
      refine (s269_10 ⟨fun q1 => ?_, fun q2 => ⟨⟨(by first | omega | assumption | (refine ⟨?_, ?_⟩ <;> omega) | (simp_all; done)), (by first | omega | assumption | (refine ⟨?_, ?_⟩ <;> omega) | (simp_all; done))⟩, ⟨by omega, by omega⟩, ⟨(by first | omega | assumption | (refine ⟨?_, ?_⟩ <;> omega) | (simp_all; done)), (by first | omega | assumption | (refine ⟨?_, ?_⟩ <;> omega) | (simp_all; done))⟩, fun q3 => ⟨⟨by omega, by omega⟩, ?_⟩, fun q4 => ⟨⟨by omega, by omega⟩, ?_⟩⟩⟩)
      · omega
      · rw [e6]; exact lk
      · omega
      all_goals omega
    | succ m ih =>
      intro hm
      have e0 : M 102 ((k + (m + 1) : Nat) : Int).toNat = b (k + (m + 1)) := hb (k + (m + 1)) (by omega)
      have e1 : M 102 (((k + (m + 1) : Nat) : Int) + 1).toNat = b (k + (m + 1) + 1) := by
        rw [show (((k + (m + 1) : Nat) : Int) + 1).toNat = k + (m + 1) + 1 by omega]; exact hb (k + (m + 1) + 1) (by omega)
      have := hdn (k + (m + 1)) (by omega) (by omega)
      refine (s269_10 ⟨fun q1 => ?_, fun q2 => ⟨⟨(by first | omega | assumption | (refine ⟨?_, ?_⟩ <;> omega) | (simp_all; done)), (by first | omega | assumption | (refine ⟨?_, ?_⟩ <;> omega) | (simp_all; done))⟩, ⟨by omega, by omega⟩, ⟨(by first | omega | assumption | (refine ⟨?_, ?_⟩ <;> omega) | (simp_all; done)), (by first | omega | assumption | (refine ⟨?_, ?_⟩ <;> omega) | (simp_all; done))⟩, fun q3 => ⟨⟨by omega, by omega⟩, ?_⟩, fun q4 => ⟨⟨by omega, by omega⟩, ?_⟩⟩⟩)
      · omega
      · omega
      · rw [show ((k + (m + 1) : Nat) : Int) + (-1) = ((k + m : Nat) : Int) by omega]
        exact ih (by omega)
      all_goals omega
  have := go ((S 6).toNat - 2 - k) (by omega)
  rw [show ((k + ((S 6).toNat - 2 - k) : Nat) : Int) = S 6 - 2 by omega] at this
  exact this
end
