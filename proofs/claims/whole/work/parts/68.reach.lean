/-! HOW LONG THE LANDLORD'S GUESTS KEEP HIM: till when, by a set of them. -/
theorem nS_more {f g : Nat → Int} : ∀ {n : Nat}, (∀ i, i < n → f i ≤ g i) → (∃ i, i < n ∧ f i + 1 ≤ g i) → nS f n + 1 ≤ nS g n
  | 0, _, h => by obtain ⟨i, hi, _⟩ := h; omega
  | n + 1, h1, ⟨i, hi, h2⟩ => by
    have hle : ∀ m, m ≤ n + 1 → nS f m ≤ nS g m := fun m => by
      induction m with
      | zero => intro _; exact Int.le_refl _
      | succ m ih =>
        intro hm
        have := ih (by omega)
        have := h1 m (by omega)
        show nS f m + f m ≤ nS g m + g m
        omega
    show nS f n + f n + 1 ≤ nS g n + g n
    by_cases c : i = n
    · have := hle n (by omega)
      rw [c] at h2
      omega
    · have := nS_more (n := n) (fun j hj => h1 j (by omega)) ⟨i, by omega, h2⟩
      have := h1 n (by omega)
      omega
def gA (S : Nat → Int) (k : Nat) : Int := S (250 + (2 * (k : Int))).toNat
def gB (S : Nat → Int) (k : Nat) : Int := S ((250 + (2 * (k : Int))) + 1).toNat
def clR (S : Nat → Int) (m n : Nat) (r : Int) : Prop := ∀ k : Nat, k < n → m.testBit k = true → gA S k < r → gB S k ≤ r
def isR (S : Nat → Int) (m n : Nat) (g r : Int) : Prop := g ≤ r ∧ clR S m n r ∧ ∀ r' : Int, g ≤ r' → clR S m n r' → r ≤ r'
theorem isR.uniq {S : Nat → Int} {m n : Nat} {g r r' : Int} (h : isR S m n g r) (h' : isR S m n g r') : r = r' := by
  have a := h.2.2 r' h'.1 h'.2.1
  have b := h'.2.2 r h.1 h.2.1
  omega
section
variable {d : Nat} {P : Int → sM → sG → Prop} {PV : sM → sG → Prop} {M : sM} {G : sG}
theorem c272 {x1 g : Int} (hd : 20 ≤ d) (hv : vTold (M 93)) (h0 : 0 ≤ x1) (h1 : x1 ≤ 2147483647) (g0 : 0 ≤ g) (g1 : g ≤ 95) (kk : ∀ r : Int, isR (M 93) x1.toNat (M 93 8).toNat g r → r ≤ 95 → P r M G) : sC d 272 [vO 12 82, vI x1, vI g] M G (QI P) := by
  obtain ⟨d, rfl⟩ := sD 3 (d := d) (by omega)
  have h8 := hv.2.2.2.1
  have hb : ∀ k : Nat, (k : Int) < M 93 8 → 0 ≤ gA (M 93) k ∧ gA (M 93) k < gB (M 93) k ∧ gB (M 93) k ≤ 95 := fun k hk => hv.2.2.2.2.2.2.2.2.2 k (by omega) hk
  refine e272 (s272_0 ?_)
  refine sUpTo (W := fun i => ∀ r : Int, g ≤ r → r ≤ 95 → (∀ r' : Int, g ≤ r' → clR (M 93) x1.toNat (M 93 8).toNat r' → r ≤ r') → (∀ k : Nat, k < (M 93 8).toNat → x1.toNat.testBit k = true → gA (M 93) k < (i : Int) → gA (M 93) k < r → gB (M 93) k ≤ r) → sW (sC (d + 2)) 272 (QI P) 5 [vO 12 82, vI x1, vN, vI r, vI (i : Int), vN] [] M G 0 0) 96 ?_ ?_ g (Int.le_refl _) g1 (fun r' a b => a) (fun k hk _ hz => by have := hb k (by omega); omega)
  · intro r a0 a1 a2 a3
    refine (s272_5 ⟨fun q1 => ?_, fun q2 => ?_⟩)
    · refine kk r ⟨a0, fun k k0 k1 k2 => a3 k k0 k1 ?_ k2, a2⟩ a1
      have := hb k (by omega)
      omega
    · omega
  · intro i hi ih r a0 a1 a2 a3
    refine (s272_5 ⟨fun q1 => ?_, fun q2 => ?_⟩)
    · omega
    · refine sUpTo (W := fun j => ∀ r : Int, g ≤ r → r ≤ 95 → (∀ r' : Int, g ≤ r' → clR (M 93) x1.toNat (M 93 8).toNat r' → r ≤ r') → (∀ k : Nat, k < (M 93 8).toNat → x1.toNat.testBit k = true → gA (M 93) k < (i : Int) → gA (M 93) k < r → gB (M 93) k ≤ r) → (∀ k : Nat, k < j → x1.toNat.testBit k = true → gA (M 93) k = (i : Int) → gA (M 93) k < r → gB (M 93) k ≤ r) → sW (sC (d + 2)) 272 (QI P) 15 [vO 12 82, vI x1, vN, vI r, vI (i : Int), vI (j : Int)] [] M G 0 0) (M 93 8).toNat ?_ ?_ r a0 a1 a2 a3 (fun k hk => absurd hk (Nat.not_lt_zero _))
      · intro r a0 a1 a2 a3 a4
        have nx := ih r a0 a1 a2 (fun k k0 k1 k2 k3 => by
          by_cases c : gA (M 93) k = (i : Int)
          · exact a4 k k0 k1 c k3
          · exact a3 k k0 k1 (by omega) k3)
        refine (s272_15 ⟨fun q1 => ⟨⟨by omega, by omega⟩, ?_⟩, fun q2 => ⟨fun q3 => ⟨⟨by omega, by omega⟩, ?_⟩, fun q4 => ⟨fun q5 => ⟨⟨by omega, by omega⟩, ?_⟩, fun q6 => ⟨⟨by omega, by omega⟩, ⟨by omega, by omega⟩, ⟨(by first | omega | assumption | (refine ⟨?_, ?_⟩ <;> omega) | (simp_all; done)), (by first | omega | assumption | (refine ⟨?_, ?_⟩ <;> omega) | (simp_all; done))⟩, fun q7 => ⟨⟨by omega, by omega⟩, ?_⟩, fun q8 => ⟨⟨by omega, by omega⟩, ⟨(by first | omega | assumption | (refine ⟨?_, ?_⟩ <;> omega) | (simp_all; done)), (by first | omega | assumption | (refine ⟨?_, ?_⟩ <;> omega) | (simp_all; done))⟩, fun q9 => ⟨⟨by omega, by omega⟩, ?_⟩, fun q10 => ⟨⟨by omega, by omega⟩, ?_⟩⟩⟩⟩⟩⟩)
        · exact nx
        all_goals omega
      · intro j hj ih2 r a0 a1 a2 a3 a4
        have hj1 := z_has1 h0 h1 (show (0 : Int) ≤ j by omega) (by omega)
        have bj := hb j (by omega)
        have ea : M 93 (250 + (2 * (j : Int))).toNat = gA (M 93) j := rfl
        have eb : M 93 ((250 + (2 * (j : Int))) + 1).toNat = gB (M 93) j := rfl
        have sk : (x1.toNat.testBit j = true → gA (M 93) j = (i : Int) → gB (M 93) j ≤ r) → sW (sC (d + 2)) 272 (QI P) 15 [vO 12 82, vI x1, vN, vI r, vI (i : Int), vI ((j + 1 : Nat) : Int)] [] M G 0 0 := fun hs => ih2 r a0 a1 a2 a3 (fun k k0 k1 k2 k3 => by
          by_cases c : k = j
          · rw [c] at k1 k2 ⊢; exact hs k1 k2
          · exact a4 k (by omega) k1 k2 k3)
        refine (s272_15 ⟨fun q1 => ⟨⟨by omega, by omega⟩, ?_⟩, fun q2 => ⟨fun q3 => ⟨⟨by omega, by omega⟩, ?_⟩, fun q4 => ⟨fun q5 => ⟨⟨by omega, by omega⟩, ?_⟩, fun q6 => ⟨⟨by omega, by omega⟩, ⟨by omega, by omega⟩, ⟨(by first | omega | assumption | (refine ⟨?_, ?_⟩ <;> omega) | (simp_all; done)), (by first | omega | assumption | (refine ⟨?_, ?_⟩ <;> omega) | (simp_all; done))⟩, fun q7 => ⟨⟨by omega, by omega⟩, ?_⟩, fun q8 => ⟨⟨by omega, by omega⟩, ⟨(by first | omega | assumption | (refine ⟨?_, ?_⟩ <;> omega) | (simp_all; done)), (by first | omega | assumption | (refine ⟨?_, ?_⟩ <;> omega) | (simp_all; done))⟩, fun q9 => ⟨⟨by omega, by omega⟩, ?_⟩, fun q10 => ⟨⟨by omega, by omega⟩, ?_⟩⟩⟩⟩⟩⟩)
        · omega
        · refine ih r a0 a1 a2 (fun k k0 k1 k2 k3 => ?_)
          by_cases c : gA (M 93) k = (i : Int)
          · omega
          · exact a3 k k0 k1 (by omega) k3
        · exact sk (fun z => absurd (hj1.mpr z) q5)
        · exact sk (fun _ z => by omega)
        · exact sk (fun _ _ => by omega)
        · refine ih2 _ (by omega) (by omega) (fun r' b0 b1 => ?_) (fun k k0 k1 k2 k3 => ?_) (fun k k0 k1 k2 k3 => ?_)
          · have := a2 r' b0 b1
            exact b1 j (by omega) (hj1.mp q6) (by omega)
          · have := a3 k k0 k1 k2 (by omega)
            omega
          · by_cases c : k = j
            · rw [c]; omega
            · have := a4 k (by omega) k1 k2 (by omega)
              omega
def gCnt (S : Nat → Int) (n : Nat) (r : Int) : Int := nS (fun k => if gB S k ≤ r then 1 else 0) n
theorem gCnt_b (S : Nat → Int) (n : Nat) (r : Int) : 0 ≤ gCnt S n r ∧ gCnt S n r ≤ n := by
  have h1 := nS_ge0 (f := fun k => if gB S k ≤ r then (1 : Int) else 0) (n := n) (fun k _ => by show 0 ≤ (if gB S k ≤ r then (1 : Int) else 0); split <;> decide)
  have h2 := nS_le (f := fun k => if gB S k ≤ r then (1 : Int) else 0) (c := 1) (n := n) (fun k _ => by show (if gB S k ≤ r then (1 : Int) else 0) ≤ 1; split <;> decide)
  unfold gCnt
  omega
theorem gCnt_up {S : Nat → Int} {n : Nat} {r r' : Int} (h : r ≤ r') (k : Nat) (hk : k < n) (h1 : r < gB S k) (h2 : gB S k ≤ r') : gCnt S n r + 1 ≤ gCnt S n r' := by
  refine nS_more (fun i hi => ?_) ⟨k, hk, ?_⟩
  · show (if gB S i ≤ r then (1 : Int) else 0) ≤ (if gB S i ≤ r' then (1 : Int) else 0)
    by_cases c : gB S i ≤ r
    · rw [if_pos c, if_pos (by omega)]; exact Int.le_refl _
    · rw [if_neg c]; split <;> decide
  · show (if gB S k ≤ r then (1 : Int) else 0) + 1 ≤ (if gB S k ≤ r' then (1 : Int) else 0)
    rw [if_neg (by omega), if_pos h2]
    decide
theorem gCnt_all {S : Nat → Int} {n : Nat} {r : Int} (h : (n : Int) ≤ gCnt S n r) (k : Nat) (hk : k < n) : gB S k ≤ r := by
  by_cases c : gB S k ≤ r
  · exact c
  · have := gCnt_up (n := n) (r := r) (r' := gB S k) (by omega) k hk (by omega) (Int.le_refl _)
    have := (gCnt_b S n (gB S k)).2
    omega
def gMv (S : Nat → Int) (n : Nat) (r0 r : Int) : Prop := r = r0 ∨ ∃ k : Nat, k < n ∧ r0 < gB S k ∧ gB S k ≤ r
theorem c159 {x1 g : Int} (hd : 20 ≤ d) (hv : vTold (M 93)) (ht : TO 29 M (M 93)) (h0 : 0 ≤ x1) (h1 : x1 ≤ 2147483647) (g0 : 0 ≤ g) (g1 : g ≤ 95) (kk : ∀ r : Int, isR (M 93) x1.toNat (M 93 8).toNat g r → r ≤ 95 → P r M G) : sC d 159 [vO 9 29, vI g, vI x1] M G (QI P) := by
  obtain ⟨d, rfl⟩ := sD 3 (d := d) (by omega)
  have h8 := hv.2.2.2.1
  have hb : ∀ k : Nat, (k : Int) < M 93 8 → 0 ≤ gA (M 93) k ∧ gA (M 93) k < gB (M 93) k ∧ gB (M 93) k ≤ 95 := fun k hk => hv.2.2.2.2.2.2.2.2.2 k (by omega) hk
  have e12 : M 29 12 = M 93 8 := ht.1.2.2.2.1
  refine e159 (s159_0 ?_)
  refine sUpTo (W := fun i => ∀ r : Int, g ≤ r → r ≤ 95 → (∀ r' : Int, g ≤ r' → clR (M 93) x1.toNat (M 93 8).toNat r' → r ≤ r') → (i : Int) ≤ gCnt (M 93) (M 93 8).toNat r → sW (sC (d + 2)) 159 (QI P) 5 [vO 9 29, vN, vI x1, vI r, vI (i : Int), vN, vN] [] M G 0 0) (M 93 8).toNat ?_ ?_ g (Int.le_refl _) g1 (fun r' a b => a) (gCnt_b _ _ _).1
  · intro r a0 a1 a2 a3
    refine (s159_5 ⟨fun q1 => ?_, fun q2 => ?_⟩)
    · exact kk r ⟨a0, fun k k0 k1 k2 => gCnt_all a3 k k0, a2⟩ a1
    · omega
  · intro i hi ih r0 a0 a1 a2 a3
    refine (s159_5 ⟨fun q1 => ?_, fun q2 => ?_⟩)
    · omega
    · refine sUpTo (W := fun j => ∀ r : Int, r0 ≤ r → r ≤ 95 → (∀ r' : Int, g ≤ r' → clR (M 93) x1.toNat (M 93 8).toNat r' → r ≤ r') → (∀ k : Nat, k < j → x1.toNat.testBit k = true → gA (M 93) k < r0 → gB (M 93) k ≤ r) → gMv (M 93) (M 93 8).toNat r0 r → sW (sC (d + 2)) 159 (QI P) 20 [vO 9 29, vN, vI x1, vI r, vI (i : Int), vI r0, vI (j : Int)] [] M G 0 0) (M 93 8).toNat ?_ ?_ r0 (Int.le_refl _) a1 a2 (fun k hk => absurd hk (Nat.not_lt_zero _)) (Or.inl rfl)
      · intro r b0 b1 b2 b3 b4
        refine (s159_20 ⟨fun q1 => ⟨fun q2 => ⟨⟨by omega, by omega⟩, ?_⟩, fun q3 => ?_⟩, fun q4 => ⟨fun q5 => ⟨⟨by omega, by omega⟩, ?_⟩, fun q6 => ⟨⟨(by first | omega | assumption | (refine ⟨?_, ?_⟩ <;> omega) | (simp_all; done)), (by first | omega | assumption | (refine ⟨?_, ?_⟩ <;> omega) | (simp_all; done))⟩, fun q7 => ⟨⟨by omega, by omega⟩, ?_⟩, fun q8 => ⟨⟨by omega, by omega⟩, ?_⟩⟩⟩⟩)
        · rcases b4 with z | ⟨k, k0, k1, k2⟩
          · exact absurd z q2
          · refine ih r (by omega) b1 b2 ?_
            have := gCnt_up b0 k k0 k1 k2
            omega
        · refine kk r ⟨by omega, fun k k0 k1 k2 => b3 k k0 k1 (by omega), b2⟩ b1
        all_goals omega
      · intro j hj ih2 r b0 b1 b2 b3 b4
        have hj1 := z_has1 h0 h1 (show (0 : Int) ≤ j by omega) (by omega)
        have bj := hb j (by omega)
        have tg := ht.2.2.2.2.2 j (by omega) (by omega)
        have ea : M 39 ((j : Int)).toNat = gA (M 93) j := tg.1
        have eb : M 40 ((j : Int)).toNat = gB (M 93) j := tg.2
        have sk : (x1.toNat.testBit j = true → gA (M 93) j < r0 → gB (M 93) j ≤ r) → sW (sC (d + 2)) 159 (QI P) 20 [vO 9 29, vN, vI x1, vI r, vI (i : Int), vI r0, vI ((j + 1 : Nat) : Int)] [] M G 0 0 := fun hs => ih2 r b0 b1 b2 (fun k k0 k1 k2 => by
          by_cases c : k = j
          · rw [c] at k1 k2 ⊢; exact hs k1 k2
          · exact b3 k (by omega) k1 k2) b4
        refine (s159_20 ⟨fun q1 => ⟨fun q2 => ⟨⟨by omega, by omega⟩, ?_⟩, fun q3 => ?_⟩, fun q4 => ⟨fun q5 => ⟨⟨by omega, by omega⟩, ?_⟩, fun q6 => ⟨⟨(by first | omega | assumption | (refine ⟨?_, ?_⟩ <;> omega) | (simp_all; done)), (by first | omega | assumption | (refine ⟨?_, ?_⟩ <;> omega) | (simp_all; done))⟩, fun q7 => ⟨⟨by omega, by omega⟩, ?_⟩, fun q8 => ⟨⟨by omega, by omega⟩, ?_⟩⟩⟩⟩)
        · omega
        · omega
        · exact sk (fun z => absurd (hj1.mpr z) q5)
        · exact sk (fun _ z => by omega)
        · rw [eb]
          by_cases c : r < gB (M 93) j
          · rw [if_pos c]
            refine ih2 _ (by omega) (by omega) (fun r' c0 c1 => ?_) (fun k k0 k1 k2 => ?_) (Or.inr ⟨j, by omega, by omega, Int.le_refl _⟩)
            · have := b2 r' c0 c1
              exact c1 j (by omega) (hj1.mp q6) (by omega)
            · by_cases c2 : k = j
              · rw [c2]; exact Int.le_refl _
              · have := b3 k (by omega) k1 k2
                omega
          · rw [if_neg c]
            exact sk (fun _ _ => by omega)
end
