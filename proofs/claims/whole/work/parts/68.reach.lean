/-! HOW LONG THE LANDLORD'S GUESTS KEEP HIM: till when, by a set of them. -/
theorem nS_more {f g : Nat → Int} : ∀ {n : Nat}, (∀ i, i < n → f i ≤ g i) → (∃ i, i < n ∧ f i + 1 ≤ g i) → nS f n + 1 ≤ nS g n
  | 0, _, h => by obtain ⟨i, hi, _⟩ := h; omega
  | n + 1, h1, ⟨i, hi, h2⟩ => by
    have hle : ∀ m, m ≤ n + 1 → nS f m ≤ nS g m := fun m => by
      induction m with
      | zero => intro _; exact Int.le_refl _
      | succ m ih =>
        intro hm
        have := ih (by omega)
        have := h1 m (by omega)
        show nS f m + f m ≤ nS g m + g m
        omega
    show nS f n + f n + 1 ≤ nS g n + g n
    by_cases c : i = n
    · have := hle n (by omega)
      rw [c] at h2
      omega
    · have := nS_more (n := n) (fun j hj => h1 j (by omega)) ⟨i, by omega, h2⟩
      have := h1 n (by omega)
      omega
def gA (S : Nat → Int) (k : Nat) : Int := S (250 + (2 * (k : Int))).toNat
def gB (S : Nat → Int) (k : Nat) : Int := S ((250 + (2 * (k : Int))) + 1).toNat
def clR (S : Nat → Int) (m n : Nat) (r : Int) : Prop := ∀ k : Nat, k < n → m.testBit k = true → gA S k < r → gB S k ≤ r
def isR (S : Nat → Int) (m n : Nat) (g r : Int) : Prop := g ≤ r ∧ clR S m n r ∧ ∀ r' : Int, g ≤ r' → clR S m n r' → r ≤ r'
theorem isR.uniq {S : Nat → Int} {m n : Nat} {g r r' : Int} (h : isR S m n g r) (h' : isR S m n g r') : r = r' := by
  have a := h.2.2 r' h'.1 h'.2.1
  have b := h'.2.2 r h.1 h.2.1
  omega
section
variable {d : Nat} {P : Int → sM → sG → Prop} {PV : sM → sG → Prop} {M : sM} {G : sG}
theorem c272 {x1 g : Int} (hd : 20 ≤ d) (hv : vTold (M 93)) (h0 : 0 ≤ x1) (h1 : x1 ≤ 2147483647) (g0 : 0 ≤ g) (g1 : g ≤ 95) (kk : ∀ r : Int, isR (M 93) x1.toNat (M 93 8).toNat g r → r ≤ 95 → P r M G) : sC d 272 [vO 12 82, vI x1, vI g] M G (QI P) := by
  obtain ⟨d, rfl⟩ := sD 3 (d := d) (by omega)
  have h8 := hv.2.2.2.1
  have hb : ∀ k : Nat, (k : Int) < M 93 8 → 0 ≤ gA (M 93) k ∧ gA (M 93) k < gB (M 93) k ∧ gB (M 93) k ≤ 95 := fun k hk => hv.2.2.2.2.2.2.2.2.2 k (by omega) hk
  refine e272 (s272_0 ?_)
  refine sUpTo (W := fun i => ∀ r : Int, g ≤ r → r ≤ 95 → (∀ r' : Int, g ≤ r' → clR (M 93) x1.toNat (M 93 8).toNat r' → r ≤ r') → (∀ k : Nat, k < (M 93 8).toNat → x1.toNat.testBit k = true → gA (M 93) k < (i : Int) → gA (M 93) k < r → gB (M 93) k ≤ r) → sW (sC (d + 2)) 272 (QI P) 5 [vO 12 82, vI x1, vN, vI r, vI (i : Int), vN] [] M G 0 0) 96 ?_ ?_ g (Int.le_refl _) g1 (fun r' a b => a) (fun k hk _ hz => by have := hb k (by omega); omega)
  · intro r a0 a1 a2 a3
    refine (s272_5 ⟨fun q1 => ?_, fun q2 => ?_⟩)
    · refine kk r ⟨a0, fun k k0 k1 k2 => a3 k k0 k1 ?_ k2, a2⟩ a1
      have := hb k (by omega)
      omega
    · omega
  · intro i hi ih r a0 a1 a2 a3
    refine (s272_5 ⟨fun q1 => ?_, fun q2 => ?_⟩)
    · omega
    · refine sUpTo (W := fun j => ∀ r : Int, g ≤ r → r ≤ 95 → (∀ r' : Int, g ≤ r' → clR (M 93) x1.toNat (M 93 8).toNat r' → r ≤ r') → (∀ k : Nat, k < (M 93 8).toNat → x1.toNat.testBit k = true → gA (M 93) k < (i : Int) → gA (M 93) k < r → gB (M 93) k ≤ r) → (∀ k : Nat, k < j → x1.toNat.testBit k = true → gA (M 93) k = (i : Int) → gA (M 93) k < r → gB (M 93) k ≤ r) → sW (sC (d + 2)) 272 (QI P) 15 [vO 12 82, vI x1, vN, vI r, vI (i : Int), vI (j : Int)] [] M G 0 0) (M 93 8).toNat ?_ ?_ r a0 a1 a2 a3 (fun k hk => absurd hk (Nat.not_lt_zero _))
      · intro r a0 a1 a2 a3 a4
        have nx := ih r a0 a1 a2 (fun k k0 k1 k2 k3 => by
          by_cases c : gA (M 93) k = (i : Int)
          · exact a4 k k0 k1 c k3
          · exact a3 k k0 k1 (by omega) k3)
        refine (s272_15 ⟨fun q1 => ⟨⟨by omega, by omega⟩, ?_⟩, fun q2 => ⟨fun q3 => ⟨⟨by omega, by omega⟩, ?_⟩, fun q4 => ⟨fun q5 => ⟨⟨by omega, by omega⟩, ?_⟩, fun q6 => ⟨⟨by omega, by omega⟩, ⟨by omega, by omega⟩, ⟨(by first | omega | assumption | (refine ⟨?_, ?_⟩ <;> omega) | (simp_all; done)), (by first | omega | assumption | (refine ⟨?_, ?_⟩ <;> omega) | (simp_all; done))⟩, fun q7 => ⟨⟨by omega, by omega⟩, ?_⟩, fun q8 => ⟨⟨by omega, by omega⟩, ⟨(by first | omega | assumption | (refine ⟨?_, ?_⟩ <;> omega) | (simp_all; done)), (by first | omega | assumption | (refine ⟨?_, ?_⟩ <;> omega) | (simp_all; done))⟩, fun q9 => ⟨⟨by omega, by omega⟩, ?_⟩, fun q10 => ⟨⟨by omega, by omega⟩, ?_⟩⟩⟩⟩⟩⟩)
        · exact nx
        all_goals omega
      · intro j hj ih2 r a0 a1 a2 a3 a4
        have hj1 := z_has1 h0 h1 (show (0 : Int) ≤ j by omega) (by omega)
        have bj := hb j (by omega)
        have ea : M 93 (250 + (2 * (j : Int))).toNat = gA (M 93) j := rfl
        have eb : M 93 ((250 + (2 * (j : Int))) + 1).toNat = gB (M 93) j := rfl
        have sk : (x1.toNat.testBit j = true → gA (M 93) j = (i : Int) → gB (M 93) j ≤ r) → sW (sC (d + 2)) 272 (QI P) 15 [vO 12 82, vI x1, vN, vI r, vI (i : Int), vI ((j + 1 : Nat) : Int)] [] M G 0 0 := fun hs => ih2 r a0 a1 a2 a3 (fun k k0 k1 k2 k3 => by
          by_cases c : k = j
          · rw [c] at k1 k2 ⊢; exact hs k1 k2
          · exact a4 k (by omega) k1 k2 k3)
        refine (s272_15 ⟨fun q1 => ⟨⟨by omega, by omega⟩, ?_⟩, fun q2 => ⟨fun q3 => ⟨⟨by omega, by omega⟩, ?_⟩, fun q4 => ⟨fun q5 => ⟨⟨by omega, by omega⟩, ?_⟩, fun q6 => ⟨⟨by omega, by omega⟩, ⟨by omega, by omega⟩, ⟨(by first | omega | assumption | (refine ⟨?_, ?_⟩ <;> omega) | (simp_all; done)), (by first | omega | assumption | (refine ⟨?_, ?_⟩ <;> omega) | (simp_all; done))⟩, fun q7 => ⟨⟨by omega, by omega⟩, ?_⟩, fun q8 => ⟨⟨by omega, by omega⟩, ⟨(by first | omega | assumption | (refine ⟨?_, ?_⟩ <;> omega) | (simp_all; done)), (by first | omega | assumption | (refine ⟨?_, ?_⟩ <;> omega) | (simp_all; done))⟩, fun q9 => ⟨⟨by omega, by omega⟩, ?_⟩, fun q10 => ⟨⟨by omega, by omega⟩, ?_⟩⟩⟩⟩⟩⟩)
        · omega
        · refine ih r a0 a1 a2 (fun k k0 k1 k2 k3 => ?_)
          by_cases c : gA (M 93) k = (i : Int)
          · omega
          · exact a3 k k0 k1 (by omega) k3
        · exact sk (fun z => absurd (hj1.mpr z) q5)
        · exact sk (fun _ z => by omega)
        · exact sk (fun _ _ => by omega)
        · refine ih2 _ (by omega) (by omega) (fun r' b0 b1 => ?_) (fun k k0 k1 k2 k3 => ?_) (fun k k0 k1 k2 k3 => ?_)
          · have := a2 r' b0 b1
            exact b1 j (by omega) (hj1.mp q6) (by omega)
          · have := a3 k k0 k1 k2 (by omega)
            omega
          · by_cases c : k = j
            · rw [c]; omega
            · have := a4 k (by omega) k1 k2 (by omega)
              omega
end
