/-! HOW LONG A RING THROUGH ONE IS. -/
section
variable {nd : Nat → Nat} {p : Nat}
theorem rA_mono {L : Nat} : ∀ {k : Nat}, suB (rA nd p L) (rA nd p (L + k))
  | 0 => fun _ h => h
  | k + 1 => fun i h => by
    have h1 := rA_mono (L := L) (k := k) i h
    rcases Nat.eq_zero_or_pos (L + k) with e | e
    · rw [e] at h1
      have h2 : (0 : Nat).testBit i = true := h1
      rw [Nat.zero_testBit] at h2
      exact absurd h2 (by decide)
    · obtain ⟨n, hn⟩ : ∃ n, L + k = n + 1 := ⟨L + k - 1, by omega⟩
      rw [hn] at h1
      rw [show L + (k + 1) = n + 2 by omega]
      exact rA_up n i h1
theorem rA_le {L L' : Nat} (h : L ≤ L') : suB (rA nd p L) (rA nd p L') := by
  have := rA_mono (nd := nd) (p := p) (L := L) (k := L' - L)
  rw [show L + (L' - L) = L' by omega] at this
  exact this
theorem rA_end {L : Nat} (h : clM nd (rA nd p (L + 1))) : ∀ k : Nat, rA nd p (L + 1 + k) = rA nd p (L + 1)
  | 0 => rfl
  | k + 1 => by
    have ih := rA_end h k
    have h2 : rA nd p (L + k + 2) = rA nd p (L + k + 1) := rA_stay (by rw [show L + k + 1 = L + 1 + k by omega, ih]; exact h)
    rw [show L + 1 + (k + 1) = L + k + 2 by omega, h2, show L + k + 1 = L + 1 + k by omega, ih]
def isL (nd : Nat → Nat) (p : Nat) (r : Int) : Prop := (r = 0 ∧ ¬ onR nd p) ∨ (1 ≤ r ∧ r ≤ 12 ∧ (rA nd p r.toNat).testBit p = true ∧ ∀ L : Nat, (L : Int) < r → ¬ (rA nd p L).testBit p = true)
theorem isL.uniq {r r' : Int} (h : isL nd p r) (h' : isL nd p r') : r = r' := by
  have key : ∀ {a b : Int}, (a = 0 ∧ ¬ onR nd p) → (1 ≤ b ∧ b ≤ 12 ∧ (rA nd p b.toNat).testBit p = true ∧ ∀ L : Nat, (L : Int) < b → ¬ (rA nd p L).testBit p = true) → False := fun h1 h2 => h1.2 (rA_le (by omega) p h2.2.2.1)
  rcases h with h | h <;> rcases h' with h' | h'
  · omega
  · exact (key h h').elim
  · exact (key h' h).elim
  · rcases Int.lt_trichotomy r r' with z | z | z
    · exact absurd h.2.2.1 (h'.2.2.2 r.toNat (by omega))
    · exact z
    · exact absurd h'.2.2.1 (h.2.2.2 r'.toNat (by omega))
theorem isL.b {r : Int} (h : isL nd p r) : 0 ≤ r ∧ r ≤ 12 := by rcases h with h | h <;> omega
theorem isL.on {r : Int} (h : isL nd p r) : 0 < r ↔ onR nd p := by
  rcases h with h | h
  · exact ⟨fun z => by omega, fun z => absurd z h.2⟩
  · exact ⟨fun _ => rA_le (by omega) p h.2.2.1, fun _ => by omega⟩
end
section
variable {d : Nat} {P : Int → sM → sG → Prop} {PV : sM → sG → Prop} {M : sM} {G : sG} {nd : Nat → Nat}
theorem nb_bit {nd : Nat → Nat} {X k q : Nat} : (nbN nd X (k + 1)).testBit q = true ↔ (nbN nd X k).testBit q = true ∨ (X.testBit k = true ∧ (nd k).testBit q = true) := by
  show (nbN nd X k ||| (if X.testBit k then nd k else 0)).testBit q = true ↔ _
  rw [Nat.testBit_or, Bool.or_eq_true]
  by_cases c : X.testBit k = true
  · rw [if_pos c]; exact ⟨fun h => h.elim Or.inl (fun z => Or.inr ⟨c, z⟩), fun h => h.elim Or.inl (fun z => Or.inr z.2)⟩
  · rw [if_neg c, Nat.zero_testBit]; exact ⟨fun h => h.elim Or.inl (fun z => absurd z (by decide)), fun h => h.elim Or.inl (fun z => absurd z.1 c)⟩
theorem or_12 {a b : Nat} (ha : a < 4096) (hb : b < 4096) : iOr (a : Int) (b : Int) = ((a ||| b : Nat) : Int) ∧ a ||| b < 4096 := ⟨n_or (by omega) (by omega), Nat.or_lt_two_pow (n := 12) ha hb⟩
theorem has_12 {a k : Nat} (ha : a < 4096) (hk : k < 12) : iAnd (iShr (a : Int) (k : Int)) 1 = 1 ↔ a.testBit k = true := z_has1 (by omega) (by omega) (by omega) (by omega)
theorem c140 {p : Int} (hd : 10 ≤ d) (hn : ∀ s, s < 12 → nd s < 4096) (hm : ∀ k : Nat, k < 12 → M 77 k = ((nd k : Nat) : Int)) (h0 : 0 ≤ p) (h1 : p < 12) (kk : ∀ r : Int, isL nd p.toNat r → P r M G) : sC d 140 [vO 5 76, vI p] M G (QI P) := by
  obtain ⟨d, rfl⟩ := sD 3 (d := d) (by omega)
  obtain ⟨a, rfl⟩ : ∃ a : Nat, p = (a : Int) := ⟨p.toNat, z_nat h0⟩
  have kk' : ∀ r : Int, isL nd a r → P r M G := kk
  have em : M 77 ((a : Int)).toNat = ((nd a : Nat) : Int) := hm a (by omega)
  have lt := rA_lt hn (show a < 12 by omega)
  refine e140 (s140_0 ⟨⟨(by first | omega | assumption | (refine ⟨?_, ?_⟩ <;> omega) | (simp_all; done)), (by first | omega | assumption | (refine ⟨?_, ?_⟩ <;> omega) | (simp_all; done))⟩, ?_⟩)
  · rw [em]
    refine sUpTo (W := fun i => (∀ L : Nat, L < i + 1 → ¬ (rA nd a L).testBit a = true) → sW (sC (d + 2)) 140 (QI P) 9 [vO 5 76, vI (a : Int), vI ((rA nd a (i + 1) : Nat) : Int), vI ((i : Int) + 1), vN, vN] [] M G 0 0) 12 ?_ ?_ (fun L hL z => by
      have : L = 0 := by omega
      subst this
      have z' : (0 : Nat).testBit a = true := z
      rw [Nat.zero_testBit] at z'
      exact absurd z' (by decide))
    · intro hz
      refine (s140_9 ⟨fun q1 => ?_, fun q2 => ⟨fun q3 => ?_, fun q4 => ?_⟩⟩)
      · exact kk' 0 (Or.inl ⟨rfl, hz 12 (by omega)⟩)
      all_goals omega
    · intro i hi ih hz
      have lt1 := lt (i + 1)
      have hh := has_12 lt1 (show a < 12 by omega)
      have cl0 : rA nd a (i + 2) = rA nd a (i + 1) → ¬ (rA nd a (i + 1)).testBit a = true → P 0 M G := fun e hna => kk' 0 (Or.inl ⟨rfl, fun z => by
        have z' : (rA nd a 12).testBit a = true := z
        have e2 := rA_end (rA_cl e) (11 - i)
        rw [show i + 1 + (11 - i) = 12 by omega] at e2
        rw [e2] at z'
        exact hna z'⟩)
      refine (s140_9 ⟨fun q1 => ?_, fun q2 => ⟨fun q3 => ?_, fun q4 => ?_⟩⟩)
      · omega
      · have hna : ¬ (rA nd a (i + 1)).testBit a = true := fun z => q3 (hh.mpr z)
        refine sUpTo (W := fun j => ∀ x : Nat, x < 4096 → (∀ q : Nat, x.testBit q = true ↔ (rA nd a (i + 1)).testBit q = true ∨ (nbN nd (rA nd a (i + 1)) j).testBit q = true) → sW (sC (d + 2)) 140 (QI P) 32 [vO 5 76, vI (a : Int), vI ((rA nd a (i + 1) : Nat) : Int), vI ((i : Int) + 1), vI (x : Int), vI (j : Int)] [] M G 0 0) 12 ?_ ?_ (rA nd a (i + 1)) lt1 (fun q => ⟨Or.inl, fun z => z.elim id (fun y => by
          have y' : (0 : Nat).testBit q = true := y
          rw [Nat.zero_testBit] at y'
          exact absurd y' (by decide))⟩)
        · intro x x0 x1
          have ex : x = rA nd a (i + 2) := Nat.eq_of_testBit_eq (fun q => by
            have w : (rA nd a (i + 2)).testBit q = ((rA nd a (i + 1)).testBit q || (nbN nd (rA nd a (i + 1)) 12).testBit q) := by
              show (rA nd a (i + 1) ||| nbN nd (rA nd a (i + 1)) 12).testBit q = _
              rw [Nat.testBit_or]
            have := x1 q
            rw [w]
            rw [← Bool.or_eq_true] at this
            exact Bool.eq_iff_iff.mpr this)
          refine (s140_32 ⟨fun q1 => ⟨fun q2 => ⟨⟨by omega, by omega⟩, ?_⟩, fun q3 => ?_⟩, fun q4 => ⟨fun q5 => ⟨⟨by omega, by omega⟩, ?_⟩, fun q6 => ⟨⟨(by first | omega | assumption | (refine ⟨?_, ?_⟩ <;> omega) | (simp_all; done)), (by first | omega | assumption | (refine ⟨?_, ?_⟩ <;> omega) | (simp_all; done))⟩, ⟨by omega, by omega⟩, ?_⟩⟩⟩)
          · have nx := ih (fun L hL => by
              by_cases c : L = i + 1
              · rw [c]; exact hna
              · exact hz L (by omega))
            rw [ex]
            rw [show ((i + 1 : Nat) : Int) + 1 = (i : Int) + 1 + 1 by omega] at nx
            exact nx
          · exact cl0 (by omega) hna
          all_goals omega
        · intro j hj ih2 x x0 x1
          have hj1 := has_12 lt1 hj
          have ej : M 77 ((j : Int)).toNat = ((nd j : Nat) : Int) := hm j hj
          obtain ⟨o1, o2⟩ := or_12 x0 (hn j hj)
          refine (s140_32 ⟨fun q1 => ⟨fun q2 => ⟨⟨by omega, by omega⟩, ?_⟩, fun q3 => ?_⟩, fun q4 => ⟨fun q5 => ⟨⟨by omega, by omega⟩, ?_⟩, fun q6 => ⟨⟨(by first | omega | assumption | (refine ⟨?_, ?_⟩ <;> omega) | (simp_all; done)), (by first | omega | assumption | (refine ⟨?_, ?_⟩ <;> omega) | (simp_all; done))⟩, ⟨by omega, by omega⟩, ?_⟩⟩⟩)
          · omega
          · omega
          · refine ih2 x x0 (fun q => ?_)
            rw [nb_bit, x1 q]
            exact ⟨fun h => h.elim Or.inl (fun z => Or.inr (Or.inl z)), fun h => h.elim Or.inl (fun z => z.elim Or.inr (fun y => absurd (hj1.mpr y.1) q5))⟩
          · rw [ej, o1]
            refine ih2 _ o2 (fun q => ?_)
            rw [nb_bit, Nat.testBit_or, Bool.or_eq_true, x1 q]
            have hj2 := hj1.mp q6
            exact ⟨fun h => h.elim (fun w => w.elim Or.inl (fun z => Or.inr (Or.inl z))) (fun z => Or.inr (Or.inr ⟨hj2, z⟩)), fun h => h.elim (fun z => Or.inl (Or.inl z)) (fun z => z.elim (fun y => Or.inl (Or.inr y)) (fun y => Or.inr y.2))⟩
      · refine kk' _ (Or.inr ⟨by omega, by omega, ?_, fun L hL => hz L (by omega)⟩)
        rw [show ((i : Int) + 1).toNat = i + 1 by omega]
        exact hh.mp q4
  all_goals omega
theorem c260 {p : Int} (hd : 10 ≤ d) (hn : ∀ s, s < 12 → nd s < 4096) (hm : ∀ k : Nat, k < 12 → M 101 k = ((nd k : Nat) : Int)) (h0 : 0 ≤ p) (h1 : p < 12) (kk : ∀ r : Int, isL nd p.toNat r → P r M G) : sC d 260 [vO 12 82, vI p] M G (QI P) := by
  obtain ⟨d, rfl⟩ := sD 3 (d := d) (by omega)
  obtain ⟨a, rfl⟩ : ∃ a : Nat, p = (a : Int) := ⟨p.toNat, z_nat h0⟩
  have kk' : ∀ r : Int, isL nd a r → P r M G := kk
  have em : M 101 ((a : Int)).toNat = ((nd a : Nat) : Int) := hm a (by omega)
  have lt := rA_lt hn (show a < 12 by omega)
  have z0 : ∀ q : Nat, ¬ (0 : Nat).testBit q = true := fun q => by rw [Nat.zero_testBit]; decide
  refine e260 (s260_0 ⟨⟨(by first | omega | assumption | (refine ⟨?_, ?_⟩ <;> omega) | (simp_all; done)), (by first | omega | assumption | (refine ⟨?_, ?_⟩ <;> omega) | (simp_all; done))⟩, ?_⟩)
  · rw [em]
    refine sUpTo (W := fun i => ∀ e : Nat, e < 4096 → (∀ q : Nat, (rA nd a (i + 1)).testBit q = true ↔ (rA nd a i).testBit q = true ∨ e.testBit q = true) → (∀ q : Nat, e.testBit q = true → ¬ (rA nd a i).testBit q = true) → (∀ L : Nat, L < i + 1 → ¬ (rA nd a L).testBit a = true) → sW (sC (d + 2)) 260 (QI P) 12 [vO 12 82, vI (a : Int), vI ((rA nd a i : Nat) : Int), vI (e : Int), vI ((i : Int) + 1), vN, vN] [] M G 0 0) 12 ?_ ?_ (nd a) (hn a (by omega)) (fun q => ⟨Or.inr, fun z => z.elim (fun y => absurd y (z0 q)) id⟩) (fun q _ => z0 q) (fun L hL => by
      have : L = 0 := by omega
      subst this
      exact z0 a)
    · intro e e0 e1 e2 hz
      refine (s260_12 ⟨fun q1 => ?_, fun q2 => ⟨fun q3 => ?_, fun q4 => ⟨fun q5 => ?_, fun q6 => ?_⟩⟩⟩)
      · exact kk' 0 (Or.inl ⟨rfl, hz 12 (by omega)⟩)
      all_goals omega
    · intro i hi ih e e0 e1 e2 hz
      have lt1 := lt (i + 1)
      have lt0 := lt i
      have hh := has_12 e0 (show a < 12 by omega)
      have nrow : nbN nd (rA nd a (i + 1)) 12 = nbN nd (rA nd a (i + 1)) 12 := rfl
      -- what those ahead of the edge need is seen
      have old : ∀ s q : Nat, s < 12 → (rA nd a i).testBit s = true → (nd s).testBit q = true → (rA nd a (i + 1)).testBit q = true := fun s q s0 s1 s2 => by
        match i, s1 with
        | 0, s1 => exact absurd s1 (z0 s)
        | k + 1, s1 =>
          show (rA nd a (k + 1) ||| nbN nd (rA nd a (k + 1)) 12).testBit q = true
          rw [Nat.testBit_or, Bool.or_eq_true]
          exact Or.inr (nbN_bit.mpr ⟨s, s0, s1, s2⟩)
      have ebit : ∀ q : Nat, (rA nd a (i + 2)).testBit q = true ↔ (rA nd a (i + 1)).testBit q = true ∨ (nbN nd e 12).testBit q = true := fun q => by
        show (rA nd a (i + 1) ||| nbN nd (rA nd a (i + 1)) 12).testBit q = true ↔ _
        rw [Nat.testBit_or, Bool.or_eq_true]
        constructor
        · rintro (z | z)
          · exact Or.inl z
          · obtain ⟨s, s0, s1, s2⟩ := nbN_bit.mp z
            rcases (e1 s).mp s1 with y | y
            · exact Or.inl (old s q s0 y s2)
            · exact Or.inr (nbN_bit.mpr ⟨s, s0, y, s2⟩)
        · rintro (z | z)
          · exact Or.inl z
          · obtain ⟨s, s0, s1, s2⟩ := nbN_bit.mp z
            exact Or.inr (nbN_bit.mpr ⟨s, s0, (e1 s).mpr (Or.inr s1), s2⟩)
      refine (s260_12 ⟨fun q1 => ?_, fun q2 => ⟨fun q3 => ?_, fun q4 => ⟨fun q5 => ?_, fun q6 => ?_⟩⟩⟩)
      · omega
      · have e00 : e = 0 := by omega
        refine kk' 0 (Or.inl ⟨rfl, fun z => ?_⟩)
        have z' : (rA nd a 12).testBit a = true := z
        have ee : rA nd a (i + 1) = rA nd a i := Nat.eq_of_testBit_eq (fun q => by
          have := e1 q
          rw [e00] at this
          exact Bool.eq_iff_iff.mpr ⟨fun y => (this.mp y).elim id (fun w => absurd w (z0 q)), fun y => this.mpr (Or.inl y)⟩)
        have cl : clM nd (rA nd a (i + 1)) := fun s s0 s1 q s2 => old s q s0 (by rw [← ee]; exact s1) s2
        have e3 := rA_end cl (11 - i)
        rw [show i + 1 + (11 - i) = 12 by omega, ee] at e3
        rw [e3] at z'
        exact hz i (by omega) z'
      · have hna : ¬ e.testBit a = true := fun z => q5 (hh.mpr z)
        obtain ⟨o1, o2⟩ := or_12 lt0 e0
        have es : rA nd a i ||| e = rA nd a (i + 1) := Nat.eq_of_testBit_eq (fun q => by
          rw [Nat.testBit_or]
          have := e1 q
          rw [← Bool.or_eq_true] at this
          exact (Bool.eq_iff_iff.mpr this).symm)
        rw [o1, es]
        refine sUpTo (W := fun j => sW (sC (d + 2)) 260 (QI P) 44 [vO 12 82, vI (a : Int), vI ((rA nd a (i + 1) : Nat) : Int), vI (e : Int), vI ((i : Int) + 1), vI ((nbN nd e j : Nat) : Int), vI (j : Int)] [] M G 0 0) 12 ?_ ?_
        · have ln := nbN_lt hn e (Nat.le_refl 12)
          have ed : iAnd ((nbN nd e 12 : Nat) : Int) (iXor ((rA nd a (i + 1) : Nat) : Int) (-1)) = ((nbN nd e 12 &&& (nbN nd e 12 ^^^ rA nd a (i + 1)) : Nat) : Int) := n_dif (by omega)
          have l2 : nbN nd e 12 &&& (nbN nd e 12 ^^^ rA nd a (i + 1)) ≤ nbN nd e 12 := Nat.and_le_left
          have nx := ih _ (by omega : nbN nd e 12 &&& (nbN nd e 12 ^^^ rA nd a (i + 1)) < 4096) (fun q => by
            rw [bit_dif, ebit q, Bool.and_eq_true, Bool.not_eq_true']
            cases h : (rA nd a (i + 1)).testBit q
            · exact ⟨fun w => w.elim Or.inl (fun y => Or.inr ⟨y, rfl⟩), fun w => w.elim Or.inl (fun y => Or.inr y.1)⟩
            · exact ⟨fun _ => Or.inl rfl, fun _ => Or.inl rfl⟩) (fun q hq => by
            rw [bit_dif, Bool.and_eq_true, Bool.not_eq_true'] at hq
            rw [hq.2]; decide) (fun L hL => by
            by_cases c : L = i + 1
            · rw [c]
              exact fun y => ((e1 a).mp y).elim (hz i (by omega)) hna
            · exact hz L (by omega))
          rw [show ((i + 1 : Nat) : Int) + 1 = (i : Int) + 1 + 1 by omega] at nx
          refine (s260_44 ⟨fun q1 => ⟨⟨by omega, by omega⟩, ?_⟩, fun q2 => ⟨fun q3 => ⟨⟨by omega, by omega⟩, ?_⟩, fun q4 => ⟨⟨(by first | omega | assumption | (refine ⟨?_, ?_⟩ <;> omega) | (simp_all; done)), (by first | omega | assumption | (refine ⟨?_, ?_⟩ <;> omega) | (simp_all; done))⟩, ⟨by omega, by omega⟩, ?_⟩⟩⟩)
          · rw [ed]; exact nx
          all_goals omega
        · intro j hj ih2
          have hj1 := has_12 e0 hj
          have ej : M 101 ((j : Int)).toNat = ((nd j : Nat) : Int) := hm j hj
          have ln := nbN_lt hn e (k := j) (by omega)
          obtain ⟨o3, o4⟩ := or_12 ln (hn j hj)
          refine (s260_44 ⟨fun q1 => ⟨⟨by omega, by omega⟩, ?_⟩, fun q2 => ⟨fun q3 => ⟨⟨by omega, by omega⟩, ?_⟩, fun q4 => ⟨⟨(by first | omega | assumption | (refine ⟨?_, ?_⟩ <;> omega) | (simp_all; done)), (by first | omega | assumption | (refine ⟨?_, ?_⟩ <;> omega) | (simp_all; done))⟩, ⟨by omega, by omega⟩, ?_⟩⟩⟩)
          · omega
          · rw [or_no ln]
            have : nbN nd e (j + 1) = nbN nd e j := by
              show nbN nd e j ||| (if e.testBit j then nd j else 0) = _
              rw [if_neg (fun z => q3 (hj1.mpr z)), Nat.or_zero]
            rw [← this]; exact ih2
          · rw [ej, o3]
            have : nbN nd e (j + 1) = nbN nd e j ||| nd j := by
              show nbN nd e j ||| (if e.testBit j then nd j else 0) = _
              rw [if_pos (hj1.mp q4)]
            rw [← this]; exact ih2
      · refine kk' _ (Or.inr ⟨by omega, by omega, ?_, fun L hL => hz L (by omega)⟩)
        rw [show ((i : Int) + 1).toNat = i + 1 by omega]
        exact (e1 a).mpr (Or.inr (hh.mp q6))
  all_goals omega
end
