/-! The class's orders: ways, and the first. -/
section
variable {d : Nat} {P : Int → sM → sG → Prop} {PV : sM → sG → Prop} {M : sM} {G : sG} {S : Nat → Int}
theorem p8 {m : Nat} (h : m ≤ 8) : (2 : Nat) ^ m ≤ 256 := by
  have h3 : (2 : Nat) ^ 8 = 256 := by decide
  have := Nat.pow_le_pow_right (n := 2) (by decide) h
  omega
def pcc (n come : Nat) : Nat := (nS (pcF come) n).toNat
theorem pcc_b (n come : Nat) : nS (pcF come) n = ((pcc n come : Nat) : Int) ∧ pcc n come ≤ n := by
  have h1 := nS_ge0 (f := pcF come) (n := n) (fun i _ => by unfold pcF; split <;> decide)
  have h2 := nS_le (f := pcF come) (c := 1) (n := n) (fun i _ => by unfold pcF; split <;> decide)
  unfold pcc
  omega
theorem pcc_or {n come q : Nat} (hq : q < n) (h : ¬ come.testBit q = true) : pcc n (come ||| 2 ^ q) = pcc n come + 1 := by
  have a := pc_or h hq
  have b := pcc_b n come
  have c := pcc_b n (come ||| 2 ^ q)
  omega
def waR (S : Nat → Int) (n : Nat) (M : sM) (lo : Nat) : Prop := ∀ come : Nat, lo ≤ come → come < 2 ^ n → M 80 come = wY S n (n - pcc n come) come
theorem c150 (hd : 30 ≤ d) (hv : vTold S) (ht : TO 29 M S) (kk : ∀ N : sM, (∀ a, ¬ (78 ≤ a ∧ a ≤ 80) → N a = M a) → ahR S N → waR S (S 6).toNat N 0 → PV N G) : sC d 150 [vO 2 78, vO 9 29] M G (QV PV) := by
  obtain ⟨d, rfl⟩ := sD 22 (d := d) (by omega)
  have h6 := hv.2.1
  have h7 := hv.2.2.1
  have e7 : M 29 7 = S 6 := ht.1.2.1
  have e9 : M 29 9 = S 7 := ht.1.2.2.1
  have p2 := p8 (m := (S 6).toNat) (by omega)
  have p20 := Nat.two_pow_pos (S 6).toNat
  refine e150 (s150_0 (?_))
  rw [e7]
  refine c6 (by omega) (by decide) (by decide) ?_
  refine ?_
  have fl : ∀ a, a ≠ 79 → (sFill (sUpd M 78 3 (S 6)) 79 (8 : Int).toNat 0) a = (sUpd M 78 3 (S 6)) a := fun a ha => by
    funext i
    unfold sFill
    exact if_neg (fun z => ha z.1)
  have fz : ∀ q, q < 8 → (sFill (sUpd M 78 3 (S 6)) 79 (8 : Int).toNat 0) 79 q = 0 := fun q hq => by
    unfold sFill
    exact if_pos ⟨rfl, hq⟩
  have main : sW (sC (d + 21)) 150 (QV PV) 18 [vO 2 78, vO 9 29, vI ((0 : Nat) : Int), vN, vN] [] (sFill (sUpd M 78 3 (S 6)) 79 (8 : Int).toNat 0) G 0 0 := by
    refine sUpTo (W := fun f => ∀ N : sM, (∀ a, ¬ (78 ≤ a ∧ a ≤ 79) → N a = M a) → N 78 3 = S 6 → (∀ q : Nat, q < 8 → ∃ m : Nat, m < 256 ∧ N 79 q = (m : Int) ∧ ∀ p, m.testBit p = true ↔ (p : Int) < S 6 ∧ (q : Int) < S 6 ∧ ∃ f' : Nat, f' < f ∧ S (234 + (2 * (f' : Int))).toNat = wR S p ∧ S ((234 + (2 * (f' : Int))) + 1).toNat = wR S q) → sW (sC (d + 21)) 150 (QV PV) 18 [vO 2 78, vO 9 29, vI (f : Int), vN, vN] [] N G 0 0) (S 7).toNat ?_ ?_ _ (fun a ha => (fl a (by omega)).trans (sUpd_ne (by omega))) (by rw [fl 78 (by decide)]; exact sUpd_eq) (fun q hq => ⟨0, by decide, fz q hq, fun p => ⟨fun z => absurd z tb0, fun ⟨_, _, f', hf', _⟩ => absurd hf' (Nat.not_lt_zero f')⟩⟩)
    · intro N n1 n2 n3
      have e9b : N 29 9 = S 7 := by rw [n1 29 (by decide)]; exact e9
      have esh : iShl 1 (N 78 3) = ((2 ^ (S 6).toNat : Nat) : Int) := by rw [n2]; exact z_bit (by omega) (by omega)
      have ahN : ∀ N2 : sM, (∀ a, a ≠ 80 → N2 a = N a) → ahR S N2 := fun N2 h2 => ⟨by rw [h2 78 (by decide)]; exact n2, fun q hq => by
        obtain ⟨m, m0, m1, m2⟩ := n3 q hq
        refine ⟨m, m0, by rw [h2 79 (by decide)]; exact m1, fun p => ?_⟩
        rw [m2 p]
        unfold ahd
        constructor
        · rintro ⟨a1, a2, f, f1, f2⟩
          exact ⟨a1, a2, f, by omega, f2⟩
        · rintro ⟨a1, a2, f, f1, f2⟩
          exact ⟨a1, a2, f, by omega, f2⟩⟩
      have e1 : (iShl 1 (N 78 3)) - 1 = ((2 ^ (S 6).toNat - 1 : Nat) : Int) := by omega
      -- downwards
      have down : ∀ (k : Nat) (N2 : sM), k < 2 ^ (S 6).toNat → (∀ a, a ≠ 80 → N2 a = N a) → waR S (S 6).toNat N2 k → sW (sC (d + 21)) 150 (QV PV) 99 [vO 2 78, vN, vN, vI ((k : Int) - 1), vN] [] N2 G 0 0 := fun k => by
        induction k with
        | zero =>
          intro N2 hk a1 a2
          refine (s150_99 ⟨fun q1 => ?_, fun q2 => ⟨⟨(by first | omega | assumption | (refine ⟨?_, ?_⟩ <;> omega) | (simp_all; done)), (by first | omega | assumption | (refine ⟨?_, ?_⟩ <;> omega) | (simp_all; done))⟩, ?_⟩⟩)
          · exact kk N2 (fun a ha => (a1 a (by omega)).trans (n1 a (by omega))) (ahN N2 a1) a2
          all_goals omega
        | succ k ihk =>
          intro N2 hk a1 a2
          have ek : ((k + 1 : Nat) : Int) - 1 = (k : Int) := by omega
          rw [ek]
          have kn : ∀ q, k.testBit q = true → q < (S 6).toNat := fun q hq => by
            rcases Nat.lt_or_ge q (S 6).toNat with c | c
            · exact c
            · rw [Nat.testBit_lt_two_pow (Nat.lt_of_lt_of_le (show k < 2 ^ (S 6).toNat by omega) (Nat.pow_le_pow_right (by decide) c))] at hq
              exact absurd hq (by decide)
          have pcl : pcc (S 6).toNat k < (S 6).toNat := by
            rcases Nat.lt_or_ge (pcc (S 6).toNat k) (S 6).toNat with c | c
            · exact c
            · have hb := pcc_b (S 6).toNat k
              have hs : suB k (2 ^ (S 6).toNat - 1) := fun q hq => ones_b.mpr (kn q hq)
              have hz : ∃ i, i < (S 6).toNat ∧ ¬ k.testBit i = true := Classical.byContradiction fun z => by
                have : k = 2 ^ (S 6).toNat - 1 := suB.eq hs (fun q hq => Classical.byContradiction fun w => z ⟨q, ones_b.mp hq, w⟩)
                omega
              obtain ⟨i, i0, i1⟩ := hz
              have := nS_more (f := pcF k) (g := fun _ => 1) (n := (S 6).toNat) (fun j _ => by unfold pcF; split <;> decide) ⟨i, i0, by unfold pcF; rw [if_neg i1]; decide⟩
              have ones := nS_le (f := fun _ => (1 : Int)) (c := 1) (n := (S 6).toNat) (fun _ _ => Int.le_refl 1)
              omega
          have er : (S 6).toNat - pcc (S 6).toNat k = ((S 6).toNat - pcc (S 6).toNat k - 1) + 1 := by omega
          have inner : sW (sC (d + 21)) 150 (QV PV) 113 [vO 2 78, vN, vN, vI (k : Int), vI ((0 : Nat) : Int)] [] (sUpd N2 80 k 0) G 0 0 := by
            refine sUpTo (W := fun q => ∀ N3 : sM, (∀ a, a ≠ 80 → N3 a = N a) → (∀ come, come ≠ k → N3 80 come = N2 80 come) → N3 80 k = nS (fun q => if mayB S k q = true then wY S (S 6).toNat ((S 6).toNat - pcc (S 6).toNat k - 1) (k ||| 2 ^ q) else 0) q → sW (sC (d + 21)) 150 (QV PV) 113 [vO 2 78, vN, vN, vI (k : Int), vI (q : Int)] [] N3 G 0 0) (S 6).toNat ?_ ?_ _ (fun a ha => (sUpd_ne ha).trans (a1 a ha)) (fun come hne => sUpd_ni hne) sUpd_eq
            · intro N3 b1 b2 b3
              have e78 : N3 78 3 = S 6 := by rw [b1 78 (by decide)]; exact n2
              have nx := ihk N3 (by omega) b1 (fun come h1 h2 => by
                by_cases c : come = k
                · rw [c, b3, er]; rfl
                · rw [b2 come c]; exact a2 come (by omega) h2)
              refine (s150_113 ⟨fun q1 => ⟨⟨by omega, by omega⟩, ?_⟩, fun q2 => ?_⟩)
              · rw [show (k : Int) + (-1) = (k : Int) - 1 by omega]
                exact nx
              all_goals omega
            · intro q hq ih N3 b1 b2 b3
              have e78 : N3 78 3 = S 6 := by rw [b1 78 (by decide)]; exact n2
              have pq := p8 (m := q) (by omega)
              have esq : iShl 1 (q : Int) = ((2 ^ q : Nat) : Int) := z_bit (by omega) (by omega)
              have eo : iOr (k : Int) (iShl 1 (q : Int)) = ((k ||| 2 ^ q : Nat) : Int) := by rw [esq]; exact n_or (by omega) (by omega)
              have ol : k ||| 2 ^ q < 2 ^ (S 6).toNat := Nat.or_lt_two_pow (by omega) (Nat.pow_lt_pow_right (by decide) hq)
              have step := nS_st (f := fun q => if mayB S k q = true then wY S (S 6).toNat ((S 6).toNat - pcc (S 6).toNat k - 1) (k ||| 2 ^ q) else 0) (i := q) rfl
              have wb := wY_b (S := S) (n := (S 6).toNat) ((S 6).toNat - pcc (S 6).toNat k - 1) (k ||| 2 ^ q) (by omega)
              have gb : ∀ i, 0 ≤ (if mayB S k i = true then wY S (S 6).toNat ((S 6).toNat - pcc (S 6).toNat k - 1) (k ||| 2 ^ i) else 0) ∧ (if mayB S k i = true then wY S (S 6).toNat ((S 6).toNat - pcc (S 6).toNat k - 1) (k ||| 2 ^ i) else 0) ≤ ((8 ^ ((S 6).toNat - pcc (S 6).toNat k - 1) : Nat) : Int) := fun i => by
                have := wY_b (S := S) (n := (S 6).toNat) ((S 6).toNat - pcc (S 6).toNat k - 1) (k ||| 2 ^ i) (by omega)
                split <;> omega
              have h8 : (8 ^ ((S 6).toNat - pcc (S 6).toNat k - 1) : Nat) ≤ 2097152 := by
                have h3 : (8 : Nat) ^ 7 = 2097152 := by decide
                have := Nat.pow_le_pow_right (n := 8) (by decide) (show (S 6).toNat - pcc (S 6).toNat k - 1 ≤ 7 by omega)
                omega
              have sb := nS_le (f := fun q => if mayB S k q = true then wY S (S 6).toNat ((S 6).toNat - pcc (S 6).toNat k - 1) (k ||| 2 ^ q) else 0) (c := 2097152) (n := q) (fun i _ => by have := (gb i).2; omega)
              have sb0 := nS_ge0 (f := fun q => if mayB S k q = true then wY S (S 6).toNat ((S 6).toNat - pcc (S 6).toNat k - 1) (k ||| 2 ^ q) else 0) (n := q) (fun i _ => (gb i).1)
              have b3' : N3 80 ((k : Int)).toNat = nS (fun q => if mayB S k q = true then wY S (S 6).toNat ((S 6).toNat - pcc (S 6).toNat k - 1) (k ||| 2 ^ q) else 0) q := b3
              refine (s150_113 ⟨fun q1 => ⟨⟨by omega, by omega⟩, ?_⟩, fun q2 => ?_⟩)
              · omega
              · refine c151 (by omega) (by omega) (by omega) (ahN N3 b1) (fun z => ?_) (fun z => ?_)
                · have hm := (mayB_i.mp z).1
                  have gt : k < k ||| 2 ^ q := by
                    have h1 : k ≤ k ||| 2 ^ q := Nat.left_le_or
                    rcases Nat.lt_or_ge k (k ||| 2 ^ q) with c | c
                    · exact c
                    · have : k ||| 2 ^ q = k := by omega
                      have hb : (k ||| 2 ^ q).testBit q = true := or_tb.mpr (Or.inr rfl)
                      rw [this] at hb
                      exact absurd hb hm
                  have ew : N3 80 (iOr (k : Int) (iShl 1 (q : Int))).toNat = wY S (S 6).toNat ((S 6).toNat - pcc (S 6).toNat k - 1) (k ||| 2 ^ q) := by
                    rw [eo]
                    show N3 80 (k ||| 2 ^ q) = _
                    rw [b2 _ (by omega), a2 _ (by omega) ol, pcc_or hq hm]
                    rw [show (S 6).toNat - (pcc (S 6).toNat k + 1) = (S 6).toNat - pcc (S 6).toNat k - 1 by omega]
                  refine ⟨fun q3 => ⟨⟨by omega, by omega⟩, ?_⟩, fun q4 => ⟨⟨(by first | omega | assumption | (refine ⟨?_, ?_⟩ <;> omega) | (simp_all; done)), (by first | omega | assumption | (refine ⟨?_, ?_⟩ <;> omega) | (simp_all; done))⟩, ⟨(by first | omega | assumption | (refine ⟨?_, ?_⟩ <;> omega) | (simp_all; done)), (by first | omega | assumption | (refine ⟨?_, ?_⟩ <;> omega) | (simp_all; done))⟩, ⟨by omega, by omega⟩, ⟨by omega, by omega⟩, ?_⟩⟩
                  · omega
                  · refine ih _ (fun a ha => (sUpd_ne ha).trans (b1 a ha)) (fun come hne => (sUpd_ni hne).trans (b2 come hne)) ?_
                    rw [b3', ew, step]
                    show sUpd N3 80 k _ 80 k = _
                    rw [sUpd_eq, if_pos z]
                  all_goals omega
                · refine ⟨fun q3 => ⟨⟨by omega, by omega⟩, ?_⟩, fun q4 => ⟨⟨(by first | omega | assumption | (refine ⟨?_, ?_⟩ <;> omega) | (simp_all; done)), (by first | omega | assumption | (refine ⟨?_, ?_⟩ <;> omega) | (simp_all; done))⟩, ⟨(by first | omega | assumption | (refine ⟨?_, ?_⟩ <;> omega) | (simp_all; done)), (by first | omega | assumption | (refine ⟨?_, ?_⟩ <;> omega) | (simp_all; done))⟩, ⟨by omega, by omega⟩, ⟨by omega, by omega⟩, ?_⟩⟩
                  · refine ih N3 b1 b2 ?_
                    rw [b3, step, if_neg z, Int.add_zero]
                  all_goals omega
          refine (s150_99 ⟨fun q1 => ?_, fun q2 => ⟨⟨(by first | omega | assumption | (refine ⟨?_, ?_⟩ <;> omega) | (simp_all; done)), (by first | omega | assumption | (refine ⟨?_, ?_⟩ <;> omega) | (simp_all; done))⟩, ?_⟩⟩)
          · omega
          · exact inner
          all_goals omega
      refine (s150_18 ⟨fun q1 => ⟨⟨by omega, by omega⟩, ⟨(by first | omega | assumption | (refine ⟨?_, ?_⟩ <;> omega) | (simp_all; done)), (by first | omega | assumption | (refine ⟨?_, ?_⟩ <;> omega) | (simp_all; done))⟩, ⟨by omega, by omega⟩, ?_⟩, fun q2 => ⟨⟨(by first | omega | assumption | (refine ⟨?_, ?_⟩ <;> omega) | (simp_all; done)), (by first | omega | assumption | (refine ⟨?_, ?_⟩ <;> omega) | (simp_all; done))⟩, ?_⟩⟩)
      · rw [e1]
        have hb := pcc_b (S 6).toNat (2 ^ (S 6).toNat - 1)
        have full : pcc (S 6).toNat (2 ^ (S 6).toNat - 1) = (S 6).toNat := by
          have : nS (pcF (2 ^ (S 6).toNat - 1)) (S 6).toNat = nS (fun _ => 1) (S 6).toNat := nS_congr (fun i hi => by unfold pcF; rw [if_pos (ones_b.mpr hi)])
          have ones : ∀ m : Nat, nS (fun _ => (1 : Int)) m = (m : Int) := fun m => by
            induction m with
            | zero => rfl
            | succ m ih => show nS (fun _ => (1 : Int)) m + 1 = _; rw [ih]; omega
          rw [ones] at this
          omega
        have dn := down (2 ^ (S 6).toNat - 1) (sUpd N 80 (2 ^ (S 6).toNat - 1) 1) (by omega) (fun a ha => sUpd_ne ha) (fun come h1 h2 => by
          rw [show come = 2 ^ (S 6).toNat - 1 by omega, full, Nat.sub_self]
          exact sUpd_eq)
        exact dn
      all_goals omega
    · intro f hf ih N n1 n2 n3
      have e9b : N 29 9 = S 7 := by rw [n1 29 (by decide)]; exact e9
      have tN : TO 29 N S := ht.congr (fun a r1 r2 => n1 a (by omega))
      have fa : N 37 ((f : Int)).toNat = S (234 + (2 * (f : Int))).toNat := (tN.2.2.2.2.1 (f : Int) (by omega) (by omega)).1
      have fb : N 38 ((f : Int)).toNat = S ((234 + (2 * (f : Int))) + 1).toNat := (tN.2.2.2.2.1 (f : Int) (by omega) (by omega)).2
      -- a fact of which one is not there
      have skip : (∀ p q : Nat, (p : Int) < S 6 → (q : Int) < S 6 → S (234 + (2 * (f : Int))).toNat = wR S p → S ((234 + (2 * (f : Int))) + 1).toNat = wR S q → False) → sW (sC (d + 21)) 150 (QV PV) 18 [vO 2 78, vO 9 29, vI ((f + 1 : Nat) : Int), vN, vN] [] N G 0 0 := fun hno => ih N n1 n2 (fun q hq => by
        obtain ⟨m, m0, m1, m2⟩ := n3 q hq
        refine ⟨m, m0, m1, fun p => ?_⟩
        rw [m2 p]
        constructor
        · rintro ⟨a1, a2, f', f1, f2⟩
          exact ⟨a1, a2, f', by omega, f2⟩
        · rintro ⟨a1, a2, f', f1, f2⟩
          by_cases c : f' = f
          · rw [c] at f2; exact (hno p q a1 a2 f2.1 f2.2).elim
          · exact ⟨a1, a2, f', by omega, f2⟩)
      refine (s150_18 ⟨fun q1 => ⟨⟨by omega, by omega⟩, ⟨(by first | omega | assumption | (refine ⟨?_, ?_⟩ <;> omega) | (simp_all; done)), (by first | omega | assumption | (refine ⟨?_, ?_⟩ <;> omega) | (simp_all; done))⟩, ⟨by omega, by omega⟩, ?_⟩, fun q2 => ⟨⟨(by first | omega | assumption | (refine ⟨?_, ?_⟩ <;> omega) | (simp_all; done)), (by first | omega | assumption | (refine ⟨?_, ?_⟩ <;> omega) | (simp_all; done))⟩, ?_⟩⟩)
      · omega
      · rw [fa]
        refine c147 (S := S) (by omega) hv tN (fun p hp e1 => ?_) (fun hno1 => ?_)
        · rw [fb]
          refine c147 (S := S) (by omega) hv tN (fun q hq e2 => ?_) (fun hno2 => ?_)
          · refine ⟨fun q3 => ⟨⟨by omega, by omega⟩, ?_⟩, fun q4 => ⟨fun q5 => ⟨⟨by omega, by omega⟩, ?_⟩, fun q6 => ⟨⟨(by first | omega | assumption | (refine ⟨?_, ?_⟩ <;> omega) | (simp_all; done)), (by first | omega | assumption | (refine ⟨?_, ?_⟩ <;> omega) | (simp_all; done))⟩, ⟨by omega, by omega⟩, ?_⟩⟩⟩
            · omega
            · omega
            · obtain ⟨m, m0, m1, m2⟩ := n3 q (by omega)
              have m1' : N 79 ((q : Int)).toNat = (m : Int) := m1
              have esp : iShl 1 (p : Int) = ((2 ^ p : Nat) : Int) := z_bit (by omega) (by omega)
              have pp := p8 (m := p) (by omega)
              have eo : iOr (N 79 ((q : Int)).toNat) (iShl 1 (p : Int)) = ((m ||| 2 ^ p : Nat) : Int) := by rw [m1', esp]; exact n_or (by omega) (by omega)
              rw [eo]
              refine ih _ (fun a ha => (sUpd_ne (by omega)).trans (n1 a ha)) (by rw [sUpd_ne (by decide)]; exact n2) (fun q' hq' => ?_)
              by_cases c : q' = q
              · rw [c]
                refine ⟨m ||| 2 ^ p, Nat.or_lt_two_pow (n := 8) m0 (Nat.pow_lt_pow_right (by decide) (by omega)), sUpd_eq, fun p' => ?_⟩
                rw [or_tb, m2 p']
                constructor
                · rintro (⟨a1, a2, f', f1, f2⟩ | h)
                  · exact ⟨a1, a2, f', by omega, f2⟩
                  · rw [← h]; exact ⟨hp, hq, f, by omega, e1.symm, e2.symm⟩
                · rintro ⟨a1, a2, f', f1, f2⟩
                  by_cases c2 : f' = f
                  · rw [c2] at f2
                    exact Or.inr (row_inj hv hp a1 (e1.trans f2.1))
                  · exact Or.inl ⟨a1, a2, f', by omega, f2⟩
              · obtain ⟨m', m0', m1'', m2'⟩ := n3 q' hq'
                refine ⟨m', m0', (sUpd_ni c).trans m1'', fun p' => ?_⟩
                rw [m2' p']
                constructor
                · rintro ⟨a1, a2, f', f1, f2⟩
                  exact ⟨a1, a2, f', by omega, f2⟩
                · rintro ⟨a1, a2, f', f1, f2⟩
                  by_cases c2 : f' = f
                  · rw [c2] at f2
                    exact absurd (row_inj hv a2 hq (f2.2.symm.trans e2.symm)) c
                  · exact ⟨a1, a2, f', by omega, f2⟩
            all_goals omega
          · refine ⟨fun q3 => ⟨⟨by omega, by omega⟩, ?_⟩, fun q4 => ⟨fun q5 => ⟨⟨by omega, by omega⟩, ?_⟩, fun q6 => ⟨⟨(by first | omega | assumption | (refine ⟨?_, ?_⟩ <;> omega) | (simp_all; done)), (by first | omega | assumption | (refine ⟨?_, ?_⟩ <;> omega) | (simp_all; done))⟩, ⟨by omega, by omega⟩, ?_⟩⟩⟩
            · omega
            · exact skip (fun p q _ a2 _ f2 => hno2 q a2 f2.symm)
            all_goals omega
        · rw [fb]
          refine c147 (S := S) (by omega) hv tN (fun q hq e2 => ?_) (fun hno2 => ?_)
          · refine ⟨fun q3 => ⟨⟨by omega, by omega⟩, ?_⟩, fun q4 => ⟨fun q5 => ⟨⟨by omega, by omega⟩, ?_⟩, fun q6 => ⟨⟨(by first | omega | assumption | (refine ⟨?_, ?_⟩ <;> omega) | (simp_all; done)), (by first | omega | assumption | (refine ⟨?_, ?_⟩ <;> omega) | (simp_all; done))⟩, ⟨by omega, by omega⟩, ?_⟩⟩⟩
            · exact skip (fun p q a1 _ f1 _ => hno1 p a1 f1.symm)
            all_goals omega
          · refine ⟨fun q3 => ⟨⟨by omega, by omega⟩, ?_⟩, fun q4 => ⟨fun q5 => ⟨⟨by omega, by omega⟩, ?_⟩, fun q6 => ⟨⟨(by first | omega | assumption | (refine ⟨?_, ?_⟩ <;> omega) | (simp_all; done)), (by first | omega | assumption | (refine ⟨?_, ?_⟩ <;> omega) | (simp_all; done))⟩, ⟨by omega, by omega⟩, ?_⟩⟩⟩
            · exact skip (fun p q a1 _ f1 _ => hno1 p a1 f1.symm)
            all_goals omega
      all_goals omega
  exact main
end
