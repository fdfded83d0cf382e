/-! The class puts the stays of a house in order. -/
def stA (S : Nat → Int) (a b : Nat) : Prop := tO S a 3 < tO S b 3 ∨ (tO S a 3 = tO S b 3 ∧ tO S b 2 < tO S a 2)
theorem leO.trans {S : Nat → Int} {a b c : Nat} (h : leO S a b) (h' : leO S b c) : leO S a c := by unfold leO at *; omega
theorem stA.le {S : Nat → Int} {a b : Nat} (h : stA S a b) : leO S a b := by unfold leO stA at *; omega
theorem leO.of {S : Nat → Int} {a b : Nat} (h : ¬ stA S a b) : leO S b a := by unfold leO stA at *; omega
def insF (od : Nat → Nat) (at' s : Nat) : Nat → Nat := fun i => if i < at' then od i else if i = at' then s else od (i - 1)
theorem insF_l {od : Nat → Nat} {at' s i : Nat} (h : i < at') : insF od at' s i = od i := if_pos h
theorem insF_a {od : Nat → Nat} {at' s : Nat} : insF od at' s at' = s := by unfold insF; rw [if_neg (by omega), if_pos rfl]
theorem insF_r {od : Nat → Nat} {at' s i : Nat} (h : at' < i) : insF od at' s i = od (i - 1) := by unfold insF; rw [if_neg (by omega), if_neg (by omega)]
theorem ins_srt {S : Nat → Int} {od : Nat → Nat} {m at' s : Nat} (hs : srt S od m) (ha : at' ≤ m) (h1 : s < 18 ∧ tO S s 2 < tO S s 3) (h2 : ∀ i, i < m → od i ≠ s) (h3 : at' = 0 ∨ ¬ stA S s (od (at' - 1))) (h4 : ∀ i, at' ≤ i → i < m → stA S s (od i)) : srt S (insF od at' s) (m + 1) := by
  refine ⟨fun i hi => ?_, fun i j hij hj => ?_, fun i j hi hj e => ?_⟩
  · rcases Nat.lt_trichotomy i at' with c | c | c
    · rw [insF_l c]; exact hs.1 i (by omega)
    · rw [c, insF_a]; exact h1
    · rw [insF_r c]; exact hs.1 (i - 1) (by omega)
  · have lo : ∀ i, i < at' → leO S (od i) s := fun i hi => by
      have h5 := leO.of (h3.resolve_left (by omega))
      by_cases c : i = at' - 1
      · rw [c]; exact h5
      · exact (hs.2.1 i (at' - 1) (by omega) (by omega)).trans h5
    rcases Nat.lt_trichotomy i at' with c | c | c
    · rw [insF_l c]
      rcases Nat.lt_trichotomy j at' with e | e | e
      · rw [insF_l e]; exact hs.2.1 i j hij (by omega)
      · rw [e, insF_a]; exact lo i c
      · rw [insF_r e]; exact hs.2.1 i (j - 1) (by omega) (by omega)
    · rw [c, insF_a, insF_r (by omega)]
      exact (h4 (j - 1) (by omega) (by omega)).le
    · rw [insF_r c, insF_r (by omega)]
      exact hs.2.1 (i - 1) (j - 1) (by omega) (by omega)
  · rcases Nat.lt_trichotomy i at' with c | c | c
    · rw [insF_l c] at e
      rcases Nat.lt_trichotomy j at' with c2 | c2 | c2
      · rw [insF_l c2] at e; exact hs.2.2 i j (by omega) (by omega) e
      · rw [c2, insF_a] at e; exact absurd e (h2 i (by omega))
      · rw [insF_r c2] at e; have := hs.2.2 i (j - 1) (by omega) (by omega) e; omega
    · rw [c, insF_a] at e
      rcases Nat.lt_trichotomy j at' with c2 | c2 | c2
      · rw [insF_l c2] at e; exact absurd e.symm (h2 j (by omega))
      · omega
      · rw [insF_r c2] at e; exact absurd e.symm (h2 (j - 1) (by omega))
    · rw [insF_r c] at e
      rcases Nat.lt_trichotomy j at' with c2 | c2 | c2
      · rw [insF_l c2] at e; have := hs.2.2 (i - 1) j (by omega) (by omega) e; omega
      · rw [c2, insF_a] at e; exact absurd e (h2 (i - 1) (by omega))
      · rw [insF_r c2] at e; have := hs.2.2 (i - 1) (j - 1) (by omega) (by omega) e; omega
theorem ins_mem {od : Nat → Nat} {m at' s q : Nat} (ha : at' ≤ m) : fkS (insF od at' s) (m + 1) q ↔ fkS od m q ∨ q = s := by
  constructor
  · rintro ⟨i, i0, i1⟩
    rcases Nat.lt_trichotomy i at' with c | c | c
    · rw [insF_l c] at i1; exact Or.inl ⟨i, by omega, i1⟩
    · rw [c, insF_a] at i1; exact Or.inr i1.symm
    · rw [insF_r c] at i1; exact Or.inl ⟨i - 1, by omega, i1⟩
  · rintro (⟨i, i0, i1⟩ | h)
    · by_cases c : i < at'
      · exact ⟨i, by omega, by rw [insF_l c]; exact i1⟩
      · exact ⟨i + 1, by omega, by rw [insF_r (by omega)]; exact i1⟩
    · exact ⟨at', by omega, by rw [insF_a]; exact h.symm⟩
def ovS (S : Nat → Int) (od : Nat → Nat) (i c : Nat) : Prop := c ≤ i ∧ (∀ j, j < c → tO S (od j) 3 ≤ tO S (od i) 2) ∧ ∀ j, c ≤ j → j < i → tO S (od i) 2 < tO S (od j) 3
section
variable {d : Nat} {P : Int → sM → sG → Prop} {PV : sM → sG → Prop} {M : sM} {G : sG} {B : Int} {S : Nat → Int}
theorem c107 {a b : Nat} (hd : 5 ≤ d) (hs : S 1 ≤ 18) (ht : TR 14 M S) (a1 : (a : Int) < S 1) (b1 : (b : Int) < S 1) (k1 : stA S a b → P 1 M G) (k0 : ¬ stA S a b → P 0 M G) : sC d 107 [vO 10 14, vI (a : Int), vI (b : Int)] M G (QI P) := by
  obtain ⟨d, rfl⟩ := sD 2 (d := d) (by omega)
  have ta := ht.2.2.1 (a : Int) (by omega) a1
  have tb := ht.2.2.1 (b : Int) (by omega) b1
  have a2 : M 22 ((a : Int)).toNat = tO S a 2 := ta.2.2.1
  have a3 : M 23 ((a : Int)).toNat = tO S a 3 := ta.2.2.2.1
  have b2 : M 22 ((b : Int)).toNat = tO S b 2 := tb.2.2.1
  have b3 : M 23 ((b : Int)).toNat = tO S b 3 := tb.2.2.2.1
  have n1 : stA S a b ↔ tO S a 3 < tO S b 3 ∨ (tO S a 3 = tO S b 3 ∧ tO S b 2 < tO S a 2) := Iff.rfl
  refine e107 (s107_0 ⟨⟨(by first | omega | assumption | (refine ⟨?_, ?_⟩ <;> omega) | (simp_all; done)), (by first | omega | assumption | (refine ⟨?_, ?_⟩ <;> omega) | (simp_all; done))⟩, ⟨(by first | omega | assumption | (refine ⟨?_, ?_⟩ <;> omega) | (simp_all; done)), (by first | omega | assumption | (refine ⟨?_, ?_⟩ <;> omega) | (simp_all; done))⟩, fun q1 => ⟨fun q2 => ?_, fun q3 => ?_⟩, fun q4 => ⟨fun q5 => ?_, fun q6 => ?_⟩⟩)
  · exact k0 (fun z => by rw [n1] at z; omega)
  · exact k1 (n1.mpr (by omega))
  · exact k0 (fun z => by rw [n1] at z; omega)
  · exact k1 (n1.mpr (by omega))
  all_goals omega
theorem c106 {h : Int} (hd : 20 ≤ d) (hv : vTown B S) (ht : TR 14 M S) (kk : ∀ (N : sM) (m : Nat) (od : Nat → Nat), (∀ a, a ≠ 61 → a ≠ 62 → N a = M a) → m ≤ 18 → srt S od m → (∀ s, fkS od m s ↔ (s : Int) < S 1 ∧ tO S s 1 = h) → (∀ i, i < m → N 61 i = ((od i : Nat) : Int)) → (∀ i, i < m → ∃ c, N 62 i = ((c : Nat) : Int) ∧ ovS S od i c) → P (m : Int) N G) : sC d 106 [vO 1 60, vO 10 14, vI h] M G (QI P) := by
  obtain ⟨d, rfl⟩ := sD 12 (d := d) (by omega)
  have hs1 := hv.1.2.1
  have e6 : M 14 6 = S 1 := ht.1.2.1
  refine e106 (s106_0 ?_)
  have main : sW (sC (d + 11)) 106 (QI P) 5 [vO 1 60, vO 10 14, vI h, vI ((0 : Nat) : Int), vI ((0 : Nat) : Int), vN] [] M G 0 0 := by
    refine sUpTo (W := fun s => ∀ (N : sM) (m : Nat) (od : Nat → Nat), (∀ a, a ≠ 61 → a ≠ 62 → N a = M a) → m ≤ s → srt S od m → (∀ q, fkS od m q ↔ q < s ∧ tO S q 1 = h) → (∀ i, i < m → N 61 i = ((od i : Nat) : Int)) → sW (sC (d + 11)) 106 (QI P) 5 [vO 1 60, vO 10 14, vI h, vI (m : Int), vI (s : Int), vN] [] N G 0 0) (S 1).toNat ?_ ?_ M 0 (fun i => i) (fun _ _ _ => rfl) (Nat.le_refl 0) ⟨fun i hi => absurd hi (Nat.not_lt_zero i), fun i j _ hj => absurd hj (Nat.not_lt_zero j), fun i j hi => absurd hi (Nat.not_lt_zero i)⟩ (fun q => ⟨fun ⟨i, i0, _⟩ => absurd i0 (Nat.not_lt_zero i), fun z => absurd z.1 (Nat.not_lt_zero q)⟩) (fun i hi => absurd hi (Nat.not_lt_zero i))
    · intro N m od n1 ml hs hm n3
      have e6' : N 14 6 = S 1 := by rw [n1 14 (by decide) (by decide)]; exact e6
      refine (s106_5 ⟨fun q1 => ?_, fun q2 => ⟨⟨(by first | omega | assumption | (refine ⟨?_, ?_⟩ <;> omega) | (simp_all; done)), (by first | omega | assumption | (refine ⟨?_, ?_⟩ <;> omega) | (simp_all; done))⟩, fun q3 => ⟨⟨by omega, by omega⟩, ?_⟩, fun q4 => ?_⟩⟩)
      · have trN : ∀ N2 : sM, (∀ a, a ≠ 62 → N2 a = N a) → TR 14 N2 S := fun N2 h2 => ht.congr (fun a r1 r2 => (h2 a (by omega)).trans (n1 a (by omega) (by omega)))
        have odl : ∀ i, i < m → ((od i : Nat) : Int) < S 1 := fun i hi => by
          have := ((hm (od i)).mp ⟨i, hi, rfl⟩).1
          omega
        have go : sW (sC (d + 11)) 106 (QI P) 94 [vO 1 60, vO 10 14, vN, vI (m : Int), vI ((0 : Nat) : Int), vN] [] N G 0 0 := by
          refine sUpTo (W := fun i => ∀ N2 : sM, (∀ a, a ≠ 62 → N2 a = N a) → (∀ j, j < i → ∃ c, N2 62 j = ((c : Nat) : Int) ∧ ovS S od j c) → sW (sC (d + 11)) 106 (QI P) 94 [vO 1 60, vO 10 14, vN, vI (m : Int), vI (i : Int), vN] [] N2 G 0 0) m ?_ ?_ N (fun _ _ => rfl) (fun j hj => absurd hj (Nat.not_lt_zero j))
          · intro N2 m1 m2
            refine (s106_94 ⟨fun q1 => ?_, fun q2 => ⟨⟨(by first | omega | assumption | (refine ⟨?_, ?_⟩ <;> omega) | (simp_all; done)), (by first | omega | assumption | (refine ⟨?_, ?_⟩ <;> omega) | (simp_all; done))⟩, ?_⟩⟩)
            · exact kk N2 m od (fun a r1 r2 => (m1 a r2).trans (n1 a r1 r2)) (by omega) hs (fun s => by rw [hm s]; exact ⟨fun z => ⟨by omega, z.2⟩, fun z => ⟨by omega, z.2⟩⟩) (fun i hi => by rw [m1 61 (by decide)]; exact n3 i hi) m2
            all_goals omega
          · intro i hi ih N2 m1 m2
            have inner : ∀ (k c : Nat), c + k = i → ∀ N3 : sM, (∀ a, a ≠ 62 → N3 a = N a) → (∀ j, j < i → ∃ c, N3 62 j = ((c : Nat) : Int) ∧ ovS S od j c) → N3 62 i = ((c : Nat) : Int) → (∀ j, j < c → tO S (od j) 3 ≤ tO S (od i) 2) → sW (sC (d + 11)) 106 (QI P) 108 [vO 1 60, vO 10 14, vN, vI (m : Int), vI (i : Int), vN] [] N3 G 0 0 := fun k => by
              induction k with
              | zero =>
                intro c hc N3 p1 p2 p3 p4
                have p3' : N3 62 ((i : Int)).toNat = ((c : Nat) : Int) := p3
                refine (s106_108 ⟨⟨(by first | omega | assumption | (refine ⟨?_, ?_⟩ <;> omega) | (simp_all; done)), (by first | omega | assumption | (refine ⟨?_, ?_⟩ <;> omega) | (simp_all; done))⟩, fun q1 => ⟨⟨by omega, by omega⟩, ?_⟩, fun q2 => ⟨⟨(by first | omega | assumption | (refine ⟨?_, ?_⟩ <;> omega) | (simp_all; done)), (by first | omega | assumption | (refine ⟨?_, ?_⟩ <;> omega) | (simp_all; done))⟩, ⟨(by first | omega | assumption | (refine ⟨?_, ?_⟩ <;> omega) | (simp_all; done)), (by first | omega | assumption | (refine ⟨?_, ?_⟩ <;> omega) | (simp_all; done))⟩, ⟨(by first | omega | assumption | (refine ⟨?_, ?_⟩ <;> omega) | (simp_all; done)), (by first | omega | assumption | (refine ⟨?_, ?_⟩ <;> omega) | (simp_all; done))⟩, fun q3 => ⟨⟨by omega, by omega⟩, ?_⟩, fun q4 => ⟨⟨by omega, by omega⟩, ?_⟩⟩⟩)
                · refine ih N3 p1 (fun j hj => ?_)
                  by_cases z : j = i
                  · rw [z]; exact ⟨c, p3, by omega, p4, fun j h1 h2 => by omega⟩
                  · exact p2 j (by omega)
                all_goals omega
              | succ k ihk =>
                intro c hc N3 p1 p2 p3 p4
                have p3' : N3 62 ((i : Int)).toNat = ((c : Nat) : Int) := p3
                have t3 := trN N3 p1
                have ei : N3 61 ((i : Int)).toNat = ((od i : Nat) : Int) := by rw [p1 61 (by decide)]; exact n3 i hi
                have ec : N3 61 (N3 62 ((i : Int)).toNat).toNat = ((od c : Nat) : Int) := by
                  rw [p3']
                  show N3 61 c = _
                  rw [p1 61 (by decide)]; exact n3 c (by omega)
                have li := odl i hi
                have lc := odl c (by omega)
                have f2 : N3 22 (N3 61 ((i : Int)).toNat).toNat = tO S (od i) 2 := by rw [ei]; exact (t3.2.2.1 _ (by omega) li).2.2.1
                have f3 : N3 23 (N3 61 (N3 62 ((i : Int)).toNat).toNat).toNat = tO S (od c) 3 := by rw [ec]; exact (t3.2.2.1 _ (by omega) lc).2.2.2.1
                refine (s106_108 ⟨⟨(by first | omega | assumption | (refine ⟨?_, ?_⟩ <;> omega) | (simp_all; done)), (by first | omega | assumption | (refine ⟨?_, ?_⟩ <;> omega) | (simp_all; done))⟩, fun q1 => ⟨⟨by omega, by omega⟩, ?_⟩, fun q2 => ⟨⟨(by first | omega | assumption | (refine ⟨?_, ?_⟩ <;> omega) | (simp_all; done)), (by first | omega | assumption | (refine ⟨?_, ?_⟩ <;> omega) | (simp_all; done))⟩, ⟨(by first | omega | assumption | (refine ⟨?_, ?_⟩ <;> omega) | (simp_all; done)), (by first | omega | assumption | (refine ⟨?_, ?_⟩ <;> omega) | (simp_all; done))⟩, ⟨(by first | omega | assumption | (refine ⟨?_, ?_⟩ <;> omega) | (simp_all; done)), (by first | omega | assumption | (refine ⟨?_, ?_⟩ <;> omega) | (simp_all; done))⟩, fun q3 => ⟨⟨by omega, by omega⟩, ?_⟩, fun q4 => ⟨⟨by omega, by omega⟩, ?_⟩⟩⟩)
                · omega
                · rw [f2, f3] at q3
                  refine ih N3 p1 (fun j hj => ?_)
                  by_cases z : j = i
                  · rw [z]
                    refine ⟨c, p3, by omega, p4, fun j h1 h2 => ?_⟩
                    by_cases y : j = c
                    · rw [y]; exact q3
                    · have h5 := hs.2.1 c j (by omega) (by omega)
                      unfold leO at h5
                      omega
                  · exact p2 j (by omega)
                · rw [f2, f3] at q4
                  refine ihk (c + 1) (by omega) _ (fun a ha => (sUpd_ne ha).trans (p1 a ha)) (fun j hj => ?_) ?_ (fun j hj => ?_)
                  · obtain ⟨c', c1, c2⟩ := p2 j hj
                    exact ⟨c', (sUpd_ni (show j ≠ i by omega)).trans c1, c2⟩
                  · rw [p3']; exact sUpd_eq
                  · by_cases y : j = c
                    · rw [y]; exact q4
                    · exact p4 j (by omega)
                all_goals omega
            refine (s106_94 ⟨fun q1 => ?_, fun q2 => ⟨⟨(by first | omega | assumption | (refine ⟨?_, ?_⟩ <;> omega) | (simp_all; done)), (by first | omega | assumption | (refine ⟨?_, ?_⟩ <;> omega) | (simp_all; done))⟩, ?_⟩⟩)
            · omega
            · exact inner i 0 (by omega) _ (fun a ha => (sUpd_ne ha).trans (m1 a ha)) (fun j hj => by
                obtain ⟨c', c1, c2⟩ := m2 j hj
                exact ⟨c', (sUpd_ni (show j ≠ i by omega)).trans c1, c2⟩) sUpd_eq (fun j hj => absurd hj (Nat.not_lt_zero j))
            all_goals omega
        exact go
      all_goals omega
    · intro s hs2 ih N m od n1 ml hs hm n3
      have e6' : N 14 6 = S 1 := by rw [n1 14 (by decide) (by decide)]; exact e6
      have tr0 : ∀ N2 : sM, (∀ a, a ≠ 61 → a ≠ 62 → N2 a = M a) → TR 14 N2 S := fun N2 h2 => ht.congr (fun a r1 r2 => h2 a (by omega) (by omega))
      have tN := tr0 N n1
      have ts := tN.2.2.1 (s : Int) (by omega) (by omega)
      have es : N 21 ((s : Int)).toNat = tO S s 1 := ts.2.1
      have sv := hv.2.2.1 (s : Int) (by omega) (by omega)
      have odl : ∀ i, i < m → ((od i : Nat) : Int) < S 1 := fun i hi => by
        have := ((hm (od i)).mp ⟨i, hi, rfl⟩).1
        omega
      have put : ∀ (at' : Nat) (N2 : sM), at' ≤ m → (∀ a, a ≠ 61 → a ≠ 62 → N2 a = M a) → tO S s 1 = h → (∀ i, i < at' → N2 61 i = ((od i : Nat) : Int)) → (∀ i, at' < i → i ≤ m → N2 61 i = ((od (i - 1) : Nat) : Int)) → (∀ i, at' ≤ i → i < m → stA S s (od i)) → (at' = 0 ∨ ¬ stA S s (od (at' - 1))) → sW (sC (d + 11)) 106 (QI P) 5 [vO 1 60, vO 10 14, vI h, vI ((m : Int) + 1), vI ((s : Int) + 1), vN] [] (sUpd N2 61 ((at' : Int)).toNat (s : Int)) G 0 0 := fun at' N2 al g1 gh g2 g3 g4 g5 => by
        have := ih (sUpd N2 61 ((at' : Int)).toNat (s : Int)) (m + 1) (insF od at' s) (fun a r1 r2 => (sUpd_ne r1).trans (g1 a r1 r2)) (by omega) (ins_srt hs al ⟨by omega, sv.2.2.2.1⟩ (fun i hi z => by have := ((hm (od i)).mp ⟨i, hi, rfl⟩).1; omega) g5 g4) (fun q => by
          rw [ins_mem al, hm q]
          constructor
          · rintro (z | z)
            · exact ⟨by omega, z.2⟩
            · rw [z]; exact ⟨by omega, gh⟩
          · intro z
            by_cases c : q = s
            · exact Or.inr c
            · exact Or.inl ⟨by omega, z.2⟩) (fun i hi => by
          rcases Nat.lt_trichotomy i at' with c | c | c
          · rw [insF_l c]; exact (sUpd_ni (show i ≠ at' by omega)).trans (g2 i c)
          · rw [c, insF_a]; exact sUpd_eq
          · rw [insF_r c]; exact (sUpd_ni (show i ≠ at' by omega)).trans (g3 i c (by omega)))
        exact this
      have shift : tO S s 1 = h → ∀ (at' : Nat) (N2 : sM), at' ≤ m → (∀ a, a ≠ 61 → a ≠ 62 → N2 a = M a) → (∀ i, i < at' → N2 61 i = ((od i : Nat) : Int)) → (∀ i, at' < i → i ≤ m → N2 61 i = ((od (i - 1) : Nat) : Int)) → (∀ i, at' ≤ i → i < m → stA S s (od i)) → sW (sC (d + 11)) 106 (QI P) 28 [vO 1 60, vO 10 14, vI h, vI (m : Int), vI (s : Int), vI (at' : Int)] [] N2 G 0 0 := fun gh at' => by
        induction at' with
        | zero =>
          intro N2 al g1 g2 g3 g4
          refine (s106_28 ⟨fun q1 => ⟨⟨(by first | omega | assumption | (refine ⟨?_, ?_⟩ <;> omega) | (simp_all; done)), (by first | omega | assumption | (refine ⟨?_, ?_⟩ <;> omega) | (simp_all; done))⟩, ⟨by omega, by omega⟩, ⟨by omega, by omega⟩, ?_⟩, fun q2 => ⟨⟨by omega, by omega⟩, ⟨(by first | omega | assumption | (refine ⟨?_, ?_⟩ <;> omega) | (simp_all; done)), (by first | omega | assumption | (refine ⟨?_, ?_⟩ <;> omega) | (simp_all; done))⟩, ?_⟩⟩)
          · exact put 0 N2 al g1 gh g2 g3 g4 (Or.inl rfl)
          all_goals omega
        | succ at' iha =>
          intro N2 al g1 g2 g3 g4
          have ea : (((at' + 1 : Nat) : Int) - 1).toNat = at' := by omega
          have e61 : N2 61 (((at' + 1 : Nat) : Int) - 1).toNat = ((od at' : Nat) : Int) := by rw [ea]; exact g2 at' (by omega)
          have lo := odl at' (by omega)
          refine (s106_28 ⟨fun q1 => ⟨⟨(by first | omega | assumption | (refine ⟨?_, ?_⟩ <;> omega) | (simp_all; done)), (by first | omega | assumption | (refine ⟨?_, ?_⟩ <;> omega) | (simp_all; done))⟩, ⟨by omega, by omega⟩, ⟨by omega, by omega⟩, ?_⟩, fun q2 => ⟨⟨by omega, by omega⟩, ⟨(by first | omega | assumption | (refine ⟨?_, ?_⟩ <;> omega) | (simp_all; done)), (by first | omega | assumption | (refine ⟨?_, ?_⟩ <;> omega) | (simp_all; done))⟩, ?_⟩⟩)
          · omega
          · rw [e61]
            refine c107 (by omega) hs1.2 (tr0 N2 g1) (by omega) lo (fun z => ?_) (fun z => ?_)
            · refine ⟨fun q3 => ⟨⟨(by first | omega | assumption | (refine ⟨?_, ?_⟩ <;> omega) | (simp_all; done)), (by first | omega | assumption | (refine ⟨?_, ?_⟩ <;> omega) | (simp_all; done))⟩, ⟨by omega, by omega⟩, ⟨by omega, by omega⟩, ?_⟩, fun q4 => ⟨⟨(by first | omega | assumption | (refine ⟨?_, ?_⟩ <;> omega) | (simp_all; done)), (by first | omega | assumption | (refine ⟨?_, ?_⟩ <;> omega) | (simp_all; done))⟩, ⟨by omega, by omega⟩, ?_⟩⟩
              · omega
              · rw [e61, show ((at' + 1 : Nat) : Int) + (-1) = (at' : Int) by omega]
                refine iha _ (by omega) (fun a r1 r2 => (sUpd_ne r1).trans (g1 a r1 r2)) (fun i hi => (sUpd_ni (show i ≠ at' + 1 by omega)).trans (g2 i (by omega))) (fun i h1 h2 => ?_) (fun i h1 h2 => ?_)
                · by_cases c : i = at' + 1
                  · rw [c]; exact sUpd_eq
                  · exact (sUpd_ni c).trans (g3 i (by omega) h2)
                · by_cases c : i = at'
                  · rw [c]; exact z
                  · exact g4 i (by omega) h2
              all_goals omega
            · refine ⟨fun q3 => ⟨⟨(by first | omega | assumption | (refine ⟨?_, ?_⟩ <;> omega) | (simp_all; done)), (by first | omega | assumption | (refine ⟨?_, ?_⟩ <;> omega) | (simp_all; done))⟩, ⟨by omega, by omega⟩, ⟨by omega, by omega⟩, ?_⟩, fun q4 => ⟨⟨(by first | omega | assumption | (refine ⟨?_, ?_⟩ <;> omega) | (simp_all; done)), (by first | omega | assumption | (refine ⟨?_, ?_⟩ <;> omega) | (simp_all; done))⟩, ⟨by omega, by omega⟩, ?_⟩⟩
              · exact put (at' + 1) N2 al g1 gh g2 g3 g4 (Or.inr z)
              all_goals omega
          all_goals omega
      refine (s106_5 ⟨fun q1 => ?_, fun q2 => ⟨⟨(by first | omega | assumption | (refine ⟨?_, ?_⟩ <;> omega) | (simp_all; done)), (by first | omega | assumption | (refine ⟨?_, ?_⟩ <;> omega) | (simp_all; done))⟩, fun q3 => ⟨⟨by omega, by omega⟩, ?_⟩, fun q4 => ?_⟩⟩)
      · omega
      · rw [es] at q3
        exact ih N m od n1 (by omega) hs (fun q => by
          rw [hm q]
          refine ⟨fun z => ⟨by omega, z.2⟩, fun z => ?_⟩
          by_cases c : q = s
          · rw [c] at z; exact absurd z.2 q3
          · exact ⟨by omega, z.2⟩) n3
      · rw [es] at q4
        exact shift q4 m N (Nat.le_refl m) n1 n3 (fun i h1 h2 => by omega) (fun i h1 h2 => by omega)
      all_goals omega
  exact main
end
