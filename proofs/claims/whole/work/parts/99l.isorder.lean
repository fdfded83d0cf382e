/-! The class's first order; the reference's look at an order. -/
section
variable {d : Nat} {P : Int → sM → sG → Prop} {PV : sM → sG → Prop} {M : sM} {G : sG} {S : Nat → Int}
theorem c153 {k : Nat} {c0 p : Nat → Nat} (hd : 30 ≤ d) (hv : vTold S) (ht : TO 29 M S) (ha : ahR S M) (hw : waR S (S 6).toNat M 0) (hk : k < (S 6).toNat) (hp : prm (S 6).toNat c0) (hs : asc S (S 6).toNat c0 0) (h : aP S (S 6).toNat (S 6).toNat 0 c0 = some p) (kk : P (wR S (p k)) M G) : sC d 153 [vO 2 78, vO 9 29, vI (k : Int)] M G (QI P) := by
  obtain ⟨d, rfl⟩ := sD 15 (d := d) (by omega)
  have h6 := hv.2.1
  have e78 := ha.1
  have p2 := p8 (m := (S 6).toNat) (by omega)
  refine e153 (s153_0 ?_)
  have go : ∀ (m i : Nat) (c : Nat → Nat) (v : Int), i + m = k + 1 → prm (S 6).toNat c → asc S (S 6).toNat c i → (∀ l, l < i → vld S c l) → aP S (S 6).toNat ((S 6).toNat - i) i c = some p → (i = k + 1 → v = wR S (p k)) → sW (sC (d + 14)) 153 (QI P) 8 [vO 2 78, vO 9 29, vI (k : Int), vI ((cmM c i : Nat) : Int), vI v, vI (i : Int), vN] [] M G 0 0 := fun m => by
    induction m with
    | zero =>
      intro i c v hi g1 g2 g3 g4 g5
      have e := g5 (by omega)
      refine (s153_8 ⟨fun q1 => ?_, fun q2 => ⟨fun q3 => ?_, fun q4 => ?_⟩⟩)
      · rw [e]; exact kk
      · rw [e]; exact kk
      · omega
    | succ m ihm =>
      intro i c v hi g1 g2 g3 g4 g5
      have er : (S 6).toNat - i = ((S 6).toNat - i - 1) + 1 := by omega
      rw [er] at g4
      obtain ⟨j, j1, j2, j3, j4, j5, j6, j7⟩ := aP_next (by omega) g1 g2 g3 g4
      have cl := cm_lt g1 (k := i) (by omega)
      have pc := pcc_cm g1 (k := i) (by omega)
      refine (s153_8 ⟨fun q1 => ?_, fun q2 => ⟨fun q3 => ?_, fun q4 => ?_⟩⟩)
      · omega
      · omega
      · refine c154 (r := (S 6).toNat - i - 1) (by omega) hv ht ha hw cl (by omega) (fun q q1 q2 q3 q4 => ?_) (fun hno => ?_)
        · have cj := g1.1 (i + j) (by omega)
          have l1 := q4 (c (i + j)) cj j4 j5
          have l2 := j7 q q1 q2 q3
          have eq : q = c (i + j) := row_inj hv (by omega) (by omega) (by omega)
          have pq := p8 (m := q) (by omega)
          have esq : iShl 1 (q : Int) = ((2 ^ q : Nat) : Int) := z_bit (by omega) (by omega)
          have eo : iOr ((cmM c i : Nat) : Int) (iShl 1 (q : Int)) = ((cmM (rot c i j) (i + 1) : Nat) : Int) := by
            rw [esq, cm_rot, ← eq]; exact n_or (by omega) (by omega)
          have e36 : M 36 ((q : Int)).toNat = wR S q := toR ht (by omega)
          refine ⟨fun q5 => ⟨⟨(by first | omega | assumption | (refine ⟨?_, ?_⟩ <;> omega) | (simp_all; done)), (by first | omega | assumption | (refine ⟨?_, ?_⟩ <;> omega) | (simp_all; done))⟩, ⟨by omega, by omega⟩, ?_⟩, fun q6 => ?_⟩
          · rw [eo, e36]
            refine ihm (i + 1) (rot c i j) _ (by omega) (rot_p g1 (by omega)) (rot_asc g2) j6 ?_ (fun z => ?_)
            · rw [show (S 6).toNat - (i + 1) = (S 6).toNat - i - 1 by omega]; exact j2
            · have : i = k := by omega
              rw [eq, ← j3, this]
          all_goals omega
        · exact (hno (c (i + j)) (g1.1 (i + j) (by omega)) ⟨j4, j5⟩).elim
  exact go (k + 1) 0 c0 (-1) (by omega) hp hs (fun l hl => absurd hl (Nat.not_lt_zero l)) h (fun z => by omega)
/-- an order of the reference, by places -/
def orR (S : Nat → Int) (M : sM) (c : Nat → Nat) : Prop := ∀ i : Nat, i < (S 6).toNat → M 102 i = wR S (c i)
theorem c268 {c : Nat → Nat} {x : Int} (hd : 5 ≤ d) (hv : vTold S) (hS : M 93 = S) (ho : orR S M c) (k1 : ∀ i : Nat, i < (S 6).toNat → wR S (c i) = x → P (i : Int) M G) (k0 : (∀ i : Nat, i < (S 6).toNat → wR S (c i) ≠ x) → P (-1) M G) : sC d 268 [vO 12 82, vI x] M G (QI P) := by
  obtain ⟨d, rfl⟩ := sD 2 (d := d) (by omega)
  have h6 := hv.2.1
  have e6 : M 93 6 = S 6 := by rw [hS]
  refine e268 (s268_0 ?_)
  refine sUpTo (W := fun i => (∀ i' : Nat, i' < i → wR S (c i') ≠ x) → sW (sC (d + 1)) 268 (QI P) 2 [vO 12 82, vI x, vI (i : Int)] [] M G 0 0) (S 6).toNat ?_ ?_ (fun i' hi' => absurd hi' (Nat.not_lt_zero i'))
  · intro h
    refine (s268_2 ⟨fun q1 => ?_, fun q2 => ⟨⟨(by first | omega | assumption | (refine ⟨?_, ?_⟩ <;> omega) | (simp_all; done)), (by first | omega | assumption | (refine ⟨?_, ?_⟩ <;> omega) | (simp_all; done))⟩, fun q3 => ⟨⟨by omega, by omega⟩, ?_⟩, fun q4 => ?_⟩⟩)
    · exact k0 h
    all_goals omega
  · intro i hi ih h
    have e : M 102 ((i : Int)).toNat = wR S (c i) := ho i hi
    refine (s268_2 ⟨fun q1 => ?_, fun q2 => ⟨⟨(by first | omega | assumption | (refine ⟨?_, ?_⟩ <;> omega) | (simp_all; done)), (by first | omega | assumption | (refine ⟨?_, ?_⟩ <;> omega) | (simp_all; done))⟩, fun q3 => ⟨⟨by omega, by omega⟩, ?_⟩, fun q4 => ?_⟩⟩)
    · omega
    · rw [e] at q3
      exact ih (fun i' hi' => by
        by_cases z : i' = i
        · rw [z]; exact q3
        · exact h i' (by omega))
    · rw [e] at q4
      exact k1 i hi q4
    all_goals omega
def badP (pl : Nat → Nat) (h : Nat) : Prop := ∃ i j, i < j ∧ j < h ∧ pl i < pl j
def badC (c : Nat → Nat) (k : Nat) : Prop := ∃ i, i < k ∧ ¬ stkQ (cmM c i) (c i)
/-- the pile of those who are in, the last on top, and how many have gone -/
def stP (S : Nat → Int) (n : Nat) (c : Nat → Nat) (N : sM) (k h g : Nat) (pl : Nat → Nat) : Prop := (∀ i, i < h → pl i < n ∧ N 104 i = wR S (pl i) ∧ g ≤ pl i) ∧ (∀ i j, i < h → j < h → pl i = pl j → i = j) ∧ (∀ p, (cmM c k).testBit p = true ↔ p < g ∨ fkS pl h p) ∧ h + g = k ∧ (((∀ i, i < k → stkQ (cmM c i) (c i)) ∧ ∀ i j, i < j → j < h → pl j < pl i) ∨ (badC c k ∧ badP pl h))
theorem stP.pop {S : Nat → Int} {n : Nat} {c : Nat → Nat} {N : sM} {k h g : Nat} {pl : Nat → Nat} (hs : stP S n c N k (h + 1) g pl) (ht : pl h = g) : stP S n c N k h (g + 1) pl := by
  obtain ⟨s1, s2, s3, s4, s5⟩ := hs
  have ne : ∀ i, i < h → pl i ≠ g := fun i hi z => by have := s2 i h (by omega) (by omega) (z.trans ht.symm); omega
  refine ⟨fun i hi => ⟨(s1 i (by omega)).1, (s1 i (by omega)).2.1, ?_⟩, fun i j hi hj => s2 i j (by omega) (by omega), fun p => ?_, by omega, ?_⟩
  · have := (s1 i (by omega)).2.2
    have := ne i hi
    omega
  · rw [s3 p]
    constructor
    · rintro (z | ⟨i, i0, i1⟩)
      · exact Or.inl (by omega)
      · by_cases e : i = h
        · rw [e] at i1; exact Or.inl (by omega)
        · exact Or.inr ⟨i, by omega, i1⟩
    · rintro (z | ⟨i, i0, i1⟩)
      · by_cases e : p = g
        · exact Or.inr ⟨h, by omega, by rw [ht, e]⟩
        · exact Or.inl (by omega)
      · exact Or.inr ⟨i, by omega, i1⟩
  · rcases s5 with ⟨a, b⟩ | ⟨a, i, j, i0, i1, i2⟩
    · exact Or.inl ⟨a, fun i j h1 h2 => b i j h1 (by omega)⟩
    · refine Or.inr ⟨a, i, j, i0, ?_, i2⟩
      by_cases e : j = h
      · rw [e, ht] at i2
        have := (s1 i (by omega)).2.2
        omega
      · omega
theorem stP.push {S : Nat → Int} {n : Nat} {c : Nat → Nat} {N N' : sM} {k h g : Nat} {pl : Nat → Nat} (hp : prm n c) (hk : k < n) (hs : stP S n c N k h g pl) (hc : h = 0 ∨ pl (h - 1) ≠ g) (h1 : ∀ i, i < h → N' 104 i = N 104 i) (h2 : N' 104 h = wR S (c k)) : stP S n c N' (k + 1) (h + 1) g (upC pl h (c k)) := by
  obtain ⟨s1, s2, s3, s4, s5⟩ := hs
  have nc : ¬ (cmM c k).testBit (c k) = true := fun z => by
    obtain ⟨i, i0, i1⟩ := cmM_bit.mp z
    have := hp.2 i k (by omega) hk i1
    omega
  have nc2 : ¬ (c k < g ∨ fkS pl h (c k)) := fun z => nc ((s3 (c k)).mpr z)
  have u1 : ∀ i, i < h → upC pl h (c k) i = pl i := fun i hi => by unfold upC; rw [if_neg (by omega)]
  have u2 : upC pl h (c k) h = c k := by unfold upC; rw [if_pos rfl]
  refine ⟨fun i hi => ?_, fun i j hi hj e => ?_, fun p => ?_, by omega, ?_⟩
  · by_cases e : i = h
    · rw [e, u2]
      refine ⟨hp.1 k hk, h2, ?_⟩
      rcases Nat.lt_or_ge (c k) g with z | z
      · exact absurd (Or.inl z) nc2
      · exact z
    · rw [u1 i (by omega), h1 i (by omega)]
      exact s1 i (by omega)
  · by_cases a : i = h
    · by_cases b : j = h
      · omega
      · rw [a, u2, u1 j (by omega)] at e
        exact absurd (Or.inr ⟨j, by omega, e.symm⟩) nc2
    · by_cases b : j = h
      · rw [b, u2, u1 i (by omega)] at e
        exact absurd (Or.inr ⟨i, by omega, e⟩) nc2
      · rw [u1 i (by omega), u1 j (by omega)] at e
        exact s2 i j (by omega) (by omega) e
  · show (cmM c k ||| 2 ^ c k).testBit p = true ↔ _
    rw [or_tb, s3 p]
    constructor
    · rintro ((z | ⟨i, i0, i1⟩) | z)
      · exact Or.inl z
      · exact Or.inr ⟨i, by omega, by rw [u1 i i0]; exact i1⟩
      · exact Or.inr ⟨h, by omega, by rw [u2]; exact z⟩
    · rintro (z | ⟨i, i0, i1⟩)
      · exact Or.inl (Or.inl z)
      · by_cases e : i = h
        · rw [e, u2] at i1; exact Or.inr i1
        · rw [u1 i (by omega)] at i1; exact Or.inl (Or.inr ⟨i, by omega, i1⟩)
  · rcases s5 with ⟨a, b⟩ | ⟨⟨i, i0, i1⟩, x, y, x0, x1, x2⟩
    · -- nobody with the number g is in
      have gt : ∀ i, i < h → g < pl i := fun i hi => by
        have h3 := (s1 i hi).2.2
        have h4 : pl (h - 1) ≠ g := hc.resolve_left (by omega)
        have h5 := (s1 (h - 1) (by omega)).2.2
        by_cases e : i = h - 1
        · rw [e]; omega
        · have := b i (h - 1) (by omega) (by omega)
          omega
      have gn : ¬ (cmM c k).testBit g = true := fun z => by
        rcases (s3 g).mp z with y | ⟨i, i0, i1⟩
        · omega
        · have := gt i i0; omega
      by_cases st : stkQ (cmM c k) (c k)
      · refine Or.inl ⟨fun i hi => ?_, fun i j h3 h4 => ?_⟩
        · by_cases e : i = k
          · rw [e]; exact st
          · exact a i (by omega)
        · by_cases e : j = h
          · rw [e, u2, u1 i (by omega)]
            exact st (pl i) g ((s3 (pl i)).mpr (Or.inr ⟨i, by omega, rfl⟩)) (gt i (by omega)) gn
          · rw [u1 i (by omega), u1 j (by omega)]
            exact b i j h3 (by omega)
      · refine Or.inr ⟨⟨k, by omega, st⟩, ?_⟩
        have : ∃ p, (cmM c k).testBit p = true ∧ (∃ g', g' < p ∧ ¬ (cmM c k).testBit g' = true) ∧ ¬ c k < p := Classical.byContradiction fun z => st (fun p g' p1 p2 p3 => Classical.byContradiction fun w => z ⟨p, p1, ⟨g', p2, p3⟩, w⟩)
        obtain ⟨p, p1, ⟨g', p2, p3⟩, p4⟩ := this
        rcases (s3 p).mp p1 with y | ⟨i, i0, i1⟩
        · exact absurd ((s3 g').mpr (Or.inl (by omega))) p3
        · refine ⟨i, h, i0, by omega, ?_⟩
          rw [u1 i i0, u2]
          have : pl i ≠ c k := fun z => nc2 (Or.inr ⟨i, i0, z⟩)
          omega
    · exact Or.inr ⟨⟨i, by omega, i1⟩, x, y, x0, by omega, by rw [u1 x (by omega), u1 y x1]; exact x2⟩
end
