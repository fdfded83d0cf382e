/-! The class's orders: the first of them. -/
section
variable {S : Nat → Int} {n : Nat}
def asc (S : Nat → Int) (n : Nat) (c : Nat → Nat) (k : Nat) : Prop := ∀ i j, k ≤ i → i < j → j < n → wR S (c i) < wR S (c j)
theorem rot_l {c : Nat → Nat} {k j i : Nat} (h : i < k) : rot c k j i = c i := by unfold rot; rw [if_pos h]
theorem rot_k {c : Nat → Nat} {k j : Nat} : rot c k j k = c (k + j) := by unfold rot; rw [if_neg (Nat.lt_irrefl k), if_pos rfl]
theorem rot_m {c : Nat → Nat} {k j i : Nat} (h : k < i) (h2 : i ≤ k + j) : rot c k j i = c (i - 1) := by unfold rot; rw [if_neg (by omega), if_neg (by omega), if_pos h2]
theorem rot_r {c : Nat → Nat} {k j i : Nat} (h : k + j < i) : rot c k j i = c i := by unfold rot; rw [if_neg (by omega), if_neg (by omega), if_neg (by omega)]
theorem rot_asc {c : Nat → Nat} {k j : Nat} (h : asc S n c k) : asc S n (rot c k j) (k + 1) := fun i i' h1 h2 h3 => by
  by_cases a : i ≤ k + j
  · rw [rot_m (by omega) a]
    by_cases b : i' ≤ k + j
    · rw [rot_m (by omega) b]; exact h (i - 1) (i' - 1) (by omega) (by omega) (by omega)
    · rw [rot_r (by omega)]; exact h (i - 1) i' (by omega) (by omega) h3
  · rw [rot_r (by omega), rot_r (by omega)]; exact h i i' (by omega) h2 h3
theorem cm_rot {c : Nat → Nat} {k j : Nat} : cmM (rot c k j) (k + 1) = cmM c k ||| 2 ^ c (k + j) := by
  show cmM (rot c k j) k ||| 2 ^ rot c k j k = _
  rw [cmM_congr (c' := c) (fun i hi => rot_l hi), rot_k]
theorem cm_lt {c : Nat → Nat} (h : prm n c) : ∀ {k : Nat}, k ≤ n → cmM c k < 2 ^ n
  | 0, _ => Nat.two_pow_pos n
  | k + 1, hk => Nat.or_lt_two_pow (cm_lt h (k := k) (by omega)) (Nat.pow_lt_pow_right (by decide) (h.1 k (by omega)))
theorem pcc_cm {c : Nat → Nat} (h : prm n c) : ∀ {k : Nat}, k ≤ n → pcc n (cmM c k) = k
  | 0, _ => by
    have := pcc_b n 0
    have z := pc_zero n
    show pcc n 0 = 0
    omega
  | k + 1, hk => by
    have ih := pcc_cm h (k := k) (by omega)
    have hn : ¬ (cmM c k).testBit (c k) = true := fun z => by
      obtain ⟨i, i0, i1⟩ := cmM_bit.mp z
      have := h.2 i k (by omega) (by omega) i1
      omega
    show pcc n (cmM c k ||| 2 ^ c k) = k + 1
    rw [pcc_or (h.1 k (by omega)) hn, ih]
theorem aP_pre : ∀ (r k : Nat) (c p : Nat → Nat), aP S n r k c = some p → ∀ i, i < k → p i = c i
  | 0, k, c, p, h => by
    have h' : (if gdB S n c = true then some c else none) = some p := h
    by_cases z : gdB S n c = true
    · rw [if_pos z] at h'
      have : c = p := Option.some.inj h'
      rw [this]; exact fun _ _ => rfl
    · rw [if_neg z] at h'; exact absurd h' (by simp)
  | r + 1, k, c, p, h => by
    obtain ⟨j, j1, j2, j3⟩ := fF_some' h
    have := aP_pre r (k + 1) (rot c k j) p j3
    exact fun i hi => (this i (by omega)).trans (rot_l hi)
theorem fF_first {g : Nat → Option (Nat → Nat)} {p : Nat → Nat} : ∀ {m x : Nat}, fF g x m = some p → ∃ y, x ≤ y ∧ y < x + m ∧ g y = some p ∧ ∀ y', x ≤ y' → y' < y → g y' = none
  | 0, x, h => by
    have h' : (none : Option (Nat → Nat)) = some p := h
    exact absurd h' (by simp)
  | m + 1, x, h => by
    have h' : (match g x with | some p => some p | none => fF g (x + 1) m) = some p := h
    cases hg : g x with
    | some p' =>
      rw [hg] at h'
      exact ⟨x, Nat.le_refl x, by omega, by rw [hg]; exact h', fun y' h1 h2 => by omega⟩
    | none =>
      rw [hg] at h'
      obtain ⟨y, y1, y2, y3, y4⟩ := fF_first (m := m) (x := x + 1) h'
      refine ⟨y, by omega, by omega, y3, fun y' h1 h2 => ?_⟩
      by_cases e : y' = x
      · rw [e]; exact hg
      · exact y4 y' (by omega) h2
/-- the next of the first order -/
theorem aP_next {r k : Nat} {c p : Nat → Nat} (hk : k + (r + 1) = n) (hp : prm n c) (ha : asc S n c k) (hv : ∀ i, i < k → vld S c i) (h : aP S n (r + 1) k c = some p) : ∃ j, j ≤ r ∧ aP S n r (k + 1) (rot c k j) = some p ∧ p k = c (k + j) ∧ mayB S (cmM c k) (c (k + j)) = true ∧ 0 < wY S n r (cmM c k ||| 2 ^ c (k + j)) ∧ (∀ i, i < k + 1 → vld S (rot c k j) i) ∧ ∀ q, q < n → mayB S (cmM c k) q = true → 0 < wY S n r (cmM c k ||| 2 ^ q) → wR S (c (k + j)) ≤ wR S q := by
  obtain ⟨j, j1, j2, j3, j4⟩ := fF_first h
  have j3' : aP S n r (k + 1) (rot c k j) = some p := j3
  have pj := rot_p hp (show k + j < n by omega)
  have tj := (aP_aT r (k + 1) (rot c k j)).2.1 p j3'
  have wj := aT_wY (S := S) r (k + 1) (rot c k j) (by omega) pj
  have vj : ∀ i, i < k + 1 → vld S (rot c k j) i := Classical.byContradiction fun z => by have := wj.2 z; omega
  have ej := wj.1 vj
  rw [cm_rot] at ej
  have mj : mayB S (cmM c k) (c (k + j)) = true := by
    have := vj k (by omega)
    unfold vld at this
    rw [cmM_congr (c' := c) (fun i hi => rot_l hi), rot_k] at this
    exact mayB_i.mpr this
  refine ⟨j, by omega, j3', ?_, mj, by omega, vj, fun q hq hm hw => ?_⟩
  · rw [aP_pre r (k + 1) (rot c k j) p j3' k (by omega), rot_k]
  · -- q is one of those still to come
    have hsur : ∃ i, i < n ∧ c i = q := by
      have s3 := nS_inj (F := fun x => if x = q then (1 : Int) else 0) hp
      have s4 : nS (fun x => if x = q then (1 : Int) else 0) n = 1 := nS_at (f := fun _ => 1) hq
      rw [s4] at s3
      have s5 : nS (fun i => (fun x => if x = q then (1 : Int) else 0) (c i)) n = 1 := s3
      obtain ⟨i, i0, i1⟩ := nS_pos (f := fun i => (fun x => if x = q then (1 : Int) else 0) (c i)) (n := n) (by rw [s5]; decide)
      refine ⟨i, i0, ?_⟩
      have i1' : 0 < (if c i = q then (1 : Int) else 0) := i1
      by_cases z : c i = q
      · exact z
      · rw [if_neg z] at i1'; exact absurd i1' (by decide)
    obtain ⟨i, i0, i1⟩ := hsur
    have ik : k ≤ i := by
      rcases Nat.lt_or_ge i k with z | z
      · exact absurd (cmM_bit.mpr ⟨i, z, i1⟩) (mayB_i.mp hm).1
      · exact z
    rcases Nat.lt_trichotomy i (k + j) with z | z | z
    · -- an earlier one would have been taken
      have hn := j4 (i - k) (by omega) (by omega)
      have hn' : aP S n r (k + 1) (rot c k (i - k)) = none := hn
      have t0 := (aP_aT r (k + 1) (rot c k (i - k))).1 hn'
      have pi := rot_p hp (show k + (i - k) < n by omega)
      have wi := aT_wY (S := S) r (k + 1) (rot c k (i - k)) (by omega) pi
      have ei : k + (i - k) = i := by omega
      have vi : ∀ l, l < k + 1 → vld S (rot c k (i - k)) l := fun l hl => by
        by_cases y : l = k
        · rw [y]
          unfold vld
          rw [cmM_congr (c' := c) (fun i hi => rot_l hi), rot_k, ei, i1]
          exact mayB_i.mp hm
        · exact (vld_congr (fun m hm2 => rot_l (by omega))).mpr (hv l (by omega))
      have e3 := wi.1 vi
      rw [cm_rot, ei, i1] at e3
      omega
    · rw [← z, i1]; exact Int.le_refl _
    · have := ha (k + j) i (by omega) z i0
      rw [i1] at this
      omega
end
section
variable {d : Nat} {P : Int → sM → sG → Prop} {PV : sM → sG → Prop} {M : sM} {G : sG} {S : Nat → Int}
def bsT (S : Nat → Int) (come r q : Nat) (b : Int) : Prop := (b = -1 ∧ ∀ q' : Nat, q' < q → ¬ (mayB S come q' = true ∧ 0 < wY S (S 6).toNat r (come ||| 2 ^ q'))) ∨ ∃ bq : Nat, b = (bq : Int) ∧ bq < q ∧ mayB S come bq = true ∧ 0 < wY S (S 6).toNat r (come ||| 2 ^ bq) ∧ ∀ q' : Nat, q' < q → mayB S come q' = true → 0 < wY S (S 6).toNat r (come ||| 2 ^ q') → wR S bq ≤ wR S q'
theorem c154 {come r : Nat} (hd : 15 ≤ d) (hv : vTold S) (ht : TO 29 M S) (ha : ahR S M) (hw : waR S (S 6).toNat M 0) (hc : come < 2 ^ (S 6).toNat) (hr : pcc (S 6).toNat come + (r + 1) = (S 6).toNat) (kk : ∀ q : Nat, q < (S 6).toNat → mayB S come q = true → 0 < wY S (S 6).toNat r (come ||| 2 ^ q) → (∀ q' : Nat, q' < (S 6).toNat → mayB S come q' = true → 0 < wY S (S 6).toNat r (come ||| 2 ^ q') → wR S q ≤ wR S q') → P (q : Int) M G) (k0 : (∀ q : Nat, q < (S 6).toNat → ¬ (mayB S come q = true ∧ 0 < wY S (S 6).toNat r (come ||| 2 ^ q))) → P (-1) M G) : sC d 154 [vO 2 78, vO 9 29, vI (come : Int)] M G (QI P) := by
  obtain ⟨d, rfl⟩ := sD 8 (d := d) (by omega)
  have h6 := hv.2.1
  have p2 := p8 (m := (S 6).toNat) (by omega)
  have e78 := ha.1
  refine e154 (s154_0 ?_)
  refine sUpTo (W := fun q => ∀ b : Int, bsT S come r q b → sW (sC (d + 7)) 154 (QI P) 5 [vO 2 78, vO 9 29, vI (come : Int), vI b, vI (q : Int)] [] M G 0 0) (S 6).toNat ?_ ?_ (-1) (Or.inl ⟨rfl, fun q' hq' => absurd hq' (Nat.not_lt_zero q')⟩)
  · intro b hb
    refine (s154_5 ⟨fun q1 => ?_, fun q2 => ?_⟩)
    · rcases hb with ⟨rfl, hb2⟩ | ⟨bq, rfl, hb1, hb2, hb3, hb4⟩
      · exact k0 hb2
      · exact kk bq hb1 hb2 hb3 hb4
    all_goals omega
  · intro q hq ih b hb
    have pq := p8 (m := q) (by omega)
    have esq : iShl 1 (q : Int) = ((2 ^ q : Nat) : Int) := z_bit (by omega) (by omega)
    have eo : iOr (come : Int) (iShl 1 (q : Int)) = ((come ||| 2 ^ q : Nat) : Int) := by rw [esq]; exact n_or (by omega) (by omega)
    have ol : come ||| 2 ^ q < 2 ^ (S 6).toNat := Nat.or_lt_two_pow hc (Nat.pow_lt_pow_right (by decide) hq)
    have ew : mayB S come q = true → M 80 (iOr (come : Int) (iShl 1 (q : Int))).toNat = wY S (S 6).toNat r (come ||| 2 ^ q) := fun hm => by
      rw [eo]
      show M 80 (come ||| 2 ^ q) = _
      rw [hw _ (Nat.zero_le _) ol, pcc_or hq (mayB_i.mp hm).1]
      rw [show (S 6).toNat - (pcc (S 6).toNat come + 1) = r by omega]
    have stay : (mayB S come q = true → 0 < wY S (S 6).toNat r (come ||| 2 ^ q) → 0 ≤ b ∧ wR S b.toNat ≤ wR S q) → sW (sC (d + 7)) 154 (QI P) 5 [vO 2 78, vO 9 29, vI (come : Int), vI b, vI ((q + 1 : Nat) : Int)] [] M G 0 0 := fun hs => ih b (by
      rcases hb with ⟨h1, h2⟩ | ⟨bq, h1, h2, h3, h4, h5⟩
      · refine Or.inl ⟨h1, fun q' hq' z => ?_⟩
        by_cases e : q' = q
        · rw [e] at z; have := hs z.1 z.2; omega
        · exact h2 q' (by omega) z
      · refine Or.inr ⟨bq, h1, by omega, h3, h4, fun q' hq' z1 z2 => ?_⟩
        by_cases e : q' = q
        · rw [e] at z1 z2 ⊢
          have := (hs z1 z2).2
          rw [h1] at this
          exact this
        · exact h5 q' (by omega) z1 z2)
    have take : mayB S come q = true → 0 < wY S (S 6).toNat r (come ||| 2 ^ q) → (0 ≤ b → wR S q ≤ wR S b.toNat) → sW (sC (d + 7)) 154 (QI P) 5 [vO 2 78, vO 9 29, vI (come : Int), vI (q : Int), vI ((q + 1 : Nat) : Int)] [] M G 0 0 := fun hm hp hs => ih (q : Int) (Or.inr ⟨q, rfl, by omega, hm, hp, fun q' hq' z1 z2 => by
      by_cases e : q' = q
      · rw [e]; exact Int.le_refl _
      · rcases hb with ⟨h1, h2⟩ | ⟨bq, h1, h2, h3, h4, h5⟩
        · exact absurd ⟨z1, z2⟩ (h2 q' (by omega))
        · have a := hs (by omega)
          have b' := h5 q' (by omega) z1 z2
          rw [h1] at a
          have a' : wR S q ≤ wR S bq := a
          omega⟩)
    have b8 : -1 ≤ b ∧ b < (q : Int) := by
      rcases hb with ⟨h1, h2⟩ | ⟨bq, h1, h2, h3, h4, h5⟩ <;> omega
    have eq36 : M 36 ((q : Int)).toNat = wR S q := toR ht (by omega)
    have eb36 : 0 ≤ b → M 36 b.toNat = wR S b.toNat := fun h0 => toR ht (by omega)
    refine (s154_5 ⟨fun q1 => ?_, fun q2 => ?_⟩)
    · omega
    · refine c151 (by omega) (by omega) (by omega) ha (fun z => ?_) (fun z => ?_)
      · have w := ew z
        refine ⟨fun q3 => ⟨⟨by omega, by omega⟩, ?_⟩, fun q4 => ⟨⟨(by first | omega | assumption | (refine ⟨?_, ?_⟩ <;> omega) | (simp_all; done)), (by first | omega | assumption | (refine ⟨?_, ?_⟩ <;> omega) | (simp_all; done))⟩, fun q5 => ⟨⟨by omega, by omega⟩, ?_⟩, fun q6 => ⟨fun q7 => ⟨⟨by omega, by omega⟩, ?_⟩, fun q8 => ⟨⟨(by first | omega | assumption | (refine ⟨?_, ?_⟩ <;> omega) | (simp_all; done)), (by first | omega | assumption | (refine ⟨?_, ?_⟩ <;> omega) | (simp_all; done))⟩, ⟨(by first | omega | assumption | (refine ⟨?_, ?_⟩ <;> omega) | (simp_all; done)), (by first | omega | assumption | (refine ⟨?_, ?_⟩ <;> omega) | (simp_all; done))⟩, fun q9 => ⟨⟨by omega, by omega⟩, ?_⟩, fun q10 => ⟨⟨by omega, by omega⟩, ?_⟩⟩⟩⟩⟩
        · omega
        · rw [w] at q5
          exact stay (fun _ hp => absurd hp (by omega))
        · rw [w] at q6
          exact take z q6 (fun h0 => by omega)
        · have e2 := eb36 (by omega)
          rw [e2, eq36] at q9
          exact stay (fun _ _ => ⟨by omega, q9⟩)
        · have e2 := eb36 (by omega)
          rw [e2, eq36] at q10
          rw [w] at q6
          exact take z q6 (fun _ => by omega)
        all_goals omega
      · refine ⟨fun q3 => ⟨⟨by omega, by omega⟩, ?_⟩, fun q4 => ⟨⟨(by first | omega | assumption | (refine ⟨?_, ?_⟩ <;> omega) | (simp_all; done)), (by first | omega | assumption | (refine ⟨?_, ?_⟩ <;> omega) | (simp_all; done))⟩, fun q5 => ⟨⟨by omega, by omega⟩, ?_⟩, fun q6 => ⟨fun q7 => ⟨⟨by omega, by omega⟩, ?_⟩, fun q8 => ⟨⟨(by first | omega | assumption | (refine ⟨?_, ?_⟩ <;> omega) | (simp_all; done)), (by first | omega | assumption | (refine ⟨?_, ?_⟩ <;> omega) | (simp_all; done))⟩, ⟨(by first | omega | assumption | (refine ⟨?_, ?_⟩ <;> omega) | (simp_all; done)), (by first | omega | assumption | (refine ⟨?_, ?_⟩ <;> omega) | (simp_all; done))⟩, fun q9 => ⟨⟨by omega, by omega⟩, ?_⟩, fun q10 => ⟨⟨by omega, by omega⟩, ?_⟩⟩⟩⟩⟩
        · exact stay (fun y => absurd y z)
        all_goals omega
end
