/-! THE MEMORY: each cell, and how the whole is kept by a write, a making, the setting of a final reference. -/
def sFV (ρ : Nat → Nat) (M : sM) (a c y k : Nat) : Value := if (sFI c k).2.2.1 = 0 then .int (Int32.ofInt (M a k)) else if (sFI c k).1 < y then .ref (ρ (a + (sFI c k).2.1)) else .null
def sCellK (D : va_G) (ρ : Nat → Nat) (M : sM) (G : sG) (U : State) (H : Heap) (a : Nat) (q : Nat × Nat × Nat) : Prop := match q with
  | (0, _, _) => True
  | (1, c, y) => ∃ r, sCl[c]? = some r ∧ t_OB (ρ a) (D.1 c) r.2.2 (D.2 c) H (sFV ρ M a c y) ∧ (∀ k, k < r.2.2 → (sFI c k).2.2.1 = 0 → sI (M a k)) ∧ ∀ k, k < r.2.2 → (sFI c k).2.2.1 ≠ 0 → (sFI c k).1 < y → sOK G (sRef G a (sFI c k))
  | (2, n, _) => ∃ cA, va_K D sCl [(cA, .int)] U ∧ H[ρ a]? = some (arrV cA n (fun j => .int (Int32.ofInt (M a j)))) ∧ ∀ j, sI (M a j)
  | (3, n, _) => ∃ cA, va_K D sCl [(cA, .long)] U ∧ H[ρ a]? = some (arrV cA n (fun j => .long (Int64.ofInt (M a j)))) ∧ ∀ j, sJ (M a j)
  | (4, n, _) => ∃ cA, va_K D sCl [(cA, .byte)] U ∧ H[ρ a]? = some (arrV cA n (fun j => .int (Int32.ofInt (M a j)))) ∧ ∀ j, -128 ≤ M a j ∧ M a j ≤ 127
  | (5, n, _) => ∃ cA, va_K D sCl [(cA, .boolean)] U ∧ H[ρ a]? = some (arrV cA n (fun j => .int (Int32.ofInt (M a j)))) ∧ ∀ j, M a j = 0 ∨ M a j = 1
  | (6, n, c) => ∃ cA r, sCl[c]? = some r ∧ va_K D sCl [(cA, .object r.1)] U ∧ H[ρ a]? = some (arrV cA n (fun j => if M a j = 0 then .null else .ref (ρ (M a j).toNat))) ∧ ∀ j, 0 ≤ M a j ∧ (M a j = 0 ∨ G (M a j).toNat = (1, c, sFul c))
  | (7, n, _) => va_X (ρ a) n (fun j => Int32.ofInt (M a j)) U H ∧ ∀ j, sI (M a j)
  | (8, c, _) => ∃ r, sCl[c]? = some r ∧ t_OB (ρ a) (D.1 c) r.2.2 (D.2 c) H (sFV ρ M a c 0) ∧ ∀ k, k < r.2.2 → (sFI c k).2.2.1 = 0 → sI (M a k)
  | _ => False
def sStr1 (sa : Nat → Nat) (b j v : Nat) (U : State) (H : Heap) : Prop := va_O "java/lang/String" (sa j) (fun q => b ≤ q) U H ∧ va_OF "java/lang/String" "coder" "B" (.int 0) (sa j) (fun q => b ≤ q) U H ∧ va_OF "java/lang/String" "value" "[B" (.ref v) (sa j) (fun q => b ≤ q) U H ∧ va_T .byte v (sLen j) (fun i => .int (Int32.ofInt (sChr j i))) (fun q => b ≤ q) U H
def sStJ (b : Nat) (U : State) (H : Heap) : Prop := va_Z "java/lang/String" "COMPACT_STRINGS" "Z" (.int 1) (fun q => b ≤ q) U H ∧ va_Zq "jdk/internal/util/Preconditions" "SIOOBE_FORMATTER" "Ljava/util/function/BiFunction;" (fun q => b ≤ q) U H
def sStrs (sa : Nat → Nat) (b : Nat) (U : State) (H : Heap) : Prop := (∀ j, j < 21 → ∃ v, sStr1 sa b j v U H) ∧ sStJ b U H
theorem sStr1.moved {sa : Nat → Nat} {b j v : Nat} {U U' : State} {H : Heap} (hvm : U.vm.Alike U'.vm) (h : sStr1 sa b j v U H) : sStr1 sa b j v U' H := ⟨h.1.moved hvm, h.2.1.moved hvm, h.2.2.1.moved hvm, h.2.2.2.moved hvm⟩
theorem sStJ.moved {b : Nat} {U U' : State} {H : Heap} (hvm : U.vm.Alike U'.vm) (h : sStJ b U H) : sStJ b U' H := ⟨h.1.moved hvm, h.2.moved hvm⟩
theorem sStrs.moved {sa : Nat → Nat} {b : Nat} {U U' : State} {H : Heap} (hvm : U.vm.Alike U'.vm) (h : sStrs sa b U H) : sStrs sa b U' H := ⟨fun j hj => by
  obtain ⟨v, h1⟩ := h.1 j hj
  exact ⟨v, h1.moved hvm⟩, h.2.moved hvm⟩
def sHR (D : va_G) (sa : Nat → Nat) (b : Nat) (ρ : Nat → Nat) (M : sM) (G : sG) (U : State) (H : Heap) : Prop :=
  G 0 = (0, 0, 0) ∧ b ≤ H.size ∧ (∀ a, G a ≠ (0, 0, 0) → ρ a < H.size ∧ ((G a).1 ≠ 7 → b ≤ ρ a) ∧ ((G a).1 = 7 → ρ a < b)) ∧ (∀ a a', G a ≠ (0, 0, 0) → G a' ≠ (0, 0, 0) → ρ a = ρ a' → a = a') ∧ (∀ a, sCellK D ρ M G U H a (G a)) ∧ sStrs sa b U H
theorem sOK_alloc {G : sG} {v : sV} (h : sOK G v) (h1 : 3 < v.1) (h2 : v.1 < 40 ∨ 60 ≤ v.1) : G v.2.1 ≠ (0, 0, 0) := by
  intro z
  unfold sOK at h
  rw [if_neg (by omega), if_neg (by omega), if_neg (by omega), if_neg (by omega)] at h
  by_cases c4 : v.1 < 9
  · rw [if_pos c4, z] at h
    have := congrArg Prod.fst h.2
    simp only at this
    split at this <;> omega
  rw [if_neg c4] at h
  by_cases c5 : v.1 < 20
  · rw [if_pos c5] at h; exact h
  rw [if_neg c5] at h
  by_cases c6 : v.1 < 33
  · rw [if_pos c6, z] at h; exact absurd (congrArg Prod.fst h.2) (by simp)
  rw [if_neg c6] at h
  by_cases c7 : v.1 < 40
  · rw [if_pos c7] at h; exact h
  rw [if_neg c7, if_neg (by omega), if_neg (by omega)] at h
  by_cases c10 : v.1 < 73
  · rw [if_pos c10, z] at h; exact absurd (congrArg Prod.fst h.2) (by simp)
  rw [if_neg c10] at h
  by_cases c11 : v.1 < 80
  · rw [if_pos c11] at h; exact h
  rw [if_neg c11] at h
  by_cases c12 : v.1 < 93
  · rw [if_pos c12, z] at h; exact absurd (congrArg Prod.fst h.2.2) (by simp)
  rw [if_neg c12] at h
  by_cases c13 : v.1 < 100
  · rw [if_pos c13] at h; exact h
  rw [if_neg c13, z] at h
  exact absurd (congrArg Prod.fst h.2.2) (by simp)
/-- what a value of no object under construction speaks of is no such object -/
theorem sOK_done {G : sG} {v : sV} (h : sOK G v) (h1 : v.1 < 60 ∨ 100 ≤ v.1) (h3 : v.1 < 40 ∨ 53 ≤ v.1 ∨ v.2.1 ≠ 0) (h4 : 3 < v.1) : ∀ c y, G v.2.1 = (1, c, y) → y = sFul c := by
  intro c y z
  unfold sOK at h
  rw [if_neg (by omega), if_neg (by omega), if_neg (by omega), if_neg (by omega)] at h
  by_cases c4 : v.1 < 9
  · rw [if_pos c4, z] at h
    have := congrArg Prod.fst h.2
    simp only at this
    split at this <;> omega
  rw [if_neg c4] at h
  by_cases c5 : v.1 < 20
  · rw [if_pos c5] at h; exact h.elim
  rw [if_neg c5] at h
  by_cases c6 : v.1 < 33
  · rw [if_pos c6, z] at h
    have h2 := h.2
    simp only [Prod.mk.injEq] at h2
    rw [h2.2.2, h2.2.1]
  rw [if_neg c6] at h
  by_cases c7 : v.1 < 40
  · rw [if_pos c7] at h; exact h.elim
  rw [if_neg c7] at h
  by_cases c8 : v.1 < 53
  · rw [if_pos c8, z] at h
    rcases h with h | h
    · omega
    · simp only [Prod.mk.injEq] at h
      rw [h.2.2, h.2.1]
  rw [if_neg c8] at h
  by_cases c9 : v.1 < 60
  · rw [if_pos c9] at h; exact h.elim
  rw [if_neg c9, if_neg (by omega), if_neg (by omega), if_neg (by omega), if_neg (by omega), z] at h
  exact absurd (congrArg Prod.fst h.2.2) (by simp)
/-- a cell to which nothing happened -/
theorem sCellK.to {D : va_G} {ρ ρ1 : Nat → Nat} {M M1 : sM} {G G1 : sG} {U : State} {H H1 : Heap} {a : Nat} {q : Nat × Nat × Nat} (h : sCellK D ρ M G U H a q) (hH : q.1 ≠ 0 → H1[ρ a]? = H[ρ a]?) (ha : q.1 ≠ 0 → ρ1 a = ρ a) (hρ : ∀ a', G a' ≠ (0, 0, 0) → ρ1 a' = ρ a') (hM : ∀ j, M1 a j = M a j)
    (hG : ∀ a', G a' ≠ (0, 0, 0) → (∀ c y, G a' = (1, c, y) → y = sFul c) → G1 a' = G a') : sCellK D ρ1 M1 G1 U H1 a q := by
  obtain ⟨q0, q1, q2⟩ := q
  match q0, h with
  | 0, h => trivial
  | 1, h =>
    obtain ⟨r, h1, ⟨cell, e1, e2, e3, e4⟩, h3, h4⟩ := h
    refine ⟨r, h1, ⟨cell, ?_, e2, e3, fun k hk => ?_⟩, fun k hk h0 => by rw [hM]; exact h3 k hk h0, fun k hk h0 hy => ?_⟩
    · rw [ha (by simp), hH (by simp)]; exact e1
    · rw [e4 k hk]
      unfold sFV
      by_cases h0 : (sFI q1 k).2.2.1 = 0
      · rw [if_pos h0, if_pos h0, hM]
      · rw [if_neg h0, if_neg h0]
        by_cases hy : (sFI q1 k).1 < q2
        · rw [if_pos hy, if_pos hy]
          rcases (tabT h1 hk).1 with t | t
          · exact absurd t.2 h0
          · rw [show ρ1 (a + (sFI q1 k).2.1) = ρ (a + (sFI q1 k).2.1) from hρ _ (sOK_alloc (h4 k hk h0 hy) t.2.2.2.2.2.2.1 t.2.2.2.2.2.2.2)]
        · rw [if_neg hy, if_neg hy]
    · rcases (tabT h1 hk).1 with t | t
      · exact absurd t.2 h0
      · have hok := h4 k hk h0 hy
        have hal := sOK_alloc hok t.2.2.2.2.2.2.1 t.2.2.2.2.2.2.2
        have hd := sOK_done hok t.2.2.2.2.2.1 (by rcases t.2.2.2.2.2.2.2 with z | z <;> simp only [sRef] <;> omega) t.2.2.2.2.2.2.1
        have hg := hG _ hal hd
        have e : sRef G1 a (sFI q1 k) = sRef G a (sFI q1 k) := by
          have hg' : G1 (a + (sFI q1 k).2.1) = G (a + (sFI q1 k).2.1) := hg
          unfold sRef; rw [hg']
        rw [e]
        exact sOK_to hok (fun _ => hg)
  | 2, h => obtain ⟨cA, h1, h2, h3⟩ := h; exact ⟨cA, h1, by rw [ha (by simp), hH (by simp), h2]; simp only [hM], fun j => by rw [hM]; exact h3 j⟩
  | 3, h => obtain ⟨cA, h1, h2, h3⟩ := h; exact ⟨cA, h1, by rw [ha (by simp), hH (by simp), h2]; simp only [hM], fun j => by rw [hM]; exact h3 j⟩
  | 4, h => obtain ⟨cA, h1, h2, h3⟩ := h; exact ⟨cA, h1, by rw [ha (by simp), hH (by simp), h2]; simp only [hM], fun j => by rw [hM]; exact h3 j⟩
  | 5, h => obtain ⟨cA, h1, h2, h3⟩ := h; exact ⟨cA, h1, by rw [ha (by simp), hH (by simp), h2]; simp only [hM], fun j => by rw [hM]; exact h3 j⟩
  | 6, h =>
    obtain ⟨cA, r, h1, h2, h3, h4⟩ := h
    have key : ∀ j, M a j ≠ 0 → G (M a j).toNat ≠ (0, 0, 0) ∧ G1 (M a j).toNat = G (M a j).toNat := fun j hj => by
      rcases h4 j with ⟨-, z | z⟩
      · exact absurd z hj
      · have hne : G (M a j).toNat ≠ (0, 0, 0) := by rw [z]; simp
        exact ⟨hne, hG _ hne (fun c y e => by rw [z] at e; simp only [Prod.mk.injEq] at e; rw [← e.2.2, e.2.1])⟩
    refine ⟨cA, r, h1, h2, ?_, fun j => ?_⟩
    · rw [ha (by simp), hH (by simp), h3]
      congr 2
      funext j
      rw [hM]
      by_cases hz : M a j = 0
      · rw [if_pos hz, if_pos hz]
      · rw [if_neg hz, if_neg hz, hρ _ (key j hz).1]
    · rw [hM]
      refine ⟨(h4 j).1, ?_⟩
      rcases (h4 j).2 with z | z
      · exact Or.inl z
      · by_cases hz : M a j = 0
        · exact Or.inl hz
        · exact Or.inr (by rw [(key j hz).2]; exact z)
  | 7, h =>
    obtain ⟨h1, h2⟩ := h
    refine ⟨?_, fun j => by rw [hM]; exact h2 j⟩
    rw [ha (by simp)]
    have e : (fun j => Int32.ofInt (M1 a j)) = fun j => Int32.ofInt (M a j) := by funext j; rw [hM]
    rw [e]
    exact h1.kept (hH (by simp))
  | 8, h =>
    obtain ⟨r, h1, ⟨cell, e1, e2, e3, e4⟩, h3⟩ := h
    refine ⟨r, h1, ⟨cell, ?_, e2, e3, fun k hk => ?_⟩, fun k hk h0 => by rw [hM]; exact h3 k hk h0⟩
    · rw [ha (by simp), hH (by simp)]; exact e1
    · rw [e4 k hk]
      unfold sFV
      by_cases h0 : (sFI q1 k).2.2.1 = 0
      · rw [if_pos h0, if_pos h0, hM]
      · rw [if_neg h0, if_neg h0, if_neg (Nat.not_lt_zero _), if_neg (Nat.not_lt_zero _)]
  | n + 9, h => exact h.elim
theorem sCellK.moved {D : va_G} {ρ : Nat → Nat} {M : sM} {G : sG} {U U' : State} {H : Heap} {a : Nat} {q : Nat × Nat × Nat} (hvm : U.vm.Alike U'.vm) (h : sCellK D ρ M G U H a q) : sCellK D ρ M G U' H a q := by
  obtain ⟨q0, q1, q2⟩ := q
  match q0, h with
  | 0, h => trivial
  | 1, h => exact h
  | 2, h => obtain ⟨cA, h1, h2⟩ := h; exact ⟨cA, va_K.moved hvm h1, h2⟩
  | 3, h => obtain ⟨cA, h1, h2⟩ := h; exact ⟨cA, va_K.moved hvm h1, h2⟩
  | 4, h => obtain ⟨cA, h1, h2⟩ := h; exact ⟨cA, va_K.moved hvm h1, h2⟩
  | 5, h => obtain ⟨cA, h1, h2⟩ := h; exact ⟨cA, va_K.moved hvm h1, h2⟩
  | 6, h => obtain ⟨cA, r, h1, h2, h3⟩ := h; exact ⟨cA, r, h1, va_K.moved hvm h2, h3⟩
  | 7, h => exact ⟨va_X.moved hvm h.1, h.2⟩
  | 8, h => exact h
  | n + 9, h => exact h.elim
theorem sHR.moved {D : va_G} {sa : Nat → Nat} {b : Nat} {ρ : Nat → Nat} {M : sM} {G : sG} {U U' : State} {H : Heap} (hvm : U.vm.Alike U'.vm) (h : sHR D sa b ρ M G U H) : sHR D sa b ρ M G U' H :=
  ⟨h.1, h.2.1, h.2.2.1, h.2.2.2.1, fun a => (h.2.2.2.2.1 a).moved hvm, h.2.2.2.2.2.moved hvm⟩
theorem sStrs.kept {sa : Nat → Nat} {b : Nat} {U : State} {H H1 : Heap} (h : sStrs sa b U H) (hq : ∀ q, q < H.size → ¬ b ≤ q → H1[q]? = H[q]?) : sStrs sa b U H1 := ⟨fun j hj => by
  obtain ⟨v, h1, h2, h3, h4⟩ := h.1 j hj
  exact ⟨v, h1.kept hq, h2.kept hq, h3.kept hq, h4.kept hq⟩, h.2.1.kept hq, h.2.2.kept hq⟩
theorem sG_ne {G : sG} {a k x y : Nat} (h : G a = (k, x, y)) (hk : k ≠ 0) : G a ≠ (0, 0, 0) := by rw [h]; intro z; exact hk (congrArg Prod.fst z)
/-- a write into one cell -/
theorem sHR.write {D : va_G} {sa : Nat → Nat} {b : Nat} {ρ : Nat → Nat} {M M1 : sM} {G : sG} {U : State} {H H1 : Heap} (h : sHR D sa b ρ M G U H) {a : Nat} (ha : G a ≠ (0, 0, 0)) (h7 : (G a).1 ≠ 7) (hz : H1.size = H.size) (ho : ∀ q, q ≠ ρ a → H1[q]? = H[q]?) (hM : ∀ a' j, a' ≠ a → M1 a' j = M a' j)
    (hc : sCellK D ρ M1 G U H1 a (G a)) : sHR D sa b ρ M1 G U H1 := by
  obtain ⟨g0, hb, hl, hi, hcell, hs⟩ := h
  refine ⟨g0, by omega, fun a' h' => by rw [hz]; exact hl a' h', hi, fun a' => ?_, hs.kept (fun q hq hn => ho q (fun e => hn (by rw [e]; exact (hl a ha).2.1 h7)))⟩
  by_cases e : a' = a
  · subst e; exact hc
  · refine (hcell a').to (fun hq => ho _ (fun e2 => e (hi _ _ (fun z => hq (by rw [z])) ha e2))) (fun _ => rfl) (fun _ _ => rfl) (fun j => hM a' j e) (fun _ _ _ => rfl)
/-- a making -/
theorem sHR.make {D : va_G} {sa : Nat → Nat} {b : Nat} {ρ : Nat → Nat} {M M1 : sM} {G : sG} {U : State} {H H1 : Heap} (h : sHR D sa b ρ M G U H) {a : Nat} (ha : G a = (0, 0, 0)) (h0 : 0 < a) {q : Nat × Nat × Nat} (hq0 : q.1 ≠ 0) (hq7 : q.1 ≠ 7) (hz : H1.size = H.size + 1) (ho : ∀ q, q < H.size → H1[q]? = H[q]?) (hM : ∀ a' j, a' ≠ a → M1 a' j = M a' j)
    (hc : sCellK D (fun x => if x = a then H.size else ρ x) M1 (sGs G a q) U H1 a q) : sHR D sa b (fun x => if x = a then H.size else ρ x) M1 (sGs G a q) U H1 := by
  obtain ⟨g0, hb, hl, hi, hcell, hs⟩ := h
  have hGn : ∀ a', a' ≠ a → sGs G a q a' = G a' := fun a' e => by unfold sGs; rw [if_neg e]
  have hGa : sGs G a q a = q := by unfold sGs; rw [if_pos rfl]
  refine ⟨by rw [hGn 0 (by omega)]; exact g0, by omega, fun a' h' => ?_, fun x y hx hy e => ?_, fun a' => ?_, hs.kept (fun q hq hn => ho q hq)⟩
  · by_cases e : a' = a
    · subst e
      rw [hGa]
      dsimp only
      rw [if_pos rfl, hz]
      exact ⟨by omega, fun _ => hb, fun z => absurd z hq7⟩
    · rw [hGn a' e] at h' ⊢
      dsimp only
      rw [if_neg e, hz]
      have := hl a' h'
      exact ⟨by omega, this.2⟩
  · by_cases ex : x = a
    · by_cases ey : y = a
      · rw [ex, ey]
      · rw [hGn y ey] at hy
        have e' : H.size = ρ y := by simpa [ex, ey] using e
        have := (hl y hy).1
        omega
    · rw [hGn x ex] at hx
      by_cases ey : y = a
      · have e' : ρ x = H.size := by simpa [ex, ey] using e
        have := (hl x hx).1
        omega
      · rw [hGn y ey] at hy
        exact hi x y hx hy (by simpa [ex, ey] using e)
  · by_cases e : a' = a
    · subst e; rw [hGa]; exact hc
    · rw [hGn a' e]
      refine (hcell a').to (fun hq => ho _ (hl a' (fun z => hq (by rw [z]))).1) (fun _ => by simp only [if_neg e]) (fun x hx => ?_) (fun j => hM a' j e) (fun x hx _ => ?_)
      · have : x ≠ a := fun e => hx (by rw [e]; exact ha)
        simp only [if_neg this]
      · exact hGn x (fun e => hx (by rw [e]; exact ha))
/-- no cell speaks of an object that was only made -/
theorem sCellK.bump {D : va_G} {ρ : Nat → Nat} {M : sM} {G : sG} {U : State} {H : Heap} {a a' c : Nat} {q : Nat × Nat × Nat} (h : sCellK D ρ M G U H a' q) (ha : G a = (8, c, 0)) : sCellK D ρ M (sGs G a (1, c, 0)) U H a' q := by
  have hGn : ∀ a', a' ≠ a → sGs G a (1, c, 0) a' = G a' := fun a' e => by unfold sGs; rw [if_neg e]
  obtain ⟨q0, q1, q2⟩ := q
  match q0, h with
  | 0, h => trivial
  | 1, h =>
    obtain ⟨r, h1, h2, h3, h4⟩ := h
    refine ⟨r, h1, h2, h3, fun k hk h0 hy => ?_⟩
    have hok := h4 k hk h0 hy
    rcases (tabT h1 hk).1 with t | t
    · exact absurd t.2 h0
    have hne : a' + (sFI q1 k).2.1 ≠ a := fun z => by
      have hok' := hok
      unfold sOK at hok'
      have hz : G (sRef G a' (sFI q1 k)).2.1 = (8, c, 0) := by show G (a' + (sFI q1 k).2.1) = _; rw [z]; exact ha
      have t1 : (sRef G a' (sFI q1 k)).1 = (sFI q1 k).2.2.1 := rfl
      rw [hz] at hok'
      rw [if_neg (by rw [t1]; omega), if_neg (by rw [t1]; omega), if_neg (by rw [t1]; omega), if_neg (by rw [t1]; omega)] at hok'
      rw [t1] at hok'
      by_cases c4 : (sFI q1 k).2.2.1 < 9
      · rw [if_pos c4] at hok'
        have := congrArg Prod.fst hok'.2
        simp only at this
        split at this <;> omega
      rw [if_neg c4] at hok'
      by_cases c5 : (sFI q1 k).2.2.1 < 20
      · rw [if_pos c5] at hok'; exact hok'
      rw [if_neg c5] at hok'
      by_cases c6 : (sFI q1 k).2.2.1 < 33
      · rw [if_pos c6] at hok'; exact absurd (congrArg Prod.fst hok'.2) (by simp)
      rw [if_neg c6] at hok'
      by_cases c7 : (sFI q1 k).2.2.1 < 40
      · rw [if_pos c7] at hok'; exact hok'
      have := t.2.2.2.2.2.1
      have := t.2.2.2.2.2.2.2
      rw [if_neg c7, if_neg (by omega), if_neg (by omega), if_neg (by omega), if_neg (by omega), if_neg (by omega), if_neg (by omega)] at hok'
      exact absurd (congrArg Prod.fst hok'.2.2) (by simp)
    have e1 : sRef (sGs G a (1, c, 0)) a' (sFI q1 k) = sRef G a' (sFI q1 k) := by unfold sRef; rw [hGn _ hne]
    rw [e1]
    exact sOK_to hok (fun _ => hGn _ hne)
  | 2, h => exact h
  | 3, h => exact h
  | 4, h => exact h
  | 5, h => exact h
  | 6, h =>
    obtain ⟨cA, r, h1, h2, h3, h4⟩ := h
    refine ⟨cA, r, h1, h2, h3, fun j => ⟨(h4 j).1, ?_⟩⟩
    rcases (h4 j).2 with z | z
    · exact Or.inl z
    · refine Or.inr ?_
      rw [hGn _ (fun y => by rw [y, ha] at z; cases z)]
      exact z
  | 7, h => exact h
  | 8, h => exact h
  | n + 9, h => exact h.elim
/-- the constructor begins -/
theorem sHR.begins {D : va_G} {sa : Nat → Nat} {b : Nat} {ρ : Nat → Nat} {M : sM} {G : sG} {U : State} {H : Heap} (h : sHR D sa b ρ M G U H) {a c : Nat} (ha : G a = (8, c, 0)) : sHR D sa b ρ M (sGs G a (1, c, 0)) U H := by
  obtain ⟨g0, hb, hl, hi, hcell, hs⟩ := h
  have hane : G a ≠ (0, 0, 0) := sG_ne ha (by simp)
  have hGn : ∀ a', a' ≠ a → sGs G a (1, c, 0) a' = G a' := fun a' e => by unfold sGs; rw [if_neg e]
  have hGa : sGs G a (1, c, 0) a = (1, c, 0) := by unfold sGs; rw [if_pos rfl]
  have a0 : a ≠ 0 := fun e => hane (by rw [e]; exact g0)
  have hnz : ∀ a', sGs G a (1, c, 0) a' ≠ (0, 0, 0) → G a' ≠ (0, 0, 0) := fun a' h' => by
    by_cases e : a' = a
    · rw [e]; exact hane
    · rwa [hGn a' e] at h'
  refine ⟨by rw [hGn 0 (fun e => a0 e.symm)]; exact g0, hb, fun a' h' => ?_, fun x z hx hzz => hi x z (hnz x hx) (hnz z hzz), fun a' => ?_, hs⟩
  · have := hl a' (hnz a' h')
    by_cases e : a' = a
    · subst e
      rw [hGa]
      rw [ha] at this
      exact ⟨this.1, fun _ => this.2.1 (by simp), fun z => by simp at z⟩
    · rw [hGn a' e]; exact this
  · by_cases e : a' = a
    · subst e
      rw [hGa]
      have hc := hcell a'
      rw [ha] at hc
      obtain ⟨r, h1, h2, h3⟩ := hc
      exact ⟨r, h1, h2, h3, fun k hk _ hy => absurd hy (Nat.not_lt_zero _)⟩
    · rw [hGn a' e]
      exact (hcell a').bump ha
