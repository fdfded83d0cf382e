/-! The reference's sets of stays. -/
def stM (pk : Nat → Nat) (Y : Nat) : Nat → Nat
  | 0 => 0
  | k + 1 => stM pk Y k ||| (if Y.testBit k = true then 2 ^ pk k else 0)
theorem stM_bit {pk : Nat → Nat} {Y s : Nat} : ∀ {n : Nat}, (stM pk Y n).testBit s = true ↔ ∃ k, k < n ∧ Y.testBit k = true ∧ pk k = s
  | 0 => ⟨fun h => absurd h tb0, fun ⟨k, h, _⟩ => absurd h (Nat.not_lt_zero k)⟩
  | n + 1 => by
    show (stM pk Y n ||| (if Y.testBit n = true then 2 ^ pk n else 0)).testBit s = true ↔ _
    rw [Nat.testBit_or, Bool.or_eq_true, stM_bit (n := n)]
    constructor
    · rintro (⟨k, k0, k1, k2⟩ | h)
      · exact ⟨k, by omega, k1, k2⟩
      · by_cases c : Y.testBit n = true
        · rw [if_pos c, bit_pow, decide_eq_true_iff] at h
          exact ⟨n, by omega, c, h⟩
        · rw [if_neg c] at h
          exact absurd h tb0
    · rintro ⟨k, k0, k1, k2⟩
      by_cases c : k = n
      · right
        rw [c] at k1 k2
        rw [if_pos k1, bit_pow, decide_eq_true_iff]
        exact k2
      · exact Or.inl ⟨k, by omega, k1, k2⟩
theorem stM_lt {pk : Nat → Nat} {Y : Nat} : ∀ {n : Nat}, (∀ k, k < n → pk k < 18) → stM pk Y n < 262144
  | 0, _ => (by decide : 0 < 262144)
  | n + 1, h => by
    have h1 := stM_lt (pk := pk) (Y := Y) (n := n) (fun k hk => h k (by omega))
    have h3 : (2 : Nat) ^ 18 = 262144 := by decide
    rw [← h3] at h1 ⊢
    refine Nat.or_lt_two_pow h1 ?_
    split
    · exact Nat.pow_lt_pow_right (by decide) (h n (by omega))
    · decide
theorem up_0 {S : Nat → Int} {law : Int} {Z n : Nat} : nS (upS S law Z n) n = 0 ↔ ∀ i j : Nat, i < j → j < n → Z.testBit i = true → Z.testBit j = true → ¬ crS S i j law := by
  rw [nS_zero (fun i _ => (upS_b S law Z n i).1)]
  constructor
  · intro h i j hij hj zi zj hc
    have h1 := (nS_zero (f := upF S law Z i) (n := n) (fun j _ => (upF_b S law Z i j).1)).mp (h i (by omega)) j hj
    unfold upF prF at h1
    rw [if_pos hij, if_pos ⟨zi, zj, crQ_y ⟨by omega, hc⟩⟩] at h1
    exact absurd h1 (by decide)
  · intro h i hi
    refine (nS_zero (f := upF S law Z i) (n := n) (fun j _ => (upF_b S law Z i j).1)).mpr (fun j hj => ?_)
    unfold upF prF
    by_cases c : i < j
    · rw [if_pos c]
      refine if_neg (fun z => ?_)
      exact h i j c hj z.1 z.2.1 (by
        have := z.2.2
        refine Classical.byContradiction fun w => ?_
        rw [crQ_n (fun y => w y.2)] at this
        exact absurd this (by decide))
    · rw [if_neg c]
def pkOk (pk : Nat → Nat) (n s1 : Nat) : Prop := (∀ k, k < n → pk k < s1) ∧ ∀ i j, i < n → j < n → pk i = pk j → i = j
theorem inD_st {S : Nat → Int} {law : Int} {pk : Nat → Nat} {n s1 Y : Nat} (hp : pkOk pk n s1) (hY : ∀ q, Y.testBit q = true → q < n) : nS (upS S law (stM pk Y n) s1) s1 = 0 ↔ inD (adJ S law pk) Y := by
  rw [up_0]
  constructor
  · intro h i j hi hj ne ha
    have hi2 := hY i hi
    have hj2 := hY j hj
    have zi := (stM_bit (pk := pk) (Y := Y) (n := n) (s := pk i)).mpr ⟨i, hi2, hi, rfl⟩
    have zj := (stM_bit (pk := pk) (Y := Y) (n := n) (s := pk j)).mpr ⟨j, hj2, hj, rfl⟩
    rcases Nat.lt_trichotomy (pk i) (pk j) with c | c | c
    · exact h _ _ c (hp.1 j hj2) zi zj ha
    · exact ne (hp.2 i j hi2 hj2 c)
    · exact h _ _ c (hp.1 i hi2) zj zi ha.sym
  · intro h i j hij hj zi zj hc
    obtain ⟨a, a0, a1, a2⟩ := stM_bit.mp zi
    obtain ⟨b, b0, b1, b2⟩ := stM_bit.mp zj
    refine h a b a1 b1 (fun z => ?_) ?_
    · rw [z] at a2; omega
    · unfold adJ
      rw [a2, b2]; exact hc
section
variable {d : Nat} {P : Int → sM → sG → Prop} {PV : sM → sG → Prop} {M : sM} {G : sG}
theorem msk_st {pk : Nat → Nat} {Y n : Nat} (hn : n < 12) (h : ∀ k, k < n + 1 → pk k < 18) : (¬ Y.testBit n = true → iOr ((stM pk Y n : Nat) : Int) 0 = ((stM pk Y (n + 1) : Nat) : Int)) ∧ (Y.testBit n = true → iOr ((stM pk Y n : Nat) : Int) (iShl 1 ((pk n : Nat) : Int)) = ((stM pk Y (n + 1) : Nat) : Int)) := by
  have l := stM_lt (pk := pk) (Y := Y) (n := n) (fun k hk => h k (by omega))
  have hk := h n (by omega)
  have hp := p18 (m := pk n) (by omega)
  have e : stM pk Y (n + 1) = stM pk Y n ||| (if Y.testBit n = true then 2 ^ pk n else 0) := rfl
  constructor
  · intro c
    rw [e, if_neg c]
    exact n_or (b := 0) (by omega) (by decide)
  · intro c
    rw [e, if_pos c, z_bit (by omega) (by omega)]
    exact n_or (by omega) (by show 2 ^ pk n < _; omega)
theorem c248 {pk : Nat → Nat} {n Y s1 : Nat} (hd : 10 ≤ d) (hn : n ≤ 12) (hY : Y < 4096) (hp : pkOk pk n s1) (hs : s1 ≤ 18) (hm : ∀ k, k < n → M 98 k = ((pk k : Nat) : Int)) (kk : P ((stM pk Y n : Nat) : Int) M G) : sC d 248 [vO 12 82, vI (Y : Int), vI (n : Int)] M G (QI P) := by
  obtain ⟨d, rfl⟩ := sD 3 (d := d) (by omega)
  refine e248 (s248_0 ?_)
  refine sUpTo (W := fun k => sW (sC (d + 2)) 248 (QI P) 5 [vO 12 82, vI (Y : Int), vI (n : Int), vI ((stM pk Y k : Nat) : Int), vI (k : Int)] [] M G 0 0) n ?_ ?_
  · refine (s248_5 ⟨fun q1 => ?_, fun q2 => ⟨fun q3 => ⟨⟨by omega, by omega⟩, ?_⟩, fun q4 => ⟨⟨(by first | omega | assumption | (refine ⟨?_, ?_⟩ <;> omega) | (simp_all; done)), (by first | omega | assumption | (refine ⟨?_, ?_⟩ <;> omega) | (simp_all; done))⟩, ⟨by omega, by omega⟩, ?_⟩⟩⟩)
    · exact kk
    all_goals omega
  · intro k hk ih
    have hh := has_12 hY (show k < 12 by omega)
    obtain ⟨m1, m2⟩ := msk_st (pk := pk) (Y := Y) (n := k) (by omega) (fun i hi => by have := hp.1 i (by omega); omega)
    have e : M 98 ((k : Int)).toNat = ((pk k : Nat) : Int) := hm k hk
    refine (s248_5 ⟨fun q1 => ?_, fun q2 => ⟨fun q3 => ⟨⟨by omega, by omega⟩, ?_⟩, fun q4 => ⟨⟨(by first | omega | assumption | (refine ⟨?_, ?_⟩ <;> omega) | (simp_all; done)), (by first | omega | assumption | (refine ⟨?_, ?_⟩ <;> omega) | (simp_all; done))⟩, ⟨by omega, by omega⟩, ?_⟩⟩⟩)
    · omega
    · rw [m1 (fun z => q3 (hh.mpr z))]; exact ih
    · rw [e, m2 (hh.mp q4)]; exact ih
theorem c249 {law : Int} {pk : Nat → Nat} {n Y s1 : Nat} (hd : 10 ≤ d) (hp : pkOk pk n s1) (hs : s1 ≤ 18) (hs1 : M 93 1 = (s1 : Int)) (hY : ∀ q, Y.testBit q = true → q < n) (hm : ∀ i : Nat, i < s1 → M 95 i = ((mskN (crQ (M 93) law i) s1 : Nat) : Int)) (k1 : clQ (adJ (M 93) law pk) Y → P 1 M G) (k0 : ¬ clQ (adJ (M 93) law pk) Y → P 0 M G) : sC d 249 [vO 12 82, vI ((stM pk Y n : Nat) : Int)] M G (QI P) := by
  obtain ⟨d, rfl⟩ := sD 3 (d := d) (by omega)
  have zl := stM_lt (pk := pk) (Y := Y) (n := n) (fun k hk => by have := hp.1 k hk; omega)
  refine e249 (s249_0 ?_)
  refine sUpTo (W := fun s => (∀ a : Nat, a < s → (stM pk Y n).testBit a = true → ∀ b, (stM pk Y n).testBit b = true → b ≠ a → crS (M 93) a b law) → sW (sC (d + 2)) 249 (QI P) 2 [vO 12 82, vI ((stM pk Y n : Nat) : Int), vI (s : Int)] [] M G 0 0) s1 ?_ ?_ (fun a ha => absurd ha (Nat.not_lt_zero a))
  · intro h
    refine (s249_2 ⟨fun q1 => ?_, fun q2 => ⟨fun q3 => ⟨⟨by omega, by omega⟩, ?_⟩, fun q4 => ⟨⟨(by first | omega | assumption | (refine ⟨?_, ?_⟩ <;> omega) | (simp_all; done)), (by first | omega | assumption | (refine ⟨?_, ?_⟩ <;> omega) | (simp_all; done))⟩, fun q5 => ⟨⟨by omega, by omega⟩, ?_⟩, fun q6 => ?_⟩⟩⟩)
    · refine k1 (fun i j hi hj ne => ?_)
      have hi2 := hY i hi
      have hj2 := hY j hj
      exact h (pk i) (hp.1 i hi2) (stM_bit.mpr ⟨i, hi2, hi, rfl⟩) (pk j) (stM_bit.mpr ⟨j, hj2, hj, rfl⟩) (fun z => ne (hp.2 i j hi2 hj2 z.symm))
    all_goals omega
  · intro s hs2 ih h
    have hh := z_has1 (s := ((stM pk Y n : Nat) : Int)) (by omega) (by omega) (show (0 : Int) ≤ s by omega) (by omega)
    have hh' : (((stM pk Y n : Nat) : Int)).toNat.testBit ((s : Int)).toNat = (stM pk Y n).testBit s := rfl
    rw [hh'] at hh
    have e : M 95 ((s : Int)).toNat = ((mskN (crQ (M 93) law s) s1 : Nat) : Int) := hm s hs2
    have ml := mskN_lt (Q := crQ (M 93) law s) (n := s1)
    have pl := p18 hs
    have ps := p18 (m := s) (by omega)
    have ea : iAnd ((mskN (crQ (M 93) law s) s1 : Nat) : Int) ((stM pk Y n : Nat) : Int) = ((mskN (crQ (M 93) law s) s1 &&& stM pk Y n : Nat) : Int) := n_and (by omega)
    have eb : iAnd ((stM pk Y n : Nat) : Int) (iXor (iShl 1 (s : Int)) (-1)) = ((stM pk Y n &&& (stM pk Y n ^^^ 2 ^ s) : Nat) : Int) := by
      rw [show iShl 1 (s : Int) = ((2 ^ s : Nat) : Int) from z_bit (by omega) (by omega)]
      exact n_dif (by omega)
    have lo : ∀ q : Nat, (stM pk Y n).testBit q = true → q < s1 := fun q hq => by
      obtain ⟨k, k0, k1, k2⟩ := stM_bit.mp hq
      rw [← k2]; exact hp.1 k k0
    have crb : ∀ q : Nat, (mskN (crQ (M 93) law s) s1).testBit q = true ↔ q < s1 ∧ s ≠ q ∧ crS (M 93) s q law := fun q => by
      rw [mskN_bit, Bool.and_eq_true, decide_eq_true_iff]
      unfold crQ
      rw [@decide_eq_true_iff _ (Classical.propDecidable _)]
    have key : mskN (crQ (M 93) law s) s1 &&& stM pk Y n = stM pk Y n &&& (stM pk Y n ^^^ 2 ^ s) ↔ ∀ b, (stM pk Y n).testBit b = true → b ≠ s → crS (M 93) s b law := by
      constructor
      · intro z b hb ne
        have : (stM pk Y n &&& (stM pk Y n ^^^ 2 ^ s)).testBit b = true := bit_off.mpr ⟨hb, ne⟩
        rw [← z, Nat.testBit_and, Bool.and_eq_true] at this
        exact ((crb b).mp this.1).2.2
      · intro z
        refine suB.eq (fun q hq => ?_) (fun q hq => ?_)
        · rw [Nat.testBit_and, Bool.and_eq_true] at hq
          exact bit_off.mpr ⟨hq.2, fun w => ((crb q).mp hq.1).2.1 w.symm⟩
        · obtain ⟨a, b⟩ := bit_off.mp hq
          rw [Nat.testBit_and, Bool.and_eq_true]
          exact ⟨(crb q).mpr ⟨lo q a, fun w => b w.symm, z q a b⟩, a⟩
    refine (s249_2 ⟨fun q1 => ?_, fun q2 => ⟨fun q3 => ⟨⟨by omega, by omega⟩, ?_⟩, fun q4 => ⟨⟨(by first | omega | assumption | (refine ⟨?_, ?_⟩ <;> omega) | (simp_all; done)), (by first | omega | assumption | (refine ⟨?_, ?_⟩ <;> omega) | (simp_all; done))⟩, fun q5 => ⟨⟨by omega, by omega⟩, ?_⟩, fun q6 => ?_⟩⟩⟩)
    · omega
    · exact ih (fun a ha => by
        by_cases c : a = s
        · rw [c]; exact fun z => absurd (hh.mpr z) q3
        · exact h a (by omega))
    · rw [e, ea, eb] at q5
      have := key.mp (by omega)
      exact ih (fun a ha => by
        by_cases c : a = s
        · rw [c]; exact fun _ => this
        · exact h a (by omega))
    · rw [e, ea, eb] at q6
      refine k0 (fun z => q6 ?_)
      rw [key.mpr (fun b hb ne => ?_)]
      obtain ⟨i, i0, i1, i2⟩ := stM_bit.mp (hh.mp q4)
      obtain ⟨j, j0, j1, j2⟩ := stM_bit.mp hb
      have := z i j i1 j1 (fun w => ne (by rw [← i2, ← j2, w]))
      unfold adJ at this
      rw [i2, j2] at this
      exact this
    all_goals omega
end
