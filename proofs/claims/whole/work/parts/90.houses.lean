/-! STEP: houses. -/
section
variable {d : Nat} {P : Int → sM → sG → Prop} {PV : sM → sG → Prop} {M : sM} {G : sG}
def chT (adj : Nat → Nat → Prop) (M : sM) (i : Nat) : Prop := ∀ Y : Nat, Y < i → ∃ h : Nat, chI adj Y h ∧ M 97 Y = (h : Int)
theorem chI.le12 {adj : Nat → Nat → Prop} {X h : Nat} (hX : X < 4096) (hh : chI adj X h) : h ≤ 12 := hh.2 12 (coL_12 hX)
/-- what has been tried: v colours do, and no set from some on does with less -/
def trV (adj : Nat → Nat → Prop) (X t : Nat) (rest : Nat) (above : Nat → Prop) (v : Int) : Prop := (v = 18 ∨ ∃ Y Z w : Nat, suB Y X ∧ inD adj Y ∧ difB X Y Z ∧ coL adj Z w ∧ v = (w : Int) + 1 ∧ w ≤ 12) ∧ ∀ s : Nat, suB s rest → above s → inD adj (s ||| 2 ^ t) → ∀ Z k : Nat, difB X (s ||| 2 ^ t) Z → coL adj Z k → v ≤ (k : Int) + 1
theorem r247h {law : Int} {pk : Nat → Nat} {n s1 : Nat} (hn : n ≤ 12) (hp : pkOk pk n s1) (hs : s1 ≤ 18) (hs1 : M 93 1 = (s1 : Int)) (hm : ∀ k, k < n → M 98 k = ((pk k : Nat) : Int)) (hc : ∀ i : Nat, i < s1 → M 95 i = ((mskN (crQ (M 93) law i) s1 : Nat) : Int)) {i : Nat} (i0 : 0 < i) (hi : i < 2 ^ n) (hT : chT (adJ (M 93) law pk) M i) (ih : ∀ N : sM, (∀ a, a ≠ 97 → N a = M a) → chT (adJ (M 93) law pk) N (i + 1) → sW (sC (d + 20)) 247 (QI P) 112 [vO 12 82, vN, vN, vI 0, vI (n : Int), vI 0, vI ((i + 1 : Nat) : Int), vN, vN, vN, vN, vN] [] N G 0 0) {t : Nat} (t1 : i.testBit t = true) (t2 : ∀ q : Nat, (i &&& (i - 1)).testBit q = true ↔ i.testBit q = true ∧ q ≠ t) : sW (sC (d + 20)) 247 (QI P) 198 [vO 12 82, vN, vN, vI 0, vI (n : Int), vI 0, vI (i : Int), vI ((2 ^ t : Nat) : Int), vI ((i &&& (i - 1) : Nat) : Int), vI ((i &&& (i - 1) : Nat) : Int), vI 1, vN] [] (sUpd M 97 i 18) G 0 0 := by
  have hpn := p12 hn
  have il : i < 4096 := by omega
  have t12 := bit_lt il t1
  have pt := p12 (m := t) (by omega)
  obtain ⟨R, hR⟩ : ∃ R, R = i &&& (i - 1) := ⟨_, rfl⟩
  rw [← hR] at t2 ⊢
  have Rl : R ≤ i - 1 := by rw [hR]; exact Nat.and_le_right
  have hYb : ∀ q, i.testBit q = true → q < n := fun q hq => by
    rcases Nat.lt_or_ge q n with c | c
    · exact c
    · rw [Nat.testBit_lt_two_pow (Nat.lt_of_lt_of_le hi (Nat.pow_le_pow_right (by decide) c))] at hq
      exact absurd hq (by decide)
  -- a set that goes with the lowest
  have orb : ∀ s : Nat, suB s R → suB (s ||| 2 ^ t) i ∧ ∀ q : Nat, (R ^^^ s).testBit q = true ↔ i.testBit q = true ∧ ¬ (s ||| 2 ^ t).testBit q = true := fun s hs => by
    constructor
    · intro q hq
      rcases or_tb.mp hq with z | z
      · exact ((t2 q).mp (hs q z)).1
      · rw [← z]; exact t1
    · intro q
      rw [xor_sub hs, t2 q, or_tb]
      exact ⟨fun h => ⟨h.1.1, fun z => z.elim h.2 (fun y => h.1.2 y.symm)⟩, fun h => ⟨⟨h.1, fun z => h.2 (Or.inr z.symm)⟩, fun z => h.2 (Or.inl z)⟩⟩
  have fin : ∀ (N : sM) (v : Int), (∀ a, a ≠ 97 → N a = M a) → (∀ Y : Nat, Y ≠ i → N 97 Y = M 97 Y) → N 97 i = v → trV (adJ (M 93) law pk) i t R (fun _ => True) v → sW (sC (d + 20)) 247 (QI P) 112 [vO 12 82, vN, vN, vI 0, vI (n : Int), vI 0, vI ((i + 1 : Nat) : Int), vN, vN, vN, vN, vN] [] N G 0 0 := fun N v n1 n2 n3 h => by
    refine ih N n1 (fun Y hY => ?_)
    by_cases c : Y = i
    · rw [c]
      obtain ⟨h1, h2⟩ := h
      have h0 := h2 0 (fun q hq => absurd hq tb0) trivial (fun a b ha hb ne => by
        rcases or_tb.mp ha with z | z
        · exact absurd z tb0
        · rcases or_tb.mp hb with w | w
          · exact absurd w tb0
          · exact absurd (z.symm.trans w) ne) (R ^^^ 0) 12 ((orb 0 (fun q hq => absurd hq tb0)).2) (coL_12 (by rw [Nat.xor_zero]; omega))
      obtain ⟨Y', Z, w, y1, y2, y3, y4, y5, y6⟩ := h1.resolve_left (by omega)
      refine ⟨w + 1, ch_step il t1 ⟨Y', Z, y1, y2, y3, y4⟩ (fun Y2 Z2 k z1 z2 z3 z4 z5 => ?_), by omega⟩
      have hs2 : suB (Y2 &&& (Y2 ^^^ 2 ^ t)) R := fun q hq => by
        obtain ⟨a, b⟩ := bit_off.mp hq
        exact (t2 q).mpr ⟨z1 q a, b⟩
      have eY : (Y2 &&& (Y2 ^^^ 2 ^ t)) ||| 2 ^ t = Y2 := suB.eq (fun q hq => by
        rcases or_tb.mp hq with z | z
        · exact (bit_off.mp z).1
        · rw [← z]; exact z2) (fun q hq => by
        by_cases c : t = q
        · exact or_tb.mpr (Or.inr c)
        · exact or_tb.mpr (Or.inl (bit_off.mpr ⟨hq, fun z => c z.symm⟩)))
      have := h2 _ hs2 trivial (by rw [eY]; exact z3) Z2 k (by rw [eY]; exact z4) z5
      omega
    · obtain ⟨h', a, b⟩ := hT Y (by omega)
      exact ⟨h', a, by rw [n2 Y c]; exact b⟩
  have last : ∀ (z : Int) (N : sM) (v : Int), (∀ a, a ≠ 97 → N a = M a) → (∀ Y : Nat, Y ≠ i → N 97 Y = M 97 Y) → N 97 i = v → trV (adJ (M 93) law pk) i t R (fun _ => True) v → sW (sC (d + 20)) 247 (QI P) 198 [vO 12 82, vN, vN, vI 0, vI (n : Int), vI 0, vI (i : Int), vI ((2 ^ t : Nat) : Int), vI (R : Int), vI z, vI 0, vN] [] N G 0 0 := fun z N v n1 n2 n3 htr => by
    have nx := fin N v n1 n2 n3 htr
    refine s247_198 ⟨fun _ => ⟨⟨by omega, by omega⟩, nx⟩, fun h => absurd rfl h⟩
  have go : ∀ s : Nat, suB s R → ∀ (N : sM) (v : Int), (∀ a, a ≠ 97 → N a = M a) → (∀ Y : Nat, Y ≠ i → N 97 Y = M 97 Y) → N 97 i = v → trV (adJ (M 93) law pk) i t R (fun y => s < y) v → sW (sC (d + 20)) 247 (QI P) 198 [vO 12 82, vN, vN, vI 0, vI (n : Int), vI 0, vI (i : Int), vI ((2 ^ t : Nat) : Int), vI (R : Int), vI (s : Int), vI 1, vN] [] N G 0 0 := fun s => by
    induction s using Nat.strongRecOn with
    | ind s ihs =>
      intro hsub N v n1 n2 n3 htr
      have sl := Nat.le_of_testBit hsub
      have ex : iXor (R : Int) (s : Int) = ((R ^^^ s : Nat) : Int) := n_xor (by omega) (by omega)
      obtain ⟨o1, o2⟩ := orb s hsub
      have xl : R ^^^ s ≤ R := Nat.le_of_testBit (fun q hq => ((xor_sub hsub q).mp hq).1)
      obtain ⟨h, hh, eh0⟩ := hT (R ^^^ s) (by omega)
      have eh : N 97 (iXor (R : Int) (s : Int)).toNat = (h : Int) := by
        rw [ex]
        show N 97 (R ^^^ s) = _
        rw [n2 _ (by omega)]; exact eh0
      have h12 := hh.le12 (by omega)
      have ei : N 97 ((i : Int)).toNat = v := n3
      have v18 : 1 ≤ v ∧ v ≤ 18 := by
        obtain ⟨h1, h2⟩ := htr
        rcases h1 with z | ⟨Y', Z, w, y1, y2, y3, y4, y5, y6⟩
        · omega
        · omega
      have nxt : ∀ (N2 : sM) (v2 : Int), (∀ a, a ≠ 97 → N2 a = M a) → (∀ Y : Nat, Y ≠ i → N2 97 Y = M 97 Y) → N2 97 i = v2 → trV (adJ (M 93) law pk) i t R (fun y => s ≤ y) v2 → (((s : Int) ≤ 0 → sW (sC (d + 20)) 247 (QI P) 198 [vO 12 82, vN, vN, vI 0, vI (n : Int), vI 0, vI (i : Int), vI ((2 ^ t : Nat) : Int), vI (R : Int), vI (iAnd ((s : Int) - 1) (R : Int)), vI 0, vN] [] N2 G 0 0) ∧ ((0 : Int) < s → sW (sC (d + 20)) 247 (QI P) 198 [vO 12 82, vN, vN, vI 0, vI (n : Int), vI 0, vI (i : Int), vI ((2 ^ t : Nat) : Int), vI (R : Int), vI (iAnd ((s : Int) - 1) (R : Int)), vI 1, vN] [] N2 G 0 0)) := fun N2 v2 m1 m2 m3 h2 => by
        constructor
        · intro z
          exact last _ N2 v2 m1 m2 m3 ⟨h2.1, fun y y1 _ => h2.2 y y1 (by show s ≤ y; omega)⟩
        · intro z
          have e : iAnd ((s : Int) - 1) (R : Int) = (((s - 1) &&& R : Nat) : Int) := by
            rw [show (s : Int) - 1 = ((s - 1 : Nat) : Int) by omega]
            exact n_and (by omega)
          rw [e]
          have le : (s - 1) &&& R ≤ s - 1 := Nat.and_le_left
          refine ihs _ (by omega) (fun q hq => by rw [Nat.testBit_and, Bool.and_eq_true] at hq; exact hq.2) N2 v2 m1 m2 m3 ⟨h2.1, fun y y1 y2 => h2.2 y y1 ?_⟩
          show s ≤ y
          rcases Nat.lt_or_ge y s with w | w
          · have := sub_next 12 s y R (by omega) hsub y1 w
            have y2' : (s - 1) &&& R < y := y2
            omega
          · exact w
      have same : (inD (adJ (M 93) law pk) (s ||| 2 ^ t) → v ≤ (h : Int) + 1) → trV (adJ (M 93) law pk) i t R (fun y => s ≤ y) v := fun hv => ⟨htr.1, fun y y1 y2 y3 Z k y4 y5 => by
        by_cases c : y = s
        · rw [c] at y3 y4
          have eZ : Z = R ^^^ s := Nat.eq_of_testBit_eq (fun q => Bool.eq_iff_iff.mpr ((y4 q).trans (o2 q).symm))
          rw [eZ] at y5
          have := hh.2 k y5
          have := hv y3
          omega
        · have y2' : s ≤ y := y2
          exact htr.2 y y1 (by show s < y; omega) y3 Z k y4 y5⟩
      refine (s247_198 ⟨fun q1 => ⟨⟨by omega, by omega⟩, ?_⟩, fun q2 => ⟨⟨(by first | omega | assumption | (refine ⟨?_, ?_⟩ <;> omega) | (simp_all; done)), (by first | omega | assumption | (refine ⟨?_, ?_⟩ <;> omega) | (simp_all; done))⟩, ⟨by omega, by omega⟩, ⟨(by first | omega | assumption | (refine ⟨?_, ?_⟩ <;> omega) | (simp_all; done)), (by first | omega | assumption | (refine ⟨?_, ?_⟩ <;> omega) | (simp_all; done))⟩, fun q3 => ⟨fun q4 => ⟨⟨by omega, by omega⟩, ?_⟩, fun q5 => ⟨⟨by omega, by omega⟩, ?_⟩⟩, fun q6 => ?_⟩⟩)
      · omega
      · rw [eh, ei] at q3
        exact (nxt N v n1 n2 n3 (same (fun _ => by omega))).1 q4
      · rw [eh, ei] at q3
        exact (nxt N v n1 n2 n3 (same (fun _ => by omega))).2 q5
      · rw [eh, ei] at q6
        have eo : iOr (s : Int) ((2 ^ t : Nat) : Int) = ((s ||| 2 ^ t : Nat) : Int) := n_or (by omega) (by omega)
        have ol := Nat.le_of_testBit o1
        rw [eo]
        refine c248 (pk := pk) (s1 := s1) (by omega) hn (by omega) hp hs (fun k hk => by rw [n1 98 (by decide)]; exact hm k hk) ?_
        have e93 : N 93 = M 93 := n1 93 (by decide)
        have zl := stM_lt (pk := pk) (Y := s ||| 2 ^ t) (n := n) (fun k hk => by have := hp.1 k hk; omega)
        have iq := inD_st (S := M 93) (law := law) hp (Y := s ||| 2 ^ t) (fun q hq => hYb q (o1 q hq))
        have es1 : (M 93 1).toNat = s1 := by omega
        refine c243 (law := law) (by omega) (by rw [e93]; omega) (by rw [e93]; omega) (by omega) (by omega) (fun j hj => by
          rw [e93] at hj ⊢
          rw [n1 95 (by decide), es1]; exact hc j (by omega)) (fun z => ?_) (fun z => ?_)
        · rw [e93, es1] at z
          have iD := iq.mp z
          have st : trV (adJ (M 93) law pk) i t R (fun y => s ≤ y) ((h : Int) + 1) := ⟨Or.inr ⟨s ||| 2 ^ t, R ^^^ s, h, o1, iD, o2, hh.1, rfl, h12⟩, fun y y1 y2 y3 Z k y4 y5 => by
            by_cases c : y = s
            · rw [c] at y4
              have eZ : Z = R ^^^ s := Nat.eq_of_testBit_eq (fun q => Bool.eq_iff_iff.mpr ((y4 q).trans (o2 q).symm))
              rw [eZ] at y5
              have := hh.2 k y5
              omega
            · have y2' : s ≤ y := y2
              have := htr.2 y y1 (by show s < y; omega) y3 Z k y4 y5
              omega⟩
          have nx := nxt (sUpd N 97 ((i : Int)).toNat (1 + (N 97 (iXor (R : Int) (s : Int)).toNat))) ((h : Int) + 1) (fun a ha => (sUpd_ne ha).trans (n1 a ha)) (fun Y hY => (sUpd_ni hY).trans (n2 Y hY)) (by rw [eh]; exact (sUpd_eq (i := i)).trans (by omega)) st
          refine ⟨fun q7 => ⟨fun q8 => ⟨⟨by omega, by omega⟩, ?_⟩, fun q9 => ⟨⟨by omega, by omega⟩, ?_⟩⟩, fun q10 => ⟨fun q11 => ⟨⟨by omega, by omega⟩, ?_⟩, fun q12 => ⟨⟨by omega, by omega⟩, ?_⟩⟩⟩
          · omega
          · omega
          · exact nx.1 q11
          · exact nx.2 q12
          all_goals omega
        · rw [e93, es1] at z
          have nx := nxt N v n1 n2 n3 (same (fun w => absurd (iq.mpr w) z))
          refine ⟨fun q7 => ⟨fun q8 => ⟨⟨by omega, by omega⟩, ?_⟩, fun q9 => ⟨⟨by omega, by omega⟩, ?_⟩⟩, fun q10 => ⟨fun q11 => ⟨⟨by omega, by omega⟩, ?_⟩, fun q12 => ⟨⟨by omega, by omega⟩, ?_⟩⟩⟩
          · exact nx.1 q8
          · exact nx.2 q9
          all_goals omega
      all_goals omega
  refine go R (fun _ h => h) _ 18 (fun a ha => sUpd_ne ha) (fun Y hY => sUpd_ni hY) sUpd_eq ⟨Or.inl rfl, fun y y1 y2 => ?_⟩
  have := Nat.le_of_testBit y1
  have y2' : R < y := y2
  omega
end
