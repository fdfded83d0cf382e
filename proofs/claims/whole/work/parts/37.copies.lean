/-! ROWS FILLED AND COPIED; towns copied (by program: wip/whole/gen/emit37.py). -/
theorem sCpy_ne {M : sM} {a s a' p n b : Nat} (h : b ≠ a') : sCpy M a s a' p n b = M b := by
  funext j
  unfold sCpy
  rw [if_neg]
  rintro ⟨rfl, -⟩
  exact h rfl
theorem sCpy_at {M : sM} {a a' n i : Nat} (h : i < n) : sCpy M a 0 a' 0 n a' i = M a i := by
  unfold sCpy
  rw [if_pos ⟨rfl, Nat.zero_le _, by omega⟩, Nat.sub_zero, Nat.zero_add]
def sFill (M : sM) (a n : Nat) (x : Int) : sM := fun b i => if b = a ∧ i < n then x else M b i
theorem sFill_ne {M : sM} {a n : Nat} {x : Int} {b : Nat} (h : b ≠ a) : sFill M a n x b = M b := by
  funext j
  unfold sFill
  rw [if_neg]
  rintro ⟨rfl, -⟩
  exact h rfl
theorem sFill_at {M : sM} {a n : Nat} {x : Int} {i : Nat} (h : i < n) : sFill M a n x a i = x := if_pos ⟨rfl, h⟩
theorem sFill_0 (M : sM) (a : Nat) (x : Int) : sFill M a 0 x = M := by
  funext b i
  unfold sFill
  rw [if_neg (fun z => by have := z.2; omega)]
theorem sFill_st (M : sM) (a n : Nat) (x : Int) : sUpd (sFill M a n x) a n x = sFill M a (n + 1) x := by
  funext b i
  unfold sUpd sFill
  by_cases e : b = a
  · by_cases e2 : i = n
    · rw [if_pos ⟨e, e2⟩, if_pos ⟨e, by omega⟩]
    · rw [if_neg (fun z => e2 z.2)]
      by_cases e3 : i < n
      · rw [if_pos ⟨e, e3⟩, if_pos ⟨e, by omega⟩]
      · rw [if_neg (fun z => e3 z.2), if_neg (fun z => by have := z.2; omega)]
  · rw [if_neg (fun z => e z.1), if_neg (fun z => e z.1), if_neg (fun z => e z.1)]
section Fill
variable {d : Nat} {PV : sM → sG → Prop} {M : sM} {G : sG}
theorem c6 {a : Nat} {nn x : Int} (hd : 5 ≤ d) (h0 : 0 ≤ nn) (h1 : nn ≤ 2147483647) (kk : PV (sFill M a nn.toNat x) G) : sC d 6 [vA 0 a nn, vI x] M G (QV PV) := by
  obtain ⟨d, rfl⟩ := sD 2 (d := d) (by omega)
  refine e6 (s6_0 ⟨h1, ?_⟩)
  have := sUpTo (W := fun i => sW (sC (d + 1)) 6 (QV PV) 5 [vA 0 a nn, vI x, vI (i : Int), vI nn] [] (sFill M a i x) G 0 0) nn.toNat ?_ ?_
  · rw [sFill_0] at this; exact this
  · exact s6_5 ⟨fun _ => kk, fun q => absurd q (by omega)⟩
  · intro i hi ih
    refine (s6_5 ⟨fun q1 => ?_, fun q2 => ⟨⟨(by first | omega | assumption | (refine ⟨?_, ?_⟩ <;> omega) | (simp_all; done)), (by first | omega | assumption | (refine ⟨?_, ?_⟩ <;> omega) | (simp_all; done))⟩, ⟨by omega, by omega⟩, ?_⟩⟩)
    · exact absurd q1 (by omega)
    · rw [show ((i : Int)).toNat = i by omega, sFill_st]; exact ih
end Fill
def cpTown (M : sM) (a0 a1 : Nat) : sM := sCpy (sCpy (sCpy (sCpy (sCpy (sCpy (sCpy (sCpy (sCpy (sCpy (sCpy (sCpy (sCpy (sCpy (sUpd (sUpd (sUpd (sUpd M a0 0 (M a1 0)) a0 6 ((sUpd M a0 0 (M a1 0)) a1 6)) a0 13 ((sUpd (sUpd M a0 0 (M a1 0)) a0 6 ((sUpd M a0 0 (M a1 0)) a1 6)) a1 13)) a0 14 ((sUpd (sUpd (sUpd M a0 0 (M a1 0)) a0 6 ((sUpd M a0 0 (M a1 0)) a1 6)) a0 13 ((sUpd (sUpd M a0 0 (M a1 0)) a0 6 ((sUpd M a0 0 (M a1 0)) a1 6)) a1 13)) a1 14)) (a1 + 1) 0 (a0 + 1) 0 6) (a1 + 2) 0 (a0 + 2) 0 6) (a1 + 3) 0 (a0 + 3) 0 6) (a1 + 4) 0 (a0 + 4) 0 6) (a1 + 5) 0 (a0 + 5) 0 72) (a1 + 6) 0 (a0 + 6) 0 18) (a1 + 7) 0 (a0 + 7) 0 18) (a1 + 8) 0 (a0 + 8) 0 18) (a1 + 9) 0 (a0 + 9) 0 18) (a1 + 10) 0 (a0 + 10) 0 18) (a1 + 11) 0 (a0 + 11) 0 18) (a1 + 12) 0 (a0 + 12) 0 12) (a1 + 13) 0 (a0 + 13) 0 12) (a1 + 14) 0 (a0 + 14) 0 12
theorem cpTown_out {M : sM} {a0 a1 a : Nat} (h : a < a0 ∨ a0 + 14 < a) : cpTown M a0 a1 a = M a := by
  unfold cpTown
  rw [sCpy_ne (by omega), sCpy_ne (by omega), sCpy_ne (by omega), sCpy_ne (by omega), sCpy_ne (by omega), sCpy_ne (by omega), sCpy_ne (by omega), sCpy_ne (by omega), sCpy_ne (by omega), sCpy_ne (by omega), sCpy_ne (by omega), sCpy_ne (by omega), sCpy_ne (by omega), sCpy_ne (by omega), sUpd_ne (by omega), sUpd_ne (by omega), sUpd_ne (by omega), sUpd_ne (by omega)]
theorem cpTown_f0 {M : sM} {a0 a1 : Nat} (h : a1 + 14 < a0 ∨ a0 + 14 < a1) : cpTown M a0 a1 a0 0 = M a1 0 := by
  unfold cpTown
  rw [sCpy_ne (by omega), sCpy_ne (by omega), sCpy_ne (by omega), sCpy_ne (by omega), sCpy_ne (by omega), sCpy_ne (by omega), sCpy_ne (by omega), sCpy_ne (by omega), sCpy_ne (by omega), sCpy_ne (by omega), sCpy_ne (by omega), sCpy_ne (by omega), sCpy_ne (by omega), sCpy_ne (by omega), sUpd_ni (by decide), sUpd_ni (by decide), sUpd_ni (by decide), sUpd_eq]
theorem cpTown_f6 {M : sM} {a0 a1 : Nat} (h : a1 + 14 < a0 ∨ a0 + 14 < a1) : cpTown M a0 a1 a0 6 = M a1 6 := by
  unfold cpTown
  rw [sCpy_ne (by omega), sCpy_ne (by omega), sCpy_ne (by omega), sCpy_ne (by omega), sCpy_ne (by omega), sCpy_ne (by omega), sCpy_ne (by omega), sCpy_ne (by omega), sCpy_ne (by omega), sCpy_ne (by omega), sCpy_ne (by omega), sCpy_ne (by omega), sCpy_ne (by omega), sCpy_ne (by omega), sUpd_ni (by decide), sUpd_ni (by decide), sUpd_eq, sUpd_ne (by omega)]
theorem cpTown_f13 {M : sM} {a0 a1 : Nat} (h : a1 + 14 < a0 ∨ a0 + 14 < a1) : cpTown M a0 a1 a0 13 = M a1 13 := by
  unfold cpTown
  rw [sCpy_ne (by omega), sCpy_ne (by omega), sCpy_ne (by omega), sCpy_ne (by omega), sCpy_ne (by omega), sCpy_ne (by omega), sCpy_ne (by omega), sCpy_ne (by omega), sCpy_ne (by omega), sCpy_ne (by omega), sCpy_ne (by omega), sCpy_ne (by omega), sCpy_ne (by omega), sCpy_ne (by omega), sUpd_ni (by decide), sUpd_eq, sUpd_ne (by omega), sUpd_ne (by omega)]
theorem cpTown_f14 {M : sM} {a0 a1 : Nat} (h : a1 + 14 < a0 ∨ a0 + 14 < a1) : cpTown M a0 a1 a0 14 = M a1 14 := by
  unfold cpTown
  rw [sCpy_ne (by omega), sCpy_ne (by omega), sCpy_ne (by omega), sCpy_ne (by omega), sCpy_ne (by omega), sCpy_ne (by omega), sCpy_ne (by omega), sCpy_ne (by omega), sCpy_ne (by omega), sCpy_ne (by omega), sCpy_ne (by omega), sCpy_ne (by omega), sCpy_ne (by omega), sCpy_ne (by omega), sUpd_eq, sUpd_ne (by omega), sUpd_ne (by omega), sUpd_ne (by omega)]
theorem cpTown_r1 {M : sM} {a0 a1 i : Nat} (h : a1 + 14 < a0 ∨ a0 + 14 < a1) (hi : i < 6) : cpTown M a0 a1 (a0 + 1) i = M (a1 + 1) i := by
  unfold cpTown
  rw [sCpy_ne (by omega), sCpy_ne (by omega), sCpy_ne (by omega), sCpy_ne (by omega), sCpy_ne (by omega), sCpy_ne (by omega), sCpy_ne (by omega), sCpy_ne (by omega), sCpy_ne (by omega), sCpy_ne (by omega), sCpy_ne (by omega), sCpy_ne (by omega), sCpy_ne (by omega), sCpy_at hi, sUpd_ne (by omega), sUpd_ne (by omega), sUpd_ne (by omega), sUpd_ne (by omega)]
theorem cpTown_r2 {M : sM} {a0 a1 i : Nat} (h : a1 + 14 < a0 ∨ a0 + 14 < a1) (hi : i < 6) : cpTown M a0 a1 (a0 + 2) i = M (a1 + 2) i := by
  unfold cpTown
  rw [sCpy_ne (by omega), sCpy_ne (by omega), sCpy_ne (by omega), sCpy_ne (by omega), sCpy_ne (by omega), sCpy_ne (by omega), sCpy_ne (by omega), sCpy_ne (by omega), sCpy_ne (by omega), sCpy_ne (by omega), sCpy_ne (by omega), sCpy_ne (by omega), sCpy_at hi, sCpy_ne (by omega), sUpd_ne (by omega), sUpd_ne (by omega), sUpd_ne (by omega), sUpd_ne (by omega)]
theorem cpTown_r3 {M : sM} {a0 a1 i : Nat} (h : a1 + 14 < a0 ∨ a0 + 14 < a1) (hi : i < 6) : cpTown M a0 a1 (a0 + 3) i = M (a1 + 3) i := by
  unfold cpTown
  rw [sCpy_ne (by omega), sCpy_ne (by omega), sCpy_ne (by omega), sCpy_ne (by omega), sCpy_ne (by omega), sCpy_ne (by omega), sCpy_ne (by omega), sCpy_ne (by omega), sCpy_ne (by omega), sCpy_ne (by omega), sCpy_ne (by omega), sCpy_at hi, sCpy_ne (by omega), sCpy_ne (by omega), sUpd_ne (by omega), sUpd_ne (by omega), sUpd_ne (by omega), sUpd_ne (by omega)]
theorem cpTown_r4 {M : sM} {a0 a1 i : Nat} (h : a1 + 14 < a0 ∨ a0 + 14 < a1) (hi : i < 6) : cpTown M a0 a1 (a0 + 4) i = M (a1 + 4) i := by
  unfold cpTown
  rw [sCpy_ne (by omega), sCpy_ne (by omega), sCpy_ne (by omega), sCpy_ne (by omega), sCpy_ne (by omega), sCpy_ne (by omega), sCpy_ne (by omega), sCpy_ne (by omega), sCpy_ne (by omega), sCpy_ne (by omega), sCpy_at hi, sCpy_ne (by omega), sCpy_ne (by omega), sCpy_ne (by omega), sUpd_ne (by omega), sUpd_ne (by omega), sUpd_ne (by omega), sUpd_ne (by omega)]
theorem cpTown_r5 {M : sM} {a0 a1 i : Nat} (h : a1 + 14 < a0 ∨ a0 + 14 < a1) (hi : i < 72) : cpTown M a0 a1 (a0 + 5) i = M (a1 + 5) i := by
  unfold cpTown
  rw [sCpy_ne (by omega), sCpy_ne (by omega), sCpy_ne (by omega), sCpy_ne (by omega), sCpy_ne (by omega), sCpy_ne (by omega), sCpy_ne (by omega), sCpy_ne (by omega), sCpy_ne (by omega), sCpy_at hi, sCpy_ne (by omega), sCpy_ne (by omega), sCpy_ne (by omega), sCpy_ne (by omega), sUpd_ne (by omega), sUpd_ne (by omega), sUpd_ne (by omega), sUpd_ne (by omega)]
theorem cpTown_r6 {M : sM} {a0 a1 i : Nat} (h : a1 + 14 < a0 ∨ a0 + 14 < a1) (hi : i < 18) : cpTown M a0 a1 (a0 + 6) i = M (a1 + 6) i := by
  unfold cpTown
  rw [sCpy_ne (by omega), sCpy_ne (by omega), sCpy_ne (by omega), sCpy_ne (by omega), sCpy_ne (by omega), sCpy_ne (by omega), sCpy_ne (by omega), sCpy_ne (by omega), sCpy_at hi, sCpy_ne (by omega), sCpy_ne (by omega), sCpy_ne (by omega), sCpy_ne (by omega), sCpy_ne (by omega), sUpd_ne (by omega), sUpd_ne (by omega), sUpd_ne (by omega), sUpd_ne (by omega)]
theorem cpTown_r7 {M : sM} {a0 a1 i : Nat} (h : a1 + 14 < a0 ∨ a0 + 14 < a1) (hi : i < 18) : cpTown M a0 a1 (a0 + 7) i = M (a1 + 7) i := by
  unfold cpTown
  rw [sCpy_ne (by omega), sCpy_ne (by omega), sCpy_ne (by omega), sCpy_ne (by omega), sCpy_ne (by omega), sCpy_ne (by omega), sCpy_ne (by omega), sCpy_at hi, sCpy_ne (by omega), sCpy_ne (by omega), sCpy_ne (by omega), sCpy_ne (by omega), sCpy_ne (by omega), sCpy_ne (by omega), sUpd_ne (by omega), sUpd_ne (by omega), sUpd_ne (by omega), sUpd_ne (by omega)]
theorem cpTown_r8 {M : sM} {a0 a1 i : Nat} (h : a1 + 14 < a0 ∨ a0 + 14 < a1) (hi : i < 18) : cpTown M a0 a1 (a0 + 8) i = M (a1 + 8) i := by
  unfold cpTown
  rw [sCpy_ne (by omega), sCpy_ne (by omega), sCpy_ne (by omega), sCpy_ne (by omega), sCpy_ne (by omega), sCpy_ne (by omega), sCpy_at hi, sCpy_ne (by omega), sCpy_ne (by omega), sCpy_ne (by omega), sCpy_ne (by omega), sCpy_ne (by omega), sCpy_ne (by omega), sCpy_ne (by omega), sUpd_ne (by omega), sUpd_ne (by omega), sUpd_ne (by omega), sUpd_ne (by omega)]
theorem cpTown_r9 {M : sM} {a0 a1 i : Nat} (h : a1 + 14 < a0 ∨ a0 + 14 < a1) (hi : i < 18) : cpTown M a0 a1 (a0 + 9) i = M (a1 + 9) i := by
  unfold cpTown
  rw [sCpy_ne (by omega), sCpy_ne (by omega), sCpy_ne (by omega), sCpy_ne (by omega), sCpy_ne (by omega), sCpy_at hi, sCpy_ne (by omega), sCpy_ne (by omega), sCpy_ne (by omega), sCpy_ne (by omega), sCpy_ne (by omega), sCpy_ne (by omega), sCpy_ne (by omega), sCpy_ne (by omega), sUpd_ne (by omega), sUpd_ne (by omega), sUpd_ne (by omega), sUpd_ne (by omega)]
theorem cpTown_r10 {M : sM} {a0 a1 i : Nat} (h : a1 + 14 < a0 ∨ a0 + 14 < a1) (hi : i < 18) : cpTown M a0 a1 (a0 + 10) i = M (a1 + 10) i := by
  unfold cpTown
  rw [sCpy_ne (by omega), sCpy_ne (by omega), sCpy_ne (by omega), sCpy_ne (by omega), sCpy_at hi, sCpy_ne (by omega), sCpy_ne (by omega), sCpy_ne (by omega), sCpy_ne (by omega), sCpy_ne (by omega), sCpy_ne (by omega), sCpy_ne (by omega), sCpy_ne (by omega), sCpy_ne (by omega), sUpd_ne (by omega), sUpd_ne (by omega), sUpd_ne (by omega), sUpd_ne (by omega)]
theorem cpTown_r11 {M : sM} {a0 a1 i : Nat} (h : a1 + 14 < a0 ∨ a0 + 14 < a1) (hi : i < 18) : cpTown M a0 a1 (a0 + 11) i = M (a1 + 11) i := by
  unfold cpTown
  rw [sCpy_ne (by omega), sCpy_ne (by omega), sCpy_ne (by omega), sCpy_at hi, sCpy_ne (by omega), sCpy_ne (by omega), sCpy_ne (by omega), sCpy_ne (by omega), sCpy_ne (by omega), sCpy_ne (by omega), sCpy_ne (by omega), sCpy_ne (by omega), sCpy_ne (by omega), sCpy_ne (by omega), sUpd_ne (by omega), sUpd_ne (by omega), sUpd_ne (by omega), sUpd_ne (by omega)]
theorem cpTown_r12 {M : sM} {a0 a1 i : Nat} (h : a1 + 14 < a0 ∨ a0 + 14 < a1) (hi : i < 12) : cpTown M a0 a1 (a0 + 12) i = M (a1 + 12) i := by
  unfold cpTown
  rw [sCpy_ne (by omega), sCpy_ne (by omega), sCpy_at hi, sCpy_ne (by omega), sCpy_ne (by omega), sCpy_ne (by omega), sCpy_ne (by omega), sCpy_ne (by omega), sCpy_ne (by omega), sCpy_ne (by omega), sCpy_ne (by omega), sCpy_ne (by omega), sCpy_ne (by omega), sCpy_ne (by omega), sUpd_ne (by omega), sUpd_ne (by omega), sUpd_ne (by omega), sUpd_ne (by omega)]
theorem cpTown_r13 {M : sM} {a0 a1 i : Nat} (h : a1 + 14 < a0 ∨ a0 + 14 < a1) (hi : i < 12) : cpTown M a0 a1 (a0 + 13) i = M (a1 + 13) i := by
  unfold cpTown
  rw [sCpy_ne (by omega), sCpy_at hi, sCpy_ne (by omega), sCpy_ne (by omega), sCpy_ne (by omega), sCpy_ne (by omega), sCpy_ne (by omega), sCpy_ne (by omega), sCpy_ne (by omega), sCpy_ne (by omega), sCpy_ne (by omega), sCpy_ne (by omega), sCpy_ne (by omega), sCpy_ne (by omega), sUpd_ne (by omega), sUpd_ne (by omega), sUpd_ne (by omega), sUpd_ne (by omega)]
theorem cpTown_r14 {M : sM} {a0 a1 i : Nat} (h : a1 + 14 < a0 ∨ a0 + 14 < a1) (hi : i < 12) : cpTown M a0 a1 (a0 + 14) i = M (a1 + 14) i := by
  unfold cpTown
  rw [sCpy_at hi, sCpy_ne (by omega), sCpy_ne (by omega), sCpy_ne (by omega), sCpy_ne (by omega), sCpy_ne (by omega), sCpy_ne (by omega), sCpy_ne (by omega), sCpy_ne (by omega), sCpy_ne (by omega), sCpy_ne (by omega), sCpy_ne (by omega), sCpy_ne (by omega), sCpy_ne (by omega), sUpd_ne (by omega), sUpd_ne (by omega), sUpd_ne (by omega), sUpd_ne (by omega)]
def cpTold (M : sM) (a0 a1 : Nat) : sM := sCpy (sCpy (sCpy (sCpy (sCpy (sCpy (sCpy (sCpy (sCpy (sCpy (sCpy (sUpd (sUpd (sUpd (sUpd (sUpd M a0 1 (M a1 1)) a0 7 ((sUpd M a0 1 (M a1 1)) a1 7)) a0 9 ((sUpd (sUpd M a0 1 (M a1 1)) a0 7 ((sUpd M a0 1 (M a1 1)) a1 7)) a1 9)) a0 12 ((sUpd (sUpd (sUpd M a0 1 (M a1 1)) a0 7 ((sUpd M a0 1 (M a1 1)) a1 7)) a0 9 ((sUpd (sUpd M a0 1 (M a1 1)) a0 7 ((sUpd M a0 1 (M a1 1)) a1 7)) a1 9)) a1 12)) a0 15 ((sUpd (sUpd (sUpd (sUpd M a0 1 (M a1 1)) a0 7 ((sUpd M a0 1 (M a1 1)) a1 7)) a0 9 ((sUpd (sUpd M a0 1 (M a1 1)) a0 7 ((sUpd M a0 1 (M a1 1)) a1 7)) a1 9)) a0 12 ((sUpd (sUpd (sUpd M a0 1 (M a1 1)) a0 7 ((sUpd M a0 1 (M a1 1)) a1 7)) a0 9 ((sUpd (sUpd M a0 1 (M a1 1)) a0 7 ((sUpd M a0 1 (M a1 1)) a1 7)) a1 9)) a1 12)) a1 15)) (a1 + 1) 0 (a0 + 1) 0 12) (a1 + 2) 0 (a0 + 2) 0 6) (a1 + 3) 0 (a0 + 3) 0 6) (a1 + 4) 0 (a0 + 4) 0 6) (a1 + 5) 0 (a0 + 5) 0 6) (a1 + 6) 0 (a0 + 6) 0 6) (a1 + 7) 0 (a0 + 7) 0 8) (a1 + 8) 0 (a0 + 8) 0 8) (a1 + 9) 0 (a0 + 9) 0 8) (a1 + 10) 0 (a0 + 10) 0 12) (a1 + 11) 0 (a0 + 11) 0 12
theorem cpTold_out {M : sM} {a0 a1 a : Nat} (h : a < a0 ∨ a0 + 11 < a) : cpTold M a0 a1 a = M a := by
  unfold cpTold
  rw [sCpy_ne (by omega), sCpy_ne (by omega), sCpy_ne (by omega), sCpy_ne (by omega), sCpy_ne (by omega), sCpy_ne (by omega), sCpy_ne (by omega), sCpy_ne (by omega), sCpy_ne (by omega), sCpy_ne (by omega), sCpy_ne (by omega), sUpd_ne (by omega), sUpd_ne (by omega), sUpd_ne (by omega), sUpd_ne (by omega), sUpd_ne (by omega)]
theorem cpTold_f1 {M : sM} {a0 a1 : Nat} (h : a1 + 11 < a0 ∨ a0 + 11 < a1) : cpTold M a0 a1 a0 1 = M a1 1 := by
  unfold cpTold
  rw [sCpy_ne (by omega), sCpy_ne (by omega), sCpy_ne (by omega), sCpy_ne (by omega), sCpy_ne (by omega), sCpy_ne (by omega), sCpy_ne (by omega), sCpy_ne (by omega), sCpy_ne (by omega), sCpy_ne (by omega), sCpy_ne (by omega), sUpd_ni (by decide), sUpd_ni (by decide), sUpd_ni (by decide), sUpd_ni (by decide), sUpd_eq]
theorem cpTold_f7 {M : sM} {a0 a1 : Nat} (h : a1 + 11 < a0 ∨ a0 + 11 < a1) : cpTold M a0 a1 a0 7 = M a1 7 := by
  unfold cpTold
  rw [sCpy_ne (by omega), sCpy_ne (by omega), sCpy_ne (by omega), sCpy_ne (by omega), sCpy_ne (by omega), sCpy_ne (by omega), sCpy_ne (by omega), sCpy_ne (by omega), sCpy_ne (by omega), sCpy_ne (by omega), sCpy_ne (by omega), sUpd_ni (by decide), sUpd_ni (by decide), sUpd_ni (by decide), sUpd_eq, sUpd_ne (by omega)]
theorem cpTold_f9 {M : sM} {a0 a1 : Nat} (h : a1 + 11 < a0 ∨ a0 + 11 < a1) : cpTold M a0 a1 a0 9 = M a1 9 := by
  unfold cpTold
  rw [sCpy_ne (by omega), sCpy_ne (by omega), sCpy_ne (by omega), sCpy_ne (by omega), sCpy_ne (by omega), sCpy_ne (by omega), sCpy_ne (by omega), sCpy_ne (by omega), sCpy_ne (by omega), sCpy_ne (by omega), sCpy_ne (by omega), sUpd_ni (by decide), sUpd_ni (by decide), sUpd_eq, sUpd_ne (by omega), sUpd_ne (by omega)]
theorem cpTold_f12 {M : sM} {a0 a1 : Nat} (h : a1 + 11 < a0 ∨ a0 + 11 < a1) : cpTold M a0 a1 a0 12 = M a1 12 := by
  unfold cpTold
  rw [sCpy_ne (by omega), sCpy_ne (by omega), sCpy_ne (by omega), sCpy_ne (by omega), sCpy_ne (by omega), sCpy_ne (by omega), sCpy_ne (by omega), sCpy_ne (by omega), sCpy_ne (by omega), sCpy_ne (by omega), sCpy_ne (by omega), sUpd_ni (by decide), sUpd_eq, sUpd_ne (by omega), sUpd_ne (by omega), sUpd_ne (by omega)]
theorem cpTold_f15 {M : sM} {a0 a1 : Nat} (h : a1 + 11 < a0 ∨ a0 + 11 < a1) : cpTold M a0 a1 a0 15 = M a1 15 := by
  unfold cpTold
  rw [sCpy_ne (by omega), sCpy_ne (by omega), sCpy_ne (by omega), sCpy_ne (by omega), sCpy_ne (by omega), sCpy_ne (by omega), sCpy_ne (by omega), sCpy_ne (by omega), sCpy_ne (by omega), sCpy_ne (by omega), sCpy_ne (by omega), sUpd_eq, sUpd_ne (by omega), sUpd_ne (by omega), sUpd_ne (by omega), sUpd_ne (by omega)]
theorem cpTold_r1 {M : sM} {a0 a1 i : Nat} (h : a1 + 11 < a0 ∨ a0 + 11 < a1) (hi : i < 12) : cpTold M a0 a1 (a0 + 1) i = M (a1 + 1) i := by
  unfold cpTold
  rw [sCpy_ne (by omega), sCpy_ne (by omega), sCpy_ne (by omega), sCpy_ne (by omega), sCpy_ne (by omega), sCpy_ne (by omega), sCpy_ne (by omega), sCpy_ne (by omega), sCpy_ne (by omega), sCpy_ne (by omega), sCpy_at hi, sUpd_ne (by omega), sUpd_ne (by omega), sUpd_ne (by omega), sUpd_ne (by omega), sUpd_ne (by omega)]
theorem cpTold_r2 {M : sM} {a0 a1 i : Nat} (h : a1 + 11 < a0 ∨ a0 + 11 < a1) (hi : i < 6) : cpTold M a0 a1 (a0 + 2) i = M (a1 + 2) i := by
  unfold cpTold
  rw [sCpy_ne (by omega), sCpy_ne (by omega), sCpy_ne (by omega), sCpy_ne (by omega), sCpy_ne (by omega), sCpy_ne (by omega), sCpy_ne (by omega), sCpy_ne (by omega), sCpy_ne (by omega), sCpy_at hi, sCpy_ne (by omega), sUpd_ne (by omega), sUpd_ne (by omega), sUpd_ne (by omega), sUpd_ne (by omega), sUpd_ne (by omega)]
theorem cpTold_r3 {M : sM} {a0 a1 i : Nat} (h : a1 + 11 < a0 ∨ a0 + 11 < a1) (hi : i < 6) : cpTold M a0 a1 (a0 + 3) i = M (a1 + 3) i := by
  unfold cpTold
  rw [sCpy_ne (by omega), sCpy_ne (by omega), sCpy_ne (by omega), sCpy_ne (by omega), sCpy_ne (by omega), sCpy_ne (by omega), sCpy_ne (by omega), sCpy_ne (by omega), sCpy_at hi, sCpy_ne (by omega), sCpy_ne (by omega), sUpd_ne (by omega), sUpd_ne (by omega), sUpd_ne (by omega), sUpd_ne (by omega), sUpd_ne (by omega)]
theorem cpTold_r4 {M : sM} {a0 a1 i : Nat} (h : a1 + 11 < a0 ∨ a0 + 11 < a1) (hi : i < 6) : cpTold M a0 a1 (a0 + 4) i = M (a1 + 4) i := by
  unfold cpTold
  rw [sCpy_ne (by omega), sCpy_ne (by omega), sCpy_ne (by omega), sCpy_ne (by omega), sCpy_ne (by omega), sCpy_ne (by omega), sCpy_ne (by omega), sCpy_at hi, sCpy_ne (by omega), sCpy_ne (by omega), sCpy_ne (by omega), sUpd_ne (by omega), sUpd_ne (by omega), sUpd_ne (by omega), sUpd_ne (by omega), sUpd_ne (by omega)]
theorem cpTold_r5 {M : sM} {a0 a1 i : Nat} (h : a1 + 11 < a0 ∨ a0 + 11 < a1) (hi : i < 6) : cpTold M a0 a1 (a0 + 5) i = M (a1 + 5) i := by
  unfold cpTold
  rw [sCpy_ne (by omega), sCpy_ne (by omega), sCpy_ne (by omega), sCpy_ne (by omega), sCpy_ne (by omega), sCpy_ne (by omega), sCpy_at hi, sCpy_ne (by omega), sCpy_ne (by omega), sCpy_ne (by omega), sCpy_ne (by omega), sUpd_ne (by omega), sUpd_ne (by omega), sUpd_ne (by omega), sUpd_ne (by omega), sUpd_ne (by omega)]
theorem cpTold_r6 {M : sM} {a0 a1 i : Nat} (h : a1 + 11 < a0 ∨ a0 + 11 < a1) (hi : i < 6) : cpTold M a0 a1 (a0 + 6) i = M (a1 + 6) i := by
  unfold cpTold
  rw [sCpy_ne (by omega), sCpy_ne (by omega), sCpy_ne (by omega), sCpy_ne (by omega), sCpy_ne (by omega), sCpy_at hi, sCpy_ne (by omega), sCpy_ne (by omega), sCpy_ne (by omega), sCpy_ne (by omega), sCpy_ne (by omega), sUpd_ne (by omega), sUpd_ne (by omega), sUpd_ne (by omega), sUpd_ne (by omega), sUpd_ne (by omega)]
theorem cpTold_r7 {M : sM} {a0 a1 i : Nat} (h : a1 + 11 < a0 ∨ a0 + 11 < a1) (hi : i < 8) : cpTold M a0 a1 (a0 + 7) i = M (a1 + 7) i := by
  unfold cpTold
  rw [sCpy_ne (by omega), sCpy_ne (by omega), sCpy_ne (by omega), sCpy_ne (by omega), sCpy_at hi, sCpy_ne (by omega), sCpy_ne (by omega), sCpy_ne (by omega), sCpy_ne (by omega), sCpy_ne (by omega), sCpy_ne (by omega), sUpd_ne (by omega), sUpd_ne (by omega), sUpd_ne (by omega), sUpd_ne (by omega), sUpd_ne (by omega)]
theorem cpTold_r8 {M : sM} {a0 a1 i : Nat} (h : a1 + 11 < a0 ∨ a0 + 11 < a1) (hi : i < 8) : cpTold M a0 a1 (a0 + 8) i = M (a1 + 8) i := by
  unfold cpTold
  rw [sCpy_ne (by omega), sCpy_ne (by omega), sCpy_ne (by omega), sCpy_at hi, sCpy_ne (by omega), sCpy_ne (by omega), sCpy_ne (by omega), sCpy_ne (by omega), sCpy_ne (by omega), sCpy_ne (by omega), sCpy_ne (by omega), sUpd_ne (by omega), sUpd_ne (by omega), sUpd_ne (by omega), sUpd_ne (by omega), sUpd_ne (by omega)]
theorem cpTold_r9 {M : sM} {a0 a1 i : Nat} (h : a1 + 11 < a0 ∨ a0 + 11 < a1) (hi : i < 8) : cpTold M a0 a1 (a0 + 9) i = M (a1 + 9) i := by
  unfold cpTold
  rw [sCpy_ne (by omega), sCpy_ne (by omega), sCpy_at hi, sCpy_ne (by omega), sCpy_ne (by omega), sCpy_ne (by omega), sCpy_ne (by omega), sCpy_ne (by omega), sCpy_ne (by omega), sCpy_ne (by omega), sCpy_ne (by omega), sUpd_ne (by omega), sUpd_ne (by omega), sUpd_ne (by omega), sUpd_ne (by omega), sUpd_ne (by omega)]
theorem cpTold_r10 {M : sM} {a0 a1 i : Nat} (h : a1 + 11 < a0 ∨ a0 + 11 < a1) (hi : i < 12) : cpTold M a0 a1 (a0 + 10) i = M (a1 + 10) i := by
  unfold cpTold
  rw [sCpy_ne (by omega), sCpy_at hi, sCpy_ne (by omega), sCpy_ne (by omega), sCpy_ne (by omega), sCpy_ne (by omega), sCpy_ne (by omega), sCpy_ne (by omega), sCpy_ne (by omega), sCpy_ne (by omega), sCpy_ne (by omega), sUpd_ne (by omega), sUpd_ne (by omega), sUpd_ne (by omega), sUpd_ne (by omega), sUpd_ne (by omega)]
theorem cpTold_r11 {M : sM} {a0 a1 i : Nat} (h : a1 + 11 < a0 ∨ a0 + 11 < a1) (hi : i < 12) : cpTold M a0 a1 (a0 + 11) i = M (a1 + 11) i := by
  unfold cpTold
  rw [sCpy_at hi, sCpy_ne (by omega), sCpy_ne (by omega), sCpy_ne (by omega), sCpy_ne (by omega), sCpy_ne (by omega), sCpy_ne (by omega), sCpy_ne (by omega), sCpy_ne (by omega), sCpy_ne (by omega), sCpy_ne (by omega), sUpd_ne (by omega), sUpd_ne (by omega), sUpd_ne (by omega), sUpd_ne (by omega), sUpd_ne (by omega)]
theorem TR.copied {a0 a1 : Nat} {M : sM} {S : Nat → Int} {B : Int} (hv : vTown B S) (h : a1 + 14 < a0 ∨ a0 + 14 < a1) (ht : TR a1 M S) : TR a0 (cpTown M a0 a1) S := by
  obtain ⟨⟨l0, l1, l2, l3⟩, h2, h3, h4, h5⟩ := ht
  obtain ⟨⟨hS0, hS1, -⟩, -⟩ := hv
  refine ⟨⟨?_, ?_, ?_, ?_⟩, fun x x0 x1 => ?_, fun x x0 x1 => ?_, fun x x0 x1 => ?_, fun x x0 x1 => ?_⟩
  · rw [cpTown_f0 h, l0]
  · rw [cpTown_f6 h, l1]
  · rw [cpTown_f13 h, l2]
  · rw [cpTown_f14 h, l3]
  · obtain ⟨g1, g2, g3, g4⟩ := h2 x x0 x1
    refine ⟨?_, ?_, ?_, ?_⟩
    · rw [cpTown_r1 h (by omega), g1]
    · rw [cpTown_r2 h (by omega), g2]
    · rw [cpTown_r3 h (by omega), g3]
    · rw [cpTown_r4 h (by omega), g4]
  · obtain ⟨g1, g2, g3, g4, g5, g6⟩ := h3 x x0 x1
    refine ⟨?_, ?_, ?_, ?_, ?_, ?_⟩
    · rw [cpTown_r6 h (by omega), g1]
    · rw [cpTown_r7 h (by omega), g2]
    · rw [cpTown_r8 h (by omega), g3]
    · rw [cpTown_r9 h (by omega), g4]
    · rw [cpTown_r10 h (by omega), g5]
    · rw [cpTown_r11 h (by omega), g6]
  · obtain ⟨g1, g2, g3⟩ := h4 x x0 x1
    refine ⟨?_, ?_, ?_⟩
    · rw [cpTown_r12 h (by omega), g1]
    · rw [cpTown_r13 h (by omega), g2]
    · rw [cpTown_r14 h (by omega), g3]
  · have hn := inN_ge S x
    have er : ∀ i : Int, 0 ≤ i → i < inN S x → rW a0 (cpTown M a0 a1) x i = rW a1 M x i := fun i i0 i1 => by
      unfold rW; exact cpTown_r5 h (by omega)
    obtain ⟨g1, g2⟩ := h5 x x0 x1
    refine ⟨fun g => ?_, fun i j i0 ij j1 => ?_⟩
    · rw [g1 g]
      exact nS_congr (fun i hi => by rw [er i (by omega) (by omega)])
    · rw [er i i0 (by omega), er j (by omega) j1]; exact g2 i j i0 ij j1
theorem TO.copied {a0 a1 : Nat} {M : sM} {S : Nat → Int} (hv : vTold S) (h : a1 + 11 < a0 ∨ a0 + 11 < a1) (ht : TO a1 M S) : TO a0 (cpTold M a0 a1) S := by
  obtain ⟨⟨l0, l1, l2, l3, l4⟩, h2, h3, h4, h5, h6⟩ := ht
  obtain ⟨v5, v6, v7, v8, -⟩ := hv
  refine ⟨⟨?_, ?_, ?_, ?_, ?_⟩, fun x x0 x1 => ?_, fun x x0 x1 => ?_, fun x x0 x1 => ?_, fun x x0 x1 => ?_, fun x x0 x1 => ?_⟩
  · rw [cpTold_f1 h, l0]
  · rw [cpTold_f7 h, l1]
  · rw [cpTold_f9 h, l2]
  · rw [cpTold_f12 h, l3]
  · rw [cpTold_f15 h, l4]
  · rw [cpTold_r1 h (by omega)]; exact h2 x x0 x1
  · obtain ⟨g1, g2, g3, g4, g5⟩ := h3 x x0 x1
    refine ⟨?_, ?_, ?_, ?_, ?_⟩
    · rw [cpTold_r2 h (by omega), g1]
    · rw [cpTold_r3 h (by omega), g2]
    · rw [cpTold_r4 h (by omega), g3]
    · rw [cpTold_r5 h (by omega), g4]
    · rw [cpTold_r6 h (by omega), g5]
  · rw [cpTold_r7 h (by omega)]; exact h4 x x0 x1
  · obtain ⟨g1, g2⟩ := h5 x x0 x1
    exact ⟨by rw [cpTold_r8 h (by omega), g1], by rw [cpTold_r9 h (by omega), g2]⟩
  · obtain ⟨g1, g2⟩ := h6 x x0 x1
    exact ⟨by rw [cpTold_r10 h (by omega), g1], by rw [cpTold_r11 h (by omega), g2]⟩
section Copy
variable {d : Nat} {PV : sM → sG → Prop} {M : sM} {G : sG}
theorem c34 {a0 a1 : Nat} (hd : 5 ≤ d) (kk : PV (cpTown M a0 a1) G) : sC d 34 [vO 10 a0, vO 10 a1] M G (QV PV) := by
  obtain ⟨d, rfl⟩ := sD 2 (d := d) (by omega)
  exact e34 (s34_0 kk)
theorem c166 {a0 a1 : Nat} (hd : 5 ≤ d) (kk : PV (cpTold M a0 a1) G) : sC d 166 [vO 9 a0, vO 9 a1] M G (QV PV) := by
  obtain ⟨d, rfl⟩ := sD 2 (d := d) (by omega)
  exact e166 (s166_0 kk)
theorem c165 {a0 a1 : Nat} (hd : 10 ≤ d) (kk : PV (cpTold (cpTown M (a0 + 1) (a1 + 1)) (a0 + 16) (a1 + 16)) G) : sC d 165 [vO 8 a0, vO 8 a1] M G (QV PV) := by
  obtain ⟨d, rfl⟩ := sD 2 (d := d) (by omega)
  exact e165 (s165_0 (c34 (by omega) (c166 (by omega) kk)))
end Copy
