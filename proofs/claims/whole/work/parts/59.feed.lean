/-! STEP: feed. -/
def tS (b p : Nat) (M : sM) (v : Int) : sM := sUpd (sUpd M b (M p 1).toNat v) p 1 ((M p 1) + 1)
theorem tS_p {b p : Nat} {M : sM} {v : Int} (h : b ≠ p) : tS b p M v p 1 = M p 1 + 1 := sUpd_eq
theorem tS_b {b p : Nat} {M : sM} {v : Int} (h : b ≠ p) : tS b p M v b = fun j => if j = (M p 1).toNat then v else M b j := by
  unfold tS
  rw [sUpd_ne h]
  funext j
  exact sUpd_at
theorem tS_ne {b p : Nat} {M : sM} {v : Int} {a : Nat} (h1 : a ≠ b) (h2 : a ≠ p) : tS b p M v a = M a := by
  unfold tS
  rw [sUpd_ne h2, sUpd_ne h1]
theorem tS_ni {b p : Nat} {M : sM} {v : Int} {j : Nat} (h : b ≠ p) (hj : j ≠ 1) : tS b p M v p j = M p j := by
  unfold tS
  rw [sUpd_ni hj, sUpd_ne (Ne.symm h)]
def tW (b p : Nat) (f : Int → Int) (M : sM) (x : Int) : sM := tS b p (tS b p (tS b p (tS b p M (f (iShr x 24))) (f (iShr x 16))) (f (iShr x 8))) (f (iShr x 0))
theorem tW_p {b p : Nat} {f : Int → Int} {M : sM} {x : Int} (h : b ≠ p) : tW b p f M x p 1 = M p 1 + 4 := by
  unfold tW
  rw [tS_p h, tS_p h, tS_p h, tS_p h]; omega
theorem tW_ne {b p : Nat} {f : Int → Int} {M : sM} {x : Int} {a : Nat} (h1 : a ≠ b) (h2 : a ≠ p) : tW b p f M x a = M a := by
  unfold tW
  rw [tS_ne h1 h2, tS_ne h1 h2, tS_ne h1 h2, tS_ne h1 h2]
theorem tW_ni {b p : Nat} {f : Int → Int} {M : sM} {x : Int} {j : Nat} (h : b ≠ p) (hj : j ≠ 1) : tW b p f M x p j = M p j := by
  unfold tW
  rw [tS_ni h hj, tS_ni h hj, tS_ni h hj, tS_ni h hj]
theorem c15 {d : Nat} {P : sM → sG → Prop} {M : sM} {G : sG} {x1 : Int} (n0 : 0 ≤ M 3 1) (n1 : M 3 1 + 4 ≤ 400) (k : P (tW 4 3 (fun y => y % 256) M x1) G) : sC (d + 3) 15 [vO 4 3, vI x1] M G (QV P) := by
  have p := fun (M : sM) (v : Int) => tS_p (b := 4) (p := 3) (M := M) (v := v) (by decide)
  refine e15 (s15_0 ⟨⟨by omega, by omega⟩, fun q1 => ?_, fun q2 => ?_⟩)
  · omega
  have st : ∀ (N : sM) (s : Int), 0 ≤ s → s ≤ 24 → 0 ≤ N 3 1 → N 3 1 < 400 → sW (sC (d + 2)) 15 (QV P) 12 [vO 4 3, vI x1, vI (s - 8)] [] (tS 4 3 N ((fun y => y % 256) (iShr x1 s))) G 0 0 → sW (sC (d + 2)) 15 (QV P) 12 [vO 4 3, vI x1, vI s] [] N G 0 0 := fun N s s0 s1 a0 a1 hn => by
    refine (s15_12 ⟨fun q1 => ?_, fun q2 => ⟨⟨(by first | omega | assumption | (refine ⟨?_, ?_⟩ <;> omega) | (simp_all; done)), (by first | omega | assumption | (refine ⟨?_, ?_⟩ <;> omega) | (simp_all; done))⟩, ⟨by omega, by omega⟩, ⟨by omega, by omega⟩, ?_⟩⟩)
    · omega
    · show sW _ _ _ _ _ _ (tS 4 3 N (iAnd (iShr x1 s) 255)) _ _ _
      rw [z_and255]
      exact hn
  refine st M 24 (by omega) (by omega) n0 (by omega) (st _ 16 (by omega) (by omega) ?_ ?_ (st _ 8 (by omega) (by omega) ?_ ?_ (st _ 0 (by omega) (by omega) ?_ ?_ ?_)))
  all_goals try (simp only [p]; omega)
  refine (s15_12 ⟨fun q1 => ?_, fun q2 => ⟨⟨(by first | omega | assumption | (refine ⟨?_, ?_⟩ <;> omega) | (simp_all; done)), (by first | omega | assumption | (refine ⟨?_, ?_⟩ <;> omega) | (simp_all; done))⟩, ⟨by omega, by omega⟩, ⟨by omega, by omega⟩, ?_⟩⟩)
  · exact k
  · omega
theorem c170 {d : Nat} {P : sM → sG → Prop} {M : sM} {G : sG} {x1 : Int} (n0 : 0 ≤ M 82 1) (n1 : M 82 1 + 4 ≤ 400) (k : P (tW 83 82 (fun y => if y % 256 < 128 then y % 256 else y % 256 - 256) M x1) G) : sC (d + 3) 170 [vO 12 82, vI x1] M G (QV P) := by
  have p := fun (M : sM) (v : Int) => tS_p (b := 83) (p := 82) (M := M) (v := v) (by decide)
  refine e170 (s170_0 (?_))
  have st : ∀ (N : sM) (s : Int), 0 ≤ s → s ≤ 24 → 0 ≤ N 82 1 → N 82 1 < 400 → sW (sC (d + 2)) 170 (QV P) 3 [vO 12 82, vI x1, vI (s - 8)] [] (tS 83 82 N ((fun y => if y % 256 < 128 then y % 256 else y % 256 - 256) (iShr x1 s))) G 0 0 → sW (sC (d + 2)) 170 (QV P) 3 [vO 12 82, vI x1, vI s] [] N G 0 0 := fun N s s0 s1 a0 a1 hn => by
    refine (s170_3 ⟨fun q1 => ?_, fun q2 => ⟨⟨(by first | omega | assumption | (refine ⟨?_, ?_⟩ <;> omega) | (simp_all; done)), (by first | omega | assumption | (refine ⟨?_, ?_⟩ <;> omega) | (simp_all; done))⟩, ⟨by omega, by omega⟩, ⟨by omega, by omega⟩, ?_⟩⟩)
    · omega
    · show sW _ _ _ _ _ _ (tS 83 82 N (iByte (iByte (iShr x1 s)))) _ _ _
      have e : iByte (iByte (iShr x1 s)) = if (iShr x1 s) % 256 < 128 then (iShr x1 s) % 256 else (iShr x1 s) % 256 - 256 := by
        rw [z_byte (iByte _), z_byte (iShr x1 s)]
        split <;> split <;> omega
      rw [e]
      exact hn
  refine st M 24 (by omega) (by omega) n0 (by omega) (st _ 16 (by omega) (by omega) ?_ ?_ (st _ 8 (by omega) (by omega) ?_ ?_ (st _ 0 (by omega) (by omega) ?_ ?_ ?_)))
  all_goals try (simp only [p]; omega)
  refine (s170_3 ⟨fun q1 => ?_, fun q2 => ⟨⟨(by first | omega | assumption | (refine ⟨?_, ?_⟩ <;> omega) | (simp_all; done)), (by first | omega | assumption | (refine ⟨?_, ?_⟩ <;> omega) | (simp_all; done))⟩, ⟨by omega, by omega⟩, ⟨by omega, by omega⟩, ?_⟩⟩)
  · exact k
  · omega
def tapR (m m' : Nat → Int) (n : Int) : Prop := ∀ i : Nat, (i : Int) < n → (0 ≤ m i ∧ m i ≤ 255) ∧ m' i = if m i < 128 then m i else m i - 256
def tapE (M M' : sM) : Prop := 0 ≤ M 3 1 ∧ M' 82 1 = M 3 1 ∧ tapR (M 4) (M' 83) (M 3 1)
theorem tapE.tS {M M' : sM} {y : Int} (h : tapE M M') : tapE (tS 4 3 M (y % 256)) (tS 83 82 M' (if y % 256 < 128 then y % 256 else y % 256 - 256)) := by
  obtain ⟨n0, e, r⟩ := h
  refine ⟨by rw [tS_p (by decide)]; omega, by rw [tS_p (by decide), tS_p (by decide), e], fun i hi => ?_⟩
  rw [tS_p (by decide)] at hi
  rw [tS_b (by decide), tS_b (by decide), e]
  show (0 ≤ (if i = (M 3 1).toNat then y % 256 else M 4 i) ∧ (if i = (M 3 1).toNat then y % 256 else M 4 i) ≤ 255) ∧ (if i = (M 3 1).toNat then (if y % 256 < 128 then y % 256 else y % 256 - 256) else M' 83 i) = if (if i = (M 3 1).toNat then y % 256 else M 4 i) < 128 then (if i = (M 3 1).toNat then y % 256 else M 4 i) else (if i = (M 3 1).toNat then y % 256 else M 4 i) - 256
  by_cases c : i = (M 3 1).toNat
  · rw [if_pos c, if_pos c]; omega
  · rw [if_neg c, if_neg c]; exact r i (by omega)
theorem tapE.tW {M M' : sM} {x : Int} (h : tapE M M') : tapE (tW 4 3 (fun y => y % 256) M x) (tW 83 82 (fun y => if y % 256 < 128 then y % 256 else y % 256 - 256) M' x) := h.tS.tS.tS.tS
theorem L13 (t x1 x2 x3 x4 x5 : Int) : Step t 13 169 [vI x1, vI x2, vI x3, vI x4, vI x5] := by
  intro d M G hd hI
  have hI1 := hI.same (kp.refl [] M)
  obtain ⟨t0, own, N, hN, hN2, ⟨a0, a1, a2, a3⟩, h2, h3, h4, h5⟩ := hI
  obtain ⟨d, rfl⟩ := sD 7 (d := d) (by omega)
  refine e13 (s13_0 ⟨⟨by omega, by omega⟩, fun q1 => ?_, fun q2 => ?_⟩)
  · refine e169 (s169_0 ⟨⟨by omega, by omega⟩, fun q1 => ?_, fun q2 => ?_⟩)
    · omega
    · exact ⟨rfl, hI1⟩
  · have p := fun (M : sM) (x : Int) => tW_p (b := 4) (p := 3) (f := fun y => y % 256) (M := M) (x := x) (by decide)
    have p' := fun (M : sM) (x : Int) => tW_p (b := 83) (p := 82) (f := fun y => if y % 256 < 128 then y % 256 else y % 256 - 256) (M := M) (x := x) (by decide)
    have n' := fun (M : sM) (x : Int) => tW_ne (b := 4) (p := 3) (f := fun y => y % 256) (M := M) (x := x) (a := 82) (by decide) (by decide)
    refine c15 a0 (by omega) ?_
    refine c15 (by simp only [p]; omega) (by simp only [p]; omega) ?_
    refine c15 (by simp only [p]; omega) (by simp only [p]; omega) ?_
    refine c15 (by simp only [p]; omega) (by simp only [p]; omega) ?_
    refine c15 (by simp only [p]; omega) (by simp only [p]; omega) ?_
    have e82 : tW 4 3 (fun y => y % 256) (tW 4 3 (fun y => y % 256) (tW 4 3 (fun y => y % 256) (tW 4 3 (fun y => y % 256) (tW 4 3 (fun y => y % 256) M x1) x2) x3) x4) x5 82 1 = M 3 1 := by simp only [n']; exact a2
    refine e169 (s169_0 ⟨⟨by omega, by omega⟩, fun q1 => ?_, fun q2 => ?_⟩)
    · refine c170 (by simp only [n']; omega) (by simp only [n']; omega) ?_
      refine c170 (by simp only [n', p']; omega) (by simp only [n', p']; omega) ?_
      refine c170 (by simp only [n', p']; omega) (by simp only [n', p']; omega) ?_
      refine c170 (by simp only [n', p']; omega) (by simp only [n', p']; omega) ?_
      refine c170 (by simp only [n', p']; omega) (by simp only [n', p']; omega) ?_
      have hT := ((((show tapE M (tW 4 3 (fun y => y % 256) (tW 4 3 (fun y => y % 256) (tW 4 3 (fun y => y % 256) (tW 4 3 (fun y => y % 256) (tW 4 3 (fun y => y % 256) M x1) x2) x3) x4) x5) from ⟨a0, e82, fun i hi => by
        simp only [tW_ne (b := 4) (p := 3) (a := 83) (by decide) (by decide)]
        exact a3 i hi⟩).tW (x := x1)).tW (x := x2)).tW (x := x3)).tW (x := x4) |>.tW (x := x5)
      generalize hMc : tW 4 3 (fun y => y % 256) (tW 4 3 (fun y => y % 256) (tW 4 3 (fun y => y % 256) (tW 4 3 (fun y => y % 256) (tW 4 3 (fun y => y % 256) M x1) x2) x3) x4) x5 = Mc at hT ⊢
      have em : ∀ a, a ≠ 83 → a ≠ 82 → tW 83 82 (fun y => if y % 256 < 128 then y % 256 else y % 256 - 256) (tW 83 82 (fun y => if y % 256 < 128 then y % 256 else y % 256 - 256) (tW 83 82 (fun y => if y % 256 < 128 then y % 256 else y % 256 - 256) (tW 83 82 (fun y => if y % 256 < 128 then y % 256 else y % 256 - 256) (tW 83 82 (fun y => if y % 256 < 128 then y % 256 else y % 256 - 256) Mc x1) x2) x3) x4) x5 a = Mc a := fun a b1 b2 => by
        simp only [tW_ne b1 b2]
      have em2 : tW 83 82 (fun y => if y % 256 < 128 then y % 256 else y % 256 - 256) (tW 83 82 (fun y => if y % 256 < 128 then y % 256 else y % 256 - 256) (tW 83 82 (fun y => if y % 256 < 128 then y % 256 else y % 256 - 256) (tW 83 82 (fun y => if y % 256 < 128 then y % 256 else y % 256 - 256) (tW 83 82 (fun y => if y % 256 < 128 then y % 256 else y % 256 - 256) Mc x1) x2) x3) x4) x5 82 2 = Mc 82 2 := by
        simp only [tW_ni (b := 83) (p := 82) (j := 2) (by decide) (by decide)]
      generalize hMm : tW 83 82 (fun y => if y % 256 < 128 then y % 256 else y % 256 - 256) (tW 83 82 (fun y => if y % 256 < 128 then y % 256 else y % 256 - 256) (tW 83 82 (fun y => if y % 256 < 128 then y % 256 else y % 256 - 256) (tW 83 82 (fun y => if y % 256 < 128 then y % 256 else y % 256 - 256) (tW 83 82 (fun y => if y % 256 < 128 then y % 256 else y % 256 - 256) Mc x1) x2) x3) x4) x5 = Mm at hT em em2 ⊢
      have ec : ∀ a, a ≠ 4 → a ≠ 3 → Mc a = M a := fun a b1 b2 => by rw [← hMc]; simp only [tW_ne b1 b2]
      have ec3 : Mc 3 1 = M 3 1 + 20 := by rw [← hMc]; simp only [p]; omega
      have e : ∀ a, a ≠ 3 → a ≠ 4 → a ≠ 82 → a ≠ 83 → Mm a = M a := fun a b1 b2 b3 b4 => (em a b4 b3).trans (ec a b2 b1)
      have e3 : Mm 3 = Mc 3 := em 3 (by decide) (by decide)
      have e4 : Mm 4 = Mc 4 := em 4 (by decide) (by decide)
      obtain ⟨w0, w1, w2⟩ := hT
      refine ⟨w1, by omega, own, N, hN, hN2, ⟨by rw [e3]; omega, by rw [e3]; omega, by rw [e3]; exact w1, by rw [e3, e4]; exact w2⟩, h2.keep (by rw [e 1 (by decide) (by decide) (by decide) (by decide)]) (em2.trans (by rw [ec 82 (by decide) (by decide)])) (e 12 (by decide) (by decide) (by decide) (by decide)) (e 84 (by decide) (by decide) (by decide) (by decide)) (e 86 (by decide) (by decide) (by decide) (by decide)) (e 87 (by decide) (by decide) (by decide) (by decide)) (fun a ha _ => e a (by omega) (by omega) (by omega) (by omega)), h3.keep (by omega) (e 41 (by decide) (by decide) (by decide) (by decide)) (e 106 (by decide) (by decide) (by decide) (by decide)) (e 107 (by decide) (by decide) (by decide) (by decide)) (fun a ha _ => e a (by omega) (by omega) (by omega) (by omega)), ?_, ?_⟩
      · obtain ⟨v, l, tr⟩ := h4
        refine ⟨by rw [e 93 (by decide) (by decide) (by decide) (by decide)]; exact v.mono (by omega), by rw [e 93 (by decide) (by decide) (by decide) (by decide)]; exact l, by rw [e 93 (by decide) (by decide) (by decide) (by decide)]; exact tr.congr (fun a _ _ => e a (by omega) (by omega) (by omega) (by omega))⟩
      · obtain ⟨v, tr⟩ := h5
        rw [iTold, e 93 (by decide) (by decide) (by decide) (by decide)]
        exact ⟨v, tr.congr (fun a _ _ => e a (by omega) (by omega) (by omega) (by omega))⟩
    · simp only [n'] at *; omega
