/-! The class's planner: rows of what goes together. -/
def idX (w x o : Nat) : Nat := (w * 12 + x) * 6 + o
theorem idX_inj {w x o w' x' o' : Nat} (hx : x < 12) (ho : o < 6) (hx' : x' < 12) (ho' : o' < 6) (h : idX w x o = idX w' x' o') : w = w' ∧ x = x' ∧ o = o' := by unfold idX at h; omega
section
variable {d : Nat} {P : Int → sM → sG → Prop} {PV : sM → sG → Prop} {M : sM} {G : sG} {S : Nat → Int}
/-- the planner's rows of the wishes alone -/
def plR (S : Nat → Int) (M : sM) : Prop := M 69 0 = S 5 ∧ ∀ w : Nat, (w : Int) < S 5 → M 70 w = wF S w ∧ M 71 w = wC S w ∧ M 74 w = ((2 ^ (wC S w).toNat - 1 : Nat) : Int)
theorem plR.congr {N : sM} (h : plR S M) (e : ∀ a, a ≠ 72 → a ≠ 73 → N a = M a) : plR S N := by
  unfold plR at h ⊢
  rw [e 69 (by decide) (by decide), e 70 (by decide) (by decide), e 71 (by decide) (by decide), e 74 (by decide) (by decide)]
  exact h
theorem c124 {w o : Nat} (hd : 20 ≤ d) (hv : vTold S) (ht : TO 29 M S) (hp : plR S M) (hwo : w < o) (ho : (o : Int) < S 5) (kk : ∀ N : sM, (∀ a, a ≠ 72 → a ≠ 73 → N a = M a) → (∀ x : Nat, (x : Int) < wC S w → N 72 (idX w x o) = ((fitM S w x o : Nat) : Int)) → (∀ i : Nat, (∀ x : Nat, x < 12 → i ≠ idX w x o) → N 72 i = M 72 i) → (∀ j : Nat, j ≠ w → N 73 j = M 73 j) → (N 73 w = 0 ↔ M 73 w = 0 ∧ ∀ x y : Nat, (x : Int) < wC S w → (y : Int) < wC S o → okW S w x o y) → PV N G) : sC d 124 [vO 3 69, vO 9 29, vI (w : Int), vI (o : Int)] M G (QV PV) := by
  obtain ⟨d, rfl⟩ := sD 12 (d := d) (by omega)
  have h5 := hv.1
  have va := wish_v hv (show (w : Int) < S 5 by omega)
  have vb := wish_v hv ho
  have a1 : M 31 ((w : Int)).toNat = wP S w := (wish_m ht (by omega)).1
  have a2 : M 32 ((w : Int)).toNat = wH S w := (wish_m ht (by omega)).2.1
  have b1 : M 31 ((o : Int)).toNat = wP S o := (wish_m ht ho).1
  have b2 : M 32 ((o : Int)).toNat = wH S o := (wish_m ht ho).2.1
  have pc := p12 (m := (wC S o).toNat) (by omega)
  have pc0 := Nat.two_pow_pos (wC S o).toNat
  -- ap: apart
  have main : ∀ ap : Int, (ap = 0 ∧ (wP S w = wP S o ∨ wH S w = wH S o)) ∨ (ap = 1 ∧ wP S w ≠ wP S o ∧ wH S w ≠ wH S o) → sW (sC (d + 11)) 124 (QV PV) 40 [vO 3 69, vO 9 29, vI (w : Int), vI (o : Int), vI ap, vI ((0 : Nat) : Int), vN, vN] [] M G 0 0 := fun ap hap => by
    refine sUpTo (W := fun x => ∀ N : sM, (∀ a, a ≠ 72 → a ≠ 73 → N a = M a) → (∀ x' : Nat, x' < x → N 72 (idX w x' o) = ((fitM S w x' o : Nat) : Int)) → (∀ i : Nat, (∀ x : Nat, x < 12 → i ≠ idX w x o) → N 72 i = M 72 i) → (∀ j : Nat, j ≠ w → N 73 j = M 73 j) → (N 73 w = 0 ↔ M 73 w = 0 ∧ ∀ x' y : Nat, x' < x → (y : Int) < wC S o → okW S w x' o y) → sW (sC (d + 11)) 124 (QV PV) 40 [vO 3 69, vO 9 29, vI (w : Int), vI (o : Int), vI ap, vI (x : Int), vN, vN] [] N G 0 0) (wC S w).toNat ?_ ?_ M (fun _ _ _ => rfl) (fun x' hx' => absurd hx' (Nat.not_lt_zero x')) (fun _ _ => rfl) (fun _ _ => rfl) ⟨fun h => ⟨h, fun x' y hx' => absurd hx' (Nat.not_lt_zero x')⟩, fun h => h.1⟩
    · intro N n1 n2 n3 n4 n5
      have hp2 := hp.congr n1
      have e71 : N 71 ((w : Int)).toNat = wC S w := (hp2.2 w (by omega)).2.1
      refine (s124_40 ⟨⟨(by first | omega | assumption | (refine ⟨?_, ?_⟩ <;> omega) | (simp_all; done)), (by first | omega | assumption | (refine ⟨?_, ?_⟩ <;> omega) | (simp_all; done))⟩, fun q1 => ?_, fun q2 => ⟨fun q3 => ?_, fun q4 => ⟨⟨(by first | omega | assumption | (refine ⟨?_, ?_⟩ <;> omega) | (simp_all; done)), (by first | omega | assumption | (refine ⟨?_, ?_⟩ <;> omega) | (simp_all; done))⟩, ?_⟩⟩⟩)
      · exact kk N n1 (fun x hx => n2 x (by omega)) n3 n4 (by
          rw [n5]
          exact ⟨fun h => ⟨h.1, fun x y hx hy => h.2 x y (by omega) hy⟩, fun h => ⟨h.1, fun x y hx hy => h.2 x y (by omega) hy⟩⟩)
      all_goals omega
    · intro x hx ih N n1 n2 n3 n4 n5
      have hp2 := hp.congr n1
      have e71 : N 71 ((w : Int)).toNat = wC S w := (hp2.2 w (by omega)).2.1
      have e71o : N 71 ((o : Int)).toNat = wC S o := (hp2.2 o ho).2.1
      have e74 : N 74 ((o : Int)).toNat = ((2 ^ (wC S o).toNat - 1 : Nat) : Int) := (hp2.2 o ho).2.2
      have eid : (((((w : Int) * 12) + (x : Int)) * 6) + (o : Int)).toNat = idX w x o := by unfold idX; omega
      have fl := fitM_lt (S := S) (w := w) (x := x) (o := o) vb.2.2.2.2.2.2
      have ff := fitM_full (S := S) (w := w) (x := x) (o := o) (by omega)
      -- the row is written
      have put1 : fitM S w x o = 2 ^ (wC S o).toNat - 1 → sW (sC (d + 11)) 124 (QV PV) 40 [vO 3 69, vO 9 29, vI (w : Int), vI (o : Int), vI ap, vI ((x : Int) + 1), vN, vN] [] (sUpd N 72 (((((w : Int) * 12) + (x : Int)) * 6) + (o : Int)).toNat ((fitM S w x o : Nat) : Int)) G 0 0 := fun hf => by
        rw [eid]
        have := ih (sUpd N 72 (idX w x o) ((fitM S w x o : Nat) : Int)) (fun a r1 r2 => (sUpd_ne r1).trans (n1 a r1 r2)) (fun x' hx' => by
          by_cases c : x' = x
          · rw [c]; exact sUpd_eq
          · exact (sUpd_ni (fun z => c (idX_inj (by omega) (by omega) (by omega) (by omega) z).2.1)).trans (n2 x' (by omega))) (fun i hi => (sUpd_ni (hi x (by omega))).trans (n3 i hi)) (fun j hj => by rw [sUpd_ne (by decide)]; exact n4 j hj) (by
          rw [sUpd_ne (by decide), n5]
          refine ⟨fun h => ⟨h.1, fun x' y hx' hy => ?_⟩, fun h => ⟨h.1, fun x' y hx' hy => h.2 x' y (by omega) hy⟩⟩
          by_cases c : x' = x
          · rw [c]; exact ff.mp hf y hy
          · exact h.2 x' y (by omega) hy)
        exact this
      have put2 : fitM S w x o ≠ 2 ^ (wC S o).toNat - 1 → sW (sC (d + 11)) 124 (QV PV) 40 [vO 3 69, vO 9 29, vI (w : Int), vI (o : Int), vI ap, vI ((x : Int) + 1), vN, vN] [] (sUpd (sUpd N 72 (((((w : Int) * 12) + (x : Int)) * 6) + (o : Int)).toNat ((fitM S w x o : Nat) : Int)) 73 ((w : Int)).toNat 1) G 0 0 := fun hf => by
        rw [eid]
        have := ih (sUpd (sUpd N 72 (idX w x o) ((fitM S w x o : Nat) : Int)) 73 w 1) (fun a r1 r2 => (sUpd_ne r2).trans ((sUpd_ne r1).trans (n1 a r1 r2))) (fun x' hx' => by
          rw [sUpd_ne (by decide)]
          by_cases c : x' = x
          · rw [c]; exact sUpd_eq
          · exact (sUpd_ni (fun z => c (idX_inj (by omega) (by omega) (by omega) (by omega) z).2.1)).trans (n2 x' (by omega))) (fun i hi => by rw [sUpd_ne (by decide)]; exact (sUpd_ni (hi x (by omega))).trans (n3 i hi)) (fun j hj => by rw [sUpd_ni hj, sUpd_ne (by decide)]; exact n4 j hj) (by
          rw [sUpd_eq]
          refine ⟨fun h => absurd h (by decide), fun h => absurd (ff.mpr (fun y hy => h.2 x y (by omega) hy)) hf⟩)
        exact this
      have ent : ∀ (j : Nat), (j : Int) = wC S o → sW (sC (d + 11)) 124 (QV PV) 71 [vO 3 69, vO 9 29, vI (w : Int), vI (o : Int), vI ap, vI (x : Int), vI ((mskN (okb S w x o) j : Nat) : Int), vI (j : Int)] [] N G 0 0 := fun j hj => by
        have ej : mskN (okb S w x o) j = fitM S w x o := by
          unfold fitM
          rw [show (wC S o).toNat = j by omega]
        rw [ej]
        refine (s124_71 ⟨⟨(by first | omega | assumption | (refine ⟨?_, ?_⟩ <;> omega) | (simp_all; done)), (by first | omega | assumption | (refine ⟨?_, ?_⟩ <;> omega) | (simp_all; done))⟩, fun q1 => ⟨⟨by omega, by omega⟩, ⟨by omega, by omega⟩, ⟨by omega, by omega⟩, ⟨by omega, by omega⟩, ⟨(by first | omega | assumption | (refine ⟨?_, ?_⟩ <;> omega) | (simp_all; done)), (by first | omega | assumption | (refine ⟨?_, ?_⟩ <;> omega) | (simp_all; done))⟩, ⟨(by first | omega | assumption | (refine ⟨?_, ?_⟩ <;> omega) | (simp_all; done)), (by first | omega | assumption | (refine ⟨?_, ?_⟩ <;> omega) | (simp_all; done))⟩, fun q2 => ⟨⟨by omega, by omega⟩, ?_⟩, fun q3 => ⟨⟨(by first | omega | assumption | (refine ⟨?_, ?_⟩ <;> omega) | (simp_all; done)), (by first | omega | assumption | (refine ⟨?_, ?_⟩ <;> omega) | (simp_all; done))⟩, ⟨by omega, by omega⟩, ?_⟩⟩, fun q4 => ⟨fun q5 => ⟨⟨by omega, by omega⟩, ⟨by omega, by omega⟩, ⟨by omega, by omega⟩, ⟨by omega, by omega⟩, ⟨(by first | omega | assumption | (refine ⟨?_, ?_⟩ <;> omega) | (simp_all; done)), (by first | omega | assumption | (refine ⟨?_, ?_⟩ <;> omega) | (simp_all; done))⟩, ⟨(by first | omega | assumption | (refine ⟨?_, ?_⟩ <;> omega) | (simp_all; done)), (by first | omega | assumption | (refine ⟨?_, ?_⟩ <;> omega) | (simp_all; done))⟩, fun q6 => ⟨⟨by omega, by omega⟩, ?_⟩, fun q7 => ⟨⟨(by first | omega | assumption | (refine ⟨?_, ?_⟩ <;> omega) | (simp_all; done)), (by first | omega | assumption | (refine ⟨?_, ?_⟩ <;> omega) | (simp_all; done))⟩, ⟨by omega, by omega⟩, ?_⟩⟩, fun q8 => ?_⟩⟩)
        · exact put1 (by omega)
        · exact put2 (by omega)
        all_goals omega
      refine (s124_40 ⟨⟨(by first | omega | assumption | (refine ⟨?_, ?_⟩ <;> omega) | (simp_all; done)), (by first | omega | assumption | (refine ⟨?_, ?_⟩ <;> omega) | (simp_all; done))⟩, fun q1 => ?_, fun q2 => ⟨fun q3 => ?_, fun q4 => ⟨⟨(by first | omega | assumption | (refine ⟨?_, ?_⟩ <;> omega) | (simp_all; done)), (by first | omega | assumption | (refine ⟨?_, ?_⟩ <;> omega) | (simp_all; done))⟩, ?_⟩⟩⟩)
      · omega
      · have hna : wP S w = wP S o ∨ wH S w = wH S o := by omega
        have loop : sW (sC (d + 11)) 124 (QV PV) 71 [vO 3 69, vO 9 29, vI (w : Int), vI (o : Int), vI ap, vI (x : Int), vI ((mskN (okb S w x o) 0 : Nat) : Int), vI ((0 : Nat) : Int)] [] N G 0 0 := by
          refine sUpTo (W := fun j => sW (sC (d + 11)) 124 (QV PV) 71 [vO 3 69, vO 9 29, vI (w : Int), vI (o : Int), vI ap, vI (x : Int), vI ((mskN (okb S w x o) j : Nat) : Int), vI (j : Int)] [] N G 0 0) (wC S o).toNat (ent _ (by omega)) ?_
          intro y hy ih2
          have tN : TO 29 N S := ht.congr (fun a r1 r2 => n1 a (by omega) (by omega))
          have ml := mskN_lt (Q := okb S w x o) (n := y)
          have pl := p12 (m := y) (by omega)
          refine (s124_71 ⟨⟨(by first | omega | assumption | (refine ⟨?_, ?_⟩ <;> omega) | (simp_all; done)), (by first | omega | assumption | (refine ⟨?_, ?_⟩ <;> omega) | (simp_all; done))⟩, fun q1 => ⟨⟨by omega, by omega⟩, ⟨by omega, by omega⟩, ⟨by omega, by omega⟩, ⟨by omega, by omega⟩, ⟨(by first | omega | assumption | (refine ⟨?_, ?_⟩ <;> omega) | (simp_all; done)), (by first | omega | assumption | (refine ⟨?_, ?_⟩ <;> omega) | (simp_all; done))⟩, ⟨(by first | omega | assumption | (refine ⟨?_, ?_⟩ <;> omega) | (simp_all; done)), (by first | omega | assumption | (refine ⟨?_, ?_⟩ <;> omega) | (simp_all; done))⟩, fun q2 => ⟨⟨by omega, by omega⟩, ?_⟩, fun q3 => ⟨⟨(by first | omega | assumption | (refine ⟨?_, ?_⟩ <;> omega) | (simp_all; done)), (by first | omega | assumption | (refine ⟨?_, ?_⟩ <;> omega) | (simp_all; done))⟩, ⟨by omega, by omega⟩, ?_⟩⟩, fun q4 => ⟨fun q5 => ⟨⟨by omega, by omega⟩, ⟨by omega, by omega⟩, ⟨by omega, by omega⟩, ⟨by omega, by omega⟩, ⟨(by first | omega | assumption | (refine ⟨?_, ?_⟩ <;> omega) | (simp_all; done)), (by first | omega | assumption | (refine ⟨?_, ?_⟩ <;> omega) | (simp_all; done))⟩, ⟨(by first | omega | assumption | (refine ⟨?_, ?_⟩ <;> omega) | (simp_all; done)), (by first | omega | assumption | (refine ⟨?_, ?_⟩ <;> omega) | (simp_all; done))⟩, fun q6 => ⟨⟨by omega, by omega⟩, ?_⟩, fun q7 => ⟨⟨(by first | omega | assumption | (refine ⟨?_, ?_⟩ <;> omega) | (simp_all; done)), (by first | omega | assumption | (refine ⟨?_, ?_⟩ <;> omega) | (simp_all; done))⟩, ⟨by omega, by omega⟩, ?_⟩⟩, fun q8 => ?_⟩⟩)
          all_goals try omega
          refine c125 (by omega) hv tN (by omega) ho (by omega) (by omega) hna (fun z => ?_) (fun z => ?_)
          · refine ⟨fun q9 => ⟨⟨by omega, by omega⟩, ?_⟩, fun q10 => ⟨⟨by omega, by omega⟩, ?_⟩⟩
            · omega
            · rw [msk_y (by omega) (okb_i.mpr z)]; exact ih2
          · refine ⟨fun q9 => ⟨⟨by omega, by omega⟩, ?_⟩, fun q10 => ⟨⟨by omega, by omega⟩, ?_⟩⟩
            · rw [← msk_n (by omega) (okb_n z), or_no (by omega)] at ih2
              exact ih2
            · omega
        exact loop
      · have hal : ∀ y : Nat, (y : Int) < wC S o → okW S w x o y := fun y _ => by
          unfold okW okB
          omega
        have ef : 2 ^ (wC S o).toNat - 1 = fitM S w x o := (ff.mpr hal).symm
        rw [e74, ef]
        refine (s124_71 ⟨⟨(by first | omega | assumption | (refine ⟨?_, ?_⟩ <;> omega) | (simp_all; done)), (by first | omega | assumption | (refine ⟨?_, ?_⟩ <;> omega) | (simp_all; done))⟩, fun q1 => ⟨⟨by omega, by omega⟩, ⟨by omega, by omega⟩, ⟨by omega, by omega⟩, ⟨by omega, by omega⟩, ⟨(by first | omega | assumption | (refine ⟨?_, ?_⟩ <;> omega) | (simp_all; done)), (by first | omega | assumption | (refine ⟨?_, ?_⟩ <;> omega) | (simp_all; done))⟩, ⟨(by first | omega | assumption | (refine ⟨?_, ?_⟩ <;> omega) | (simp_all; done)), (by first | omega | assumption | (refine ⟨?_, ?_⟩ <;> omega) | (simp_all; done))⟩, fun q2 => ⟨⟨by omega, by omega⟩, ?_⟩, fun q3 => ⟨⟨(by first | omega | assumption | (refine ⟨?_, ?_⟩ <;> omega) | (simp_all; done)), (by first | omega | assumption | (refine ⟨?_, ?_⟩ <;> omega) | (simp_all; done))⟩, ⟨by omega, by omega⟩, ?_⟩⟩, fun q4 => ⟨fun q5 => ⟨⟨by omega, by omega⟩, ⟨by omega, by omega⟩, ⟨by omega, by omega⟩, ⟨by omega, by omega⟩, ⟨(by first | omega | assumption | (refine ⟨?_, ?_⟩ <;> omega) | (simp_all; done)), (by first | omega | assumption | (refine ⟨?_, ?_⟩ <;> omega) | (simp_all; done))⟩, ⟨(by first | omega | assumption | (refine ⟨?_, ?_⟩ <;> omega) | (simp_all; done)), (by first | omega | assumption | (refine ⟨?_, ?_⟩ <;> omega) | (simp_all; done))⟩, fun q6 => ⟨⟨by omega, by omega⟩, ?_⟩, fun q7 => ⟨⟨(by first | omega | assumption | (refine ⟨?_, ?_⟩ <;> omega) | (simp_all; done)), (by first | omega | assumption | (refine ⟨?_, ?_⟩ <;> omega) | (simp_all; done))⟩, ⟨by omega, by omega⟩, ?_⟩⟩, fun q8 => ?_⟩⟩)
        · exact put1 ef.symm
        · rw [e74, ef] at q3; omega
        · exact put1 ef.symm
        · rw [e74, ef] at q7; omega
        all_goals omega
      all_goals omega
  refine e124 (s124_0 ⟨⟨(by first | omega | assumption | (refine ⟨?_, ?_⟩ <;> omega) | (simp_all; done)), (by first | omega | assumption | (refine ⟨?_, ?_⟩ <;> omega) | (simp_all; done))⟩, ⟨(by first | omega | assumption | (refine ⟨?_, ?_⟩ <;> omega) | (simp_all; done)), (by first | omega | assumption | (refine ⟨?_, ?_⟩ <;> omega) | (simp_all; done))⟩, fun q1 => ?_, fun q2 => ⟨fun q3 => ?_, fun q4 => ?_⟩⟩)
  · exact main 0 (Or.inl ⟨rfl, by omega⟩)
  · exact main 0 (Or.inl ⟨rfl, by omega⟩)
  · exact main 1 (Or.inr ⟨rfl, by omega, by omega⟩)
  all_goals omega
end
