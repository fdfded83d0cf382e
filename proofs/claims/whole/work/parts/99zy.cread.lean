/-! THE RULE PARSER, class: a clause's word, what opens, a value. -/
/-- the class's memory, at a state -/
def cSt (M : sM) (T : Nat → Int) (n : Nat) : aS → Prop := fun (e, p, m, s, D, k, cl) => cTp M T n ∧ M 3 2 = (p : Int) ∧ M 3 3 = 0 ∧ M 2 9 = (cl.length : Int) ∧ M 2 11 = (m : Int) ∧ M 2 13 = (brk s : Int) ∧ M 2 14 = (e : Int) ∧ (1 ≤ e → e ≤ 6 → M 7 cl.length = k) ∧ (e ≤ 3 ∨ e = 7 → cCr1 M s cl m p) ∧ (4 ≤ e → e ≤ 6 → cCr2 M s D cl m p)
/-- what reading may change -/
def offR2 (M M' : sM) : Prop := (∀ a, a ≠ 2 → a ≠ 3 → ¬ (5 ≤ a ∧ a ≤ 11) → M' a = M a) ∧ ∀ i, i ≠ 2 → i ≠ 3 → M' 3 i = M 3 i
theorem offR2.refl (M : sM) : offR2 M M := ⟨fun _ _ _ _ => rfl, fun _ _ _ => rfl⟩
theorem offR2.trans {M M' M'' : sM} (h : offR2 M M') (h' : offR2 M' M'') : offR2 M M'' := ⟨fun a h1 h2 h3 => (h'.1 a h1 h2 h3).trans (h.1 a h1 h2 h3), fun i h1 h2 => (h'.2 i h1 h2).trans (h.2 i h1 h2)⟩
theorem offR2.u {M : sM} {a i : Nat} {x : Int} (h : a = 2 ∨ (a = 3 ∧ (i = 2 ∨ i = 3)) ∨ (5 ≤ a ∧ a ≤ 11)) : offR2 M (sUpd M a i x) := ⟨fun b h1 h2 h3 => sUpd_ne (by omega), fun j h1 h2 => by
  by_cases c : a = 3
  · rw [c, sUpd_ni (by omega)]
  · rw [sUpd_ne (by omega)]⟩
theorem offR2.cs {M : sM} {q : Nat} {f : Int} : offR2 M (cS M q f) := ⟨fun b h1 h2 h3 => cS_a h2, fun j h1 h2 => cS_o (Or.inr ⟨h1, h2⟩)⟩
theorem offS.r {M M' : sM} (h : offS M M') : offR2 M M' := ⟨fun a h1 h2 h3 => h.1 a h1 (by omega) (by omega), fun i h1 h2 => by rw [h.1 3 (by decide) (by decide) (by decide)]⟩
theorem offR2.tp {M M' : sM} {T : Nat → Int} {n : Nat} (h : offR2 M M') (hT : cTp M T n) : cTp M' T n := ⟨(h.2 1 (by decide) (by decide)).trans hT.1, fun i hi => by rw [h.1 4 (by decide) (by decide) (by decide)]; exact hT.2 i hi⟩
/-- what follows a step -/
def cK (T : Nat → Int) (n : Nat) (M : sM) (G : sG) (PV : sM → sG → Prop) (r : Int × aS) : Prop := (r.1 ≠ 0 → ∀ M', offR2 M M' → M' 3 3 = r.1 → PV M' G) ∧ (r.1 = 0 → ∀ M', offR2 M M' → cSt M' T n r.2 → PV M' G)
section
variable {d n p m e : Nat} {T : Nat → Int} {P : Int → sM → sG → Prop} {PV : sM → sG → Prop} {M : sM} {G : sG} {s : stS} {D : den} {k : Int} {cl : List (Int × den)}
theorem failK {g : Int} {r : Int × aS} {j : Int} (hd : 4 ≤ d) (hp : p ≤ 400) (h3 : M 3 2 = (p : Int)) (h0 : M 3 3 = 0) (hj : 0 ≤ j ∧ j ≤ 7) (hr : r.1 = 1 + 8 * (p : Int) + j) (kk : cK T n M G PV r) : sC d 24 [vO 4 3, vI j] M G (QV PV) := by
  have hM : cS M p 0 = M := cS_self.2 ⟨h3, h0⟩
  rw [← hM]
  refine c24 (by omega) ⟨hp, hj⟩ ?_
  rw [if_pos rfl]
  exact kk.1 (by omega) _ offR2.cs (by rw [cS_f, hr])
theorem clDone (hS : cSt M T n (0, p, m, s, D, k, cl)) (w : Nat) (kd : Int) : offR2 M (sUpd (sUpd (cS M (p + w) 0) 7 cl.length kd) 2 14 1) ∧ cSt (sUpd (sUpd (cS M (p + w) 0) 7 cl.length kd) 2 14 1) T n (1, p + w, m, s, D, kd, cl) := by
  obtain ⟨h1, h2, h3, h4, h5, h6, h7, h8, h9, -⟩ := hS
  have o : offR2 M (sUpd (sUpd (cS M (p + w) 0) 7 cl.length kd) 2 14 1) := (offR2.cs.trans (offR2.u (Or.inr (Or.inr (by decide))))).trans (offR2.u (Or.inl rfl))
  refine ⟨o, o.tp h1, ?_, ?_, ?_, ?_, ?_, ?_, fun _ _ => ?_, fun _ => ?_, fun z => by omega⟩
  · simp [sUpd, cS]
  · simp [sUpd, cS]
  · simp [sUpd, cS, h4]
  · simp [sUpd, cS, h5]
  · simp [sUpd, cS, h6]
  · simp [sUpd, cS]
  · simp [sUpd, cS]
  · refine (h9 (Or.inl (Nat.zero_le _))).congr (by funext i; simp [sUpd, cS]) (by funext i; simp [sUpd, cS]) (by funext i; simp [sUpd, cS]) (by funext i; simp [sUpd, cS]) (by funext i; simp [sUpd, cS]) (fun i hi => ⟨?_, by simp [sUpd, cS]⟩) ⟨by simp [sUpd, cS], by simp [sUpd, cS], by simp [sUpd, cS]⟩ (by omega)
    have : i ≠ cl.length := by omega
    simp [sUpd, cS, this]
theorem c38 (hd : 8 ≤ d) (ho : tOk T n) (hS : cSt M T n (0, p, m, s, D, k, cl)) (hA : okA n (0, p, m, s, D, k, cl)) (kk : cK T n M G PV (aCla T n p m s D cl)) : sC d 38 [vO 7 2] M G (QV PV) := by
  obtain ⟨d, rfl⟩ := sD 2 (d := d) (by omega)
  have hS' := hS
  obtain ⟨h1, h2, h3, h4, h5, h6, h7, h8, h9, -⟩ := hS'
  have hp : p ≤ n := hA.2.2.2.1
  have hcl : cl.length ≤ 12 := hA.2.2.2.2.2.1
  have h400 := ho.1
  have hM : cS M p 0 = M := cS_self.2 ⟨h2, h3⟩
  have full : ∀ kd : Int, aKd T n p = kd → kd ≠ -1 → 12 ≤ cl.length → sC (d + 1) 24 [vO 4 3, vI 4] M G (QV PV) := fun kd e1 e2 e3 => failK (g := 0) (by omega) (by omega) h2 h3 ⟨by decide, by decide⟩ (by unfold aCla; rw [e1, if_neg e2, if_pos e3]) kk
  have done : ∀ (kd : Int) (w : Nat), aKd T n p = kd → kd ≠ -1 → (if kd = 2 then 6 else 4) = w → ¬ 12 ≤ cl.length → PV (sUpd (sUpd (cS M (p + w) 0) 7 cl.length kd) 2 14 1) G := fun kd w e1 e2 e3 e4 => by
    have hr : aCla T n p m s D cl = (0, 1, p + w, m, s, D, kd, cl) := by unfold aCla; rw [e1, if_neg e2, if_neg e4, e3]
    rw [hr] at kk
    have hc := clDone hS w kd
    exact kk.2 rfl _ hc.1 hc.2
  have u : ∀ w : Nat, sUpd M 3 2 ((p : Int) + (w : Int)) = cS M (p + w) 0 := fun w => by
    rw [← hM]
    have := cS_up (M := M) (q := p) (f := 0) (q' := p + w)
    rw [hM] at this ⊢
    exact this
  refine e38 (s38_0 ?_)
  have cw : ∀ {P : Int → sM → sG → Prop} {j : Nat} {w : List Nat}, j < 21 → sByt.getD j [] = w → w.length ≤ 20 → (atW T n p w → P 1 M G) → (¬ atW T n p w → P 0 M G) → sC (d + 1) 23 [vO 4 3, vS j] M G (QI P) := fun hj hw hl k1 k0 => by
    have := c23 (d := d + 1) (G := G) (M := M) (p := p) (f := 0) (by omega) hj hw hl ho h1 hp (by rw [hM]; exact k1) (by rw [hM]; exact k0)
    rw [hM] at this
    exact this
  refine cw (w := wCome) (by decide) (by decide) (by decide) (fun w1 => ?_) (fun w1 => ?_)
  · have e1 : aKd T n p = 0 := by unfold aKd; rw [if_pos (atB_y w1)]
    refine ⟨fun q1 => ?_, fun q10 => ⟨fun q11 => ⟨⟨by omega, by omega⟩, ⟨(by first | omega | assumption | (refine ⟨?_, ?_⟩ <;> omega) | (simp_all; done)), (by first | omega | assumption | (refine ⟨?_, ?_⟩ <;> omega) | (simp_all; done))⟩, ?_⟩, fun q12 => ?_⟩⟩
    · omega
    · have := done 0 4 e1 (by decide) (by decide) (by omega)
      rw [h2, h4, show ((p : Int) + 4) = (p : Int) + ((4 : Nat) : Int) from rfl, u]
      exact this
    · exact full 0 e1 (by decide) (by omega)
    all_goals omega
  · refine ⟨fun q1 => ?_, fun q10 => ⟨fun q11 => ⟨⟨by omega, by omega⟩, ⟨(by first | omega | assumption | (refine ⟨?_, ?_⟩ <;> omega) | (simp_all; done)), (by first | omega | assumption | (refine ⟨?_, ?_⟩ <;> omega) | (simp_all; done))⟩, ?_⟩, fun q12 => ?_⟩⟩
    · refine cw (w := wHold) (by decide) (by decide) (by decide) (fun w2 => ?_) (fun w2 => ?_)
      · have e1 : aKd T n p = 1 := by unfold aKd; rw [if_neg (atB_n w1), if_pos (atB_y w2)]
        refine ⟨fun q2 => ?_, fun q7 => ⟨fun q8 => ⟨⟨by omega, by omega⟩, ⟨(by first | omega | assumption | (refine ⟨?_, ?_⟩ <;> omega) | (simp_all; done)), (by first | omega | assumption | (refine ⟨?_, ?_⟩ <;> omega) | (simp_all; done))⟩, ?_⟩, fun q9 => ?_⟩⟩
        · omega
        · have := done 1 4 e1 (by decide) (by decide) (by omega)
          rw [h2, h4, show ((p : Int) + 4) = (p : Int) + ((4 : Nat) : Int) from rfl, u]
          exact this
        · exact full 1 e1 (by decide) (by omega)
        all_goals omega
      · refine ⟨fun q2 => ?_, fun q7 => ⟨fun q8 => ⟨⟨by omega, by omega⟩, ⟨(by first | omega | assumption | (refine ⟨?_, ?_⟩ <;> omega) | (simp_all; done)), (by first | omega | assumption | (refine ⟨?_, ?_⟩ <;> omega) | (simp_all; done))⟩, ?_⟩, fun q9 => ?_⟩⟩
        · refine cw (w := wWin) (by decide) (by decide) (by decide) (fun w3 => ?_) (fun w3 => ?_)
          · have e1 : aKd T n p = 2 := by unfold aKd; rw [if_neg (atB_n w1), if_neg (atB_n w2), if_pos (atB_y w3)]
            refine ⟨fun q3 => ?_, fun q4 => ⟨fun q5 => ⟨⟨by omega, by omega⟩, ⟨(by first | omega | assumption | (refine ⟨?_, ?_⟩ <;> omega) | (simp_all; done)), (by first | omega | assumption | (refine ⟨?_, ?_⟩ <;> omega) | (simp_all; done))⟩, ?_⟩, fun q6 => ?_⟩⟩
            · omega
            · have := done 2 6 e1 (by decide) (by decide) (by omega)
              rw [h2, h4, show ((p : Int) + 6) = (p : Int) + ((6 : Nat) : Int) from rfl, u]
              exact this
            · exact full 2 e1 (by decide) (by omega)
            all_goals omega
          · have e1 : aKd T n p = -1 := by unfold aKd; rw [if_neg (atB_n w1), if_neg (atB_n w2), if_neg (atB_n w3)]
            refine ⟨fun q3 => ?_, fun q4 => ⟨fun q5 => ⟨⟨by omega, by omega⟩, ⟨(by first | omega | assumption | (refine ⟨?_, ?_⟩ <;> omega) | (simp_all; done)), (by first | omega | assumption | (refine ⟨?_, ?_⟩ <;> omega) | (simp_all; done))⟩, ?_⟩, fun q6 => ?_⟩⟩
            · exact failK (g := 0) (by omega) (by omega) h2 h3 ⟨by decide, by decide⟩ (by unfold aCla; rw [e1, if_pos rfl]; show 1 + 8 * (p : Int) = _; omega) kk
            all_goals omega
        all_goals omega
    all_goals omega
end
