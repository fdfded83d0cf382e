/-! THE REFERENCE READS A STREET: readsAll. -/
section
variable {d n : Nat} {T : Nat → Int} {P : Int → sM → sG → Prop} {M : sM} {G : sG}
theorem clauseF_no {σ : stT} : (clauseF T n false σ).1 ≠ 0 := by
  unfold clauseF
  split
  · rw [if_pos (Or.inl rfl)]; show ¬ (1 + 8 * (blk T n σ.1 : Int) + 4 = 0); omega
  · split
    · rw [if_pos (Or.inl rfl)]; show ¬ (1 + 8 * (blk T n σ.1 : Int) + 4 = 0); omega
    · show ¬ (1 + 8 * (blk T n σ.1 : Int) = 0); omega
theorem key173 (hd : 18 ≤ d) (ho : tOk T n) (hT : rTp M T n) (h14 : M 82 14 = 6) : ∀ (r : Nat) (σ : stT) (M1 : sM) (v : Int), r ≤ 24 → σ.1 ≤ n → offR M M1 → rR M1 σ → M1 82 17 = ((24 - r : Nat) : Int) → (∀ M' q' v', offR M M' → ((streetF T n (r + 1) σ).1 = 0 → rR M' (streetF T n (r + 1) σ).2) → P (if (streetF T n (r + 1) σ).1 = 0 then 1 else 0) (sUpd (rS M' q' (streetF T n (r + 1) σ).1 v') 82 1 0) G) → sC d 174 [vO 12 82] (rS M1 σ.1 0 v) G (QI (fun r1 M2 G2 => sW (sC d) 173 (QI P) 35 [vO 12 82, vI r1] [] M2 G2 0 0)) := by
  intro r
  induction r with
  | zero =>
    intro σ M1 v hr hp hO hR h17 kk
    refine c174s (k := 24) (more := false) (by omega) ho (hT.off hO) hp hR ((hO.2 14 (by decide) (by decide) (by decide)).trans h14) h17 (by omega) rfl (fun M' q' v' y1 y2 y3 => ?_) (fun y => absurd y clauseF_no)
    have e12 : rS M' q' (clauseF T n false σ).1 v' 82 12 = (clauseF T n false σ).1 := rS_f
    have hS : streetF T n (0 + 1) σ = ((clauseF T n false σ).1, σ) := by
      show (if (clauseF T n false σ).1 ≠ 0 then _ else _) = _
      rw [if_pos y3]
      rfl
    rw [hS] at kk
    refine (s173_35 ⟨fun q1 => ⟨fun q2 => ?_, fun q3 => ?_⟩, fun q4 => ?_⟩)
    · have := kk M' q' v' (hO.trans y2) (fun z => absurd z y3)
      rw [if_neg y3] at this
      exact this
    · omega
    · omega
  | succ r ih =>
    intro σ M1 v hr hp hO hR h17 kk
    have h400 := ho.1
    obtain ⟨c, hc⟩ : ∃ c, c = clauseF T n true σ := ⟨_, rfl⟩
    have hcl : c.2.1 ≤ n := by rw [hc]; exact clauseF_le hp
    have hS : streetF T n (r + 1 + 1) σ = if c.1 ≠ 0 then (c.1, σ) else if chr T n (blk T n c.2.1) = 59 then streetF T n (r + 1) (blk T n c.2.1 + 1, c.2.2) else if chr T n (blk T n c.2.1) = -1 then (0, c.2) else (1 + 8 * (blk T n c.2.1 : Int), σ) := by
      rw [hc, ← show decide (1 ≤ r + 1) = true from decide_eq_true (by omega)]; rfl
    refine c174s (k := 24 - (r + 1)) (more := true) (by omega) ho (hT.off hO) hp hR ((hO.2 14 (by decide) (by decide) (by decide)).trans h14) h17 (by omega) (by rw [decide_eq_true (by omega)]) (fun M' q' v' y1 y2 y3 => ?_) (fun y3 M' v' y1 y2 y4 => ?_)
    · rw [← hc] at y3 ⊢
      have e12 : rS M' q' c.1 v' 82 12 = c.1 := rS_f
      rw [hS, if_pos y3] at kk
      refine (s173_35 ⟨fun q1 => ⟨fun q2 => ?_, fun q3 => ?_⟩, fun q4 => ?_⟩)
      · have := kk M' q' v' (hO.trans y2) (fun z => absurd z y3)
        rw [if_neg y3] at this
        exact this
      · omega
      · omega
    · rw [← hc] at y3 y2 ⊢
      rw [hS, if_neg (fun z => z y3)] at kk
      have hT' := (hT.off hO).off y1
      obtain ⟨b, hb⟩ : ∃ b, b = blk T n c.2.1 := ⟨_, rfl⟩
      have hbn : b ≤ n := by rw [hb]; exact run_le hcl
      have hbb : blk T n b = b := by rw [hb]; exact run_stop (run_end hcl)
      rw [← hb] at kk
      have hv : chr T n b = if b < n then T b else -1 := rfl
      refine (s173_35 ⟨fun q1 => ⟨fun q2 => ?_, fun q3 => ?_⟩, fun q4 => ?_⟩)
      · omega
      · omega
      · refine c175 (by omega) ho hT' hcl ?_
        rw [← hb]
        refine ⟨fun z1 => ?_, fun z1 => ⟨by rw [rS_p]; exact ⟨by omega, by omega⟩, ?_⟩⟩
        · refine c175 (by omega) ho hT' hbn ?_
          rw [hbb]
          refine ⟨fun z2 => ⟨fun z3 => absurd rS_f z3, fun _ => ?_⟩, fun z2 => ?_⟩
          · rw [if_neg z1, if_pos z2] at kk
            exact kk M' b v' (hO.trans y1) (fun _ => y2)
          · rw [if_neg z1, if_neg z2] at kk
            rw [show rS M' b 0 v' 82 11 = (b : Int) from rS_p]
            refine c178 (by omega) ⟨by omega, by decide, by decide⟩ ?_
            rw [if_pos rfl, show 1 + 8 * (b : Int) + 0 = 1 + 8 * (b : Int) by omega]
            have nz : ¬ (1 + 8 * (b : Int) = 0) := by omega
            refine ⟨fun _ => ?_, fun z3 => absurd (rS_f.symm.trans z3) nz⟩
            have := kk M' b v' (hO.trans y1) (fun z => absurd z nz)
            rw [if_neg nz] at this
            exact this
        · have hlt : b < n := by
            by_cases z : b < n
            · exact z
            · rw [if_neg z] at hv; omega
          rw [if_pos z1] at kk
          rw [rS_p, show ((b : Nat) : Int) + 1 = ((b + 1 : Nat) : Int) from rfl, rS_up]
          exact ih (b + 1, c.2.2) M' v' (by omega) hlt (hO.trans y1) y2 (by rw [y4]; omega) kk
end
