/-! THE RULE PARSER: faults are small; the class's rule(). -/
section
variable {T : Nat → Int} {n p m e q : Nat} {s : stS} {D : den} {k : Int} {cl : List (Int × den)} {σ : aS} {x : Int × List (Int × den)}
theorem aStep_sm (hp : σ.2.1 ≤ n) : sm n (aStep T n σ).1 := by
  obtain ⟨e, p, m, s, D, k, cl⟩ := σ
  have hb : blk T n p ≤ n := run_le hp
  rw [aStep_u]
  split
  · unfold aCla
    split
    · exact sm_a0 hb
    · split
      · exact sm_at hb (by decide) (by decide)
      · exact sm_0
  · split
    · unfold aOpn
      split
      · exact sm_at hb (by decide) (by decide)
      · split
        · exact sm_0
        · exact sm_0
    · split
      · unfold aVal
        split
        · unfold valF
          split
          · exact numF_sm hb
          · split
            · exact sm_a0 hb
            · exact sm_0
        · split
          · exact sm_at hb (by decide) (by decide)
          · exact sm_0
      · unfold aBeh
        split
        · exact sm_0
        · split
          · split
            · exact sm_a0 hb
            · split
              · exact sm_at hb (by decide) (by decide)
              · exact sm_0
          · split
            · exact sm_0
            · split
              · exact sm_0
              · split
                · exact sm_0
                · split
                  · exact sm_0
                  · split
                    · exact sm_0
                    · exact sm_a0 hb
theorem aRun_sm : ∀ (r : Nat) (σ : aS), okA n σ → aRun T n r σ = some x → sm n x.1
  | 0, σ, _, h => by cases h
  | r + 1, σ, hA, h => by
    by_cases c : σ.1 = 7
    · have e : aRun T n (r + 1) σ = some (0, σ.2.2.2.2.2.2) := if_pos c
      rw [e] at h
      rw [← Option.some.inj h]
      exact sm_0
    · by_cases c2 : (aStep T n σ).1 ≠ 0
      · have e : aRun T n (r + 1) σ = some ((aStep T n σ).1, []) := (if_neg c).trans (if_pos c2)
        rw [e] at h
        rw [← Option.some.inj h]
        exact aStep_sm (show σ.2.1 ≤ n by obtain ⟨e, p, m, s, D, k, cl⟩ := σ; exact hA.2.2.2.1)
      · have e : aRun T n (r + 1) σ = aRun T n r (aStep T n σ).2 := (if_neg c).trans (if_neg c2)
        rw [e] at h
        exact aRun_sm r _ (hA.step c (Decidable.not_not.1 c2)).1 h
theorem okA_I : okA n aI := ⟨trivial, Nat.zero_le _, Nat.zero_le _, Nat.zero_le _, Nat.zero_le _, Nat.zero_le _, fun x hx => absurd hx List.not_mem_nil, fun _ => rfl, fun _ => Nat.zero_le _, fun z => by omega, fun z => by omega, fun z => by omega, fun z => absurd z (by decide)⟩
theorem aTo_sm (ht : aTo T n aI x) : sm n x.1 := by
  obtain ⟨r, hr⟩ := ht
  exact aRun_sm r aI okA_I hr
end
section
variable {d n r a : Nat} {T : Nat → Int} {P : Int → sM → sG → Prop} {M : sM} {G : sG}
theorem c35n (hd : 2 ≤ d) (h11 : M 1 11 = 6) (kk : P (-1) M G) : sC d 35 [vO 11 1] M G (QI P) := by
  obtain ⟨d, rfl⟩ := sD 1 (d := d) (by omega)
  refine sC_in (Nat.le_of_ble_eq_true rfl) rfl ?_
  refine q_aload_n 1 rfl (show sCode 35 0 = some (.aload_n 0, 1) by decide +kernel) rfl (Nat.le_of_ble_eq_true rfl) ?_
  refine q_getI 4 rfl (show sCode 35 1 = some (.getfield 82, 3) by decide +kernel) (show sFR (sKo 35).1 82 = some (11, 11) by decide +kernel) (by decide +kernel) (Or.inl (Or.inl rfl)) ?_
  refine q_bipush 6 rfl (show sCode 35 4 = some (.bipush 6, 2) by decide +kernel) ⟨by decide, by decide⟩ (by decide +kernel) ?_
  refine q_icmplt 11 9 rfl (by decide) (show sCode 35 6 = some (.if_icmp .lt 5, 3) by decide +kernel) (fun q => by omega) (fun _ => ?_)
  refine q_iconst 10 rfl (show sCode 35 9 = some (.iconst (-1), 1) by decide +kernel) ⟨by decide, by decide⟩ ?_
  exact q_iret (show sCode 35 10 = some (.ireturn, 1) by decide +kernel) (by decide +kernel) ⟨by decide, by decide⟩ kk
theorem c35 (hd : 30 ≤ d) (ho : tOk T n) (hT : cTp M T n) (h11 : M 1 11 = (r : Int)) (r6 : r < 6) (ha : 109 ≤ a) (hg : ∀ i, i < 5 → G (a + i) = (0, 0, 0)) (kf : ∀ f M', f ≠ 0 → aTo T n aI (f, []) → offR2 M M' → P (-2 - f) (sUpd M' 3 1 0) G)
    (kk : ∀ cl M' G', aTo T n aI (0, cl) → (∀ b, b ≠ 2 → b ≠ 3 → ¬ (5 ≤ b ∧ b ≤ 11) → ¬ (a ≤ b ∧ b < a + 5) → M' b = M b) → (∀ i, i ≠ 2 → i ≠ 3 → M' 3 i = M 3 i) → (∀ b, ¬ (a ≤ b ∧ b < a + 5) → G' b = G b) → ruleC M' G' a (cl.length : Int) (clK cl) (clD cl) → P (r : Int) (sUpd (sUpd (sUpd M' 3 1 0) 12 r (a : Int)) 1 11 ((r : Int) + 1)) G') : sC d 35 [vO 11 1] M G (QI P) := by
  obtain ⟨d, rfl⟩ := sD 1 (d := d) (by omega)
  refine sC_in (Nat.le_of_ble_eq_true rfl) rfl ?_
  refine q_aload_n 1 rfl (show sCode 35 0 = some (.aload_n 0, 1) by decide +kernel) rfl (Nat.le_of_ble_eq_true rfl) ?_
  refine q_getI 4 rfl (show sCode 35 1 = some (.getfield 82, 3) by decide +kernel) (show sFR (sKo 35).1 82 = some (11, 11) by decide +kernel) (by decide +kernel) (Or.inl (Or.inl rfl)) ?_
  refine q_bipush 6 rfl (show sCode 35 4 = some (.bipush 6, 2) by decide +kernel) ⟨by decide, by decide⟩ (by decide +kernel) ?_
  refine q_icmplt 11 9 rfl (by decide) (show sCode 35 6 = some (.if_icmp .lt 5, 3) by decide +kernel) (fun _ => ?_) (fun q => by omega)
  refine q_aload_n 12 rfl (show sCode 35 11 = some (.aload_n 0, 1) by decide +kernel) rfl (Nat.le_of_ble_eq_true rfl) ?_
  refine q_getR (vO 7 2) 15 rfl (show sCode 35 12 = some (.getfield 10, 3) by decide +kernel) (show sFR (sKo 35).1 10 = some (11, 1) by decide +kernel) (by decide +kernel) (Or.inl (Or.inl rfl)) rfl ?_
  refine q_virtR [] 18 rfl (show sCode 35 15 = some (.invokevirtual 113, 3) by decide +kernel) (show sMR (sKo 35).1 113 = some 36 by decide +kernel) (show 36 < 1000 ∧ sStat 36 = false ∧ sIni 36 = false ∧ sKo 36 = (7, 0, 4, 9, 3205) by decide +kernel) rfl (Or.inl rfl) rfl (Nat.le_of_ble_eq_true rfl) rfl rfl rfl ⟨rfl, rfl, by decide +kernel, by decide +kernel⟩ ?_
  refine c36 (a := a) (by omega) ho hT ha hg (fun f M' hf ht o' h33 => ?_) (fun cl M' G' ht f1 f2 f3 hr => ?_)
  · have hsm := aTo_sm ht
    have h400 := ho.1
    unfold sm at hsm
    have hs1 : 0 ≤ f := hsm.1
    have hs2 : f ≤ 8 + 8 * (n : Int) := hsm.2
    refine q_astore_n [vO 11 1, vQ 6 0] 19 rfl (show sCode 35 18 = some (.astore_n 1, 1) by decide +kernel) ⟨Nat.le_of_ble_eq_true rfl, Or.inl (Nat.lt_of_lt_of_le (Nat.lt_succ_self _) (Nat.le_of_ble_eq_true rfl))⟩ (Nat.lt_succ_self _) rfl rfl ?_
    refine q_aload_n 20 rfl (show sCode 35 19 = some (.aload_n 0, 1) by decide +kernel) rfl (Nat.le_of_ble_eq_true rfl) ?_
    refine q_getR (vO 4 3) 23 rfl (show sCode 35 20 = some (.getfield 20, 3) by decide +kernel) (show sFR (sKo 35).1 20 = some (11, 0) by decide +kernel) (by decide +kernel) (Or.inl (Or.inl rfl)) rfl ?_
    refine q_iconst 24 rfl (show sCode 35 23 = some (.iconst 0, 1) by decide +kernel) ⟨by decide, by decide⟩ ?_
    refine q_putI 27 rfl (show sCode 35 24 = some (.putfield 96, 3) by decide +kernel) (show sFR (sKo 35).1 96 = some (4, 1) by decide +kernel) (by decide +kernel) (Or.inl ⟨Or.inl rfl, by decide +kernel⟩) ?_
    refine q_aload_n 28 rfl (show sCode 35 27 = some (.aload_n 1, 1) by decide +kernel) rfl (Nat.le_of_ble_eq_true rfl) ?_
    refine q_ifnonnull 42 31 rfl (by decide) (show sCode 35 28 = some (.ifnonnull 14, 3) by decide +kernel) (fun q => absurd rfl q) (fun _ => ?_)
    refine q_bipush 33 rfl (show sCode 35 31 = some (.bipush (-2), 2) by decide +kernel) ⟨by decide, by decide⟩ (by decide +kernel) ?_
    refine q_aload_n 34 rfl (show sCode 35 33 = some (.aload_n 0, 1) by decide +kernel) rfl (Nat.le_of_ble_eq_true rfl) ?_
    refine q_getR (vO 4 3) 37 rfl (show sCode 35 34 = some (.getfield 20, 3) by decide +kernel) (show sFR (sKo 35).1 20 = some (11, 0) by decide +kernel) (by decide +kernel) (Or.inl (Or.inl rfl)) rfl ?_
    refine q_getI 40 rfl (show sCode 35 37 = some (.getfield 117, 3) by decide +kernel) (show sFR (sKo 35).1 117 = some (4, 3) by decide +kernel) (by decide +kernel) (Or.inl (Or.inl rfl)) ?_
    rw [sUpd_ni (by decide), h33]
    refine q_isub 41 rfl (show sCode 35 40 = some (.isub, 1) by decide +kernel) ⟨by omega, by omega⟩ ?_
    exact q_iret (show sCode 35 41 = some (.ireturn, 1) by decide +kernel) (by decide +kernel) ⟨by decide +kernel, by decide +kernel⟩ (kf f M' hf ht o')
  · refine q_astore_n [vO 11 1, vQ 6 a] 19 rfl (show sCode 35 18 = some (.astore_n 1, 1) by decide +kernel) ⟨Nat.le_of_ble_eq_true rfl, Or.inl (Nat.lt_of_lt_of_le (Nat.lt_succ_self _) (Nat.le_of_ble_eq_true rfl))⟩ (Nat.lt_succ_self _) rfl rfl ?_
    refine q_aload_n 20 rfl (show sCode 35 19 = some (.aload_n 0, 1) by decide +kernel) rfl (Nat.le_of_ble_eq_true rfl) ?_
    refine q_getR (vO 4 3) 23 rfl (show sCode 35 20 = some (.getfield 20, 3) by decide +kernel) (show sFR (sKo 35).1 20 = some (11, 0) by decide +kernel) (by decide +kernel) (Or.inl (Or.inl rfl)) rfl ?_
    refine q_iconst 24 rfl (show sCode 35 23 = some (.iconst 0, 1) by decide +kernel) ⟨by decide, by decide⟩ ?_
    refine q_putI 27 rfl (show sCode 35 24 = some (.putfield 96, 3) by decide +kernel) (show sFR (sKo 35).1 96 = some (4, 1) by decide +kernel) (by decide +kernel) (Or.inl ⟨Or.inl rfl, by decide +kernel⟩) ?_
    refine q_aload_n 28 rfl (show sCode 35 27 = some (.aload_n 1, 1) by decide +kernel) rfl (Nat.le_of_ble_eq_true rfl) ?_
    refine q_ifnonnull 42 31 rfl (by decide) (show sCode 35 28 = some (.ifnonnull 14, 3) by decide +kernel) (fun _ => ?_) (fun q => by omega)
    refine q_aload_n 43 rfl (show sCode 35 42 = some (.aload_n 0, 1) by decide +kernel) rfl (Nat.le_of_ble_eq_true rfl) ?_
    refine q_getR (vB 6 12 6) 46 rfl (show sCode 35 43 = some (.getfield 25, 3) by decide +kernel) (show sFR (sKo 35).1 25 = some (11, 2) by decide +kernel) (by decide +kernel) (Or.inl (Or.inl rfl)) rfl ?_
    refine q_aload_n 47 rfl (show sCode 35 46 = some (.aload_n 0, 1) by decide +kernel) rfl (Nat.le_of_ble_eq_true rfl) ?_
    refine q_getI 50 rfl (show sCode 35 47 = some (.getfield 82, 3) by decide +kernel) (show sFR (sKo 35).1 82 = some (11, 11) by decide +kernel) (by decide +kernel) (Or.inl (Or.inl rfl)) ?_
    have e11 : sUpd M' 3 1 0 1 11 = (r : Int) := by rw [sUpd_ne (by decide), f1 1 (by decide) (by decide) (by omega) (by omega)]; exact h11
    rw [e11]
    refine q_aload_n 51 rfl (show sCode 35 50 = some (.aload_n 1, 1) by decide +kernel) rfl (Nat.le_of_ble_eq_true rfl) ?_
    refine q_aast (b := a) 52 rfl (show sCode 35 51 = some (.aastore, 1) by decide +kernel) ⟨by omega, by omega⟩ (Or.inr rfl) (by omega) ?_
    rw [show ((r : Int)).toNat = r from rfl]
    refine q_aload_n 53 rfl (show sCode 35 52 = some (.aload_n 0, 1) by decide +kernel) rfl (Nat.le_of_ble_eq_true rfl) ?_
    refine q_dup 54 rfl (show sCode 35 53 = some (.dup, 1) by decide +kernel) rfl ?_
    refine q_getI 57 rfl (show sCode 35 54 = some (.getfield 82, 3) by decide +kernel) (show sFR (sKo 35).1 82 = some (11, 11) by decide +kernel) (by decide +kernel) (Or.inl (Or.inl rfl)) ?_
    rw [sUpd_ne (show (1 : Nat) ≠ 12 by decide), e11]
    refine q_iconst 58 rfl (show sCode 35 57 = some (.iconst 1, 1) by decide +kernel) ⟨by decide, by decide⟩ ?_
    refine q_iadd 59 rfl (show sCode 35 58 = some (.iadd, 1) by decide +kernel) ⟨by omega, by omega⟩ ?_
    refine q_putI 62 rfl (show sCode 35 59 = some (.putfield 82, 3) by decide +kernel) (show sFR (sKo 35).1 82 = some (11, 11) by decide +kernel) (by decide +kernel) (Or.inl ⟨Or.inl rfl, by decide +kernel⟩) ?_
    refine q_aload_n 63 rfl (show sCode 35 62 = some (.aload_n 0, 1) by decide +kernel) rfl (Nat.le_of_ble_eq_true rfl) ?_
    refine q_getI 66 rfl (show sCode 35 63 = some (.getfield 82, 3) by decide +kernel) (show sFR (sKo 35).1 82 = some (11, 11) by decide +kernel) (by decide +kernel) (Or.inl (Or.inl rfl)) ?_
    rw [sUpd_eq]
    refine q_iconst 67 rfl (show sCode 35 66 = some (.iconst 1, 1) by decide +kernel) ⟨by decide, by decide⟩ ?_
    refine q_isub 68 rfl (show sCode 35 67 = some (.isub, 1) by decide +kernel) ⟨by omega, by omega⟩ ?_
    have := kk cl M' G' ht f1 f2 f3 hr
    rw [show (r : Int) + 1 - 1 = (r : Int) by omega]
    exact q_iret (show sCode 35 68 = some (.ireturn, 1) by decide +kernel) (by decide +kernel) ⟨by decide +kernel, by decide +kernel⟩ this
end
