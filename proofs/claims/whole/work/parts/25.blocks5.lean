/-! BLOCKS, by program. -/
-- 169 AfterTheLastModel.feed (IIIII)I
theorem b169_0 {d : Nat} {Q : Option sV → sM → sG → Prop} {M : sM} {G : sG} {a0 : Nat} {x1 : Int} {x2 : Int} {x3 : Int} {x4 : Int} {x5 : Int} (h1 : sI ((M a0 1) + 20)) (k1 : (M a0 1) + 20 ≤ 400 → sW (sC d) 169 Q 15 [vO 12 a0, vI x1, vI x2, vI x3, vI x4, vI x5] [] M G 0 0) (k2 : 400 < (M a0 1) + 20 → sW (sC d) 169 Q 13 [vN, vN, vN, vN, vN, vN] [] M G 0 0) : sW (sC d) 169 Q 0 [vO 12 a0, vI x1, vI x2, vI x3, vI x4, vI x5] [] M G 0 0 := by
  refine q_aload_n 1 rfl (show sCode 169 0 = some (.aload_n 0, 1) by decide +kernel) rfl (Nat.le_of_ble_eq_true rfl) ?_
  refine q_getI 4 rfl (show sCode 169 1 = some (.getfield 88, 3) by decide +kernel) (show sFR (sKo 169).1 88 = some (12, 1) by decide +kernel) (by decide +kernel) (Or.inl (Or.inl rfl)) ?_
  refine q_bipush 6 rfl (show sCode 169 4 = some (.bipush 20, 2) by decide +kernel) ⟨by decide, by decide⟩ (by decide +kernel) ?_
  refine q_iadd 7 rfl (show sCode 169 6 = some (.iadd, 1) by decide +kernel) h1 ?_
  refine q_sipush 10 rfl (show sCode 169 7 = some (.sipush 400, 3) by decide +kernel) ⟨by decide, by decide⟩ (by decide +kernel) ?_
  refine q_icmple 15 13 rfl (by decide) (show sCode 169 10 = some (.if_icmp .le 5, 3) by decide +kernel) ?_ ?_
  · intro q; exact k1 q
  · intro q; refine q_forget (L' := [vN, vI x1, vI x2, vI x3, vI x4, vI x5]) 0 rfl ?_; refine q_forget (L' := [vN, vN, vI x2, vI x3, vI x4, vI x5]) 1 rfl ?_; refine q_forget (L' := [vN, vN, vN, vI x3, vI x4, vI x5]) 2 rfl ?_; refine q_forget (L' := [vN, vN, vN, vN, vI x4, vI x5]) 3 rfl ?_; refine q_forget (L' := [vN, vN, vN, vN, vN, vI x5]) 4 rfl ?_; refine q_forget (L' := [vN, vN, vN, vN, vN, vN]) 5 rfl ?_; exact k2 q
theorem b169_13 {d : Nat} {P : Int → sM → sG → Prop} {M : sM} {G : sG}   (kk : P (-1) M G) : sW (sC d) 169 (QI P) 13 [vN, vN, vN, vN, vN, vN] [] M G 0 0 := by
  refine q_iconst 14 rfl (show sCode 169 13 = some (.iconst (-1), 1) by decide +kernel) ⟨by decide, by decide⟩ ?_
  exact q_iret (show sCode 169 14 = some (.ireturn, 1) by decide +kernel) (by decide +kernel) (by decide +kernel) kk
theorem b169_15 {d : Nat} {Q : Option sV → sM → sG → Prop} {M : sM} {G : sG} {a0 : Nat} {x1 : Int} {x2 : Int} {x3 : Int} {x4 : Int} {x5 : Int}  (kk : sC d 170 [vO 12 a0, vI x1] M G (QV (fun M1 G1 => sW (sC d) 169 Q 20 [vO 12 a0, vN, vI x2, vI x3, vI x4, vI x5] [] M1 G1 0 0))) : sW (sC d) 169 Q 15 [vO 12 a0, vI x1, vI x2, vI x3, vI x4, vI x5] [] M G 0 0 := by
  refine q_aload_n 16 rfl (show sCode 169 15 = some (.aload_n 0, 1) by decide +kernel) rfl (Nat.le_of_ble_eq_true rfl) ?_
  refine q_iload_n 17 rfl (show sCode 169 16 = some (.iload_n 1, 1) by decide +kernel) rfl ?_
  refine q_forget (L' := [vO 12 a0, vN, vI x2, vI x3, vI x4, vI x5]) 1 rfl ?_
  exact q_virtV [vI x1] 20 rfl (show sCode 169 17 = some (.invokevirtual 92, 3) by decide +kernel) (show sMR (sKo 169).1 92 = some 170 by decide +kernel) (show 170 < 1000 ∧ sStat 170 = false ∧ sIni 170 = false ∧ sKo 170 = (12, 1, 0, 0, 0) by decide +kernel) rfl (Or.inl rfl) rfl (Nat.le_of_ble_eq_true rfl) rfl rfl rfl (by decide +kernel) kk
theorem b169_20 {d : Nat} {Q : Option sV → sM → sG → Prop} {M : sM} {G : sG} {a0 : Nat} {x2 : Int} {x3 : Int} {x4 : Int} {x5 : Int}  (kk : sC d 170 [vO 12 a0, vI x2] M G (QV (fun M1 G1 => sW (sC d) 169 Q 25 [vO 12 a0, vN, vN, vI x3, vI x4, vI x5] [] M1 G1 0 0))) : sW (sC d) 169 Q 20 [vO 12 a0, vN, vI x2, vI x3, vI x4, vI x5] [] M G 0 0 := by
  refine q_aload_n 21 rfl (show sCode 169 20 = some (.aload_n 0, 1) by decide +kernel) rfl (Nat.le_of_ble_eq_true rfl) ?_
  refine q_iload_n 22 rfl (show sCode 169 21 = some (.iload_n 2, 1) by decide +kernel) rfl ?_
  refine q_forget (L' := [vO 12 a0, vN, vN, vI x3, vI x4, vI x5]) 2 rfl ?_
  exact q_virtV [vI x2] 25 rfl (show sCode 169 22 = some (.invokevirtual 92, 3) by decide +kernel) (show sMR (sKo 169).1 92 = some 170 by decide +kernel) (show 170 < 1000 ∧ sStat 170 = false ∧ sIni 170 = false ∧ sKo 170 = (12, 1, 0, 0, 0) by decide +kernel) rfl (Or.inl rfl) rfl (Nat.le_of_ble_eq_true rfl) rfl rfl rfl (by decide +kernel) kk
theorem b169_25 {d : Nat} {Q : Option sV → sM → sG → Prop} {M : sM} {G : sG} {a0 : Nat} {x3 : Int} {x4 : Int} {x5 : Int}  (kk : sC d 170 [vO 12 a0, vI x3] M G (QV (fun M1 G1 => sW (sC d) 169 Q 30 [vO 12 a0, vN, vN, vN, vI x4, vI x5] [] M1 G1 0 0))) : sW (sC d) 169 Q 25 [vO 12 a0, vN, vN, vI x3, vI x4, vI x5] [] M G 0 0 := by
  refine q_aload_n 26 rfl (show sCode 169 25 = some (.aload_n 0, 1) by decide +kernel) rfl (Nat.le_of_ble_eq_true rfl) ?_
  refine q_iload_n 27 rfl (show sCode 169 26 = some (.iload_n 3, 1) by decide +kernel) rfl ?_
  refine q_forget (L' := [vO 12 a0, vN, vN, vN, vI x4, vI x5]) 3 rfl ?_
  exact q_virtV [vI x3] 30 rfl (show sCode 169 27 = some (.invokevirtual 92, 3) by decide +kernel) (show sMR (sKo 169).1 92 = some 170 by decide +kernel) (show 170 < 1000 ∧ sStat 170 = false ∧ sIni 170 = false ∧ sKo 170 = (12, 1, 0, 0, 0) by decide +kernel) rfl (Or.inl rfl) rfl (Nat.le_of_ble_eq_true rfl) rfl rfl rfl (by decide +kernel) kk
theorem b169_30 {d : Nat} {Q : Option sV → sM → sG → Prop} {M : sM} {G : sG} {a0 : Nat} {x4 : Int} {x5 : Int}  (kk : sC d 170 [vO 12 a0, vI x4] M G (QV (fun M1 G1 => sW (sC d) 169 Q 36 [vO 12 a0, vN, vN, vN, vN, vI x5] [] M1 G1 0 0))) : sW (sC d) 169 Q 30 [vO 12 a0, vN, vN, vN, vI x4, vI x5] [] M G 0 0 := by
  refine q_aload_n 31 rfl (show sCode 169 30 = some (.aload_n 0, 1) by decide +kernel) rfl (Nat.le_of_ble_eq_true rfl) ?_
  refine q_iload 33 rfl (show sCode 169 31 = some (.iload 4, 2) by decide +kernel) rfl ?_
  refine q_forget (L' := [vO 12 a0, vN, vN, vN, vN, vI x5]) 4 rfl ?_
  exact q_virtV [vI x4] 36 rfl (show sCode 169 33 = some (.invokevirtual 92, 3) by decide +kernel) (show sMR (sKo 169).1 92 = some 170 by decide +kernel) (show 170 < 1000 ∧ sStat 170 = false ∧ sIni 170 = false ∧ sKo 170 = (12, 1, 0, 0, 0) by decide +kernel) rfl (Or.inl rfl) rfl (Nat.le_of_ble_eq_true rfl) rfl rfl rfl (by decide +kernel) kk
theorem b169_36 {d : Nat} {Q : Option sV → sM → sG → Prop} {M : sM} {G : sG} {a0 : Nat} {x5 : Int}  (kk : sC d 170 [vO 12 a0, vI x5] M G (QV (fun M1 G1 => sW (sC d) 169 Q 42 [vO 12 a0, vN, vN, vN, vN, vN] [] M1 G1 0 0))) : sW (sC d) 169 Q 36 [vO 12 a0, vN, vN, vN, vN, vI x5] [] M G 0 0 := by
  refine q_aload_n 37 rfl (show sCode 169 36 = some (.aload_n 0, 1) by decide +kernel) rfl (Nat.le_of_ble_eq_true rfl) ?_
  refine q_iload 39 rfl (show sCode 169 37 = some (.iload 5, 2) by decide +kernel) rfl ?_
  refine q_forget (L' := [vO 12 a0, vN, vN, vN, vN, vN]) 5 rfl ?_
  exact q_virtV [vI x5] 42 rfl (show sCode 169 39 = some (.invokevirtual 92, 3) by decide +kernel) (show sMR (sKo 169).1 92 = some 170 by decide +kernel) (show 170 < 1000 ∧ sStat 170 = false ∧ sIni 170 = false ∧ sKo 170 = (12, 1, 0, 0, 0) by decide +kernel) rfl (Or.inl rfl) rfl (Nat.le_of_ble_eq_true rfl) rfl rfl rfl (by decide +kernel) kk
theorem b169_42 {d : Nat} {P : Int → sM → sG → Prop} {M : sM} {G : sG} {a0 : Nat}  (kk : P (M a0 1) M G) : sW (sC d) 169 (QI P) 42 [vO 12 a0, vN, vN, vN, vN, vN] [] M G 0 0 := by
  refine q_aload_n 43 rfl (show sCode 169 42 = some (.aload_n 0, 1) by decide +kernel) rfl (Nat.le_of_ble_eq_true rfl) ?_
  refine q_getI 46 rfl (show sCode 169 43 = some (.getfield 88, 3) by decide +kernel) (show sFR (sKo 169).1 88 = some (12, 1) by decide +kernel) (by decide +kernel) (Or.inl (Or.inl rfl)) ?_
  exact q_iret (show sCode 169 46 = some (.ireturn, 1) by decide +kernel) (by decide +kernel) (by decide +kernel) kk
-- 170 AfterTheLastModel.four (I)V
theorem b170_0 {d : Nat} {Q : Option sV → sM → sG → Prop} {M : sM} {G : sG} {a0 : Nat} {x1 : Int}  (kk : sW (sC d) 170 Q 3 [vO 12 a0, vI x1, vI 24] [] M G 0 0) : sW (sC d) 170 Q 0 [vO 12 a0, vI x1, vN] [] M G 0 0 := by
  refine q_bipush 2 rfl (show sCode 170 0 = some (.bipush 24, 2) by decide +kernel) ⟨by decide, by decide⟩ (by decide +kernel) ?_
  refine q_istore_n [vO 12 a0, vI x1, vI 24] 3 rfl (show sCode 170 2 = some (.istore_n 2, 1) by decide +kernel) (Nat.lt_of_lt_of_le (Nat.lt_succ_self _) (Nat.le_of_ble_eq_true rfl)) rfl rfl ?_
  exact kk
theorem b170_3 {d : Nat} {Q : Option sV → sM → sG → Prop} {M : sM} {G : sG} {a0 : Nat} {x1 : Int} {x2 : Int}  (k1 : x2 < 0 → sW (sC d) 170 Q 36 [vN, vN, vN] [] M G 0 0) (k2 : 0 ≤ x2 → sW (sC d) 170 Q 7 [vO 12 a0, vI x1, vI x2] [] M G 0 0) : sW (sC d) 170 Q 3 [vO 12 a0, vI x1, vI x2] [] M G 0 0 := by
  refine q_iload_n 4 rfl (show sCode 170 3 = some (.iload_n 2, 1) by decide +kernel) rfl ?_
  refine q_iflt 36 7 rfl (by decide) (show sCode 170 4 = some (.ifCond .lt 32, 3) by decide +kernel) ?_ ?_
  · intro q; refine q_forget (L' := [vN, vI x1, vI x2]) 0 rfl ?_; refine q_forget (L' := [vN, vN, vI x2]) 1 rfl ?_; refine q_forget (L' := [vN, vN, vN]) 2 rfl ?_; exact k1 q
  · intro q; exact k2 q
theorem b170_7 {d : Nat} {Q : Option sV → sM → sG → Prop} {M : sM} {G : sG} {a0 : Nat} {x1 : Int} {x2 : Int} (h1 : 0 ≤ M a0 1 ∧ M a0 1 < 400) (h2 : sI (((sUpd M (a0 + 1) (M a0 1).toNat (iByte (iByte (iShr x1 x2)))) a0 1) + 1)) (h3 : sI (x2 + (-8))) (kk : sW (sC d) 170 Q 3 [vO 12 a0, vI x1, vI (x2 + (-8))] [] (sUpd (sUpd M (a0 + 1) (M a0 1).toNat (iByte (iByte (iShr x1 x2)))) a0 1 (((sUpd M (a0 + 1) (M a0 1).toNat (iByte (iByte (iShr x1 x2)))) a0 1) + 1)) G 0 0) : sW (sC d) 170 Q 7 [vO 12 a0, vI x1, vI x2] [] M G 0 0 := by
  refine q_aload_n 8 rfl (show sCode 170 7 = some (.aload_n 0, 1) by decide +kernel) rfl (Nat.le_of_ble_eq_true rfl) ?_
  refine q_getR (vA 2 (a0 + 1) 400) 11 rfl (show sCode 170 8 = some (.getfield 7, 3) by decide +kernel) (show sFR (sKo 170).1 7 = some (12, 0) by decide +kernel) (by decide +kernel) (Or.inl (Or.inl rfl)) rfl ?_
  refine q_aload_n 12 rfl (show sCode 170 11 = some (.aload_n 0, 1) by decide +kernel) rfl (Nat.le_of_ble_eq_true rfl) ?_
  refine q_getI 15 rfl (show sCode 170 12 = some (.getfield 88, 3) by decide +kernel) (show sFR (sKo 170).1 88 = some (12, 1) by decide +kernel) (by decide +kernel) (Or.inl (Or.inl rfl)) ?_
  refine q_iload_n 16 rfl (show sCode 170 15 = some (.iload_n 1, 1) by decide +kernel) rfl ?_
  refine q_iload_n 17 rfl (show sCode 170 16 = some (.iload_n 2, 1) by decide +kernel) rfl ?_
  refine q_ishr 18 rfl (show sCode 170 17 = some (.ishr, 1) by decide +kernel) ?_
  refine q_i2b 19 rfl (show sCode 170 18 = some (.i2b, 1) by decide +kernel) ?_
  refine q_bast 20 rfl (show sCode 170 19 = some (.bastore, 1) by decide +kernel) h1 ?_
  refine q_aload_n 21 rfl (show sCode 170 20 = some (.aload_n 0, 1) by decide +kernel) rfl (Nat.le_of_ble_eq_true rfl) ?_
  refine q_dup 22 rfl (show sCode 170 21 = some (.dup, 1) by decide +kernel) rfl ?_
  refine q_getI 25 rfl (show sCode 170 22 = some (.getfield 88, 3) by decide +kernel) (show sFR (sKo 170).1 88 = some (12, 1) by decide +kernel) (by decide +kernel) (Or.inl (Or.inl rfl)) ?_
  refine q_iconst 26 rfl (show sCode 170 25 = some (.iconst 1, 1) by decide +kernel) ⟨by decide, by decide⟩ ?_
  refine q_iadd 27 rfl (show sCode 170 26 = some (.iadd, 1) by decide +kernel) h2 ?_
  refine q_putI 30 rfl (show sCode 170 27 = some (.putfield 88, 3) by decide +kernel) (show sFR (sKo 170).1 88 = some (12, 1) by decide +kernel) (by decide +kernel) (Or.inl ⟨Or.inl rfl, by decide +kernel⟩) ?_
  refine q_iinc [vO 12 a0, vI x1, vI (x2 + (-8))] 33 rfl (show sCode 170 30 = some (.iinc 2 (-8), 3) by decide +kernel) rfl rfl h3 rfl ?_
  refine q_goto 3 (by decide) (show sCode 170 33 = some (.goto (-30), 3) by decide +kernel) ?_
  exact kk
theorem b170_36 {d : Nat} {P : sM → sG → Prop} {M : sM} {G : sG}   (kk : P M G) : sW (sC d) 170 (QV P) 36 [vN, vN, vN] [] M G 0 0 := by
  exact q_vret (show sCode 170 36 = some (.return_, 1) by decide +kernel) (by decide +kernel) (by decide +kernel) kk
-- 171 AfterTheLastModel.end (I)I
theorem b171_0 {d : Nat} {Q : Option sV → sM → sG → Prop} {M : sM} {G : sG} {a0 : Nat} {x1 : Int}  (k1 : x1 < 0 → sW (sC d) 171 Q 12 [vN, vN] [] M G 0 0) (k2 : 0 ≤ x1 → sW (sC d) 171 Q 4 [vO 12 a0, vI x1] [] M G 0 0) : sW (sC d) 171 Q 0 [vO 12 a0, vI x1] [] M G 0 0 := by
  refine q_iload_n 1 rfl (show sCode 171 0 = some (.iload_n 1, 1) by decide +kernel) rfl ?_
  refine q_iflt 12 4 rfl (by decide) (show sCode 171 1 = some (.ifCond .lt 11, 3) by decide +kernel) ?_ ?_
  · intro q; refine q_forget (L' := [vN, vI x1]) 0 rfl ?_; refine q_forget (L' := [vN, vN]) 1 rfl ?_; exact k1 q
  · intro q; exact k2 q
theorem b171_4 {d : Nat} {Q : Option sV → sM → sG → Prop} {M : sM} {G : sG} {a0 : Nat} {x1 : Int}  (k1 : x1 ≤ M a0 1 → sW (sC d) 171 Q 14 [vO 12 a0, vI x1] [] M G 0 0) (k2 : M a0 1 < x1 → sW (sC d) 171 Q 12 [vN, vN] [] M G 0 0) : sW (sC d) 171 Q 4 [vO 12 a0, vI x1] [] M G 0 0 := by
  refine q_iload_n 5 rfl (show sCode 171 4 = some (.iload_n 1, 1) by decide +kernel) rfl ?_
  refine q_aload_n 6 rfl (show sCode 171 5 = some (.aload_n 0, 1) by decide +kernel) rfl (Nat.le_of_ble_eq_true rfl) ?_
  refine q_getI 9 rfl (show sCode 171 6 = some (.getfield 88, 3) by decide +kernel) (show sFR (sKo 171).1 88 = some (12, 1) by decide +kernel) (by decide +kernel) (Or.inl (Or.inl rfl)) ?_
  refine q_icmple 14 12 rfl (by decide) (show sCode 171 9 = some (.if_icmp .le 5, 3) by decide +kernel) ?_ ?_
  · intro q; exact k1 q
  · intro q; refine q_forget (L' := [vN, vI x1]) 0 rfl ?_; refine q_forget (L' := [vN, vN]) 1 rfl ?_; exact k2 q
theorem b171_12 {d : Nat} {P : Int → sM → sG → Prop} {M : sM} {G : sG}   (kk : P (-1) M G) : sW (sC d) 171 (QI P) 12 [vN, vN] [] M G 0 0 := by
  refine q_iconst 13 rfl (show sCode 171 12 = some (.iconst (-1), 1) by decide +kernel) ⟨by decide, by decide⟩ ?_
  exact q_iret (show sCode 171 13 = some (.ireturn, 1) by decide +kernel) (by decide +kernel) (by decide +kernel) kk
theorem b171_14 {d : Nat} {P : Int → sM → sG → Prop} {M : sM} {G : sG} {a0 : Nat} {x1 : Int}  (kk : P x1 (sUpd M a0 1 x1) G) : sW (sC d) 171 (QI P) 14 [vO 12 a0, vI x1] [] M G 0 0 := by
  refine q_aload_n 15 rfl (show sCode 171 14 = some (.aload_n 0, 1) by decide +kernel) rfl (Nat.le_of_ble_eq_true rfl) ?_
  refine q_iload_n 16 rfl (show sCode 171 15 = some (.iload_n 1, 1) by decide +kernel) rfl ?_
  refine q_putI 19 rfl (show sCode 171 16 = some (.putfield 88, 3) by decide +kernel) (show sFR (sKo 171).1 88 = some (12, 1) by decide +kernel) (by decide +kernel) (Or.inl ⟨Or.inl rfl, by decide +kernel⟩) ?_
  refine q_iload_n 20 rfl (show sCode 171 19 = some (.iload_n 1, 1) by decide +kernel) rfl ?_
  exact q_iret (show sCode 171 20 = some (.ireturn, 1) by decide +kernel) (by decide +kernel) (by decide +kernel) kk
-- 172 AfterTheLastModel.rule ()I
theorem b172_0 {d : Nat} {Q : Option sV → sM → sG → Prop} {M : sM} {G : sG} {a0 : Nat}  (k1 : M a0 2 ≠ 6 → sW (sC d) 172 Q 11 [vO 12 a0] [] M G 0 0) (k2 : M a0 2 = 6 → sW (sC d) 172 Q 9 [vN] [] M G 0 0) : sW (sC d) 172 Q 0 [vO 12 a0] [] M G 0 0 := by
  refine q_aload_n 1 rfl (show sCode 172 0 = some (.aload_n 0, 1) by decide +kernel) rfl (Nat.le_of_ble_eq_true rfl) ?_
  refine q_getI 4 rfl (show sCode 172 1 = some (.getfield 252, 3) by decide +kernel) (show sFR (sKo 172).1 252 = some (12, 2) by decide +kernel) (by decide +kernel) (Or.inl (Or.inl rfl)) ?_
  refine q_bipush 6 rfl (show sCode 172 4 = some (.bipush 6, 2) by decide +kernel) ⟨by decide, by decide⟩ (by decide +kernel) ?_
  refine q_icmpne 11 9 rfl (by decide) (show sCode 172 6 = some (.if_icmp .ne 5, 3) by decide +kernel) ?_ ?_
  · intro q; exact k1 q
  · intro q; refine q_forget (L' := [vN]) 0 rfl ?_; exact k2 q
theorem b172_9 {d : Nat} {P : Int → sM → sG → Prop} {M : sM} {G : sG}   (kk : P (-1) M G) : sW (sC d) 172 (QI P) 9 [vN] [] M G 0 0 := by
  refine q_iconst 10 rfl (show sCode 172 9 = some (.iconst (-1), 1) by decide +kernel) ⟨by decide, by decide⟩ ?_
  exact q_iret (show sCode 172 10 = some (.ireturn, 1) by decide +kernel) (by decide +kernel) (by decide +kernel) kk
theorem b172_11 {d : Nat} {Q : Option sV → sM → sG → Prop} {M : sM} {G : sG} {a0 : Nat} (h1 : 0 ≤ (sUpd M a0 14 (M a0 2)) a0 14 ∧ (sUpd M a0 14 (M a0 2)) a0 14 < 6) (kk : sC d 173 [vO 12 a0] (sUpd (sUpd M a0 14 (M a0 2)) (a0 + 5) ((sUpd M a0 14 (M a0 2)) a0 14).toNat 0) G (QI (fun r M1 G1 => sW (sC d) 172 Q 33 [vO 12 a0] (vI r :: []) M1 G1 0 0))) : sW (sC d) 172 Q 11 [vO 12 a0] [] M G 0 0 := by
  refine q_aload_n 12 rfl (show sCode 172 11 = some (.aload_n 0, 1) by decide +kernel) rfl (Nat.le_of_ble_eq_true rfl) ?_
  refine q_aload_n 13 rfl (show sCode 172 12 = some (.aload_n 0, 1) by decide +kernel) rfl (Nat.le_of_ble_eq_true rfl) ?_
  refine q_getI 16 rfl (show sCode 172 13 = some (.getfield 252, 3) by decide +kernel) (show sFR (sKo 172).1 252 = some (12, 2) by decide +kernel) (by decide +kernel) (Or.inl (Or.inl rfl)) ?_
  refine q_putI 19 rfl (show sCode 172 16 = some (.putfield 151, 3) by decide +kernel) (show sFR (sKo 172).1 151 = some (12, 14) by decide +kernel) (by decide +kernel) (Or.inl ⟨Or.inl rfl, by decide +kernel⟩) ?_
  refine q_aload_n 20 rfl (show sCode 172 19 = some (.aload_n 0, 1) by decide +kernel) rfl (Nat.le_of_ble_eq_true rfl) ?_
  refine q_getR (vA 0 (a0 + 5) 6) 23 rfl (show sCode 172 20 = some (.getfield 23, 3) by decide +kernel) (show sFR (sKo 172).1 23 = some (12, 6) by decide +kernel) (by decide +kernel) (Or.inl (Or.inl rfl)) rfl ?_
  refine q_aload_n 24 rfl (show sCode 172 23 = some (.aload_n 0, 1) by decide +kernel) rfl (Nat.le_of_ble_eq_true rfl) ?_
  refine q_getI 27 rfl (show sCode 172 24 = some (.getfield 151, 3) by decide +kernel) (show sFR (sKo 172).1 151 = some (12, 14) by decide +kernel) (by decide +kernel) (Or.inl (Or.inl rfl)) ?_
  refine q_iconst 28 rfl (show sCode 172 27 = some (.iconst 0, 1) by decide +kernel) ⟨by decide, by decide⟩ ?_
  refine q_iast 29 rfl (show sCode 172 28 = some (.iastore, 1) by decide +kernel) h1 ?_
  refine q_aload_n 30 rfl (show sCode 172 29 = some (.aload_n 0, 1) by decide +kernel) rfl (Nat.le_of_ble_eq_true rfl) ?_
  exact q_virtI [] 33 rfl (show sCode 172 30 = some (.invokevirtual 255, 3) by decide +kernel) (show sMR (sKo 172).1 255 = some 173 by decide +kernel) (show 173 < 1000 ∧ sStat 173 = false ∧ sIni 173 = false ∧ sKo 173 = (12, 0, 2, 0, 0) by decide +kernel) rfl (Or.inl rfl) rfl (Nat.le_of_ble_eq_true rfl) rfl rfl rfl (by decide +kernel) kk
theorem b172_33 {d : Nat} {Q : Option sV → sM → sG → Prop} {M : sM} {G : sG} {a0 : Nat} {s0 : Int}  (k1 : s0 ≠ 0 → sW (sC d) 172 Q 44 [vO 12 a0] [] M G 0 0) (k2 : s0 = 0 → sW (sC d) 172 Q 36 [vO 12 a0] [] M G 0 0) : sW (sC d) 172 Q 33 [vO 12 a0] [vI s0] M G 0 0 := by
  refine q_ifne 44 36 rfl (by decide) (show sCode 172 33 = some (.ifCond .ne 11, 3) by decide +kernel) ?_ ?_
  · intro q; exact k1 q
  · intro q; exact k2 q
theorem b172_36 {d : Nat} {P : Int → sM → sG → Prop} {M : sM} {G : sG} {a0 : Nat} (h1 : sI ((-2) - (M a0 12))) (kk : P ((-2) - (M a0 12)) M G) : sW (sC d) 172 (QI P) 36 [vO 12 a0] [] M G 0 0 := by
  refine q_bipush 38 rfl (show sCode 172 36 = some (.bipush (-2), 2) by decide +kernel) ⟨by decide, by decide⟩ (by decide +kernel) ?_
  refine q_aload_n 39 rfl (show sCode 172 38 = some (.aload_n 0, 1) by decide +kernel) rfl (Nat.le_of_ble_eq_true rfl) ?_
  refine q_getI 42 rfl (show sCode 172 39 = some (.getfield 96, 3) by decide +kernel) (show sFR (sKo 172).1 96 = some (12, 12) by decide +kernel) (by decide +kernel) (Or.inl (Or.inl rfl)) ?_
  refine q_isub 43 rfl (show sCode 172 42 = some (.isub, 1) by decide +kernel) h1 ?_
  exact q_iret (show sCode 172 43 = some (.ireturn, 1) by decide +kernel) (by decide +kernel) (by decide +kernel) kk
theorem b172_44 {d : Nat} {P : Int → sM → sG → Prop} {M : sM} {G : sG} {a0 : Nat} (h1 : sI ((M a0 2) + 1)) (h2 : sI (((sUpd M a0 2 ((M a0 2) + 1)) a0 2) - 1)) (kk : P (((sUpd M a0 2 ((M a0 2) + 1)) a0 2) - 1) (sUpd M a0 2 ((M a0 2) + 1)) G) : sW (sC d) 172 (QI P) 44 [vO 12 a0] [] M G 0 0 := by
  refine q_aload_n 45 rfl (show sCode 172 44 = some (.aload_n 0, 1) by decide +kernel) rfl (Nat.le_of_ble_eq_true rfl) ?_
  refine q_dup 46 rfl (show sCode 172 45 = some (.dup, 1) by decide +kernel) rfl ?_
  refine q_getI 49 rfl (show sCode 172 46 = some (.getfield 252, 3) by decide +kernel) (show sFR (sKo 172).1 252 = some (12, 2) by decide +kernel) (by decide +kernel) (Or.inl (Or.inl rfl)) ?_
  refine q_iconst 50 rfl (show sCode 172 49 = some (.iconst 1, 1) by decide +kernel) ⟨by decide, by decide⟩ ?_
  refine q_iadd 51 rfl (show sCode 172 50 = some (.iadd, 1) by decide +kernel) h1 ?_
  refine q_putI 54 rfl (show sCode 172 51 = some (.putfield 252, 3) by decide +kernel) (show sFR (sKo 172).1 252 = some (12, 2) by decide +kernel) (by decide +kernel) (Or.inl ⟨Or.inl rfl, by decide +kernel⟩) ?_
  refine q_aload_n 55 rfl (show sCode 172 54 = some (.aload_n 0, 1) by decide +kernel) rfl (Nat.le_of_ble_eq_true rfl) ?_
  refine q_getI 58 rfl (show sCode 172 55 = some (.getfield 252, 3) by decide +kernel) (show sFR (sKo 172).1 252 = some (12, 2) by decide +kernel) (by decide +kernel) (Or.inl (Or.inl rfl)) ?_
  refine q_iconst 59 rfl (show sCode 172 58 = some (.iconst 1, 1) by decide +kernel) ⟨by decide, by decide⟩ ?_
  refine q_isub 60 rfl (show sCode 172 59 = some (.isub, 1) by decide +kernel) h2 ?_
  exact q_iret (show sCode 172 60 = some (.ireturn, 1) by decide +kernel) (by decide +kernel) (by decide +kernel) kk
-- 173 AfterTheLastModel.readsAll ()Z
theorem b173_0 {d : Nat} {Q : Option sV → sM → sG → Prop} {M : sM} {G : sG} {a0 : Nat} (h1 : 0 ≤ M a0 14 ∧ M a0 14 < 7) (kk : sC d 174 [vO 12 a0] (sUpd (sUpd (sUpd (sUpd (sUpd M (a0 + 3) (M a0 14).toNat 0) a0 17 0) a0 11 0) a0 12 0) a0 15 0) G (QI (fun r M1 G1 => sW (sC d) 173 Q 34 [vO 12 a0, vN] (vI r :: []) M1 G1 0 0))) : sW (sC d) 173 Q 0 [vO 12 a0, vN] [] M G 0 0 := by
  refine q_aload_n 1 rfl (show sCode 173 0 = some (.aload_n 0, 1) by decide +kernel) rfl (Nat.le_of_ble_eq_true rfl) ?_
  refine q_getR (vA 0 (a0 + 3) 7) 4 rfl (show sCode 173 1 = some (.getfield 17, 3) by decide +kernel) (show sFR (sKo 173).1 17 = some (12, 4) by decide +kernel) (by decide +kernel) (Or.inl (Or.inl rfl)) rfl ?_
  refine q_aload_n 5 rfl (show sCode 173 4 = some (.aload_n 0, 1) by decide +kernel) rfl (Nat.le_of_ble_eq_true rfl) ?_
  refine q_getI 8 rfl (show sCode 173 5 = some (.getfield 151, 3) by decide +kernel) (show sFR (sKo 173).1 151 = some (12, 14) by decide +kernel) (by decide +kernel) (Or.inl (Or.inl rfl)) ?_
  refine q_iconst 9 rfl (show sCode 173 8 = some (.iconst 0, 1) by decide +kernel) ⟨by decide, by decide⟩ ?_
  refine q_iast 10 rfl (show sCode 173 9 = some (.iastore, 1) by decide +kernel) h1 ?_
  refine q_aload_n 11 rfl (show sCode 173 10 = some (.aload_n 0, 1) by decide +kernel) rfl (Nat.le_of_ble_eq_true rfl) ?_
  refine q_iconst 12 rfl (show sCode 173 11 = some (.iconst 0, 1) by decide +kernel) ⟨by decide, by decide⟩ ?_
  refine q_putI 15 rfl (show sCode 173 12 = some (.putfield 237, 3) by decide +kernel) (show sFR (sKo 173).1 237 = some (12, 17) by decide +kernel) (by decide +kernel) (Or.inl ⟨Or.inl rfl, by decide +kernel⟩) ?_
  refine q_aload_n 16 rfl (show sCode 173 15 = some (.aload_n 0, 1) by decide +kernel) rfl (Nat.le_of_ble_eq_true rfl) ?_
  refine q_iconst 17 rfl (show sCode 173 16 = some (.iconst 0, 1) by decide +kernel) ⟨by decide, by decide⟩ ?_
  refine q_putI 20 rfl (show sCode 173 17 = some (.putfield 99, 3) by decide +kernel) (show sFR (sKo 173).1 99 = some (12, 11) by decide +kernel) (by decide +kernel) (Or.inl ⟨Or.inl rfl, by decide +kernel⟩) ?_
  refine q_aload_n 21 rfl (show sCode 173 20 = some (.aload_n 0, 1) by decide +kernel) rfl (Nat.le_of_ble_eq_true rfl) ?_
  refine q_iconst 22 rfl (show sCode 173 21 = some (.iconst 0, 1) by decide +kernel) ⟨by decide, by decide⟩ ?_
  refine q_putI 25 rfl (show sCode 173 22 = some (.putfield 96, 3) by decide +kernel) (show sFR (sKo 173).1 96 = some (12, 12) by decide +kernel) (by decide +kernel) (Or.inl ⟨Or.inl rfl, by decide +kernel⟩) ?_
  refine q_aload_n 26 rfl (show sCode 173 25 = some (.aload_n 0, 1) by decide +kernel) rfl (Nat.le_of_ble_eq_true rfl) ?_
  refine q_iconst 27 rfl (show sCode 173 26 = some (.iconst 0, 1) by decide +kernel) ⟨by decide, by decide⟩ ?_
  refine q_putI 30 rfl (show sCode 173 27 = some (.putfield 154, 3) by decide +kernel) (show sFR (sKo 173).1 154 = some (12, 15) by decide +kernel) (by decide +kernel) (Or.inl ⟨Or.inl rfl, by decide +kernel⟩) ?_
  refine q_aload_n 31 rfl (show sCode 173 30 = some (.aload_n 0, 1) by decide +kernel) rfl (Nat.le_of_ble_eq_true rfl) ?_
  exact q_virtI [] 34 rfl (show sCode 173 31 = some (.invokevirtual 249, 3) by decide +kernel) (show sMR (sKo 173).1 249 = some 174 by decide +kernel) (show 174 < 1000 ∧ sStat 174 = false ∧ sIni 174 = false ∧ sKo 174 = (12, 0, 2, 0, 0) by decide +kernel) rfl (Or.inl rfl) rfl (Nat.le_of_ble_eq_true rfl) rfl rfl rfl (by decide +kernel) kk
theorem b173_34 {d : Nat} {Q : Option sV → sM → sG → Prop} {M : sM} {G : sG} {a0 : Nat} {s0 : Int}  (kk : sW (sC d) 173 Q 35 [vO 12 a0, vI s0] [] M G 0 0) : sW (sC d) 173 Q 34 [vO 12 a0, vN] [vI s0] M G 0 0 := by
  refine q_istore_n [vO 12 a0, vI s0] 35 rfl (show sCode 173 34 = some (.istore_n 1, 1) by decide +kernel) (Nat.lt_of_lt_of_le (Nat.lt_succ_self _) (Nat.le_of_ble_eq_true rfl)) rfl rfl ?_
  exact kk
theorem b173_35 {d : Nat} {Q : Option sV → sM → sG → Prop} {M : sM} {G : sG} {a0 : Nat} {x1 : Int}  (k1 : x1 = 0 → sW (sC d) 173 Q 66 [vO 12 a0, vI x1] [] M G 0 0) (k2 : x1 ≠ 0 → sW (sC d) 173 Q 39 [vO 12 a0, vI x1] [] M G 0 0) : sW (sC d) 173 Q 35 [vO 12 a0, vI x1] [] M G 0 0 := by
  refine q_iload_n 36 rfl (show sCode 173 35 = some (.iload_n 1, 1) by decide +kernel) rfl ?_
  refine q_ifeq 66 39 rfl (by decide) (show sCode 173 36 = some (.ifCond .eq 30, 3) by decide +kernel) ?_ ?_
  · intro q; exact k1 q
  · intro q; exact k2 q
theorem b173_39 {d : Nat} {Q : Option sV → sM → sG → Prop} {M : sM} {G : sG} {a0 : Nat} {x1 : Int}  (kk : sC d 175 [vO 12 a0] M G (QI (fun r M1 G1 => sW (sC d) 173 Q 43 [vO 12 a0, vI x1] (vI r :: []) M1 G1 0 0))) : sW (sC d) 173 Q 39 [vO 12 a0, vI x1] [] M G 0 0 := by
  refine q_aload_n 40 rfl (show sCode 173 39 = some (.aload_n 0, 1) by decide +kernel) rfl (Nat.le_of_ble_eq_true rfl) ?_
  exact q_virtI [] 43 rfl (show sCode 173 40 = some (.invokevirtual 102, 3) by decide +kernel) (show sMR (sKo 173).1 102 = some 175 by decide +kernel) (show 175 < 1000 ∧ sStat 175 = false ∧ sIni 175 = false ∧ sKo 175 = (12, 0, 1, 0, 0) by decide +kernel) rfl (Or.inl rfl) rfl (Nat.le_of_ble_eq_true rfl) rfl rfl rfl (by decide +kernel) kk
theorem b173_43 {d : Nat} {Q : Option sV → sM → sG → Prop} {M : sM} {G : sG} {a0 : Nat} {x1 : Int} {s0 : Int}  (k1 : s0 ≠ 59 → sW (sC d) 173 Q 66 [vO 12 a0, vI x1] [] M G 0 0) (k2 : s0 = 59 → sW (sC d) 173 Q 48 [vO 12 a0, vN] [] M G 0 0) : sW (sC d) 173 Q 43 [vO 12 a0, vI x1] [vI s0] M G 0 0 := by
  refine q_bipush 45 rfl (show sCode 173 43 = some (.bipush 59, 2) by decide +kernel) ⟨by decide, by decide⟩ (by decide +kernel) ?_
  refine q_icmpne 66 48 rfl (by decide) (show sCode 173 45 = some (.if_icmp .ne 21, 3) by decide +kernel) ?_ ?_
  · intro q; exact k1 q
  · intro q; refine q_forget (L' := [vO 12 a0, vN]) 1 rfl ?_; exact k2 q
theorem b173_48 {d : Nat} {Q : Option sV → sM → sG → Prop} {M : sM} {G : sG} {a0 : Nat} (h1 : sI ((M a0 11) + 1)) (kk : sC d 174 [vO 12 a0] (sUpd M a0 11 ((M a0 11) + 1)) G (QI (fun r M1 G1 => sW (sC d) 173 Q 62 [vO 12 a0, vN] (vI r :: []) M1 G1 0 0))) : sW (sC d) 173 Q 48 [vO 12 a0, vN] [] M G 0 0 := by
  refine q_aload_n 49 rfl (show sCode 173 48 = some (.aload_n 0, 1) by decide +kernel) rfl (Nat.le_of_ble_eq_true rfl) ?_
  refine q_dup 50 rfl (show sCode 173 49 = some (.dup, 1) by decide +kernel) rfl ?_
  refine q_getI 53 rfl (show sCode 173 50 = some (.getfield 99, 3) by decide +kernel) (show sFR (sKo 173).1 99 = some (12, 11) by decide +kernel) (by decide +kernel) (Or.inl (Or.inl rfl)) ?_
  refine q_iconst 54 rfl (show sCode 173 53 = some (.iconst 1, 1) by decide +kernel) ⟨by decide, by decide⟩ ?_
  refine q_iadd 55 rfl (show sCode 173 54 = some (.iadd, 1) by decide +kernel) h1 ?_
  refine q_putI 58 rfl (show sCode 173 55 = some (.putfield 99, 3) by decide +kernel) (show sFR (sKo 173).1 99 = some (12, 11) by decide +kernel) (by decide +kernel) (Or.inl ⟨Or.inl rfl, by decide +kernel⟩) ?_
  refine q_aload_n 59 rfl (show sCode 173 58 = some (.aload_n 0, 1) by decide +kernel) rfl (Nat.le_of_ble_eq_true rfl) ?_
  exact q_virtI [] 62 rfl (show sCode 173 59 = some (.invokevirtual 249, 3) by decide +kernel) (show sMR (sKo 173).1 249 = some 174 by decide +kernel) (show 174 < 1000 ∧ sStat 174 = false ∧ sIni 174 = false ∧ sKo 174 = (12, 0, 2, 0, 0) by decide +kernel) rfl (Or.inl rfl) rfl (Nat.le_of_ble_eq_true rfl) rfl rfl rfl (by decide +kernel) kk
theorem b173_62 {d : Nat} {Q : Option sV → sM → sG → Prop} {M : sM} {G : sG} {a0 : Nat} {s0 : Int}  (kk : sW (sC d) 173 Q 35 [vO 12 a0, vI s0] [] M G 0 0) : sW (sC d) 173 Q 62 [vO 12 a0, vN] [vI s0] M G 0 0 := by
  refine q_istore_n [vO 12 a0, vI s0] 63 rfl (show sCode 173 62 = some (.istore_n 1, 1) by decide +kernel) (Nat.lt_of_lt_of_le (Nat.lt_succ_self _) (Nat.le_of_ble_eq_true rfl)) rfl rfl ?_
  refine q_goto 35 (by decide) (show sCode 173 63 = some (.goto (-28), 3) by decide +kernel) ?_
  exact kk
theorem b173_66 {d : Nat} {Q : Option sV → sM → sG → Prop} {M : sM} {G : sG} {a0 : Nat} {x1 : Int}  (k1 : x1 = 0 → sW (sC d) 173 Q 88 [vO 12 a0, vN] [] M G 0 0) (k2 : x1 ≠ 0 → sW (sC d) 173 Q 70 [vO 12 a0, vN] [] M G 0 0) : sW (sC d) 173 Q 66 [vO 12 a0, vI x1] [] M G 0 0 := by
  refine q_iload_n 67 rfl (show sCode 173 66 = some (.iload_n 1, 1) by decide +kernel) rfl ?_
  refine q_ifeq 88 70 rfl (by decide) (show sCode 173 67 = some (.ifCond .eq 21, 3) by decide +kernel) ?_ ?_
  · intro q; refine q_forget (L' := [vO 12 a0, vN]) 1 rfl ?_; exact k1 q
  · intro q; refine q_forget (L' := [vO 12 a0, vN]) 1 rfl ?_; exact k2 q
theorem b173_70 {d : Nat} {Q : Option sV → sM → sG → Prop} {M : sM} {G : sG} {a0 : Nat}  (kk : sC d 175 [vO 12 a0] M G (QI (fun r M1 G1 => sW (sC d) 173 Q 74 [vO 12 a0, vN] (vI r :: []) M1 G1 0 0))) : sW (sC d) 173 Q 70 [vO 12 a0, vN] [] M G 0 0 := by
  refine q_aload_n 71 rfl (show sCode 173 70 = some (.aload_n 0, 1) by decide +kernel) rfl (Nat.le_of_ble_eq_true rfl) ?_
  exact q_virtI [] 74 rfl (show sCode 173 71 = some (.invokevirtual 102, 3) by decide +kernel) (show sMR (sKo 173).1 102 = some 175 by decide +kernel) (show 175 < 1000 ∧ sStat 175 = false ∧ sIni 175 = false ∧ sKo 175 = (12, 0, 1, 0, 0) by decide +kernel) rfl (Or.inl rfl) rfl (Nat.le_of_ble_eq_true rfl) rfl rfl rfl (by decide +kernel) kk
theorem b173_74 {d : Nat} {Q : Option sV → sM → sG → Prop} {M : sM} {G : sG} {a0 : Nat} {s0 : Int}  (k1 : s0 = (-1) → sW (sC d) 173 Q 88 [vO 12 a0, vN] [] M G 0 0) (k2 : s0 ≠ (-1) → sW (sC d) 173 Q 78 [vO 12 a0, vN] [] M G 0 0) : sW (sC d) 173 Q 74 [vO 12 a0, vN] [vI s0] M G 0 0 := by
  refine q_iconst 75 rfl (show sCode 173 74 = some (.iconst (-1), 1) by decide +kernel) ⟨by decide, by decide⟩ ?_
  refine q_icmpeq 88 78 rfl (by decide) (show sCode 173 75 = some (.if_icmp .eq 13, 3) by decide +kernel) ?_ ?_
  · intro q; exact k1 q
  · intro q; exact k2 q
theorem b173_78 {d : Nat} {Q : Option sV → sM → sG → Prop} {M : sM} {G : sG} {a0 : Nat}  (kk : sC d 178 [vO 12 a0, vI 0, vI (M a0 11)] M G (QI (fun r M1 G1 => sW (sC d) 173 Q 87 [vO 12 a0, vN] (vI r :: []) M1 G1 0 0))) : sW (sC d) 173 Q 78 [vO 12 a0, vN] [] M G 0 0 := by
  refine q_aload_n 79 rfl (show sCode 173 78 = some (.aload_n 0, 1) by decide +kernel) rfl (Nat.le_of_ble_eq_true rfl) ?_
  refine q_iconst 80 rfl (show sCode 173 79 = some (.iconst 0, 1) by decide +kernel) ⟨by decide, by decide⟩ ?_
  refine q_aload_n 81 rfl (show sCode 173 80 = some (.aload_n 0, 1) by decide +kernel) rfl (Nat.le_of_ble_eq_true rfl) ?_
  refine q_getI 84 rfl (show sCode 173 81 = some (.getfield 99, 3) by decide +kernel) (show sFR (sKo 173).1 99 = some (12, 11) by decide +kernel) (by decide +kernel) (Or.inl (Or.inl rfl)) ?_
  exact q_virtI [vI 0, vI (M a0 11)] 87 rfl (show sCode 173 84 = some (.invokevirtual 120, 3) by decide +kernel) (show sMR (sKo 173).1 120 = some 178 by decide +kernel) (show 178 < 1000 ∧ sStat 178 = false ∧ sIni 178 = false ∧ sKo 178 = (12, 2, 2, 0, 0) by decide +kernel) rfl (Or.inl rfl) rfl (Nat.le_of_ble_eq_true rfl) rfl rfl rfl (by decide +kernel) kk
theorem b173_87 {d : Nat} {Q : Option sV → sM → sG → Prop} {M : sM} {G : sG} {a0 : Nat} {s0 : Int}  (kk : sW (sC d) 173 Q 88 [vO 12 a0, vN] [] M G 0 0) : sW (sC d) 173 Q 87 [vO 12 a0, vN] [vI s0] M G 0 0 := by
  refine q_pop 88 rfl (show sCode 173 87 = some (.pop, 1) by decide +kernel) rfl ?_
  exact kk
theorem b173_88 {d : Nat} {Q : Option sV → sM → sG → Prop} {M : sM} {G : sG} {a0 : Nat}  (k1 : (sUpd M a0 1 0) a0 12 ≠ 0 → sW (sC d) 173 Q 104 [vN, vN] [] (sUpd M a0 1 0) G 0 0) (k2 : (sUpd M a0 1 0) a0 12 = 0 → sW (sC d) 173 Q 100 [vN, vN] [] (sUpd M a0 1 0) G 0 0) : sW (sC d) 173 Q 88 [vO 12 a0, vN] [] M G 0 0 := by
  refine q_aload_n 89 rfl (show sCode 173 88 = some (.aload_n 0, 1) by decide +kernel) rfl (Nat.le_of_ble_eq_true rfl) ?_
  refine q_iconst 90 rfl (show sCode 173 89 = some (.iconst 0, 1) by decide +kernel) ⟨by decide, by decide⟩ ?_
  refine q_putI 93 rfl (show sCode 173 90 = some (.putfield 88, 3) by decide +kernel) (show sFR (sKo 173).1 88 = some (12, 1) by decide +kernel) (by decide +kernel) (Or.inl ⟨Or.inl rfl, by decide +kernel⟩) ?_
  refine q_aload_n 94 rfl (show sCode 173 93 = some (.aload_n 0, 1) by decide +kernel) rfl (Nat.le_of_ble_eq_true rfl) ?_
  refine q_getI 97 rfl (show sCode 173 94 = some (.getfield 96, 3) by decide +kernel) (show sFR (sKo 173).1 96 = some (12, 12) by decide +kernel) (by decide +kernel) (Or.inl (Or.inl rfl)) ?_
  refine q_ifne 104 100 rfl (by decide) (show sCode 173 97 = some (.ifCond .ne 7, 3) by decide +kernel) ?_ ?_
  · intro q; refine q_forget (L' := [vN, vN]) 0 rfl ?_; exact k1 q
  · intro q; refine q_forget (L' := [vN, vN]) 0 rfl ?_; exact k2 q
theorem b173_100 {d : Nat} {Q : Option sV → sM → sG → Prop} {M : sM} {G : sG}   (kk : sW (sC d) 173 Q 105 [vN, vN] [vI 1] M G 0 0) : sW (sC d) 173 Q 100 [vN, vN] [] M G 0 0 := by
  refine q_iconst 101 rfl (show sCode 173 100 = some (.iconst 1, 1) by decide +kernel) ⟨by decide, by decide⟩ ?_
  refine q_goto 105 (by decide) (show sCode 173 101 = some (.goto 4, 3) by decide +kernel) ?_
  exact kk
theorem b173_104 {d : Nat} {Q : Option sV → sM → sG → Prop} {M : sM} {G : sG}   (kk : sW (sC d) 173 Q 105 [vN, vN] [vI 0] M G 0 0) : sW (sC d) 173 Q 104 [vN, vN] [] M G 0 0 := by
  refine q_iconst 105 rfl (show sCode 173 104 = some (.iconst 0, 1) by decide +kernel) ⟨by decide, by decide⟩ ?_
  exact kk
theorem b173_105 {d : Nat} {P : Int → sM → sG → Prop} {M : sM} {G : sG} {s0 : Int}  (h01 : s0 = 0 ∨ s0 = 1) (kk : P s0 M G) : sW (sC d) 173 (QI P) 105 [vN, vN] [vI s0] M G 0 0 := by
  exact q_zret (show sCode 173 105 = some (.ireturn, 1) by decide +kernel) (by decide +kernel) h01 (by decide +kernel) kk
-- 174 AfterTheLastModel.clauseHere ()Z
theorem b174_0 {d : Nat} {Q : Option sV → sM → sG → Prop} {M : sM} {G : sG} {a0 : Nat}  (kk : sC d 175 [vO 12 a0] M G (QI (fun r M1 G1 => sW (sC d) 174 Q 4 [vO 12 a0, vN, vN, vN] (vI r :: []) M1 G1 0 0))) : sW (sC d) 174 Q 0 [vO 12 a0, vN, vN, vN] [] M G 0 0 := by
  refine q_aload_n 1 rfl (show sCode 174 0 = some (.aload_n 0, 1) by decide +kernel) rfl (Nat.le_of_ble_eq_true rfl) ?_
  exact q_virtI [] 4 rfl (show sCode 174 1 = some (.invokevirtual 102, 3) by decide +kernel) (show sMR (sKo 174).1 102 = some 175 by decide +kernel) (show 175 < 1000 ∧ sStat 175 = false ∧ sIni 175 = false ∧ sKo 175 = (12, 0, 1, 0, 0) by decide +kernel) rfl (Or.inl rfl) rfl (Nat.le_of_ble_eq_true rfl) rfl rfl rfl (by decide +kernel) kk
theorem b174_4 {d : Nat} {Q : Option sV → sM → sG → Prop} {M : sM} {G : sG} {a0 : Nat} {s0 : Int}  (k1 : M a0 14 ≠ 6 → sW (sC d) 174 Q 23 [vO 12 a0, vI (M a0 11), vN, vN] [] M G 0 0) (k2 : M a0 14 = 6 → sW (sC d) 174 Q 19 [vO 12 a0, vI (M a0 11), vN, vN] [] M G 0 0) : sW (sC d) 174 Q 4 [vO 12 a0, vN, vN, vN] [vI s0] M G 0 0 := by
  refine q_pop 5 rfl (show sCode 174 4 = some (.pop, 1) by decide +kernel) rfl ?_
  refine q_aload_n 6 rfl (show sCode 174 5 = some (.aload_n 0, 1) by decide +kernel) rfl (Nat.le_of_ble_eq_true rfl) ?_
  refine q_getI 9 rfl (show sCode 174 6 = some (.getfield 99, 3) by decide +kernel) (show sFR (sKo 174).1 99 = some (12, 11) by decide +kernel) (by decide +kernel) (Or.inl (Or.inl rfl)) ?_
  refine q_istore_n [vO 12 a0, vI (M a0 11), vN, vN] 10 rfl (show sCode 174 9 = some (.istore_n 1, 1) by decide +kernel) (Nat.lt_of_lt_of_le (Nat.lt_succ_self _) (Nat.le_of_ble_eq_true rfl)) rfl rfl ?_
  refine q_aload_n 11 rfl (show sCode 174 10 = some (.aload_n 0, 1) by decide +kernel) rfl (Nat.le_of_ble_eq_true rfl) ?_
  refine q_getI 14 rfl (show sCode 174 11 = some (.getfield 151, 3) by decide +kernel) (show sFR (sKo 174).1 151 = some (12, 14) by decide +kernel) (by decide +kernel) (Or.inl (Or.inl rfl)) ?_
  refine q_bipush 16 rfl (show sCode 174 14 = some (.bipush 6, 2) by decide +kernel) ⟨by decide, by decide⟩ (by decide +kernel) ?_
  refine q_icmpne 23 19 rfl (by decide) (show sCode 174 16 = some (.if_icmp .ne 7, 3) by decide +kernel) ?_ ?_
  · intro q; exact k1 q
  · intro q; exact k2 q
theorem b174_19 {d : Nat} {Q : Option sV → sM → sG → Prop} {M : sM} {G : sG} {a0 : Nat} {x1 : Int}  (kk : sW (sC d) 174 Q 24 [vO 12 a0, vI x1, vN, vN] [vI 1] M G 0 0) : sW (sC d) 174 Q 19 [vO 12 a0, vI x1, vN, vN] [] M G 0 0 := by
  refine q_iconst 20 rfl (show sCode 174 19 = some (.iconst 1, 1) by decide +kernel) ⟨by decide, by decide⟩ ?_
  refine q_goto 24 (by decide) (show sCode 174 20 = some (.goto 4, 3) by decide +kernel) ?_
  exact kk
theorem b174_23 {d : Nat} {Q : Option sV → sM → sG → Prop} {M : sM} {G : sG} {a0 : Nat} {x1 : Int}  (kk : sW (sC d) 174 Q 24 [vO 12 a0, vI x1, vN, vN] [vI 0] M G 0 0) : sW (sC d) 174 Q 23 [vO 12 a0, vI x1, vN, vN] [] M G 0 0 := by
  refine q_iconst 24 rfl (show sCode 174 23 = some (.iconst 0, 1) by decide +kernel) ⟨by decide, by decide⟩ ?_
  exact kk
theorem b174_24 {d : Nat} {Q : Option sV → sM → sG → Prop} {M : sM} {G : sG} {a0 : Nat} {x1 : Int} {s0 : Int}  (k1 : s0 = 0 → sW (sC d) 174 Q 57 [vO 12 a0, vI x1, vI s0, vN] [] M G 0 0) (k2 : s0 ≠ 0 → sW (sC d) 174 Q 29 [vO 12 a0, vI x1, vI s0, vN] [] M G 0 0) : sW (sC d) 174 Q 24 [vO 12 a0, vI x1, vN, vN] [vI s0] M G 0 0 := by
  refine q_istore_n [vO 12 a0, vI x1, vI s0, vN] 25 rfl (show sCode 174 24 = some (.istore_n 2, 1) by decide +kernel) (Nat.lt_of_lt_of_le (Nat.lt_succ_self _) (Nat.le_of_ble_eq_true rfl)) rfl rfl ?_
  refine q_iload_n 26 rfl (show sCode 174 25 = some (.iload_n 2, 1) by decide +kernel) rfl ?_
  refine q_ifeq 57 29 rfl (by decide) (show sCode 174 26 = some (.ifCond .eq 31, 3) by decide +kernel) ?_ ?_
  · intro q; exact k1 q
  · intro q; exact k2 q
theorem b174_29 {d : Nat} {Q : Option sV → sM → sG → Prop} {M : sM} {G : sG} {a0 : Nat} {x1 : Int} {x2 : Int}  (kk : sC d 176 [vO 12 a0, vL 448546567013] M G (QI (fun r M1 G1 => sW (sC d) 174 Q 36 [vO 12 a0, vI x1, vI x2, vN] (vI r :: []) M1 G1 0 0))) : sW (sC d) 174 Q 29 [vO 12 a0, vI x1, vI x2, vN] [] M G 0 0 := by
  refine q_aload_n 30 rfl (show sCode 174 29 = some (.aload_n 0, 1) by decide +kernel) rfl (Nat.le_of_ble_eq_true rfl) ?_
  refine q_ldc2_w 33 rfl (show sCode 174 30 = some (.ldc2_w 135, 3) by decide +kernel) (show sLR (sKo 174).1 135 = some 448546567013 by decide +kernel) ⟨by decide, by decide⟩ ?_
  exact q_virtI [vL 448546567013] 36 rfl (show sCode 174 33 = some (.invokevirtual 110, 3) by decide +kernel) (show sMR (sKo 174).1 110 = some 176 by decide +kernel) (show 176 < 1000 ∧ sStat 176 = false ∧ sIni 176 = false ∧ sKo 176 = (12, 1, 2, 0, 0) by decide +kernel) rfl (Or.inl rfl) rfl (Nat.le_of_ble_eq_true rfl) rfl rfl rfl (by decide +kernel) kk
theorem b174_36 {d : Nat} {Q : Option sV → sM → sG → Prop} {M : sM} {G : sG} {a0 : Nat} {x1 : Int} {x2 : Int} {s0 : Int}  (k1 : s0 ≠ 0 → sW (sC d) 174 Q 49 [vO 12 a0, vI x1, vI x2, vN] [] M G 0 0) (k2 : s0 = 0 → sW (sC d) 174 Q 39 [vO 12 a0, vI x1, vI x2, vN] [] M G 0 0) : sW (sC d) 174 Q 36 [vO 12 a0, vI x1, vI x2, vN] [vI s0] M G 0 0 := by
  refine q_ifne 49 39 rfl (by decide) (show sCode 174 36 = some (.ifCond .ne 13, 3) by decide +kernel) ?_ ?_
  · intro q; exact k1 q
  · intro q; exact k2 q
theorem b174_39 {d : Nat} {Q : Option sV → sM → sG → Prop} {M : sM} {G : sG} {a0 : Nat} {x1 : Int} {x2 : Int}  (kk : sC d 176 [vO 12 a0, vL 1937006969] M G (QI (fun r M1 G1 => sW (sC d) 174 Q 46 [vO 12 a0, vI x1, vI x2, vN] (vI r :: []) M1 G1 0 0))) : sW (sC d) 174 Q 39 [vO 12 a0, vI x1, vI x2, vN] [] M G 0 0 := by
  refine q_aload_n 40 rfl (show sCode 174 39 = some (.aload_n 0, 1) by decide +kernel) rfl (Nat.le_of_ble_eq_true rfl) ?_
  refine q_ldc2_w 43 rfl (show sCode 174 40 = some (.ldc2_w 229, 3) by decide +kernel) (show sLR (sKo 174).1 229 = some 1937006969 by decide +kernel) ⟨by decide, by decide⟩ ?_
  exact q_virtI [vL 1937006969] 46 rfl (show sCode 174 43 = some (.invokevirtual 110, 3) by decide +kernel) (show sMR (sKo 174).1 110 = some 176 by decide +kernel) (show 176 < 1000 ∧ sStat 176 = false ∧ sIni 176 = false ∧ sKo 176 = (12, 1, 2, 0, 0) by decide +kernel) rfl (Or.inl rfl) rfl (Nat.le_of_ble_eq_true rfl) rfl rfl rfl (by decide +kernel) kk
theorem b174_46 {d : Nat} {Q : Option sV → sM → sG → Prop} {M : sM} {G : sG} {a0 : Nat} {x1 : Int} {x2 : Int} {s0 : Int}  (k1 : s0 = 0 → sW (sC d) 174 Q 53 [vO 12 a0, vI x1, vI x2, vN] [] M G 0 0) (k2 : s0 ≠ 0 → sW (sC d) 174 Q 49 [vO 12 a0, vI x1, vI x2, vN] [] M G 0 0) : sW (sC d) 174 Q 46 [vO 12 a0, vI x1, vI x2, vN] [vI s0] M G 0 0 := by
  refine q_ifeq 53 49 rfl (by decide) (show sCode 174 46 = some (.ifCond .eq 7, 3) by decide +kernel) ?_ ?_
  · intro q; exact k1 q
  · intro q; exact k2 q
theorem b174_49 {d : Nat} {Q : Option sV → sM → sG → Prop} {M : sM} {G : sG} {a0 : Nat} {x1 : Int} {x2 : Int}  (kk : sW (sC d) 174 Q 92 [vO 12 a0, vI x1, vI x2, vN] [vI 1] M G 0 0) : sW (sC d) 174 Q 49 [vO 12 a0, vI x1, vI x2, vN] [] M G 0 0 := by
  refine q_iconst 50 rfl (show sCode 174 49 = some (.iconst 1, 1) by decide +kernel) ⟨by decide, by decide⟩ ?_
  refine q_goto 92 (by decide) (show sCode 174 50 = some (.goto 42, 3) by decide +kernel) ?_
  exact kk
theorem b174_53 {d : Nat} {Q : Option sV → sM → sG → Prop} {M : sM} {G : sG} {a0 : Nat} {x1 : Int} {x2 : Int}  (kk : sW (sC d) 174 Q 92 [vO 12 a0, vI x1, vI x2, vN] [vI 0] M G 0 0) : sW (sC d) 174 Q 53 [vO 12 a0, vI x1, vI x2, vN] [] M G 0 0 := by
  refine q_iconst 54 rfl (show sCode 174 53 = some (.iconst 0, 1) by decide +kernel) ⟨by decide, by decide⟩ ?_
  refine q_goto 92 (by decide) (show sCode 174 54 = some (.goto 38, 3) by decide +kernel) ?_
  exact kk
theorem b174_57 {d : Nat} {Q : Option sV → sM → sG → Prop} {M : sM} {G : sG} {a0 : Nat} {x1 : Int} {x2 : Int}  (kk : sC d 176 [vO 12 a0, vL 1668246885] M G (QI (fun r M1 G1 => sW (sC d) 174 Q 64 [vO 12 a0, vI x1, vI x2, vN] (vI r :: []) M1 G1 0 0))) : sW (sC d) 174 Q 57 [vO 12 a0, vI x1, vI x2, vN] [] M G 0 0 := by
  refine q_aload_n 58 rfl (show sCode 174 57 = some (.aload_n 0, 1) by decide +kernel) rfl (Nat.le_of_ble_eq_true rfl) ?_
  refine q_ldc2_w 61 rfl (show sCode 174 58 = some (.ldc2_w 231, 3) by decide +kernel) (show sLR (sKo 174).1 231 = some 1668246885 by decide +kernel) ⟨by decide, by decide⟩ ?_
  exact q_virtI [vL 1668246885] 64 rfl (show sCode 174 61 = some (.invokevirtual 110, 3) by decide +kernel) (show sMR (sKo 174).1 110 = some 176 by decide +kernel) (show 176 < 1000 ∧ sStat 176 = false ∧ sIni 176 = false ∧ sKo 176 = (12, 1, 2, 0, 0) by decide +kernel) rfl (Or.inl rfl) rfl (Nat.le_of_ble_eq_true rfl) rfl rfl rfl (by decide +kernel) kk
theorem b174_64 {d : Nat} {Q : Option sV → sM → sG → Prop} {M : sM} {G : sG} {a0 : Nat} {x1 : Int} {x2 : Int} {s0 : Int}  (k1 : s0 ≠ 0 → sW (sC d) 174 Q 87 [vO 12 a0, vI x1, vI x2, vN] [] M G 0 0) (k2 : s0 = 0 → sW (sC d) 174 Q 67 [vO 12 a0, vI x1, vI x2, vN] [] M G 0 0) : sW (sC d) 174 Q 64 [vO 12 a0, vI x1, vI x2, vN] [vI s0] M G 0 0 := by
  refine q_ifne 87 67 rfl (by decide) (show sCode 174 64 = some (.ifCond .ne 23, 3) by decide +kernel) ?_ ?_
  · intro q; exact k1 q
  · intro q; exact k2 q
theorem b174_67 {d : Nat} {Q : Option sV → sM → sG → Prop} {M : sM} {G : sG} {a0 : Nat} {x1 : Int} {x2 : Int}  (kk : sC d 176 [vO 12 a0, vL 1752132708] M G (QI (fun r M1 G1 => sW (sC d) 174 Q 74 [vO 12 a0, vI x1, vI x2, vN] (vI r :: []) M1 G1 0 0))) : sW (sC d) 174 Q 67 [vO 12 a0, vI x1, vI x2, vN] [] M G 0 0 := by
  refine q_aload_n 68 rfl (show sCode 174 67 = some (.aload_n 0, 1) by decide +kernel) rfl (Nat.le_of_ble_eq_true rfl) ?_
  refine q_ldc2_w 71 rfl (show sCode 174 68 = some (.ldc2_w 233, 3) by decide +kernel) (show sLR (sKo 174).1 233 = some 1752132708 by decide +kernel) ⟨by decide, by decide⟩ ?_
  exact q_virtI [vL 1752132708] 74 rfl (show sCode 174 71 = some (.invokevirtual 110, 3) by decide +kernel) (show sMR (sKo 174).1 110 = some 176 by decide +kernel) (show 176 < 1000 ∧ sStat 176 = false ∧ sIni 176 = false ∧ sKo 176 = (12, 1, 2, 0, 0) by decide +kernel) rfl (Or.inl rfl) rfl (Nat.le_of_ble_eq_true rfl) rfl rfl rfl (by decide +kernel) kk
theorem b174_74 {d : Nat} {Q : Option sV → sM → sG → Prop} {M : sM} {G : sG} {a0 : Nat} {x1 : Int} {x2 : Int} {s0 : Int}  (k1 : s0 ≠ 0 → sW (sC d) 174 Q 87 [vO 12 a0, vI x1, vI x2, vN] [] M G 0 0) (k2 : s0 = 0 → sW (sC d) 174 Q 77 [vO 12 a0, vI x1, vI x2, vN] [] M G 0 0) : sW (sC d) 174 Q 74 [vO 12 a0, vI x1, vI x2, vN] [vI s0] M G 0 0 := by
  refine q_ifne 87 77 rfl (by decide) (show sCode 174 74 = some (.ifCond .ne 13, 3) by decide +kernel) ?_ ?_
  · intro q; exact k1 q
  · intro q; exact k2 q
theorem b174_77 {d : Nat} {Q : Option sV → sM → sG → Prop} {M : sM} {G : sG} {a0 : Nat} {x1 : Int} {x2 : Int}  (kk : sC d 176 [vO 12 a0, vL 131294707347319] M G (QI (fun r M1 G1 => sW (sC d) 174 Q 84 [vO 12 a0, vI x1, vI x2, vN] (vI r :: []) M1 G1 0 0))) : sW (sC d) 174 Q 77 [vO 12 a0, vI x1, vI x2, vN] [] M G 0 0 := by
  refine q_aload_n 78 rfl (show sCode 174 77 = some (.aload_n 0, 1) by decide +kernel) rfl (Nat.le_of_ble_eq_true rfl) ?_
  refine q_ldc2_w 81 rfl (show sCode 174 78 = some (.ldc2_w 235, 3) by decide +kernel) (show sLR (sKo 174).1 235 = some 131294707347319 by decide +kernel) ⟨by decide, by decide⟩ ?_
  exact q_virtI [vL 131294707347319] 84 rfl (show sCode 174 81 = some (.invokevirtual 110, 3) by decide +kernel) (show sMR (sKo 174).1 110 = some 176 by decide +kernel) (show 176 < 1000 ∧ sStat 176 = false ∧ sIni 176 = false ∧ sKo 176 = (12, 1, 2, 0, 0) by decide +kernel) rfl (Or.inl rfl) rfl (Nat.le_of_ble_eq_true rfl) rfl rfl rfl (by decide +kernel) kk
theorem b174_84 {d : Nat} {Q : Option sV → sM → sG → Prop} {M : sM} {G : sG} {a0 : Nat} {x1 : Int} {x2 : Int} {s0 : Int}  (k1 : s0 = 0 → sW (sC d) 174 Q 91 [vO 12 a0, vI x1, vI x2, vN] [] M G 0 0) (k2 : s0 ≠ 0 → sW (sC d) 174 Q 87 [vO 12 a0, vI x1, vI x2, vN] [] M G 0 0) : sW (sC d) 174 Q 84 [vO 12 a0, vI x1, vI x2, vN] [vI s0] M G 0 0 := by
  refine q_ifeq 91 87 rfl (by decide) (show sCode 174 84 = some (.ifCond .eq 7, 3) by decide +kernel) ?_ ?_
  · intro q; exact k1 q
  · intro q; exact k2 q
theorem b174_87 {d : Nat} {Q : Option sV → sM → sG → Prop} {M : sM} {G : sG} {a0 : Nat} {x1 : Int} {x2 : Int}  (kk : sW (sC d) 174 Q 92 [vO 12 a0, vI x1, vI x2, vN] [vI 1] M G 0 0) : sW (sC d) 174 Q 87 [vO 12 a0, vI x1, vI x2, vN] [] M G 0 0 := by
  refine q_iconst 88 rfl (show sCode 174 87 = some (.iconst 1, 1) by decide +kernel) ⟨by decide, by decide⟩ ?_
  refine q_goto 92 (by decide) (show sCode 174 88 = some (.goto 4, 3) by decide +kernel) ?_
  exact kk
theorem b174_91 {d : Nat} {Q : Option sV → sM → sG → Prop} {M : sM} {G : sG} {a0 : Nat} {x1 : Int} {x2 : Int}  (kk : sW (sC d) 174 Q 92 [vO 12 a0, vI x1, vI x2, vN] [vI 0] M G 0 0) : sW (sC d) 174 Q 91 [vO 12 a0, vI x1, vI x2, vN] [] M G 0 0 := by
  refine q_iconst 92 rfl (show sCode 174 91 = some (.iconst 0, 1) by decide +kernel) ⟨by decide, by decide⟩ ?_
  exact kk
theorem b174_92 {d : Nat} {Q : Option sV → sM → sG → Prop} {M : sM} {G : sG} {a0 : Nat} {x1 : Int} {x2 : Int} {s0 : Int}  (k1 : s0 ≠ 0 → sW (sC d) 174 Q 104 [vO 12 a0, vI x1, vI x2, vN] [] M G 0 0) (k2 : s0 = 0 → sW (sC d) 174 Q 97 [vO 12 a0, vI x1, vN, vN] [] M G 0 0) : sW (sC d) 174 Q 92 [vO 12 a0, vI x1, vI x2, vN] [vI s0] M G 0 0 := by
  refine q_istore_n [vO 12 a0, vI x1, vI x2, vI s0] 93 rfl (show sCode 174 92 = some (.istore_n 3, 1) by decide +kernel) (Nat.lt_of_lt_of_le (Nat.lt_succ_self _) (Nat.le_of_ble_eq_true rfl)) rfl rfl ?_
  refine q_iload_n 94 rfl (show sCode 174 93 = some (.iload_n 3, 1) by decide +kernel) rfl ?_
  refine q_ifne 104 97 rfl (by decide) (show sCode 174 94 = some (.ifCond .ne 10, 3) by decide +kernel) ?_ ?_
  · intro q; refine q_forget (L' := [vO 12 a0, vI x1, vI x2, vN]) 3 rfl ?_; exact k1 q
  · intro q; refine q_forget (L' := [vO 12 a0, vI x1, vN, vI s0]) 2 rfl ?_; refine q_forget (L' := [vO 12 a0, vI x1, vN, vN]) 3 rfl ?_; exact k2 q
theorem b174_97 {d : Nat} {Q : Option sV → sM → sG → Prop} {M : sM} {G : sG} {a0 : Nat} {x1 : Int}  (kk : sC d 178 [vO 12 a0, vI 0, vI x1] M G (QI (fun r M1 G1 => sW (sC d) 174 Q 103 [vN, vN, vN, vN] (vI r :: []) M1 G1 0 0))) : sW (sC d) 174 Q 97 [vO 12 a0, vI x1, vN, vN] [] M G 0 0 := by
  refine q_aload_n 98 rfl (show sCode 174 97 = some (.aload_n 0, 1) by decide +kernel) rfl (Nat.le_of_ble_eq_true rfl) ?_
  refine q_iconst 99 rfl (show sCode 174 98 = some (.iconst 0, 1) by decide +kernel) ⟨by decide, by decide⟩ ?_
  refine q_iload_n 100 rfl (show sCode 174 99 = some (.iload_n 1, 1) by decide +kernel) rfl ?_
  refine q_forget (L' := [vN, vI x1, vN, vN]) 0 rfl ?_
  refine q_forget (L' := [vN, vN, vN, vN]) 1 rfl ?_
  exact q_virtI [vI 0, vI x1] 103 rfl (show sCode 174 100 = some (.invokevirtual 120, 3) by decide +kernel) (show sMR (sKo 174).1 120 = some 178 by decide +kernel) (show 178 < 1000 ∧ sStat 178 = false ∧ sIni 178 = false ∧ sKo 178 = (12, 2, 2, 0, 0) by decide +kernel) rfl (Or.inl rfl) rfl (Nat.le_of_ble_eq_true rfl) rfl rfl rfl (by decide +kernel) kk
theorem b174_103 {d : Nat} {P : Int → sM → sG → Prop} {M : sM} {G : sG} {s0 : Int}  (h01 : s0 = 0 ∨ s0 = 1) (kk : P s0 M G) : sW (sC d) 174 (QI P) 103 [vN, vN, vN, vN] [vI s0] M G 0 0 := by
  exact q_zret (show sCode 174 103 = some (.ireturn, 1) by decide +kernel) (by decide +kernel) h01 (by decide +kernel) kk
theorem b174_104 {d : Nat} {Q : Option sV → sM → sG → Prop} {M : sM} {G : sG} {a0 : Nat} {x1 : Int} {x2 : Int}  (k1 : x2 = 0 → sW (sC d) 174 Q 117 [vO 12 a0, vI x1, vI x2, vN] [vI (M a0 17)] M G 0 0) (k2 : x2 ≠ 0 → sW (sC d) 174 Q 112 [vO 12 a0, vI x1, vI x2, vN] [vI (M a0 17)] M G 0 0) : sW (sC d) 174 Q 104 [vO 12 a0, vI x1, vI x2, vN] [] M G 0 0 := by
  refine q_aload_n 105 rfl (show sCode 174 104 = some (.aload_n 0, 1) by decide +kernel) rfl (Nat.le_of_ble_eq_true rfl) ?_
  refine q_getI 108 rfl (show sCode 174 105 = some (.getfield 237, 3) by decide +kernel) (show sFR (sKo 174).1 237 = some (12, 17) by decide +kernel) (by decide +kernel) (Or.inl (Or.inl rfl)) ?_
  refine q_iload_n 109 rfl (show sCode 174 108 = some (.iload_n 2, 1) by decide +kernel) rfl ?_
  refine q_ifeq 117 112 rfl (by decide) (show sCode 174 109 = some (.ifCond .eq 8, 3) by decide +kernel) ?_ ?_
  · intro q; exact k1 q
  · intro q; exact k2 q
theorem b174_112 {d : Nat} {Q : Option sV → sM → sG → Prop} {M : sM} {G : sG} {a0 : Nat} {x1 : Int} {x2 : Int} {s0 : Int}  (kk : sW (sC d) 174 Q 119 [vO 12 a0, vI x1, vI x2, vN] [vI 24, vI s0] M G 0 0) : sW (sC d) 174 Q 112 [vO 12 a0, vI x1, vI x2, vN] [vI s0] M G 0 0 := by
  refine q_bipush 114 rfl (show sCode 174 112 = some (.bipush 24, 2) by decide +kernel) ⟨by decide, by decide⟩ (by decide +kernel) ?_
  refine q_goto 119 (by decide) (show sCode 174 114 = some (.goto 5, 3) by decide +kernel) ?_
  exact kk
theorem b174_117 {d : Nat} {Q : Option sV → sM → sG → Prop} {M : sM} {G : sG} {a0 : Nat} {x1 : Int} {x2 : Int} {s0 : Int}  (kk : sW (sC d) 174 Q 119 [vO 12 a0, vI x1, vI x2, vN] [vI 12, vI s0] M G 0 0) : sW (sC d) 174 Q 117 [vO 12 a0, vI x1, vI x2, vN] [vI s0] M G 0 0 := by
  refine q_bipush 119 rfl (show sCode 174 117 = some (.bipush 12, 2) by decide +kernel) ⟨by decide, by decide⟩ (by decide +kernel) ?_
  exact kk
theorem b174_119 {d : Nat} {Q : Option sV → sM → sG → Prop} {M : sM} {G : sG} {a0 : Nat} {x1 : Int} {x2 : Int} {s0 : Int} {s1 : Int}  (k1 : s1 ≠ s0 → sW (sC d) 174 Q 129 [vO 12 a0, vI x1, vI x2, vN] [] M G 0 0) (k2 : s1 = s0 → sW (sC d) 174 Q 122 [vO 12 a0, vI x1, vN, vN] [] M G 0 0) : sW (sC d) 174 Q 119 [vO 12 a0, vI x1, vI x2, vN] [vI s0, vI s1] M G 0 0 := by
  refine q_icmpne 129 122 rfl (by decide) (show sCode 174 119 = some (.if_icmp .ne 10, 3) by decide +kernel) ?_ ?_
  · intro q; exact k1 q
  · intro q; refine q_forget (L' := [vO 12 a0, vI x1, vN, vN]) 2 rfl ?_; exact k2 q
theorem b174_122 {d : Nat} {Q : Option sV → sM → sG → Prop} {M : sM} {G : sG} {a0 : Nat} {x1 : Int}  (kk : sC d 178 [vO 12 a0, vI 4, vI x1] M G (QI (fun r M1 G1 => sW (sC d) 174 Q 128 [vN, vN, vN, vN] (vI r :: []) M1 G1 0 0))) : sW (sC d) 174 Q 122 [vO 12 a0, vI x1, vN, vN] [] M G 0 0 := by
  refine q_aload_n 123 rfl (show sCode 174 122 = some (.aload_n 0, 1) by decide +kernel) rfl (Nat.le_of_ble_eq_true rfl) ?_
  refine q_iconst 124 rfl (show sCode 174 123 = some (.iconst 4, 1) by decide +kernel) ⟨by decide, by decide⟩ ?_
  refine q_iload_n 125 rfl (show sCode 174 124 = some (.iload_n 1, 1) by decide +kernel) rfl ?_
  refine q_forget (L' := [vN, vI x1, vN, vN]) 0 rfl ?_
  refine q_forget (L' := [vN, vN, vN, vN]) 1 rfl ?_
  exact q_virtI [vI 4, vI x1] 128 rfl (show sCode 174 125 = some (.invokevirtual 120, 3) by decide +kernel) (show sMR (sKo 174).1 120 = some 178 by decide +kernel) (show 178 < 1000 ∧ sStat 178 = false ∧ sIni 178 = false ∧ sKo 178 = (12, 2, 2, 0, 0) by decide +kernel) rfl (Or.inl rfl) rfl (Nat.le_of_ble_eq_true rfl) rfl rfl rfl (by decide +kernel) kk
theorem b174_128 {d : Nat} {P : Int → sM → sG → Prop} {M : sM} {G : sG} {s0 : Int}  (h01 : s0 = 0 ∨ s0 = 1) (kk : P s0 M G) : sW (sC d) 174 (QI P) 128 [vN, vN, vN, vN] [vI s0] M G 0 0 := by
  exact q_zret (show sCode 174 128 = some (.ireturn, 1) by decide +kernel) (by decide +kernel) h01 (by decide +kernel) kk
theorem b174_129 {d : Nat} {Q : Option sV → sM → sG → Prop} {M : sM} {G : sG} {a0 : Nat} {x1 : Int} {x2 : Int} (h1 : sI ((M a0 17) + 1)) (k1 : x2 = 0 → sW (sC d) 174 Q 167 [vO 12 a0, vN, vN, vN] [] (sUpd M a0 17 ((M a0 17) + 1)) G 0 0) (k2 : x2 ≠ 0 → sW (sC d) 174 Q 143 [vO 12 a0, vI x1, vN, vN] [] (sUpd M a0 17 ((M a0 17) + 1)) G 0 0) : sW (sC d) 174 Q 129 [vO 12 a0, vI x1, vI x2, vN] [] M G 0 0 := by
  refine q_aload_n 130 rfl (show sCode 174 129 = some (.aload_n 0, 1) by decide +kernel) rfl (Nat.le_of_ble_eq_true rfl) ?_
  refine q_dup 131 rfl (show sCode 174 130 = some (.dup, 1) by decide +kernel) rfl ?_
  refine q_getI 134 rfl (show sCode 174 131 = some (.getfield 237, 3) by decide +kernel) (show sFR (sKo 174).1 237 = some (12, 17) by decide +kernel) (by decide +kernel) (Or.inl (Or.inl rfl)) ?_
  refine q_iconst 135 rfl (show sCode 174 134 = some (.iconst 1, 1) by decide +kernel) ⟨by decide, by decide⟩ ?_
  refine q_iadd 136 rfl (show sCode 174 135 = some (.iadd, 1) by decide +kernel) h1 ?_
  refine q_putI 139 rfl (show sCode 174 136 = some (.putfield 237, 3) by decide +kernel) (show sFR (sKo 174).1 237 = some (12, 17) by decide +kernel) (by decide +kernel) (Or.inl ⟨Or.inl rfl, by decide +kernel⟩) ?_
  refine q_iload_n 140 rfl (show sCode 174 139 = some (.iload_n 2, 1) by decide +kernel) rfl ?_
  refine q_ifeq 167 143 rfl (by decide) (show sCode 174 140 = some (.ifCond .eq 27, 3) by decide +kernel) ?_ ?_
  · intro q; refine q_forget (L' := [vO 12 a0, vN, vI x2, vN]) 1 rfl ?_; refine q_forget (L' := [vO 12 a0, vN, vN, vN]) 2 rfl ?_; exact k1 q
  · intro q; refine q_forget (L' := [vO 12 a0, vI x1, vN, vN]) 2 rfl ?_; exact k2 q
theorem b174_143 {d : Nat} {Q : Option sV → sM → sG → Prop} {M : sM} {G : sG} {a0 : Nat} {x1 : Int}  (kk : sC d 176 [vO 12 a0, vL 448546567013] M G (QI (fun r M1 G1 => sW (sC d) 174 Q 150 [vO 12 a0, vI x1, vN, vN] (vI r :: []) M1 G1 0 0))) : sW (sC d) 174 Q 143 [vO 12 a0, vI x1, vN, vN] [] M G 0 0 := by
  refine q_aload_n 144 rfl (show sCode 174 143 = some (.aload_n 0, 1) by decide +kernel) rfl (Nat.le_of_ble_eq_true rfl) ?_
  refine q_ldc2_w 147 rfl (show sCode 174 144 = some (.ldc2_w 135, 3) by decide +kernel) (show sLR (sKo 174).1 135 = some 448546567013 by decide +kernel) ⟨by decide, by decide⟩ ?_
  exact q_virtI [vL 448546567013] 150 rfl (show sCode 174 147 = some (.invokevirtual 110, 3) by decide +kernel) (show sMR (sKo 174).1 110 = some 176 by decide +kernel) (show 176 < 1000 ∧ sStat 176 = false ∧ sIni 176 = false ∧ sKo 176 = (12, 1, 2, 0, 0) by decide +kernel) rfl (Or.inl rfl) rfl (Nat.le_of_ble_eq_true rfl) rfl rfl rfl (by decide +kernel) kk
theorem b174_150 {d : Nat} {Q : Option sV → sM → sG → Prop} {M : sM} {G : sG} {a0 : Nat} {x1 : Int} {s0 : Int}  (k1 : s0 = 0 → sW (sC d) 174 Q 161 [vO 12 a0, vI x1, vN, vN] [] M G 0 0) (k2 : s0 ≠ 0 → sW (sC d) 174 Q 153 [vO 12 a0, vI x1, vN, vN] [] M G 0 0) : sW (sC d) 174 Q 150 [vO 12 a0, vI x1, vN, vN] [vI s0] M G 0 0 := by
  refine q_ifeq 161 153 rfl (by decide) (show sCode 174 150 = some (.ifCond .eq 11, 3) by decide +kernel) ?_ ?_
  · intro q; exact k1 q
  · intro q; exact k2 q
theorem b174_153 {d : Nat} {Q : Option sV → sM → sG → Prop} {M : sM} {G : sG} {a0 : Nat} {x1 : Int}  (kk : sC d 179 [vO 12 a0, vI x1] M G (QI (fun r M1 G1 => sW (sC d) 174 Q 158 [vN, vN, vN, vN] (vI r :: []) M1 G1 0 0))) : sW (sC d) 174 Q 153 [vO 12 a0, vI x1, vN, vN] [] M G 0 0 := by
  refine q_aload_n 154 rfl (show sCode 174 153 = some (.aload_n 0, 1) by decide +kernel) rfl (Nat.le_of_ble_eq_true rfl) ?_
  refine q_iload_n 155 rfl (show sCode 174 154 = some (.iload_n 1, 1) by decide +kernel) rfl ?_
  refine q_forget (L' := [vN, vI x1, vN, vN]) 0 rfl ?_
  refine q_forget (L' := [vN, vN, vN, vN]) 1 rfl ?_
  exact q_virtI [vI x1] 158 rfl (show sCode 174 155 = some (.invokevirtual 240, 3) by decide +kernel) (show sMR (sKo 174).1 240 = some 179 by decide +kernel) (show 179 < 1000 ∧ sStat 179 = false ∧ sIni 179 = false ∧ sKo 179 = (12, 1, 2, 0, 0) by decide +kernel) rfl (Or.inl rfl) rfl (Nat.le_of_ble_eq_true rfl) rfl rfl rfl (by decide +kernel) kk
theorem b174_158 {d : Nat} {Q : Option sV → sM → sG → Prop} {M : sM} {G : sG} {s0 : Int}  (kk : sW (sC d) 174 Q 166 [vN, vN, vN, vN] [vI s0] M G 0 0) : sW (sC d) 174 Q 158 [vN, vN, vN, vN] [vI s0] M G 0 0 := by
  refine q_goto 166 (by decide) (show sCode 174 158 = some (.goto 8, 3) by decide +kernel) ?_
  exact kk
theorem b174_161 {d : Nat} {Q : Option sV → sM → sG → Prop} {M : sM} {G : sG} {a0 : Nat} {x1 : Int}  (kk : sC d 184 [vO 12 a0, vI x1] M G (QI (fun r M1 G1 => sW (sC d) 174 Q 166 [vN, vN, vN, vN] (vI r :: []) M1 G1 0 0))) : sW (sC d) 174 Q 161 [vO 12 a0, vI x1, vN, vN] [] M G 0 0 := by
  refine q_aload_n 162 rfl (show sCode 174 161 = some (.aload_n 0, 1) by decide +kernel) rfl (Nat.le_of_ble_eq_true rfl) ?_
  refine q_iload_n 163 rfl (show sCode 174 162 = some (.iload_n 1, 1) by decide +kernel) rfl ?_
  refine q_forget (L' := [vN, vI x1, vN, vN]) 0 rfl ?_
  refine q_forget (L' := [vN, vN, vN, vN]) 1 rfl ?_
  exact q_virtI [vI x1] 166 rfl (show sCode 174 163 = some (.invokevirtual 243, 3) by decide +kernel) (show sMR (sKo 174).1 243 = some 184 by decide +kernel) (show 184 < 1000 ∧ sStat 184 = false ∧ sIni 184 = false ∧ sKo 184 = (12, 1, 2, 0, 0) by decide +kernel) rfl (Or.inl rfl) rfl (Nat.le_of_ble_eq_true rfl) rfl rfl rfl (by decide +kernel) kk
theorem b174_166 {d : Nat} {P : Int → sM → sG → Prop} {M : sM} {G : sG} {s0 : Int}  (h01 : s0 = 0 ∨ s0 = 1) (kk : P s0 M G) : sW (sC d) 174 (QI P) 166 [vN, vN, vN, vN] [vI s0] M G 0 0 := by
  exact q_zret (show sCode 174 166 = some (.ireturn, 1) by decide +kernel) (by decide +kernel) h01 (by decide +kernel) kk
theorem b174_167 {d : Nat} {Q : Option sV → sM → sG → Prop} {M : sM} {G : sG} {a0 : Nat}  (kk : sC d 176 [vO 12 a0, vL 1668246885] M G (QI (fun r M1 G1 => sW (sC d) 174 Q 175 [vO 12 a0, vN, vN, vN] (vI r :: [vO 12 a0]) M1 G1 0 0))) : sW (sC d) 174 Q 167 [vO 12 a0, vN, vN, vN] [] M G 0 0 := by
  refine q_aload_n 168 rfl (show sCode 174 167 = some (.aload_n 0, 1) by decide +kernel) rfl (Nat.le_of_ble_eq_true rfl) ?_
  refine q_aload_n 169 rfl (show sCode 174 168 = some (.aload_n 0, 1) by decide +kernel) rfl (Nat.le_of_ble_eq_true rfl) ?_
  refine q_ldc2_w 172 rfl (show sCode 174 169 = some (.ldc2_w 231, 3) by decide +kernel) (show sLR (sKo 174).1 231 = some 1668246885 by decide +kernel) ⟨by decide, by decide⟩ ?_
  exact q_virtI [vL 1668246885] 175 rfl (show sCode 174 172 = some (.invokevirtual 110, 3) by decide +kernel) (show sMR (sKo 174).1 110 = some 176 by decide +kernel) (show 176 < 1000 ∧ sStat 176 = false ∧ sIni 176 = false ∧ sKo 176 = (12, 1, 2, 0, 0) by decide +kernel) rfl (Or.inl rfl) rfl (Nat.le_of_ble_eq_true rfl) rfl rfl rfl (by decide +kernel) kk
theorem b174_175 {d : Nat} {Q : Option sV → sM → sG → Prop} {M : sM} {G : sG} {a0 : Nat} {s0 : Int} {sa1 : Nat}  (k1 : s0 = 0 → sW (sC d) 174 Q 182 [vO 12 a0, vN, vN, vN] [vO 12 sa1] M G 0 0) (k2 : s0 ≠ 0 → sW (sC d) 174 Q 178 [vN, vN, vN, vN] [vO 12 sa1] M G 0 0) : sW (sC d) 174 Q 175 [vO 12 a0, vN, vN, vN] [vI s0, vO 12 sa1] M G 0 0 := by
  refine q_ifeq 182 178 rfl (by decide) (show sCode 174 175 = some (.ifCond .eq 7, 3) by decide +kernel) ?_ ?_
  · intro q; exact k1 q
  · intro q; refine q_forget (L' := [vN, vN, vN, vN]) 0 rfl ?_; exact k2 q
theorem b174_178 {d : Nat} {Q : Option sV → sM → sG → Prop} {M : sM} {G : sG} {sa0 : Nat}  (kk : sW (sC d) 174 Q 197 [vN, vN, vN, vN] [vI 0, vO 12 sa0] M G 0 0) : sW (sC d) 174 Q 178 [vN, vN, vN, vN] [vO 12 sa0] M G 0 0 := by
  refine q_iconst 179 rfl (show sCode 174 178 = some (.iconst 0, 1) by decide +kernel) ⟨by decide, by decide⟩ ?_
  refine q_goto 197 (by decide) (show sCode 174 179 = some (.goto 18, 3) by decide +kernel) ?_
  exact kk
theorem b174_182 {d : Nat} {Q : Option sV → sM → sG → Prop} {M : sM} {G : sG} {a0 : Nat} {sa0 : Nat}  (kk : sC d 176 [vO 12 a0, vL 1752132708] M G (QI (fun r M1 G1 => sW (sC d) 174 Q 189 [vN, vN, vN, vN] (vI r :: [vO 12 sa0]) M1 G1 0 0))) : sW (sC d) 174 Q 182 [vO 12 a0, vN, vN, vN] [vO 12 sa0] M G 0 0 := by
  refine q_aload_n 183 rfl (show sCode 174 182 = some (.aload_n 0, 1) by decide +kernel) rfl (Nat.le_of_ble_eq_true rfl) ?_
  refine q_ldc2_w 186 rfl (show sCode 174 183 = some (.ldc2_w 233, 3) by decide +kernel) (show sLR (sKo 174).1 233 = some 1752132708 by decide +kernel) ⟨by decide, by decide⟩ ?_
  refine q_forget (L' := [vN, vN, vN, vN]) 0 rfl ?_
  exact q_virtI [vL 1752132708] 189 rfl (show sCode 174 186 = some (.invokevirtual 110, 3) by decide +kernel) (show sMR (sKo 174).1 110 = some 176 by decide +kernel) (show 176 < 1000 ∧ sStat 176 = false ∧ sIni 176 = false ∧ sKo 176 = (12, 1, 2, 0, 0) by decide +kernel) rfl (Or.inl rfl) rfl (Nat.le_of_ble_eq_true rfl) rfl rfl rfl (by decide +kernel) kk
theorem b174_189 {d : Nat} {Q : Option sV → sM → sG → Prop} {M : sM} {G : sG} {s0 : Int} {sa1 : Nat}  (k1 : s0 = 0 → sW (sC d) 174 Q 196 [vN, vN, vN, vN] [vO 12 sa1] M G 0 0) (k2 : s0 ≠ 0 → sW (sC d) 174 Q 192 [vN, vN, vN, vN] [vO 12 sa1] M G 0 0) : sW (sC d) 174 Q 189 [vN, vN, vN, vN] [vI s0, vO 12 sa1] M G 0 0 := by
  refine q_ifeq 196 192 rfl (by decide) (show sCode 174 189 = some (.ifCond .eq 7, 3) by decide +kernel) ?_ ?_
  · intro q; exact k1 q
  · intro q; exact k2 q
theorem b174_192 {d : Nat} {Q : Option sV → sM → sG → Prop} {M : sM} {G : sG} {sa0 : Nat}  (kk : sW (sC d) 174 Q 197 [vN, vN, vN, vN] [vI 1, vO 12 sa0] M G 0 0) : sW (sC d) 174 Q 192 [vN, vN, vN, vN] [vO 12 sa0] M G 0 0 := by
  refine q_iconst 193 rfl (show sCode 174 192 = some (.iconst 1, 1) by decide +kernel) ⟨by decide, by decide⟩ ?_
  refine q_goto 197 (by decide) (show sCode 174 193 = some (.goto 4, 3) by decide +kernel) ?_
  exact kk
theorem b174_196 {d : Nat} {Q : Option sV → sM → sG → Prop} {M : sM} {G : sG} {sa0 : Nat}  (kk : sW (sC d) 174 Q 197 [vN, vN, vN, vN] [vI 2, vO 12 sa0] M G 0 0) : sW (sC d) 174 Q 196 [vN, vN, vN, vN] [vO 12 sa0] M G 0 0 := by
  refine q_iconst 197 rfl (show sCode 174 196 = some (.iconst 2, 1) by decide +kernel) ⟨by decide, by decide⟩ ?_
  exact kk
theorem b174_197 {d : Nat} {Q : Option sV → sM → sG → Prop} {M : sM} {G : sG} {s0 : Int} {sa1 : Nat}  (kk : sC d 185 [vO 12 sa1, vI s0] M G (QI (fun r M1 G1 => sW (sC d) 174 Q 200 [vN, vN, vN, vN] (vI r :: []) M1 G1 0 0))) : sW (sC d) 174 Q 197 [vN, vN, vN, vN] [vI s0, vO 12 sa1] M G 0 0 := by
  exact q_virtI [vI s0] 200 rfl (show sCode 174 197 = some (.invokevirtual 246, 3) by decide +kernel) (show sMR (sKo 174).1 246 = some 185 by decide +kernel) (show 185 < 1000 ∧ sStat 185 = false ∧ sIni 185 = false ∧ sKo 185 = (12, 1, 2, 0, 0) by decide +kernel) rfl (Or.inl rfl) rfl (Nat.le_of_ble_eq_true rfl) rfl rfl rfl (by decide +kernel) kk
theorem b174_200 {d : Nat} {P : Int → sM → sG → Prop} {M : sM} {G : sG} {s0 : Int}  (h01 : s0 = 0 ∨ s0 = 1) (kk : P s0 M G) : sW (sC d) 174 (QI P) 200 [vN, vN, vN, vN] [vI s0] M G 0 0 := by
  exact q_zret (show sCode 174 200 = some (.ireturn, 1) by decide +kernel) (by decide +kernel) h01 (by decide +kernel) kk
-- 175 AfterTheLastModel.see ()I
theorem b175_0 {d : Nat} {Q : Option sV → sM → sG → Prop} {M : sM} {G : sG} {a0 : Nat}  (k1 : M a0 1 ≤ M a0 11 → sW (sC d) 175 Q 38 [vO 12 a0] [] M G 0 0) (k2 : M a0 11 < M a0 1 → sW (sC d) 175 Q 11 [vO 12 a0] [] M G 0 0) : sW (sC d) 175 Q 0 [vO 12 a0] [] M G 0 0 := by
  refine q_aload_n 1 rfl (show sCode 175 0 = some (.aload_n 0, 1) by decide +kernel) rfl (Nat.le_of_ble_eq_true rfl) ?_
  refine q_getI 4 rfl (show sCode 175 1 = some (.getfield 99, 3) by decide +kernel) (show sFR (sKo 175).1 99 = some (12, 11) by decide +kernel) (by decide +kernel) (Or.inl (Or.inl rfl)) ?_
  refine q_aload_n 5 rfl (show sCode 175 4 = some (.aload_n 0, 1) by decide +kernel) rfl (Nat.le_of_ble_eq_true rfl) ?_
  refine q_getI 8 rfl (show sCode 175 5 = some (.getfield 88, 3) by decide +kernel) (show sFR (sKo 175).1 88 = some (12, 1) by decide +kernel) (by decide +kernel) (Or.inl (Or.inl rfl)) ?_
  refine q_icmpge 38 11 rfl (by decide) (show sCode 175 8 = some (.if_icmp .ge 30, 3) by decide +kernel) ?_ ?_
  · intro q; exact k1 q
  · intro q; exact k2 q
theorem b175_11 {d : Nat} {Q : Option sV → sM → sG → Prop} {M : sM} {G : sG} {a0 : Nat} (h1 : 0 ≤ M a0 11 ∧ M a0 11 < 400) (k1 : M (a0 + 1) (M a0 11).toNat ≠ 32 → sW (sC d) 175 Q 38 [vO 12 a0] [] M G 0 0) (k2 : M (a0 + 1) (M a0 11).toNat = 32 → sW (sC d) 175 Q 25 [vO 12 a0] [] M G 0 0) : sW (sC d) 175 Q 11 [vO 12 a0] [] M G 0 0 := by
  refine q_aload_n 12 rfl (show sCode 175 11 = some (.aload_n 0, 1) by decide +kernel) rfl (Nat.le_of_ble_eq_true rfl) ?_
  refine q_getR (vA 2 (a0 + 1) 400) 15 rfl (show sCode 175 12 = some (.getfield 7, 3) by decide +kernel) (show sFR (sKo 175).1 7 = some (12, 0) by decide +kernel) (by decide +kernel) (Or.inl (Or.inl rfl)) rfl ?_
  refine q_aload_n 16 rfl (show sCode 175 15 = some (.aload_n 0, 1) by decide +kernel) rfl (Nat.le_of_ble_eq_true rfl) ?_
  refine q_getI 19 rfl (show sCode 175 16 = some (.getfield 99, 3) by decide +kernel) (show sFR (sKo 175).1 99 = some (12, 11) by decide +kernel) (by decide +kernel) (Or.inl (Or.inl rfl)) ?_
  refine q_bald 20 rfl (show sCode 175 19 = some (.baload, 1) by decide +kernel) h1 ?_
  refine q_bipush 22 rfl (show sCode 175 20 = some (.bipush 32, 2) by decide +kernel) ⟨by decide, by decide⟩ (by decide +kernel) ?_
  refine q_icmpne 38 25 rfl (by decide) (show sCode 175 22 = some (.if_icmp .ne 16, 3) by decide +kernel) ?_ ?_
  · intro q; exact k1 q
  · intro q; exact k2 q
theorem b175_25 {d : Nat} {Q : Option sV → sM → sG → Prop} {M : sM} {G : sG} {a0 : Nat} (h1 : sI ((M a0 11) + 1)) (kk : sW (sC d) 175 Q 0 [vO 12 a0] [] (sUpd M a0 11 ((M a0 11) + 1)) G 0 0) : sW (sC d) 175 Q 25 [vO 12 a0] [] M G 0 0 := by
  refine q_aload_n 26 rfl (show sCode 175 25 = some (.aload_n 0, 1) by decide +kernel) rfl (Nat.le_of_ble_eq_true rfl) ?_
  refine q_dup 27 rfl (show sCode 175 26 = some (.dup, 1) by decide +kernel) rfl ?_
  refine q_getI 30 rfl (show sCode 175 27 = some (.getfield 99, 3) by decide +kernel) (show sFR (sKo 175).1 99 = some (12, 11) by decide +kernel) (by decide +kernel) (Or.inl (Or.inl rfl)) ?_
  refine q_iconst 31 rfl (show sCode 175 30 = some (.iconst 1, 1) by decide +kernel) ⟨by decide, by decide⟩ ?_
  refine q_iadd 32 rfl (show sCode 175 31 = some (.iadd, 1) by decide +kernel) h1 ?_
  refine q_putI 35 rfl (show sCode 175 32 = some (.putfield 99, 3) by decide +kernel) (show sFR (sKo 175).1 99 = some (12, 11) by decide +kernel) (by decide +kernel) (Or.inl ⟨Or.inl rfl, by decide +kernel⟩) ?_
  refine q_goto 0 (by decide) (show sCode 175 35 = some (.goto (-35), 3) by decide +kernel) ?_
  exact kk
theorem b175_38 {d : Nat} {Q : Option sV → sM → sG → Prop} {M : sM} {G : sG} {a0 : Nat}  (k1 : M a0 1 ≤ M a0 11 → sW (sC d) 175 Q 65 [vN] [] M G 0 0) (k2 : M a0 11 < M a0 1 → sW (sC d) 175 Q 49 [vO 12 a0] [] M G 0 0) : sW (sC d) 175 Q 38 [vO 12 a0] [] M G 0 0 := by
  refine q_aload_n 39 rfl (show sCode 175 38 = some (.aload_n 0, 1) by decide +kernel) rfl (Nat.le_of_ble_eq_true rfl) ?_
  refine q_getI 42 rfl (show sCode 175 39 = some (.getfield 99, 3) by decide +kernel) (show sFR (sKo 175).1 99 = some (12, 11) by decide +kernel) (by decide +kernel) (Or.inl (Or.inl rfl)) ?_
  refine q_aload_n 43 rfl (show sCode 175 42 = some (.aload_n 0, 1) by decide +kernel) rfl (Nat.le_of_ble_eq_true rfl) ?_
  refine q_getI 46 rfl (show sCode 175 43 = some (.getfield 88, 3) by decide +kernel) (show sFR (sKo 175).1 88 = some (12, 1) by decide +kernel) (by decide +kernel) (Or.inl (Or.inl rfl)) ?_
  refine q_icmpge 65 49 rfl (by decide) (show sCode 175 46 = some (.if_icmp .ge 19, 3) by decide +kernel) ?_ ?_
  · intro q; refine q_forget (L' := [vN]) 0 rfl ?_; exact k1 q
  · intro q; exact k2 q
theorem b175_49 {d : Nat} {Q : Option sV → sM → sG → Prop} {M : sM} {G : sG} {a0 : Nat} (h1 : 0 ≤ M a0 11 ∧ M a0 11 < 400) (kk : sW (sC d) 175 Q 66 [vN] [vI (iAnd (M (a0 + 1) (M a0 11).toNat) 255)] M G 0 0) : sW (sC d) 175 Q 49 [vO 12 a0] [] M G 0 0 := by
  refine q_aload_n 50 rfl (show sCode 175 49 = some (.aload_n 0, 1) by decide +kernel) rfl (Nat.le_of_ble_eq_true rfl) ?_
  refine q_getR (vA 2 (a0 + 1) 400) 53 rfl (show sCode 175 50 = some (.getfield 7, 3) by decide +kernel) (show sFR (sKo 175).1 7 = some (12, 0) by decide +kernel) (by decide +kernel) (Or.inl (Or.inl rfl)) rfl ?_
  refine q_aload_n 54 rfl (show sCode 175 53 = some (.aload_n 0, 1) by decide +kernel) rfl (Nat.le_of_ble_eq_true rfl) ?_
  refine q_getI 57 rfl (show sCode 175 54 = some (.getfield 99, 3) by decide +kernel) (show sFR (sKo 175).1 99 = some (12, 11) by decide +kernel) (by decide +kernel) (Or.inl (Or.inl rfl)) ?_
  refine q_bald 58 rfl (show sCode 175 57 = some (.baload, 1) by decide +kernel) h1 ?_
  refine q_sipush 61 rfl (show sCode 175 58 = some (.sipush 255, 3) by decide +kernel) ⟨by decide, by decide⟩ (by decide +kernel) ?_
  refine q_iand 62 rfl (show sCode 175 61 = some (.iand, 1) by decide +kernel) ?_
  refine q_goto 66 (by decide) (show sCode 175 62 = some (.goto 4, 3) by decide +kernel) ?_
  refine q_forget (L' := [vN]) 0 rfl ?_
  exact kk
theorem b175_65 {d : Nat} {Q : Option sV → sM → sG → Prop} {M : sM} {G : sG}   (kk : sW (sC d) 175 Q 66 [vN] [vI (-1)] M G 0 0) : sW (sC d) 175 Q 65 [vN] [] M G 0 0 := by
  refine q_iconst 66 rfl (show sCode 175 65 = some (.iconst (-1), 1) by decide +kernel) ⟨by decide, by decide⟩ ?_
  exact kk
theorem b175_66 {d : Nat} {P : Int → sM → sG → Prop} {M : sM} {G : sG} {s0 : Int}  (kk : P s0 M G) : sW (sC d) 175 (QI P) 66 [vN] [vI s0] M G 0 0 := by
  exact q_iret (show sCode 175 66 = some (.ireturn, 1) by decide +kernel) (by decide +kernel) (by decide +kernel) kk
-- 176 AfterTheLastModel.isWord (J)Z
theorem b176_0 {d : Nat} {Q : Option sV → sM → sG → Prop} {M : sM} {G : sG} {a0 : Nat} {y1 : Int}  (kk : sC d 175 [vO 12 a0] M G (QI (fun r M1 G1 => sW (sC d) 176 Q 4 [vO 12 a0, vL y1, vN, vN, vN, vN] (vI r :: []) M1 G1 0 0))) : sW (sC d) 176 Q 0 [vO 12 a0, vL y1, vN, vN, vN, vN] [] M G 0 0 := by
  refine q_aload_n 1 rfl (show sCode 176 0 = some (.aload_n 0, 1) by decide +kernel) rfl (Nat.le_of_ble_eq_true rfl) ?_
  exact q_virtI [] 4 rfl (show sCode 176 1 = some (.invokevirtual 102, 3) by decide +kernel) (show sMR (sKo 176).1 102 = some 175 by decide +kernel) (show 175 < 1000 ∧ sStat 175 = false ∧ sIni 175 = false ∧ sKo 175 = (12, 0, 1, 0, 0) by decide +kernel) rfl (Or.inl rfl) rfl (Nat.le_of_ble_eq_true rfl) rfl rfl rfl (by decide +kernel) kk
theorem b176_4 {d : Nat} {Q : Option sV → sM → sG → Prop} {M : sM} {G : sG} {a0 : Nat} {y1 : Int} {s0 : Int}  (kk : sW (sC d) 176 Q 10 [vO 12 a0, vL y1, vN, vL 0, vN, vI 0] [] M G 0 0) : sW (sC d) 176 Q 4 [vO 12 a0, vL y1, vN, vN, vN, vN] [vI s0] M G 0 0 := by
  refine q_pop 5 rfl (show sCode 176 4 = some (.pop, 1) by decide +kernel) rfl ?_
  refine q_lconst 6 rfl (show sCode 176 5 = some (.lconst 0, 1) by decide +kernel) ?_
  refine q_lstore_n [vO 12 a0, vL y1, vN, vL 0, vN, vN] 7 rfl (show sCode 176 6 = some (.lstore_n 3, 1) by decide +kernel) (Nat.lt_of_lt_of_le (Nat.lt_succ_self _) (Nat.le_of_ble_eq_true rfl)) rfl rfl ?_
  refine q_iconst 8 rfl (show sCode 176 7 = some (.iconst 0, 1) by decide +kernel) ⟨by decide, by decide⟩ ?_
  refine q_istore [vO 12 a0, vL y1, vN, vL 0, vN, vI 0] 10 rfl (show sCode 176 8 = some (.istore 5, 2) by decide +kernel) (Nat.lt_of_lt_of_le (Nat.lt_succ_self _) (Nat.le_of_ble_eq_true rfl)) rfl rfl ?_
  exact kk
theorem b176_10 {d : Nat} {Q : Option sV → sM → sG → Prop} {M : sM} {G : sG} {a0 : Nat} {y1 : Int} {y3 : Int} {x5 : Int} (h1 : sI ((M a0 11) + x5)) (kk : sC d 177 [vO 12 a0, vI ((M a0 11) + x5)] M G (QI (fun r M1 G1 => sW (sC d) 176 Q 21 [vO 12 a0, vL y1, vN, vL y3, vN, vI x5] (vI r :: []) M1 G1 0 0))) : sW (sC d) 176 Q 10 [vO 12 a0, vL y1, vN, vL y3, vN, vI x5] [] M G 0 0 := by
  refine q_aload_n 11 rfl (show sCode 176 10 = some (.aload_n 0, 1) by decide +kernel) rfl (Nat.le_of_ble_eq_true rfl) ?_
  refine q_aload_n 12 rfl (show sCode 176 11 = some (.aload_n 0, 1) by decide +kernel) rfl (Nat.le_of_ble_eq_true rfl) ?_
  refine q_getI 15 rfl (show sCode 176 12 = some (.getfield 99, 3) by decide +kernel) (show sFR (sKo 176).1 99 = some (12, 11) by decide +kernel) (by decide +kernel) (Or.inl (Or.inl rfl)) ?_
  refine q_iload 17 rfl (show sCode 176 15 = some (.iload 5, 2) by decide +kernel) rfl ?_
  refine q_iadd 18 rfl (show sCode 176 17 = some (.iadd, 1) by decide +kernel) h1 ?_
  exact q_virtI [vI ((M a0 11) + x5)] 21 rfl (show sCode 176 18 = some (.invokevirtual 106, 3) by decide +kernel) (show sMR (sKo 176).1 106 = some 177 by decide +kernel) (show 177 < 1000 ∧ sStat 177 = false ∧ sIni 177 = false ∧ sKo 177 = (12, 1, 2, 0, 0) by decide +kernel) rfl (Or.inl rfl) rfl (Nat.le_of_ble_eq_true rfl) rfl rfl rfl (by decide +kernel) kk
theorem b176_21 {d : Nat} {Q : Option sV → sM → sG → Prop} {M : sM} {G : sG} {a0 : Nat} {y1 : Int} {y3 : Int} {x5 : Int} {s0 : Int}  (k1 : s0 = 0 → sW (sC d) 176 Q 56 [vN, vL y1, vN, vL y3, vN, vI x5] [] M G 0 0) (k2 : s0 ≠ 0 → sW (sC d) 176 Q 24 [vO 12 a0, vL y1, vN, vL y3, vN, vI x5] [] M G 0 0) : sW (sC d) 176 Q 21 [vO 12 a0, vL y1, vN, vL y3, vN, vI x5] [vI s0] M G 0 0 := by
  refine q_ifeq 56 24 rfl (by decide) (show sCode 176 21 = some (.ifCond .eq 35, 3) by decide +kernel) ?_ ?_
  · intro q; refine q_forget (L' := [vN, vL y1, vN, vL y3, vN, vI x5]) 0 rfl ?_; exact k1 q
  · intro q; exact k2 q
theorem b176_24 {d : Nat} {Q : Option sV → sM → sG → Prop} {M : sM} {G : sG} {a0 : Nat} {y1 : Int} {y3 : Int} {x5 : Int}  (k1 : 8 ≤ x5 → sW (sC d) 176 Q 50 [vO 12 a0, vL y1, vN, vL y3, vN, vI x5] [] M G 0 0) (k2 : x5 < 8 → sW (sC d) 176 Q 31 [vO 12 a0, vL y1, vN, vL y3, vN, vI x5] [] M G 0 0) : sW (sC d) 176 Q 24 [vO 12 a0, vL y1, vN, vL y3, vN, vI x5] [] M G 0 0 := by
  refine q_iload 26 rfl (show sCode 176 24 = some (.iload 5, 2) by decide +kernel) rfl ?_
  refine q_bipush 28 rfl (show sCode 176 26 = some (.bipush 8, 2) by decide +kernel) ⟨by decide, by decide⟩ (by decide +kernel) ?_
  refine q_icmpge 50 31 rfl (by decide) (show sCode 176 28 = some (.if_icmp .ge 22, 3) by decide +kernel) ?_ ?_
  · intro q; exact k1 q
  · intro q; exact k2 q
theorem b176_31 {d : Nat} {Q : Option sV → sM → sG → Prop} {M : sM} {G : sG} {a0 : Nat} {y1 : Int} {y3 : Int} {x5 : Int} (h1 : sI ((M a0 11) + x5)) (h2 : 0 ≤ (M a0 11) + x5 ∧ (M a0 11) + x5 < 400) (kk : sW (sC d) 176 Q 50 [vO 12 a0, vL y1, vN, vL (jOr (jShl y3 8) (M (a0 + 1) ((M a0 11) + x5).toNat)), vN, vI x5] [] M G 0 0) : sW (sC d) 176 Q 31 [vO 12 a0, vL y1, vN, vL y3, vN, vI x5] [] M G 0 0 := by
  refine q_lload_n 32 rfl (show sCode 176 31 = some (.lload_n 3, 1) by decide +kernel) rfl ?_
  refine q_bipush 34 rfl (show sCode 176 32 = some (.bipush 8, 2) by decide +kernel) ⟨by decide, by decide⟩ (by decide +kernel) ?_
  refine q_lshl 35 rfl (show sCode 176 34 = some (.lshl, 1) by decide +kernel) ?_
  refine q_aload_n 36 rfl (show sCode 176 35 = some (.aload_n 0, 1) by decide +kernel) rfl (Nat.le_of_ble_eq_true rfl) ?_
  refine q_getR (vA 2 (a0 + 1) 400) 39 rfl (show sCode 176 36 = some (.getfield 7, 3) by decide +kernel) (show sFR (sKo 176).1 7 = some (12, 0) by decide +kernel) (by decide +kernel) (Or.inl (Or.inl rfl)) rfl ?_
  refine q_aload_n 40 rfl (show sCode 176 39 = some (.aload_n 0, 1) by decide +kernel) rfl (Nat.le_of_ble_eq_true rfl) ?_
  refine q_getI 43 rfl (show sCode 176 40 = some (.getfield 99, 3) by decide +kernel) (show sFR (sKo 176).1 99 = some (12, 11) by decide +kernel) (by decide +kernel) (Or.inl (Or.inl rfl)) ?_
  refine q_iload 45 rfl (show sCode 176 43 = some (.iload 5, 2) by decide +kernel) rfl ?_
  refine q_iadd 46 rfl (show sCode 176 45 = some (.iadd, 1) by decide +kernel) h1 ?_
  refine q_bald 47 rfl (show sCode 176 46 = some (.baload, 1) by decide +kernel) h2 ?_
  refine q_i2l 48 rfl (show sCode 176 47 = some (.i2l, 1) by decide +kernel) ?_
  refine q_lor 49 rfl (show sCode 176 48 = some (.lor, 1) by decide +kernel) ?_
  refine q_lstore_n [vO 12 a0, vL y1, vN, vL (jOr (jShl y3 8) (M (a0 + 1) ((M a0 11) + x5).toNat)), vN, vI x5] 50 rfl (show sCode 176 49 = some (.lstore_n 3, 1) by decide +kernel) (Nat.lt_of_lt_of_le (Nat.lt_succ_self _) (Nat.le_of_ble_eq_true rfl)) rfl rfl ?_
  exact kk
theorem b176_50 {d : Nat} {Q : Option sV → sM → sG → Prop} {M : sM} {G : sG} {a0 : Nat} {y1 : Int} {y3 : Int} {x5 : Int} (h1 : sI (x5 + 1)) (kk : sW (sC d) 176 Q 10 [vO 12 a0, vL y1, vN, vL y3, vN, vI (x5 + 1)] [] M G 0 0) : sW (sC d) 176 Q 50 [vO 12 a0, vL y1, vN, vL y3, vN, vI x5] [] M G 0 0 := by
  refine q_iinc [vO 12 a0, vL y1, vN, vL y3, vN, vI (x5 + 1)] 53 rfl (show sCode 176 50 = some (.iinc 5 1, 3) by decide +kernel) rfl rfl h1 rfl ?_
  refine q_goto 10 (by decide) (show sCode 176 53 = some (.goto (-43), 3) by decide +kernel) ?_
  exact kk
theorem b176_56 {d : Nat} {Q : Option sV → sM → sG → Prop} {M : sM} {G : sG} {y1 : Int} {y3 : Int} {x5 : Int}  (k1 : x5 ≤ 0 → sW (sC d) 176 Q 78 [vN, vN, vN, vN, vN, vN] [] M G 0 0) (k2 : 0 < x5 → sW (sC d) 176 Q 61 [vN, vL y1, vN, vL y3, vN, vI x5] [] M G 0 0) : sW (sC d) 176 Q 56 [vN, vL y1, vN, vL y3, vN, vI x5] [] M G 0 0 := by
  refine q_iload 58 rfl (show sCode 176 56 = some (.iload 5, 2) by decide +kernel) rfl ?_
  refine q_ifle 78 61 rfl (by decide) (show sCode 176 58 = some (.ifCond .le 20, 3) by decide +kernel) ?_ ?_
  · intro q; refine q_forget (L' := [vN, vN, vN, vL y3, vN, vI x5]) 1 rfl ?_; refine q_forget (L' := [vN, vN, vN, vN, vN, vI x5]) 3 rfl ?_; refine q_forget (L' := [vN, vN, vN, vN, vN, vN]) 5 rfl ?_; exact k1 q
  · intro q; exact k2 q
theorem b176_61 {d : Nat} {Q : Option sV → sM → sG → Prop} {M : sM} {G : sG} {y1 : Int} {y3 : Int} {x5 : Int}  (k1 : 8 ≤ x5 → sW (sC d) 176 Q 78 [vN, vN, vN, vN, vN, vN] [] M G 0 0) (k2 : x5 < 8 → sW (sC d) 176 Q 68 [vN, vL y1, vN, vL y3, vN, vN] [] M G 0 0) : sW (sC d) 176 Q 61 [vN, vL y1, vN, vL y3, vN, vI x5] [] M G 0 0 := by
  refine q_iload 63 rfl (show sCode 176 61 = some (.iload 5, 2) by decide +kernel) rfl ?_
  refine q_bipush 65 rfl (show sCode 176 63 = some (.bipush 8, 2) by decide +kernel) ⟨by decide, by decide⟩ (by decide +kernel) ?_
  refine q_icmpge 78 68 rfl (by decide) (show sCode 176 65 = some (.if_icmp .ge 13, 3) by decide +kernel) ?_ ?_
  · intro q; refine q_forget (L' := [vN, vN, vN, vL y3, vN, vI x5]) 1 rfl ?_; refine q_forget (L' := [vN, vN, vN, vN, vN, vI x5]) 3 rfl ?_; refine q_forget (L' := [vN, vN, vN, vN, vN, vN]) 5 rfl ?_; exact k1 q
  · intro q; refine q_forget (L' := [vN, vL y1, vN, vL y3, vN, vN]) 5 rfl ?_; exact k2 q
theorem b176_68 {d : Nat} {Q : Option sV → sM → sG → Prop} {M : sM} {G : sG} {y1 : Int} {y3 : Int}  (k1 : y3 ≠ y1 → sW (sC d) 176 Q 78 [vN, vN, vN, vN, vN, vN] [] M G 0 0) (k2 : y3 = y1 → sW (sC d) 176 Q 74 [vN, vN, vN, vN, vN, vN] [] M G 0 0) : sW (sC d) 176 Q 68 [vN, vL y1, vN, vL y3, vN, vN] [] M G 0 0 := by
  refine q_lload_n 69 rfl (show sCode 176 68 = some (.lload_n 3, 1) by decide +kernel) rfl ?_
  refine q_lload_n 70 rfl (show sCode 176 69 = some (.lload_n 1, 1) by decide +kernel) rfl ?_
  refine q_lifne (off := 7) 78 74 rfl (by decide) (show sCode 176 70 = some (.lcmp, 1) by decide +kernel) (by decide +kernel) ?_ ?_
  · intro q; refine q_forget (L' := [vN, vN, vN, vL y3, vN, vN]) 1 rfl ?_; refine q_forget (L' := [vN, vN, vN, vN, vN, vN]) 3 rfl ?_; exact k1 q
  · intro q; refine q_forget (L' := [vN, vN, vN, vL y3, vN, vN]) 1 rfl ?_; refine q_forget (L' := [vN, vN, vN, vN, vN, vN]) 3 rfl ?_; exact k2 q
theorem b176_74 {d : Nat} {Q : Option sV → sM → sG → Prop} {M : sM} {G : sG}   (kk : sW (sC d) 176 Q 79 [vN, vN, vN, vN, vN, vN] [vI 1] M G 0 0) : sW (sC d) 176 Q 74 [vN, vN, vN, vN, vN, vN] [] M G 0 0 := by
  refine q_iconst 75 rfl (show sCode 176 74 = some (.iconst 1, 1) by decide +kernel) ⟨by decide, by decide⟩ ?_
  refine q_goto 79 (by decide) (show sCode 176 75 = some (.goto 4, 3) by decide +kernel) ?_
  exact kk
theorem b176_78 {d : Nat} {Q : Option sV → sM → sG → Prop} {M : sM} {G : sG}   (kk : sW (sC d) 176 Q 79 [vN, vN, vN, vN, vN, vN] [vI 0] M G 0 0) : sW (sC d) 176 Q 78 [vN, vN, vN, vN, vN, vN] [] M G 0 0 := by
  refine q_iconst 79 rfl (show sCode 176 78 = some (.iconst 0, 1) by decide +kernel) ⟨by decide, by decide⟩ ?_
  exact kk
theorem b176_79 {d : Nat} {P : Int → sM → sG → Prop} {M : sM} {G : sG} {s0 : Int}  (h01 : s0 = 0 ∨ s0 = 1) (kk : P s0 M G) : sW (sC d) 176 (QI P) 79 [vN, vN, vN, vN, vN, vN] [vI s0] M G 0 0 := by
  exact q_zret (show sCode 176 79 = some (.ireturn, 1) by decide +kernel) (by decide +kernel) h01 (by decide +kernel) kk
-- 177 AfterTheLastModel.isLetter (I)Z
theorem b177_0 {d : Nat} {Q : Option sV → sM → sG → Prop} {M : sM} {G : sG} {a0 : Nat} {x1 : Int}  (k1 : M a0 1 ≤ x1 → sW (sC d) 177 Q 34 [vN, vN] [] M G 0 0) (k2 : x1 < M a0 1 → sW (sC d) 177 Q 8 [vO 12 a0, vI x1] [] M G 0 0) : sW (sC d) 177 Q 0 [vO 12 a0, vI x1] [] M G 0 0 := by
  refine q_iload_n 1 rfl (show sCode 177 0 = some (.iload_n 1, 1) by decide +kernel) rfl ?_
  refine q_aload_n 2 rfl (show sCode 177 1 = some (.aload_n 0, 1) by decide +kernel) rfl (Nat.le_of_ble_eq_true rfl) ?_
  refine q_getI 5 rfl (show sCode 177 2 = some (.getfield 88, 3) by decide +kernel) (show sFR (sKo 177).1 88 = some (12, 1) by decide +kernel) (by decide +kernel) (Or.inl (Or.inl rfl)) ?_
  refine q_icmpge 34 8 rfl (by decide) (show sCode 177 5 = some (.if_icmp .ge 29, 3) by decide +kernel) ?_ ?_
  · intro q; refine q_forget (L' := [vN, vI x1]) 0 rfl ?_; refine q_forget (L' := [vN, vN]) 1 rfl ?_; exact k1 q
  · intro q; exact k2 q
theorem b177_8 {d : Nat} {Q : Option sV → sM → sG → Prop} {M : sM} {G : sG} {a0 : Nat} {x1 : Int} (h1 : 0 ≤ x1 ∧ x1 < 400) (k1 : M (a0 + 1) x1.toNat < 97 → sW (sC d) 177 Q 34 [vN, vN] [] M G 0 0) (k2 : 97 ≤ M (a0 + 1) x1.toNat → sW (sC d) 177 Q 19 [vO 12 a0, vI x1] [] M G 0 0) : sW (sC d) 177 Q 8 [vO 12 a0, vI x1] [] M G 0 0 := by
  refine q_aload_n 9 rfl (show sCode 177 8 = some (.aload_n 0, 1) by decide +kernel) rfl (Nat.le_of_ble_eq_true rfl) ?_
  refine q_getR (vA 2 (a0 + 1) 400) 12 rfl (show sCode 177 9 = some (.getfield 7, 3) by decide +kernel) (show sFR (sKo 177).1 7 = some (12, 0) by decide +kernel) (by decide +kernel) (Or.inl (Or.inl rfl)) rfl ?_
  refine q_iload_n 13 rfl (show sCode 177 12 = some (.iload_n 1, 1) by decide +kernel) rfl ?_
  refine q_bald 14 rfl (show sCode 177 13 = some (.baload, 1) by decide +kernel) h1 ?_
  refine q_bipush 16 rfl (show sCode 177 14 = some (.bipush 97, 2) by decide +kernel) ⟨by decide, by decide⟩ (by decide +kernel) ?_
  refine q_icmplt 34 19 rfl (by decide) (show sCode 177 16 = some (.if_icmp .lt 18, 3) by decide +kernel) ?_ ?_
  · intro q; refine q_forget (L' := [vN, vI x1]) 0 rfl ?_; refine q_forget (L' := [vN, vN]) 1 rfl ?_; exact k1 q
  · intro q; exact k2 q
theorem b177_19 {d : Nat} {Q : Option sV → sM → sG → Prop} {M : sM} {G : sG} {a0 : Nat} {x1 : Int} (h1 : 0 ≤ x1 ∧ x1 < 400) (k1 : 122 < M (a0 + 1) x1.toNat → sW (sC d) 177 Q 34 [vN, vN] [] M G 0 0) (k2 : M (a0 + 1) x1.toNat ≤ 122 → sW (sC d) 177 Q 30 [vN, vN] [] M G 0 0) : sW (sC d) 177 Q 19 [vO 12 a0, vI x1] [] M G 0 0 := by
  refine q_aload_n 20 rfl (show sCode 177 19 = some (.aload_n 0, 1) by decide +kernel) rfl (Nat.le_of_ble_eq_true rfl) ?_
  refine q_getR (vA 2 (a0 + 1) 400) 23 rfl (show sCode 177 20 = some (.getfield 7, 3) by decide +kernel) (show sFR (sKo 177).1 7 = some (12, 0) by decide +kernel) (by decide +kernel) (Or.inl (Or.inl rfl)) rfl ?_
  refine q_iload_n 24 rfl (show sCode 177 23 = some (.iload_n 1, 1) by decide +kernel) rfl ?_
  refine q_bald 25 rfl (show sCode 177 24 = some (.baload, 1) by decide +kernel) h1 ?_
  refine q_bipush 27 rfl (show sCode 177 25 = some (.bipush 122, 2) by decide +kernel) ⟨by decide, by decide⟩ (by decide +kernel) ?_
  refine q_icmpgt 34 30 rfl (by decide) (show sCode 177 27 = some (.if_icmp .gt 7, 3) by decide +kernel) ?_ ?_
  · intro q; refine q_forget (L' := [vN, vI x1]) 0 rfl ?_; refine q_forget (L' := [vN, vN]) 1 rfl ?_; exact k1 q
  · intro q; refine q_forget (L' := [vN, vI x1]) 0 rfl ?_; refine q_forget (L' := [vN, vN]) 1 rfl ?_; exact k2 q
theorem b177_30 {d : Nat} {Q : Option sV → sM → sG → Prop} {M : sM} {G : sG}   (kk : sW (sC d) 177 Q 35 [vN, vN] [vI 1] M G 0 0) : sW (sC d) 177 Q 30 [vN, vN] [] M G 0 0 := by
  refine q_iconst 31 rfl (show sCode 177 30 = some (.iconst 1, 1) by decide +kernel) ⟨by decide, by decide⟩ ?_
  refine q_goto 35 (by decide) (show sCode 177 31 = some (.goto 4, 3) by decide +kernel) ?_
  exact kk
theorem b177_34 {d : Nat} {Q : Option sV → sM → sG → Prop} {M : sM} {G : sG}   (kk : sW (sC d) 177 Q 35 [vN, vN] [vI 0] M G 0 0) : sW (sC d) 177 Q 34 [vN, vN] [] M G 0 0 := by
  refine q_iconst 35 rfl (show sCode 177 34 = some (.iconst 0, 1) by decide +kernel) ⟨by decide, by decide⟩ ?_
  exact kk
theorem b177_35 {d : Nat} {P : Int → sM → sG → Prop} {M : sM} {G : sG} {s0 : Int}  (h01 : s0 = 0 ∨ s0 = 1) (kk : P s0 M G) : sW (sC d) 177 (QI P) 35 [vN, vN] [vI s0] M G 0 0 := by
  exact q_zret (show sCode 177 35 = some (.ireturn, 1) by decide +kernel) (by decide +kernel) h01 (by decide +kernel) kk
-- 178 AfterTheLastModel.fails (II)Z
theorem b178_0 {d : Nat} {Q : Option sV → sM → sG → Prop} {M : sM} {G : sG} {a0 : Nat} {x1 : Int} {x2 : Int}  (k1 : M a0 12 ≠ 0 → sW (sC d) 178 Q 19 [vN, vN, vN] [] M G 0 0) (k2 : M a0 12 = 0 → sW (sC d) 178 Q 7 [vO 12 a0, vI x1, vI x2] [] M G 0 0) : sW (sC d) 178 Q 0 [vO 12 a0, vI x1, vI x2] [] M G 0 0 := by
  refine q_aload_n 1 rfl (show sCode 178 0 = some (.aload_n 0, 1) by decide +kernel) rfl (Nat.le_of_ble_eq_true rfl) ?_
  refine q_getI 4 rfl (show sCode 178 1 = some (.getfield 96, 3) by decide +kernel) (show sFR (sKo 178).1 96 = some (12, 12) by decide +kernel) (by decide +kernel) (Or.inl (Or.inl rfl)) ?_
  refine q_ifne 19 7 rfl (by decide) (show sCode 178 4 = some (.ifCond .ne 15, 3) by decide +kernel) ?_ ?_
  · intro q; refine q_forget (L' := [vN, vI x1, vI x2]) 0 rfl ?_; refine q_forget (L' := [vN, vN, vI x2]) 1 rfl ?_; refine q_forget (L' := [vN, vN, vN]) 2 rfl ?_; exact k1 q
  · intro q; exact k2 q
theorem b178_7 {d : Nat} {Q : Option sV → sM → sG → Prop} {M : sM} {G : sG} {a0 : Nat} {x1 : Int} {x2 : Int} (h1 : sI (8 * x2)) (h2 : sI (1 + (8 * x2))) (h3 : sI ((1 + (8 * x2)) + x1)) (kk : sW (sC d) 178 Q 19 [vN, vN, vN] [] (sUpd M a0 12 ((1 + (8 * x2)) + x1)) G 0 0) : sW (sC d) 178 Q 7 [vO 12 a0, vI x1, vI x2] [] M G 0 0 := by
  refine q_aload_n 8 rfl (show sCode 178 7 = some (.aload_n 0, 1) by decide +kernel) rfl (Nat.le_of_ble_eq_true rfl) ?_
  refine q_iconst 9 rfl (show sCode 178 8 = some (.iconst 1, 1) by decide +kernel) ⟨by decide, by decide⟩ ?_
  refine q_bipush 11 rfl (show sCode 178 9 = some (.bipush 8, 2) by decide +kernel) ⟨by decide, by decide⟩ (by decide +kernel) ?_
  refine q_iload_n 12 rfl (show sCode 178 11 = some (.iload_n 2, 1) by decide +kernel) rfl ?_
  refine q_imul 13 rfl (show sCode 178 12 = some (.imul, 1) by decide +kernel) h1 ?_
  refine q_iadd 14 rfl (show sCode 178 13 = some (.iadd, 1) by decide +kernel) h2 ?_
  refine q_iload_n 15 rfl (show sCode 178 14 = some (.iload_n 1, 1) by decide +kernel) rfl ?_
  refine q_iadd 16 rfl (show sCode 178 15 = some (.iadd, 1) by decide +kernel) h3 ?_
  refine q_putI 19 rfl (show sCode 178 16 = some (.putfield 96, 3) by decide +kernel) (show sFR (sKo 178).1 96 = some (12, 12) by decide +kernel) (by decide +kernel) (Or.inl ⟨Or.inl rfl, by decide +kernel⟩) ?_
  refine q_forget (L' := [vN, vI x1, vI x2]) 0 rfl ?_
  refine q_forget (L' := [vN, vN, vI x2]) 1 rfl ?_
  refine q_forget (L' := [vN, vN, vN]) 2 rfl ?_
  exact kk
theorem b178_19 {d : Nat} {P : Int → sM → sG → Prop} {M : sM} {G : sG}   (kk : P 0 M G) : sW (sC d) 178 (QI P) 19 [vN, vN, vN] [] M G 0 0 := by
  refine q_iconst 20 rfl (show sCode 178 19 = some (.iconst 0, 1) by decide +kernel) ⟨by decide, by decide⟩ ?_
  exact q_zret (show sCode 178 20 = some (.ireturn, 1) by decide +kernel) (by decide +kernel) (by decide) (by decide +kernel) kk
-- 179 AfterTheLastModel.isHouseHere (I)Z
theorem b179_0 {d : Nat} {Q : Option sV → sM → sG → Prop} {M : sM} {G : sG} {a0 : Nat} {x1 : Int}  (k1 : M a0 7 ≠ 6 → sW (sC d) 179 Q 16 [vO 12 a0, vN, vN] [] M G 0 0) (k2 : M a0 7 = 6 → sW (sC d) 179 Q 9 [vO 12 a0, vI x1, vN] [] M G 0 0) : sW (sC d) 179 Q 0 [vO 12 a0, vI x1, vN] [] M G 0 0 := by
  refine q_aload_n 1 rfl (show sCode 179 0 = some (.aload_n 0, 1) by decide +kernel) rfl (Nat.le_of_ble_eq_true rfl) ?_
  refine q_getI 4 rfl (show sCode 179 1 = some (.getfield 217, 3) by decide +kernel) (show sFR (sKo 179).1 217 = some (12, 7) by decide +kernel) (by decide +kernel) (Or.inl (Or.inl rfl)) ?_
  refine q_bipush 6 rfl (show sCode 179 4 = some (.bipush 6, 2) by decide +kernel) ⟨by decide, by decide⟩ (by decide +kernel) ?_
  refine q_icmpne 16 9 rfl (by decide) (show sCode 179 6 = some (.if_icmp .ne 10, 3) by decide +kernel) ?_ ?_
  · intro q; refine q_forget (L' := [vO 12 a0, vN, vN]) 1 rfl ?_; exact k1 q
  · intro q; exact k2 q
theorem b179_9 {d : Nat} {Q : Option sV → sM → sG → Prop} {M : sM} {G : sG} {a0 : Nat} {x1 : Int}  (kk : sC d 178 [vO 12 a0, vI 4, vI x1] M G (QI (fun r M1 G1 => sW (sC d) 179 Q 15 [vN, vN, vN] (vI r :: []) M1 G1 0 0))) : sW (sC d) 179 Q 9 [vO 12 a0, vI x1, vN] [] M G 0 0 := by
  refine q_aload_n 10 rfl (show sCode 179 9 = some (.aload_n 0, 1) by decide +kernel) rfl (Nat.le_of_ble_eq_true rfl) ?_
  refine q_iconst 11 rfl (show sCode 179 10 = some (.iconst 4, 1) by decide +kernel) ⟨by decide, by decide⟩ ?_
  refine q_iload_n 12 rfl (show sCode 179 11 = some (.iload_n 1, 1) by decide +kernel) rfl ?_
  refine q_forget (L' := [vN, vI x1, vN]) 0 rfl ?_
  refine q_forget (L' := [vN, vN, vN]) 1 rfl ?_
  exact q_virtI [vI 4, vI x1] 15 rfl (show sCode 179 12 = some (.invokevirtual 120, 3) by decide +kernel) (show sMR (sKo 179).1 120 = some 178 by decide +kernel) (show 178 < 1000 ∧ sStat 178 = false ∧ sIni 178 = false ∧ sKo 178 = (12, 2, 2, 0, 0) by decide +kernel) rfl (Or.inl rfl) rfl (Nat.le_of_ble_eq_true rfl) rfl rfl rfl (by decide +kernel) kk
theorem b179_15 {d : Nat} {P : Int → sM → sG → Prop} {M : sM} {G : sG} {s0 : Int}  (h01 : s0 = 0 ∨ s0 = 1) (kk : P s0 M G) : sW (sC d) 179 (QI P) 15 [vN, vN, vN] [vI s0] M G 0 0 := by
  exact q_zret (show sCode 179 15 = some (.ireturn, 1) by decide +kernel) (by decide +kernel) h01 (by decide +kernel) kk
theorem b179_16 {d : Nat} {Q : Option sV → sM → sG → Prop} {M : sM} {G : sG} {a0 : Nat}  (kk : sC d 180 [vO 12 a0] M G (QV (fun M1 G1 => sW (sC d) 179 Q 20 [vO 12 a0, vN, vN] [] M1 G1 0 0))) : sW (sC d) 179 Q 16 [vO 12 a0, vN, vN] [] M G 0 0 := by
  refine q_aload_n 17 rfl (show sCode 179 16 = some (.aload_n 0, 1) by decide +kernel) rfl (Nat.le_of_ble_eq_true rfl) ?_
  exact q_virtV [] 20 rfl (show sCode 179 17 = some (.invokevirtual 114, 3) by decide +kernel) (show sMR (sKo 179).1 114 = some 180 by decide +kernel) (show 180 < 1000 ∧ sStat 180 = false ∧ sIni 180 = false ∧ sKo 180 = (12, 0, 0, 0, 0) by decide +kernel) rfl (Or.inl rfl) rfl (Nat.le_of_ble_eq_true rfl) rfl rfl rfl (by decide +kernel) kk
theorem b179_20 {d : Nat} {Q : Option sV → sM → sG → Prop} {M : sM} {G : sG} {a0 : Nat}  (kk : sC d 175 [vO 12 a0] M G (QI (fun r M1 G1 => sW (sC d) 179 Q 24 [vO 12 a0, vN, vN] (vI r :: []) M1 G1 0 0))) : sW (sC d) 179 Q 20 [vO 12 a0, vN, vN] [] M G 0 0 := by
  refine q_aload_n 21 rfl (show sCode 179 20 = some (.aload_n 0, 1) by decide +kernel) rfl (Nat.le_of_ble_eq_true rfl) ?_
  exact q_virtI [] 24 rfl (show sCode 179 21 = some (.invokevirtual 102, 3) by decide +kernel) (show sMR (sKo 179).1 102 = some 175 by decide +kernel) (show 175 < 1000 ∧ sStat 175 = false ∧ sIni 175 = false ∧ sKo 175 = (12, 0, 1, 0, 0) by decide +kernel) rfl (Or.inl rfl) rfl (Nat.le_of_ble_eq_true rfl) rfl rfl rfl (by decide +kernel) kk
theorem b179_24 {d : Nat} {Q : Option sV → sM → sG → Prop} {M : sM} {G : sG} {a0 : Nat} {s0 : Int}  (kk : sC d 176 [vO 12 a0, vL 1818325876] M G (QI (fun r M1 G1 => sW (sC d) 179 Q 32 [vO 12 a0, vN, vN] (vI r :: []) M1 G1 0 0))) : sW (sC d) 179 Q 24 [vO 12 a0, vN, vN] [vI s0] M G 0 0 := by
  refine q_pop 25 rfl (show sCode 179 24 = some (.pop, 1) by decide +kernel) rfl ?_
  refine q_aload_n 26 rfl (show sCode 179 25 = some (.aload_n 0, 1) by decide +kernel) rfl (Nat.le_of_ble_eq_true rfl) ?_
  refine q_ldc2_w 29 rfl (show sCode 179 26 = some (.ldc2_w 220, 3) by decide +kernel) (show sLR (sKo 179).1 220 = some 1818325876 by decide +kernel) ⟨by decide, by decide⟩ ?_
  exact q_virtI [vL 1818325876] 32 rfl (show sCode 179 29 = some (.invokevirtual 110, 3) by decide +kernel) (show sMR (sKo 179).1 110 = some 176 by decide +kernel) (show 176 < 1000 ∧ sStat 176 = false ∧ sIni 176 = false ∧ sKo 176 = (12, 1, 2, 0, 0) by decide +kernel) rfl (Or.inl rfl) rfl (Nat.le_of_ble_eq_true rfl) rfl rfl rfl (by decide +kernel) kk
theorem b179_32 {d : Nat} {Q : Option sV → sM → sG → Prop} {M : sM} {G : sG} {a0 : Nat} {s0 : Int}  (k1 : s0 = 0 → sW (sC d) 179 Q 39 [vO 12 a0, vN, vN] [] M G 0 0) (k2 : s0 ≠ 0 → sW (sC d) 179 Q 35 [vO 12 a0, vN, vN] [] M G 0 0) : sW (sC d) 179 Q 32 [vO 12 a0, vN, vN] [vI s0] M G 0 0 := by
  refine q_ifeq 39 35 rfl (by decide) (show sCode 179 32 = some (.ifCond .eq 7, 3) by decide +kernel) ?_ ?_
  · intro q; exact k1 q
  · intro q; exact k2 q
theorem b179_35 {d : Nat} {Q : Option sV → sM → sG → Prop} {M : sM} {G : sG} {a0 : Nat}  (kk : sW (sC d) 179 Q 68 [vO 12 a0, vN, vN] [vI 0] M G 0 0) : sW (sC d) 179 Q 35 [vO 12 a0, vN, vN] [] M G 0 0 := by
  refine q_iconst 36 rfl (show sCode 179 35 = some (.iconst 0, 1) by decide +kernel) ⟨by decide, by decide⟩ ?_
  refine q_goto 68 (by decide) (show sCode 179 36 = some (.goto 32, 3) by decide +kernel) ?_
  exact kk
theorem b179_39 {d : Nat} {Q : Option sV → sM → sG → Prop} {M : sM} {G : sG} {a0 : Nat}  (kk : sC d 176 [vO 12 a0, vL 439855772532] M G (QI (fun r M1 G1 => sW (sC d) 179 Q 46 [vO 12 a0, vN, vN] (vI r :: []) M1 G1 0 0))) : sW (sC d) 179 Q 39 [vO 12 a0, vN, vN] [] M G 0 0 := by
  refine q_aload_n 40 rfl (show sCode 179 39 = some (.aload_n 0, 1) by decide +kernel) rfl (Nat.le_of_ble_eq_true rfl) ?_
  refine q_ldc2_w 43 rfl (show sCode 179 40 = some (.ldc2_w 222, 3) by decide +kernel) (show sLR (sKo 179).1 222 = some 439855772532 by decide +kernel) ⟨by decide, by decide⟩ ?_
  exact q_virtI [vL 439855772532] 46 rfl (show sCode 179 43 = some (.invokevirtual 110, 3) by decide +kernel) (show sMR (sKo 179).1 110 = some 176 by decide +kernel) (show 176 < 1000 ∧ sStat 176 = false ∧ sIni 176 = false ∧ sKo 176 = (12, 1, 2, 0, 0) by decide +kernel) rfl (Or.inl rfl) rfl (Nat.le_of_ble_eq_true rfl) rfl rfl rfl (by decide +kernel) kk
theorem b179_46 {d : Nat} {Q : Option sV → sM → sG → Prop} {M : sM} {G : sG} {a0 : Nat} {s0 : Int}  (k1 : s0 = 0 → sW (sC d) 179 Q 53 [vO 12 a0, vN, vN] [] M G 0 0) (k2 : s0 ≠ 0 → sW (sC d) 179 Q 49 [vO 12 a0, vN, vN] [] M G 0 0) : sW (sC d) 179 Q 46 [vO 12 a0, vN, vN] [vI s0] M G 0 0 := by
  refine q_ifeq 53 49 rfl (by decide) (show sCode 179 46 = some (.ifCond .eq 7, 3) by decide +kernel) ?_ ?_
  · intro q; exact k1 q
  · intro q; exact k2 q
theorem b179_49 {d : Nat} {Q : Option sV → sM → sG → Prop} {M : sM} {G : sG} {a0 : Nat}  (kk : sW (sC d) 179 Q 68 [vO 12 a0, vN, vN] [vI 1] M G 0 0) : sW (sC d) 179 Q 49 [vO 12 a0, vN, vN] [] M G 0 0 := by
  refine q_iconst 50 rfl (show sCode 179 49 = some (.iconst 1, 1) by decide +kernel) ⟨by decide, by decide⟩ ?_
  refine q_goto 68 (by decide) (show sCode 179 50 = some (.goto 18, 3) by decide +kernel) ?_
  exact kk
theorem b179_53 {d : Nat} {Q : Option sV → sM → sG → Prop} {M : sM} {G : sG} {a0 : Nat}  (kk : sC d 176 [vO 12 a0, vL 1718773093] M G (QI (fun r M1 G1 => sW (sC d) 179 Q 60 [vO 12 a0, vN, vN] (vI r :: []) M1 G1 0 0))) : sW (sC d) 179 Q 53 [vO 12 a0, vN, vN] [] M G 0 0 := by
  refine q_aload_n 54 rfl (show sCode 179 53 = some (.aload_n 0, 1) by decide +kernel) rfl (Nat.le_of_ble_eq_true rfl) ?_
  refine q_ldc2_w 57 rfl (show sCode 179 54 = some (.ldc2_w 224, 3) by decide +kernel) (show sLR (sKo 179).1 224 = some 1718773093 by decide +kernel) ⟨by decide, by decide⟩ ?_
  exact q_virtI [vL 1718773093] 60 rfl (show sCode 179 57 = some (.invokevirtual 110, 3) by decide +kernel) (show sMR (sKo 179).1 110 = some 176 by decide +kernel) (show 176 < 1000 ∧ sStat 176 = false ∧ sIni 176 = false ∧ sKo 176 = (12, 1, 2, 0, 0) by decide +kernel) rfl (Or.inl rfl) rfl (Nat.le_of_ble_eq_true rfl) rfl rfl rfl (by decide +kernel) kk
theorem b179_60 {d : Nat} {Q : Option sV → sM → sG → Prop} {M : sM} {G : sG} {a0 : Nat} {s0 : Int}  (k1 : s0 = 0 → sW (sC d) 179 Q 67 [vO 12 a0, vN, vN] [] M G 0 0) (k2 : s0 ≠ 0 → sW (sC d) 179 Q 63 [vO 12 a0, vN, vN] [] M G 0 0) : sW (sC d) 179 Q 60 [vO 12 a0, vN, vN] [vI s0] M G 0 0 := by
  refine q_ifeq 67 63 rfl (by decide) (show sCode 179 60 = some (.ifCond .eq 7, 3) by decide +kernel) ?_ ?_
  · intro q; exact k1 q
  · intro q; exact k2 q
theorem b179_63 {d : Nat} {Q : Option sV → sM → sG → Prop} {M : sM} {G : sG} {a0 : Nat}  (kk : sW (sC d) 179 Q 68 [vO 12 a0, vN, vN] [vI 2] M G 0 0) : sW (sC d) 179 Q 63 [vO 12 a0, vN, vN] [] M G 0 0 := by
  refine q_iconst 64 rfl (show sCode 179 63 = some (.iconst 2, 1) by decide +kernel) ⟨by decide, by decide⟩ ?_
  refine q_goto 68 (by decide) (show sCode 179 64 = some (.goto 4, 3) by decide +kernel) ?_
  exact kk
theorem b179_67 {d : Nat} {Q : Option sV → sM → sG → Prop} {M : sM} {G : sG} {a0 : Nat}  (kk : sW (sC d) 179 Q 68 [vO 12 a0, vN, vN] [vI (-1)] M G 0 0) : sW (sC d) 179 Q 67 [vO 12 a0, vN, vN] [] M G 0 0 := by
  refine q_iconst 68 rfl (show sCode 179 67 = some (.iconst (-1), 1) by decide +kernel) ⟨by decide, by decide⟩ ?_
  exact kk
theorem b179_68 {d : Nat} {Q : Option sV → sM → sG → Prop} {M : sM} {G : sG} {a0 : Nat} {s0 : Int}  (k1 : 0 ≤ s0 → sW (sC d) 179 Q 83 [vO 12 a0, vN, vI s0] [] M G 0 0) (k2 : s0 < 0 → sW (sC d) 179 Q 73 [vO 12 a0, vN, vN] [] M G 0 0) : sW (sC d) 179 Q 68 [vO 12 a0, vN, vN] [vI s0] M G 0 0 := by
  refine q_istore_n [vO 12 a0, vN, vI s0] 69 rfl (show sCode 179 68 = some (.istore_n 2, 1) by decide +kernel) (Nat.lt_of_lt_of_le (Nat.lt_succ_self _) (Nat.le_of_ble_eq_true rfl)) rfl rfl ?_
  refine q_iload_n 70 rfl (show sCode 179 69 = some (.iload_n 2, 1) by decide +kernel) rfl ?_
  refine q_ifge 83 73 rfl (by decide) (show sCode 179 70 = some (.ifCond .ge 13, 3) by decide +kernel) ?_ ?_
  · intro q; exact k1 q
  · intro q; refine q_forget (L' := [vO 12 a0, vN, vN]) 2 rfl ?_; exact k2 q
theorem b179_73 {d : Nat} {Q : Option sV → sM → sG → Prop} {M : sM} {G : sG} {a0 : Nat}  (kk : sC d 178 [vO 12 a0, vI 0, vI (M a0 11)] M G (QI (fun r M1 G1 => sW (sC d) 179 Q 82 [vN, vN, vN] (vI r :: []) M1 G1 0 0))) : sW (sC d) 179 Q 73 [vO 12 a0, vN, vN] [] M G 0 0 := by
  refine q_aload_n 74 rfl (show sCode 179 73 = some (.aload_n 0, 1) by decide +kernel) rfl (Nat.le_of_ble_eq_true rfl) ?_
  refine q_iconst 75 rfl (show sCode 179 74 = some (.iconst 0, 1) by decide +kernel) ⟨by decide, by decide⟩ ?_
  refine q_aload_n 76 rfl (show sCode 179 75 = some (.aload_n 0, 1) by decide +kernel) rfl (Nat.le_of_ble_eq_true rfl) ?_
  refine q_getI 79 rfl (show sCode 179 76 = some (.getfield 99, 3) by decide +kernel) (show sFR (sKo 179).1 99 = some (12, 11) by decide +kernel) (by decide +kernel) (Or.inl (Or.inl rfl)) ?_
  refine q_forget (L' := [vN, vN, vN]) 0 rfl ?_
  exact q_virtI [vI 0, vI (M a0 11)] 82 rfl (show sCode 179 79 = some (.invokevirtual 120, 3) by decide +kernel) (show sMR (sKo 179).1 120 = some 178 by decide +kernel) (show 178 < 1000 ∧ sStat 178 = false ∧ sIni 178 = false ∧ sKo 178 = (12, 2, 2, 0, 0) by decide +kernel) rfl (Or.inl rfl) rfl (Nat.le_of_ble_eq_true rfl) rfl rfl rfl (by decide +kernel) kk
theorem b179_82 {d : Nat} {P : Int → sM → sG → Prop} {M : sM} {G : sG} {s0 : Int}  (h01 : s0 = 0 ∨ s0 = 1) (kk : P s0 M G) : sW (sC d) 179 (QI P) 82 [vN, vN, vN] [vI s0] M G 0 0 := by
  exact q_zret (show sCode 179 82 = some (.ireturn, 1) by decide +kernel) (by decide +kernel) h01 (by decide +kernel) kk
theorem b179_83 {d : Nat} {Q : Option sV → sM → sG → Prop} {M : sM} {G : sG} {a0 : Nat} {x2 : Int}  (kk : sC d 180 [vO 12 a0] M G (QV (fun M1 G1 => sW (sC d) 179 Q 87 [vO 12 a0, vN, vI x2] [] M1 G1 0 0))) : sW (sC d) 179 Q 83 [vO 12 a0, vN, vI x2] [] M G 0 0 := by
  refine q_aload_n 84 rfl (show sCode 179 83 = some (.aload_n 0, 1) by decide +kernel) rfl (Nat.le_of_ble_eq_true rfl) ?_
  exact q_virtV [] 87 rfl (show sCode 179 84 = some (.invokevirtual 114, 3) by decide +kernel) (show sMR (sKo 179).1 114 = some 180 by decide +kernel) (show 180 < 1000 ∧ sStat 180 = false ∧ sIni 180 = false ∧ sKo 180 = (12, 0, 0, 0, 0) by decide +kernel) rfl (Or.inl rfl) rfl (Nat.le_of_ble_eq_true rfl) rfl rfl rfl (by decide +kernel) kk
theorem b179_87 {d : Nat} {Q : Option sV → sM → sG → Prop} {M : sM} {G : sG} {a0 : Nat} {x2 : Int} (h1 : sI (3 * (M a0 7))) (h2 : 0 ≤ 3 * (M a0 7) ∧ 3 * (M a0 7) < 18) (kk : sC d 181 [vO 12 a0, vI 1, vI 12] (sUpd M (a0 + 6) (3 * (M a0 7)).toNat x2) G (QI (fun r M1 G1 => sW (sC d) 179 Q 106 [vO 12 a0, vN, vN] (vI r :: []) M1 G1 0 0))) : sW (sC d) 179 Q 87 [vO 12 a0, vN, vI x2] [] M G 0 0 := by
  refine q_aload_n 88 rfl (show sCode 179 87 = some (.aload_n 0, 1) by decide +kernel) rfl (Nat.le_of_ble_eq_true rfl) ?_
  refine q_getR (vA 0 (a0 + 6) 18) 91 rfl (show sCode 179 88 = some (.getfield 26, 3) by decide +kernel) (show sFR (sKo 179).1 26 = some (12, 9) by decide +kernel) (by decide +kernel) (Or.inl (Or.inl rfl)) rfl ?_
  refine q_iconst 92 rfl (show sCode 179 91 = some (.iconst 3, 1) by decide +kernel) ⟨by decide, by decide⟩ ?_
  refine q_aload_n 93 rfl (show sCode 179 92 = some (.aload_n 0, 1) by decide +kernel) rfl (Nat.le_of_ble_eq_true rfl) ?_
  refine q_getI 96 rfl (show sCode 179 93 = some (.getfield 217, 3) by decide +kernel) (show sFR (sKo 179).1 217 = some (12, 7) by decide +kernel) (by decide +kernel) (Or.inl (Or.inl rfl)) ?_
  refine q_imul 97 rfl (show sCode 179 96 = some (.imul, 1) by decide +kernel) h1 ?_
  refine q_iload_n 98 rfl (show sCode 179 97 = some (.iload_n 2, 1) by decide +kernel) rfl ?_
  refine q_iast 99 rfl (show sCode 179 98 = some (.iastore, 1) by decide +kernel) h2 ?_
  refine q_aload_n 100 rfl (show sCode 179 99 = some (.aload_n 0, 1) by decide +kernel) rfl (Nat.le_of_ble_eq_true rfl) ?_
  refine q_iconst 101 rfl (show sCode 179 100 = some (.iconst 1, 1) by decide +kernel) ⟨by decide, by decide⟩ ?_
  refine q_bipush 103 rfl (show sCode 179 101 = some (.bipush 12, 2) by decide +kernel) ⟨by decide, by decide⟩ (by decide +kernel) ?_
  refine q_forget (L' := [vO 12 a0, vN, vN]) 2 rfl ?_
  exact q_virtI [vI 1, vI 12] 106 rfl (show sCode 179 103 = some (.invokevirtual 172, 3) by decide +kernel) (show sMR (sKo 179).1 172 = some 181 by decide +kernel) (show 181 < 1000 ∧ sStat 181 = false ∧ sIni 181 = false ∧ sKo 181 = (12, 2, 2, 0, 0) by decide +kernel) rfl (Or.inl rfl) rfl (Nat.le_of_ble_eq_true rfl) rfl rfl rfl (by decide +kernel) kk
theorem b179_106 {d : Nat} {Q : Option sV → sM → sG → Prop} {M : sM} {G : sG} {a0 : Nat} {s0 : Int}  (k1 : s0 ≠ 0 → sW (sC d) 179 Q 111 [vO 12 a0, vN, vN] [] M G 0 0) (k2 : s0 = 0 → sW (sC d) 179 Q 109 [vN, vN, vN] [] M G 0 0) : sW (sC d) 179 Q 106 [vO 12 a0, vN, vN] [vI s0] M G 0 0 := by
  refine q_ifne 111 109 rfl (by decide) (show sCode 179 106 = some (.ifCond .ne 5, 3) by decide +kernel) ?_ ?_
  · intro q; exact k1 q
  · intro q; refine q_forget (L' := [vN, vN, vN]) 0 rfl ?_; exact k2 q
theorem b179_109 {d : Nat} {P : Int → sM → sG → Prop} {M : sM} {G : sG}   (kk : P 0 M G) : sW (sC d) 179 (QI P) 109 [vN, vN, vN] [] M G 0 0 := by
  refine q_iconst 110 rfl (show sCode 179 109 = some (.iconst 0, 1) by decide +kernel) ⟨by decide, by decide⟩ ?_
  exact q_zret (show sCode 179 110 = some (.ireturn, 1) by decide +kernel) (by decide +kernel) (by decide) (by decide +kernel) kk
theorem b179_111 {d : Nat} {Q : Option sV → sM → sG → Prop} {M : sM} {G : sG} {a0 : Nat} (h1 : sI (3 * (M a0 7))) (h2 : sI ((3 * (M a0 7)) + 1)) (h3 : 0 ≤ (3 * (M a0 7)) + 1 ∧ (3 * (M a0 7)) + 1 < 18) (kk : sC d 181 [vO 12 a0, vI 0, vI 9] (sUpd M (a0 + 6) ((3 * (M a0 7)) + 1).toNat (M a0 13)) G (QI (fun r M1 G1 => sW (sC d) 179 Q 135 [vO 12 a0, vN, vN] (vI r :: []) M1 G1 0 0))) : sW (sC d) 179 Q 111 [vO 12 a0, vN, vN] [] M G 0 0 := by
  refine q_aload_n 112 rfl (show sCode 179 111 = some (.aload_n 0, 1) by decide +kernel) rfl (Nat.le_of_ble_eq_true rfl) ?_
  refine q_getR (vA 0 (a0 + 6) 18) 115 rfl (show sCode 179 112 = some (.getfield 26, 3) by decide +kernel) (show sFR (sKo 179).1 26 = some (12, 9) by decide +kernel) (by decide +kernel) (Or.inl (Or.inl rfl)) rfl ?_
  refine q_iconst 116 rfl (show sCode 179 115 = some (.iconst 3, 1) by decide +kernel) ⟨by decide, by decide⟩ ?_
  refine q_aload_n 117 rfl (show sCode 179 116 = some (.aload_n 0, 1) by decide +kernel) rfl (Nat.le_of_ble_eq_true rfl) ?_
  refine q_getI 120 rfl (show sCode 179 117 = some (.getfield 217, 3) by decide +kernel) (show sFR (sKo 179).1 217 = some (12, 7) by decide +kernel) (by decide +kernel) (Or.inl (Or.inl rfl)) ?_
  refine q_imul 121 rfl (show sCode 179 120 = some (.imul, 1) by decide +kernel) h1 ?_
  refine q_iconst 122 rfl (show sCode 179 121 = some (.iconst 1, 1) by decide +kernel) ⟨by decide, by decide⟩ ?_
  refine q_iadd 123 rfl (show sCode 179 122 = some (.iadd, 1) by decide +kernel) h2 ?_
  refine q_aload_n 124 rfl (show sCode 179 123 = some (.aload_n 0, 1) by decide +kernel) rfl (Nat.le_of_ble_eq_true rfl) ?_
  refine q_getI 127 rfl (show sCode 179 124 = some (.getfield 124, 3) by decide +kernel) (show sFR (sKo 179).1 124 = some (12, 13) by decide +kernel) (by decide +kernel) (Or.inl (Or.inl rfl)) ?_
  refine q_iast 128 rfl (show sCode 179 127 = some (.iastore, 1) by decide +kernel) h3 ?_
  refine q_aload_n 129 rfl (show sCode 179 128 = some (.aload_n 0, 1) by decide +kernel) rfl (Nat.le_of_ble_eq_true rfl) ?_
  refine q_iconst 130 rfl (show sCode 179 129 = some (.iconst 0, 1) by decide +kernel) ⟨by decide, by decide⟩ ?_
  refine q_bipush 132 rfl (show sCode 179 130 = some (.bipush 9, 2) by decide +kernel) ⟨by decide, by decide⟩ (by decide +kernel) ?_
  exact q_virtI [vI 0, vI 9] 135 rfl (show sCode 179 132 = some (.invokevirtual 172, 3) by decide +kernel) (show sMR (sKo 179).1 172 = some 181 by decide +kernel) (show 181 < 1000 ∧ sStat 181 = false ∧ sIni 181 = false ∧ sKo 181 = (12, 2, 2, 0, 0) by decide +kernel) rfl (Or.inl rfl) rfl (Nat.le_of_ble_eq_true rfl) rfl rfl rfl (by decide +kernel) kk
theorem b179_135 {d : Nat} {Q : Option sV → sM → sG → Prop} {M : sM} {G : sG} {a0 : Nat} {s0 : Int}  (k1 : s0 ≠ 0 → sW (sC d) 179 Q 140 [vO 12 a0, vN, vN] [] M G 0 0) (k2 : s0 = 0 → sW (sC d) 179 Q 138 [vN, vN, vN] [] M G 0 0) : sW (sC d) 179 Q 135 [vO 12 a0, vN, vN] [vI s0] M G 0 0 := by
  refine q_ifne 140 138 rfl (by decide) (show sCode 179 135 = some (.ifCond .ne 5, 3) by decide +kernel) ?_ ?_
  · intro q; exact k1 q
  · intro q; refine q_forget (L' := [vN, vN, vN]) 0 rfl ?_; exact k2 q
theorem b179_138 {d : Nat} {P : Int → sM → sG → Prop} {M : sM} {G : sG}   (kk : P 0 M G) : sW (sC d) 179 (QI P) 138 [vN, vN, vN] [] M G 0 0 := by
  refine q_iconst 139 rfl (show sCode 179 138 = some (.iconst 0, 1) by decide +kernel) ⟨by decide, by decide⟩ ?_
  exact q_zret (show sCode 179 139 = some (.ireturn, 1) by decide +kernel) (by decide +kernel) (by decide) (by decide +kernel) kk
theorem b179_140 {d : Nat} {P : Int → sM → sG → Prop} {M : sM} {G : sG} {a0 : Nat} (h1 : sI (3 * (M a0 7))) (h2 : sI ((3 * (M a0 7)) + 2)) (h3 : 0 ≤ (3 * (M a0 7)) + 2 ∧ (3 * (M a0 7)) + 2 < 18) (h4 : sI (((sUpd M (a0 + 6) ((3 * (M a0 7)) + 2).toNat (M a0 13)) a0 7) + 1)) (kk : P 1 (sUpd (sUpd M (a0 + 6) ((3 * (M a0 7)) + 2).toNat (M a0 13)) a0 7 (((sUpd M (a0 + 6) ((3 * (M a0 7)) + 2).toNat (M a0 13)) a0 7) + 1)) G) : sW (sC d) 179 (QI P) 140 [vO 12 a0, vN, vN] [] M G 0 0 := by
  refine q_aload_n 141 rfl (show sCode 179 140 = some (.aload_n 0, 1) by decide +kernel) rfl (Nat.le_of_ble_eq_true rfl) ?_
  refine q_getR (vA 0 (a0 + 6) 18) 144 rfl (show sCode 179 141 = some (.getfield 26, 3) by decide +kernel) (show sFR (sKo 179).1 26 = some (12, 9) by decide +kernel) (by decide +kernel) (Or.inl (Or.inl rfl)) rfl ?_
  refine q_iconst 145 rfl (show sCode 179 144 = some (.iconst 3, 1) by decide +kernel) ⟨by decide, by decide⟩ ?_
  refine q_aload_n 146 rfl (show sCode 179 145 = some (.aload_n 0, 1) by decide +kernel) rfl (Nat.le_of_ble_eq_true rfl) ?_
  refine q_getI 149 rfl (show sCode 179 146 = some (.getfield 217, 3) by decide +kernel) (show sFR (sKo 179).1 217 = some (12, 7) by decide +kernel) (by decide +kernel) (Or.inl (Or.inl rfl)) ?_
  refine q_imul 150 rfl (show sCode 179 149 = some (.imul, 1) by decide +kernel) h1 ?_
  refine q_iconst 151 rfl (show sCode 179 150 = some (.iconst 2, 1) by decide +kernel) ⟨by decide, by decide⟩ ?_
  refine q_iadd 152 rfl (show sCode 179 151 = some (.iadd, 1) by decide +kernel) h2 ?_
  refine q_aload_n 153 rfl (show sCode 179 152 = some (.aload_n 0, 1) by decide +kernel) rfl (Nat.le_of_ble_eq_true rfl) ?_
  refine q_getI 156 rfl (show sCode 179 153 = some (.getfield 124, 3) by decide +kernel) (show sFR (sKo 179).1 124 = some (12, 13) by decide +kernel) (by decide +kernel) (Or.inl (Or.inl rfl)) ?_
  refine q_iast 157 rfl (show sCode 179 156 = some (.iastore, 1) by decide +kernel) h3 ?_
  refine q_aload_n 158 rfl (show sCode 179 157 = some (.aload_n 0, 1) by decide +kernel) rfl (Nat.le_of_ble_eq_true rfl) ?_
  refine q_dup 159 rfl (show sCode 179 158 = some (.dup, 1) by decide +kernel) rfl ?_
  refine q_getI 162 rfl (show sCode 179 159 = some (.getfield 217, 3) by decide +kernel) (show sFR (sKo 179).1 217 = some (12, 7) by decide +kernel) (by decide +kernel) (Or.inl (Or.inl rfl)) ?_
  refine q_iconst 163 rfl (show sCode 179 162 = some (.iconst 1, 1) by decide +kernel) ⟨by decide, by decide⟩ ?_
  refine q_iadd 164 rfl (show sCode 179 163 = some (.iadd, 1) by decide +kernel) h4 ?_
  refine q_putI 167 rfl (show sCode 179 164 = some (.putfield 217, 3) by decide +kernel) (show sFR (sKo 179).1 217 = some (12, 7) by decide +kernel) (by decide +kernel) (Or.inl ⟨Or.inl rfl, by decide +kernel⟩) ?_
  refine q_iconst 168 rfl (show sCode 179 167 = some (.iconst 1, 1) by decide +kernel) ⟨by decide, by decide⟩ ?_
  exact q_zret (show sCode 179 168 = some (.ireturn, 1) by decide +kernel) (by decide +kernel) (by decide) (by decide +kernel) kk
-- 180 AfterTheLastModel.passWord ()V
theorem b180_0 {d : Nat} {Q : Option sV → sM → sG → Prop} {M : sM} {G : sG} {a0 : Nat}  (kk : sC d 177 [vO 12 a0, vI (M a0 11)] M G (QI (fun r M1 G1 => sW (sC d) 180 Q 8 [vO 12 a0] (vI r :: []) M1 G1 0 0))) : sW (sC d) 180 Q 0 [vO 12 a0] [] M G 0 0 := by
  refine q_aload_n 1 rfl (show sCode 180 0 = some (.aload_n 0, 1) by decide +kernel) rfl (Nat.le_of_ble_eq_true rfl) ?_
  refine q_aload_n 2 rfl (show sCode 180 1 = some (.aload_n 0, 1) by decide +kernel) rfl (Nat.le_of_ble_eq_true rfl) ?_
  refine q_getI 5 rfl (show sCode 180 2 = some (.getfield 99, 3) by decide +kernel) (show sFR (sKo 180).1 99 = some (12, 11) by decide +kernel) (by decide +kernel) (Or.inl (Or.inl rfl)) ?_
  exact q_virtI [vI (M a0 11)] 8 rfl (show sCode 180 5 = some (.invokevirtual 106, 3) by decide +kernel) (show sMR (sKo 180).1 106 = some 177 by decide +kernel) (show 177 < 1000 ∧ sStat 177 = false ∧ sIni 177 = false ∧ sKo 177 = (12, 1, 2, 0, 0) by decide +kernel) rfl (Or.inl rfl) rfl (Nat.le_of_ble_eq_true rfl) rfl rfl rfl (by decide +kernel) kk
theorem b180_8 {d : Nat} {Q : Option sV → sM → sG → Prop} {M : sM} {G : sG} {a0 : Nat} {s0 : Int}  (k1 : s0 = 0 → sW (sC d) 180 Q 24 [vN] [] M G 0 0) (k2 : s0 ≠ 0 → sW (sC d) 180 Q 11 [vO 12 a0] [] M G 0 0) : sW (sC d) 180 Q 8 [vO 12 a0] [vI s0] M G 0 0 := by
  refine q_ifeq 24 11 rfl (by decide) (show sCode 180 8 = some (.ifCond .eq 16, 3) by decide +kernel) ?_ ?_
  · intro q; refine q_forget (L' := [vN]) 0 rfl ?_; exact k1 q
  · intro q; exact k2 q
theorem b180_11 {d : Nat} {Q : Option sV → sM → sG → Prop} {M : sM} {G : sG} {a0 : Nat} (h1 : sI ((M a0 11) + 1)) (kk : sW (sC d) 180 Q 0 [vO 12 a0] [] (sUpd M a0 11 ((M a0 11) + 1)) G 0 0) : sW (sC d) 180 Q 11 [vO 12 a0] [] M G 0 0 := by
  refine q_aload_n 12 rfl (show sCode 180 11 = some (.aload_n 0, 1) by decide +kernel) rfl (Nat.le_of_ble_eq_true rfl) ?_
  refine q_dup 13 rfl (show sCode 180 12 = some (.dup, 1) by decide +kernel) rfl ?_
  refine q_getI 16 rfl (show sCode 180 13 = some (.getfield 99, 3) by decide +kernel) (show sFR (sKo 180).1 99 = some (12, 11) by decide +kernel) (by decide +kernel) (Or.inl (Or.inl rfl)) ?_
  refine q_iconst 17 rfl (show sCode 180 16 = some (.iconst 1, 1) by decide +kernel) ⟨by decide, by decide⟩ ?_
  refine q_iadd 18 rfl (show sCode 180 17 = some (.iadd, 1) by decide +kernel) h1 ?_
  refine q_putI 21 rfl (show sCode 180 18 = some (.putfield 99, 3) by decide +kernel) (show sFR (sKo 180).1 99 = some (12, 11) by decide +kernel) (by decide +kernel) (Or.inl ⟨Or.inl rfl, by decide +kernel⟩) ?_
  refine q_goto 0 (by decide) (show sCode 180 21 = some (.goto (-21), 3) by decide +kernel) ?_
  exact kk
theorem b180_24 {d : Nat} {P : sM → sG → Prop} {M : sM} {G : sG}   (kk : P M G) : sW (sC d) 180 (QV P) 24 [vN] [] M G 0 0 := by
  exact q_vret (show sCode 180 24 = some (.return_, 1) by decide +kernel) (by decide +kernel) (by decide +kernel) kk
-- 181 AfterTheLastModel.numberHere (II)Z
theorem b181_0 {d : Nat} {Q : Option sV → sM → sG → Prop} {M : sM} {G : sG} {a0 : Nat} {x1 : Int} {x2 : Int}  (kk : sC d 175 [vO 12 a0] M G (QI (fun r M1 G1 => sW (sC d) 181 Q 4 [vO 12 a0, vI x1, vI x2, vN, vN] (vI r :: []) M1 G1 0 0))) : sW (sC d) 181 Q 0 [vO 12 a0, vI x1, vI x2, vN, vN] [] M G 0 0 := by
  refine q_aload_n 1 rfl (show sCode 181 0 = some (.aload_n 0, 1) by decide +kernel) rfl (Nat.le_of_ble_eq_true rfl) ?_
  exact q_virtI [] 4 rfl (show sCode 181 1 = some (.invokevirtual 102, 3) by decide +kernel) (show sMR (sKo 181).1 102 = some 175 by decide +kernel) (show 175 < 1000 ∧ sStat 175 = false ∧ sIni 175 = false ∧ sKo 175 = (12, 0, 1, 0, 0) by decide +kernel) rfl (Or.inl rfl) rfl (Nat.le_of_ble_eq_true rfl) rfl rfl rfl (by decide +kernel) kk
theorem b181_4 {d : Nat} {Q : Option sV → sM → sG → Prop} {M : sM} {G : sG} {a0 : Nat} {x1 : Int} {x2 : Int} {s0 : Int}  (kk : sC d 182 [vO 12 a0, vI (M a0 11)] M G (QI (fun r M1 G1 => sW (sC d) 181 Q 13 [vO 12 a0, vI x1, vI x2, vN, vN] (vI r :: []) M1 G1 0 0))) : sW (sC d) 181 Q 4 [vO 12 a0, vI x1, vI x2, vN, vN] [vI s0] M G 0 0 := by
  refine q_pop 5 rfl (show sCode 181 4 = some (.pop, 1) by decide +kernel) rfl ?_
  refine q_aload_n 6 rfl (show sCode 181 5 = some (.aload_n 0, 1) by decide +kernel) rfl (Nat.le_of_ble_eq_true rfl) ?_
  refine q_aload_n 7 rfl (show sCode 181 6 = some (.aload_n 0, 1) by decide +kernel) rfl (Nat.le_of_ble_eq_true rfl) ?_
  refine q_getI 10 rfl (show sCode 181 7 = some (.getfield 99, 3) by decide +kernel) (show sFR (sKo 181).1 99 = some (12, 11) by decide +kernel) (by decide +kernel) (Or.inl (Or.inl rfl)) ?_
  exact q_virtI [vI (M a0 11)] 13 rfl (show sCode 181 10 = some (.invokevirtual 117, 3) by decide +kernel) (show sMR (sKo 181).1 117 = some 182 by decide +kernel) (show 182 < 1000 ∧ sStat 182 = false ∧ sIni 182 = false ∧ sKo 182 = (12, 1, 2, 0, 0) by decide +kernel) rfl (Or.inl rfl) rfl (Nat.le_of_ble_eq_true rfl) rfl rfl rfl (by decide +kernel) kk
theorem b181_13 {d : Nat} {Q : Option sV → sM → sG → Prop} {M : sM} {G : sG} {a0 : Nat} {x1 : Int} {x2 : Int} {s0 : Int}  (k1 : s0 ≠ 0 → sW (sC d) 181 Q 26 [vO 12 a0, vI x1, vI x2, vN, vN] [] M G 0 0) (k2 : s0 = 0 → sW (sC d) 181 Q 16 [vO 12 a0, vN, vN, vN, vN] [] M G 0 0) : sW (sC d) 181 Q 13 [vO 12 a0, vI x1, vI x2, vN, vN] [vI s0] M G 0 0 := by
  refine q_ifne 26 16 rfl (by decide) (show sCode 181 13 = some (.ifCond .ne 13, 3) by decide +kernel) ?_ ?_
  · intro q; exact k1 q
  · intro q; refine q_forget (L' := [vO 12 a0, vN, vI x2, vN, vN]) 1 rfl ?_; refine q_forget (L' := [vO 12 a0, vN, vN, vN, vN]) 2 rfl ?_; exact k2 q
theorem b181_16 {d : Nat} {Q : Option sV → sM → sG → Prop} {M : sM} {G : sG} {a0 : Nat}  (kk : sC d 178 [vO 12 a0, vI 0, vI (M a0 11)] M G (QI (fun r M1 G1 => sW (sC d) 181 Q 25 [vN, vN, vN, vN, vN] (vI r :: []) M1 G1 0 0))) : sW (sC d) 181 Q 16 [vO 12 a0, vN, vN, vN, vN] [] M G 0 0 := by
  refine q_aload_n 17 rfl (show sCode 181 16 = some (.aload_n 0, 1) by decide +kernel) rfl (Nat.le_of_ble_eq_true rfl) ?_
  refine q_iconst 18 rfl (show sCode 181 17 = some (.iconst 0, 1) by decide +kernel) ⟨by decide, by decide⟩ ?_
  refine q_aload_n 19 rfl (show sCode 181 18 = some (.aload_n 0, 1) by decide +kernel) rfl (Nat.le_of_ble_eq_true rfl) ?_
  refine q_getI 22 rfl (show sCode 181 19 = some (.getfield 99, 3) by decide +kernel) (show sFR (sKo 181).1 99 = some (12, 11) by decide +kernel) (by decide +kernel) (Or.inl (Or.inl rfl)) ?_
  refine q_forget (L' := [vN, vN, vN, vN, vN]) 0 rfl ?_
  exact q_virtI [vI 0, vI (M a0 11)] 25 rfl (show sCode 181 22 = some (.invokevirtual 120, 3) by decide +kernel) (show sMR (sKo 181).1 120 = some 178 by decide +kernel) (show 178 < 1000 ∧ sStat 178 = false ∧ sIni 178 = false ∧ sKo 178 = (12, 2, 2, 0, 0) by decide +kernel) rfl (Or.inl rfl) rfl (Nat.le_of_ble_eq_true rfl) rfl rfl rfl (by decide +kernel) kk
theorem b181_25 {d : Nat} {P : Int → sM → sG → Prop} {M : sM} {G : sG} {s0 : Int}  (h01 : s0 = 0 ∨ s0 = 1) (kk : P s0 M G) : sW (sC d) 181 (QI P) 25 [vN, vN, vN, vN, vN] [vI s0] M G 0 0 := by
  exact q_zret (show sCode 181 25 = some (.ireturn, 1) by decide +kernel) (by decide +kernel) h01 (by decide +kernel) kk
theorem b181_26 {d : Nat} {Q : Option sV → sM → sG → Prop} {M : sM} {G : sG} {a0 : Nat} {x1 : Int} {x2 : Int}  (kk : sW (sC d) 181 Q 34 [vO 12 a0, vI x1, vI x2, vI (M a0 11), vI 0] [] M G 0 0) : sW (sC d) 181 Q 26 [vO 12 a0, vI x1, vI x2, vN, vN] [] M G 0 0 := by
  refine q_aload_n 27 rfl (show sCode 181 26 = some (.aload_n 0, 1) by decide +kernel) rfl (Nat.le_of_ble_eq_true rfl) ?_
  refine q_getI 30 rfl (show sCode 181 27 = some (.getfield 99, 3) by decide +kernel) (show sFR (sKo 181).1 99 = some (12, 11) by decide +kernel) (by decide +kernel) (Or.inl (Or.inl rfl)) ?_
  refine q_istore_n [vO 12 a0, vI x1, vI x2, vI (M a0 11), vN] 31 rfl (show sCode 181 30 = some (.istore_n 3, 1) by decide +kernel) (Nat.lt_of_lt_of_le (Nat.lt_succ_self _) (Nat.le_of_ble_eq_true rfl)) rfl rfl ?_
  refine q_iconst 32 rfl (show sCode 181 31 = some (.iconst 0, 1) by decide +kernel) ⟨by decide, by decide⟩ ?_
  refine q_istore [vO 12 a0, vI x1, vI x2, vI (M a0 11), vI 0] 34 rfl (show sCode 181 32 = some (.istore 4, 2) by decide +kernel) (Nat.lt_of_lt_of_le (Nat.lt_succ_self _) (Nat.le_of_ble_eq_true rfl)) rfl rfl ?_
  exact kk
theorem b181_34 {d : Nat} {Q : Option sV → sM → sG → Prop} {M : sM} {G : sG} {a0 : Nat} {x1 : Int} {x2 : Int} {x3 : Int} {x4 : Int}  (kk : sC d 182 [vO 12 a0, vI (M a0 11)] M G (QI (fun r M1 G1 => sW (sC d) 181 Q 42 [vO 12 a0, vI x1, vI x2, vI x3, vI x4] (vI r :: []) M1 G1 0 0))) : sW (sC d) 181 Q 34 [vO 12 a0, vI x1, vI x2, vI x3, vI x4] [] M G 0 0 := by
  refine q_aload_n 35 rfl (show sCode 181 34 = some (.aload_n 0, 1) by decide +kernel) rfl (Nat.le_of_ble_eq_true rfl) ?_
  refine q_aload_n 36 rfl (show sCode 181 35 = some (.aload_n 0, 1) by decide +kernel) rfl (Nat.le_of_ble_eq_true rfl) ?_
  refine q_getI 39 rfl (show sCode 181 36 = some (.getfield 99, 3) by decide +kernel) (show sFR (sKo 181).1 99 = some (12, 11) by decide +kernel) (by decide +kernel) (Or.inl (Or.inl rfl)) ?_
  exact q_virtI [vI (M a0 11)] 42 rfl (show sCode 181 39 = some (.invokevirtual 117, 3) by decide +kernel) (show sMR (sKo 181).1 117 = some 182 by decide +kernel) (show 182 < 1000 ∧ sStat 182 = false ∧ sIni 182 = false ∧ sKo 182 = (12, 1, 2, 0, 0) by decide +kernel) rfl (Or.inl rfl) rfl (Nat.le_of_ble_eq_true rfl) rfl rfl rfl (by decide +kernel) kk
theorem b181_42 {d : Nat} {Q : Option sV → sM → sG → Prop} {M : sM} {G : sG} {a0 : Nat} {x1 : Int} {x2 : Int} {x3 : Int} {x4 : Int} {s0 : Int}  (k1 : s0 = 0 → sW (sC d) 181 Q 88 [vO 12 a0, vI x1, vI x2, vI x3, vI x4] [] M G 0 0) (k2 : s0 ≠ 0 → sW (sC d) 181 Q 45 [vO 12 a0, vI x1, vI x2, vI x3, vI x4] [] M G 0 0) : sW (sC d) 181 Q 42 [vO 12 a0, vI x1, vI x2, vI x3, vI x4] [vI s0] M G 0 0 := by
  refine q_ifeq 88 45 rfl (by decide) (show sCode 181 42 = some (.ifCond .eq 46, 3) by decide +kernel) ?_ ?_
  · intro q; exact k1 q
  · intro q; exact k2 q
theorem b181_45 {d : Nat} {Q : Option sV → sM → sG → Prop} {M : sM} {G : sG} {a0 : Nat} {x1 : Int} {x2 : Int} {x3 : Int} {x4 : Int} (h1 : sI ((M a0 11) - x3)) (k1 : 5 ≤ (M a0 11) - x3 → sW (sC d) 181 Q 75 [vO 12 a0, vI x1, vI x2, vI x3, vI x4] [] M G 0 0) (k2 : (M a0 11) - x3 < 5 → sW (sC d) 181 Q 55 [vO 12 a0, vI x1, vI x2, vI x3, vI x4] [] M G 0 0) : sW (sC d) 181 Q 45 [vO 12 a0, vI x1, vI x2, vI x3, vI x4] [] M G 0 0 := by
  refine q_aload_n 46 rfl (show sCode 181 45 = some (.aload_n 0, 1) by decide +kernel) rfl (Nat.le_of_ble_eq_true rfl) ?_
  refine q_getI 49 rfl (show sCode 181 46 = some (.getfield 99, 3) by decide +kernel) (show sFR (sKo 181).1 99 = some (12, 11) by decide +kernel) (by decide +kernel) (Or.inl (Or.inl rfl)) ?_
  refine q_iload_n 50 rfl (show sCode 181 49 = some (.iload_n 3, 1) by decide +kernel) rfl ?_
  refine q_isub 51 rfl (show sCode 181 50 = some (.isub, 1) by decide +kernel) h1 ?_
  refine q_iconst 52 rfl (show sCode 181 51 = some (.iconst 5, 1) by decide +kernel) ⟨by decide, by decide⟩ ?_
  refine q_icmpge 75 55 rfl (by decide) (show sCode 181 52 = some (.if_icmp .ge 23, 3) by decide +kernel) ?_ ?_
  · intro q; exact k1 q
  · intro q; exact k2 q
theorem b181_55 {d : Nat} {Q : Option sV → sM → sG → Prop} {M : sM} {G : sG} {a0 : Nat} {x1 : Int} {x2 : Int} {x3 : Int} {x4 : Int} (h1 : sI (10 * x4)) (h2 : 0 ≤ M a0 11 ∧ M a0 11 < 400) (h3 : sI ((10 * x4) + (M (a0 + 1) (M a0 11).toNat))) (h4 : sI (((10 * x4) + (M (a0 + 1) (M a0 11).toNat)) - 48)) (kk : sW (sC d) 181 Q 75 [vO 12 a0, vI x1, vI x2, vI x3, vI (((10 * x4) + (M (a0 + 1) (M a0 11).toNat)) - 48)] [] M G 0 0) : sW (sC d) 181 Q 55 [vO 12 a0, vI x1, vI x2, vI x3, vI x4] [] M G 0 0 := by
  refine q_bipush 57 rfl (show sCode 181 55 = some (.bipush 10, 2) by decide +kernel) ⟨by decide, by decide⟩ (by decide +kernel) ?_
  refine q_iload 59 rfl (show sCode 181 57 = some (.iload 4, 2) by decide +kernel) rfl ?_
  refine q_imul 60 rfl (show sCode 181 59 = some (.imul, 1) by decide +kernel) h1 ?_
  refine q_aload_n 61 rfl (show sCode 181 60 = some (.aload_n 0, 1) by decide +kernel) rfl (Nat.le_of_ble_eq_true rfl) ?_
  refine q_getR (vA 2 (a0 + 1) 400) 64 rfl (show sCode 181 61 = some (.getfield 7, 3) by decide +kernel) (show sFR (sKo 181).1 7 = some (12, 0) by decide +kernel) (by decide +kernel) (Or.inl (Or.inl rfl)) rfl ?_
  refine q_aload_n 65 rfl (show sCode 181 64 = some (.aload_n 0, 1) by decide +kernel) rfl (Nat.le_of_ble_eq_true rfl) ?_
  refine q_getI 68 rfl (show sCode 181 65 = some (.getfield 99, 3) by decide +kernel) (show sFR (sKo 181).1 99 = some (12, 11) by decide +kernel) (by decide +kernel) (Or.inl (Or.inl rfl)) ?_
  refine q_bald 69 rfl (show sCode 181 68 = some (.baload, 1) by decide +kernel) h2 ?_
  refine q_iadd 70 rfl (show sCode 181 69 = some (.iadd, 1) by decide +kernel) h3 ?_
  refine q_bipush 72 rfl (show sCode 181 70 = some (.bipush 48, 2) by decide +kernel) ⟨by decide, by decide⟩ (by decide +kernel) ?_
  refine q_isub 73 rfl (show sCode 181 72 = some (.isub, 1) by decide +kernel) h4 ?_
  refine q_istore [vO 12 a0, vI x1, vI x2, vI x3, vI (((10 * x4) + (M (a0 + 1) (M a0 11).toNat)) - 48)] 75 rfl (show sCode 181 73 = some (.istore 4, 2) by decide +kernel) (Nat.lt_of_lt_of_le (Nat.lt_succ_self _) (Nat.le_of_ble_eq_true rfl)) rfl rfl ?_
  exact kk
theorem b181_75 {d : Nat} {Q : Option sV → sM → sG → Prop} {M : sM} {G : sG} {a0 : Nat} {x1 : Int} {x2 : Int} {x3 : Int} {x4 : Int} (h1 : sI ((M a0 11) + 1)) (kk : sW (sC d) 181 Q 34 [vO 12 a0, vI x1, vI x2, vI x3, vI x4] [] (sUpd M a0 11 ((M a0 11) + 1)) G 0 0) : sW (sC d) 181 Q 75 [vO 12 a0, vI x1, vI x2, vI x3, vI x4] [] M G 0 0 := by
  refine q_aload_n 76 rfl (show sCode 181 75 = some (.aload_n 0, 1) by decide +kernel) rfl (Nat.le_of_ble_eq_true rfl) ?_
  refine q_dup 77 rfl (show sCode 181 76 = some (.dup, 1) by decide +kernel) rfl ?_
  refine q_getI 80 rfl (show sCode 181 77 = some (.getfield 99, 3) by decide +kernel) (show sFR (sKo 181).1 99 = some (12, 11) by decide +kernel) (by decide +kernel) (Or.inl (Or.inl rfl)) ?_
  refine q_iconst 81 rfl (show sCode 181 80 = some (.iconst 1, 1) by decide +kernel) ⟨by decide, by decide⟩ ?_
  refine q_iadd 82 rfl (show sCode 181 81 = some (.iadd, 1) by decide +kernel) h1 ?_
  refine q_putI 85 rfl (show sCode 181 82 = some (.putfield 99, 3) by decide +kernel) (show sFR (sKo 181).1 99 = some (12, 11) by decide +kernel) (by decide +kernel) (Or.inl ⟨Or.inl rfl, by decide +kernel⟩) ?_
  refine q_goto 34 (by decide) (show sCode 181 85 = some (.goto (-51), 3) by decide +kernel) ?_
  exact kk
theorem b181_88 {d : Nat} {Q : Option sV → sM → sG → Prop} {M : sM} {G : sG} {a0 : Nat} {x1 : Int} {x2 : Int} {x3 : Int} {x4 : Int} (h1 : sI (((sUpd M a0 13 x4) a0 11) - x3)) (k1 : 5 < ((sUpd M a0 13 x4) a0 11) - x3 → sW (sC d) 181 Q 117 [vO 12 a0, vN, vN, vI x3, vN] [] (sUpd M a0 13 x4) G 0 0) (k2 : ((sUpd M a0 13 x4) a0 11) - x3 ≤ 5 → sW (sC d) 181 Q 104 [vO 12 a0, vI x1, vI x2, vI x3, vI x4] [] (sUpd M a0 13 x4) G 0 0) : sW (sC d) 181 Q 88 [vO 12 a0, vI x1, vI x2, vI x3, vI x4] [] M G 0 0 := by
  refine q_aload_n 89 rfl (show sCode 181 88 = some (.aload_n 0, 1) by decide +kernel) rfl (Nat.le_of_ble_eq_true rfl) ?_
  refine q_iload 91 rfl (show sCode 181 89 = some (.iload 4, 2) by decide +kernel) rfl ?_
  refine q_putI 94 rfl (show sCode 181 91 = some (.putfield 124, 3) by decide +kernel) (show sFR (sKo 181).1 124 = some (12, 13) by decide +kernel) (by decide +kernel) (Or.inl ⟨Or.inl rfl, by decide +kernel⟩) ?_
  refine q_aload_n 95 rfl (show sCode 181 94 = some (.aload_n 0, 1) by decide +kernel) rfl (Nat.le_of_ble_eq_true rfl) ?_
  refine q_getI 98 rfl (show sCode 181 95 = some (.getfield 99, 3) by decide +kernel) (show sFR (sKo 181).1 99 = some (12, 11) by decide +kernel) (by decide +kernel) (Or.inl (Or.inl rfl)) ?_
  refine q_iload_n 99 rfl (show sCode 181 98 = some (.iload_n 3, 1) by decide +kernel) rfl ?_
  refine q_isub 100 rfl (show sCode 181 99 = some (.isub, 1) by decide +kernel) h1 ?_
  refine q_iconst 101 rfl (show sCode 181 100 = some (.iconst 5, 1) by decide +kernel) ⟨by decide, by decide⟩ ?_
  refine q_icmpgt 117 104 rfl (by decide) (show sCode 181 101 = some (.if_icmp .gt 16, 3) by decide +kernel) ?_ ?_
  · intro q; refine q_forget (L' := [vO 12 a0, vN, vI x2, vI x3, vI x4]) 1 rfl ?_; refine q_forget (L' := [vO 12 a0, vN, vN, vI x3, vI x4]) 2 rfl ?_; refine q_forget (L' := [vO 12 a0, vN, vN, vI x3, vN]) 4 rfl ?_; exact k1 q
  · intro q; exact k2 q
theorem b181_104 {d : Nat} {Q : Option sV → sM → sG → Prop} {M : sM} {G : sG} {a0 : Nat} {x1 : Int} {x2 : Int} {x3 : Int} {x4 : Int}  (kk : sC d 183 [vL x4, vL x1, vL x2] M G (QI (fun r M1 G1 => sW (sC d) 181 Q 114 [vO 12 a0, vN, vN, vI x3, vN] (vI r :: []) M1 G1 0 0))) : sW (sC d) 181 Q 104 [vO 12 a0, vI x1, vI x2, vI x3, vI x4] [] M G 0 0 := by
  refine q_iload 106 rfl (show sCode 181 104 = some (.iload 4, 2) by decide +kernel) rfl ?_
  refine q_i2l 107 rfl (show sCode 181 106 = some (.i2l, 1) by decide +kernel) ?_
  refine q_iload_n 108 rfl (show sCode 181 107 = some (.iload_n 1, 1) by decide +kernel) rfl ?_
  refine q_i2l 109 rfl (show sCode 181 108 = some (.i2l, 1) by decide +kernel) ?_
  refine q_iload_n 110 rfl (show sCode 181 109 = some (.iload_n 2, 1) by decide +kernel) rfl ?_
  refine q_i2l 111 rfl (show sCode 181 110 = some (.i2l, 1) by decide +kernel) ?_
  refine q_forget (L' := [vO 12 a0, vN, vI x2, vI x3, vI x4]) 1 rfl ?_
  refine q_forget (L' := [vO 12 a0, vN, vN, vI x3, vI x4]) 2 rfl ?_
  refine q_forget (L' := [vO 12 a0, vN, vN, vI x3, vN]) 4 rfl ?_
  exact q_statI [vL x4, vL x1, vL x2] 114 rfl (show sCode 181 111 = some (.invokestatic 127, 3) by decide +kernel) (show sMR (sKo 181).1 127 = some 183 by decide +kernel) (show 183 < 1000 ∧ sStat 183 = true ∧ sKo 183 = (12, 3, 2, 0, 0) by decide +kernel) rfl rfl (Nat.le_of_ble_eq_true rfl) rfl rfl rfl (by decide +kernel) kk
theorem b181_114 {d : Nat} {Q : Option sV → sM → sG → Prop} {M : sM} {G : sG} {a0 : Nat} {x3 : Int} {s0 : Int}  (k1 : s0 ≠ 0 → sW (sC d) 181 Q 126 [vN, vN, vN, vN, vN] [] M G 0 0) (k2 : s0 = 0 → sW (sC d) 181 Q 117 [vO 12 a0, vN, vN, vI x3, vN] [] M G 0 0) : sW (sC d) 181 Q 114 [vO 12 a0, vN, vN, vI x3, vN] [vI s0] M G 0 0 := by
  refine q_ifne 126 117 rfl (by decide) (show sCode 181 114 = some (.ifCond .ne 12, 3) by decide +kernel) ?_ ?_
  · intro q; refine q_forget (L' := [vN, vN, vN, vI x3, vN]) 0 rfl ?_; refine q_forget (L' := [vN, vN, vN, vN, vN]) 3 rfl ?_; exact k1 q
  · intro q; exact k2 q
theorem b181_117 {d : Nat} {Q : Option sV → sM → sG → Prop} {M : sM} {G : sG} {a0 : Nat} {x3 : Int}  (kk : sC d 178 [vO 12 a0, vI 1, vI x3] M G (QI (fun r M1 G1 => sW (sC d) 181 Q 123 [vN, vN, vN, vN, vN] (vI r :: []) M1 G1 0 0))) : sW (sC d) 181 Q 117 [vO 12 a0, vN, vN, vI x3, vN] [] M G 0 0 := by
  refine q_aload_n 118 rfl (show sCode 181 117 = some (.aload_n 0, 1) by decide +kernel) rfl (Nat.le_of_ble_eq_true rfl) ?_
  refine q_iconst 119 rfl (show sCode 181 118 = some (.iconst 1, 1) by decide +kernel) ⟨by decide, by decide⟩ ?_
  refine q_iload_n 120 rfl (show sCode 181 119 = some (.iload_n 3, 1) by decide +kernel) rfl ?_
  refine q_forget (L' := [vN, vN, vN, vI x3, vN]) 0 rfl ?_
  refine q_forget (L' := [vN, vN, vN, vN, vN]) 3 rfl ?_
  exact q_virtI [vI 1, vI x3] 123 rfl (show sCode 181 120 = some (.invokevirtual 120, 3) by decide +kernel) (show sMR (sKo 181).1 120 = some 178 by decide +kernel) (show 178 < 1000 ∧ sStat 178 = false ∧ sIni 178 = false ∧ sKo 178 = (12, 2, 2, 0, 0) by decide +kernel) rfl (Or.inl rfl) rfl (Nat.le_of_ble_eq_true rfl) rfl rfl rfl (by decide +kernel) kk
theorem b181_123 {d : Nat} {Q : Option sV → sM → sG → Prop} {M : sM} {G : sG} {s0 : Int}  (k1 : s0 = 0 → sW (sC d) 181 Q 130 [vN, vN, vN, vN, vN] [] M G 0 0) (k2 : s0 ≠ 0 → sW (sC d) 181 Q 126 [vN, vN, vN, vN, vN] [] M G 0 0) : sW (sC d) 181 Q 123 [vN, vN, vN, vN, vN] [vI s0] M G 0 0 := by
  refine q_ifeq 130 126 rfl (by decide) (show sCode 181 123 = some (.ifCond .eq 7, 3) by decide +kernel) ?_ ?_
  · intro q; exact k1 q
  · intro q; exact k2 q
theorem b181_126 {d : Nat} {Q : Option sV → sM → sG → Prop} {M : sM} {G : sG}   (kk : sW (sC d) 181 Q 131 [vN, vN, vN, vN, vN] [vI 1] M G 0 0) : sW (sC d) 181 Q 126 [vN, vN, vN, vN, vN] [] M G 0 0 := by
  refine q_iconst 127 rfl (show sCode 181 126 = some (.iconst 1, 1) by decide +kernel) ⟨by decide, by decide⟩ ?_
  refine q_goto 131 (by decide) (show sCode 181 127 = some (.goto 4, 3) by decide +kernel) ?_
  exact kk
theorem b181_130 {d : Nat} {Q : Option sV → sM → sG → Prop} {M : sM} {G : sG}   (kk : sW (sC d) 181 Q 131 [vN, vN, vN, vN, vN] [vI 0] M G 0 0) : sW (sC d) 181 Q 130 [vN, vN, vN, vN, vN] [] M G 0 0 := by
  refine q_iconst 131 rfl (show sCode 181 130 = some (.iconst 0, 1) by decide +kernel) ⟨by decide, by decide⟩ ?_
  exact kk
theorem b181_131 {d : Nat} {P : Int → sM → sG → Prop} {M : sM} {G : sG} {s0 : Int}  (h01 : s0 = 0 ∨ s0 = 1) (kk : P s0 M G) : sW (sC d) 181 (QI P) 131 [vN, vN, vN, vN, vN] [vI s0] M G 0 0 := by
  exact q_zret (show sCode 181 131 = some (.ireturn, 1) by decide +kernel) (by decide +kernel) h01 (by decide +kernel) kk
-- 182 AfterTheLastModel.isDigit (I)Z
theorem b182_0 {d : Nat} {Q : Option sV → sM → sG → Prop} {M : sM} {G : sG} {a0 : Nat} {x1 : Int}  (k1 : M a0 1 ≤ x1 → sW (sC d) 182 Q 34 [vN, vN] [] M G 0 0) (k2 : x1 < M a0 1 → sW (sC d) 182 Q 8 [vO 12 a0, vI x1] [] M G 0 0) : sW (sC d) 182 Q 0 [vO 12 a0, vI x1] [] M G 0 0 := by
  refine q_iload_n 1 rfl (show sCode 182 0 = some (.iload_n 1, 1) by decide +kernel) rfl ?_
  refine q_aload_n 2 rfl (show sCode 182 1 = some (.aload_n 0, 1) by decide +kernel) rfl (Nat.le_of_ble_eq_true rfl) ?_
  refine q_getI 5 rfl (show sCode 182 2 = some (.getfield 88, 3) by decide +kernel) (show sFR (sKo 182).1 88 = some (12, 1) by decide +kernel) (by decide +kernel) (Or.inl (Or.inl rfl)) ?_
  refine q_icmpge 34 8 rfl (by decide) (show sCode 182 5 = some (.if_icmp .ge 29, 3) by decide +kernel) ?_ ?_
  · intro q; refine q_forget (L' := [vN, vI x1]) 0 rfl ?_; refine q_forget (L' := [vN, vN]) 1 rfl ?_; exact k1 q
  · intro q; exact k2 q
theorem b182_8 {d : Nat} {Q : Option sV → sM → sG → Prop} {M : sM} {G : sG} {a0 : Nat} {x1 : Int} (h1 : 0 ≤ x1 ∧ x1 < 400) (k1 : M (a0 + 1) x1.toNat < 48 → sW (sC d) 182 Q 34 [vN, vN] [] M G 0 0) (k2 : 48 ≤ M (a0 + 1) x1.toNat → sW (sC d) 182 Q 19 [vO 12 a0, vI x1] [] M G 0 0) : sW (sC d) 182 Q 8 [vO 12 a0, vI x1] [] M G 0 0 := by
  refine q_aload_n 9 rfl (show sCode 182 8 = some (.aload_n 0, 1) by decide +kernel) rfl (Nat.le_of_ble_eq_true rfl) ?_
  refine q_getR (vA 2 (a0 + 1) 400) 12 rfl (show sCode 182 9 = some (.getfield 7, 3) by decide +kernel) (show sFR (sKo 182).1 7 = some (12, 0) by decide +kernel) (by decide +kernel) (Or.inl (Or.inl rfl)) rfl ?_
  refine q_iload_n 13 rfl (show sCode 182 12 = some (.iload_n 1, 1) by decide +kernel) rfl ?_
  refine q_bald 14 rfl (show sCode 182 13 = some (.baload, 1) by decide +kernel) h1 ?_
  refine q_bipush 16 rfl (show sCode 182 14 = some (.bipush 48, 2) by decide +kernel) ⟨by decide, by decide⟩ (by decide +kernel) ?_
  refine q_icmplt 34 19 rfl (by decide) (show sCode 182 16 = some (.if_icmp .lt 18, 3) by decide +kernel) ?_ ?_
  · intro q; refine q_forget (L' := [vN, vI x1]) 0 rfl ?_; refine q_forget (L' := [vN, vN]) 1 rfl ?_; exact k1 q
  · intro q; exact k2 q
theorem b182_19 {d : Nat} {Q : Option sV → sM → sG → Prop} {M : sM} {G : sG} {a0 : Nat} {x1 : Int} (h1 : 0 ≤ x1 ∧ x1 < 400) (k1 : 57 < M (a0 + 1) x1.toNat → sW (sC d) 182 Q 34 [vN, vN] [] M G 0 0) (k2 : M (a0 + 1) x1.toNat ≤ 57 → sW (sC d) 182 Q 30 [vN, vN] [] M G 0 0) : sW (sC d) 182 Q 19 [vO 12 a0, vI x1] [] M G 0 0 := by
  refine q_aload_n 20 rfl (show sCode 182 19 = some (.aload_n 0, 1) by decide +kernel) rfl (Nat.le_of_ble_eq_true rfl) ?_
  refine q_getR (vA 2 (a0 + 1) 400) 23 rfl (show sCode 182 20 = some (.getfield 7, 3) by decide +kernel) (show sFR (sKo 182).1 7 = some (12, 0) by decide +kernel) (by decide +kernel) (Or.inl (Or.inl rfl)) rfl ?_
  refine q_iload_n 24 rfl (show sCode 182 23 = some (.iload_n 1, 1) by decide +kernel) rfl ?_
  refine q_bald 25 rfl (show sCode 182 24 = some (.baload, 1) by decide +kernel) h1 ?_
  refine q_bipush 27 rfl (show sCode 182 25 = some (.bipush 57, 2) by decide +kernel) ⟨by decide, by decide⟩ (by decide +kernel) ?_
  refine q_icmpgt 34 30 rfl (by decide) (show sCode 182 27 = some (.if_icmp .gt 7, 3) by decide +kernel) ?_ ?_
  · intro q; refine q_forget (L' := [vN, vI x1]) 0 rfl ?_; refine q_forget (L' := [vN, vN]) 1 rfl ?_; exact k1 q
  · intro q; refine q_forget (L' := [vN, vI x1]) 0 rfl ?_; refine q_forget (L' := [vN, vN]) 1 rfl ?_; exact k2 q
theorem b182_30 {d : Nat} {Q : Option sV → sM → sG → Prop} {M : sM} {G : sG}   (kk : sW (sC d) 182 Q 35 [vN, vN] [vI 1] M G 0 0) : sW (sC d) 182 Q 30 [vN, vN] [] M G 0 0 := by
  refine q_iconst 31 rfl (show sCode 182 30 = some (.iconst 1, 1) by decide +kernel) ⟨by decide, by decide⟩ ?_
  refine q_goto 35 (by decide) (show sCode 182 31 = some (.goto 4, 3) by decide +kernel) ?_
  exact kk
theorem b182_34 {d : Nat} {Q : Option sV → sM → sG → Prop} {M : sM} {G : sG}   (kk : sW (sC d) 182 Q 35 [vN, vN] [vI 0] M G 0 0) : sW (sC d) 182 Q 34 [vN, vN] [] M G 0 0 := by
  refine q_iconst 35 rfl (show sCode 182 34 = some (.iconst 0, 1) by decide +kernel) ⟨by decide, by decide⟩ ?_
  exact kk
theorem b182_35 {d : Nat} {P : Int → sM → sG → Prop} {M : sM} {G : sG} {s0 : Int}  (h01 : s0 = 0 ∨ s0 = 1) (kk : P s0 M G) : sW (sC d) 182 (QI P) 35 [vN, vN] [vI s0] M G 0 0 := by
  exact q_zret (show sCode 182 35 = some (.ireturn, 1) by decide +kernel) (by decide +kernel) h01 (by decide +kernel) kk
-- 183 AfterTheLastModel.in (JJJ)Z
theorem b183_0 {d : Nat} {Q : Option sV → sM → sG → Prop} {M : sM} {G : sG} {y0 : Int} {y2 : Int} {y4 : Int}  (k1 : y0 < y2 → sW (sC d) 183 Q 17 [vN, vN, vN, vN, vN, vN] [] M G 0 0) (k2 : y2 ≤ y0 → sW (sC d) 183 Q 6 [vL y0, vN, vN, vN, vL y4, vN] [] M G 0 0) : sW (sC d) 183 Q 0 [vL y0, vN, vL y2, vN, vL y4, vN] [] M G 0 0 := by
  refine q_lload_n 1 rfl (show sCode 183 0 = some (.lload_n 0, 1) by decide +kernel) rfl ?_
  refine q_lload_n 2 rfl (show sCode 183 1 = some (.lload_n 2, 1) by decide +kernel) rfl ?_
  refine q_liflt (off := 14) 17 6 rfl (by decide) (show sCode 183 2 = some (.lcmp, 1) by decide +kernel) (by decide +kernel) ?_ ?_
  · intro q; refine q_forget (L' := [vN, vN, vL y2, vN, vL y4, vN]) 0 rfl ?_; refine q_forget (L' := [vN, vN, vN, vN, vL y4, vN]) 2 rfl ?_; refine q_forget (L' := [vN, vN, vN, vN, vN, vN]) 4 rfl ?_; exact k1 q
  · intro q; refine q_forget (L' := [vL y0, vN, vN, vN, vL y4, vN]) 2 rfl ?_; exact k2 q
theorem b183_6 {d : Nat} {Q : Option sV → sM → sG → Prop} {M : sM} {G : sG} {y0 : Int} {y4 : Int}  (k1 : y4 < y0 → sW (sC d) 183 Q 17 [vN, vN, vN, vN, vN, vN] [] M G 0 0) (k2 : y0 ≤ y4 → sW (sC d) 183 Q 13 [vN, vN, vN, vN, vN, vN] [] M G 0 0) : sW (sC d) 183 Q 6 [vL y0, vN, vN, vN, vL y4, vN] [] M G 0 0 := by
  refine q_lload_n 7 rfl (show sCode 183 6 = some (.lload_n 0, 1) by decide +kernel) rfl ?_
  refine q_lload 9 rfl (show sCode 183 7 = some (.lload 4, 2) by decide +kernel) rfl ?_
  refine q_lifgt (off := 7) 17 13 rfl (by decide) (show sCode 183 9 = some (.lcmp, 1) by decide +kernel) (by decide +kernel) ?_ ?_
  · intro q; refine q_forget (L' := [vN, vN, vN, vN, vL y4, vN]) 0 rfl ?_; refine q_forget (L' := [vN, vN, vN, vN, vN, vN]) 4 rfl ?_; exact k1 q
  · intro q; refine q_forget (L' := [vN, vN, vN, vN, vL y4, vN]) 0 rfl ?_; refine q_forget (L' := [vN, vN, vN, vN, vN, vN]) 4 rfl ?_; exact k2 q
theorem b183_13 {d : Nat} {Q : Option sV → sM → sG → Prop} {M : sM} {G : sG}   (kk : sW (sC d) 183 Q 18 [vN, vN, vN, vN, vN, vN] [vI 1] M G 0 0) : sW (sC d) 183 Q 13 [vN, vN, vN, vN, vN, vN] [] M G 0 0 := by
  refine q_iconst 14 rfl (show sCode 183 13 = some (.iconst 1, 1) by decide +kernel) ⟨by decide, by decide⟩ ?_
  refine q_goto 18 (by decide) (show sCode 183 14 = some (.goto 4, 3) by decide +kernel) ?_
  exact kk
theorem b183_17 {d : Nat} {Q : Option sV → sM → sG → Prop} {M : sM} {G : sG}   (kk : sW (sC d) 183 Q 18 [vN, vN, vN, vN, vN, vN] [vI 0] M G 0 0) : sW (sC d) 183 Q 17 [vN, vN, vN, vN, vN, vN] [] M G 0 0 := by
  refine q_iconst 18 rfl (show sCode 183 17 = some (.iconst 0, 1) by decide +kernel) ⟨by decide, by decide⟩ ?_
  exact kk
theorem b183_18 {d : Nat} {P : Int → sM → sG → Prop} {M : sM} {G : sG} {s0 : Int}  (h01 : s0 = 0 ∨ s0 = 1) (kk : P s0 M G) : sW (sC d) 183 (QI P) 18 [vN, vN, vN, vN, vN, vN] [vI s0] M G 0 0 := by
  exact q_zret (show sCode 183 18 = some (.ireturn, 1) by decide +kernel) (by decide +kernel) h01 (by decide +kernel) kk
-- 184 AfterTheLastModel.isStayHere (I)Z
theorem b184_0 {d : Nat} {Q : Option sV → sM → sG → Prop} {M : sM} {G : sG} {a0 : Nat} {x1 : Int}  (k1 : M a0 8 ≠ 18 → sW (sC d) 184 Q 16 [vO 12 a0, vN, vN] [] M G 0 0) (k2 : M a0 8 = 18 → sW (sC d) 184 Q 9 [vO 12 a0, vI x1, vN] [] M G 0 0) : sW (sC d) 184 Q 0 [vO 12 a0, vI x1, vN] [] M G 0 0 := by
  refine q_aload_n 1 rfl (show sCode 184 0 = some (.aload_n 0, 1) by decide +kernel) rfl (Nat.le_of_ble_eq_true rfl) ?_
  refine q_getI 4 rfl (show sCode 184 1 = some (.getfield 226, 3) by decide +kernel) (show sFR (sKo 184).1 226 = some (12, 8) by decide +kernel) (by decide +kernel) (Or.inl (Or.inl rfl)) ?_
  refine q_bipush 6 rfl (show sCode 184 4 = some (.bipush 18, 2) by decide +kernel) ⟨by decide, by decide⟩ (by decide +kernel) ?_
  refine q_icmpne 16 9 rfl (by decide) (show sCode 184 6 = some (.if_icmp .ne 10, 3) by decide +kernel) ?_ ?_
  · intro q; refine q_forget (L' := [vO 12 a0, vN, vN]) 1 rfl ?_; exact k1 q
  · intro q; exact k2 q
theorem b184_9 {d : Nat} {Q : Option sV → sM → sG → Prop} {M : sM} {G : sG} {a0 : Nat} {x1 : Int}  (kk : sC d 178 [vO 12 a0, vI 4, vI x1] M G (QI (fun r M1 G1 => sW (sC d) 184 Q 15 [vN, vN, vN] (vI r :: []) M1 G1 0 0))) : sW (sC d) 184 Q 9 [vO 12 a0, vI x1, vN] [] M G 0 0 := by
  refine q_aload_n 10 rfl (show sCode 184 9 = some (.aload_n 0, 1) by decide +kernel) rfl (Nat.le_of_ble_eq_true rfl) ?_
  refine q_iconst 11 rfl (show sCode 184 10 = some (.iconst 4, 1) by decide +kernel) ⟨by decide, by decide⟩ ?_
  refine q_iload_n 12 rfl (show sCode 184 11 = some (.iload_n 1, 1) by decide +kernel) rfl ?_
  refine q_forget (L' := [vN, vI x1, vN]) 0 rfl ?_
  refine q_forget (L' := [vN, vN, vN]) 1 rfl ?_
  exact q_virtI [vI 4, vI x1] 15 rfl (show sCode 184 12 = some (.invokevirtual 120, 3) by decide +kernel) (show sMR (sKo 184).1 120 = some 178 by decide +kernel) (show 178 < 1000 ∧ sStat 178 = false ∧ sIni 178 = false ∧ sKo 178 = (12, 2, 2, 0, 0) by decide +kernel) rfl (Or.inl rfl) rfl (Nat.le_of_ble_eq_true rfl) rfl rfl rfl (by decide +kernel) kk
theorem b184_15 {d : Nat} {P : Int → sM → sG → Prop} {M : sM} {G : sG} {s0 : Int}  (h01 : s0 = 0 ∨ s0 = 1) (kk : P s0 M G) : sW (sC d) 184 (QI P) 15 [vN, vN, vN] [vI s0] M G 0 0 := by
  exact q_zret (show sCode 184 15 = some (.ireturn, 1) by decide +kernel) (by decide +kernel) h01 (by decide +kernel) kk
theorem b184_16 {d : Nat} {Q : Option sV → sM → sG → Prop} {M : sM} {G : sG} {a0 : Nat}  (kk : sC d 180 [vO 12 a0] M G (QV (fun M1 G1 => sW (sC d) 184 Q 20 [vO 12 a0, vN, vN] [] M1 G1 0 0))) : sW (sC d) 184 Q 16 [vO 12 a0, vN, vN] [] M G 0 0 := by
  refine q_aload_n 17 rfl (show sCode 184 16 = some (.aload_n 0, 1) by decide +kernel) rfl (Nat.le_of_ble_eq_true rfl) ?_
  exact q_virtV [] 20 rfl (show sCode 184 17 = some (.invokevirtual 114, 3) by decide +kernel) (show sMR (sKo 184).1 114 = some 180 by decide +kernel) (show 180 < 1000 ∧ sStat 180 = false ∧ sIni 180 = false ∧ sKo 180 = (12, 0, 0, 0, 0) by decide +kernel) rfl (Or.inl rfl) rfl (Nat.le_of_ble_eq_true rfl) rfl rfl rfl (by decide +kernel) kk
theorem b184_20 {d : Nat} {Q : Option sV → sM → sG → Prop} {M : sM} {G : sG} {a0 : Nat} (h1 : sI (5 * (M a0 8))) (kk : sC d 181 [vO 12 a0, vI 0, vI 11] M G (QI (fun r M1 G1 => sW (sC d) 184 Q 34 [vO 12 a0, vN, vI (5 * (M a0 8))] (vI r :: []) M1 G1 0 0))) : sW (sC d) 184 Q 20 [vO 12 a0, vN, vN] [] M G 0 0 := by
  refine q_iconst 21 rfl (show sCode 184 20 = some (.iconst 5, 1) by decide +kernel) ⟨by decide, by decide⟩ ?_
  refine q_aload_n 22 rfl (show sCode 184 21 = some (.aload_n 0, 1) by decide +kernel) rfl (Nat.le_of_ble_eq_true rfl) ?_
  refine q_getI 25 rfl (show sCode 184 22 = some (.getfield 226, 3) by decide +kernel) (show sFR (sKo 184).1 226 = some (12, 8) by decide +kernel) (by decide +kernel) (Or.inl (Or.inl rfl)) ?_
  refine q_imul 26 rfl (show sCode 184 25 = some (.imul, 1) by decide +kernel) h1 ?_
  refine q_istore_n [vO 12 a0, vN, vI (5 * (M a0 8))] 27 rfl (show sCode 184 26 = some (.istore_n 2, 1) by decide +kernel) (Nat.lt_of_lt_of_le (Nat.lt_succ_self _) (Nat.le_of_ble_eq_true rfl)) rfl rfl ?_
  refine q_aload_n 28 rfl (show sCode 184 27 = some (.aload_n 0, 1) by decide +kernel) rfl (Nat.le_of_ble_eq_true rfl) ?_
  refine q_iconst 29 rfl (show sCode 184 28 = some (.iconst 0, 1) by decide +kernel) ⟨by decide, by decide⟩ ?_
  refine q_bipush 31 rfl (show sCode 184 29 = some (.bipush 11, 2) by decide +kernel) ⟨by decide, by decide⟩ (by decide +kernel) ?_
  exact q_virtI [vI 0, vI 11] 34 rfl (show sCode 184 31 = some (.invokevirtual 172, 3) by decide +kernel) (show sMR (sKo 184).1 172 = some 181 by decide +kernel) (show 181 < 1000 ∧ sStat 181 = false ∧ sIni 181 = false ∧ sKo 181 = (12, 2, 2, 0, 0) by decide +kernel) rfl (Or.inl rfl) rfl (Nat.le_of_ble_eq_true rfl) rfl rfl rfl (by decide +kernel) kk
theorem b184_34 {d : Nat} {Q : Option sV → sM → sG → Prop} {M : sM} {G : sG} {a0 : Nat} {x2 : Int} {s0 : Int}  (k1 : s0 ≠ 0 → sW (sC d) 184 Q 39 [vO 12 a0, vN, vI x2] [] M G 0 0) (k2 : s0 = 0 → sW (sC d) 184 Q 37 [vN, vN, vN] [] M G 0 0) : sW (sC d) 184 Q 34 [vO 12 a0, vN, vI x2] [vI s0] M G 0 0 := by
  refine q_ifne 39 37 rfl (by decide) (show sCode 184 34 = some (.ifCond .ne 5, 3) by decide +kernel) ?_ ?_
  · intro q; exact k1 q
  · intro q; refine q_forget (L' := [vN, vN, vI x2]) 0 rfl ?_; refine q_forget (L' := [vN, vN, vN]) 2 rfl ?_; exact k2 q
theorem b184_37 {d : Nat} {P : Int → sM → sG → Prop} {M : sM} {G : sG}   (kk : P 0 M G) : sW (sC d) 184 (QI P) 37 [vN, vN, vN] [] M G 0 0 := by
  refine q_iconst 38 rfl (show sCode 184 37 = some (.iconst 0, 1) by decide +kernel) ⟨by decide, by decide⟩ ?_
  exact q_zret (show sCode 184 38 = some (.ireturn, 1) by decide +kernel) (by decide +kernel) (by decide) (by decide +kernel) kk
theorem b184_39 {d : Nat} {Q : Option sV → sM → sG → Prop} {M : sM} {G : sG} {a0 : Nat} {x2 : Int} (h1 : 0 ≤ x2 ∧ x2 < 90) (h2 : sI (((sUpd M (a0 + 7) x2.toNat (M a0 13)) a0 7) - 1)) (kk : sC d 181 [vO 12 a0, vI 0, vI (((sUpd M (a0 + 7) x2.toNat (M a0 13)) a0 7) - 1)] (sUpd M (a0 + 7) x2.toNat (M a0 13)) G (QI (fun r M1 G1 => sW (sC d) 184 Q 60 [vO 12 a0, vN, vI x2] (vI r :: []) M1 G1 0 0))) : sW (sC d) 184 Q 39 [vO 12 a0, vN, vI x2] [] M G 0 0 := by
  refine q_aload_n 40 rfl (show sCode 184 39 = some (.aload_n 0, 1) by decide +kernel) rfl (Nat.le_of_ble_eq_true rfl) ?_
  refine q_getR (vA 0 (a0 + 7) 90) 43 rfl (show sCode 184 40 = some (.getfield 29, 3) by decide +kernel) (show sFR (sKo 184).1 29 = some (12, 10) by decide +kernel) (by decide +kernel) (Or.inl (Or.inl rfl)) rfl ?_
  refine q_iload_n 44 rfl (show sCode 184 43 = some (.iload_n 2, 1) by decide +kernel) rfl ?_
  refine q_aload_n 45 rfl (show sCode 184 44 = some (.aload_n 0, 1) by decide +kernel) rfl (Nat.le_of_ble_eq_true rfl) ?_
  refine q_getI 48 rfl (show sCode 184 45 = some (.getfield 124, 3) by decide +kernel) (show sFR (sKo 184).1 124 = some (12, 13) by decide +kernel) (by decide +kernel) (Or.inl (Or.inl rfl)) ?_
  refine q_iast 49 rfl (show sCode 184 48 = some (.iastore, 1) by decide +kernel) h1 ?_
  refine q_aload_n 50 rfl (show sCode 184 49 = some (.aload_n 0, 1) by decide +kernel) rfl (Nat.le_of_ble_eq_true rfl) ?_
  refine q_iconst 51 rfl (show sCode 184 50 = some (.iconst 0, 1) by decide +kernel) ⟨by decide, by decide⟩ ?_
  refine q_aload_n 52 rfl (show sCode 184 51 = some (.aload_n 0, 1) by decide +kernel) rfl (Nat.le_of_ble_eq_true rfl) ?_
  refine q_getI 55 rfl (show sCode 184 52 = some (.getfield 217, 3) by decide +kernel) (show sFR (sKo 184).1 217 = some (12, 7) by decide +kernel) (by decide +kernel) (Or.inl (Or.inl rfl)) ?_
  refine q_iconst 56 rfl (show sCode 184 55 = some (.iconst 1, 1) by decide +kernel) ⟨by decide, by decide⟩ ?_
  refine q_isub 57 rfl (show sCode 184 56 = some (.isub, 1) by decide +kernel) h2 ?_
  exact q_virtI [vI 0, vI (((sUpd M (a0 + 7) x2.toNat (M a0 13)) a0 7) - 1)] 60 rfl (show sCode 184 57 = some (.invokevirtual 172, 3) by decide +kernel) (show sMR (sKo 184).1 172 = some 181 by decide +kernel) (show 181 < 1000 ∧ sStat 181 = false ∧ sIni 181 = false ∧ sKo 181 = (12, 2, 2, 0, 0) by decide +kernel) rfl (Or.inl rfl) rfl (Nat.le_of_ble_eq_true rfl) rfl rfl rfl (by decide +kernel) kk
theorem b184_60 {d : Nat} {Q : Option sV → sM → sG → Prop} {M : sM} {G : sG} {a0 : Nat} {x2 : Int} {s0 : Int}  (k1 : s0 ≠ 0 → sW (sC d) 184 Q 65 [vO 12 a0, vN, vI x2] [] M G 0 0) (k2 : s0 = 0 → sW (sC d) 184 Q 63 [vN, vN, vN] [] M G 0 0) : sW (sC d) 184 Q 60 [vO 12 a0, vN, vI x2] [vI s0] M G 0 0 := by
  refine q_ifne 65 63 rfl (by decide) (show sCode 184 60 = some (.ifCond .ne 5, 3) by decide +kernel) ?_ ?_
  · intro q; exact k1 q
  · intro q; refine q_forget (L' := [vN, vN, vI x2]) 0 rfl ?_; refine q_forget (L' := [vN, vN, vN]) 2 rfl ?_; exact k2 q
theorem b184_63 {d : Nat} {P : Int → sM → sG → Prop} {M : sM} {G : sG}   (kk : P 0 M G) : sW (sC d) 184 (QI P) 63 [vN, vN, vN] [] M G 0 0 := by
  refine q_iconst 64 rfl (show sCode 184 63 = some (.iconst 0, 1) by decide +kernel) ⟨by decide, by decide⟩ ?_
  exact q_zret (show sCode 184 64 = some (.ireturn, 1) by decide +kernel) (by decide +kernel) (by decide) (by decide +kernel) kk
theorem b184_65 {d : Nat} {Q : Option sV → sM → sG → Prop} {M : sM} {G : sG} {a0 : Nat} {x2 : Int} (h1 : sI (x2 + 1)) (h2 : 0 ≤ x2 + 1 ∧ x2 + 1 < 90) (kk : sC d 181 [vO 12 a0, vI 0, vI 95] (sUpd M (a0 + 7) (x2 + 1).toNat (M a0 13)) G (QI (fun r M1 G1 => sW (sC d) 184 Q 84 [vO 12 a0, vN, vI x2] (vI r :: []) M1 G1 0 0))) : sW (sC d) 184 Q 65 [vO 12 a0, vN, vI x2] [] M G 0 0 := by
  refine q_aload_n 66 rfl (show sCode 184 65 = some (.aload_n 0, 1) by decide +kernel) rfl (Nat.le_of_ble_eq_true rfl) ?_
  refine q_getR (vA 0 (a0 + 7) 90) 69 rfl (show sCode 184 66 = some (.getfield 29, 3) by decide +kernel) (show sFR (sKo 184).1 29 = some (12, 10) by decide +kernel) (by decide +kernel) (Or.inl (Or.inl rfl)) rfl ?_
  refine q_iload_n 70 rfl (show sCode 184 69 = some (.iload_n 2, 1) by decide +kernel) rfl ?_
  refine q_iconst 71 rfl (show sCode 184 70 = some (.iconst 1, 1) by decide +kernel) ⟨by decide, by decide⟩ ?_
  refine q_iadd 72 rfl (show sCode 184 71 = some (.iadd, 1) by decide +kernel) h1 ?_
  refine q_aload_n 73 rfl (show sCode 184 72 = some (.aload_n 0, 1) by decide +kernel) rfl (Nat.le_of_ble_eq_true rfl) ?_
  refine q_getI 76 rfl (show sCode 184 73 = some (.getfield 124, 3) by decide +kernel) (show sFR (sKo 184).1 124 = some (12, 13) by decide +kernel) (by decide +kernel) (Or.inl (Or.inl rfl)) ?_
  refine q_iast 77 rfl (show sCode 184 76 = some (.iastore, 1) by decide +kernel) h2 ?_
  refine q_aload_n 78 rfl (show sCode 184 77 = some (.aload_n 0, 1) by decide +kernel) rfl (Nat.le_of_ble_eq_true rfl) ?_
  refine q_iconst 79 rfl (show sCode 184 78 = some (.iconst 0, 1) by decide +kernel) ⟨by decide, by decide⟩ ?_
  refine q_bipush 81 rfl (show sCode 184 79 = some (.bipush 95, 2) by decide +kernel) ⟨by decide, by decide⟩ (by decide +kernel) ?_
  exact q_virtI [vI 0, vI 95] 84 rfl (show sCode 184 81 = some (.invokevirtual 172, 3) by decide +kernel) (show sMR (sKo 184).1 172 = some 181 by decide +kernel) (show 181 < 1000 ∧ sStat 181 = false ∧ sIni 181 = false ∧ sKo 181 = (12, 2, 2, 0, 0) by decide +kernel) rfl (Or.inl rfl) rfl (Nat.le_of_ble_eq_true rfl) rfl rfl rfl (by decide +kernel) kk
theorem b184_84 {d : Nat} {Q : Option sV → sM → sG → Prop} {M : sM} {G : sG} {a0 : Nat} {x2 : Int} {s0 : Int}  (k1 : s0 ≠ 0 → sW (sC d) 184 Q 89 [vO 12 a0, vN, vI x2] [] M G 0 0) (k2 : s0 = 0 → sW (sC d) 184 Q 87 [vN, vN, vN] [] M G 0 0) : sW (sC d) 184 Q 84 [vO 12 a0, vN, vI x2] [vI s0] M G 0 0 := by
  refine q_ifne 89 87 rfl (by decide) (show sCode 184 84 = some (.ifCond .ne 5, 3) by decide +kernel) ?_ ?_
  · intro q; exact k1 q
  · intro q; refine q_forget (L' := [vN, vN, vI x2]) 0 rfl ?_; refine q_forget (L' := [vN, vN, vN]) 2 rfl ?_; exact k2 q
theorem b184_87 {d : Nat} {P : Int → sM → sG → Prop} {M : sM} {G : sG}   (kk : P 0 M G) : sW (sC d) 184 (QI P) 87 [vN, vN, vN] [] M G 0 0 := by
  refine q_iconst 88 rfl (show sCode 184 87 = some (.iconst 0, 1) by decide +kernel) ⟨by decide, by decide⟩ ?_
  exact q_zret (show sCode 184 88 = some (.ireturn, 1) by decide +kernel) (by decide +kernel) (by decide) (by decide +kernel) kk
theorem b184_89 {d : Nat} {Q : Option sV → sM → sG → Prop} {M : sM} {G : sG} {a0 : Nat} {x2 : Int} (h1 : sI (x2 + 2)) (h2 : 0 ≤ x2 + 2 ∧ x2 + 2 < 90) (h3 : sI (((sUpd M (a0 + 7) (x2 + 2).toNat (M a0 13)) a0 13) + 1)) (kk : sC d 181 [vO 12 a0, vI (((sUpd M (a0 + 7) (x2 + 2).toNat (M a0 13)) a0 13) + 1), vI 95] (sUpd M (a0 + 7) (x2 + 2).toNat (M a0 13)) G (QI (fun r M1 G1 => sW (sC d) 184 Q 113 [vO 12 a0, vN, vI x2] (vI r :: []) M1 G1 0 0))) : sW (sC d) 184 Q 89 [vO 12 a0, vN, vI x2] [] M G 0 0 := by
  refine q_aload_n 90 rfl (show sCode 184 89 = some (.aload_n 0, 1) by decide +kernel) rfl (Nat.le_of_ble_eq_true rfl) ?_
  refine q_getR (vA 0 (a0 + 7) 90) 93 rfl (show sCode 184 90 = some (.getfield 29, 3) by decide +kernel) (show sFR (sKo 184).1 29 = some (12, 10) by decide +kernel) (by decide +kernel) (Or.inl (Or.inl rfl)) rfl ?_
  refine q_iload_n 94 rfl (show sCode 184 93 = some (.iload_n 2, 1) by decide +kernel) rfl ?_
  refine q_iconst 95 rfl (show sCode 184 94 = some (.iconst 2, 1) by decide +kernel) ⟨by decide, by decide⟩ ?_
  refine q_iadd 96 rfl (show sCode 184 95 = some (.iadd, 1) by decide +kernel) h1 ?_
  refine q_aload_n 97 rfl (show sCode 184 96 = some (.aload_n 0, 1) by decide +kernel) rfl (Nat.le_of_ble_eq_true rfl) ?_
  refine q_getI 100 rfl (show sCode 184 97 = some (.getfield 124, 3) by decide +kernel) (show sFR (sKo 184).1 124 = some (12, 13) by decide +kernel) (by decide +kernel) (Or.inl (Or.inl rfl)) ?_
  refine q_iast 101 rfl (show sCode 184 100 = some (.iastore, 1) by decide +kernel) h2 ?_
  refine q_aload_n 102 rfl (show sCode 184 101 = some (.aload_n 0, 1) by decide +kernel) rfl (Nat.le_of_ble_eq_true rfl) ?_
  refine q_aload_n 103 rfl (show sCode 184 102 = some (.aload_n 0, 1) by decide +kernel) rfl (Nat.le_of_ble_eq_true rfl) ?_
  refine q_getI 106 rfl (show sCode 184 103 = some (.getfield 124, 3) by decide +kernel) (show sFR (sKo 184).1 124 = some (12, 13) by decide +kernel) (by decide +kernel) (Or.inl (Or.inl rfl)) ?_
  refine q_iconst 107 rfl (show sCode 184 106 = some (.iconst 1, 1) by decide +kernel) ⟨by decide, by decide⟩ ?_
  refine q_iadd 108 rfl (show sCode 184 107 = some (.iadd, 1) by decide +kernel) h3 ?_
  refine q_bipush 110 rfl (show sCode 184 108 = some (.bipush 95, 2) by decide +kernel) ⟨by decide, by decide⟩ (by decide +kernel) ?_
  exact q_virtI [vI (((sUpd M (a0 + 7) (x2 + 2).toNat (M a0 13)) a0 13) + 1), vI 95] 113 rfl (show sCode 184 110 = some (.invokevirtual 172, 3) by decide +kernel) (show sMR (sKo 184).1 172 = some 181 by decide +kernel) (show 181 < 1000 ∧ sStat 181 = false ∧ sIni 181 = false ∧ sKo 181 = (12, 2, 2, 0, 0) by decide +kernel) rfl (Or.inl rfl) rfl (Nat.le_of_ble_eq_true rfl) rfl rfl rfl (by decide +kernel) kk
theorem b184_113 {d : Nat} {Q : Option sV → sM → sG → Prop} {M : sM} {G : sG} {a0 : Nat} {x2 : Int} {s0 : Int}  (k1 : s0 ≠ 0 → sW (sC d) 184 Q 118 [vO 12 a0, vN, vI x2] [] M G 0 0) (k2 : s0 = 0 → sW (sC d) 184 Q 116 [vN, vN, vN] [] M G 0 0) : sW (sC d) 184 Q 113 [vO 12 a0, vN, vI x2] [vI s0] M G 0 0 := by
  refine q_ifne 118 116 rfl (by decide) (show sCode 184 113 = some (.ifCond .ne 5, 3) by decide +kernel) ?_ ?_
  · intro q; exact k1 q
  · intro q; refine q_forget (L' := [vN, vN, vI x2]) 0 rfl ?_; refine q_forget (L' := [vN, vN, vN]) 2 rfl ?_; exact k2 q
theorem b184_116 {d : Nat} {P : Int → sM → sG → Prop} {M : sM} {G : sG}   (kk : P 0 M G) : sW (sC d) 184 (QI P) 116 [vN, vN, vN] [] M G 0 0 := by
  refine q_iconst 117 rfl (show sCode 184 116 = some (.iconst 0, 1) by decide +kernel) ⟨by decide, by decide⟩ ?_
  exact q_zret (show sCode 184 117 = some (.ireturn, 1) by decide +kernel) (by decide +kernel) (by decide) (by decide +kernel) kk
theorem b184_118 {d : Nat} {Q : Option sV → sM → sG → Prop} {M : sM} {G : sG} {a0 : Nat} {x2 : Int} (h1 : sI (x2 + 3)) (h2 : 0 ≤ x2 + 3 ∧ x2 + 3 < 90) (kk : sC d 181 [vO 12 a0, vI 0, vI 99] (sUpd M (a0 + 7) (x2 + 3).toNat (M a0 13)) G (QI (fun r M1 G1 => sW (sC d) 184 Q 137 [vO 12 a0, vN, vI x2] (vI r :: []) M1 G1 0 0))) : sW (sC d) 184 Q 118 [vO 12 a0, vN, vI x2] [] M G 0 0 := by
  refine q_aload_n 119 rfl (show sCode 184 118 = some (.aload_n 0, 1) by decide +kernel) rfl (Nat.le_of_ble_eq_true rfl) ?_
  refine q_getR (vA 0 (a0 + 7) 90) 122 rfl (show sCode 184 119 = some (.getfield 29, 3) by decide +kernel) (show sFR (sKo 184).1 29 = some (12, 10) by decide +kernel) (by decide +kernel) (Or.inl (Or.inl rfl)) rfl ?_
  refine q_iload_n 123 rfl (show sCode 184 122 = some (.iload_n 2, 1) by decide +kernel) rfl ?_
  refine q_iconst 124 rfl (show sCode 184 123 = some (.iconst 3, 1) by decide +kernel) ⟨by decide, by decide⟩ ?_
  refine q_iadd 125 rfl (show sCode 184 124 = some (.iadd, 1) by decide +kernel) h1 ?_
  refine q_aload_n 126 rfl (show sCode 184 125 = some (.aload_n 0, 1) by decide +kernel) rfl (Nat.le_of_ble_eq_true rfl) ?_
  refine q_getI 129 rfl (show sCode 184 126 = some (.getfield 124, 3) by decide +kernel) (show sFR (sKo 184).1 124 = some (12, 13) by decide +kernel) (by decide +kernel) (Or.inl (Or.inl rfl)) ?_
  refine q_iast 130 rfl (show sCode 184 129 = some (.iastore, 1) by decide +kernel) h2 ?_
  refine q_aload_n 131 rfl (show sCode 184 130 = some (.aload_n 0, 1) by decide +kernel) rfl (Nat.le_of_ble_eq_true rfl) ?_
  refine q_iconst 132 rfl (show sCode 184 131 = some (.iconst 0, 1) by decide +kernel) ⟨by decide, by decide⟩ ?_
  refine q_bipush 134 rfl (show sCode 184 132 = some (.bipush 99, 2) by decide +kernel) ⟨by decide, by decide⟩ (by decide +kernel) ?_
  exact q_virtI [vI 0, vI 99] 137 rfl (show sCode 184 134 = some (.invokevirtual 172, 3) by decide +kernel) (show sMR (sKo 184).1 172 = some 181 by decide +kernel) (show 181 < 1000 ∧ sStat 181 = false ∧ sIni 181 = false ∧ sKo 181 = (12, 2, 2, 0, 0) by decide +kernel) rfl (Or.inl rfl) rfl (Nat.le_of_ble_eq_true rfl) rfl rfl rfl (by decide +kernel) kk
theorem b184_137 {d : Nat} {Q : Option sV → sM → sG → Prop} {M : sM} {G : sG} {a0 : Nat} {x2 : Int} {s0 : Int}  (k1 : s0 ≠ 0 → sW (sC d) 184 Q 142 [vO 12 a0, vN, vI x2] [] M G 0 0) (k2 : s0 = 0 → sW (sC d) 184 Q 140 [vN, vN, vN] [] M G 0 0) : sW (sC d) 184 Q 137 [vO 12 a0, vN, vI x2] [vI s0] M G 0 0 := by
  refine q_ifne 142 140 rfl (by decide) (show sCode 184 137 = some (.ifCond .ne 5, 3) by decide +kernel) ?_ ?_
  · intro q; exact k1 q
  · intro q; refine q_forget (L' := [vN, vN, vI x2]) 0 rfl ?_; refine q_forget (L' := [vN, vN, vN]) 2 rfl ?_; exact k2 q
theorem b184_140 {d : Nat} {P : Int → sM → sG → Prop} {M : sM} {G : sG}   (kk : P 0 M G) : sW (sC d) 184 (QI P) 140 [vN, vN, vN] [] M G 0 0 := by
  refine q_iconst 141 rfl (show sCode 184 140 = some (.iconst 0, 1) by decide +kernel) ⟨by decide, by decide⟩ ?_
  exact q_zret (show sCode 184 141 = some (.ireturn, 1) by decide +kernel) (by decide +kernel) (by decide) (by decide +kernel) kk
theorem b184_142 {d : Nat} {P : Int → sM → sG → Prop} {M : sM} {G : sG} {a0 : Nat} {x2 : Int} (h1 : sI (x2 + 4)) (h2 : 0 ≤ x2 + 4 ∧ x2 + 4 < 90) (h3 : sI (((sUpd M (a0 + 7) (x2 + 4).toNat (M a0 13)) a0 8) + 1)) (kk : P 1 (sUpd (sUpd M (a0 + 7) (x2 + 4).toNat (M a0 13)) a0 8 (((sUpd M (a0 + 7) (x2 + 4).toNat (M a0 13)) a0 8) + 1)) G) : sW (sC d) 184 (QI P) 142 [vO 12 a0, vN, vI x2] [] M G 0 0 := by
  refine q_aload_n 143 rfl (show sCode 184 142 = some (.aload_n 0, 1) by decide +kernel) rfl (Nat.le_of_ble_eq_true rfl) ?_
  refine q_getR (vA 0 (a0 + 7) 90) 146 rfl (show sCode 184 143 = some (.getfield 29, 3) by decide +kernel) (show sFR (sKo 184).1 29 = some (12, 10) by decide +kernel) (by decide +kernel) (Or.inl (Or.inl rfl)) rfl ?_
  refine q_iload_n 147 rfl (show sCode 184 146 = some (.iload_n 2, 1) by decide +kernel) rfl ?_
  refine q_iconst 148 rfl (show sCode 184 147 = some (.iconst 4, 1) by decide +kernel) ⟨by decide, by decide⟩ ?_
  refine q_iadd 149 rfl (show sCode 184 148 = some (.iadd, 1) by decide +kernel) h1 ?_
  refine q_aload_n 150 rfl (show sCode 184 149 = some (.aload_n 0, 1) by decide +kernel) rfl (Nat.le_of_ble_eq_true rfl) ?_
  refine q_getI 153 rfl (show sCode 184 150 = some (.getfield 124, 3) by decide +kernel) (show sFR (sKo 184).1 124 = some (12, 13) by decide +kernel) (by decide +kernel) (Or.inl (Or.inl rfl)) ?_
  refine q_iast 154 rfl (show sCode 184 153 = some (.iastore, 1) by decide +kernel) h2 ?_
  refine q_aload_n 155 rfl (show sCode 184 154 = some (.aload_n 0, 1) by decide +kernel) rfl (Nat.le_of_ble_eq_true rfl) ?_
  refine q_dup 156 rfl (show sCode 184 155 = some (.dup, 1) by decide +kernel) rfl ?_
  refine q_getI 159 rfl (show sCode 184 156 = some (.getfield 226, 3) by decide +kernel) (show sFR (sKo 184).1 226 = some (12, 8) by decide +kernel) (by decide +kernel) (Or.inl (Or.inl rfl)) ?_
  refine q_iconst 160 rfl (show sCode 184 159 = some (.iconst 1, 1) by decide +kernel) ⟨by decide, by decide⟩ ?_
  refine q_iadd 161 rfl (show sCode 184 160 = some (.iadd, 1) by decide +kernel) h3 ?_
  refine q_putI 164 rfl (show sCode 184 161 = some (.putfield 226, 3) by decide +kernel) (show sFR (sKo 184).1 226 = some (12, 8) by decide +kernel) (by decide +kernel) (Or.inl ⟨Or.inl rfl, by decide +kernel⟩) ?_
  refine q_iconst 165 rfl (show sCode 184 164 = some (.iconst 1, 1) by decide +kernel) ⟨by decide, by decide⟩ ?_
  exact q_zret (show sCode 184 165 = some (.ireturn, 1) by decide +kernel) (by decide +kernel) (by decide) (by decide +kernel) kk
-- 185 AfterTheLastModel.clauseOf (I)Z
theorem b185_0 {d : Nat} {Q : Option sV → sM → sG → Prop} {M : sM} {G : sG} {a0 : Nat} {x1 : Int}  (kk : sC d 180 [vO 12 a0] M G (QV (fun M1 G1 => sW (sC d) 185 Q 4 [vO 12 a0, vI x1, vN] [] M1 G1 0 0))) : sW (sC d) 185 Q 0 [vO 12 a0, vI x1, vN] [] M G 0 0 := by
  refine q_aload_n 1 rfl (show sCode 185 0 = some (.aload_n 0, 1) by decide +kernel) rfl (Nat.le_of_ble_eq_true rfl) ?_
  exact q_virtV [] 4 rfl (show sCode 185 1 = some (.invokevirtual 114, 3) by decide +kernel) (show sMR (sKo 185).1 114 = some 180 by decide +kernel) (show 180 < 1000 ∧ sStat 180 = false ∧ sIni 180 = false ∧ sKo 180 = (12, 0, 0, 0, 0) by decide +kernel) rfl (Or.inl rfl) rfl (Nat.le_of_ble_eq_true rfl) rfl rfl rfl (by decide +kernel) kk
theorem b185_4 {d : Nat} {Q : Option sV → sM → sG → Prop} {M : sM} {G : sG} {a0 : Nat} {x1 : Int} (h1 : sI (36 * (M a0 14))) (h2 : 0 ≤ M a0 14 ∧ M a0 14 < 6) (h3 : sI (3 * (M (a0 + 5) (M a0 14).toNat))) (h4 : sI ((36 * (M a0 14)) + (3 * (M (a0 + 5) (M a0 14).toNat)))) (h5 : 0 ≤ (36 * (M a0 14)) + (3 * (M (a0 + 5) (M a0 14).toNat)) ∧ (36 * (M a0 14)) + (3 * (M (a0 + 5) (M a0 14).toNat)) < 216) (h6 : sI (((36 * (M a0 14)) + (3 * (M (a0 + 5) (M a0 14).toNat))) + 1)) (h7 : 0 ≤ (sUpd M (a0 + 4) ((36 * (M a0 14)) + (3 * (M (a0 + 5) (M a0 14).toNat))).toNat x1) a0 14 ∧ (sUpd M (a0 + 4) ((36 * (M a0 14)) + (3 * (M (a0 + 5) (M a0 14).toNat))).toNat x1) a0 14 < 7) (h8 : 0 ≤ ((36 * (M a0 14)) + (3 * (M (a0 + 5) (M a0 14).toNat))) + 1 ∧ ((36 * (M a0 14)) + (3 * (M (a0 + 5) (M a0 14).toNat))) + 1 < 216) (kk : sC d 186 [vO 12 a0] (sUpd (sUpd M (a0 + 4) ((36 * (M a0 14)) + (3 * (M (a0 + 5) (M a0 14).toNat))).toNat x1) (a0 + 4) (((36 * (M a0 14)) + (3 * (M (a0 + 5) (M a0 14).toNat))) + 1).toNat ((sUpd M (a0 + 4) ((36 * (M a0 14)) + (3 * (M (a0 + 5) (M a0 14).toNat))).toNat x1) (a0 + 3) ((sUpd M (a0 + 4) ((36 * (M a0 14)) + (3 * (M (a0 + 5) (M a0 14).toNat))).toNat x1) a0 14).toNat)) G (QI (fun r M1 G1 => sW (sC d) 185 Q 52 [vO 12 a0, vN, vI ((36 * (M a0 14)) + (3 * (M (a0 + 5) (M a0 14).toNat)))] (vI r :: []) M1 G1 0 0))) : sW (sC d) 185 Q 4 [vO 12 a0, vI x1, vN] [] M G 0 0 := by
  refine q_bipush 6 rfl (show sCode 185 4 = some (.bipush 36, 2) by decide +kernel) ⟨by decide, by decide⟩ (by decide +kernel) ?_
  refine q_aload_n 7 rfl (show sCode 185 6 = some (.aload_n 0, 1) by decide +kernel) rfl (Nat.le_of_ble_eq_true rfl) ?_
  refine q_getI 10 rfl (show sCode 185 7 = some (.getfield 151, 3) by decide +kernel) (show sFR (sKo 185).1 151 = some (12, 14) by decide +kernel) (by decide +kernel) (Or.inl (Or.inl rfl)) ?_
  refine q_imul 11 rfl (show sCode 185 10 = some (.imul, 1) by decide +kernel) h1 ?_
  refine q_iconst 12 rfl (show sCode 185 11 = some (.iconst 3, 1) by decide +kernel) ⟨by decide, by decide⟩ ?_
  refine q_aload_n 13 rfl (show sCode 185 12 = some (.aload_n 0, 1) by decide +kernel) rfl (Nat.le_of_ble_eq_true rfl) ?_
  refine q_getR (vA 0 (a0 + 5) 6) 16 rfl (show sCode 185 13 = some (.getfield 23, 3) by decide +kernel) (show sFR (sKo 185).1 23 = some (12, 6) by decide +kernel) (by decide +kernel) (Or.inl (Or.inl rfl)) rfl ?_
  refine q_aload_n 17 rfl (show sCode 185 16 = some (.aload_n 0, 1) by decide +kernel) rfl (Nat.le_of_ble_eq_true rfl) ?_
  refine q_getI 20 rfl (show sCode 185 17 = some (.getfield 151, 3) by decide +kernel) (show sFR (sKo 185).1 151 = some (12, 14) by decide +kernel) (by decide +kernel) (Or.inl (Or.inl rfl)) ?_
  refine q_iald 21 rfl (show sCode 185 20 = some (.iaload, 1) by decide +kernel) h2 ?_
  refine q_imul 22 rfl (show sCode 185 21 = some (.imul, 1) by decide +kernel) h3 ?_
  refine q_iadd 23 rfl (show sCode 185 22 = some (.iadd, 1) by decide +kernel) h4 ?_
  refine q_istore_n [vO 12 a0, vI x1, vI ((36 * (M a0 14)) + (3 * (M (a0 + 5) (M a0 14).toNat)))] 24 rfl (show sCode 185 23 = some (.istore_n 2, 1) by decide +kernel) (Nat.lt_of_lt_of_le (Nat.lt_succ_self _) (Nat.le_of_ble_eq_true rfl)) rfl rfl ?_
  refine q_aload_n 25 rfl (show sCode 185 24 = some (.aload_n 0, 1) by decide +kernel) rfl (Nat.le_of_ble_eq_true rfl) ?_
  refine q_getR (vA 0 (a0 + 4) 216) 28 rfl (show sCode 185 25 = some (.getfield 20, 3) by decide +kernel) (show sFR (sKo 185).1 20 = some (12, 5) by decide +kernel) (by decide +kernel) (Or.inl (Or.inl rfl)) rfl ?_
  refine q_iload_n 29 rfl (show sCode 185 28 = some (.iload_n 2, 1) by decide +kernel) rfl ?_
  refine q_iload_n 30 rfl (show sCode 185 29 = some (.iload_n 1, 1) by decide +kernel) rfl ?_
  refine q_iast 31 rfl (show sCode 185 30 = some (.iastore, 1) by decide +kernel) h5 ?_
  refine q_aload_n 32 rfl (show sCode 185 31 = some (.aload_n 0, 1) by decide +kernel) rfl (Nat.le_of_ble_eq_true rfl) ?_
  refine q_getR (vA 0 (a0 + 4) 216) 35 rfl (show sCode 185 32 = some (.getfield 20, 3) by decide +kernel) (show sFR (sKo 185).1 20 = some (12, 5) by decide +kernel) (by decide +kernel) (Or.inl (Or.inl rfl)) rfl ?_
  refine q_iload_n 36 rfl (show sCode 185 35 = some (.iload_n 2, 1) by decide +kernel) rfl ?_
  refine q_iconst 37 rfl (show sCode 185 36 = some (.iconst 1, 1) by decide +kernel) ⟨by decide, by decide⟩ ?_
  refine q_iadd 38 rfl (show sCode 185 37 = some (.iadd, 1) by decide +kernel) h6 ?_
  refine q_aload_n 39 rfl (show sCode 185 38 = some (.aload_n 0, 1) by decide +kernel) rfl (Nat.le_of_ble_eq_true rfl) ?_
  refine q_getR (vA 0 (a0 + 3) 7) 42 rfl (show sCode 185 39 = some (.getfield 17, 3) by decide +kernel) (show sFR (sKo 185).1 17 = some (12, 4) by decide +kernel) (by decide +kernel) (Or.inl (Or.inl rfl)) rfl ?_
  refine q_aload_n 43 rfl (show sCode 185 42 = some (.aload_n 0, 1) by decide +kernel) rfl (Nat.le_of_ble_eq_true rfl) ?_
  refine q_getI 46 rfl (show sCode 185 43 = some (.getfield 151, 3) by decide +kernel) (show sFR (sKo 185).1 151 = some (12, 14) by decide +kernel) (by decide +kernel) (Or.inl (Or.inl rfl)) ?_
  refine q_iald 47 rfl (show sCode 185 46 = some (.iaload, 1) by decide +kernel) h7 ?_
  refine q_iast 48 rfl (show sCode 185 47 = some (.iastore, 1) by decide +kernel) h8 ?_
  refine q_aload_n 49 rfl (show sCode 185 48 = some (.aload_n 0, 1) by decide +kernel) rfl (Nat.le_of_ble_eq_true rfl) ?_
  refine q_forget (L' := [vO 12 a0, vN, vI ((36 * (M a0 14)) + (3 * (M (a0 + 5) (M a0 14).toNat)))]) 1 rfl ?_
  exact q_virtI [] 52 rfl (show sCode 185 49 = some (.invokevirtual 214, 3) by decide +kernel) (show sMR (sKo 185).1 214 = some 186 by decide +kernel) (show 186 < 1000 ∧ sStat 186 = false ∧ sIni 186 = false ∧ sKo 186 = (12, 0, 2, 0, 0) by decide +kernel) rfl (Or.inl rfl) rfl (Nat.le_of_ble_eq_true rfl) rfl rfl rfl (by decide +kernel) kk
theorem b185_52 {d : Nat} {Q : Option sV → sM → sG → Prop} {M : sM} {G : sG} {a0 : Nat} {x2 : Int} {s0 : Int}  (k1 : s0 ≠ 0 → sW (sC d) 185 Q 57 [vO 12 a0, vN, vI x2] [] M G 0 0) (k2 : s0 = 0 → sW (sC d) 185 Q 55 [vN, vN, vN] [] M G 0 0) : sW (sC d) 185 Q 52 [vO 12 a0, vN, vI x2] [vI s0] M G 0 0 := by
  refine q_ifne 57 55 rfl (by decide) (show sCode 185 52 = some (.ifCond .ne 5, 3) by decide +kernel) ?_ ?_
  · intro q; exact k1 q
  · intro q; refine q_forget (L' := [vN, vN, vI x2]) 0 rfl ?_; refine q_forget (L' := [vN, vN, vN]) 2 rfl ?_; exact k2 q
theorem b185_55 {d : Nat} {P : Int → sM → sG → Prop} {M : sM} {G : sG}   (kk : P 0 M G) : sW (sC d) 185 (QI P) 55 [vN, vN, vN] [] M G 0 0 := by
  refine q_iconst 56 rfl (show sCode 185 55 = some (.iconst 0, 1) by decide +kernel) ⟨by decide, by decide⟩ ?_
  exact q_zret (show sCode 185 56 = some (.ireturn, 1) by decide +kernel) (by decide +kernel) (by decide) (by decide +kernel) kk
theorem b185_57 {d : Nat} {P : Int → sM → sG → Prop} {M : sM} {G : sG} {a0 : Nat} {x2 : Int} (h1 : sI (x2 + 2)) (h2 : 0 ≤ M a0 14 ∧ M a0 14 < 7) (h3 : 0 ≤ x2 + 2 ∧ x2 + 2 < 216) (h4 : 0 ≤ (sUpd M (a0 + 4) (x2 + 2).toNat (M (a0 + 3) (M a0 14).toNat)) a0 14 ∧ (sUpd M (a0 + 4) (x2 + 2).toNat (M (a0 + 3) (M a0 14).toNat)) a0 14 < 6) (h5 : sI (((sUpd M (a0 + 4) (x2 + 2).toNat (M (a0 + 3) (M a0 14).toNat)) (a0 + 5) ((sUpd M (a0 + 4) (x2 + 2).toNat (M (a0 + 3) (M a0 14).toNat)) a0 14).toNat) + 1)) (h6 : 0 ≤ (sUpd M (a0 + 4) (x2 + 2).toNat (M (a0 + 3) (M a0 14).toNat)) a0 14 ∧ (sUpd M (a0 + 4) (x2 + 2).toNat (M (a0 + 3) (M a0 14).toNat)) a0 14 < 6) (kk : P 1 (sUpd (sUpd M (a0 + 4) (x2 + 2).toNat (M (a0 + 3) (M a0 14).toNat)) (a0 + 5) ((sUpd M (a0 + 4) (x2 + 2).toNat (M (a0 + 3) (M a0 14).toNat)) a0 14).toNat (((sUpd M (a0 + 4) (x2 + 2).toNat (M (a0 + 3) (M a0 14).toNat)) (a0 + 5) ((sUpd M (a0 + 4) (x2 + 2).toNat (M (a0 + 3) (M a0 14).toNat)) a0 14).toNat) + 1)) G) : sW (sC d) 185 (QI P) 57 [vO 12 a0, vN, vI x2] [] M G 0 0 := by
  refine q_aload_n 58 rfl (show sCode 185 57 = some (.aload_n 0, 1) by decide +kernel) rfl (Nat.le_of_ble_eq_true rfl) ?_
  refine q_getR (vA 0 (a0 + 4) 216) 61 rfl (show sCode 185 58 = some (.getfield 20, 3) by decide +kernel) (show sFR (sKo 185).1 20 = some (12, 5) by decide +kernel) (by decide +kernel) (Or.inl (Or.inl rfl)) rfl ?_
  refine q_iload_n 62 rfl (show sCode 185 61 = some (.iload_n 2, 1) by decide +kernel) rfl ?_
  refine q_iconst 63 rfl (show sCode 185 62 = some (.iconst 2, 1) by decide +kernel) ⟨by decide, by decide⟩ ?_
  refine q_iadd 64 rfl (show sCode 185 63 = some (.iadd, 1) by decide +kernel) h1 ?_
  refine q_aload_n 65 rfl (show sCode 185 64 = some (.aload_n 0, 1) by decide +kernel) rfl (Nat.le_of_ble_eq_true rfl) ?_
  refine q_getR (vA 0 (a0 + 3) 7) 68 rfl (show sCode 185 65 = some (.getfield 17, 3) by decide +kernel) (show sFR (sKo 185).1 17 = some (12, 4) by decide +kernel) (by decide +kernel) (Or.inl (Or.inl rfl)) rfl ?_
  refine q_aload_n 69 rfl (show sCode 185 68 = some (.aload_n 0, 1) by decide +kernel) rfl (Nat.le_of_ble_eq_true rfl) ?_
  refine q_getI 72 rfl (show sCode 185 69 = some (.getfield 151, 3) by decide +kernel) (show sFR (sKo 185).1 151 = some (12, 14) by decide +kernel) (by decide +kernel) (Or.inl (Or.inl rfl)) ?_
  refine q_iald 73 rfl (show sCode 185 72 = some (.iaload, 1) by decide +kernel) h2 ?_
  refine q_iast 74 rfl (show sCode 185 73 = some (.iastore, 1) by decide +kernel) h3 ?_
  refine q_aload_n 75 rfl (show sCode 185 74 = some (.aload_n 0, 1) by decide +kernel) rfl (Nat.le_of_ble_eq_true rfl) ?_
  refine q_getR (vA 0 (a0 + 5) 6) 78 rfl (show sCode 185 75 = some (.getfield 23, 3) by decide +kernel) (show sFR (sKo 185).1 23 = some (12, 6) by decide +kernel) (by decide +kernel) (Or.inl (Or.inl rfl)) rfl ?_
  refine q_aload_n 79 rfl (show sCode 185 78 = some (.aload_n 0, 1) by decide +kernel) rfl (Nat.le_of_ble_eq_true rfl) ?_
  refine q_getI 82 rfl (show sCode 185 79 = some (.getfield 151, 3) by decide +kernel) (show sFR (sKo 185).1 151 = some (12, 14) by decide +kernel) (by decide +kernel) (Or.inl (Or.inl rfl)) ?_
  refine q_dup2 83 rfl (show sCode 185 82 = some (.dup2, 1) by decide +kernel) rfl rfl ?_
  refine q_iald 84 rfl (show sCode 185 83 = some (.iaload, 1) by decide +kernel) h4 ?_
  refine q_iconst 85 rfl (show sCode 185 84 = some (.iconst 1, 1) by decide +kernel) ⟨by decide, by decide⟩ ?_
  refine q_iadd 86 rfl (show sCode 185 85 = some (.iadd, 1) by decide +kernel) h5 ?_
  refine q_iast 87 rfl (show sCode 185 86 = some (.iastore, 1) by decide +kernel) h6 ?_
  refine q_iconst 88 rfl (show sCode 185 87 = some (.iconst 1, 1) by decide +kernel) ⟨by decide, by decide⟩ ?_
  exact q_zret (show sCode 185 88 = some (.ireturn, 1) by decide +kernel) (by decide +kernel) (by decide) (by decide +kernel) kk
-- 186 AfterTheLastModel.tested ()Z
theorem b186_0 {d : Nat} {Q : Option sV → sM → sG → Prop} {M : sM} {G : sG} {a0 : Nat}  (kk : sW (sC d) 186 Q 12 [vO 12 a0, vI 1, vN] [] (sUpd (sUpd M a0 19 0) a0 16 0) G 0 0) : sW (sC d) 186 Q 0 [vO 12 a0, vN, vN] [] M G 0 0 := by
  refine q_aload_n 1 rfl (show sCode 186 0 = some (.aload_n 0, 1) by decide +kernel) rfl (Nat.le_of_ble_eq_true rfl) ?_
  refine q_iconst 2 rfl (show sCode 186 1 = some (.iconst 0, 1) by decide +kernel) ⟨by decide, by decide⟩ ?_
  refine q_putI 5 rfl (show sCode 186 2 = some (.putfield 160, 3) by decide +kernel) (show sFR (sKo 186).1 160 = some (12, 19) by decide +kernel) (by decide +kernel) (Or.inl ⟨Or.inl rfl, by decide +kernel⟩) ?_
  refine q_aload_n 6 rfl (show sCode 186 5 = some (.aload_n 0, 1) by decide +kernel) rfl (Nat.le_of_ble_eq_true rfl) ?_
  refine q_iconst 7 rfl (show sCode 186 6 = some (.iconst 0, 1) by decide +kernel) ⟨by decide, by decide⟩ ?_
  refine q_putI 10 rfl (show sCode 186 7 = some (.putfield 157, 3) by decide +kernel) (show sFR (sKo 186).1 157 = some (12, 16) by decide +kernel) (by decide +kernel) (Or.inl ⟨Or.inl rfl, by decide +kernel⟩) ?_
  refine q_iconst 11 rfl (show sCode 186 10 = some (.iconst 1, 1) by decide +kernel) ⟨by decide, by decide⟩ ?_
  refine q_istore_n [vO 12 a0, vI 1, vN] 12 rfl (show sCode 186 11 = some (.istore_n 1, 1) by decide +kernel) (Nat.lt_of_lt_of_le (Nat.lt_succ_self _) (Nat.le_of_ble_eq_true rfl)) rfl rfl ?_
  exact kk
theorem b186_12 {d : Nat} {Q : Option sV → sM → sG → Prop} {M : sM} {G : sG} {a0 : Nat} {x1 : Int}  (k1 : x1 = 0 → sW (sC d) 186 Q 112 [vO 12 a0, vN, vN] [] M G 0 0) (k2 : x1 ≠ 0 → sW (sC d) 186 Q 16 [vO 12 a0, vN, vN] [] M G 0 0) : sW (sC d) 186 Q 12 [vO 12 a0, vI x1, vN] [] M G 0 0 := by
  refine q_iload_n 13 rfl (show sCode 186 12 = some (.iload_n 1, 1) by decide +kernel) rfl ?_
  refine q_ifeq 112 16 rfl (by decide) (show sCode 186 13 = some (.ifCond .eq 99, 3) by decide +kernel) ?_ ?_
  · intro q; refine q_forget (L' := [vO 12 a0, vN, vN]) 1 rfl ?_; exact k1 q
  · intro q; refine q_forget (L' := [vO 12 a0, vN, vN]) 1 rfl ?_; exact k2 q
theorem b186_16 {d : Nat} {Q : Option sV → sM → sG → Prop} {M : sM} {G : sG} {a0 : Nat}  (kk : sC d 187 [vO 12 a0] M G (QI (fun r M1 G1 => sW (sC d) 186 Q 20 [vO 12 a0, vN, vN] (vI r :: []) M1 G1 0 0))) : sW (sC d) 186 Q 16 [vO 12 a0, vN, vN] [] M G 0 0 := by
  refine q_aload_n 17 rfl (show sCode 186 16 = some (.aload_n 0, 1) by decide +kernel) rfl (Nat.le_of_ble_eq_true rfl) ?_
  exact q_virtI [] 20 rfl (show sCode 186 17 = some (.invokevirtual 204, 3) by decide +kernel) (show sMR (sKo 186).1 204 = some 187 by decide +kernel) (show 187 < 1000 ∧ sStat 187 = false ∧ sIni 187 = false ∧ sKo 187 = (12, 0, 2, 0, 0) by decide +kernel) rfl (Or.inl rfl) rfl (Nat.le_of_ble_eq_true rfl) rfl rfl rfl (by decide +kernel) kk
theorem b186_20 {d : Nat} {Q : Option sV → sM → sG → Prop} {M : sM} {G : sG} {a0 : Nat} {s0 : Int}  (k1 : s0 ≠ 0 → sW (sC d) 186 Q 25 [vO 12 a0, vN, vN] [] M G 0 0) (k2 : s0 = 0 → sW (sC d) 186 Q 23 [vN, vN, vN] [] M G 0 0) : sW (sC d) 186 Q 20 [vO 12 a0, vN, vN] [vI s0] M G 0 0 := by
  refine q_ifne 25 23 rfl (by decide) (show sCode 186 20 = some (.ifCond .ne 5, 3) by decide +kernel) ?_ ?_
  · intro q; exact k1 q
  · intro q; refine q_forget (L' := [vN, vN, vN]) 0 rfl ?_; exact k2 q
theorem b186_23 {d : Nat} {P : Int → sM → sG → Prop} {M : sM} {G : sG}   (kk : P 0 M G) : sW (sC d) 186 (QI P) 23 [vN, vN, vN] [] M G 0 0 := by
  refine q_iconst 24 rfl (show sCode 186 23 = some (.iconst 0, 1) by decide +kernel) ⟨by decide, by decide⟩ ?_
  exact q_zret (show sCode 186 24 = some (.ireturn, 1) by decide +kernel) (by decide +kernel) (by decide) (by decide +kernel) kk
theorem b186_25 {d : Nat} {Q : Option sV → sM → sG → Prop} {M : sM} {G : sG} {a0 : Nat}  (kk : sC d 196 [vO 12 a0] M G (QV (fun M1 G1 => sW (sC d) 186 Q 29 [vO 12 a0, vN, vN] [] M1 G1 0 0))) : sW (sC d) 186 Q 25 [vO 12 a0, vN, vN] [] M G 0 0 := by
  refine q_aload_n 26 rfl (show sCode 186 25 = some (.aload_n 0, 1) by decide +kernel) rfl (Nat.le_of_ble_eq_true rfl) ?_
  exact q_virtV [] 29 rfl (show sCode 186 26 = some (.invokevirtual 207, 3) by decide +kernel) (show sMR (sKo 186).1 207 = some 196 by decide +kernel) (show 196 < 1000 ∧ sStat 196 = false ∧ sIni 196 = false ∧ sKo 196 = (12, 0, 0, 0, 0) by decide +kernel) rfl (Or.inl rfl) rfl (Nat.le_of_ble_eq_true rfl) rfl rfl rfl (by decide +kernel) kk
theorem b186_29 {d : Nat} {Q : Option sV → sM → sG → Prop} {M : sM} {G : sG} {a0 : Nat}  (kk : sC d 176 [vO 12 a0, vL 6385252] M G (QI (fun r M1 G1 => sW (sC d) 186 Q 36 [vO 12 a0, vN, vN] (vI r :: []) M1 G1 0 0))) : sW (sC d) 186 Q 29 [vO 12 a0, vN, vN] [] M G 0 0 := by
  refine q_aload_n 30 rfl (show sCode 186 29 = some (.aload_n 0, 1) by decide +kernel) rfl (Nat.le_of_ble_eq_true rfl) ?_
  refine q_ldc2_w 33 rfl (show sCode 186 30 = some (.ldc2_w 210, 3) by decide +kernel) (show sLR (sKo 186).1 210 = some 6385252 by decide +kernel) ⟨by decide, by decide⟩ ?_
  exact q_virtI [vL 6385252] 36 rfl (show sCode 186 33 = some (.invokevirtual 110, 3) by decide +kernel) (show sMR (sKo 186).1 110 = some 176 by decide +kernel) (show 176 < 1000 ∧ sStat 176 = false ∧ sIni 176 = false ∧ sKo 176 = (12, 1, 2, 0, 0) by decide +kernel) rfl (Or.inl rfl) rfl (Nat.le_of_ble_eq_true rfl) rfl rfl rfl (by decide +kernel) kk
theorem b186_36 {d : Nat} {Q : Option sV → sM → sG → Prop} {M : sM} {G : sG} {a0 : Nat} {s0 : Int}  (k1 : s0 ≠ 0 → sW (sC d) 186 Q 49 [vO 12 a0, vN, vN] [] M G 0 0) (k2 : s0 = 0 → sW (sC d) 186 Q 39 [vO 12 a0, vN, vN] [] M G 0 0) : sW (sC d) 186 Q 36 [vO 12 a0, vN, vN] [vI s0] M G 0 0 := by
  refine q_ifne 49 39 rfl (by decide) (show sCode 186 36 = some (.ifCond .ne 13, 3) by decide +kernel) ?_ ?_
  · intro q; exact k1 q
  · intro q; exact k2 q
theorem b186_39 {d : Nat} {Q : Option sV → sM → sG → Prop} {M : sM} {G : sG} {a0 : Nat}  (kk : sC d 176 [vO 12 a0, vL 28530] M G (QI (fun r M1 G1 => sW (sC d) 186 Q 46 [vO 12 a0, vN, vN] (vI r :: []) M1 G1 0 0))) : sW (sC d) 186 Q 39 [vO 12 a0, vN, vN] [] M G 0 0 := by
  refine q_aload_n 40 rfl (show sCode 186 39 = some (.aload_n 0, 1) by decide +kernel) rfl (Nat.le_of_ble_eq_true rfl) ?_
  refine q_ldc2_w 43 rfl (show sCode 186 40 = some (.ldc2_w 212, 3) by decide +kernel) (show sLR (sKo 186).1 212 = some 28530 by decide +kernel) ⟨by decide, by decide⟩ ?_
  exact q_virtI [vL 28530] 46 rfl (show sCode 186 43 = some (.invokevirtual 110, 3) by decide +kernel) (show sMR (sKo 186).1 110 = some 176 by decide +kernel) (show 176 < 1000 ∧ sStat 176 = false ∧ sIni 176 = false ∧ sKo 176 = (12, 1, 2, 0, 0) by decide +kernel) rfl (Or.inl rfl) rfl (Nat.le_of_ble_eq_true rfl) rfl rfl rfl (by decide +kernel) kk
theorem b186_46 {d : Nat} {Q : Option sV → sM → sG → Prop} {M : sM} {G : sG} {a0 : Nat} {s0 : Int}  (k1 : s0 = 0 → sW (sC d) 186 Q 53 [vO 12 a0, vN, vN] [] M G 0 0) (k2 : s0 ≠ 0 → sW (sC d) 186 Q 49 [vO 12 a0, vN, vN] [] M G 0 0) : sW (sC d) 186 Q 46 [vO 12 a0, vN, vN] [vI s0] M G 0 0 := by
  refine q_ifeq 53 49 rfl (by decide) (show sCode 186 46 = some (.ifCond .eq 7, 3) by decide +kernel) ?_ ?_
  · intro q; exact k1 q
  · intro q; exact k2 q
theorem b186_49 {d : Nat} {Q : Option sV → sM → sG → Prop} {M : sM} {G : sG} {a0 : Nat}  (kk : sW (sC d) 186 Q 54 [vO 12 a0, vN, vN] [vI 1] M G 0 0) : sW (sC d) 186 Q 49 [vO 12 a0, vN, vN] [] M G 0 0 := by
  refine q_iconst 50 rfl (show sCode 186 49 = some (.iconst 1, 1) by decide +kernel) ⟨by decide, by decide⟩ ?_
  refine q_goto 54 (by decide) (show sCode 186 50 = some (.goto 4, 3) by decide +kernel) ?_
  exact kk
theorem b186_53 {d : Nat} {Q : Option sV → sM → sG → Prop} {M : sM} {G : sG} {a0 : Nat}  (kk : sW (sC d) 186 Q 54 [vO 12 a0, vN, vN] [vI 0] M G 0 0) : sW (sC d) 186 Q 53 [vO 12 a0, vN, vN] [] M G 0 0 := by
  refine q_iconst 54 rfl (show sCode 186 53 = some (.iconst 0, 1) by decide +kernel) ⟨by decide, by decide⟩ ?_
  exact kk
theorem b186_54 {d : Nat} {Q : Option sV → sM → sG → Prop} {M : sM} {G : sG} {a0 : Nat} {s0 : Int}  (k1 : s0 = 0 → sW (sC d) 186 Q 12 [vO 12 a0, vI s0, vN] [] M G 0 0) (k2 : s0 ≠ 0 → sW (sC d) 186 Q 59 [vO 12 a0, vI s0, vN] [] M G 0 0) : sW (sC d) 186 Q 54 [vO 12 a0, vN, vN] [vI s0] M G 0 0 := by
  refine q_istore_n [vO 12 a0, vI s0, vN] 55 rfl (show sCode 186 54 = some (.istore_n 1, 1) by decide +kernel) (Nat.lt_of_lt_of_le (Nat.lt_succ_self _) (Nat.le_of_ble_eq_true rfl)) rfl rfl ?_
  refine q_iload_n 56 rfl (show sCode 186 55 = some (.iload_n 1, 1) by decide +kernel) rfl ?_
  refine q_ifeq 12 59 rfl (by decide) (show sCode 186 56 = some (.ifCond .eq (-44), 3) by decide +kernel) ?_ ?_
  · intro q; exact k1 q
  · intro q; exact k2 q
theorem b186_59 {d : Nat} {Q : Option sV → sM → sG → Prop} {M : sM} {G : sG} {a0 : Nat} {x1 : Int}  (kk : sC d 176 [vO 12 a0, vL 6385252] M G (QI (fun r M1 G1 => sW (sC d) 186 Q 66 [vO 12 a0, vI x1, vN] (vI r :: []) M1 G1 0 0))) : sW (sC d) 186 Q 59 [vO 12 a0, vI x1, vN] [] M G 0 0 := by
  refine q_aload_n 60 rfl (show sCode 186 59 = some (.aload_n 0, 1) by decide +kernel) rfl (Nat.le_of_ble_eq_true rfl) ?_
  refine q_ldc2_w 63 rfl (show sCode 186 60 = some (.ldc2_w 210, 3) by decide +kernel) (show sLR (sKo 186).1 210 = some 6385252 by decide +kernel) ⟨by decide, by decide⟩ ?_
  exact q_virtI [vL 6385252] 66 rfl (show sCode 186 63 = some (.invokevirtual 110, 3) by decide +kernel) (show sMR (sKo 186).1 110 = some 176 by decide +kernel) (show 176 < 1000 ∧ sStat 176 = false ∧ sIni 176 = false ∧ sKo 176 = (12, 1, 2, 0, 0) by decide +kernel) rfl (Or.inl rfl) rfl (Nat.le_of_ble_eq_true rfl) rfl rfl rfl (by decide +kernel) kk
theorem b186_66 {d : Nat} {Q : Option sV → sM → sG → Prop} {M : sM} {G : sG} {a0 : Nat} {x1 : Int} {s0 : Int}  (k1 : s0 = 0 → sW (sC d) 186 Q 74 [vO 12 a0, vI x1, vN] [] M G 0 0) (k2 : s0 ≠ 0 → sW (sC d) 186 Q 69 [vO 12 a0, vI x1, vN] [] M G 0 0) : sW (sC d) 186 Q 66 [vO 12 a0, vI x1, vN] [vI s0] M G 0 0 := by
  refine q_ifeq 74 69 rfl (by decide) (show sCode 186 66 = some (.ifCond .eq 8, 3) by decide +kernel) ?_ ?_
  · intro q; exact k1 q
  · intro q; exact k2 q
theorem b186_69 {d : Nat} {Q : Option sV → sM → sG → Prop} {M : sM} {G : sG} {a0 : Nat} {x1 : Int}  (kk : sW (sC d) 186 Q 76 [vO 12 a0, vI x1, vN] [vI 12] M G 0 0) : sW (sC d) 186 Q 69 [vO 12 a0, vI x1, vN] [] M G 0 0 := by
  refine q_bipush 71 rfl (show sCode 186 69 = some (.bipush 12, 2) by decide +kernel) ⟨by decide, by decide⟩ (by decide +kernel) ?_
  refine q_goto 76 (by decide) (show sCode 186 71 = some (.goto 5, 3) by decide +kernel) ?_
  exact kk
theorem b186_74 {d : Nat} {Q : Option sV → sM → sG → Prop} {M : sM} {G : sG} {a0 : Nat} {x1 : Int}  (kk : sW (sC d) 186 Q 76 [vO 12 a0, vI x1, vN] [vI 13] M G 0 0) : sW (sC d) 186 Q 74 [vO 12 a0, vI x1, vN] [] M G 0 0 := by
  refine q_bipush 76 rfl (show sCode 186 74 = some (.bipush 13, 2) by decide +kernel) ⟨by decide, by decide⟩ (by decide +kernel) ?_
  exact kk
theorem b186_76 {d : Nat} {Q : Option sV → sM → sG → Prop} {M : sM} {G : sG} {a0 : Nat} {x1 : Int} {s0 : Int}  (kk : sC d 180 [vO 12 a0] M G (QV (fun M1 G1 => sW (sC d) 186 Q 81 [vO 12 a0, vI x1, vI s0] [] M1 G1 0 0))) : sW (sC d) 186 Q 76 [vO 12 a0, vI x1, vN] [vI s0] M G 0 0 := by
  refine q_istore_n [vO 12 a0, vI x1, vI s0] 77 rfl (show sCode 186 76 = some (.istore_n 2, 1) by decide +kernel) (Nat.lt_of_lt_of_le (Nat.lt_succ_self _) (Nat.le_of_ble_eq_true rfl)) rfl rfl ?_
  refine q_aload_n 78 rfl (show sCode 186 77 = some (.aload_n 0, 1) by decide +kernel) rfl (Nat.le_of_ble_eq_true rfl) ?_
  exact q_virtV [] 81 rfl (show sCode 186 78 = some (.invokevirtual 114, 3) by decide +kernel) (show sMR (sKo 186).1 114 = some 180 by decide +kernel) (show 180 < 1000 ∧ sStat 180 = false ∧ sIni 180 = false ∧ sKo 180 = (12, 0, 0, 0, 0) by decide +kernel) rfl (Or.inl rfl) rfl (Nat.le_of_ble_eq_true rfl) rfl rfl rfl (by decide +kernel) kk
theorem b186_81 {d : Nat} {Q : Option sV → sM → sG → Prop} {M : sM} {G : sG} {a0 : Nat} {x1 : Int} {x2 : Int}  (kk : sC d 198 [vI x2] M G (QI (fun r M1 G1 => sW (sC d) 186 Q 86 [vO 12 a0, vI x1, vI x2] (vI r :: [vO 12 a0]) M1 G1 0 0))) : sW (sC d) 186 Q 81 [vO 12 a0, vI x1, vI x2] [] M G 0 0 := by
  refine q_aload_n 82 rfl (show sCode 186 81 = some (.aload_n 0, 1) by decide +kernel) rfl (Nat.le_of_ble_eq_true rfl) ?_
  refine q_iload_n 83 rfl (show sCode 186 82 = some (.iload_n 2, 1) by decide +kernel) rfl ?_
  exact q_statI [vI x2] 86 rfl (show sCode 186 83 = some (.invokestatic 163, 3) by decide +kernel) (show sMR (sKo 186).1 163 = some 198 by decide +kernel) (show 198 < 1000 ∧ sStat 198 = true ∧ sKo 198 = (12, 1, 1, 0, 0) by decide +kernel) rfl rfl (Nat.le_of_ble_eq_true rfl) rfl rfl rfl (by decide +kernel) kk
theorem b186_86 {d : Nat} {Q : Option sV → sM → sG → Prop} {M : sM} {G : sG} {a0 : Nat} {x1 : Int} {x2 : Int} {s0 : Int} {sa1 : Nat}  (kk : sC d 197 [vO 12 sa1, vI s0] M G (QV (fun M1 G1 => sW (sC d) 186 Q 89 [vO 12 a0, vI x1, vI x2] [] M1 G1 0 0))) : sW (sC d) 186 Q 86 [vO 12 a0, vI x1, vI x2] [vI s0, vO 12 sa1] M G 0 0 := by
  exact q_virtV [vI s0] 89 rfl (show sCode 186 86 = some (.invokevirtual 198, 3) by decide +kernel) (show sMR (sKo 186).1 198 = some 197 by decide +kernel) (show 197 < 1000 ∧ sStat 197 = false ∧ sIni 197 = false ∧ sKo 197 = (12, 1, 0, 0, 0) by decide +kernel) rfl (Or.inl rfl) rfl (Nat.le_of_ble_eq_true rfl) rfl rfl rfl (by decide +kernel) kk
theorem b186_89 {d : Nat} {Q : Option sV → sM → sG → Prop} {M : sM} {G : sG} {a0 : Nat} {x1 : Int} {x2 : Int} (h1 : 0 ≤ M a0 19 ∧ M a0 19 < 400) (h2 : sI (((sUpd M (a0 + 8) (M a0 19).toNat x2) a0 19) + 1)) (kk : sW (sC d) 186 Q 12 [vO 12 a0, vI x1, vN] [] (sUpd (sUpd M (a0 + 8) (M a0 19).toNat x2) a0 19 (((sUpd M (a0 + 8) (M a0 19).toNat x2) a0 19) + 1)) G 0 0) : sW (sC d) 186 Q 89 [vO 12 a0, vI x1, vI x2] [] M G 0 0 := by
  refine q_aload_n 90 rfl (show sCode 186 89 = some (.aload_n 0, 1) by decide +kernel) rfl (Nat.le_of_ble_eq_true rfl) ?_
  refine q_getR (vA 0 (a0 + 8) 400) 93 rfl (show sCode 186 90 = some (.getfield 32, 3) by decide +kernel) (show sFR (sKo 186).1 32 = some (12, 18) by decide +kernel) (by decide +kernel) (Or.inl (Or.inl rfl)) rfl ?_
  refine q_aload_n 94 rfl (show sCode 186 93 = some (.aload_n 0, 1) by decide +kernel) rfl (Nat.le_of_ble_eq_true rfl) ?_
  refine q_getI 97 rfl (show sCode 186 94 = some (.getfield 160, 3) by decide +kernel) (show sFR (sKo 186).1 160 = some (12, 19) by decide +kernel) (by decide +kernel) (Or.inl (Or.inl rfl)) ?_
  refine q_iload_n 98 rfl (show sCode 186 97 = some (.iload_n 2, 1) by decide +kernel) rfl ?_
  refine q_iast 99 rfl (show sCode 186 98 = some (.iastore, 1) by decide +kernel) h1 ?_
  refine q_aload_n 100 rfl (show sCode 186 99 = some (.aload_n 0, 1) by decide +kernel) rfl (Nat.le_of_ble_eq_true rfl) ?_
  refine q_dup 101 rfl (show sCode 186 100 = some (.dup, 1) by decide +kernel) rfl ?_
  refine q_getI 104 rfl (show sCode 186 101 = some (.getfield 160, 3) by decide +kernel) (show sFR (sKo 186).1 160 = some (12, 19) by decide +kernel) (by decide +kernel) (Or.inl (Or.inl rfl)) ?_
  refine q_iconst 105 rfl (show sCode 186 104 = some (.iconst 1, 1) by decide +kernel) ⟨by decide, by decide⟩ ?_
  refine q_iadd 106 rfl (show sCode 186 105 = some (.iadd, 1) by decide +kernel) h2 ?_
  refine q_putI 109 rfl (show sCode 186 106 = some (.putfield 160, 3) by decide +kernel) (show sFR (sKo 186).1 160 = some (12, 19) by decide +kernel) (by decide +kernel) (Or.inl ⟨Or.inl rfl, by decide +kernel⟩) ?_
  refine q_goto 12 (by decide) (show sCode 186 109 = some (.goto (-97), 3) by decide +kernel) ?_
  refine q_forget (L' := [vO 12 a0, vI x1, vN]) 2 rfl ?_
  exact kk
theorem b186_112 {d : Nat} {Q : Option sV → sM → sG → Prop} {M : sM} {G : sG} {a0 : Nat}  (kk : sC d 199 [vO 12 a0] M G (QI (fun r M1 G1 => sW (sC d) 186 Q 116 [vO 12 a0, vN, vN] (vI r :: []) M1 G1 0 0))) : sW (sC d) 186 Q 112 [vO 12 a0, vN, vN] [] M G 0 0 := by
  refine q_aload_n 113 rfl (show sCode 186 112 = some (.aload_n 0, 1) by decide +kernel) rfl (Nat.le_of_ble_eq_true rfl) ?_
  exact q_virtI [] 116 rfl (show sCode 186 113 = some (.invokevirtual 201, 3) by decide +kernel) (show sMR (sKo 186).1 201 = some 199 by decide +kernel) (show 199 < 1000 ∧ sStat 199 = false ∧ sIni 199 = false ∧ sKo 199 = (12, 0, 2, 0, 0) by decide +kernel) rfl (Or.inl rfl) rfl (Nat.le_of_ble_eq_true rfl) rfl rfl rfl (by decide +kernel) kk
theorem b186_116 {d : Nat} {Q : Option sV → sM → sG → Prop} {M : sM} {G : sG} {a0 : Nat} {s0 : Int}  (k1 : s0 = 0 → sW (sC d) 186 Q 134 [vO 12 a0, vN, vN] [] M G 0 0) (k2 : s0 ≠ 0 → sW (sC d) 186 Q 119 [vO 12 a0, vN, vN] [] M G 0 0) : sW (sC d) 186 Q 116 [vO 12 a0, vN, vN] [vI s0] M G 0 0 := by
  refine q_ifeq 134 119 rfl (by decide) (show sCode 186 116 = some (.ifCond .eq 18, 3) by decide +kernel) ?_ ?_
  · intro q; exact k1 q
  · intro q; exact k2 q
theorem b186_119 {d : Nat} {Q : Option sV → sM → sG → Prop} {M : sM} {G : sG} {a0 : Nat}  (kk : sC d 175 [vO 12 a0] M G (QI (fun r M1 G1 => sW (sC d) 186 Q 123 [vO 12 a0, vN, vN] (vI r :: []) M1 G1 0 0))) : sW (sC d) 186 Q 119 [vO 12 a0, vN, vN] [] M G 0 0 := by
  refine q_aload_n 120 rfl (show sCode 186 119 = some (.aload_n 0, 1) by decide +kernel) rfl (Nat.le_of_ble_eq_true rfl) ?_
  exact q_virtI [] 123 rfl (show sCode 186 120 = some (.invokevirtual 102, 3) by decide +kernel) (show sMR (sKo 186).1 102 = some 175 by decide +kernel) (show 175 < 1000 ∧ sStat 175 = false ∧ sIni 175 = false ∧ sKo 175 = (12, 0, 1, 0, 0) by decide +kernel) rfl (Or.inl rfl) rfl (Nat.le_of_ble_eq_true rfl) rfl rfl rfl (by decide +kernel) kk
theorem b186_123 {d : Nat} {Q : Option sV → sM → sG → Prop} {M : sM} {G : sG} {a0 : Nat} {s0 : Int}  (kk : sC d 178 [vO 12 a0, vI 0, vI (M a0 11)] M G (QI (fun r M1 G1 => sW (sC d) 186 Q 133 [vN, vN, vN] (vI r :: []) M1 G1 0 0))) : sW (sC d) 186 Q 123 [vO 12 a0, vN, vN] [vI s0] M G 0 0 := by
  refine q_pop 124 rfl (show sCode 186 123 = some (.pop, 1) by decide +kernel) rfl ?_
  refine q_aload_n 125 rfl (show sCode 186 124 = some (.aload_n 0, 1) by decide +kernel) rfl (Nat.le_of_ble_eq_true rfl) ?_
  refine q_iconst 126 rfl (show sCode 186 125 = some (.iconst 0, 1) by decide +kernel) ⟨by decide, by decide⟩ ?_
  refine q_aload_n 127 rfl (show sCode 186 126 = some (.aload_n 0, 1) by decide +kernel) rfl (Nat.le_of_ble_eq_true rfl) ?_
  refine q_getI 130 rfl (show sCode 186 127 = some (.getfield 99, 3) by decide +kernel) (show sFR (sKo 186).1 99 = some (12, 11) by decide +kernel) (by decide +kernel) (Or.inl (Or.inl rfl)) ?_
  refine q_forget (L' := [vN, vN, vN]) 0 rfl ?_
  exact q_virtI [vI 0, vI (M a0 11)] 133 rfl (show sCode 186 130 = some (.invokevirtual 120, 3) by decide +kernel) (show sMR (sKo 186).1 120 = some 178 by decide +kernel) (show 178 < 1000 ∧ sStat 178 = false ∧ sIni 178 = false ∧ sKo 178 = (12, 2, 2, 0, 0) by decide +kernel) rfl (Or.inl rfl) rfl (Nat.le_of_ble_eq_true rfl) rfl rfl rfl (by decide +kernel) kk
theorem b186_133 {d : Nat} {P : Int → sM → sG → Prop} {M : sM} {G : sG} {s0 : Int}  (h01 : s0 = 0 ∨ s0 = 1) (kk : P s0 M G) : sW (sC d) 186 (QI P) 133 [vN, vN, vN] [vI s0] M G 0 0 := by
  exact q_zret (show sCode 186 133 = some (.ireturn, 1) by decide +kernel) (by decide +kernel) h01 (by decide +kernel) kk
theorem b186_134 {d : Nat} {Q : Option sV → sM → sG → Prop} {M : sM} {G : sG} {a0 : Nat}  (kk : sC d 197 [vO 12 a0, vI 1] M G (QV (fun M1 G1 => sW (sC d) 186 Q 139 [vN, vN, vN] [] M1 G1 0 0))) : sW (sC d) 186 Q 134 [vO 12 a0, vN, vN] [] M G 0 0 := by
  refine q_aload_n 135 rfl (show sCode 186 134 = some (.aload_n 0, 1) by decide +kernel) rfl (Nat.le_of_ble_eq_true rfl) ?_
  refine q_iconst 136 rfl (show sCode 186 135 = some (.iconst 1, 1) by decide +kernel) ⟨by decide, by decide⟩ ?_
  refine q_forget (L' := [vN, vN, vN]) 0 rfl ?_
  exact q_virtV [vI 1] 139 rfl (show sCode 186 136 = some (.invokevirtual 198, 3) by decide +kernel) (show sMR (sKo 186).1 198 = some 197 by decide +kernel) (show 197 < 1000 ∧ sStat 197 = false ∧ sIni 197 = false ∧ sKo 197 = (12, 1, 0, 0, 0) by decide +kernel) rfl (Or.inl rfl) rfl (Nat.le_of_ble_eq_true rfl) rfl rfl rfl (by decide +kernel) kk
theorem b186_139 {d : Nat} {P : Int → sM → sG → Prop} {M : sM} {G : sG}   (kk : P 1 M G) : sW (sC d) 186 (QI P) 139 [vN, vN, vN] [] M G 0 0 := by
  refine q_iconst 140 rfl (show sCode 186 139 = some (.iconst 1, 1) by decide +kernel) ⟨by decide, by decide⟩ ?_
  exact q_zret (show sCode 186 140 = some (.ireturn, 1) by decide +kernel) (by decide +kernel) (by decide) (by decide +kernel) kk
-- 187 AfterTheLastModel.fact ()Z
theorem b187_0 {d : Nat} {Q : Option sV → sM → sG → Prop} {M : sM} {G : sG} {a0 : Nat}  (kk : sW (sC d) 187 Q 2 [vO 12 a0, vI 1, vN] [] M G 0 0) : sW (sC d) 187 Q 0 [vO 12 a0, vN, vN] [] M G 0 0 := by
  refine q_iconst 1 rfl (show sCode 187 0 = some (.iconst 1, 1) by decide +kernel) ⟨by decide, by decide⟩ ?_
  refine q_istore_n [vO 12 a0, vI 1, vN] 2 rfl (show sCode 187 1 = some (.istore_n 1, 1) by decide +kernel) (Nat.lt_of_lt_of_le (Nat.lt_succ_self _) (Nat.le_of_ble_eq_true rfl)) rfl rfl ?_
  exact kk
theorem b187_2 {d : Nat} {Q : Option sV → sM → sG → Prop} {M : sM} {G : sG} {a0 : Nat} {x1 : Int}  (k1 : x1 = 0 → sW (sC d) 187 Q 75 [vO 12 a0, vN, vN] [] M G 0 0) (k2 : x1 ≠ 0 → sW (sC d) 187 Q 6 [vO 12 a0, vN, vN] [] M G 0 0) : sW (sC d) 187 Q 2 [vO 12 a0, vI x1, vN] [] M G 0 0 := by
  refine q_iload_n 3 rfl (show sCode 187 2 = some (.iload_n 1, 1) by decide +kernel) rfl ?_
  refine q_ifeq 75 6 rfl (by decide) (show sCode 187 3 = some (.ifCond .eq 72, 3) by decide +kernel) ?_ ?_
  · intro q; refine q_forget (L' := [vO 12 a0, vN, vN]) 1 rfl ?_; exact k1 q
  · intro q; refine q_forget (L' := [vO 12 a0, vN, vN]) 1 rfl ?_; exact k2 q
theorem b187_6 {d : Nat} {Q : Option sV → sM → sG → Prop} {M : sM} {G : sG} {a0 : Nat}  (kk : sC d 175 [vO 12 a0] M G (QI (fun r M1 G1 => sW (sC d) 187 Q 12 [vO 12 a0, vI 0, vN] (vI r :: []) M1 G1 0 0))) : sW (sC d) 187 Q 6 [vO 12 a0, vN, vN] [] M G 0 0 := by
  refine q_iconst 7 rfl (show sCode 187 6 = some (.iconst 0, 1) by decide +kernel) ⟨by decide, by decide⟩ ?_
  refine q_istore_n [vO 12 a0, vI 0, vN] 8 rfl (show sCode 187 7 = some (.istore_n 1, 1) by decide +kernel) (Nat.lt_of_lt_of_le (Nat.lt_succ_self _) (Nat.le_of_ble_eq_true rfl)) rfl rfl ?_
  refine q_aload_n 9 rfl (show sCode 187 8 = some (.aload_n 0, 1) by decide +kernel) rfl (Nat.le_of_ble_eq_true rfl) ?_
  exact q_virtI [] 12 rfl (show sCode 187 9 = some (.invokevirtual 102, 3) by decide +kernel) (show sMR (sKo 187).1 102 = some 175 by decide +kernel) (show 175 < 1000 ∧ sStat 175 = false ∧ sIni 175 = false ∧ sKo 175 = (12, 0, 1, 0, 0) by decide +kernel) rfl (Or.inl rfl) rfl (Nat.le_of_ble_eq_true rfl) rfl rfl rfl (by decide +kernel) kk
theorem b187_12 {d : Nat} {Q : Option sV → sM → sG → Prop} {M : sM} {G : sG} {a0 : Nat} {x1 : Int} {s0 : Int}  (kk : sC d 176 [vO 12 a0, vL 7237492] M G (QI (fun r M1 G1 => sW (sC d) 187 Q 20 [vO 12 a0, vI x1, vI s0] (vI r :: []) M1 G1 0 0))) : sW (sC d) 187 Q 12 [vO 12 a0, vI x1, vN] [vI s0] M G 0 0 := by
  refine q_istore_n [vO 12 a0, vI x1, vI s0] 13 rfl (show sCode 187 12 = some (.istore_n 2, 1) by decide +kernel) (Nat.lt_of_lt_of_le (Nat.lt_succ_self _) (Nat.le_of_ble_eq_true rfl)) rfl rfl ?_
  refine q_aload_n 14 rfl (show sCode 187 13 = some (.aload_n 0, 1) by decide +kernel) rfl (Nat.le_of_ble_eq_true rfl) ?_
  refine q_ldc2_w 17 rfl (show sCode 187 14 = some (.ldc2_w 190, 3) by decide +kernel) (show sLR (sKo 187).1 190 = some 7237492 by decide +kernel) ⟨by decide, by decide⟩ ?_
  exact q_virtI [vL 7237492] 20 rfl (show sCode 187 17 = some (.invokevirtual 110, 3) by decide +kernel) (show sMR (sKo 187).1 110 = some 176 by decide +kernel) (show 176 < 1000 ∧ sStat 176 = false ∧ sIni 176 = false ∧ sKo 176 = (12, 1, 2, 0, 0) by decide +kernel) rfl (Or.inl rfl) rfl (Nat.le_of_ble_eq_true rfl) rfl rfl rfl (by decide +kernel) kk
theorem b187_20 {d : Nat} {Q : Option sV → sM → sG → Prop} {M : sM} {G : sG} {a0 : Nat} {x1 : Int} {x2 : Int} {s0 : Int}  (k1 : s0 = 0 → sW (sC d) 187 Q 43 [vO 12 a0, vI x1, vI x2] [] M G 0 0) (k2 : s0 ≠ 0 → sW (sC d) 187 Q 23 [vO 12 a0, vN, vN] [] M G 0 0) : sW (sC d) 187 Q 20 [vO 12 a0, vI x1, vI x2] [vI s0] M G 0 0 := by
  refine q_ifeq 43 23 rfl (by decide) (show sCode 187 20 = some (.ifCond .eq 23, 3) by decide +kernel) ?_ ?_
  · intro q; exact k1 q
  · intro q; refine q_forget (L' := [vO 12 a0, vN, vI x2]) 1 rfl ?_; refine q_forget (L' := [vO 12 a0, vN, vN]) 2 rfl ?_; exact k2 q
theorem b187_23 {d : Nat} {Q : Option sV → sM → sG → Prop} {M : sM} {G : sG} {a0 : Nat}  (kk : sC d 188 [vO 12 a0, vI 11] M G (QI (fun r M1 G1 => sW (sC d) 187 Q 29 [vO 12 a0, vN, vN] (vI r :: []) M1 G1 0 0))) : sW (sC d) 187 Q 23 [vO 12 a0, vN, vN] [] M G 0 0 := by
  refine q_aload_n 24 rfl (show sCode 187 23 = some (.aload_n 0, 1) by decide +kernel) rfl (Nat.le_of_ble_eq_true rfl) ?_
  refine q_bipush 26 rfl (show sCode 187 24 = some (.bipush 11, 2) by decide +kernel) ⟨by decide, by decide⟩ (by decide +kernel) ?_
  exact q_virtI [vI 11] 29 rfl (show sCode 187 26 = some (.invokevirtual 192, 3) by decide +kernel) (show sMR (sKo 187).1 192 = some 188 by decide +kernel) (show 188 < 1000 ∧ sStat 188 = false ∧ sIni 188 = false ∧ sKo 188 = (12, 1, 2, 0, 0) by decide +kernel) rfl (Or.inl rfl) rfl (Nat.le_of_ble_eq_true rfl) rfl rfl rfl (by decide +kernel) kk
theorem b187_29 {d : Nat} {Q : Option sV → sM → sG → Prop} {M : sM} {G : sG} {a0 : Nat} {s0 : Int}  (k1 : s0 ≠ 0 → sW (sC d) 187 Q 34 [vO 12 a0, vN, vN] [] M G 0 0) (k2 : s0 = 0 → sW (sC d) 187 Q 32 [vN, vN, vN] [] M G 0 0) : sW (sC d) 187 Q 29 [vO 12 a0, vN, vN] [vI s0] M G 0 0 := by
  refine q_ifne 34 32 rfl (by decide) (show sCode 187 29 = some (.ifCond .ne 5, 3) by decide +kernel) ?_ ?_
  · intro q; exact k1 q
  · intro q; refine q_forget (L' := [vN, vN, vN]) 0 rfl ?_; exact k2 q
theorem b187_32 {d : Nat} {P : Int → sM → sG → Prop} {M : sM} {G : sG}   (kk : P 0 M G) : sW (sC d) 187 (QI P) 32 [vN, vN, vN] [] M G 0 0 := by
  refine q_iconst 33 rfl (show sCode 187 32 = some (.iconst 0, 1) by decide +kernel) ⟨by decide, by decide⟩ ?_
  exact q_zret (show sCode 187 33 = some (.ireturn, 1) by decide +kernel) (by decide +kernel) (by decide) (by decide +kernel) kk
theorem b187_34 {d : Nat} {Q : Option sV → sM → sG → Prop} {M : sM} {G : sG} {a0 : Nat}  (kk : sC d 180 [vO 12 a0] M G (QV (fun M1 G1 => sW (sC d) 187 Q 38 [vO 12 a0, vN, vN] [] M1 G1 0 0))) : sW (sC d) 187 Q 34 [vO 12 a0, vN, vN] [] M G 0 0 := by
  refine q_aload_n 35 rfl (show sCode 187 34 = some (.aload_n 0, 1) by decide +kernel) rfl (Nat.le_of_ble_eq_true rfl) ?_
  exact q_virtV [] 38 rfl (show sCode 187 35 = some (.invokevirtual 114, 3) by decide +kernel) (show sMR (sKo 187).1 114 = some 180 by decide +kernel) (show 180 < 1000 ∧ sStat 180 = false ∧ sIni 180 = false ∧ sKo 180 = (12, 0, 0, 0, 0) by decide +kernel) rfl (Or.inl rfl) rfl (Nat.le_of_ble_eq_true rfl) rfl rfl rfl (by decide +kernel) kk
theorem b187_38 {d : Nat} {Q : Option sV → sM → sG → Prop} {M : sM} {G : sG} {a0 : Nat}  (kk : sW (sC d) 187 Q 72 [vO 12 a0, vI 1, vN] [] M G 0 0) : sW (sC d) 187 Q 38 [vO 12 a0, vN, vN] [] M G 0 0 := by
  refine q_iconst 39 rfl (show sCode 187 38 = some (.iconst 1, 1) by decide +kernel) ⟨by decide, by decide⟩ ?_
  refine q_istore_n [vO 12 a0, vI 1, vN] 40 rfl (show sCode 187 39 = some (.istore_n 1, 1) by decide +kernel) (Nat.lt_of_lt_of_le (Nat.lt_succ_self _) (Nat.le_of_ble_eq_true rfl)) rfl rfl ?_
  refine q_goto 72 (by decide) (show sCode 187 40 = some (.goto 32, 3) by decide +kernel) ?_
  exact kk
theorem b187_43 {d : Nat} {Q : Option sV → sM → sG → Prop} {M : sM} {G : sG} {a0 : Nat} {x1 : Int} {x2 : Int}  (k1 : x2 ≠ 91 → sW (sC d) 187 Q 72 [vO 12 a0, vI x1, vN] [] M G 0 0) (k2 : x2 = 91 → sW (sC d) 187 Q 49 [vO 12 a0, vN, vN] [] M G 0 0) : sW (sC d) 187 Q 43 [vO 12 a0, vI x1, vI x2] [] M G 0 0 := by
  refine q_iload_n 44 rfl (show sCode 187 43 = some (.iload_n 2, 1) by decide +kernel) rfl ?_
  refine q_bipush 46 rfl (show sCode 187 44 = some (.bipush 91, 2) by decide +kernel) ⟨by decide, by decide⟩ (by decide +kernel) ?_
  refine q_icmpne 72 49 rfl (by decide) (show sCode 187 46 = some (.if_icmp .ne 26, 3) by decide +kernel) ?_ ?_
  · intro q; refine q_forget (L' := [vO 12 a0, vI x1, vN]) 2 rfl ?_; exact k1 q
  · intro q; refine q_forget (L' := [vO 12 a0, vN, vI x2]) 1 rfl ?_; refine q_forget (L' := [vO 12 a0, vN, vN]) 2 rfl ?_; exact k2 q
theorem b187_49 {d : Nat} {Q : Option sV → sM → sG → Prop} {M : sM} {G : sG} {a0 : Nat}  (kk : sC d 188 [vO 12 a0, vI 91] M G (QI (fun r M1 G1 => sW (sC d) 187 Q 55 [vO 12 a0, vN, vN] (vI r :: []) M1 G1 0 0))) : sW (sC d) 187 Q 49 [vO 12 a0, vN, vN] [] M G 0 0 := by
  refine q_aload_n 50 rfl (show sCode 187 49 = some (.aload_n 0, 1) by decide +kernel) rfl (Nat.le_of_ble_eq_true rfl) ?_
  refine q_bipush 52 rfl (show sCode 187 50 = some (.bipush 91, 2) by decide +kernel) ⟨by decide, by decide⟩ (by decide +kernel) ?_
  exact q_virtI [vI 91] 55 rfl (show sCode 187 52 = some (.invokevirtual 192, 3) by decide +kernel) (show sMR (sKo 187).1 192 = some 188 by decide +kernel) (show 188 < 1000 ∧ sStat 188 = false ∧ sIni 188 = false ∧ sKo 188 = (12, 1, 2, 0, 0) by decide +kernel) rfl (Or.inl rfl) rfl (Nat.le_of_ble_eq_true rfl) rfl rfl rfl (by decide +kernel) kk
theorem b187_55 {d : Nat} {Q : Option sV → sM → sG → Prop} {M : sM} {G : sG} {a0 : Nat} {s0 : Int}  (k1 : s0 ≠ 0 → sW (sC d) 187 Q 60 [vO 12 a0, vN, vN] [] M G 0 0) (k2 : s0 = 0 → sW (sC d) 187 Q 58 [vN, vN, vN] [] M G 0 0) : sW (sC d) 187 Q 55 [vO 12 a0, vN, vN] [vI s0] M G 0 0 := by
  refine q_ifne 60 58 rfl (by decide) (show sCode 187 55 = some (.ifCond .ne 5, 3) by decide +kernel) ?_ ?_
  · intro q; exact k1 q
  · intro q; refine q_forget (L' := [vN, vN, vN]) 0 rfl ?_; exact k2 q
theorem b187_58 {d : Nat} {P : Int → sM → sG → Prop} {M : sM} {G : sG}   (kk : P 0 M G) : sW (sC d) 187 (QI P) 58 [vN, vN, vN] [] M G 0 0 := by
  refine q_iconst 59 rfl (show sCode 187 58 = some (.iconst 0, 1) by decide +kernel) ⟨by decide, by decide⟩ ?_
  exact q_zret (show sCode 187 59 = some (.ireturn, 1) by decide +kernel) (by decide +kernel) (by decide) (by decide +kernel) kk
theorem b187_60 {d : Nat} {Q : Option sV → sM → sG → Prop} {M : sM} {G : sG} {a0 : Nat} (h1 : sI ((M a0 11) + 1)) (kk : sW (sC d) 187 Q 72 [vO 12 a0, vI 1, vN] [] (sUpd M a0 11 ((M a0 11) + 1)) G 0 0) : sW (sC d) 187 Q 60 [vO 12 a0, vN, vN] [] M G 0 0 := by
  refine q_aload_n 61 rfl (show sCode 187 60 = some (.aload_n 0, 1) by decide +kernel) rfl (Nat.le_of_ble_eq_true rfl) ?_
  refine q_dup 62 rfl (show sCode 187 61 = some (.dup, 1) by decide +kernel) rfl ?_
  refine q_getI 65 rfl (show sCode 187 62 = some (.getfield 99, 3) by decide +kernel) (show sFR (sKo 187).1 99 = some (12, 11) by decide +kernel) (by decide +kernel) (Or.inl (Or.inl rfl)) ?_
  refine q_iconst 66 rfl (show sCode 187 65 = some (.iconst 1, 1) by decide +kernel) ⟨by decide, by decide⟩ ?_
  refine q_iadd 67 rfl (show sCode 187 66 = some (.iadd, 1) by decide +kernel) h1 ?_
  refine q_putI 70 rfl (show sCode 187 67 = some (.putfield 99, 3) by decide +kernel) (show sFR (sKo 187).1 99 = some (12, 11) by decide +kernel) (by decide +kernel) (Or.inl ⟨Or.inl rfl, by decide +kernel⟩) ?_
  refine q_iconst 71 rfl (show sCode 187 70 = some (.iconst 1, 1) by decide +kernel) ⟨by decide, by decide⟩ ?_
  refine q_istore_n [vO 12 a0, vI 1, vN] 72 rfl (show sCode 187 71 = some (.istore_n 1, 1) by decide +kernel) (Nat.lt_of_lt_of_le (Nat.lt_succ_self _) (Nat.le_of_ble_eq_true rfl)) rfl rfl ?_
  exact kk
theorem b187_72 {d : Nat} {Q : Option sV → sM → sG → Prop} {M : sM} {G : sG} {a0 : Nat} {x1 : Int}  (kk : sW (sC d) 187 Q 2 [vO 12 a0, vI x1, vN] [] M G 0 0) : sW (sC d) 187 Q 72 [vO 12 a0, vI x1, vN] [] M G 0 0 := by
  refine q_goto 2 (by decide) (show sCode 187 72 = some (.goto (-70), 3) by decide +kernel) ?_
  exact kk
theorem b187_75 {d : Nat} {Q : Option sV → sM → sG → Prop} {M : sM} {G : sG} {a0 : Nat}  (kk : sC d 189 [vO 12 a0] M G (QI (fun r M1 G1 => sW (sC d) 187 Q 79 [vN, vN, vN] (vI r :: []) M1 G1 0 0))) : sW (sC d) 187 Q 75 [vO 12 a0, vN, vN] [] M G 0 0 := by
  refine q_aload_n 76 rfl (show sCode 187 75 = some (.aload_n 0, 1) by decide +kernel) rfl (Nat.le_of_ble_eq_true rfl) ?_
  refine q_forget (L' := [vN, vN, vN]) 0 rfl ?_
  exact q_virtI [] 79 rfl (show sCode 187 76 = some (.invokevirtual 195, 3) by decide +kernel) (show sMR (sKo 187).1 195 = some 189 by decide +kernel) (show 189 < 1000 ∧ sStat 189 = false ∧ sIni 189 = false ∧ sKo 189 = (12, 0, 2, 0, 0) by decide +kernel) rfl (Or.inl rfl) rfl (Nat.le_of_ble_eq_true rfl) rfl rfl rfl (by decide +kernel) kk
theorem b187_79 {d : Nat} {P : Int → sM → sG → Prop} {M : sM} {G : sG} {s0 : Int}  (h01 : s0 = 0 ∨ s0 = 1) (kk : P s0 M G) : sW (sC d) 187 (QI P) 79 [vN, vN, vN] [vI s0] M G 0 0 := by
  exact q_zret (show sCode 187 79 = some (.ireturn, 1) by decide +kernel) (by decide +kernel) h01 (by decide +kernel) kk
-- 188 AfterTheLastModel.opens (I)Z
theorem b188_0 {d : Nat} {Q : Option sV → sM → sG → Prop} {M : sM} {G : sG} {a0 : Nat} {x1 : Int}  (k1 : M a0 16 ≠ 10 → sW (sC d) 188 Q 19 [vO 12 a0, vI x1] [] M G 0 0) (k2 : M a0 16 = 10 → sW (sC d) 188 Q 9 [vO 12 a0, vN] [] M G 0 0) : sW (sC d) 188 Q 0 [vO 12 a0, vI x1] [] M G 0 0 := by
  refine q_aload_n 1 rfl (show sCode 188 0 = some (.aload_n 0, 1) by decide +kernel) rfl (Nat.le_of_ble_eq_true rfl) ?_
  refine q_getI 4 rfl (show sCode 188 1 = some (.getfield 157, 3) by decide +kernel) (show sFR (sKo 188).1 157 = some (12, 16) by decide +kernel) (by decide +kernel) (Or.inl (Or.inl rfl)) ?_
  refine q_bipush 6 rfl (show sCode 188 4 = some (.bipush 10, 2) by decide +kernel) ⟨by decide, by decide⟩ (by decide +kernel) ?_
  refine q_icmpne 19 9 rfl (by decide) (show sCode 188 6 = some (.if_icmp .ne 13, 3) by decide +kernel) ?_ ?_
  · intro q; exact k1 q
  · intro q; refine q_forget (L' := [vO 12 a0, vN]) 1 rfl ?_; exact k2 q
theorem b188_9 {d : Nat} {Q : Option sV → sM → sG → Prop} {M : sM} {G : sG} {a0 : Nat}  (kk : sC d 178 [vO 12 a0, vI 2, vI (M a0 11)] M G (QI (fun r M1 G1 => sW (sC d) 188 Q 18 [vN, vN] (vI r :: []) M1 G1 0 0))) : sW (sC d) 188 Q 9 [vO 12 a0, vN] [] M G 0 0 := by
  refine q_aload_n 10 rfl (show sCode 188 9 = some (.aload_n 0, 1) by decide +kernel) rfl (Nat.le_of_ble_eq_true rfl) ?_
  refine q_iconst 11 rfl (show sCode 188 10 = some (.iconst 2, 1) by decide +kernel) ⟨by decide, by decide⟩ ?_
  refine q_aload_n 12 rfl (show sCode 188 11 = some (.aload_n 0, 1) by decide +kernel) rfl (Nat.le_of_ble_eq_true rfl) ?_
  refine q_getI 15 rfl (show sCode 188 12 = some (.getfield 99, 3) by decide +kernel) (show sFR (sKo 188).1 99 = some (12, 11) by decide +kernel) (by decide +kernel) (Or.inl (Or.inl rfl)) ?_
  refine q_forget (L' := [vN, vN]) 0 rfl ?_
  exact q_virtI [vI 2, vI (M a0 11)] 18 rfl (show sCode 188 15 = some (.invokevirtual 120, 3) by decide +kernel) (show sMR (sKo 188).1 120 = some 178 by decide +kernel) (show 178 < 1000 ∧ sStat 178 = false ∧ sIni 178 = false ∧ sKo 178 = (12, 2, 2, 0, 0) by decide +kernel) rfl (Or.inl rfl) rfl (Nat.le_of_ble_eq_true rfl) rfl rfl rfl (by decide +kernel) kk
theorem b188_18 {d : Nat} {P : Int → sM → sG → Prop} {M : sM} {G : sG} {s0 : Int}  (h01 : s0 = 0 ∨ s0 = 1) (kk : P s0 M G) : sW (sC d) 188 (QI P) 18 [vN, vN] [vI s0] M G 0 0 := by
  exact q_zret (show sCode 188 18 = some (.ireturn, 1) by decide +kernel) (by decide +kernel) h01 (by decide +kernel) kk
theorem b188_19 {d : Nat} {P : Int → sM → sG → Prop} {M : sM} {G : sG} {a0 : Nat} {x1 : Int} (h1 : sI ((M a0 16) + 1)) (h2 : 0 ≤ (sUpd M a0 16 ((M a0 16) + 1)) a0 19 ∧ (sUpd M a0 16 ((M a0 16) + 1)) a0 19 < 400) (h3 : sI (((sUpd (sUpd M a0 16 ((M a0 16) + 1)) (a0 + 8) ((sUpd M a0 16 ((M a0 16) + 1)) a0 19).toNat x1) a0 19) + 1)) (kk : P 1 (sUpd (sUpd (sUpd M a0 16 ((M a0 16) + 1)) (a0 + 8) ((sUpd M a0 16 ((M a0 16) + 1)) a0 19).toNat x1) a0 19 (((sUpd (sUpd M a0 16 ((M a0 16) + 1)) (a0 + 8) ((sUpd M a0 16 ((M a0 16) + 1)) a0 19).toNat x1) a0 19) + 1)) G) : sW (sC d) 188 (QI P) 19 [vO 12 a0, vI x1] [] M G 0 0 := by
  refine q_aload_n 20 rfl (show sCode 188 19 = some (.aload_n 0, 1) by decide +kernel) rfl (Nat.le_of_ble_eq_true rfl) ?_
  refine q_dup 21 rfl (show sCode 188 20 = some (.dup, 1) by decide +kernel) rfl ?_
  refine q_getI 24 rfl (show sCode 188 21 = some (.getfield 157, 3) by decide +kernel) (show sFR (sKo 188).1 157 = some (12, 16) by decide +kernel) (by decide +kernel) (Or.inl (Or.inl rfl)) ?_
  refine q_iconst 25 rfl (show sCode 188 24 = some (.iconst 1, 1) by decide +kernel) ⟨by decide, by decide⟩ ?_
  refine q_iadd 26 rfl (show sCode 188 25 = some (.iadd, 1) by decide +kernel) h1 ?_
  refine q_putI 29 rfl (show sCode 188 26 = some (.putfield 157, 3) by decide +kernel) (show sFR (sKo 188).1 157 = some (12, 16) by decide +kernel) (by decide +kernel) (Or.inl ⟨Or.inl rfl, by decide +kernel⟩) ?_
  refine q_aload_n 30 rfl (show sCode 188 29 = some (.aload_n 0, 1) by decide +kernel) rfl (Nat.le_of_ble_eq_true rfl) ?_
  refine q_getR (vA 0 (a0 + 8) 400) 33 rfl (show sCode 188 30 = some (.getfield 32, 3) by decide +kernel) (show sFR (sKo 188).1 32 = some (12, 18) by decide +kernel) (by decide +kernel) (Or.inl (Or.inl rfl)) rfl ?_
  refine q_aload_n 34 rfl (show sCode 188 33 = some (.aload_n 0, 1) by decide +kernel) rfl (Nat.le_of_ble_eq_true rfl) ?_
  refine q_getI 37 rfl (show sCode 188 34 = some (.getfield 160, 3) by decide +kernel) (show sFR (sKo 188).1 160 = some (12, 19) by decide +kernel) (by decide +kernel) (Or.inl (Or.inl rfl)) ?_
  refine q_iload_n 38 rfl (show sCode 188 37 = some (.iload_n 1, 1) by decide +kernel) rfl ?_
  refine q_iast 39 rfl (show sCode 188 38 = some (.iastore, 1) by decide +kernel) h2 ?_
  refine q_aload_n 40 rfl (show sCode 188 39 = some (.aload_n 0, 1) by decide +kernel) rfl (Nat.le_of_ble_eq_true rfl) ?_
  refine q_dup 41 rfl (show sCode 188 40 = some (.dup, 1) by decide +kernel) rfl ?_
  refine q_getI 44 rfl (show sCode 188 41 = some (.getfield 160, 3) by decide +kernel) (show sFR (sKo 188).1 160 = some (12, 19) by decide +kernel) (by decide +kernel) (Or.inl (Or.inl rfl)) ?_
  refine q_iconst 45 rfl (show sCode 188 44 = some (.iconst 1, 1) by decide +kernel) ⟨by decide, by decide⟩ ?_
  refine q_iadd 46 rfl (show sCode 188 45 = some (.iadd, 1) by decide +kernel) h3 ?_
  refine q_putI 49 rfl (show sCode 188 46 = some (.putfield 160, 3) by decide +kernel) (show sFR (sKo 188).1 160 = some (12, 19) by decide +kernel) (by decide +kernel) (Or.inl ⟨Or.inl rfl, by decide +kernel⟩) ?_
  refine q_iconst 50 rfl (show sCode 188 49 = some (.iconst 1, 1) by decide +kernel) ⟨by decide, by decide⟩ ?_
  exact q_zret (show sCode 188 50 = some (.ireturn, 1) by decide +kernel) (by decide +kernel) (by decide) (by decide +kernel) kk
-- 189 AfterTheLastModel.compare ()Z
theorem b189_0 {d : Nat} {Q : Option sV → sM → sG → Prop} {M : sM} {G : sG} {a0 : Nat}  (kk : sC d 190 [vO 12 a0] M G (QI (fun r M1 G1 => sW (sC d) 189 Q 4 [vO 12 a0, vN, vN, vN, vN] (vI r :: []) M1 G1 0 0))) : sW (sC d) 189 Q 0 [vO 12 a0, vN, vN, vN, vN] [] M G 0 0 := by
  refine q_aload_n 1 rfl (show sCode 189 0 = some (.aload_n 0, 1) by decide +kernel) rfl (Nat.le_of_ble_eq_true rfl) ?_
  exact q_virtI [] 4 rfl (show sCode 189 1 = some (.invokevirtual 187, 3) by decide +kernel) (show sMR (sKo 189).1 187 = some 190 by decide +kernel) (show 190 < 1000 ∧ sStat 190 = false ∧ sIni 190 = false ∧ sKo 190 = (12, 0, 2, 0, 0) by decide +kernel) rfl (Or.inl rfl) rfl (Nat.le_of_ble_eq_true rfl) rfl rfl rfl (by decide +kernel) kk
theorem b189_4 {d : Nat} {Q : Option sV → sM → sG → Prop} {M : sM} {G : sG} {a0 : Nat} {s0 : Int}  (k1 : s0 ≠ 0 → sW (sC d) 189 Q 9 [vO 12 a0, vN, vN, vN, vN] [] M G 0 0) (k2 : s0 = 0 → sW (sC d) 189 Q 7 [vN, vN, vN, vN, vN] [] M G 0 0) : sW (sC d) 189 Q 4 [vO 12 a0, vN, vN, vN, vN] [vI s0] M G 0 0 := by
  refine q_ifne 9 7 rfl (by decide) (show sCode 189 4 = some (.ifCond .ne 5, 3) by decide +kernel) ?_ ?_
  · intro q; exact k1 q
  · intro q; refine q_forget (L' := [vN, vN, vN, vN, vN]) 0 rfl ?_; exact k2 q
theorem b189_7 {d : Nat} {P : Int → sM → sG → Prop} {M : sM} {G : sG}   (kk : P 0 M G) : sW (sC d) 189 (QI P) 7 [vN, vN, vN, vN, vN] [] M G 0 0 := by
  refine q_iconst 8 rfl (show sCode 189 7 = some (.iconst 0, 1) by decide +kernel) ⟨by decide, by decide⟩ ?_
  exact q_zret (show sCode 189 8 = some (.ireturn, 1) by decide +kernel) (by decide +kernel) (by decide) (by decide +kernel) kk
theorem b189_9 {d : Nat} {Q : Option sV → sM → sG → Prop} {M : sM} {G : sG} {a0 : Nat}  (kk : sC d 175 [vO 12 a0] M G (QI (fun r M1 G1 => sW (sC d) 189 Q 13 [vO 12 a0, vN, vN, vN, vN] (vI r :: []) M1 G1 0 0))) : sW (sC d) 189 Q 9 [vO 12 a0, vN, vN, vN, vN] [] M G 0 0 := by
  refine q_aload_n 10 rfl (show sCode 189 9 = some (.aload_n 0, 1) by decide +kernel) rfl (Nat.le_of_ble_eq_true rfl) ?_
  exact q_virtI [] 13 rfl (show sCode 189 10 = some (.invokevirtual 102, 3) by decide +kernel) (show sMR (sKo 189).1 102 = some 175 by decide +kernel) (show 175 < 1000 ∧ sStat 175 = false ∧ sIni 175 = false ∧ sKo 175 = (12, 0, 1, 0, 0) by decide +kernel) rfl (Or.inl rfl) rfl (Nat.le_of_ble_eq_true rfl) rfl rfl rfl (by decide +kernel) kk
theorem b189_13 {d : Nat} {Q : Option sV → sM → sG → Prop} {M : sM} {G : sG} {a0 : Nat} {s0 : Int}  (k1 : s0 = 60 → sW (sC d) 189 Q 44 [vO 12 a0, vI s0, vI (M a0 11), vN, vN] [] M G 0 0) (k2 : s0 ≠ 60 → sW (sC d) 189 Q 25 [vO 12 a0, vI s0, vI (M a0 11), vN, vN] [] M G 0 0) : sW (sC d) 189 Q 13 [vO 12 a0, vN, vN, vN, vN] [vI s0] M G 0 0 := by
  refine q_istore_n [vO 12 a0, vI s0, vN, vN, vN] 14 rfl (show sCode 189 13 = some (.istore_n 1, 1) by decide +kernel) (Nat.lt_of_lt_of_le (Nat.lt_succ_self _) (Nat.le_of_ble_eq_true rfl)) rfl rfl ?_
  refine q_aload_n 15 rfl (show sCode 189 14 = some (.aload_n 0, 1) by decide +kernel) rfl (Nat.le_of_ble_eq_true rfl) ?_
  refine q_getI 18 rfl (show sCode 189 15 = some (.getfield 99, 3) by decide +kernel) (show sFR (sKo 189).1 99 = some (12, 11) by decide +kernel) (by decide +kernel) (Or.inl (Or.inl rfl)) ?_
  refine q_istore_n [vO 12 a0, vI s0, vI (M a0 11), vN, vN] 19 rfl (show sCode 189 18 = some (.istore_n 2, 1) by decide +kernel) (Nat.lt_of_lt_of_le (Nat.lt_succ_self _) (Nat.le_of_ble_eq_true rfl)) rfl rfl ?_
  refine q_iload_n 20 rfl (show sCode 189 19 = some (.iload_n 1, 1) by decide +kernel) rfl ?_
  refine q_bipush 22 rfl (show sCode 189 20 = some (.bipush 60, 2) by decide +kernel) ⟨by decide, by decide⟩ (by decide +kernel) ?_
  refine q_icmpeq 44 25 rfl (by decide) (show sCode 189 22 = some (.if_icmp .eq 22, 3) by decide +kernel) ?_ ?_
  · intro q; exact k1 q
  · intro q; exact k2 q
theorem b189_25 {d : Nat} {Q : Option sV → sM → sG → Prop} {M : sM} {G : sG} {a0 : Nat} {x1 : Int} {x2 : Int}  (k1 : x1 = 61 → sW (sC d) 189 Q 44 [vO 12 a0, vI x1, vI x2, vN, vN] [] M G 0 0) (k2 : x1 ≠ 61 → sW (sC d) 189 Q 31 [vO 12 a0, vI x1, vI x2, vN, vN] [] M G 0 0) : sW (sC d) 189 Q 25 [vO 12 a0, vI x1, vI x2, vN, vN] [] M G 0 0 := by
  refine q_iload_n 26 rfl (show sCode 189 25 = some (.iload_n 1, 1) by decide +kernel) rfl ?_
  refine q_bipush 28 rfl (show sCode 189 26 = some (.bipush 61, 2) by decide +kernel) ⟨by decide, by decide⟩ (by decide +kernel) ?_
  refine q_icmpeq 44 31 rfl (by decide) (show sCode 189 28 = some (.if_icmp .eq 16, 3) by decide +kernel) ?_ ?_
  · intro q; exact k1 q
  · intro q; exact k2 q
theorem b189_31 {d : Nat} {Q : Option sV → sM → sG → Prop} {M : sM} {G : sG} {a0 : Nat} {x1 : Int} {x2 : Int}  (k1 : x1 = 62 → sW (sC d) 189 Q 44 [vO 12 a0, vI x1, vI x2, vN, vN] [] M G 0 0) (k2 : x1 ≠ 62 → sW (sC d) 189 Q 37 [vO 12 a0, vN, vI x2, vN, vN] [] M G 0 0) : sW (sC d) 189 Q 31 [vO 12 a0, vI x1, vI x2, vN, vN] [] M G 0 0 := by
  refine q_iload_n 32 rfl (show sCode 189 31 = some (.iload_n 1, 1) by decide +kernel) rfl ?_
  refine q_bipush 34 rfl (show sCode 189 32 = some (.bipush 62, 2) by decide +kernel) ⟨by decide, by decide⟩ (by decide +kernel) ?_
  refine q_icmpeq 44 37 rfl (by decide) (show sCode 189 34 = some (.if_icmp .eq 10, 3) by decide +kernel) ?_ ?_
  · intro q; exact k1 q
  · intro q; refine q_forget (L' := [vO 12 a0, vN, vI x2, vN, vN]) 1 rfl ?_; exact k2 q
theorem b189_37 {d : Nat} {Q : Option sV → sM → sG → Prop} {M : sM} {G : sG} {a0 : Nat} {x2 : Int}  (kk : sC d 178 [vO 12 a0, vI 0, vI x2] M G (QI (fun r M1 G1 => sW (sC d) 189 Q 43 [vN, vN, vN, vN, vN] (vI r :: []) M1 G1 0 0))) : sW (sC d) 189 Q 37 [vO 12 a0, vN, vI x2, vN, vN] [] M G 0 0 := by
  refine q_aload_n 38 rfl (show sCode 189 37 = some (.aload_n 0, 1) by decide +kernel) rfl (Nat.le_of_ble_eq_true rfl) ?_
  refine q_iconst 39 rfl (show sCode 189 38 = some (.iconst 0, 1) by decide +kernel) ⟨by decide, by decide⟩ ?_
  refine q_iload_n 40 rfl (show sCode 189 39 = some (.iload_n 2, 1) by decide +kernel) rfl ?_
  refine q_forget (L' := [vN, vN, vI x2, vN, vN]) 0 rfl ?_
  refine q_forget (L' := [vN, vN, vN, vN, vN]) 2 rfl ?_
  exact q_virtI [vI 0, vI x2] 43 rfl (show sCode 189 40 = some (.invokevirtual 120, 3) by decide +kernel) (show sMR (sKo 189).1 120 = some 178 by decide +kernel) (show 178 < 1000 ∧ sStat 178 = false ∧ sIni 178 = false ∧ sKo 178 = (12, 2, 2, 0, 0) by decide +kernel) rfl (Or.inl rfl) rfl (Nat.le_of_ble_eq_true rfl) rfl rfl rfl (by decide +kernel) kk
theorem b189_43 {d : Nat} {P : Int → sM → sG → Prop} {M : sM} {G : sG} {s0 : Int}  (h01 : s0 = 0 ∨ s0 = 1) (kk : P s0 M G) : sW (sC d) 189 (QI P) 43 [vN, vN, vN, vN, vN] [vI s0] M G 0 0 := by
  exact q_zret (show sCode 189 43 = some (.ireturn, 1) by decide +kernel) (by decide +kernel) h01 (by decide +kernel) kk
theorem b189_44 {d : Nat} {Q : Option sV → sM → sG → Prop} {M : sM} {G : sG} {a0 : Nat} {x1 : Int} {x2 : Int} (h1 : sI ((M a0 11) + 1)) (k1 : x1 = 61 → sW (sC d) 189 Q 89 [vO 12 a0, vI x1, vI x2, vN, vN] [] (sUpd M a0 11 ((M a0 11) + 1)) G 0 0) (k2 : x1 ≠ 61 → sW (sC d) 189 Q 60 [vO 12 a0, vI x1, vI x2, vN, vN] [] (sUpd M a0 11 ((M a0 11) + 1)) G 0 0) : sW (sC d) 189 Q 44 [vO 12 a0, vI x1, vI x2, vN, vN] [] M G 0 0 := by
  refine q_aload_n 45 rfl (show sCode 189 44 = some (.aload_n 0, 1) by decide +kernel) rfl (Nat.le_of_ble_eq_true rfl) ?_
  refine q_dup 46 rfl (show sCode 189 45 = some (.dup, 1) by decide +kernel) rfl ?_
  refine q_getI 49 rfl (show sCode 189 46 = some (.getfield 99, 3) by decide +kernel) (show sFR (sKo 189).1 99 = some (12, 11) by decide +kernel) (by decide +kernel) (Or.inl (Or.inl rfl)) ?_
  refine q_iconst 50 rfl (show sCode 189 49 = some (.iconst 1, 1) by decide +kernel) ⟨by decide, by decide⟩ ?_
  refine q_iadd 51 rfl (show sCode 189 50 = some (.iadd, 1) by decide +kernel) h1 ?_
  refine q_putI 54 rfl (show sCode 189 51 = some (.putfield 99, 3) by decide +kernel) (show sFR (sKo 189).1 99 = some (12, 11) by decide +kernel) (by decide +kernel) (Or.inl ⟨Or.inl rfl, by decide +kernel⟩) ?_
  refine q_iload_n 55 rfl (show sCode 189 54 = some (.iload_n 1, 1) by decide +kernel) rfl ?_
  refine q_bipush 57 rfl (show sCode 189 55 = some (.bipush 61, 2) by decide +kernel) ⟨by decide, by decide⟩ (by decide +kernel) ?_
  refine q_icmpeq 89 60 rfl (by decide) (show sCode 189 57 = some (.if_icmp .eq 32, 3) by decide +kernel) ?_ ?_
  · intro q; exact k1 q
  · intro q; exact k2 q
theorem b189_60 {d : Nat} {Q : Option sV → sM → sG → Prop} {M : sM} {G : sG} {a0 : Nat} {x1 : Int} {x2 : Int}  (k1 : M a0 1 ≤ M a0 11 → sW (sC d) 189 Q 89 [vO 12 a0, vI x1, vI x2, vN, vN] [] M G 0 0) (k2 : M a0 11 < M a0 1 → sW (sC d) 189 Q 71 [vO 12 a0, vI x1, vI x2, vN, vN] [] M G 0 0) : sW (sC d) 189 Q 60 [vO 12 a0, vI x1, vI x2, vN, vN] [] M G 0 0 := by
  refine q_aload_n 61 rfl (show sCode 189 60 = some (.aload_n 0, 1) by decide +kernel) rfl (Nat.le_of_ble_eq_true rfl) ?_
  refine q_getI 64 rfl (show sCode 189 61 = some (.getfield 99, 3) by decide +kernel) (show sFR (sKo 189).1 99 = some (12, 11) by decide +kernel) (by decide +kernel) (Or.inl (Or.inl rfl)) ?_
  refine q_aload_n 65 rfl (show sCode 189 64 = some (.aload_n 0, 1) by decide +kernel) rfl (Nat.le_of_ble_eq_true rfl) ?_
  refine q_getI 68 rfl (show sCode 189 65 = some (.getfield 88, 3) by decide +kernel) (show sFR (sKo 189).1 88 = some (12, 1) by decide +kernel) (by decide +kernel) (Or.inl (Or.inl rfl)) ?_
  refine q_icmpge 89 71 rfl (by decide) (show sCode 189 68 = some (.if_icmp .ge 21, 3) by decide +kernel) ?_ ?_
  · intro q; exact k1 q
  · intro q; exact k2 q
theorem b189_71 {d : Nat} {Q : Option sV → sM → sG → Prop} {M : sM} {G : sG} {a0 : Nat} {x1 : Int} {x2 : Int} (h1 : 0 ≤ M a0 11 ∧ M a0 11 < 400) (k1 : M (a0 + 1) (M a0 11).toNat ≠ 61 → sW (sC d) 189 Q 89 [vO 12 a0, vI x1, vI x2, vN, vN] [] M G 0 0) (k2 : M (a0 + 1) (M a0 11).toNat = 61 → sW (sC d) 189 Q 85 [vO 12 a0, vI x1, vI x2, vN, vN] [] M G 0 0) : sW (sC d) 189 Q 71 [vO 12 a0, vI x1, vI x2, vN, vN] [] M G 0 0 := by
  refine q_aload_n 72 rfl (show sCode 189 71 = some (.aload_n 0, 1) by decide +kernel) rfl (Nat.le_of_ble_eq_true rfl) ?_
  refine q_getR (vA 2 (a0 + 1) 400) 75 rfl (show sCode 189 72 = some (.getfield 7, 3) by decide +kernel) (show sFR (sKo 189).1 7 = some (12, 0) by decide +kernel) (by decide +kernel) (Or.inl (Or.inl rfl)) rfl ?_
  refine q_aload_n 76 rfl (show sCode 189 75 = some (.aload_n 0, 1) by decide +kernel) rfl (Nat.le_of_ble_eq_true rfl) ?_
  refine q_getI 79 rfl (show sCode 189 76 = some (.getfield 99, 3) by decide +kernel) (show sFR (sKo 189).1 99 = some (12, 11) by decide +kernel) (by decide +kernel) (Or.inl (Or.inl rfl)) ?_
  refine q_bald 80 rfl (show sCode 189 79 = some (.baload, 1) by decide +kernel) h1 ?_
  refine q_bipush 82 rfl (show sCode 189 80 = some (.bipush 61, 2) by decide +kernel) ⟨by decide, by decide⟩ (by decide +kernel) ?_
  refine q_icmpne 89 85 rfl (by decide) (show sCode 189 82 = some (.if_icmp .ne 7, 3) by decide +kernel) ?_ ?_
  · intro q; exact k1 q
  · intro q; exact k2 q
theorem b189_85 {d : Nat} {Q : Option sV → sM → sG → Prop} {M : sM} {G : sG} {a0 : Nat} {x1 : Int} {x2 : Int}  (kk : sW (sC d) 189 Q 90 [vO 12 a0, vI x1, vI x2, vN, vN] [vI 1] M G 0 0) : sW (sC d) 189 Q 85 [vO 12 a0, vI x1, vI x2, vN, vN] [] M G 0 0 := by
  refine q_iconst 86 rfl (show sCode 189 85 = some (.iconst 1, 1) by decide +kernel) ⟨by decide, by decide⟩ ?_
  refine q_goto 90 (by decide) (show sCode 189 86 = some (.goto 4, 3) by decide +kernel) ?_
  exact kk
theorem b189_89 {d : Nat} {Q : Option sV → sM → sG → Prop} {M : sM} {G : sG} {a0 : Nat} {x1 : Int} {x2 : Int}  (kk : sW (sC d) 189 Q 90 [vO 12 a0, vI x1, vI x2, vN, vN] [vI 0] M G 0 0) : sW (sC d) 189 Q 89 [vO 12 a0, vI x1, vI x2, vN, vN] [] M G 0 0 := by
  refine q_iconst 90 rfl (show sCode 189 89 = some (.iconst 0, 1) by decide +kernel) ⟨by decide, by decide⟩ ?_
  exact kk
theorem b189_90 {d : Nat} {Q : Option sV → sM → sG → Prop} {M : sM} {G : sG} {a0 : Nat} {x1 : Int} {x2 : Int} {s0 : Int}  (k1 : s0 = 0 → sW (sC d) 189 Q 105 [vO 12 a0, vI x1, vI x2, vI s0, vN] [] M G 0 0) (k2 : s0 ≠ 0 → sW (sC d) 189 Q 95 [vO 12 a0, vI x1, vI x2, vI s0, vN] [] M G 0 0) : sW (sC d) 189 Q 90 [vO 12 a0, vI x1, vI x2, vN, vN] [vI s0] M G 0 0 := by
  refine q_istore_n [vO 12 a0, vI x1, vI x2, vI s0, vN] 91 rfl (show sCode 189 90 = some (.istore_n 3, 1) by decide +kernel) (Nat.lt_of_lt_of_le (Nat.lt_succ_self _) (Nat.le_of_ble_eq_true rfl)) rfl rfl ?_
  refine q_iload_n 92 rfl (show sCode 189 91 = some (.iload_n 3, 1) by decide +kernel) rfl ?_
  refine q_ifeq 105 95 rfl (by decide) (show sCode 189 92 = some (.ifCond .eq 13, 3) by decide +kernel) ?_ ?_
  · intro q; exact k1 q
  · intro q; exact k2 q
theorem b189_95 {d : Nat} {Q : Option sV → sM → sG → Prop} {M : sM} {G : sG} {a0 : Nat} {x1 : Int} {x2 : Int} {x3 : Int} (h1 : sI ((M a0 11) + 1)) (kk : sW (sC d) 189 Q 105 [vO 12 a0, vI x1, vI x2, vI x3, vN] [] (sUpd M a0 11 ((M a0 11) + 1)) G 0 0) : sW (sC d) 189 Q 95 [vO 12 a0, vI x1, vI x2, vI x3, vN] [] M G 0 0 := by
  refine q_aload_n 96 rfl (show sCode 189 95 = some (.aload_n 0, 1) by decide +kernel) rfl (Nat.le_of_ble_eq_true rfl) ?_
  refine q_dup 97 rfl (show sCode 189 96 = some (.dup, 1) by decide +kernel) rfl ?_
  refine q_getI 100 rfl (show sCode 189 97 = some (.getfield 99, 3) by decide +kernel) (show sFR (sKo 189).1 99 = some (12, 11) by decide +kernel) (by decide +kernel) (Or.inl (Or.inl rfl)) ?_
  refine q_iconst 101 rfl (show sCode 189 100 = some (.iconst 1, 1) by decide +kernel) ⟨by decide, by decide⟩ ?_
  refine q_iadd 102 rfl (show sCode 189 101 = some (.iadd, 1) by decide +kernel) h1 ?_
  refine q_putI 105 rfl (show sCode 189 102 = some (.putfield 99, 3) by decide +kernel) (show sFR (sKo 189).1 99 = some (12, 11) by decide +kernel) (by decide +kernel) (Or.inl ⟨Or.inl rfl, by decide +kernel⟩) ?_
  exact kk
theorem b189_105 {d : Nat} {Q : Option sV → sM → sG → Prop} {M : sM} {G : sG} {a0 : Nat} {x1 : Int} {x2 : Int} {x3 : Int}  (kk : sC d 193 [vO 12 a0, vI x2] M G (QI (fun r M1 G1 => sW (sC d) 189 Q 110 [vO 12 a0, vI x1, vN, vI x3, vN] (vI r :: []) M1 G1 0 0))) : sW (sC d) 189 Q 105 [vO 12 a0, vI x1, vI x2, vI x3, vN] [] M G 0 0 := by
  refine q_aload_n 106 rfl (show sCode 189 105 = some (.aload_n 0, 1) by decide +kernel) rfl (Nat.le_of_ble_eq_true rfl) ?_
  refine q_iload_n 107 rfl (show sCode 189 106 = some (.iload_n 2, 1) by decide +kernel) rfl ?_
  refine q_forget (L' := [vO 12 a0, vI x1, vN, vI x3, vN]) 2 rfl ?_
  exact q_virtI [vI x2] 110 rfl (show sCode 189 107 = some (.invokevirtual 175, 3) by decide +kernel) (show sMR (sKo 189).1 175 = some 193 by decide +kernel) (show 193 < 1000 ∧ sStat 193 = false ∧ sIni 193 = false ∧ sKo 193 = (12, 1, 2, 0, 0) by decide +kernel) rfl (Or.inl rfl) rfl (Nat.le_of_ble_eq_true rfl) rfl rfl rfl (by decide +kernel) kk
theorem b189_110 {d : Nat} {Q : Option sV → sM → sG → Prop} {M : sM} {G : sG} {a0 : Nat} {x1 : Int} {x3 : Int} {s0 : Int}  (k1 : s0 ≠ 0 → sW (sC d) 189 Q 115 [vO 12 a0, vI x1, vN, vI x3, vN] [] M G 0 0) (k2 : s0 = 0 → sW (sC d) 189 Q 113 [vN, vN, vN, vN, vN] [] M G 0 0) : sW (sC d) 189 Q 110 [vO 12 a0, vI x1, vN, vI x3, vN] [vI s0] M G 0 0 := by
  refine q_ifne 115 113 rfl (by decide) (show sCode 189 110 = some (.ifCond .ne 5, 3) by decide +kernel) ?_ ?_
  · intro q; exact k1 q
  · intro q; refine q_forget (L' := [vN, vI x1, vN, vI x3, vN]) 0 rfl ?_; refine q_forget (L' := [vN, vN, vN, vI x3, vN]) 1 rfl ?_; refine q_forget (L' := [vN, vN, vN, vN, vN]) 3 rfl ?_; exact k2 q
theorem b189_113 {d : Nat} {P : Int → sM → sG → Prop} {M : sM} {G : sG}   (kk : P 0 M G) : sW (sC d) 189 (QI P) 113 [vN, vN, vN, vN, vN] [] M G 0 0 := by
  refine q_iconst 114 rfl (show sCode 189 113 = some (.iconst 0, 1) by decide +kernel) ⟨by decide, by decide⟩ ?_
  exact q_zret (show sCode 189 114 = some (.ireturn, 1) by decide +kernel) (by decide +kernel) (by decide) (by decide +kernel) kk
theorem b189_115 {d : Nat} {Q : Option sV → sM → sG → Prop} {M : sM} {G : sG} {a0 : Nat} {x1 : Int} {x3 : Int}  (k1 : x1 ≠ 60 → sW (sC d) 189 Q 133 [vO 12 a0, vI x1, vN, vI x3, vN] [] M G 0 0) (k2 : x1 = 60 → sW (sC d) 189 Q 121 [vO 12 a0, vN, vN, vI x3, vN] [] M G 0 0) : sW (sC d) 189 Q 115 [vO 12 a0, vI x1, vN, vI x3, vN] [] M G 0 0 := by
  refine q_iload_n 116 rfl (show sCode 189 115 = some (.iload_n 1, 1) by decide +kernel) rfl ?_
  refine q_bipush 118 rfl (show sCode 189 116 = some (.bipush 60, 2) by decide +kernel) ⟨by decide, by decide⟩ (by decide +kernel) ?_
  refine q_icmpne 133 121 rfl (by decide) (show sCode 189 118 = some (.if_icmp .ne 15, 3) by decide +kernel) ?_ ?_
  · intro q; exact k1 q
  · intro q; refine q_forget (L' := [vO 12 a0, vN, vN, vI x3, vN]) 1 rfl ?_; exact k2 q
theorem b189_121 {d : Nat} {Q : Option sV → sM → sG → Prop} {M : sM} {G : sG} {a0 : Nat} {x3 : Int}  (k1 : x3 = 0 → sW (sC d) 189 Q 129 [vO 12 a0, vN, vN, vN, vN] [] M G 0 0) (k2 : x3 ≠ 0 → sW (sC d) 189 Q 125 [vO 12 a0, vN, vN, vN, vN] [] M G 0 0) : sW (sC d) 189 Q 121 [vO 12 a0, vN, vN, vI x3, vN] [] M G 0 0 := by
  refine q_iload_n 122 rfl (show sCode 189 121 = some (.iload_n 3, 1) by decide +kernel) rfl ?_
  refine q_ifeq 129 125 rfl (by decide) (show sCode 189 122 = some (.ifCond .eq 7, 3) by decide +kernel) ?_ ?_
  · intro q; refine q_forget (L' := [vO 12 a0, vN, vN, vN, vN]) 3 rfl ?_; exact k1 q
  · intro q; refine q_forget (L' := [vO 12 a0, vN, vN, vN, vN]) 3 rfl ?_; exact k2 q
theorem b189_125 {d : Nat} {Q : Option sV → sM → sG → Prop} {M : sM} {G : sG} {a0 : Nat}  (kk : sW (sC d) 189 Q 152 [vO 12 a0, vN, vN, vN, vN] [vI 1] M G 0 0) : sW (sC d) 189 Q 125 [vO 12 a0, vN, vN, vN, vN] [] M G 0 0 := by
  refine q_iconst 126 rfl (show sCode 189 125 = some (.iconst 1, 1) by decide +kernel) ⟨by decide, by decide⟩ ?_
  refine q_goto 152 (by decide) (show sCode 189 126 = some (.goto 26, 3) by decide +kernel) ?_
  exact kk
theorem b189_129 {d : Nat} {Q : Option sV → sM → sG → Prop} {M : sM} {G : sG} {a0 : Nat}  (kk : sW (sC d) 189 Q 152 [vO 12 a0, vN, vN, vN, vN] [vI 0] M G 0 0) : sW (sC d) 189 Q 129 [vO 12 a0, vN, vN, vN, vN] [] M G 0 0 := by
  refine q_iconst 130 rfl (show sCode 189 129 = some (.iconst 0, 1) by decide +kernel) ⟨by decide, by decide⟩ ?_
  refine q_goto 152 (by decide) (show sCode 189 130 = some (.goto 22, 3) by decide +kernel) ?_
  exact kk
theorem b189_133 {d : Nat} {Q : Option sV → sM → sG → Prop} {M : sM} {G : sG} {a0 : Nat} {x1 : Int} {x3 : Int}  (k1 : x1 ≠ 61 → sW (sC d) 189 Q 143 [vO 12 a0, vN, vN, vI x3, vN] [] M G 0 0) (k2 : x1 = 61 → sW (sC d) 189 Q 139 [vO 12 a0, vN, vN, vN, vN] [] M G 0 0) : sW (sC d) 189 Q 133 [vO 12 a0, vI x1, vN, vI x3, vN] [] M G 0 0 := by
  refine q_iload_n 134 rfl (show sCode 189 133 = some (.iload_n 1, 1) by decide +kernel) rfl ?_
  refine q_bipush 136 rfl (show sCode 189 134 = some (.bipush 61, 2) by decide +kernel) ⟨by decide, by decide⟩ (by decide +kernel) ?_
  refine q_icmpne 143 139 rfl (by decide) (show sCode 189 136 = some (.if_icmp .ne 7, 3) by decide +kernel) ?_ ?_
  · intro q; refine q_forget (L' := [vO 12 a0, vN, vN, vI x3, vN]) 1 rfl ?_; exact k1 q
  · intro q; refine q_forget (L' := [vO 12 a0, vN, vN, vI x3, vN]) 1 rfl ?_; refine q_forget (L' := [vO 12 a0, vN, vN, vN, vN]) 3 rfl ?_; exact k2 q
theorem b189_139 {d : Nat} {Q : Option sV → sM → sG → Prop} {M : sM} {G : sG} {a0 : Nat}  (kk : sW (sC d) 189 Q 152 [vO 12 a0, vN, vN, vN, vN] [vI 2] M G 0 0) : sW (sC d) 189 Q 139 [vO 12 a0, vN, vN, vN, vN] [] M G 0 0 := by
  refine q_iconst 140 rfl (show sCode 189 139 = some (.iconst 2, 1) by decide +kernel) ⟨by decide, by decide⟩ ?_
  refine q_goto 152 (by decide) (show sCode 189 140 = some (.goto 12, 3) by decide +kernel) ?_
  exact kk
theorem b189_143 {d : Nat} {Q : Option sV → sM → sG → Prop} {M : sM} {G : sG} {a0 : Nat} {x3 : Int}  (k1 : x3 = 0 → sW (sC d) 189 Q 151 [vO 12 a0, vN, vN, vN, vN] [] M G 0 0) (k2 : x3 ≠ 0 → sW (sC d) 189 Q 147 [vO 12 a0, vN, vN, vN, vN] [] M G 0 0) : sW (sC d) 189 Q 143 [vO 12 a0, vN, vN, vI x3, vN] [] M G 0 0 := by
  refine q_iload_n 144 rfl (show sCode 189 143 = some (.iload_n 3, 1) by decide +kernel) rfl ?_
  refine q_ifeq 151 147 rfl (by decide) (show sCode 189 144 = some (.ifCond .eq 7, 3) by decide +kernel) ?_ ?_
  · intro q; refine q_forget (L' := [vO 12 a0, vN, vN, vN, vN]) 3 rfl ?_; exact k1 q
  · intro q; refine q_forget (L' := [vO 12 a0, vN, vN, vN, vN]) 3 rfl ?_; exact k2 q
theorem b189_147 {d : Nat} {Q : Option sV → sM → sG → Prop} {M : sM} {G : sG} {a0 : Nat}  (kk : sW (sC d) 189 Q 152 [vO 12 a0, vN, vN, vN, vN] [vI 3] M G 0 0) : sW (sC d) 189 Q 147 [vO 12 a0, vN, vN, vN, vN] [] M G 0 0 := by
  refine q_iconst 148 rfl (show sCode 189 147 = some (.iconst 3, 1) by decide +kernel) ⟨by decide, by decide⟩ ?_
  refine q_goto 152 (by decide) (show sCode 189 148 = some (.goto 4, 3) by decide +kernel) ?_
  exact kk
theorem b189_151 {d : Nat} {Q : Option sV → sM → sG → Prop} {M : sM} {G : sG} {a0 : Nat}  (kk : sW (sC d) 189 Q 152 [vO 12 a0, vN, vN, vN, vN] [vI 4] M G 0 0) : sW (sC d) 189 Q 151 [vO 12 a0, vN, vN, vN, vN] [] M G 0 0 := by
  refine q_iconst 152 rfl (show sCode 189 151 = some (.iconst 4, 1) by decide +kernel) ⟨by decide, by decide⟩ ?_
  exact kk
theorem b189_152 {d : Nat} {Q : Option sV → sM → sG → Prop} {M : sM} {G : sG} {a0 : Nat} {s0 : Int}  (kk : sC d 190 [vO 12 a0] M G (QI (fun r M1 G1 => sW (sC d) 189 Q 158 [vO 12 a0, vN, vN, vN, vI s0] (vI r :: []) M1 G1 0 0))) : sW (sC d) 189 Q 152 [vO 12 a0, vN, vN, vN, vN] [vI s0] M G 0 0 := by
  refine q_istore [vO 12 a0, vN, vN, vN, vI s0] 154 rfl (show sCode 189 152 = some (.istore 4, 2) by decide +kernel) (Nat.lt_of_lt_of_le (Nat.lt_succ_self _) (Nat.le_of_ble_eq_true rfl)) rfl rfl ?_
  refine q_aload_n 155 rfl (show sCode 189 154 = some (.aload_n 0, 1) by decide +kernel) rfl (Nat.le_of_ble_eq_true rfl) ?_
  exact q_virtI [] 158 rfl (show sCode 189 155 = some (.invokevirtual 187, 3) by decide +kernel) (show sMR (sKo 189).1 187 = some 190 by decide +kernel) (show 190 < 1000 ∧ sStat 190 = false ∧ sIni 190 = false ∧ sKo 190 = (12, 0, 2, 0, 0) by decide +kernel) rfl (Or.inl rfl) rfl (Nat.le_of_ble_eq_true rfl) rfl rfl rfl (by decide +kernel) kk
theorem b189_158 {d : Nat} {Q : Option sV → sM → sG → Prop} {M : sM} {G : sG} {a0 : Nat} {x4 : Int} {s0 : Int}  (k1 : s0 ≠ 0 → sW (sC d) 189 Q 163 [vO 12 a0, vN, vN, vN, vI x4] [] M G 0 0) (k2 : s0 = 0 → sW (sC d) 189 Q 161 [vN, vN, vN, vN, vN] [] M G 0 0) : sW (sC d) 189 Q 158 [vO 12 a0, vN, vN, vN, vI x4] [vI s0] M G 0 0 := by
  refine q_ifne 163 161 rfl (by decide) (show sCode 189 158 = some (.ifCond .ne 5, 3) by decide +kernel) ?_ ?_
  · intro q; exact k1 q
  · intro q; refine q_forget (L' := [vN, vN, vN, vN, vI x4]) 0 rfl ?_; refine q_forget (L' := [vN, vN, vN, vN, vN]) 4 rfl ?_; exact k2 q
theorem b189_161 {d : Nat} {P : Int → sM → sG → Prop} {M : sM} {G : sG}   (kk : P 0 M G) : sW (sC d) 189 (QI P) 161 [vN, vN, vN, vN, vN] [] M G 0 0 := by
  refine q_iconst 162 rfl (show sCode 189 161 = some (.iconst 0, 1) by decide +kernel) ⟨by decide, by decide⟩ ?_
  exact q_zret (show sCode 189 162 = some (.ireturn, 1) by decide +kernel) (by decide +kernel) (by decide) (by decide +kernel) kk
theorem b189_163 {d : Nat} {Q : Option sV → sM → sG → Prop} {M : sM} {G : sG} {a0 : Nat} {x4 : Int} (h1 : sI (6 + x4)) (kk : sC d 194 [vO 12 a0, vI (6 + x4), vI 0] M G (QV (fun M1 G1 => sW (sC d) 189 Q 173 [vN, vN, vN, vN, vN] [] M1 G1 0 0))) : sW (sC d) 189 Q 163 [vO 12 a0, vN, vN, vN, vI x4] [] M G 0 0 := by
  refine q_aload_n 164 rfl (show sCode 189 163 = some (.aload_n 0, 1) by decide +kernel) rfl (Nat.le_of_ble_eq_true rfl) ?_
  refine q_bipush 166 rfl (show sCode 189 164 = some (.bipush 6, 2) by decide +kernel) ⟨by decide, by decide⟩ (by decide +kernel) ?_
  refine q_iload 168 rfl (show sCode 189 166 = some (.iload 4, 2) by decide +kernel) rfl ?_
  refine q_iadd 169 rfl (show sCode 189 168 = some (.iadd, 1) by decide +kernel) h1 ?_
  refine q_iconst 170 rfl (show sCode 189 169 = some (.iconst 0, 1) by decide +kernel) ⟨by decide, by decide⟩ ?_
  refine q_forget (L' := [vN, vN, vN, vN, vI x4]) 0 rfl ?_
  refine q_forget (L' := [vN, vN, vN, vN, vN]) 4 rfl ?_
  exact q_virtV [vI (6 + x4), vI 0] 173 rfl (show sCode 189 170 = some (.invokevirtual 167, 3) by decide +kernel) (show sMR (sKo 189).1 167 = some 194 by decide +kernel) (show 194 < 1000 ∧ sStat 194 = false ∧ sIni 194 = false ∧ sKo 194 = (12, 2, 0, 0, 0) by decide +kernel) rfl (Or.inl rfl) rfl (Nat.le_of_ble_eq_true rfl) rfl rfl rfl (by decide +kernel) kk
theorem b189_173 {d : Nat} {P : Int → sM → sG → Prop} {M : sM} {G : sG}   (kk : P 1 M G) : sW (sC d) 189 (QI P) 173 [vN, vN, vN, vN, vN] [] M G 0 0 := by
  refine q_iconst 174 rfl (show sCode 189 173 = some (.iconst 1, 1) by decide +kernel) ⟨by decide, by decide⟩ ?_
  exact q_zret (show sCode 189 174 = some (.ireturn, 1) by decide +kernel) (by decide +kernel) (by decide) (by decide +kernel) kk
-- 190 AfterTheLastModel.sum ()Z
theorem b190_0 {d : Nat} {Q : Option sV → sM → sG → Prop} {M : sM} {G : sG} {a0 : Nat}  (kk : sC d 191 [vO 12 a0] M G (QI (fun r M1 G1 => sW (sC d) 190 Q 4 [vO 12 a0, vN] (vI r :: []) M1 G1 0 0))) : sW (sC d) 190 Q 0 [vO 12 a0, vN] [] M G 0 0 := by
  refine q_aload_n 1 rfl (show sCode 190 0 = some (.aload_n 0, 1) by decide +kernel) rfl (Nat.le_of_ble_eq_true rfl) ?_
  exact q_virtI [] 4 rfl (show sCode 190 1 = some (.invokevirtual 184, 3) by decide +kernel) (show sMR (sKo 190).1 184 = some 191 by decide +kernel) (show 191 < 1000 ∧ sStat 191 = false ∧ sIni 191 = false ∧ sKo 191 = (12, 0, 2, 0, 0) by decide +kernel) rfl (Or.inl rfl) rfl (Nat.le_of_ble_eq_true rfl) rfl rfl rfl (by decide +kernel) kk
theorem b190_4 {d : Nat} {Q : Option sV → sM → sG → Prop} {M : sM} {G : sG} {a0 : Nat} {s0 : Int}  (k1 : s0 ≠ 0 → sW (sC d) 190 Q 9 [vO 12 a0, vN] [] M G 0 0) (k2 : s0 = 0 → sW (sC d) 190 Q 7 [vN, vN] [] M G 0 0) : sW (sC d) 190 Q 4 [vO 12 a0, vN] [vI s0] M G 0 0 := by
  refine q_ifne 9 7 rfl (by decide) (show sCode 190 4 = some (.ifCond .ne 5, 3) by decide +kernel) ?_ ?_
  · intro q; exact k1 q
  · intro q; refine q_forget (L' := [vN, vN]) 0 rfl ?_; exact k2 q
theorem b190_7 {d : Nat} {P : Int → sM → sG → Prop} {M : sM} {G : sG}   (kk : P 0 M G) : sW (sC d) 190 (QI P) 7 [vN, vN] [] M G 0 0 := by
  refine q_iconst 8 rfl (show sCode 190 7 = some (.iconst 0, 1) by decide +kernel) ⟨by decide, by decide⟩ ?_
  exact q_zret (show sCode 190 8 = some (.ireturn, 1) by decide +kernel) (by decide +kernel) (by decide) (by decide +kernel) kk
theorem b190_9 {d : Nat} {Q : Option sV → sM → sG → Prop} {M : sM} {G : sG} {a0 : Nat}  (kk : sC d 175 [vO 12 a0] M G (QI (fun r M1 G1 => sW (sC d) 190 Q 13 [vO 12 a0, vN] (vI r :: []) M1 G1 0 0))) : sW (sC d) 190 Q 9 [vO 12 a0, vN] [] M G 0 0 := by
  refine q_aload_n 10 rfl (show sCode 190 9 = some (.aload_n 0, 1) by decide +kernel) rfl (Nat.le_of_ble_eq_true rfl) ?_
  exact q_virtI [] 13 rfl (show sCode 190 10 = some (.invokevirtual 102, 3) by decide +kernel) (show sMR (sKo 190).1 102 = some 175 by decide +kernel) (show 175 < 1000 ∧ sStat 175 = false ∧ sIni 175 = false ∧ sKo 175 = (12, 0, 1, 0, 0) by decide +kernel) rfl (Or.inl rfl) rfl (Nat.le_of_ble_eq_true rfl) rfl rfl rfl (by decide +kernel) kk
theorem b190_13 {d : Nat} {Q : Option sV → sM → sG → Prop} {M : sM} {G : sG} {a0 : Nat} {s0 : Int}  (k1 : s0 = 43 → sW (sC d) 190 Q 27 [vO 12 a0, vN] [] M G 0 0) (k2 : s0 ≠ 43 → sW (sC d) 190 Q 18 [vO 12 a0, vN] [] M G 0 0) : sW (sC d) 190 Q 13 [vO 12 a0, vN] [vI s0] M G 0 0 := by
  refine q_bipush 15 rfl (show sCode 190 13 = some (.bipush 43, 2) by decide +kernel) ⟨by decide, by decide⟩ (by decide +kernel) ?_
  refine q_icmpeq 27 18 rfl (by decide) (show sCode 190 15 = some (.if_icmp .eq 12, 3) by decide +kernel) ?_ ?_
  · intro q; exact k1 q
  · intro q; exact k2 q
theorem b190_18 {d : Nat} {Q : Option sV → sM → sG → Prop} {M : sM} {G : sG} {a0 : Nat}  (kk : sC d 175 [vO 12 a0] M G (QI (fun r M1 G1 => sW (sC d) 190 Q 22 [vO 12 a0, vN] (vI r :: []) M1 G1 0 0))) : sW (sC d) 190 Q 18 [vO 12 a0, vN] [] M G 0 0 := by
  refine q_aload_n 19 rfl (show sCode 190 18 = some (.aload_n 0, 1) by decide +kernel) rfl (Nat.le_of_ble_eq_true rfl) ?_
  exact q_virtI [] 22 rfl (show sCode 190 19 = some (.invokevirtual 102, 3) by decide +kernel) (show sMR (sKo 190).1 102 = some 175 by decide +kernel) (show 175 < 1000 ∧ sStat 175 = false ∧ sIni 175 = false ∧ sKo 175 = (12, 0, 1, 0, 0) by decide +kernel) rfl (Or.inl rfl) rfl (Nat.le_of_ble_eq_true rfl) rfl rfl rfl (by decide +kernel) kk
theorem b190_22 {d : Nat} {Q : Option sV → sM → sG → Prop} {M : sM} {G : sG} {a0 : Nat} {s0 : Int}  (k1 : s0 ≠ 45 → sW (sC d) 190 Q 75 [vN, vN] [] M G 0 0) (k2 : s0 = 45 → sW (sC d) 190 Q 27 [vO 12 a0, vN] [] M G 0 0) : sW (sC d) 190 Q 22 [vO 12 a0, vN] [vI s0] M G 0 0 := by
  refine q_bipush 24 rfl (show sCode 190 22 = some (.bipush 45, 2) by decide +kernel) ⟨by decide, by decide⟩ (by decide +kernel) ?_
  refine q_icmpne 75 27 rfl (by decide) (show sCode 190 24 = some (.if_icmp .ne 51, 3) by decide +kernel) ?_ ?_
  · intro q; refine q_forget (L' := [vN, vN]) 0 rfl ?_; exact k1 q
  · intro q; exact k2 q
theorem b190_27 {d : Nat} {Q : Option sV → sM → sG → Prop} {M : sM} {G : sG} {a0 : Nat} (h1 : 0 ≤ M a0 11 ∧ M a0 11 < 400) (k1 : M (a0 + 1) (M a0 11).toNat ≠ 43 → sW (sC d) 190 Q 45 [vO 12 a0, vN] [] M G 0 0) (k2 : M (a0 + 1) (M a0 11).toNat = 43 → sW (sC d) 190 Q 41 [vO 12 a0, vN] [] M G 0 0) : sW (sC d) 190 Q 27 [vO 12 a0, vN] [] M G 0 0 := by
  refine q_aload_n 28 rfl (show sCode 190 27 = some (.aload_n 0, 1) by decide +kernel) rfl (Nat.le_of_ble_eq_true rfl) ?_
  refine q_getR (vA 2 (a0 + 1) 400) 31 rfl (show sCode 190 28 = some (.getfield 7, 3) by decide +kernel) (show sFR (sKo 190).1 7 = some (12, 0) by decide +kernel) (by decide +kernel) (Or.inl (Or.inl rfl)) rfl ?_
  refine q_aload_n 32 rfl (show sCode 190 31 = some (.aload_n 0, 1) by decide +kernel) rfl (Nat.le_of_ble_eq_true rfl) ?_
  refine q_getI 35 rfl (show sCode 190 32 = some (.getfield 99, 3) by decide +kernel) (show sFR (sKo 190).1 99 = some (12, 11) by decide +kernel) (by decide +kernel) (Or.inl (Or.inl rfl)) ?_
  refine q_bald 36 rfl (show sCode 190 35 = some (.baload, 1) by decide +kernel) h1 ?_
  refine q_bipush 38 rfl (show sCode 190 36 = some (.bipush 43, 2) by decide +kernel) ⟨by decide, by decide⟩ (by decide +kernel) ?_
  refine q_icmpne 45 41 rfl (by decide) (show sCode 190 38 = some (.if_icmp .ne 7, 3) by decide +kernel) ?_ ?_
  · intro q; exact k1 q
  · intro q; exact k2 q
theorem b190_41 {d : Nat} {Q : Option sV → sM → sG → Prop} {M : sM} {G : sG} {a0 : Nat}  (kk : sW (sC d) 190 Q 46 [vO 12 a0, vN] [vI 2] M G 0 0) : sW (sC d) 190 Q 41 [vO 12 a0, vN] [] M G 0 0 := by
  refine q_iconst 42 rfl (show sCode 190 41 = some (.iconst 2, 1) by decide +kernel) ⟨by decide, by decide⟩ ?_
  refine q_goto 46 (by decide) (show sCode 190 42 = some (.goto 4, 3) by decide +kernel) ?_
  exact kk
theorem b190_45 {d : Nat} {Q : Option sV → sM → sG → Prop} {M : sM} {G : sG} {a0 : Nat}  (kk : sW (sC d) 190 Q 46 [vO 12 a0, vN] [vI 3] M G 0 0) : sW (sC d) 190 Q 45 [vO 12 a0, vN] [] M G 0 0 := by
  refine q_iconst 46 rfl (show sCode 190 45 = some (.iconst 3, 1) by decide +kernel) ⟨by decide, by decide⟩ ?_
  exact kk
theorem b190_46 {d : Nat} {Q : Option sV → sM → sG → Prop} {M : sM} {G : sG} {a0 : Nat} {s0 : Int} (h1 : sI ((M a0 11) + 1)) (kk : sC d 191 [vO 12 a0] (sUpd M a0 11 ((M a0 11) + 1)) G (QI (fun r M1 G1 => sW (sC d) 190 Q 61 [vO 12 a0, vI s0] (vI r :: []) M1 G1 0 0))) : sW (sC d) 190 Q 46 [vO 12 a0, vN] [vI s0] M G 0 0 := by
  refine q_istore_n [vO 12 a0, vI s0] 47 rfl (show sCode 190 46 = some (.istore_n 1, 1) by decide +kernel) (Nat.lt_of_lt_of_le (Nat.lt_succ_self _) (Nat.le_of_ble_eq_true rfl)) rfl rfl ?_
  refine q_aload_n 48 rfl (show sCode 190 47 = some (.aload_n 0, 1) by decide +kernel) rfl (Nat.le_of_ble_eq_true rfl) ?_
  refine q_dup 49 rfl (show sCode 190 48 = some (.dup, 1) by decide +kernel) rfl ?_
  refine q_getI 52 rfl (show sCode 190 49 = some (.getfield 99, 3) by decide +kernel) (show sFR (sKo 190).1 99 = some (12, 11) by decide +kernel) (by decide +kernel) (Or.inl (Or.inl rfl)) ?_
  refine q_iconst 53 rfl (show sCode 190 52 = some (.iconst 1, 1) by decide +kernel) ⟨by decide, by decide⟩ ?_
  refine q_iadd 54 rfl (show sCode 190 53 = some (.iadd, 1) by decide +kernel) h1 ?_
  refine q_putI 57 rfl (show sCode 190 54 = some (.putfield 99, 3) by decide +kernel) (show sFR (sKo 190).1 99 = some (12, 11) by decide +kernel) (by decide +kernel) (Or.inl ⟨Or.inl rfl, by decide +kernel⟩) ?_
  refine q_aload_n 58 rfl (show sCode 190 57 = some (.aload_n 0, 1) by decide +kernel) rfl (Nat.le_of_ble_eq_true rfl) ?_
  exact q_virtI [] 61 rfl (show sCode 190 58 = some (.invokevirtual 184, 3) by decide +kernel) (show sMR (sKo 190).1 184 = some 191 by decide +kernel) (show 191 < 1000 ∧ sStat 191 = false ∧ sIni 191 = false ∧ sKo 191 = (12, 0, 2, 0, 0) by decide +kernel) rfl (Or.inl rfl) rfl (Nat.le_of_ble_eq_true rfl) rfl rfl rfl (by decide +kernel) kk
theorem b190_61 {d : Nat} {Q : Option sV → sM → sG → Prop} {M : sM} {G : sG} {a0 : Nat} {x1 : Int} {s0 : Int}  (k1 : s0 ≠ 0 → sW (sC d) 190 Q 66 [vO 12 a0, vI x1] [] M G 0 0) (k2 : s0 = 0 → sW (sC d) 190 Q 64 [vN, vN] [] M G 0 0) : sW (sC d) 190 Q 61 [vO 12 a0, vI x1] [vI s0] M G 0 0 := by
  refine q_ifne 66 64 rfl (by decide) (show sCode 190 61 = some (.ifCond .ne 5, 3) by decide +kernel) ?_ ?_
  · intro q; exact k1 q
  · intro q; refine q_forget (L' := [vN, vI x1]) 0 rfl ?_; refine q_forget (L' := [vN, vN]) 1 rfl ?_; exact k2 q
theorem b190_64 {d : Nat} {P : Int → sM → sG → Prop} {M : sM} {G : sG}   (kk : P 0 M G) : sW (sC d) 190 (QI P) 64 [vN, vN] [] M G 0 0 := by
  refine q_iconst 65 rfl (show sCode 190 64 = some (.iconst 0, 1) by decide +kernel) ⟨by decide, by decide⟩ ?_
  exact q_zret (show sCode 190 65 = some (.ireturn, 1) by decide +kernel) (by decide +kernel) (by decide) (by decide +kernel) kk
theorem b190_66 {d : Nat} {Q : Option sV → sM → sG → Prop} {M : sM} {G : sG} {a0 : Nat} {x1 : Int}  (kk : sC d 194 [vO 12 a0, vI x1, vI 0] M G (QV (fun M1 G1 => sW (sC d) 190 Q 72 [vO 12 a0, vN] [] M1 G1 0 0))) : sW (sC d) 190 Q 66 [vO 12 a0, vI x1] [] M G 0 0 := by
  refine q_aload_n 67 rfl (show sCode 190 66 = some (.aload_n 0, 1) by decide +kernel) rfl (Nat.le_of_ble_eq_true rfl) ?_
  refine q_iload_n 68 rfl (show sCode 190 67 = some (.iload_n 1, 1) by decide +kernel) rfl ?_
  refine q_iconst 69 rfl (show sCode 190 68 = some (.iconst 0, 1) by decide +kernel) ⟨by decide, by decide⟩ ?_
  refine q_forget (L' := [vO 12 a0, vN]) 1 rfl ?_
  exact q_virtV [vI x1, vI 0] 72 rfl (show sCode 190 69 = some (.invokevirtual 167, 3) by decide +kernel) (show sMR (sKo 190).1 167 = some 194 by decide +kernel) (show 194 < 1000 ∧ sStat 194 = false ∧ sIni 194 = false ∧ sKo 194 = (12, 2, 0, 0, 0) by decide +kernel) rfl (Or.inl rfl) rfl (Nat.le_of_ble_eq_true rfl) rfl rfl rfl (by decide +kernel) kk
theorem b190_72 {d : Nat} {Q : Option sV → sM → sG → Prop} {M : sM} {G : sG} {a0 : Nat}  (kk : sW (sC d) 190 Q 9 [vO 12 a0, vN] [] M G 0 0) : sW (sC d) 190 Q 72 [vO 12 a0, vN] [] M G 0 0 := by
  refine q_goto 9 (by decide) (show sCode 190 72 = some (.goto (-63), 3) by decide +kernel) ?_
  exact kk
theorem b190_75 {d : Nat} {P : Int → sM → sG → Prop} {M : sM} {G : sG}   (kk : P 1 M G) : sW (sC d) 190 (QI P) 75 [vN, vN] [] M G 0 0 := by
  refine q_iconst 76 rfl (show sCode 190 75 = some (.iconst 1, 1) by decide +kernel) ⟨by decide, by decide⟩ ?_
  exact q_zret (show sCode 190 76 = some (.ireturn, 1) by decide +kernel) (by decide +kernel) (by decide) (by decide +kernel) kk
-- 191 AfterTheLastModel.term ()Z
theorem b191_0 {d : Nat} {Q : Option sV → sM → sG → Prop} {M : sM} {G : sG} {a0 : Nat}  (kk : sC d 192 [vO 12 a0] M G (QI (fun r M1 G1 => sW (sC d) 191 Q 4 [vO 12 a0, vN] (vI r :: []) M1 G1 0 0))) : sW (sC d) 191 Q 0 [vO 12 a0, vN] [] M G 0 0 := by
  refine q_aload_n 1 rfl (show sCode 191 0 = some (.aload_n 0, 1) by decide +kernel) rfl (Nat.le_of_ble_eq_true rfl) ?_
  exact q_virtI [] 4 rfl (show sCode 191 1 = some (.invokevirtual 181, 3) by decide +kernel) (show sMR (sKo 191).1 181 = some 192 by decide +kernel) (show 192 < 1000 ∧ sStat 192 = false ∧ sIni 192 = false ∧ sKo 192 = (12, 0, 2, 0, 0) by decide +kernel) rfl (Or.inl rfl) rfl (Nat.le_of_ble_eq_true rfl) rfl rfl rfl (by decide +kernel) kk
theorem b191_4 {d : Nat} {Q : Option sV → sM → sG → Prop} {M : sM} {G : sG} {a0 : Nat} {s0 : Int}  (k1 : s0 ≠ 0 → sW (sC d) 191 Q 9 [vO 12 a0, vN] [] M G 0 0) (k2 : s0 = 0 → sW (sC d) 191 Q 7 [vN, vN] [] M G 0 0) : sW (sC d) 191 Q 4 [vO 12 a0, vN] [vI s0] M G 0 0 := by
  refine q_ifne 9 7 rfl (by decide) (show sCode 191 4 = some (.ifCond .ne 5, 3) by decide +kernel) ?_ ?_
  · intro q; exact k1 q
  · intro q; refine q_forget (L' := [vN, vN]) 0 rfl ?_; exact k2 q
theorem b191_7 {d : Nat} {P : Int → sM → sG → Prop} {M : sM} {G : sG}   (kk : P 0 M G) : sW (sC d) 191 (QI P) 7 [vN, vN] [] M G 0 0 := by
  refine q_iconst 8 rfl (show sCode 191 7 = some (.iconst 0, 1) by decide +kernel) ⟨by decide, by decide⟩ ?_
  exact q_zret (show sCode 191 8 = some (.ireturn, 1) by decide +kernel) (by decide +kernel) (by decide) (by decide +kernel) kk
theorem b191_9 {d : Nat} {Q : Option sV → sM → sG → Prop} {M : sM} {G : sG} {a0 : Nat}  (kk : sC d 175 [vO 12 a0] M G (QI (fun r M1 G1 => sW (sC d) 191 Q 13 [vO 12 a0, vN] (vI r :: []) M1 G1 0 0))) : sW (sC d) 191 Q 9 [vO 12 a0, vN] [] M G 0 0 := by
  refine q_aload_n 10 rfl (show sCode 191 9 = some (.aload_n 0, 1) by decide +kernel) rfl (Nat.le_of_ble_eq_true rfl) ?_
  exact q_virtI [] 13 rfl (show sCode 191 10 = some (.invokevirtual 102, 3) by decide +kernel) (show sMR (sKo 191).1 102 = some 175 by decide +kernel) (show 175 < 1000 ∧ sStat 175 = false ∧ sIni 175 = false ∧ sKo 175 = (12, 0, 1, 0, 0) by decide +kernel) rfl (Or.inl rfl) rfl (Nat.le_of_ble_eq_true rfl) rfl rfl rfl (by decide +kernel) kk
theorem b191_13 {d : Nat} {Q : Option sV → sM → sG → Prop} {M : sM} {G : sG} {a0 : Nat} {s0 : Int}  (k1 : s0 = 42 → sW (sC d) 191 Q 27 [vO 12 a0, vN] [] M G 0 0) (k2 : s0 ≠ 42 → sW (sC d) 191 Q 18 [vO 12 a0, vN] [] M G 0 0) : sW (sC d) 191 Q 13 [vO 12 a0, vN] [vI s0] M G 0 0 := by
  refine q_bipush 15 rfl (show sCode 191 13 = some (.bipush 42, 2) by decide +kernel) ⟨by decide, by decide⟩ (by decide +kernel) ?_
  refine q_icmpeq 27 18 rfl (by decide) (show sCode 191 15 = some (.if_icmp .eq 12, 3) by decide +kernel) ?_ ?_
  · intro q; exact k1 q
  · intro q; exact k2 q
theorem b191_18 {d : Nat} {Q : Option sV → sM → sG → Prop} {M : sM} {G : sG} {a0 : Nat}  (kk : sC d 175 [vO 12 a0] M G (QI (fun r M1 G1 => sW (sC d) 191 Q 22 [vO 12 a0, vN] (vI r :: []) M1 G1 0 0))) : sW (sC d) 191 Q 18 [vO 12 a0, vN] [] M G 0 0 := by
  refine q_aload_n 19 rfl (show sCode 191 18 = some (.aload_n 0, 1) by decide +kernel) rfl (Nat.le_of_ble_eq_true rfl) ?_
  exact q_virtI [] 22 rfl (show sCode 191 19 = some (.invokevirtual 102, 3) by decide +kernel) (show sMR (sKo 191).1 102 = some 175 by decide +kernel) (show 175 < 1000 ∧ sStat 175 = false ∧ sIni 175 = false ∧ sKo 175 = (12, 0, 1, 0, 0) by decide +kernel) rfl (Or.inl rfl) rfl (Nat.le_of_ble_eq_true rfl) rfl rfl rfl (by decide +kernel) kk
theorem b191_22 {d : Nat} {Q : Option sV → sM → sG → Prop} {M : sM} {G : sG} {a0 : Nat} {s0 : Int}  (k1 : s0 ≠ 47 → sW (sC d) 191 Q 75 [vN, vN] [] M G 0 0) (k2 : s0 = 47 → sW (sC d) 191 Q 27 [vO 12 a0, vN] [] M G 0 0) : sW (sC d) 191 Q 22 [vO 12 a0, vN] [vI s0] M G 0 0 := by
  refine q_bipush 24 rfl (show sCode 191 22 = some (.bipush 47, 2) by decide +kernel) ⟨by decide, by decide⟩ (by decide +kernel) ?_
  refine q_icmpne 75 27 rfl (by decide) (show sCode 191 24 = some (.if_icmp .ne 51, 3) by decide +kernel) ?_ ?_
  · intro q; refine q_forget (L' := [vN, vN]) 0 rfl ?_; exact k1 q
  · intro q; exact k2 q
theorem b191_27 {d : Nat} {Q : Option sV → sM → sG → Prop} {M : sM} {G : sG} {a0 : Nat} (h1 : 0 ≤ M a0 11 ∧ M a0 11 < 400) (k1 : M (a0 + 1) (M a0 11).toNat ≠ 42 → sW (sC d) 191 Q 45 [vO 12 a0, vN] [] M G 0 0) (k2 : M (a0 + 1) (M a0 11).toNat = 42 → sW (sC d) 191 Q 41 [vO 12 a0, vN] [] M G 0 0) : sW (sC d) 191 Q 27 [vO 12 a0, vN] [] M G 0 0 := by
  refine q_aload_n 28 rfl (show sCode 191 27 = some (.aload_n 0, 1) by decide +kernel) rfl (Nat.le_of_ble_eq_true rfl) ?_
  refine q_getR (vA 2 (a0 + 1) 400) 31 rfl (show sCode 191 28 = some (.getfield 7, 3) by decide +kernel) (show sFR (sKo 191).1 7 = some (12, 0) by decide +kernel) (by decide +kernel) (Or.inl (Or.inl rfl)) rfl ?_
  refine q_aload_n 32 rfl (show sCode 191 31 = some (.aload_n 0, 1) by decide +kernel) rfl (Nat.le_of_ble_eq_true rfl) ?_
  refine q_getI 35 rfl (show sCode 191 32 = some (.getfield 99, 3) by decide +kernel) (show sFR (sKo 191).1 99 = some (12, 11) by decide +kernel) (by decide +kernel) (Or.inl (Or.inl rfl)) ?_
  refine q_bald 36 rfl (show sCode 191 35 = some (.baload, 1) by decide +kernel) h1 ?_
  refine q_bipush 38 rfl (show sCode 191 36 = some (.bipush 42, 2) by decide +kernel) ⟨by decide, by decide⟩ (by decide +kernel) ?_
  refine q_icmpne 45 41 rfl (by decide) (show sCode 191 38 = some (.if_icmp .ne 7, 3) by decide +kernel) ?_ ?_
  · intro q; exact k1 q
  · intro q; exact k2 q
theorem b191_41 {d : Nat} {Q : Option sV → sM → sG → Prop} {M : sM} {G : sG} {a0 : Nat}  (kk : sW (sC d) 191 Q 46 [vO 12 a0, vN] [vI 4] M G 0 0) : sW (sC d) 191 Q 41 [vO 12 a0, vN] [] M G 0 0 := by
  refine q_iconst 42 rfl (show sCode 191 41 = some (.iconst 4, 1) by decide +kernel) ⟨by decide, by decide⟩ ?_
  refine q_goto 46 (by decide) (show sCode 191 42 = some (.goto 4, 3) by decide +kernel) ?_
  exact kk
theorem b191_45 {d : Nat} {Q : Option sV → sM → sG → Prop} {M : sM} {G : sG} {a0 : Nat}  (kk : sW (sC d) 191 Q 46 [vO 12 a0, vN] [vI 5] M G 0 0) : sW (sC d) 191 Q 45 [vO 12 a0, vN] [] M G 0 0 := by
  refine q_iconst 46 rfl (show sCode 191 45 = some (.iconst 5, 1) by decide +kernel) ⟨by decide, by decide⟩ ?_
  exact kk
theorem b191_46 {d : Nat} {Q : Option sV → sM → sG → Prop} {M : sM} {G : sG} {a0 : Nat} {s0 : Int} (h1 : sI ((M a0 11) + 1)) (kk : sC d 192 [vO 12 a0] (sUpd M a0 11 ((M a0 11) + 1)) G (QI (fun r M1 G1 => sW (sC d) 191 Q 61 [vO 12 a0, vI s0] (vI r :: []) M1 G1 0 0))) : sW (sC d) 191 Q 46 [vO 12 a0, vN] [vI s0] M G 0 0 := by
  refine q_istore_n [vO 12 a0, vI s0] 47 rfl (show sCode 191 46 = some (.istore_n 1, 1) by decide +kernel) (Nat.lt_of_lt_of_le (Nat.lt_succ_self _) (Nat.le_of_ble_eq_true rfl)) rfl rfl ?_
  refine q_aload_n 48 rfl (show sCode 191 47 = some (.aload_n 0, 1) by decide +kernel) rfl (Nat.le_of_ble_eq_true rfl) ?_
  refine q_dup 49 rfl (show sCode 191 48 = some (.dup, 1) by decide +kernel) rfl ?_
  refine q_getI 52 rfl (show sCode 191 49 = some (.getfield 99, 3) by decide +kernel) (show sFR (sKo 191).1 99 = some (12, 11) by decide +kernel) (by decide +kernel) (Or.inl (Or.inl rfl)) ?_
  refine q_iconst 53 rfl (show sCode 191 52 = some (.iconst 1, 1) by decide +kernel) ⟨by decide, by decide⟩ ?_
  refine q_iadd 54 rfl (show sCode 191 53 = some (.iadd, 1) by decide +kernel) h1 ?_
  refine q_putI 57 rfl (show sCode 191 54 = some (.putfield 99, 3) by decide +kernel) (show sFR (sKo 191).1 99 = some (12, 11) by decide +kernel) (by decide +kernel) (Or.inl ⟨Or.inl rfl, by decide +kernel⟩) ?_
  refine q_aload_n 58 rfl (show sCode 191 57 = some (.aload_n 0, 1) by decide +kernel) rfl (Nat.le_of_ble_eq_true rfl) ?_
  exact q_virtI [] 61 rfl (show sCode 191 58 = some (.invokevirtual 181, 3) by decide +kernel) (show sMR (sKo 191).1 181 = some 192 by decide +kernel) (show 192 < 1000 ∧ sStat 192 = false ∧ sIni 192 = false ∧ sKo 192 = (12, 0, 2, 0, 0) by decide +kernel) rfl (Or.inl rfl) rfl (Nat.le_of_ble_eq_true rfl) rfl rfl rfl (by decide +kernel) kk
theorem b191_61 {d : Nat} {Q : Option sV → sM → sG → Prop} {M : sM} {G : sG} {a0 : Nat} {x1 : Int} {s0 : Int}  (k1 : s0 ≠ 0 → sW (sC d) 191 Q 66 [vO 12 a0, vI x1] [] M G 0 0) (k2 : s0 = 0 → sW (sC d) 191 Q 64 [vN, vN] [] M G 0 0) : sW (sC d) 191 Q 61 [vO 12 a0, vI x1] [vI s0] M G 0 0 := by
  refine q_ifne 66 64 rfl (by decide) (show sCode 191 61 = some (.ifCond .ne 5, 3) by decide +kernel) ?_ ?_
  · intro q; exact k1 q
  · intro q; refine q_forget (L' := [vN, vI x1]) 0 rfl ?_; refine q_forget (L' := [vN, vN]) 1 rfl ?_; exact k2 q
theorem b191_64 {d : Nat} {P : Int → sM → sG → Prop} {M : sM} {G : sG}   (kk : P 0 M G) : sW (sC d) 191 (QI P) 64 [vN, vN] [] M G 0 0 := by
  refine q_iconst 65 rfl (show sCode 191 64 = some (.iconst 0, 1) by decide +kernel) ⟨by decide, by decide⟩ ?_
  exact q_zret (show sCode 191 65 = some (.ireturn, 1) by decide +kernel) (by decide +kernel) (by decide) (by decide +kernel) kk
theorem b191_66 {d : Nat} {Q : Option sV → sM → sG → Prop} {M : sM} {G : sG} {a0 : Nat} {x1 : Int}  (kk : sC d 194 [vO 12 a0, vI x1, vI 0] M G (QV (fun M1 G1 => sW (sC d) 191 Q 72 [vO 12 a0, vN] [] M1 G1 0 0))) : sW (sC d) 191 Q 66 [vO 12 a0, vI x1] [] M G 0 0 := by
  refine q_aload_n 67 rfl (show sCode 191 66 = some (.aload_n 0, 1) by decide +kernel) rfl (Nat.le_of_ble_eq_true rfl) ?_
  refine q_iload_n 68 rfl (show sCode 191 67 = some (.iload_n 1, 1) by decide +kernel) rfl ?_
  refine q_iconst 69 rfl (show sCode 191 68 = some (.iconst 0, 1) by decide +kernel) ⟨by decide, by decide⟩ ?_
  refine q_forget (L' := [vO 12 a0, vN]) 1 rfl ?_
  exact q_virtV [vI x1, vI 0] 72 rfl (show sCode 191 69 = some (.invokevirtual 167, 3) by decide +kernel) (show sMR (sKo 191).1 167 = some 194 by decide +kernel) (show 194 < 1000 ∧ sStat 194 = false ∧ sIni 194 = false ∧ sKo 194 = (12, 2, 0, 0, 0) by decide +kernel) rfl (Or.inl rfl) rfl (Nat.le_of_ble_eq_true rfl) rfl rfl rfl (by decide +kernel) kk
theorem b191_72 {d : Nat} {Q : Option sV → sM → sG → Prop} {M : sM} {G : sG} {a0 : Nat}  (kk : sW (sC d) 191 Q 9 [vO 12 a0, vN] [] M G 0 0) : sW (sC d) 191 Q 72 [vO 12 a0, vN] [] M G 0 0 := by
  refine q_goto 9 (by decide) (show sCode 191 72 = some (.goto (-63), 3) by decide +kernel) ?_
  exact kk
theorem b191_75 {d : Nat} {P : Int → sM → sG → Prop} {M : sM} {G : sG}   (kk : P 1 M G) : sW (sC d) 191 (QI P) 75 [vN, vN] [] M G 0 0 := by
  refine q_iconst 76 rfl (show sCode 191 75 = some (.iconst 1, 1) by decide +kernel) ⟨by decide, by decide⟩ ?_
  exact q_zret (show sCode 191 76 = some (.ireturn, 1) by decide +kernel) (by decide +kernel) (by decide) (by decide +kernel) kk
-- 192 AfterTheLastModel.value ()Z
theorem b192_0 {d : Nat} {Q : Option sV → sM → sG → Prop} {M : sM} {G : sG} {a0 : Nat}  (kk : sC d 175 [vO 12 a0] M G (QI (fun r M1 G1 => sW (sC d) 192 Q 4 [vO 12 a0, vN, vN] (vI r :: []) M1 G1 0 0))) : sW (sC d) 192 Q 0 [vO 12 a0, vN, vN] [] M G 0 0 := by
  refine q_aload_n 1 rfl (show sCode 192 0 = some (.aload_n 0, 1) by decide +kernel) rfl (Nat.le_of_ble_eq_true rfl) ?_
  exact q_virtI [] 4 rfl (show sCode 192 1 = some (.invokevirtual 102, 3) by decide +kernel) (show sMR (sKo 192).1 102 = some 175 by decide +kernel) (show 175 < 1000 ∧ sStat 175 = false ∧ sIni 175 = false ∧ sKo 175 = (12, 0, 1, 0, 0) by decide +kernel) rfl (Or.inl rfl) rfl (Nat.le_of_ble_eq_true rfl) rfl rfl rfl (by decide +kernel) kk
theorem b192_4 {d : Nat} {Q : Option sV → sM → sG → Prop} {M : sM} {G : sG} {a0 : Nat} {s0 : Int}  (kk : sC d 182 [vO 12 a0, vI (M a0 11)] M G (QI (fun r M1 G1 => sW (sC d) 192 Q 18 [vO 12 a0, vI (M a0 11), vN] (vI r :: []) M1 G1 0 0))) : sW (sC d) 192 Q 4 [vO 12 a0, vN, vN] [vI s0] M G 0 0 := by
  refine q_pop 5 rfl (show sCode 192 4 = some (.pop, 1) by decide +kernel) rfl ?_
  refine q_aload_n 6 rfl (show sCode 192 5 = some (.aload_n 0, 1) by decide +kernel) rfl (Nat.le_of_ble_eq_true rfl) ?_
  refine q_getI 9 rfl (show sCode 192 6 = some (.getfield 99, 3) by decide +kernel) (show sFR (sKo 192).1 99 = some (12, 11) by decide +kernel) (by decide +kernel) (Or.inl (Or.inl rfl)) ?_
  refine q_istore_n [vO 12 a0, vI (M a0 11), vN] 10 rfl (show sCode 192 9 = some (.istore_n 1, 1) by decide +kernel) (Nat.lt_of_lt_of_le (Nat.lt_succ_self _) (Nat.le_of_ble_eq_true rfl)) rfl rfl ?_
  refine q_aload_n 11 rfl (show sCode 192 10 = some (.aload_n 0, 1) by decide +kernel) rfl (Nat.le_of_ble_eq_true rfl) ?_
  refine q_aload_n 12 rfl (show sCode 192 11 = some (.aload_n 0, 1) by decide +kernel) rfl (Nat.le_of_ble_eq_true rfl) ?_
  refine q_getI 15 rfl (show sCode 192 12 = some (.getfield 99, 3) by decide +kernel) (show sFR (sKo 192).1 99 = some (12, 11) by decide +kernel) (by decide +kernel) (Or.inl (Or.inl rfl)) ?_
  exact q_virtI [vI (M a0 11)] 18 rfl (show sCode 192 15 = some (.invokevirtual 117, 3) by decide +kernel) (show sMR (sKo 192).1 117 = some 182 by decide +kernel) (show 182 < 1000 ∧ sStat 182 = false ∧ sIni 182 = false ∧ sKo 182 = (12, 1, 2, 0, 0) by decide +kernel) rfl (Or.inl rfl) rfl (Nat.le_of_ble_eq_true rfl) rfl rfl rfl (by decide +kernel) kk
theorem b192_18 {d : Nat} {Q : Option sV → sM → sG → Prop} {M : sM} {G : sG} {a0 : Nat} {x1 : Int} {s0 : Int}  (k1 : s0 = 0 → sW (sC d) 192 Q 52 [vO 12 a0, vI x1, vN] [] M G 0 0) (k2 : s0 ≠ 0 → sW (sC d) 192 Q 21 [vO 12 a0, vI x1, vN] [] M G 0 0) : sW (sC d) 192 Q 18 [vO 12 a0, vI x1, vN] [vI s0] M G 0 0 := by
  refine q_ifeq 52 21 rfl (by decide) (show sCode 192 18 = some (.ifCond .eq 34, 3) by decide +kernel) ?_ ?_
  · intro q; exact k1 q
  · intro q; exact k2 q
theorem b192_21 {d : Nat} {Q : Option sV → sM → sG → Prop} {M : sM} {G : sG} {a0 : Nat} {x1 : Int}  (kk : sC d 181 [vO 12 a0, vI 0, vI 99999] M G (QI (fun r M1 G1 => sW (sC d) 192 Q 28 [vO 12 a0, vI x1, vN] (vI r :: []) M1 G1 0 0))) : sW (sC d) 192 Q 21 [vO 12 a0, vI x1, vN] [] M G 0 0 := by
  refine q_aload_n 22 rfl (show sCode 192 21 = some (.aload_n 0, 1) by decide +kernel) rfl (Nat.le_of_ble_eq_true rfl) ?_
  refine q_iconst 23 rfl (show sCode 192 22 = some (.iconst 0, 1) by decide +kernel) ⟨by decide, by decide⟩ ?_
  refine q_ldcI 25 rfl (show sCode 192 23 = some (.ldc 171, 2) by decide +kernel) (show sIR (sKo 192).1 171 = some 99999 by decide +kernel) ⟨by decide, by decide⟩ ?_
  exact q_virtI [vI 0, vI 99999] 28 rfl (show sCode 192 25 = some (.invokevirtual 172, 3) by decide +kernel) (show sMR (sKo 192).1 172 = some 181 by decide +kernel) (show 181 < 1000 ∧ sStat 181 = false ∧ sIni 181 = false ∧ sKo 181 = (12, 2, 2, 0, 0) by decide +kernel) rfl (Or.inl rfl) rfl (Nat.le_of_ble_eq_true rfl) rfl rfl rfl (by decide +kernel) kk
theorem b192_28 {d : Nat} {Q : Option sV → sM → sG → Prop} {M : sM} {G : sG} {a0 : Nat} {x1 : Int} {s0 : Int}  (k1 : s0 = 0 → sW (sC d) 192 Q 39 [vN, vN, vN] [] M G 0 0) (k2 : s0 ≠ 0 → sW (sC d) 192 Q 31 [vO 12 a0, vI x1, vN] [] M G 0 0) : sW (sC d) 192 Q 28 [vO 12 a0, vI x1, vN] [vI s0] M G 0 0 := by
  refine q_ifeq 39 31 rfl (by decide) (show sCode 192 28 = some (.ifCond .eq 11, 3) by decide +kernel) ?_ ?_
  · intro q; refine q_forget (L' := [vN, vI x1, vN]) 0 rfl ?_; refine q_forget (L' := [vN, vN, vN]) 1 rfl ?_; exact k1 q
  · intro q; exact k2 q
theorem b192_31 {d : Nat} {Q : Option sV → sM → sG → Prop} {M : sM} {G : sG} {a0 : Nat} {x1 : Int}  (kk : sC d 193 [vO 12 a0, vI x1] M G (QI (fun r M1 G1 => sW (sC d) 192 Q 36 [vO 12 a0, vN, vN] (vI r :: []) M1 G1 0 0))) : sW (sC d) 192 Q 31 [vO 12 a0, vI x1, vN] [] M G 0 0 := by
  refine q_aload_n 32 rfl (show sCode 192 31 = some (.aload_n 0, 1) by decide +kernel) rfl (Nat.le_of_ble_eq_true rfl) ?_
  refine q_iload_n 33 rfl (show sCode 192 32 = some (.iload_n 1, 1) by decide +kernel) rfl ?_
  refine q_forget (L' := [vO 12 a0, vN, vN]) 1 rfl ?_
  exact q_virtI [vI x1] 36 rfl (show sCode 192 33 = some (.invokevirtual 175, 3) by decide +kernel) (show sMR (sKo 192).1 175 = some 193 by decide +kernel) (show 193 < 1000 ∧ sStat 193 = false ∧ sIni 193 = false ∧ sKo 193 = (12, 1, 2, 0, 0) by decide +kernel) rfl (Or.inl rfl) rfl (Nat.le_of_ble_eq_true rfl) rfl rfl rfl (by decide +kernel) kk
theorem b192_36 {d : Nat} {Q : Option sV → sM → sG → Prop} {M : sM} {G : sG} {a0 : Nat} {s0 : Int}  (k1 : s0 ≠ 0 → sW (sC d) 192 Q 41 [vO 12 a0, vN, vN] [] M G 0 0) (k2 : s0 = 0 → sW (sC d) 192 Q 39 [vN, vN, vN] [] M G 0 0) : sW (sC d) 192 Q 36 [vO 12 a0, vN, vN] [vI s0] M G 0 0 := by
  refine q_ifne 41 39 rfl (by decide) (show sCode 192 36 = some (.ifCond .ne 5, 3) by decide +kernel) ?_ ?_
  · intro q; exact k1 q
  · intro q; refine q_forget (L' := [vN, vN, vN]) 0 rfl ?_; exact k2 q
theorem b192_39 {d : Nat} {P : Int → sM → sG → Prop} {M : sM} {G : sG}   (kk : P 0 M G) : sW (sC d) 192 (QI P) 39 [vN, vN, vN] [] M G 0 0 := by
  refine q_iconst 40 rfl (show sCode 192 39 = some (.iconst 0, 1) by decide +kernel) ⟨by decide, by decide⟩ ?_
  exact q_zret (show sCode 192 40 = some (.ireturn, 1) by decide +kernel) (by decide +kernel) (by decide) (by decide +kernel) kk
theorem b192_41 {d : Nat} {Q : Option sV → sM → sG → Prop} {M : sM} {G : sG} {a0 : Nat}  (kk : sC d 194 [vO 12 a0, vI 0, vI (M a0 13)] M G (QV (fun M1 G1 => sW (sC d) 192 Q 50 [vN, vN, vN] [] M1 G1 0 0))) : sW (sC d) 192 Q 41 [vO 12 a0, vN, vN] [] M G 0 0 := by
  refine q_aload_n 42 rfl (show sCode 192 41 = some (.aload_n 0, 1) by decide +kernel) rfl (Nat.le_of_ble_eq_true rfl) ?_
  refine q_iconst 43 rfl (show sCode 192 42 = some (.iconst 0, 1) by decide +kernel) ⟨by decide, by decide⟩ ?_
  refine q_aload_n 44 rfl (show sCode 192 43 = some (.aload_n 0, 1) by decide +kernel) rfl (Nat.le_of_ble_eq_true rfl) ?_
  refine q_getI 47 rfl (show sCode 192 44 = some (.getfield 124, 3) by decide +kernel) (show sFR (sKo 192).1 124 = some (12, 13) by decide +kernel) (by decide +kernel) (Or.inl (Or.inl rfl)) ?_
  refine q_forget (L' := [vN, vN, vN]) 0 rfl ?_
  exact q_virtV [vI 0, vI (M a0 13)] 50 rfl (show sCode 192 47 = some (.invokevirtual 167, 3) by decide +kernel) (show sMR (sKo 192).1 167 = some 194 by decide +kernel) (show 194 < 1000 ∧ sStat 194 = false ∧ sIni 194 = false ∧ sKo 194 = (12, 2, 0, 0, 0) by decide +kernel) rfl (Or.inl rfl) rfl (Nat.le_of_ble_eq_true rfl) rfl rfl rfl (by decide +kernel) kk
theorem b192_50 {d : Nat} {P : Int → sM → sG → Prop} {M : sM} {G : sG}   (kk : P 1 M G) : sW (sC d) 192 (QI P) 50 [vN, vN, vN] [] M G 0 0 := by
  refine q_iconst 51 rfl (show sCode 192 50 = some (.iconst 1, 1) by decide +kernel) ⟨by decide, by decide⟩ ?_
  exact q_zret (show sCode 192 51 = some (.ireturn, 1) by decide +kernel) (by decide +kernel) (by decide) (by decide +kernel) kk
theorem b192_52 {d : Nat} {Q : Option sV → sM → sG → Prop} {M : sM} {G : sG} {a0 : Nat} {x1 : Int}  (kk : sC d 195 [vO 12 a0] M G (QI (fun r M1 G1 => sW (sC d) 192 Q 56 [vO 12 a0, vI x1, vN] (vI r :: []) M1 G1 0 0))) : sW (sC d) 192 Q 52 [vO 12 a0, vI x1, vN] [] M G 0 0 := by
  refine q_aload_n 53 rfl (show sCode 192 52 = some (.aload_n 0, 1) by decide +kernel) rfl (Nat.le_of_ble_eq_true rfl) ?_
  exact q_virtI [] 56 rfl (show sCode 192 53 = some (.invokevirtual 178, 3) by decide +kernel) (show sMR (sKo 192).1 178 = some 195 by decide +kernel) (show 195 < 1000 ∧ sStat 195 = false ∧ sIni 195 = false ∧ sKo 195 = (12, 0, 1, 0, 0) by decide +kernel) rfl (Or.inl rfl) rfl (Nat.le_of_ble_eq_true rfl) rfl rfl rfl (by decide +kernel) kk
theorem b192_56 {d : Nat} {Q : Option sV → sM → sG → Prop} {M : sM} {G : sG} {a0 : Nat} {x1 : Int} {s0 : Int}  (k1 : 0 ≤ s0 → sW (sC d) 192 Q 68 [vO 12 a0, vI x1, vI s0] [] M G 0 0) (k2 : s0 < 0 → sW (sC d) 192 Q 61 [vO 12 a0, vI x1, vN] [] M G 0 0) : sW (sC d) 192 Q 56 [vO 12 a0, vI x1, vN] [vI s0] M G 0 0 := by
  refine q_istore_n [vO 12 a0, vI x1, vI s0] 57 rfl (show sCode 192 56 = some (.istore_n 2, 1) by decide +kernel) (Nat.lt_of_lt_of_le (Nat.lt_succ_self _) (Nat.le_of_ble_eq_true rfl)) rfl rfl ?_
  refine q_iload_n 58 rfl (show sCode 192 57 = some (.iload_n 2, 1) by decide +kernel) rfl ?_
  refine q_ifge 68 61 rfl (by decide) (show sCode 192 58 = some (.ifCond .ge 10, 3) by decide +kernel) ?_ ?_
  · intro q; exact k1 q
  · intro q; refine q_forget (L' := [vO 12 a0, vI x1, vN]) 2 rfl ?_; exact k2 q
theorem b192_61 {d : Nat} {Q : Option sV → sM → sG → Prop} {M : sM} {G : sG} {a0 : Nat} {x1 : Int}  (kk : sC d 178 [vO 12 a0, vI 0, vI x1] M G (QI (fun r M1 G1 => sW (sC d) 192 Q 67 [vN, vN, vN] (vI r :: []) M1 G1 0 0))) : sW (sC d) 192 Q 61 [vO 12 a0, vI x1, vN] [] M G 0 0 := by
  refine q_aload_n 62 rfl (show sCode 192 61 = some (.aload_n 0, 1) by decide +kernel) rfl (Nat.le_of_ble_eq_true rfl) ?_
  refine q_iconst 63 rfl (show sCode 192 62 = some (.iconst 0, 1) by decide +kernel) ⟨by decide, by decide⟩ ?_
  refine q_iload_n 64 rfl (show sCode 192 63 = some (.iload_n 1, 1) by decide +kernel) rfl ?_
  refine q_forget (L' := [vN, vI x1, vN]) 0 rfl ?_
  refine q_forget (L' := [vN, vN, vN]) 1 rfl ?_
  exact q_virtI [vI 0, vI x1] 67 rfl (show sCode 192 64 = some (.invokevirtual 120, 3) by decide +kernel) (show sMR (sKo 192).1 120 = some 178 by decide +kernel) (show 178 < 1000 ∧ sStat 178 = false ∧ sIni 178 = false ∧ sKo 178 = (12, 2, 2, 0, 0) by decide +kernel) rfl (Or.inl rfl) rfl (Nat.le_of_ble_eq_true rfl) rfl rfl rfl (by decide +kernel) kk
theorem b192_67 {d : Nat} {P : Int → sM → sG → Prop} {M : sM} {G : sG} {s0 : Int}  (h01 : s0 = 0 ∨ s0 = 1) (kk : P s0 M G) : sW (sC d) 192 (QI P) 67 [vN, vN, vN] [vI s0] M G 0 0 := by
  exact q_zret (show sCode 192 67 = some (.ireturn, 1) by decide +kernel) (by decide +kernel) h01 (by decide +kernel) kk
theorem b192_68 {d : Nat} {Q : Option sV → sM → sG → Prop} {M : sM} {G : sG} {a0 : Nat} {x1 : Int} {x2 : Int}  (kk : sC d 193 [vO 12 a0, vI x1] M G (QI (fun r M1 G1 => sW (sC d) 192 Q 73 [vO 12 a0, vN, vI x2] (vI r :: []) M1 G1 0 0))) : sW (sC d) 192 Q 68 [vO 12 a0, vI x1, vI x2] [] M G 0 0 := by
  refine q_aload_n 69 rfl (show sCode 192 68 = some (.aload_n 0, 1) by decide +kernel) rfl (Nat.le_of_ble_eq_true rfl) ?_
  refine q_iload_n 70 rfl (show sCode 192 69 = some (.iload_n 1, 1) by decide +kernel) rfl ?_
  refine q_forget (L' := [vO 12 a0, vN, vI x2]) 1 rfl ?_
  exact q_virtI [vI x1] 73 rfl (show sCode 192 70 = some (.invokevirtual 175, 3) by decide +kernel) (show sMR (sKo 192).1 175 = some 193 by decide +kernel) (show 193 < 1000 ∧ sStat 193 = false ∧ sIni 193 = false ∧ sKo 193 = (12, 1, 2, 0, 0) by decide +kernel) rfl (Or.inl rfl) rfl (Nat.le_of_ble_eq_true rfl) rfl rfl rfl (by decide +kernel) kk
theorem b192_73 {d : Nat} {Q : Option sV → sM → sG → Prop} {M : sM} {G : sG} {a0 : Nat} {x2 : Int} {s0 : Int}  (k1 : s0 ≠ 0 → sW (sC d) 192 Q 78 [vO 12 a0, vN, vI x2] [] M G 0 0) (k2 : s0 = 0 → sW (sC d) 192 Q 76 [vN, vN, vN] [] M G 0 0) : sW (sC d) 192 Q 73 [vO 12 a0, vN, vI x2] [vI s0] M G 0 0 := by
  refine q_ifne 78 76 rfl (by decide) (show sCode 192 73 = some (.ifCond .ne 5, 3) by decide +kernel) ?_ ?_
  · intro q; exact k1 q
  · intro q; refine q_forget (L' := [vN, vN, vI x2]) 0 rfl ?_; refine q_forget (L' := [vN, vN, vN]) 2 rfl ?_; exact k2 q
theorem b192_76 {d : Nat} {P : Int → sM → sG → Prop} {M : sM} {G : sG}   (kk : P 0 M G) : sW (sC d) 192 (QI P) 76 [vN, vN, vN] [] M G 0 0 := by
  refine q_iconst 77 rfl (show sCode 192 76 = some (.iconst 0, 1) by decide +kernel) ⟨by decide, by decide⟩ ?_
  exact q_zret (show sCode 192 77 = some (.ireturn, 1) by decide +kernel) (by decide +kernel) (by decide) (by decide +kernel) kk
theorem b192_78 {d : Nat} {Q : Option sV → sM → sG → Prop} {M : sM} {G : sG} {a0 : Nat} {x2 : Int}  (kk : sC d 180 [vO 12 a0] M G (QV (fun M1 G1 => sW (sC d) 192 Q 82 [vO 12 a0, vN, vI x2] [] M1 G1 0 0))) : sW (sC d) 192 Q 78 [vO 12 a0, vN, vI x2] [] M G 0 0 := by
  refine q_aload_n 79 rfl (show sCode 192 78 = some (.aload_n 0, 1) by decide +kernel) rfl (Nat.le_of_ble_eq_true rfl) ?_
  exact q_virtV [] 82 rfl (show sCode 192 79 = some (.invokevirtual 114, 3) by decide +kernel) (show sMR (sKo 192).1 114 = some 180 by decide +kernel) (show 180 < 1000 ∧ sStat 180 = false ∧ sIni 180 = false ∧ sKo 180 = (12, 0, 0, 0, 0) by decide +kernel) rfl (Or.inl rfl) rfl (Nat.le_of_ble_eq_true rfl) rfl rfl rfl (by decide +kernel) kk
theorem b192_82 {d : Nat} {Q : Option sV → sM → sG → Prop} {M : sM} {G : sG} {a0 : Nat} {x2 : Int}  (kk : sC d 194 [vO 12 a0, vI 1, vI x2] M G (QV (fun M1 G1 => sW (sC d) 192 Q 88 [vN, vN, vN] [] M1 G1 0 0))) : sW (sC d) 192 Q 82 [vO 12 a0, vN, vI x2] [] M G 0 0 := by
  refine q_aload_n 83 rfl (show sCode 192 82 = some (.aload_n 0, 1) by decide +kernel) rfl (Nat.le_of_ble_eq_true rfl) ?_
  refine q_iconst 84 rfl (show sCode 192 83 = some (.iconst 1, 1) by decide +kernel) ⟨by decide, by decide⟩ ?_
  refine q_iload_n 85 rfl (show sCode 192 84 = some (.iload_n 2, 1) by decide +kernel) rfl ?_
  refine q_forget (L' := [vN, vN, vI x2]) 0 rfl ?_
  refine q_forget (L' := [vN, vN, vN]) 2 rfl ?_
  exact q_virtV [vI 1, vI x2] 88 rfl (show sCode 192 85 = some (.invokevirtual 167, 3) by decide +kernel) (show sMR (sKo 192).1 167 = some 194 by decide +kernel) (show 194 < 1000 ∧ sStat 194 = false ∧ sIni 194 = false ∧ sKo 194 = (12, 2, 0, 0, 0) by decide +kernel) rfl (Or.inl rfl) rfl (Nat.le_of_ble_eq_true rfl) rfl rfl rfl (by decide +kernel) kk
theorem b192_88 {d : Nat} {P : Int → sM → sG → Prop} {M : sM} {G : sG}   (kk : P 1 M G) : sW (sC d) 192 (QI P) 88 [vN, vN, vN] [] M G 0 0 := by
  refine q_iconst 89 rfl (show sCode 192 88 = some (.iconst 1, 1) by decide +kernel) ⟨by decide, by decide⟩ ?_
  exact q_zret (show sCode 192 89 = some (.ireturn, 1) by decide +kernel) (by decide +kernel) (by decide) (by decide +kernel) kk
-- 193 AfterTheLastModel.makes (I)Z
theorem b193_0 {d : Nat} {Q : Option sV → sM → sG → Prop} {M : sM} {G : sG} {a0 : Nat} {x1 : Int}  (k1 : M a0 15 ≠ 60 → sW (sC d) 193 Q 16 [vO 12 a0, vN] [] M G 0 0) (k2 : M a0 15 = 60 → sW (sC d) 193 Q 9 [vO 12 a0, vI x1] [] M G 0 0) : sW (sC d) 193 Q 0 [vO 12 a0, vI x1] [] M G 0 0 := by
  refine q_aload_n 1 rfl (show sCode 193 0 = some (.aload_n 0, 1) by decide +kernel) rfl (Nat.le_of_ble_eq_true rfl) ?_
  refine q_getI 4 rfl (show sCode 193 1 = some (.getfield 154, 3) by decide +kernel) (show sFR (sKo 193).1 154 = some (12, 15) by decide +kernel) (by decide +kernel) (Or.inl (Or.inl rfl)) ?_
  refine q_bipush 6 rfl (show sCode 193 4 = some (.bipush 60, 2) by decide +kernel) ⟨by decide, by decide⟩ (by decide +kernel) ?_
  refine q_icmpne 16 9 rfl (by decide) (show sCode 193 6 = some (.if_icmp .ne 10, 3) by decide +kernel) ?_ ?_
  · intro q; refine q_forget (L' := [vO 12 a0, vN]) 1 rfl ?_; exact k1 q
  · intro q; exact k2 q
theorem b193_9 {d : Nat} {Q : Option sV → sM → sG → Prop} {M : sM} {G : sG} {a0 : Nat} {x1 : Int}  (kk : sC d 178 [vO 12 a0, vI 3, vI x1] M G (QI (fun r M1 G1 => sW (sC d) 193 Q 15 [vN, vN] (vI r :: []) M1 G1 0 0))) : sW (sC d) 193 Q 9 [vO 12 a0, vI x1] [] M G 0 0 := by
  refine q_aload_n 10 rfl (show sCode 193 9 = some (.aload_n 0, 1) by decide +kernel) rfl (Nat.le_of_ble_eq_true rfl) ?_
  refine q_iconst 11 rfl (show sCode 193 10 = some (.iconst 3, 1) by decide +kernel) ⟨by decide, by decide⟩ ?_
  refine q_iload_n 12 rfl (show sCode 193 11 = some (.iload_n 1, 1) by decide +kernel) rfl ?_
  refine q_forget (L' := [vN, vI x1]) 0 rfl ?_
  refine q_forget (L' := [vN, vN]) 1 rfl ?_
  exact q_virtI [vI 3, vI x1] 15 rfl (show sCode 193 12 = some (.invokevirtual 120, 3) by decide +kernel) (show sMR (sKo 193).1 120 = some 178 by decide +kernel) (show 178 < 1000 ∧ sStat 178 = false ∧ sIni 178 = false ∧ sKo 178 = (12, 2, 2, 0, 0) by decide +kernel) rfl (Or.inl rfl) rfl (Nat.le_of_ble_eq_true rfl) rfl rfl rfl (by decide +kernel) kk
theorem b193_15 {d : Nat} {P : Int → sM → sG → Prop} {M : sM} {G : sG} {s0 : Int}  (h01 : s0 = 0 ∨ s0 = 1) (kk : P s0 M G) : sW (sC d) 193 (QI P) 15 [vN, vN] [vI s0] M G 0 0 := by
  exact q_zret (show sCode 193 15 = some (.ireturn, 1) by decide +kernel) (by decide +kernel) h01 (by decide +kernel) kk
theorem b193_16 {d : Nat} {P : Int → sM → sG → Prop} {M : sM} {G : sG} {a0 : Nat} (h1 : sI ((M a0 15) + 1)) (kk : P 1 (sUpd M a0 15 ((M a0 15) + 1)) G) : sW (sC d) 193 (QI P) 16 [vO 12 a0, vN] [] M G 0 0 := by
  refine q_aload_n 17 rfl (show sCode 193 16 = some (.aload_n 0, 1) by decide +kernel) rfl (Nat.le_of_ble_eq_true rfl) ?_
  refine q_dup 18 rfl (show sCode 193 17 = some (.dup, 1) by decide +kernel) rfl ?_
  refine q_getI 21 rfl (show sCode 193 18 = some (.getfield 154, 3) by decide +kernel) (show sFR (sKo 193).1 154 = some (12, 15) by decide +kernel) (by decide +kernel) (Or.inl (Or.inl rfl)) ?_
  refine q_iconst 22 rfl (show sCode 193 21 = some (.iconst 1, 1) by decide +kernel) ⟨by decide, by decide⟩ ?_
  refine q_iadd 23 rfl (show sCode 193 22 = some (.iadd, 1) by decide +kernel) h1 ?_
  refine q_putI 26 rfl (show sCode 193 23 = some (.putfield 154, 3) by decide +kernel) (show sFR (sKo 193).1 154 = some (12, 15) by decide +kernel) (by decide +kernel) (Or.inl ⟨Or.inl rfl, by decide +kernel⟩) ?_
  refine q_iconst 27 rfl (show sCode 193 26 = some (.iconst 1, 1) by decide +kernel) ⟨by decide, by decide⟩ ?_
  exact q_zret (show sCode 193 27 = some (.ireturn, 1) by decide +kernel) (by decide +kernel) (by decide) (by decide +kernel) kk
-- 194 AfterTheLastModel.puts (II)V
theorem b194_0 {d : Nat} {P : sM → sG → Prop} {M : sM} {G : sG} {a0 : Nat} {x1 : Int} {x2 : Int} (h1 : sI (400 * (M a0 14))) (h2 : 0 ≤ M a0 14 ∧ M a0 14 < 7) (h3 : sI ((400 * (M a0 14)) + (M (a0 + 3) (M a0 14).toNat))) (h4 : sI (16 * x2)) (h5 : sI (x1 + (16 * x2))) (h6 : 0 ≤ (400 * (M a0 14)) + (M (a0 + 3) (M a0 14).toNat) ∧ (400 * (M a0 14)) + (M (a0 + 3) (M a0 14).toNat) < 2400) (h7 : 0 ≤ (sUpd M (a0 + 2) ((400 * (M a0 14)) + (M (a0 + 3) (M a0 14).toNat)).toNat (x1 + (16 * x2))) a0 14 ∧ (sUpd M (a0 + 2) ((400 * (M a0 14)) + (M (a0 + 3) (M a0 14).toNat)).toNat (x1 + (16 * x2))) a0 14 < 7) (h8 : sI (((sUpd M (a0 + 2) ((400 * (M a0 14)) + (M (a0 + 3) (M a0 14).toNat)).toNat (x1 + (16 * x2))) (a0 + 3) ((sUpd M (a0 + 2) ((400 * (M a0 14)) + (M (a0 + 3) (M a0 14).toNat)).toNat (x1 + (16 * x2))) a0 14).toNat) + 1)) (h9 : 0 ≤ (sUpd M (a0 + 2) ((400 * (M a0 14)) + (M (a0 + 3) (M a0 14).toNat)).toNat (x1 + (16 * x2))) a0 14 ∧ (sUpd M (a0 + 2) ((400 * (M a0 14)) + (M (a0 + 3) (M a0 14).toNat)).toNat (x1 + (16 * x2))) a0 14 < 7) (kk : P (sUpd (sUpd M (a0 + 2) ((400 * (M a0 14)) + (M (a0 + 3) (M a0 14).toNat)).toNat (x1 + (16 * x2))) (a0 + 3) ((sUpd M (a0 + 2) ((400 * (M a0 14)) + (M (a0 + 3) (M a0 14).toNat)).toNat (x1 + (16 * x2))) a0 14).toNat (((sUpd M (a0 + 2) ((400 * (M a0 14)) + (M (a0 + 3) (M a0 14).toNat)).toNat (x1 + (16 * x2))) (a0 + 3) ((sUpd M (a0 + 2) ((400 * (M a0 14)) + (M (a0 + 3) (M a0 14).toNat)).toNat (x1 + (16 * x2))) a0 14).toNat) + 1)) G) : sW (sC d) 194 (QV P) 0 [vO 12 a0, vI x1, vI x2] [] M G 0 0 := by
  refine q_aload_n 1 rfl (show sCode 194 0 = some (.aload_n 0, 1) by decide +kernel) rfl (Nat.le_of_ble_eq_true rfl) ?_
  refine q_getR (vA 0 (a0 + 2) 2400) 4 rfl (show sCode 194 1 = some (.getfield 13, 3) by decide +kernel) (show sFR (sKo 194).1 13 = some (12, 3) by decide +kernel) (by decide +kernel) (Or.inl (Or.inl rfl)) rfl ?_
  refine q_sipush 7 rfl (show sCode 194 4 = some (.sipush 400, 3) by decide +kernel) ⟨by decide, by decide⟩ (by decide +kernel) ?_
  refine q_aload_n 8 rfl (show sCode 194 7 = some (.aload_n 0, 1) by decide +kernel) rfl (Nat.le_of_ble_eq_true rfl) ?_
  refine q_getI 11 rfl (show sCode 194 8 = some (.getfield 151, 3) by decide +kernel) (show sFR (sKo 194).1 151 = some (12, 14) by decide +kernel) (by decide +kernel) (Or.inl (Or.inl rfl)) ?_
  refine q_imul 12 rfl (show sCode 194 11 = some (.imul, 1) by decide +kernel) h1 ?_
  refine q_aload_n 13 rfl (show sCode 194 12 = some (.aload_n 0, 1) by decide +kernel) rfl (Nat.le_of_ble_eq_true rfl) ?_
  refine q_getR (vA 0 (a0 + 3) 7) 16 rfl (show sCode 194 13 = some (.getfield 17, 3) by decide +kernel) (show sFR (sKo 194).1 17 = some (12, 4) by decide +kernel) (by decide +kernel) (Or.inl (Or.inl rfl)) rfl ?_
  refine q_aload_n 17 rfl (show sCode 194 16 = some (.aload_n 0, 1) by decide +kernel) rfl (Nat.le_of_ble_eq_true rfl) ?_
  refine q_getI 20 rfl (show sCode 194 17 = some (.getfield 151, 3) by decide +kernel) (show sFR (sKo 194).1 151 = some (12, 14) by decide +kernel) (by decide +kernel) (Or.inl (Or.inl rfl)) ?_
  refine q_iald 21 rfl (show sCode 194 20 = some (.iaload, 1) by decide +kernel) h2 ?_
  refine q_iadd 22 rfl (show sCode 194 21 = some (.iadd, 1) by decide +kernel) h3 ?_
  refine q_iload_n 23 rfl (show sCode 194 22 = some (.iload_n 1, 1) by decide +kernel) rfl ?_
  refine q_bipush 25 rfl (show sCode 194 23 = some (.bipush 16, 2) by decide +kernel) ⟨by decide, by decide⟩ (by decide +kernel) ?_
  refine q_iload_n 26 rfl (show sCode 194 25 = some (.iload_n 2, 1) by decide +kernel) rfl ?_
  refine q_imul 27 rfl (show sCode 194 26 = some (.imul, 1) by decide +kernel) h4 ?_
  refine q_iadd 28 rfl (show sCode 194 27 = some (.iadd, 1) by decide +kernel) h5 ?_
  refine q_iast 29 rfl (show sCode 194 28 = some (.iastore, 1) by decide +kernel) h6 ?_
  refine q_aload_n 30 rfl (show sCode 194 29 = some (.aload_n 0, 1) by decide +kernel) rfl (Nat.le_of_ble_eq_true rfl) ?_
  refine q_getR (vA 0 (a0 + 3) 7) 33 rfl (show sCode 194 30 = some (.getfield 17, 3) by decide +kernel) (show sFR (sKo 194).1 17 = some (12, 4) by decide +kernel) (by decide +kernel) (Or.inl (Or.inl rfl)) rfl ?_
  refine q_aload_n 34 rfl (show sCode 194 33 = some (.aload_n 0, 1) by decide +kernel) rfl (Nat.le_of_ble_eq_true rfl) ?_
  refine q_getI 37 rfl (show sCode 194 34 = some (.getfield 151, 3) by decide +kernel) (show sFR (sKo 194).1 151 = some (12, 14) by decide +kernel) (by decide +kernel) (Or.inl (Or.inl rfl)) ?_
  refine q_dup2 38 rfl (show sCode 194 37 = some (.dup2, 1) by decide +kernel) rfl rfl ?_
  refine q_iald 39 rfl (show sCode 194 38 = some (.iaload, 1) by decide +kernel) h7 ?_
  refine q_iconst 40 rfl (show sCode 194 39 = some (.iconst 1, 1) by decide +kernel) ⟨by decide, by decide⟩ ?_
  refine q_iadd 41 rfl (show sCode 194 40 = some (.iadd, 1) by decide +kernel) h8 ?_
  refine q_iast 42 rfl (show sCode 194 41 = some (.iastore, 1) by decide +kernel) h9 ?_
  exact q_vret (show sCode 194 42 = some (.return_, 1) by decide +kernel) (by decide +kernel) (by decide +kernel) kk
-- 195 AfterTheLastModel.wordHere ()I
theorem b195_0 {d : Nat} {Q : Option sV → sM → sG → Prop} {M : sM} {G : sG} {a0 : Nat}  (kk : sC d 176 [vO 12 a0, vL 7237495] M G (QI (fun r M1 G1 => sW (sC d) 195 Q 7 [vO 12 a0] (vI r :: []) M1 G1 0 0))) : sW (sC d) 195 Q 0 [vO 12 a0] [] M G 0 0 := by
  refine q_aload_n 1 rfl (show sCode 195 0 = some (.aload_n 0, 1) by decide +kernel) rfl (Nat.le_of_ble_eq_true rfl) ?_
  refine q_ldc2_w 4 rfl (show sCode 195 1 = some (.ldc2_w 131, 3) by decide +kernel) (show sLR (sKo 195).1 131 = some 7237495 by decide +kernel) ⟨by decide, by decide⟩ ?_
  exact q_virtI [vL 7237495] 7 rfl (show sCode 195 4 = some (.invokevirtual 110, 3) by decide +kernel) (show sMR (sKo 195).1 110 = some 176 by decide +kernel) (show 176 < 1000 ∧ sStat 176 = false ∧ sIni 176 = false ∧ sKo 176 = (12, 1, 2, 0, 0) by decide +kernel) rfl (Or.inl rfl) rfl (Nat.le_of_ble_eq_true rfl) rfl rfl rfl (by decide +kernel) kk
theorem b195_7 {d : Nat} {Q : Option sV → sM → sG → Prop} {M : sM} {G : sG} {a0 : Nat} {s0 : Int}  (k1 : s0 = 0 → sW (sC d) 195 Q 12 [vO 12 a0] [] M G 0 0) (k2 : s0 ≠ 0 → sW (sC d) 195 Q 10 [vN] [] M G 0 0) : sW (sC d) 195 Q 7 [vO 12 a0] [vI s0] M G 0 0 := by
  refine q_ifeq 12 10 rfl (by decide) (show sCode 195 7 = some (.ifCond .eq 5, 3) by decide +kernel) ?_ ?_
  · intro q; exact k1 q
  · intro q; refine q_forget (L' := [vN]) 0 rfl ?_; exact k2 q
theorem b195_10 {d : Nat} {P : Int → sM → sG → Prop} {M : sM} {G : sG}   (kk : P 0 M G) : sW (sC d) 195 (QI P) 10 [vN] [] M G 0 0 := by
  refine q_iconst 11 rfl (show sCode 195 10 = some (.iconst 0, 1) by decide +kernel) ⟨by decide, by decide⟩ ?_
  exact q_iret (show sCode 195 11 = some (.ireturn, 1) by decide +kernel) (by decide +kernel) (by decide +kernel) kk
theorem b195_12 {d : Nat} {Q : Option sV → sM → sG → Prop} {M : sM} {G : sG} {a0 : Nat}  (kk : sC d 176 [vO 12 a0, vL 123581014175598] M G (QI (fun r M1 G1 => sW (sC d) 195 Q 19 [vO 12 a0] (vI r :: []) M1 G1 0 0))) : sW (sC d) 195 Q 12 [vO 12 a0] [] M G 0 0 := by
  refine q_aload_n 13 rfl (show sCode 195 12 = some (.aload_n 0, 1) by decide +kernel) rfl (Nat.le_of_ble_eq_true rfl) ?_
  refine q_ldc2_w 16 rfl (show sCode 195 13 = some (.ldc2_w 133, 3) by decide +kernel) (show sLR (sKo 195).1 133 = some 123581014175598 by decide +kernel) ⟨by decide, by decide⟩ ?_
  exact q_virtI [vL 123581014175598] 19 rfl (show sCode 195 16 = some (.invokevirtual 110, 3) by decide +kernel) (show sMR (sKo 195).1 110 = some 176 by decide +kernel) (show 176 < 1000 ∧ sStat 176 = false ∧ sIni 176 = false ∧ sKo 176 = (12, 1, 2, 0, 0) by decide +kernel) rfl (Or.inl rfl) rfl (Nat.le_of_ble_eq_true rfl) rfl rfl rfl (by decide +kernel) kk
theorem b195_19 {d : Nat} {Q : Option sV → sM → sG → Prop} {M : sM} {G : sG} {a0 : Nat} {s0 : Int}  (k1 : s0 = 0 → sW (sC d) 195 Q 24 [vO 12 a0] [] M G 0 0) (k2 : s0 ≠ 0 → sW (sC d) 195 Q 22 [vN] [] M G 0 0) : sW (sC d) 195 Q 19 [vO 12 a0] [vI s0] M G 0 0 := by
  refine q_ifeq 24 22 rfl (by decide) (show sCode 195 19 = some (.ifCond .eq 5, 3) by decide +kernel) ?_ ?_
  · intro q; exact k1 q
  · intro q; refine q_forget (L' := [vN]) 0 rfl ?_; exact k2 q
theorem b195_22 {d : Nat} {P : Int → sM → sG → Prop} {M : sM} {G : sG}   (kk : P 1 M G) : sW (sC d) 195 (QI P) 22 [vN] [] M G 0 0 := by
  refine q_iconst 23 rfl (show sCode 195 22 = some (.iconst 1, 1) by decide +kernel) ⟨by decide, by decide⟩ ?_
  exact q_iret (show sCode 195 23 = some (.ireturn, 1) by decide +kernel) (by decide +kernel) (by decide +kernel) kk
theorem b195_24 {d : Nat} {Q : Option sV → sM → sG → Prop} {M : sM} {G : sG} {a0 : Nat}  (kk : sC d 176 [vO 12 a0, vL 448546567013] M G (QI (fun r M1 G1 => sW (sC d) 195 Q 31 [vO 12 a0] (vI r :: []) M1 G1 0 0))) : sW (sC d) 195 Q 24 [vO 12 a0] [] M G 0 0 := by
  refine q_aload_n 25 rfl (show sCode 195 24 = some (.aload_n 0, 1) by decide +kernel) rfl (Nat.le_of_ble_eq_true rfl) ?_
  refine q_ldc2_w 28 rfl (show sCode 195 25 = some (.ldc2_w 135, 3) by decide +kernel) (show sLR (sKo 195).1 135 = some 448546567013 by decide +kernel) ⟨by decide, by decide⟩ ?_
  exact q_virtI [vL 448546567013] 31 rfl (show sCode 195 28 = some (.invokevirtual 110, 3) by decide +kernel) (show sMR (sKo 195).1 110 = some 176 by decide +kernel) (show 176 < 1000 ∧ sStat 176 = false ∧ sIni 176 = false ∧ sKo 176 = (12, 1, 2, 0, 0) by decide +kernel) rfl (Or.inl rfl) rfl (Nat.le_of_ble_eq_true rfl) rfl rfl rfl (by decide +kernel) kk
theorem b195_31 {d : Nat} {Q : Option sV → sM → sG → Prop} {M : sM} {G : sG} {a0 : Nat} {s0 : Int}  (k1 : s0 = 0 → sW (sC d) 195 Q 36 [vO 12 a0] [] M G 0 0) (k2 : s0 ≠ 0 → sW (sC d) 195 Q 34 [vN] [] M G 0 0) : sW (sC d) 195 Q 31 [vO 12 a0] [vI s0] M G 0 0 := by
  refine q_ifeq 36 34 rfl (by decide) (show sCode 195 31 = some (.ifCond .eq 5, 3) by decide +kernel) ?_ ?_
  · intro q; exact k1 q
  · intro q; refine q_forget (L' := [vN]) 0 rfl ?_; exact k2 q
theorem b195_34 {d : Nat} {P : Int → sM → sG → Prop} {M : sM} {G : sG}   (kk : P 2 M G) : sW (sC d) 195 (QI P) 34 [vN] [] M G 0 0 := by
  refine q_iconst 35 rfl (show sCode 195 34 = some (.iconst 2, 1) by decide +kernel) ⟨by decide, by decide⟩ ?_
  exact q_iret (show sCode 195 35 = some (.ireturn, 1) by decide +kernel) (by decide +kernel) (by decide +kernel) kk
theorem b195_36 {d : Nat} {Q : Option sV → sM → sG → Prop} {M : sM} {G : sG} {a0 : Nat}  (kk : sC d 176 [vO 12 a0, vL 115923103605861] M G (QI (fun r M1 G1 => sW (sC d) 195 Q 43 [vO 12 a0] (vI r :: []) M1 G1 0 0))) : sW (sC d) 195 Q 36 [vO 12 a0] [] M G 0 0 := by
  refine q_aload_n 37 rfl (show sCode 195 36 = some (.aload_n 0, 1) by decide +kernel) rfl (Nat.le_of_ble_eq_true rfl) ?_
  refine q_ldc2_w 40 rfl (show sCode 195 37 = some (.ldc2_w 137, 3) by decide +kernel) (show sLR (sKo 195).1 137 = some 115923103605861 by decide +kernel) ⟨by decide, by decide⟩ ?_
  exact q_virtI [vL 115923103605861] 43 rfl (show sCode 195 40 = some (.invokevirtual 110, 3) by decide +kernel) (show sMR (sKo 195).1 110 = some 176 by decide +kernel) (show 176 < 1000 ∧ sStat 176 = false ∧ sIni 176 = false ∧ sKo 176 = (12, 1, 2, 0, 0) by decide +kernel) rfl (Or.inl rfl) rfl (Nat.le_of_ble_eq_true rfl) rfl rfl rfl (by decide +kernel) kk
theorem b195_43 {d : Nat} {Q : Option sV → sM → sG → Prop} {M : sM} {G : sG} {a0 : Nat} {s0 : Int}  (k1 : s0 = 0 → sW (sC d) 195 Q 48 [vO 12 a0] [] M G 0 0) (k2 : s0 ≠ 0 → sW (sC d) 195 Q 46 [vN] [] M G 0 0) : sW (sC d) 195 Q 43 [vO 12 a0] [vI s0] M G 0 0 := by
  refine q_ifeq 48 46 rfl (by decide) (show sCode 195 43 = some (.ifCond .eq 5, 3) by decide +kernel) ?_ ?_
  · intro q; exact k1 q
  · intro q; refine q_forget (L' := [vN]) 0 rfl ?_; exact k2 q
theorem b195_46 {d : Nat} {P : Int → sM → sG → Prop} {M : sM} {G : sG}   (kk : P 3 M G) : sW (sC d) 195 (QI P) 46 [vN] [] M G 0 0 := by
  refine q_iconst 47 rfl (show sCode 195 46 = some (.iconst 3, 1) by decide +kernel) ⟨by decide, by decide⟩ ?_
  exact q_iret (show sCode 195 47 = some (.ireturn, 1) by decide +kernel) (by decide +kernel) (by decide +kernel) kk
theorem b195_48 {d : Nat} {Q : Option sV → sM → sG → Prop} {M : sM} {G : sG} {a0 : Nat}  (kk : sC d 176 [vO 12 a0, vL 418330731890] M G (QI (fun r M1 G1 => sW (sC d) 195 Q 55 [vO 12 a0] (vI r :: []) M1 G1 0 0))) : sW (sC d) 195 Q 48 [vO 12 a0] [] M G 0 0 := by
  refine q_aload_n 49 rfl (show sCode 195 48 = some (.aload_n 0, 1) by decide +kernel) rfl (Nat.le_of_ble_eq_true rfl) ?_
  refine q_ldc2_w 52 rfl (show sCode 195 49 = some (.ldc2_w 139, 3) by decide +kernel) (show sLR (sKo 195).1 139 = some 418330731890 by decide +kernel) ⟨by decide, by decide⟩ ?_
  exact q_virtI [vL 418330731890] 55 rfl (show sCode 195 52 = some (.invokevirtual 110, 3) by decide +kernel) (show sMR (sKo 195).1 110 = some 176 by decide +kernel) (show 176 < 1000 ∧ sStat 176 = false ∧ sIni 176 = false ∧ sKo 176 = (12, 1, 2, 0, 0) by decide +kernel) rfl (Or.inl rfl) rfl (Nat.le_of_ble_eq_true rfl) rfl rfl rfl (by decide +kernel) kk
theorem b195_55 {d : Nat} {Q : Option sV → sM → sG → Prop} {M : sM} {G : sG} {a0 : Nat} {s0 : Int}  (k1 : s0 = 0 → sW (sC d) 195 Q 60 [vO 12 a0] [] M G 0 0) (k2 : s0 ≠ 0 → sW (sC d) 195 Q 58 [vN] [] M G 0 0) : sW (sC d) 195 Q 55 [vO 12 a0] [vI s0] M G 0 0 := by
  refine q_ifeq 60 58 rfl (by decide) (show sCode 195 55 = some (.ifCond .eq 5, 3) by decide +kernel) ?_ ?_
  · intro q; exact k1 q
  · intro q; refine q_forget (L' := [vN]) 0 rfl ?_; exact k2 q
theorem b195_58 {d : Nat} {P : Int → sM → sG → Prop} {M : sM} {G : sG}   (kk : P 4 M G) : sW (sC d) 195 (QI P) 58 [vN] [] M G 0 0 := by
  refine q_iconst 59 rfl (show sCode 195 58 = some (.iconst 4, 1) by decide +kernel) ⟨by decide, by decide⟩ ?_
  exact q_iret (show sCode 195 59 = some (.ireturn, 1) by decide +kernel) (by decide +kernel) (by decide +kernel) kk
theorem b195_60 {d : Nat} {Q : Option sV → sM → sG → Prop} {M : sM} {G : sG} {a0 : Nat}  (kk : sC d 176 [vO 12 a0, vL 1919905645] M G (QI (fun r M1 G1 => sW (sC d) 195 Q 67 [vO 12 a0] (vI r :: []) M1 G1 0 0))) : sW (sC d) 195 Q 60 [vO 12 a0] [] M G 0 0 := by
  refine q_aload_n 61 rfl (show sCode 195 60 = some (.aload_n 0, 1) by decide +kernel) rfl (Nat.le_of_ble_eq_true rfl) ?_
  refine q_ldc2_w 64 rfl (show sCode 195 61 = some (.ldc2_w 141, 3) by decide +kernel) (show sLR (sKo 195).1 141 = some 1919905645 by decide +kernel) ⟨by decide, by decide⟩ ?_
  exact q_virtI [vL 1919905645] 67 rfl (show sCode 195 64 = some (.invokevirtual 110, 3) by decide +kernel) (show sMR (sKo 195).1 110 = some 176 by decide +kernel) (show 176 < 1000 ∧ sStat 176 = false ∧ sIni 176 = false ∧ sKo 176 = (12, 1, 2, 0, 0) by decide +kernel) rfl (Or.inl rfl) rfl (Nat.le_of_ble_eq_true rfl) rfl rfl rfl (by decide +kernel) kk
theorem b195_67 {d : Nat} {Q : Option sV → sM → sG → Prop} {M : sM} {G : sG} {a0 : Nat} {s0 : Int}  (k1 : s0 = 0 → sW (sC d) 195 Q 72 [vO 12 a0] [] M G 0 0) (k2 : s0 ≠ 0 → sW (sC d) 195 Q 70 [vN] [] M G 0 0) : sW (sC d) 195 Q 67 [vO 12 a0] [vI s0] M G 0 0 := by
  refine q_ifeq 72 70 rfl (by decide) (show sCode 195 67 = some (.ifCond .eq 5, 3) by decide +kernel) ?_ ?_
  · intro q; exact k1 q
  · intro q; refine q_forget (L' := [vN]) 0 rfl ?_; exact k2 q
theorem b195_70 {d : Nat} {P : Int → sM → sG → Prop} {M : sM} {G : sG}   (kk : P 5 M G) : sW (sC d) 195 (QI P) 70 [vN] [] M G 0 0 := by
  refine q_iconst 71 rfl (show sCode 195 70 = some (.iconst 5, 1) by decide +kernel) ⟨by decide, by decide⟩ ?_
  exact q_iret (show sCode 195 71 = some (.ireturn, 1) by decide +kernel) (by decide +kernel) (by decide +kernel) kk
theorem b195_72 {d : Nat} {Q : Option sV → sM → sG → Prop} {M : sM} {G : sG} {a0 : Nat}  (kk : sC d 176 [vO 12 a0, vL 33611445080913779] M G (QI (fun r M1 G1 => sW (sC d) 195 Q 79 [vO 12 a0] (vI r :: []) M1 G1 0 0))) : sW (sC d) 195 Q 72 [vO 12 a0] [] M G 0 0 := by
  refine q_aload_n 73 rfl (show sCode 195 72 = some (.aload_n 0, 1) by decide +kernel) rfl (Nat.le_of_ble_eq_true rfl) ?_
  refine q_ldc2_w 76 rfl (show sCode 195 73 = some (.ldc2_w 143, 3) by decide +kernel) (show sLR (sKo 195).1 143 = some 33611445080913779 by decide +kernel) ⟨by decide, by decide⟩ ?_
  exact q_virtI [vL 33611445080913779] 79 rfl (show sCode 195 76 = some (.invokevirtual 110, 3) by decide +kernel) (show sMR (sKo 195).1 110 = some 176 by decide +kernel) (show 176 < 1000 ∧ sStat 176 = false ∧ sIni 176 = false ∧ sKo 176 = (12, 1, 2, 0, 0) by decide +kernel) rfl (Or.inl rfl) rfl (Nat.le_of_ble_eq_true rfl) rfl rfl rfl (by decide +kernel) kk
theorem b195_79 {d : Nat} {Q : Option sV → sM → sG → Prop} {M : sM} {G : sG} {a0 : Nat} {s0 : Int}  (k1 : s0 = 0 → sW (sC d) 195 Q 85 [vO 12 a0] [] M G 0 0) (k2 : s0 ≠ 0 → sW (sC d) 195 Q 82 [vN] [] M G 0 0) : sW (sC d) 195 Q 79 [vO 12 a0] [vI s0] M G 0 0 := by
  refine q_ifeq 85 82 rfl (by decide) (show sCode 195 79 = some (.ifCond .eq 6, 3) by decide +kernel) ?_ ?_
  · intro q; exact k1 q
  · intro q; refine q_forget (L' := [vN]) 0 rfl ?_; exact k2 q
theorem b195_82 {d : Nat} {P : Int → sM → sG → Prop} {M : sM} {G : sG}   (kk : P 6 M G) : sW (sC d) 195 (QI P) 82 [vN] [] M G 0 0 := by
  refine q_bipush 84 rfl (show sCode 195 82 = some (.bipush 6, 2) by decide +kernel) ⟨by decide, by decide⟩ (by decide +kernel) ?_
  exact q_iret (show sCode 195 84 = some (.ireturn, 1) by decide +kernel) (by decide +kernel) (by decide +kernel) kk
theorem b195_85 {d : Nat} {Q : Option sV → sM → sG → Prop} {M : sM} {G : sG} {a0 : Nat}  (kk : sC d 176 [vO 12 a0, vL 512970880104] M G (QI (fun r M1 G1 => sW (sC d) 195 Q 92 [vO 12 a0] (vI r :: []) M1 G1 0 0))) : sW (sC d) 195 Q 85 [vO 12 a0] [] M G 0 0 := by
  refine q_aload_n 86 rfl (show sCode 195 85 = some (.aload_n 0, 1) by decide +kernel) rfl (Nat.le_of_ble_eq_true rfl) ?_
  refine q_ldc2_w 89 rfl (show sCode 195 86 = some (.ldc2_w 145, 3) by decide +kernel) (show sLR (sKo 195).1 145 = some 512970880104 by decide +kernel) ⟨by decide, by decide⟩ ?_
  exact q_virtI [vL 512970880104] 92 rfl (show sCode 195 89 = some (.invokevirtual 110, 3) by decide +kernel) (show sMR (sKo 195).1 110 = some 176 by decide +kernel) (show 176 < 1000 ∧ sStat 176 = false ∧ sIni 176 = false ∧ sKo 176 = (12, 1, 2, 0, 0) by decide +kernel) rfl (Or.inl rfl) rfl (Nat.le_of_ble_eq_true rfl) rfl rfl rfl (by decide +kernel) kk
theorem b195_92 {d : Nat} {Q : Option sV → sM → sG → Prop} {M : sM} {G : sG} {a0 : Nat} {s0 : Int}  (k1 : s0 = 0 → sW (sC d) 195 Q 98 [vO 12 a0] [] M G 0 0) (k2 : s0 ≠ 0 → sW (sC d) 195 Q 95 [vN] [] M G 0 0) : sW (sC d) 195 Q 92 [vO 12 a0] [vI s0] M G 0 0 := by
  refine q_ifeq 98 95 rfl (by decide) (show sCode 195 92 = some (.ifCond .eq 6, 3) by decide +kernel) ?_ ?_
  · intro q; exact k1 q
  · intro q; refine q_forget (L' := [vN]) 0 rfl ?_; exact k2 q
theorem b195_95 {d : Nat} {P : Int → sM → sG → Prop} {M : sM} {G : sG}   (kk : P 7 M G) : sW (sC d) 195 (QI P) 95 [vN] [] M G 0 0 := by
  refine q_bipush 97 rfl (show sCode 195 95 = some (.bipush 7, 2) by decide +kernel) ⟨by decide, by decide⟩ (by decide +kernel) ?_
  exact q_iret (show sCode 195 97 = some (.ireturn, 1) by decide +kernel) (by decide +kernel) (by decide +kernel) kk
theorem b195_98 {d : Nat} {Q : Option sV → sM → sG → Prop} {M : sM} {G : sG} {a0 : Nat}  (kk : sC d 176 [vO 12 a0, vL 1818326117] M G (QI (fun r M1 G1 => sW (sC d) 195 Q 105 [vO 12 a0] (vI r :: []) M1 G1 0 0))) : sW (sC d) 195 Q 98 [vO 12 a0] [] M G 0 0 := by
  refine q_aload_n 99 rfl (show sCode 195 98 = some (.aload_n 0, 1) by decide +kernel) rfl (Nat.le_of_ble_eq_true rfl) ?_
  refine q_ldc2_w 102 rfl (show sCode 195 99 = some (.ldc2_w 147, 3) by decide +kernel) (show sLR (sKo 195).1 147 = some 1818326117 by decide +kernel) ⟨by decide, by decide⟩ ?_
  exact q_virtI [vL 1818326117] 105 rfl (show sCode 195 102 = some (.invokevirtual 110, 3) by decide +kernel) (show sMR (sKo 195).1 110 = some 176 by decide +kernel) (show 176 < 1000 ∧ sStat 176 = false ∧ sIni 176 = false ∧ sKo 176 = (12, 1, 2, 0, 0) by decide +kernel) rfl (Or.inl rfl) rfl (Nat.le_of_ble_eq_true rfl) rfl rfl rfl (by decide +kernel) kk
theorem b195_105 {d : Nat} {Q : Option sV → sM → sG → Prop} {M : sM} {G : sG} {a0 : Nat} {s0 : Int}  (k1 : s0 = 0 → sW (sC d) 195 Q 113 [vO 12 a0] [] M G 0 0) (k2 : s0 ≠ 0 → sW (sC d) 195 Q 108 [vN] [] M G 0 0) : sW (sC d) 195 Q 105 [vO 12 a0] [vI s0] M G 0 0 := by
  refine q_ifeq 113 108 rfl (by decide) (show sCode 195 105 = some (.ifCond .eq 8, 3) by decide +kernel) ?_ ?_
  · intro q; exact k1 q
  · intro q; refine q_forget (L' := [vN]) 0 rfl ?_; exact k2 q
theorem b195_108 {d : Nat} {Q : Option sV → sM → sG → Prop} {M : sM} {G : sG}   (kk : sW (sC d) 195 Q 129 [vN] [vI 8] M G 0 0) : sW (sC d) 195 Q 108 [vN] [] M G 0 0 := by
  refine q_bipush 110 rfl (show sCode 195 108 = some (.bipush 8, 2) by decide +kernel) ⟨by decide, by decide⟩ (by decide +kernel) ?_
  refine q_goto 129 (by decide) (show sCode 195 110 = some (.goto 19, 3) by decide +kernel) ?_
  exact kk
theorem b195_113 {d : Nat} {Q : Option sV → sM → sG → Prop} {M : sM} {G : sG} {a0 : Nat}  (kk : sC d 176 [vO 12 a0, vL 1819242087] M G (QI (fun r M1 G1 => sW (sC d) 195 Q 120 [vN] (vI r :: []) M1 G1 0 0))) : sW (sC d) 195 Q 113 [vO 12 a0] [] M G 0 0 := by
  refine q_aload_n 114 rfl (show sCode 195 113 = some (.aload_n 0, 1) by decide +kernel) rfl (Nat.le_of_ble_eq_true rfl) ?_
  refine q_ldc2_w 117 rfl (show sCode 195 114 = some (.ldc2_w 149, 3) by decide +kernel) (show sLR (sKo 195).1 149 = some 1819242087 by decide +kernel) ⟨by decide, by decide⟩ ?_
  refine q_forget (L' := [vN]) 0 rfl ?_
  exact q_virtI [vL 1819242087] 120 rfl (show sCode 195 117 = some (.invokevirtual 110, 3) by decide +kernel) (show sMR (sKo 195).1 110 = some 176 by decide +kernel) (show 176 < 1000 ∧ sStat 176 = false ∧ sIni 176 = false ∧ sKo 176 = (12, 1, 2, 0, 0) by decide +kernel) rfl (Or.inl rfl) rfl (Nat.le_of_ble_eq_true rfl) rfl rfl rfl (by decide +kernel) kk
theorem b195_120 {d : Nat} {Q : Option sV → sM → sG → Prop} {M : sM} {G : sG} {s0 : Int}  (k1 : s0 = 0 → sW (sC d) 195 Q 128 [vN] [] M G 0 0) (k2 : s0 ≠ 0 → sW (sC d) 195 Q 123 [vN] [] M G 0 0) : sW (sC d) 195 Q 120 [vN] [vI s0] M G 0 0 := by
  refine q_ifeq 128 123 rfl (by decide) (show sCode 195 120 = some (.ifCond .eq 8, 3) by decide +kernel) ?_ ?_
  · intro q; exact k1 q
  · intro q; exact k2 q
theorem b195_123 {d : Nat} {Q : Option sV → sM → sG → Prop} {M : sM} {G : sG}   (kk : sW (sC d) 195 Q 129 [vN] [vI 9] M G 0 0) : sW (sC d) 195 Q 123 [vN] [] M G 0 0 := by
  refine q_bipush 125 rfl (show sCode 195 123 = some (.bipush 9, 2) by decide +kernel) ⟨by decide, by decide⟩ (by decide +kernel) ?_
  refine q_goto 129 (by decide) (show sCode 195 125 = some (.goto 4, 3) by decide +kernel) ?_
  exact kk
theorem b195_128 {d : Nat} {Q : Option sV → sM → sG → Prop} {M : sM} {G : sG}   (kk : sW (sC d) 195 Q 129 [vN] [vI (-1)] M G 0 0) : sW (sC d) 195 Q 128 [vN] [] M G 0 0 := by
  refine q_iconst 129 rfl (show sCode 195 128 = some (.iconst (-1), 1) by decide +kernel) ⟨by decide, by decide⟩ ?_
  exact kk
theorem b195_129 {d : Nat} {P : Int → sM → sG → Prop} {M : sM} {G : sG} {s0 : Int}  (kk : P s0 M G) : sW (sC d) 195 (QI P) 129 [vN] [vI s0] M G 0 0 := by
  exact q_iret (show sCode 195 129 = some (.ireturn, 1) by decide +kernel) (by decide +kernel) (by decide +kernel) kk
-- 196 AfterTheLastModel.closes ()V
theorem b196_0 {d : Nat} {Q : Option sV → sM → sG → Prop} {M : sM} {G : sG} {a0 : Nat}  (kk : sC d 197 [vO 12 a0, vI 3] M G (QV (fun M1 G1 => sW (sC d) 196 Q 5 [vO 12 a0] [] M1 G1 0 0))) : sW (sC d) 196 Q 0 [vO 12 a0] [] M G 0 0 := by
  refine q_aload_n 1 rfl (show sCode 196 0 = some (.aload_n 0, 1) by decide +kernel) rfl (Nat.le_of_ble_eq_true rfl) ?_
  refine q_iconst 2 rfl (show sCode 196 1 = some (.iconst 3, 1) by decide +kernel) ⟨by decide, by decide⟩ ?_
  exact q_virtV [vI 3] 5 rfl (show sCode 196 2 = some (.invokevirtual 198, 3) by decide +kernel) (show sMR (sKo 196).1 198 = some 197 by decide +kernel) (show 197 < 1000 ∧ sStat 197 = false ∧ sIni 197 = false ∧ sKo 197 = (12, 1, 0, 0, 0) by decide +kernel) rfl (Or.inl rfl) rfl (Nat.le_of_ble_eq_true rfl) rfl rfl rfl (by decide +kernel) kk
theorem b196_5 {d : Nat} {Q : Option sV → sM → sG → Prop} {M : sM} {G : sG} {a0 : Nat}  (kk : sC d 175 [vO 12 a0] M G (QI (fun r M1 G1 => sW (sC d) 196 Q 9 [vO 12 a0] (vI r :: []) M1 G1 0 0))) : sW (sC d) 196 Q 5 [vO 12 a0] [] M G 0 0 := by
  refine q_aload_n 6 rfl (show sCode 196 5 = some (.aload_n 0, 1) by decide +kernel) rfl (Nat.le_of_ble_eq_true rfl) ?_
  exact q_virtI [] 9 rfl (show sCode 196 6 = some (.invokevirtual 102, 3) by decide +kernel) (show sMR (sKo 196).1 102 = some 175 by decide +kernel) (show 175 < 1000 ∧ sStat 175 = false ∧ sIni 175 = false ∧ sKo 175 = (12, 0, 1, 0, 0) by decide +kernel) rfl (Or.inl rfl) rfl (Nat.le_of_ble_eq_true rfl) rfl rfl rfl (by decide +kernel) kk
theorem b196_9 {d : Nat} {Q : Option sV → sM → sG → Prop} {M : sM} {G : sG} {a0 : Nat} {s0 : Int}  (k1 : s0 ≠ 93 → sW (sC d) 196 Q 64 [vN] [] M G 0 0) (k2 : s0 = 93 → sW (sC d) 196 Q 14 [vO 12 a0] [] M G 0 0) : sW (sC d) 196 Q 9 [vO 12 a0] [vI s0] M G 0 0 := by
  refine q_bipush 11 rfl (show sCode 196 9 = some (.bipush 93, 2) by decide +kernel) ⟨by decide, by decide⟩ (by decide +kernel) ?_
  refine q_icmpne 64 14 rfl (by decide) (show sCode 196 11 = some (.if_icmp .ne 53, 3) by decide +kernel) ?_ ?_
  · intro q; refine q_forget (L' := [vN]) 0 rfl ?_; exact k1 q
  · intro q; exact k2 q
theorem b196_14 {d : Nat} {Q : Option sV → sM → sG → Prop} {M : sM} {G : sG} {a0 : Nat}  (kk : sC d 199 [vO 12 a0] M G (QI (fun r M1 G1 => sW (sC d) 196 Q 18 [vO 12 a0] (vI r :: []) M1 G1 0 0))) : sW (sC d) 196 Q 14 [vO 12 a0] [] M G 0 0 := by
  refine q_aload_n 15 rfl (show sCode 196 14 = some (.aload_n 0, 1) by decide +kernel) rfl (Nat.le_of_ble_eq_true rfl) ?_
  exact q_virtI [] 18 rfl (show sCode 196 15 = some (.invokevirtual 201, 3) by decide +kernel) (show sMR (sKo 196).1 201 = some 199 by decide +kernel) (show 199 < 1000 ∧ sStat 199 = false ∧ sIni 199 = false ∧ sKo 199 = (12, 0, 2, 0, 0) by decide +kernel) rfl (Or.inl rfl) rfl (Nat.le_of_ble_eq_true rfl) rfl rfl rfl (by decide +kernel) kk
theorem b196_18 {d : Nat} {Q : Option sV → sM → sG → Prop} {M : sM} {G : sG} {a0 : Nat} {s0 : Int}  (k1 : s0 = 0 → sW (sC d) 196 Q 64 [vN] [] M G 0 0) (k2 : s0 ≠ 0 → sW (sC d) 196 Q 21 [vO 12 a0] [] M G 0 0) : sW (sC d) 196 Q 18 [vO 12 a0] [vI s0] M G 0 0 := by
  refine q_ifeq 64 21 rfl (by decide) (show sCode 196 18 = some (.ifCond .eq 46, 3) by decide +kernel) ?_ ?_
  · intro q; refine q_forget (L' := [vN]) 0 rfl ?_; exact k1 q
  · intro q; exact k2 q
theorem b196_21 {d : Nat} {Q : Option sV → sM → sG → Prop} {M : sM} {G : sG} {a0 : Nat}  (kk : sC d 197 [vO 12 a0, vI 1] M G (QV (fun M1 G1 => sW (sC d) 196 Q 26 [vO 12 a0] [] M1 G1 0 0))) : sW (sC d) 196 Q 21 [vO 12 a0] [] M G 0 0 := by
  refine q_aload_n 22 rfl (show sCode 196 21 = some (.aload_n 0, 1) by decide +kernel) rfl (Nat.le_of_ble_eq_true rfl) ?_
  refine q_iconst 23 rfl (show sCode 196 22 = some (.iconst 1, 1) by decide +kernel) ⟨by decide, by decide⟩ ?_
  exact q_virtV [vI 1] 26 rfl (show sCode 196 23 = some (.invokevirtual 198, 3) by decide +kernel) (show sMR (sKo 196).1 198 = some 197 by decide +kernel) (show 197 < 1000 ∧ sStat 197 = false ∧ sIni 197 = false ∧ sKo 197 = (12, 1, 0, 0, 0) by decide +kernel) rfl (Or.inl rfl) rfl (Nat.le_of_ble_eq_true rfl) rfl rfl rfl (by decide +kernel) kk
theorem b196_26 {d : Nat} {Q : Option sV → sM → sG → Prop} {M : sM} {G : sG} {a0 : Nat} (h1 : sI ((M a0 19) - 1)) (h2 : sI (((sUpd M a0 19 ((M a0 19) - 1)) a0 16) - 1)) (h3 : sI (((sUpd (sUpd M a0 19 ((M a0 19) - 1)) a0 16 (((sUpd M a0 19 ((M a0 19) - 1)) a0 16) - 1)) a0 11) + 1)) (kk : sC d 197 [vO 12 a0, vI 3] (sUpd (sUpd (sUpd M a0 19 ((M a0 19) - 1)) a0 16 (((sUpd M a0 19 ((M a0 19) - 1)) a0 16) - 1)) a0 11 (((sUpd (sUpd M a0 19 ((M a0 19) - 1)) a0 16 (((sUpd M a0 19 ((M a0 19) - 1)) a0 16) - 1)) a0 11) + 1)) G (QV (fun M1 G1 => sW (sC d) 196 Q 61 [vO 12 a0] [] M1 G1 0 0))) : sW (sC d) 196 Q 26 [vO 12 a0] [] M G 0 0 := by
  refine q_aload_n 27 rfl (show sCode 196 26 = some (.aload_n 0, 1) by decide +kernel) rfl (Nat.le_of_ble_eq_true rfl) ?_
  refine q_dup 28 rfl (show sCode 196 27 = some (.dup, 1) by decide +kernel) rfl ?_
  refine q_getI 31 rfl (show sCode 196 28 = some (.getfield 160, 3) by decide +kernel) (show sFR (sKo 196).1 160 = some (12, 19) by decide +kernel) (by decide +kernel) (Or.inl (Or.inl rfl)) ?_
  refine q_iconst 32 rfl (show sCode 196 31 = some (.iconst 1, 1) by decide +kernel) ⟨by decide, by decide⟩ ?_
  refine q_isub 33 rfl (show sCode 196 32 = some (.isub, 1) by decide +kernel) h1 ?_
  refine q_putI 36 rfl (show sCode 196 33 = some (.putfield 160, 3) by decide +kernel) (show sFR (sKo 196).1 160 = some (12, 19) by decide +kernel) (by decide +kernel) (Or.inl ⟨Or.inl rfl, by decide +kernel⟩) ?_
  refine q_aload_n 37 rfl (show sCode 196 36 = some (.aload_n 0, 1) by decide +kernel) rfl (Nat.le_of_ble_eq_true rfl) ?_
  refine q_dup 38 rfl (show sCode 196 37 = some (.dup, 1) by decide +kernel) rfl ?_
  refine q_getI 41 rfl (show sCode 196 38 = some (.getfield 157, 3) by decide +kernel) (show sFR (sKo 196).1 157 = some (12, 16) by decide +kernel) (by decide +kernel) (Or.inl (Or.inl rfl)) ?_
  refine q_iconst 42 rfl (show sCode 196 41 = some (.iconst 1, 1) by decide +kernel) ⟨by decide, by decide⟩ ?_
  refine q_isub 43 rfl (show sCode 196 42 = some (.isub, 1) by decide +kernel) h2 ?_
  refine q_putI 46 rfl (show sCode 196 43 = some (.putfield 157, 3) by decide +kernel) (show sFR (sKo 196).1 157 = some (12, 16) by decide +kernel) (by decide +kernel) (Or.inl ⟨Or.inl rfl, by decide +kernel⟩) ?_
  refine q_aload_n 47 rfl (show sCode 196 46 = some (.aload_n 0, 1) by decide +kernel) rfl (Nat.le_of_ble_eq_true rfl) ?_
  refine q_dup 48 rfl (show sCode 196 47 = some (.dup, 1) by decide +kernel) rfl ?_
  refine q_getI 51 rfl (show sCode 196 48 = some (.getfield 99, 3) by decide +kernel) (show sFR (sKo 196).1 99 = some (12, 11) by decide +kernel) (by decide +kernel) (Or.inl (Or.inl rfl)) ?_
  refine q_iconst 52 rfl (show sCode 196 51 = some (.iconst 1, 1) by decide +kernel) ⟨by decide, by decide⟩ ?_
  refine q_iadd 53 rfl (show sCode 196 52 = some (.iadd, 1) by decide +kernel) h3 ?_
  refine q_putI 56 rfl (show sCode 196 53 = some (.putfield 99, 3) by decide +kernel) (show sFR (sKo 196).1 99 = some (12, 11) by decide +kernel) (by decide +kernel) (Or.inl ⟨Or.inl rfl, by decide +kernel⟩) ?_
  refine q_aload_n 57 rfl (show sCode 196 56 = some (.aload_n 0, 1) by decide +kernel) rfl (Nat.le_of_ble_eq_true rfl) ?_
  refine q_iconst 58 rfl (show sCode 196 57 = some (.iconst 3, 1) by decide +kernel) ⟨by decide, by decide⟩ ?_
  exact q_virtV [vI 3] 61 rfl (show sCode 196 58 = some (.invokevirtual 198, 3) by decide +kernel) (show sMR (sKo 196).1 198 = some 197 by decide +kernel) (show 197 < 1000 ∧ sStat 197 = false ∧ sIni 197 = false ∧ sKo 197 = (12, 1, 0, 0, 0) by decide +kernel) rfl (Or.inl rfl) rfl (Nat.le_of_ble_eq_true rfl) rfl rfl rfl (by decide +kernel) kk
theorem b196_61 {d : Nat} {Q : Option sV → sM → sG → Prop} {M : sM} {G : sG} {a0 : Nat}  (kk : sW (sC d) 196 Q 5 [vO 12 a0] [] M G 0 0) : sW (sC d) 196 Q 61 [vO 12 a0] [] M G 0 0 := by
  refine q_goto 5 (by decide) (show sCode 196 61 = some (.goto (-56), 3) by decide +kernel) ?_
  exact kk
theorem b196_64 {d : Nat} {P : sM → sG → Prop} {M : sM} {G : sG}   (kk : P M G) : sW (sC d) 196 (QV P) 64 [vN] [] M G 0 0 := by
  exact q_vret (show sCode 196 64 = some (.return_, 1) by decide +kernel) (by decide +kernel) (by decide +kernel) kk
-- 197 AfterTheLastModel.settles (I)V
theorem b197_0 {d : Nat} {Q : Option sV → sM → sG → Prop} {M : sM} {G : sG} {a0 : Nat} {x1 : Int}  (k1 : M a0 19 ≤ 0 → sW (sC d) 197 Q 76 [vN, vN] [] M G 0 0) (k2 : 0 < M a0 19 → sW (sC d) 197 Q 7 [vO 12 a0, vI x1] [] M G 0 0) : sW (sC d) 197 Q 0 [vO 12 a0, vI x1] [] M G 0 0 := by
  refine q_aload_n 1 rfl (show sCode 197 0 = some (.aload_n 0, 1) by decide +kernel) rfl (Nat.le_of_ble_eq_true rfl) ?_
  refine q_getI 4 rfl (show sCode 197 1 = some (.getfield 160, 3) by decide +kernel) (show sFR (sKo 197).1 160 = some (12, 19) by decide +kernel) (by decide +kernel) (Or.inl (Or.inl rfl)) ?_
  refine q_ifle 76 7 rfl (by decide) (show sCode 197 4 = some (.ifCond .le 72, 3) by decide +kernel) ?_ ?_
  · intro q; refine q_forget (L' := [vN, vI x1]) 0 rfl ?_; refine q_forget (L' := [vN, vN]) 1 rfl ?_; exact k1 q
  · intro q; exact k2 q
theorem b197_7 {d : Nat} {Q : Option sV → sM → sG → Prop} {M : sM} {G : sG} {a0 : Nat} {x1 : Int} (h1 : sI ((M a0 19) - 1)) (h2 : 0 ≤ (M a0 19) - 1 ∧ (M a0 19) - 1 < 400) (kk : sC d 198 [vI (M (a0 + 8) ((M a0 19) - 1).toNat)] M G (QI (fun r M1 G1 => sW (sC d) 197 Q 21 [vO 12 a0, vI x1] (vI r :: []) M1 G1 0 0))) : sW (sC d) 197 Q 7 [vO 12 a0, vI x1] [] M G 0 0 := by
  refine q_aload_n 8 rfl (show sCode 197 7 = some (.aload_n 0, 1) by decide +kernel) rfl (Nat.le_of_ble_eq_true rfl) ?_
  refine q_getR (vA 0 (a0 + 8) 400) 11 rfl (show sCode 197 8 = some (.getfield 32, 3) by decide +kernel) (show sFR (sKo 197).1 32 = some (12, 18) by decide +kernel) (by decide +kernel) (Or.inl (Or.inl rfl)) rfl ?_
  refine q_aload_n 12 rfl (show sCode 197 11 = some (.aload_n 0, 1) by decide +kernel) rfl (Nat.le_of_ble_eq_true rfl) ?_
  refine q_getI 15 rfl (show sCode 197 12 = some (.getfield 160, 3) by decide +kernel) (show sFR (sKo 197).1 160 = some (12, 19) by decide +kernel) (by decide +kernel) (Or.inl (Or.inl rfl)) ?_
  refine q_iconst 16 rfl (show sCode 197 15 = some (.iconst 1, 1) by decide +kernel) ⟨by decide, by decide⟩ ?_
  refine q_isub 17 rfl (show sCode 197 16 = some (.isub, 1) by decide +kernel) h1 ?_
  refine q_iald 18 rfl (show sCode 197 17 = some (.iaload, 1) by decide +kernel) h2 ?_
  exact q_statI [vI (M (a0 + 8) ((M a0 19) - 1).toNat)] 21 rfl (show sCode 197 18 = some (.invokestatic 163, 3) by decide +kernel) (show sMR (sKo 197).1 163 = some 198 by decide +kernel) (show 198 < 1000 ∧ sStat 198 = true ∧ sKo 198 = (12, 1, 1, 0, 0) by decide +kernel) rfl rfl (Nat.le_of_ble_eq_true rfl) rfl rfl rfl (by decide +kernel) kk
theorem b197_21 {d : Nat} {Q : Option sV → sM → sG → Prop} {M : sM} {G : sG} {a0 : Nat} {x1 : Int} {s0 : Int}  (k1 : s0 < x1 → sW (sC d) 197 Q 76 [vN, vN] [] M G 0 0) (k2 : x1 ≤ s0 → sW (sC d) 197 Q 25 [vO 12 a0, vI x1] [] M G 0 0) : sW (sC d) 197 Q 21 [vO 12 a0, vI x1] [vI s0] M G 0 0 := by
  refine q_iload_n 22 rfl (show sCode 197 21 = some (.iload_n 1, 1) by decide +kernel) rfl ?_
  refine q_icmplt 76 25 rfl (by decide) (show sCode 197 22 = some (.if_icmp .lt 54, 3) by decide +kernel) ?_ ?_
  · intro q; refine q_forget (L' := [vN, vI x1]) 0 rfl ?_; refine q_forget (L' := [vN, vN]) 1 rfl ?_; exact k1 q
  · intro q; exact k2 q
theorem b197_25 {d : Nat} {Q : Option sV → sM → sG → Prop} {M : sM} {G : sG} {a0 : Nat} {x1 : Int} (h1 : sI ((M a0 19) - 1)) (h2 : 0 ≤ (sUpd M a0 19 ((M a0 19) - 1)) a0 19 ∧ (sUpd M a0 19 ((M a0 19) - 1)) a0 19 < 400) (kk : sC d 194 [vO 12 a0, vI ((sUpd M a0 19 ((M a0 19) - 1)) (a0 + 8) ((sUpd M a0 19 ((M a0 19) - 1)) a0 19).toNat), vI 0] (sUpd M a0 19 ((M a0 19) - 1)) G (QV (fun M1 G1 => sW (sC d) 197 Q 49 [vO 12 a0, vI x1] [] M1 G1 0 0))) : sW (sC d) 197 Q 25 [vO 12 a0, vI x1] [] M G 0 0 := by
  refine q_aload_n 26 rfl (show sCode 197 25 = some (.aload_n 0, 1) by decide +kernel) rfl (Nat.le_of_ble_eq_true rfl) ?_
  refine q_dup 27 rfl (show sCode 197 26 = some (.dup, 1) by decide +kernel) rfl ?_
  refine q_getI 30 rfl (show sCode 197 27 = some (.getfield 160, 3) by decide +kernel) (show sFR (sKo 197).1 160 = some (12, 19) by decide +kernel) (by decide +kernel) (Or.inl (Or.inl rfl)) ?_
  refine q_iconst 31 rfl (show sCode 197 30 = some (.iconst 1, 1) by decide +kernel) ⟨by decide, by decide⟩ ?_
  refine q_isub 32 rfl (show sCode 197 31 = some (.isub, 1) by decide +kernel) h1 ?_
  refine q_putI 35 rfl (show sCode 197 32 = some (.putfield 160, 3) by decide +kernel) (show sFR (sKo 197).1 160 = some (12, 19) by decide +kernel) (by decide +kernel) (Or.inl ⟨Or.inl rfl, by decide +kernel⟩) ?_
  refine q_aload_n 36 rfl (show sCode 197 35 = some (.aload_n 0, 1) by decide +kernel) rfl (Nat.le_of_ble_eq_true rfl) ?_
  refine q_aload_n 37 rfl (show sCode 197 36 = some (.aload_n 0, 1) by decide +kernel) rfl (Nat.le_of_ble_eq_true rfl) ?_
  refine q_getR (vA 0 (a0 + 8) 400) 40 rfl (show sCode 197 37 = some (.getfield 32, 3) by decide +kernel) (show sFR (sKo 197).1 32 = some (12, 18) by decide +kernel) (by decide +kernel) (Or.inl (Or.inl rfl)) rfl ?_
  refine q_aload_n 41 rfl (show sCode 197 40 = some (.aload_n 0, 1) by decide +kernel) rfl (Nat.le_of_ble_eq_true rfl) ?_
  refine q_getI 44 rfl (show sCode 197 41 = some (.getfield 160, 3) by decide +kernel) (show sFR (sKo 197).1 160 = some (12, 19) by decide +kernel) (by decide +kernel) (Or.inl (Or.inl rfl)) ?_
  refine q_iald 45 rfl (show sCode 197 44 = some (.iaload, 1) by decide +kernel) h2 ?_
  refine q_iconst 46 rfl (show sCode 197 45 = some (.iconst 0, 1) by decide +kernel) ⟨by decide, by decide⟩ ?_
  exact q_virtV [vI ((sUpd M a0 19 ((M a0 19) - 1)) (a0 + 8) ((sUpd M a0 19 ((M a0 19) - 1)) a0 19).toNat), vI 0] 49 rfl (show sCode 197 46 = some (.invokevirtual 167, 3) by decide +kernel) (show sMR (sKo 197).1 167 = some 194 by decide +kernel) (show 194 < 1000 ∧ sStat 194 = false ∧ sIni 194 = false ∧ sKo 194 = (12, 2, 0, 0, 0) by decide +kernel) rfl (Or.inl rfl) rfl (Nat.le_of_ble_eq_true rfl) rfl rfl rfl (by decide +kernel) kk
theorem b197_49 {d : Nat} {Q : Option sV → sM → sG → Prop} {M : sM} {G : sG} {a0 : Nat} {x1 : Int} (h1 : 0 ≤ M a0 19 ∧ M a0 19 < 400) (k1 : M (a0 + 8) (M a0 19).toNat ≠ 11 → sW (sC d) 197 Q 0 [vO 12 a0, vI x1] [] M G 0 0) (k2 : M (a0 + 8) (M a0 19).toNat = 11 → sW (sC d) 197 Q 63 [vO 12 a0, vI x1] [] M G 0 0) : sW (sC d) 197 Q 49 [vO 12 a0, vI x1] [] M G 0 0 := by
  refine q_aload_n 50 rfl (show sCode 197 49 = some (.aload_n 0, 1) by decide +kernel) rfl (Nat.le_of_ble_eq_true rfl) ?_
  refine q_getR (vA 0 (a0 + 8) 400) 53 rfl (show sCode 197 50 = some (.getfield 32, 3) by decide +kernel) (show sFR (sKo 197).1 32 = some (12, 18) by decide +kernel) (by decide +kernel) (Or.inl (Or.inl rfl)) rfl ?_
  refine q_aload_n 54 rfl (show sCode 197 53 = some (.aload_n 0, 1) by decide +kernel) rfl (Nat.le_of_ble_eq_true rfl) ?_
  refine q_getI 57 rfl (show sCode 197 54 = some (.getfield 160, 3) by decide +kernel) (show sFR (sKo 197).1 160 = some (12, 19) by decide +kernel) (by decide +kernel) (Or.inl (Or.inl rfl)) ?_
  refine q_iald 58 rfl (show sCode 197 57 = some (.iaload, 1) by decide +kernel) h1 ?_
  refine q_bipush 60 rfl (show sCode 197 58 = some (.bipush 11, 2) by decide +kernel) ⟨by decide, by decide⟩ (by decide +kernel) ?_
  refine q_icmpne 0 63 rfl (by decide) (show sCode 197 60 = some (.if_icmp .ne (-60), 3) by decide +kernel) ?_ ?_
  · intro q; exact k1 q
  · intro q; exact k2 q
theorem b197_63 {d : Nat} {Q : Option sV → sM → sG → Prop} {M : sM} {G : sG} {a0 : Nat} {x1 : Int} (h1 : sI ((M a0 16) - 1)) (kk : sW (sC d) 197 Q 0 [vO 12 a0, vI x1] [] (sUpd M a0 16 ((M a0 16) - 1)) G 0 0) : sW (sC d) 197 Q 63 [vO 12 a0, vI x1] [] M G 0 0 := by
  refine q_aload_n 64 rfl (show sCode 197 63 = some (.aload_n 0, 1) by decide +kernel) rfl (Nat.le_of_ble_eq_true rfl) ?_
  refine q_dup 65 rfl (show sCode 197 64 = some (.dup, 1) by decide +kernel) rfl ?_
  refine q_getI 68 rfl (show sCode 197 65 = some (.getfield 157, 3) by decide +kernel) (show sFR (sKo 197).1 157 = some (12, 16) by decide +kernel) (by decide +kernel) (Or.inl (Or.inl rfl)) ?_
  refine q_iconst 69 rfl (show sCode 197 68 = some (.iconst 1, 1) by decide +kernel) ⟨by decide, by decide⟩ ?_
  refine q_isub 70 rfl (show sCode 197 69 = some (.isub, 1) by decide +kernel) h1 ?_
  refine q_putI 73 rfl (show sCode 197 70 = some (.putfield 157, 3) by decide +kernel) (show sFR (sKo 197).1 157 = some (12, 16) by decide +kernel) (by decide +kernel) (Or.inl ⟨Or.inl rfl, by decide +kernel⟩) ?_
  refine q_goto 0 (by decide) (show sCode 197 73 = some (.goto (-73), 3) by decide +kernel) ?_
  exact kk
theorem b197_76 {d : Nat} {P : sM → sG → Prop} {M : sM} {G : sG}   (kk : P M G) : sW (sC d) 197 (QV P) 76 [vN, vN] [] M G 0 0 := by
  exact q_vret (show sCode 197 76 = some (.return_, 1) by decide +kernel) (by decide +kernel) (by decide +kernel) kk
-- 198 AfterTheLastModel.strength (I)I
theorem b198_0 {d : Nat} {Q : Option sV → sM → sG → Prop} {M : sM} {G : sG} {x0 : Int}  (k1 : x0 ≠ 13 → sW (sC d) 198 Q 10 [vI x0] [] M G 0 0) (k2 : x0 = 13 → sW (sC d) 198 Q 6 [vN] [] M G 0 0) : sW (sC d) 198 Q 0 [vI x0] [] M G 0 0 := by
  refine q_iload_n 1 rfl (show sCode 198 0 = some (.iload_n 0, 1) by decide +kernel) rfl ?_
  refine q_bipush 3 rfl (show sCode 198 1 = some (.bipush 13, 2) by decide +kernel) ⟨by decide, by decide⟩ (by decide +kernel) ?_
  refine q_icmpne 10 6 rfl (by decide) (show sCode 198 3 = some (.if_icmp .ne 7, 3) by decide +kernel) ?_ ?_
  · intro q; exact k1 q
  · intro q; refine q_forget (L' := [vN]) 0 rfl ?_; exact k2 q
theorem b198_6 {d : Nat} {Q : Option sV → sM → sG → Prop} {M : sM} {G : sG}   (kk : sW (sC d) 198 Q 31 [vN] [vI 1] M G 0 0) : sW (sC d) 198 Q 6 [vN] [] M G 0 0 := by
  refine q_iconst 7 rfl (show sCode 198 6 = some (.iconst 1, 1) by decide +kernel) ⟨by decide, by decide⟩ ?_
  refine q_goto 31 (by decide) (show sCode 198 7 = some (.goto 24, 3) by decide +kernel) ?_
  exact kk
theorem b198_10 {d : Nat} {Q : Option sV → sM → sG → Prop} {M : sM} {G : sG} {x0 : Int}  (k1 : x0 ≠ 12 → sW (sC d) 198 Q 20 [vI x0] [] M G 0 0) (k2 : x0 = 12 → sW (sC d) 198 Q 16 [vN] [] M G 0 0) : sW (sC d) 198 Q 10 [vI x0] [] M G 0 0 := by
  refine q_iload_n 11 rfl (show sCode 198 10 = some (.iload_n 0, 1) by decide +kernel) rfl ?_
  refine q_bipush 13 rfl (show sCode 198 11 = some (.bipush 12, 2) by decide +kernel) ⟨by decide, by decide⟩ (by decide +kernel) ?_
  refine q_icmpne 20 16 rfl (by decide) (show sCode 198 13 = some (.if_icmp .ne 7, 3) by decide +kernel) ?_ ?_
  · intro q; exact k1 q
  · intro q; refine q_forget (L' := [vN]) 0 rfl ?_; exact k2 q
theorem b198_16 {d : Nat} {Q : Option sV → sM → sG → Prop} {M : sM} {G : sG}   (kk : sW (sC d) 198 Q 31 [vN] [vI 2] M G 0 0) : sW (sC d) 198 Q 16 [vN] [] M G 0 0 := by
  refine q_iconst 17 rfl (show sCode 198 16 = some (.iconst 2, 1) by decide +kernel) ⟨by decide, by decide⟩ ?_
  refine q_goto 31 (by decide) (show sCode 198 17 = some (.goto 14, 3) by decide +kernel) ?_
  exact kk
theorem b198_20 {d : Nat} {Q : Option sV → sM → sG → Prop} {M : sM} {G : sG} {x0 : Int}  (k1 : x0 ≠ 11 → sW (sC d) 198 Q 30 [vN] [] M G 0 0) (k2 : x0 = 11 → sW (sC d) 198 Q 26 [vN] [] M G 0 0) : sW (sC d) 198 Q 20 [vI x0] [] M G 0 0 := by
  refine q_iload_n 21 rfl (show sCode 198 20 = some (.iload_n 0, 1) by decide +kernel) rfl ?_
  refine q_bipush 23 rfl (show sCode 198 21 = some (.bipush 11, 2) by decide +kernel) ⟨by decide, by decide⟩ (by decide +kernel) ?_
  refine q_icmpne 30 26 rfl (by decide) (show sCode 198 23 = some (.if_icmp .ne 7, 3) by decide +kernel) ?_ ?_
  · intro q; refine q_forget (L' := [vN]) 0 rfl ?_; exact k1 q
  · intro q; refine q_forget (L' := [vN]) 0 rfl ?_; exact k2 q
theorem b198_26 {d : Nat} {Q : Option sV → sM → sG → Prop} {M : sM} {G : sG}   (kk : sW (sC d) 198 Q 31 [vN] [vI 3] M G 0 0) : sW (sC d) 198 Q 26 [vN] [] M G 0 0 := by
  refine q_iconst 27 rfl (show sCode 198 26 = some (.iconst 3, 1) by decide +kernel) ⟨by decide, by decide⟩ ?_
  refine q_goto 31 (by decide) (show sCode 198 27 = some (.goto 4, 3) by decide +kernel) ?_
  exact kk
theorem b198_30 {d : Nat} {Q : Option sV → sM → sG → Prop} {M : sM} {G : sG}   (kk : sW (sC d) 198 Q 31 [vN] [vI 0] M G 0 0) : sW (sC d) 198 Q 30 [vN] [] M G 0 0 := by
  refine q_iconst 31 rfl (show sCode 198 30 = some (.iconst 0, 1) by decide +kernel) ⟨by decide, by decide⟩ ?_
  exact kk
theorem b198_31 {d : Nat} {P : Int → sM → sG → Prop} {M : sM} {G : sG} {s0 : Int}  (kk : P s0 M G) : sW (sC d) 198 (QI P) 31 [vN] [vI s0] M G 0 0 := by
  exact q_iret (show sCode 198 31 = some (.ireturn, 1) by decide +kernel) (by decide +kernel) (by decide +kernel) kk
-- 199 AfterTheLastModel.isInside ()Z
theorem b199_0 {d : Nat} {Q : Option sV → sM → sG → Prop} {M : sM} {G : sG} {a0 : Nat}  (kk : sW (sC d) 199 Q 2 [vO 12 a0, vI 0] [] M G 0 0) : sW (sC d) 199 Q 0 [vO 12 a0, vN] [] M G 0 0 := by
  refine q_iconst 1 rfl (show sCode 199 0 = some (.iconst 0, 1) by decide +kernel) ⟨by decide, by decide⟩ ?_
  refine q_istore_n [vO 12 a0, vI 0] 2 rfl (show sCode 199 1 = some (.istore_n 1, 1) by decide +kernel) (Nat.lt_of_lt_of_le (Nat.lt_succ_self _) (Nat.le_of_ble_eq_true rfl)) rfl rfl ?_
  exact kk
theorem b199_2 {d : Nat} {Q : Option sV → sM → sG → Prop} {M : sM} {G : sG} {a0 : Nat} {x1 : Int}  (k1 : M a0 19 ≤ x1 → sW (sC d) 199 Q 29 [vN, vN] [] M G 0 0) (k2 : x1 < M a0 19 → sW (sC d) 199 Q 10 [vO 12 a0, vI x1] [] M G 0 0) : sW (sC d) 199 Q 2 [vO 12 a0, vI x1] [] M G 0 0 := by
  refine q_iload_n 3 rfl (show sCode 199 2 = some (.iload_n 1, 1) by decide +kernel) rfl ?_
  refine q_aload_n 4 rfl (show sCode 199 3 = some (.aload_n 0, 1) by decide +kernel) rfl (Nat.le_of_ble_eq_true rfl) ?_
  refine q_getI 7 rfl (show sCode 199 4 = some (.getfield 160, 3) by decide +kernel) (show sFR (sKo 199).1 160 = some (12, 19) by decide +kernel) (by decide +kernel) (Or.inl (Or.inl rfl)) ?_
  refine q_icmpge 29 10 rfl (by decide) (show sCode 199 7 = some (.if_icmp .ge 22, 3) by decide +kernel) ?_ ?_
  · intro q; refine q_forget (L' := [vN, vI x1]) 0 rfl ?_; refine q_forget (L' := [vN, vN]) 1 rfl ?_; exact k1 q
  · intro q; exact k2 q
theorem b199_10 {d : Nat} {Q : Option sV → sM → sG → Prop} {M : sM} {G : sG} {a0 : Nat} {x1 : Int} (h1 : 0 ≤ x1 ∧ x1 < 400) (k1 : M (a0 + 8) x1.toNat ≠ 91 → sW (sC d) 199 Q 23 [vO 12 a0, vI x1] [] M G 0 0) (k2 : M (a0 + 8) x1.toNat = 91 → sW (sC d) 199 Q 21 [vN, vN] [] M G 0 0) : sW (sC d) 199 Q 10 [vO 12 a0, vI x1] [] M G 0 0 := by
  refine q_aload_n 11 rfl (show sCode 199 10 = some (.aload_n 0, 1) by decide +kernel) rfl (Nat.le_of_ble_eq_true rfl) ?_
  refine q_getR (vA 0 (a0 + 8) 400) 14 rfl (show sCode 199 11 = some (.getfield 32, 3) by decide +kernel) (show sFR (sKo 199).1 32 = some (12, 18) by decide +kernel) (by decide +kernel) (Or.inl (Or.inl rfl)) rfl ?_
  refine q_iload_n 15 rfl (show sCode 199 14 = some (.iload_n 1, 1) by decide +kernel) rfl ?_
  refine q_iald 16 rfl (show sCode 199 15 = some (.iaload, 1) by decide +kernel) h1 ?_
  refine q_bipush 18 rfl (show sCode 199 16 = some (.bipush 91, 2) by decide +kernel) ⟨by decide, by decide⟩ (by decide +kernel) ?_
  refine q_icmpne 23 21 rfl (by decide) (show sCode 199 18 = some (.if_icmp .ne 5, 3) by decide +kernel) ?_ ?_
  · intro q; exact k1 q
  · intro q; refine q_forget (L' := [vN, vI x1]) 0 rfl ?_; refine q_forget (L' := [vN, vN]) 1 rfl ?_; exact k2 q
theorem b199_21 {d : Nat} {P : Int → sM → sG → Prop} {M : sM} {G : sG}   (kk : P 1 M G) : sW (sC d) 199 (QI P) 21 [vN, vN] [] M G 0 0 := by
  refine q_iconst 22 rfl (show sCode 199 21 = some (.iconst 1, 1) by decide +kernel) ⟨by decide, by decide⟩ ?_
  exact q_zret (show sCode 199 22 = some (.ireturn, 1) by decide +kernel) (by decide +kernel) (by decide) (by decide +kernel) kk
theorem b199_23 {d : Nat} {Q : Option sV → sM → sG → Prop} {M : sM} {G : sG} {a0 : Nat} {x1 : Int} (h1 : sI (x1 + 1)) (kk : sW (sC d) 199 Q 2 [vO 12 a0, vI (x1 + 1)] [] M G 0 0) : sW (sC d) 199 Q 23 [vO 12 a0, vI x1] [] M G 0 0 := by
  refine q_iinc [vO 12 a0, vI (x1 + 1)] 26 rfl (show sCode 199 23 = some (.iinc 1 1, 3) by decide +kernel) rfl rfl h1 rfl ?_
  refine q_goto 2 (by decide) (show sCode 199 26 = some (.goto (-24), 3) by decide +kernel) ?_
  exact kk
theorem b199_29 {d : Nat} {P : Int → sM → sG → Prop} {M : sM} {G : sG}   (kk : P 0 M G) : sW (sC d) 199 (QI P) 29 [vN, vN] [] M G 0 0 := by
  refine q_iconst 30 rfl (show sCode 199 29 = some (.iconst 0, 1) by decide +kernel) ⟨by decide, by decide⟩ ?_
  exact q_zret (show sCode 199 30 = some (.ireturn, 1) by decide +kernel) (by decide +kernel) (by decide) (by decide +kernel) kk
-- 200 AfterTheLastModel.street ()I
theorem b200_0 {d : Nat} {Q : Option sV → sM → sG → Prop} {M : sM} {G : sG} {a0 : Nat}  (kk : sC d 173 [vO 12 a0] (sUpd (sUpd (sUpd M a0 14 6) a0 7 0) a0 8 0) G (QI (fun r M1 G1 => sW (sC d) 200 Q 20 [vO 12 a0, vN, vN] (vI r :: []) M1 G1 0 0))) : sW (sC d) 200 Q 0 [vO 12 a0, vN, vN] [] M G 0 0 := by
  refine q_aload_n 1 rfl (show sCode 200 0 = some (.aload_n 0, 1) by decide +kernel) rfl (Nat.le_of_ble_eq_true rfl) ?_
  refine q_bipush 3 rfl (show sCode 200 1 = some (.bipush 6, 2) by decide +kernel) ⟨by decide, by decide⟩ (by decide +kernel) ?_
  refine q_putI 6 rfl (show sCode 200 3 = some (.putfield 151, 3) by decide +kernel) (show sFR (sKo 200).1 151 = some (12, 14) by decide +kernel) (by decide +kernel) (Or.inl ⟨Or.inl rfl, by decide +kernel⟩) ?_
  refine q_aload_n 7 rfl (show sCode 200 6 = some (.aload_n 0, 1) by decide +kernel) rfl (Nat.le_of_ble_eq_true rfl) ?_
  refine q_iconst 8 rfl (show sCode 200 7 = some (.iconst 0, 1) by decide +kernel) ⟨by decide, by decide⟩ ?_
  refine q_putI 11 rfl (show sCode 200 8 = some (.putfield 217, 3) by decide +kernel) (show sFR (sKo 200).1 217 = some (12, 7) by decide +kernel) (by decide +kernel) (Or.inl ⟨Or.inl rfl, by decide +kernel⟩) ?_
  refine q_aload_n 12 rfl (show sCode 200 11 = some (.aload_n 0, 1) by decide +kernel) rfl (Nat.le_of_ble_eq_true rfl) ?_
  refine q_iconst 13 rfl (show sCode 200 12 = some (.iconst 0, 1) by decide +kernel) ⟨by decide, by decide⟩ ?_
  refine q_putI 16 rfl (show sCode 200 13 = some (.putfield 226, 3) by decide +kernel) (show sFR (sKo 200).1 226 = some (12, 8) by decide +kernel) (by decide +kernel) (Or.inl ⟨Or.inl rfl, by decide +kernel⟩) ?_
  refine q_aload_n 17 rfl (show sCode 200 16 = some (.aload_n 0, 1) by decide +kernel) rfl (Nat.le_of_ble_eq_true rfl) ?_
  exact q_virtI [] 20 rfl (show sCode 200 17 = some (.invokevirtual 255, 3) by decide +kernel) (show sMR (sKo 200).1 255 = some 173 by decide +kernel) (show 173 < 1000 ∧ sStat 173 = false ∧ sIni 173 = false ∧ sKo 173 = (12, 0, 2, 0, 0) by decide +kernel) rfl (Or.inl rfl) rfl (Nat.le_of_ble_eq_true rfl) rfl rfl rfl (by decide +kernel) kk
theorem b200_20 {d : Nat} {Q : Option sV → sM → sG → Prop} {M : sM} {G : sG} {a0 : Nat} {s0 : Int}  (k1 : s0 ≠ 0 → sW (sC d) 200 Q 31 [vO 12 a0, vN, vN] [] M G 0 0) (k2 : s0 = 0 → sW (sC d) 200 Q 23 [vO 12 a0, vN, vN] [] M G 0 0) : sW (sC d) 200 Q 20 [vO 12 a0, vN, vN] [vI s0] M G 0 0 := by
  refine q_ifne 31 23 rfl (by decide) (show sCode 200 20 = some (.ifCond .ne 11, 3) by decide +kernel) ?_ ?_
  · intro q; exact k1 q
  · intro q; exact k2 q
theorem b200_23 {d : Nat} {P : Int → sM → sG → Prop} {M : sM} {G : sG} {a0 : Nat} (h1 : sI ((-2) - (M a0 12))) (kk : P ((-2) - (M a0 12)) M G) : sW (sC d) 200 (QI P) 23 [vO 12 a0, vN, vN] [] M G 0 0 := by
  refine q_bipush 25 rfl (show sCode 200 23 = some (.bipush (-2), 2) by decide +kernel) ⟨by decide, by decide⟩ (by decide +kernel) ?_
  refine q_aload_n 26 rfl (show sCode 200 25 = some (.aload_n 0, 1) by decide +kernel) rfl (Nat.le_of_ble_eq_true rfl) ?_
  refine q_getI 29 rfl (show sCode 200 26 = some (.getfield 96, 3) by decide +kernel) (show sFR (sKo 200).1 96 = some (12, 12) by decide +kernel) (by decide +kernel) (Or.inl (Or.inl rfl)) ?_
  refine q_isub 30 rfl (show sCode 200 29 = some (.isub, 1) by decide +kernel) h1 ?_
  exact q_iret (show sCode 200 30 = some (.ireturn, 1) by decide +kernel) (by decide +kernel) (by decide +kernel) kk
theorem b200_31 {d : Nat} {Q : Option sV → sM → sG → Prop} {M : sM} {G : sG} {a0 : Nat}  (kk : sW (sC d) 200 Q 74 [vO 12 a0, vI 0, vN] [] (sUpd (sUpd (sUpd (sUpd (sUpd M (a0 + 11) 0 (M a0 7)) (a0 + 11) 1 ((sUpd M (a0 + 11) 0 (M a0 7)) a0 8)) (a0 + 11) 2 0) (a0 + 11) 3 0) (a0 + 11) 4 0) G 0 0) : sW (sC d) 200 Q 31 [vO 12 a0, vN, vN] [] M G 0 0 := by
  refine q_aload_n 32 rfl (show sCode 200 31 = some (.aload_n 0, 1) by decide +kernel) rfl (Nat.le_of_ble_eq_true rfl) ?_
  refine q_getR (vA 0 (a0 + 11) 274) 35 rfl (show sCode 200 32 = some (.getfield 42, 3) by decide +kernel) (show sFR (sKo 200).1 42 = some (12, 23) by decide +kernel) (by decide +kernel) (Or.inl (Or.inl rfl)) rfl ?_
  refine q_iconst 36 rfl (show sCode 200 35 = some (.iconst 0, 1) by decide +kernel) ⟨by decide, by decide⟩ ?_
  refine q_aload_n 37 rfl (show sCode 200 36 = some (.aload_n 0, 1) by decide +kernel) rfl (Nat.le_of_ble_eq_true rfl) ?_
  refine q_getI 40 rfl (show sCode 200 37 = some (.getfield 217, 3) by decide +kernel) (show sFR (sKo 200).1 217 = some (12, 7) by decide +kernel) (by decide +kernel) (Or.inl (Or.inl rfl)) ?_
  refine q_iast 41 rfl (show sCode 200 40 = some (.iastore, 1) by decide +kernel) ⟨by decide, by decide⟩ ?_
  refine q_aload_n 42 rfl (show sCode 200 41 = some (.aload_n 0, 1) by decide +kernel) rfl (Nat.le_of_ble_eq_true rfl) ?_
  refine q_getR (vA 0 (a0 + 11) 274) 45 rfl (show sCode 200 42 = some (.getfield 42, 3) by decide +kernel) (show sFR (sKo 200).1 42 = some (12, 23) by decide +kernel) (by decide +kernel) (Or.inl (Or.inl rfl)) rfl ?_
  refine q_iconst 46 rfl (show sCode 200 45 = some (.iconst 1, 1) by decide +kernel) ⟨by decide, by decide⟩ ?_
  refine q_aload_n 47 rfl (show sCode 200 46 = some (.aload_n 0, 1) by decide +kernel) rfl (Nat.le_of_ble_eq_true rfl) ?_
  refine q_getI 50 rfl (show sCode 200 47 = some (.getfield 226, 3) by decide +kernel) (show sFR (sKo 200).1 226 = some (12, 8) by decide +kernel) (by decide +kernel) (Or.inl (Or.inl rfl)) ?_
  refine q_iast 51 rfl (show sCode 200 50 = some (.iastore, 1) by decide +kernel) ⟨by decide, by decide⟩ ?_
  refine q_aload_n 52 rfl (show sCode 200 51 = some (.aload_n 0, 1) by decide +kernel) rfl (Nat.le_of_ble_eq_true rfl) ?_
  refine q_getR (vA 0 (a0 + 11) 274) 55 rfl (show sCode 200 52 = some (.getfield 42, 3) by decide +kernel) (show sFR (sKo 200).1 42 = some (12, 23) by decide +kernel) (by decide +kernel) (Or.inl (Or.inl rfl)) rfl ?_
  refine q_iconst 56 rfl (show sCode 200 55 = some (.iconst 2, 1) by decide +kernel) ⟨by decide, by decide⟩ ?_
  refine q_iconst 57 rfl (show sCode 200 56 = some (.iconst 0, 1) by decide +kernel) ⟨by decide, by decide⟩ ?_
  refine q_iast 58 rfl (show sCode 200 57 = some (.iastore, 1) by decide +kernel) ⟨by decide, by decide⟩ ?_
  refine q_aload_n 59 rfl (show sCode 200 58 = some (.aload_n 0, 1) by decide +kernel) rfl (Nat.le_of_ble_eq_true rfl) ?_
  refine q_getR (vA 0 (a0 + 11) 274) 62 rfl (show sCode 200 59 = some (.getfield 42, 3) by decide +kernel) (show sFR (sKo 200).1 42 = some (12, 23) by decide +kernel) (by decide +kernel) (Or.inl (Or.inl rfl)) rfl ?_
  refine q_iconst 63 rfl (show sCode 200 62 = some (.iconst 3, 1) by decide +kernel) ⟨by decide, by decide⟩ ?_
  refine q_iconst 64 rfl (show sCode 200 63 = some (.iconst 0, 1) by decide +kernel) ⟨by decide, by decide⟩ ?_
  refine q_iast 65 rfl (show sCode 200 64 = some (.iastore, 1) by decide +kernel) ⟨by decide, by decide⟩ ?_
  refine q_aload_n 66 rfl (show sCode 200 65 = some (.aload_n 0, 1) by decide +kernel) rfl (Nat.le_of_ble_eq_true rfl) ?_
  refine q_getR (vA 0 (a0 + 11) 274) 69 rfl (show sCode 200 66 = some (.getfield 42, 3) by decide +kernel) (show sFR (sKo 200).1 42 = some (12, 23) by decide +kernel) (by decide +kernel) (Or.inl (Or.inl rfl)) rfl ?_
  refine q_iconst 70 rfl (show sCode 200 69 = some (.iconst 4, 1) by decide +kernel) ⟨by decide, by decide⟩ ?_
  refine q_iconst 71 rfl (show sCode 200 70 = some (.iconst 0, 1) by decide +kernel) ⟨by decide, by decide⟩ ?_
  refine q_iast 72 rfl (show sCode 200 71 = some (.iastore, 1) by decide +kernel) ⟨by decide, by decide⟩ ?_
  refine q_iconst 73 rfl (show sCode 200 72 = some (.iconst 0, 1) by decide +kernel) ⟨by decide, by decide⟩ ?_
  refine q_istore_n [vO 12 a0, vI 0, vN] 74 rfl (show sCode 200 73 = some (.istore_n 1, 1) by decide +kernel) (Nat.lt_of_lt_of_le (Nat.lt_succ_self _) (Nat.le_of_ble_eq_true rfl)) rfl rfl ?_
  exact kk
theorem b200_74 {d : Nat} {Q : Option sV → sM → sG → Prop} {M : sM} {G : sG} {a0 : Nat} {x1 : Int} (h1 : sI (3 * (M a0 7))) (k1 : 3 * (M a0 7) ≤ x1 → sW (sC d) 200 Q 105 [vO 12 a0, vN, vN] [] M G 0 0) (k2 : x1 < 3 * (M a0 7) → sW (sC d) 200 Q 84 [vO 12 a0, vI x1, vN] [] M G 0 0) : sW (sC d) 200 Q 74 [vO 12 a0, vI x1, vN] [] M G 0 0 := by
  refine q_iload_n 75 rfl (show sCode 200 74 = some (.iload_n 1, 1) by decide +kernel) rfl ?_
  refine q_iconst 76 rfl (show sCode 200 75 = some (.iconst 3, 1) by decide +kernel) ⟨by decide, by decide⟩ ?_
  refine q_aload_n 77 rfl (show sCode 200 76 = some (.aload_n 0, 1) by decide +kernel) rfl (Nat.le_of_ble_eq_true rfl) ?_
  refine q_getI 80 rfl (show sCode 200 77 = some (.getfield 217, 3) by decide +kernel) (show sFR (sKo 200).1 217 = some (12, 7) by decide +kernel) (by decide +kernel) (Or.inl (Or.inl rfl)) ?_
  refine q_imul 81 rfl (show sCode 200 80 = some (.imul, 1) by decide +kernel) h1 ?_
  refine q_icmpge 105 84 rfl (by decide) (show sCode 200 81 = some (.if_icmp .ge 24, 3) by decide +kernel) ?_ ?_
  · intro q; refine q_forget (L' := [vO 12 a0, vN, vN]) 1 rfl ?_; exact k1 q
  · intro q; exact k2 q
theorem b200_84 {d : Nat} {Q : Option sV → sM → sG → Prop} {M : sM} {G : sG} {a0 : Nat} {x1 : Int} (h1 : sI (10 + x1)) (h2 : 0 ≤ x1 ∧ x1 < 18) (h3 : 0 ≤ 10 + x1 ∧ 10 + x1 < 274) (h4 : sI (x1 + 1)) (kk : sW (sC d) 200 Q 74 [vO 12 a0, vI (x1 + 1), vN] [] (sUpd M (a0 + 11) (10 + x1).toNat (M (a0 + 6) x1.toNat)) G 0 0) : sW (sC d) 200 Q 84 [vO 12 a0, vI x1, vN] [] M G 0 0 := by
  refine q_aload_n 85 rfl (show sCode 200 84 = some (.aload_n 0, 1) by decide +kernel) rfl (Nat.le_of_ble_eq_true rfl) ?_
  refine q_getR (vA 0 (a0 + 11) 274) 88 rfl (show sCode 200 85 = some (.getfield 42, 3) by decide +kernel) (show sFR (sKo 200).1 42 = some (12, 23) by decide +kernel) (by decide +kernel) (Or.inl (Or.inl rfl)) rfl ?_
  refine q_bipush 90 rfl (show sCode 200 88 = some (.bipush 10, 2) by decide +kernel) ⟨by decide, by decide⟩ (by decide +kernel) ?_
  refine q_iload_n 91 rfl (show sCode 200 90 = some (.iload_n 1, 1) by decide +kernel) rfl ?_
  refine q_iadd 92 rfl (show sCode 200 91 = some (.iadd, 1) by decide +kernel) h1 ?_
  refine q_aload_n 93 rfl (show sCode 200 92 = some (.aload_n 0, 1) by decide +kernel) rfl (Nat.le_of_ble_eq_true rfl) ?_
  refine q_getR (vA 0 (a0 + 6) 18) 96 rfl (show sCode 200 93 = some (.getfield 26, 3) by decide +kernel) (show sFR (sKo 200).1 26 = some (12, 9) by decide +kernel) (by decide +kernel) (Or.inl (Or.inl rfl)) rfl ?_
  refine q_iload_n 97 rfl (show sCode 200 96 = some (.iload_n 1, 1) by decide +kernel) rfl ?_
  refine q_iald 98 rfl (show sCode 200 97 = some (.iaload, 1) by decide +kernel) h2 ?_
  refine q_iast 99 rfl (show sCode 200 98 = some (.iastore, 1) by decide +kernel) h3 ?_
  refine q_iinc [vO 12 a0, vI (x1 + 1), vN] 102 rfl (show sCode 200 99 = some (.iinc 1 1, 3) by decide +kernel) rfl rfl h4 rfl ?_
  refine q_goto 74 (by decide) (show sCode 200 102 = some (.goto (-28), 3) by decide +kernel) ?_
  exact kk
theorem b200_105 {d : Nat} {Q : Option sV → sM → sG → Prop} {M : sM} {G : sG} {a0 : Nat}  (kk : sW (sC d) 200 Q 107 [vO 12 a0, vI 0, vN] [] M G 0 0) : sW (sC d) 200 Q 105 [vO 12 a0, vN, vN] [] M G 0 0 := by
  refine q_iconst 106 rfl (show sCode 200 105 = some (.iconst 0, 1) by decide +kernel) ⟨by decide, by decide⟩ ?_
  refine q_istore_n [vO 12 a0, vI 0, vN] 107 rfl (show sCode 200 106 = some (.istore_n 1, 1) by decide +kernel) (Nat.lt_of_lt_of_le (Nat.lt_succ_self _) (Nat.le_of_ble_eq_true rfl)) rfl rfl ?_
  exact kk
theorem b200_107 {d : Nat} {Q : Option sV → sM → sG → Prop} {M : sM} {G : sG} {a0 : Nat} {x1 : Int}  (k1 : M a0 8 ≤ x1 → sW (sC d) 200 Q 173 [vO 12 a0, vN, vN] [] M G 0 0) (k2 : x1 < M a0 8 → sW (sC d) 200 Q 115 [vO 12 a0, vI x1, vN] [] M G 0 0) : sW (sC d) 200 Q 107 [vO 12 a0, vI x1, vN] [] M G 0 0 := by
  refine q_iload_n 108 rfl (show sCode 200 107 = some (.iload_n 1, 1) by decide +kernel) rfl ?_
  refine q_aload_n 109 rfl (show sCode 200 108 = some (.aload_n 0, 1) by decide +kernel) rfl (Nat.le_of_ble_eq_true rfl) ?_
  refine q_getI 112 rfl (show sCode 200 109 = some (.getfield 226, 3) by decide +kernel) (show sFR (sKo 200).1 226 = some (12, 8) by decide +kernel) (by decide +kernel) (Or.inl (Or.inl rfl)) ?_
  refine q_icmpge 173 115 rfl (by decide) (show sCode 200 112 = some (.if_icmp .ge 61, 3) by decide +kernel) ?_ ?_
  · intro q; refine q_forget (L' := [vO 12 a0, vN, vN]) 1 rfl ?_; exact k1 q
  · intro q; exact k2 q
theorem b200_115 {d : Nat} {Q : Option sV → sM → sG → Prop} {M : sM} {G : sG} {a0 : Nat} {x1 : Int}  (kk : sW (sC d) 200 Q 117 [vO 12 a0, vI x1, vI 0] [] M G 0 0) : sW (sC d) 200 Q 115 [vO 12 a0, vI x1, vN] [] M G 0 0 := by
  refine q_iconst 116 rfl (show sCode 200 115 = some (.iconst 0, 1) by decide +kernel) ⟨by decide, by decide⟩ ?_
  refine q_istore_n [vO 12 a0, vI x1, vI 0] 117 rfl (show sCode 200 116 = some (.istore_n 2, 1) by decide +kernel) (Nat.lt_of_lt_of_le (Nat.lt_succ_self _) (Nat.le_of_ble_eq_true rfl)) rfl rfl ?_
  exact kk
theorem b200_117 {d : Nat} {Q : Option sV → sM → sG → Prop} {M : sM} {G : sG} {a0 : Nat} {x1 : Int} {x2 : Int}  (k1 : 5 ≤ x2 → sW (sC d) 200 Q 152 [vO 12 a0, vI x1, vN] [] M G 0 0) (k2 : x2 < 5 → sW (sC d) 200 Q 122 [vO 12 a0, vI x1, vI x2] [] M G 0 0) : sW (sC d) 200 Q 117 [vO 12 a0, vI x1, vI x2] [] M G 0 0 := by
  refine q_iload_n 118 rfl (show sCode 200 117 = some (.iload_n 2, 1) by decide +kernel) rfl ?_
  refine q_iconst 119 rfl (show sCode 200 118 = some (.iconst 5, 1) by decide +kernel) ⟨by decide, by decide⟩ ?_
  refine q_icmpge 152 122 rfl (by decide) (show sCode 200 119 = some (.if_icmp .ge 33, 3) by decide +kernel) ?_ ?_
  · intro q; refine q_forget (L' := [vO 12 a0, vI x1, vN]) 2 rfl ?_; exact k1 q
  · intro q; exact k2 q
theorem b200_122 {d : Nat} {Q : Option sV → sM → sG → Prop} {M : sM} {G : sG} {a0 : Nat} {x1 : Int} {x2 : Int} (h1 : sI (6 * x1)) (h2 : sI (28 + (6 * x1))) (h3 : sI ((28 + (6 * x1)) + x2)) (h4 : sI (5 * x1)) (h5 : sI ((5 * x1) + x2)) (h6 : 0 ≤ (5 * x1) + x2 ∧ (5 * x1) + x2 < 90) (h7 : 0 ≤ (28 + (6 * x1)) + x2 ∧ (28 + (6 * x1)) + x2 < 274) (h8 : sI (x2 + 1)) (kk : sW (sC d) 200 Q 117 [vO 12 a0, vI x1, vI (x2 + 1)] [] (sUpd M (a0 + 11) ((28 + (6 * x1)) + x2).toNat (M (a0 + 7) ((5 * x1) + x2).toNat)) G 0 0) : sW (sC d) 200 Q 122 [vO 12 a0, vI x1, vI x2] [] M G 0 0 := by
  refine q_aload_n 123 rfl (show sCode 200 122 = some (.aload_n 0, 1) by decide +kernel) rfl (Nat.le_of_ble_eq_true rfl) ?_
  refine q_getR (vA 0 (a0 + 11) 274) 126 rfl (show sCode 200 123 = some (.getfield 42, 3) by decide +kernel) (show sFR (sKo 200).1 42 = some (12, 23) by decide +kernel) (by decide +kernel) (Or.inl (Or.inl rfl)) rfl ?_
  refine q_bipush 128 rfl (show sCode 200 126 = some (.bipush 28, 2) by decide +kernel) ⟨by decide, by decide⟩ (by decide +kernel) ?_
  refine q_bipush 130 rfl (show sCode 200 128 = some (.bipush 6, 2) by decide +kernel) ⟨by decide, by decide⟩ (by decide +kernel) ?_
  refine q_iload_n 131 rfl (show sCode 200 130 = some (.iload_n 1, 1) by decide +kernel) rfl ?_
  refine q_imul 132 rfl (show sCode 200 131 = some (.imul, 1) by decide +kernel) h1 ?_
  refine q_iadd 133 rfl (show sCode 200 132 = some (.iadd, 1) by decide +kernel) h2 ?_
  refine q_iload_n 134 rfl (show sCode 200 133 = some (.iload_n 2, 1) by decide +kernel) rfl ?_
  refine q_iadd 135 rfl (show sCode 200 134 = some (.iadd, 1) by decide +kernel) h3 ?_
  refine q_aload_n 136 rfl (show sCode 200 135 = some (.aload_n 0, 1) by decide +kernel) rfl (Nat.le_of_ble_eq_true rfl) ?_
  refine q_getR (vA 0 (a0 + 7) 90) 139 rfl (show sCode 200 136 = some (.getfield 29, 3) by decide +kernel) (show sFR (sKo 200).1 29 = some (12, 10) by decide +kernel) (by decide +kernel) (Or.inl (Or.inl rfl)) rfl ?_
  refine q_iconst 140 rfl (show sCode 200 139 = some (.iconst 5, 1) by decide +kernel) ⟨by decide, by decide⟩ ?_
  refine q_iload_n 141 rfl (show sCode 200 140 = some (.iload_n 1, 1) by decide +kernel) rfl ?_
  refine q_imul 142 rfl (show sCode 200 141 = some (.imul, 1) by decide +kernel) h4 ?_
  refine q_iload_n 143 rfl (show sCode 200 142 = some (.iload_n 2, 1) by decide +kernel) rfl ?_
  refine q_iadd 144 rfl (show sCode 200 143 = some (.iadd, 1) by decide +kernel) h5 ?_
  refine q_iald 145 rfl (show sCode 200 144 = some (.iaload, 1) by decide +kernel) h6 ?_
  refine q_iast 146 rfl (show sCode 200 145 = some (.iastore, 1) by decide +kernel) h7 ?_
  refine q_iinc [vO 12 a0, vI x1, vI (x2 + 1)] 149 rfl (show sCode 200 146 = some (.iinc 2 1, 3) by decide +kernel) rfl rfl h8 rfl ?_
  refine q_goto 117 (by decide) (show sCode 200 149 = some (.goto (-32), 3) by decide +kernel) ?_
  exact kk
theorem b200_152 {d : Nat} {Q : Option sV → sM → sG → Prop} {M : sM} {G : sG} {a0 : Nat} {x1 : Int} (h1 : sI (6 * x1)) (h2 : sI (28 + (6 * x1))) (h3 : sI ((28 + (6 * x1)) + 5)) (h4 : 0 ≤ (28 + (6 * x1)) + 5 ∧ (28 + (6 * x1)) + 5 < 274) (h5 : sI (x1 + 1)) (kk : sW (sC d) 200 Q 107 [vO 12 a0, vI (x1 + 1), vN] [] (sUpd M (a0 + 11) ((28 + (6 * x1)) + 5).toNat 0) G 0 0) : sW (sC d) 200 Q 152 [vO 12 a0, vI x1, vN] [] M G 0 0 := by
  refine q_aload_n 153 rfl (show sCode 200 152 = some (.aload_n 0, 1) by decide +kernel) rfl (Nat.le_of_ble_eq_true rfl) ?_
  refine q_getR (vA 0 (a0 + 11) 274) 156 rfl (show sCode 200 153 = some (.getfield 42, 3) by decide +kernel) (show sFR (sKo 200).1 42 = some (12, 23) by decide +kernel) (by decide +kernel) (Or.inl (Or.inl rfl)) rfl ?_
  refine q_bipush 158 rfl (show sCode 200 156 = some (.bipush 28, 2) by decide +kernel) ⟨by decide, by decide⟩ (by decide +kernel) ?_
  refine q_bipush 160 rfl (show sCode 200 158 = some (.bipush 6, 2) by decide +kernel) ⟨by decide, by decide⟩ (by decide +kernel) ?_
  refine q_iload_n 161 rfl (show sCode 200 160 = some (.iload_n 1, 1) by decide +kernel) rfl ?_
  refine q_imul 162 rfl (show sCode 200 161 = some (.imul, 1) by decide +kernel) h1 ?_
  refine q_iadd 163 rfl (show sCode 200 162 = some (.iadd, 1) by decide +kernel) h2 ?_
  refine q_iconst 164 rfl (show sCode 200 163 = some (.iconst 5, 1) by decide +kernel) ⟨by decide, by decide⟩ ?_
  refine q_iadd 165 rfl (show sCode 200 164 = some (.iadd, 1) by decide +kernel) h3 ?_
  refine q_iconst 166 rfl (show sCode 200 165 = some (.iconst 0, 1) by decide +kernel) ⟨by decide, by decide⟩ ?_
  refine q_iast 167 rfl (show sCode 200 166 = some (.iastore, 1) by decide +kernel) h4 ?_
  refine q_iinc [vO 12 a0, vI (x1 + 1), vN] 170 rfl (show sCode 200 167 = some (.iinc 1 1, 3) by decide +kernel) rfl rfl h5 rfl ?_
  refine q_goto 107 (by decide) (show sCode 200 170 = some (.goto (-63), 3) by decide +kernel) ?_
  exact kk
theorem b200_173 {d : Nat} {Q : Option sV → sM → sG → Prop} {M : sM} {G : sG} {a0 : Nat}  (kk : sW (sC d) 200 Q 175 [vO 12 a0, vI 0, vN] [] M G 0 0) : sW (sC d) 200 Q 173 [vO 12 a0, vN, vN] [] M G 0 0 := by
  refine q_iconst 174 rfl (show sCode 200 173 = some (.iconst 0, 1) by decide +kernel) ⟨by decide, by decide⟩ ?_
  refine q_istore_n [vO 12 a0, vI 0, vN] 175 rfl (show sCode 200 174 = some (.istore_n 1, 1) by decide +kernel) (Nat.lt_of_lt_of_le (Nat.lt_succ_self _) (Nat.le_of_ble_eq_true rfl)) rfl rfl ?_
  exact kk
theorem b200_175 {d : Nat} {Q : Option sV → sM → sG → Prop} {M : sM} {G : sG} {a0 : Nat} {x1 : Int}  (k1 : 12 ≤ x1 → sW (sC d) 200 Q 207 [vO 12 a0, vN, vN] [] M G 0 0) (k2 : x1 < 12 → sW (sC d) 200 Q 181 [vO 12 a0, vI x1, vN] [] M G 0 0) : sW (sC d) 200 Q 175 [vO 12 a0, vI x1, vN] [] M G 0 0 := by
  refine q_iload_n 176 rfl (show sCode 200 175 = some (.iload_n 1, 1) by decide +kernel) rfl ?_
  refine q_bipush 178 rfl (show sCode 200 176 = some (.bipush 12, 2) by decide +kernel) ⟨by decide, by decide⟩ (by decide +kernel) ?_
  refine q_icmpge 207 181 rfl (by decide) (show sCode 200 178 = some (.if_icmp .ge 29, 3) by decide +kernel) ?_ ?_
  · intro q; refine q_forget (L' := [vO 12 a0, vN, vN]) 1 rfl ?_; exact k1 q
  · intro q; exact k2 q
theorem b200_181 {d : Nat} {Q : Option sV → sM → sG → Prop} {M : sM} {G : sG} {a0 : Nat} {x1 : Int}  (kk : sC d 201 [vO 12 a0, vI x1] M G (QV (fun M1 G1 => sW (sC d) 200 Q 186 [vO 12 a0, vI x1, vN] [] M1 G1 0 0))) : sW (sC d) 200 Q 181 [vO 12 a0, vI x1, vN] [] M G 0 0 := by
  refine q_aload_n 182 rfl (show sCode 200 181 = some (.aload_n 0, 1) by decide +kernel) rfl (Nat.le_of_ble_eq_true rfl) ?_
  refine q_iload_n 183 rfl (show sCode 200 182 = some (.iload_n 1, 1) by decide +kernel) rfl ?_
  exact q_virtV [vI x1] 186 rfl (show sCode 200 183 = some (.invokevirtual 258, 3) by decide +kernel) (show sMR (sKo 200).1 258 = some 201 by decide +kernel) (show 201 < 1000 ∧ sStat 201 = false ∧ sIni 201 = false ∧ sKo 201 = (12, 1, 0, 0, 0) by decide +kernel) rfl (Or.inl rfl) rfl (Nat.le_of_ble_eq_true rfl) rfl rfl rfl (by decide +kernel) kk
theorem b200_186 {d : Nat} {Q : Option sV → sM → sG → Prop} {M : sM} {G : sG} {a0 : Nat} {x1 : Int} (h1 : sI (5 * x1)) (h2 : sI (136 + (5 * x1))) (h3 : sI ((136 + (5 * x1)) + 3)) (h4 : 0 ≤ (136 + (5 * x1)) + 3 ∧ (136 + (5 * x1)) + 3 < 274) (h5 : sI (x1 + 1)) (kk : sW (sC d) 200 Q 175 [vO 12 a0, vI (x1 + 1), vN] [] (sUpd M (a0 + 11) ((136 + (5 * x1)) + 3).toNat (-1)) G 0 0) : sW (sC d) 200 Q 186 [vO 12 a0, vI x1, vN] [] M G 0 0 := by
  refine q_aload_n 187 rfl (show sCode 200 186 = some (.aload_n 0, 1) by decide +kernel) rfl (Nat.le_of_ble_eq_true rfl) ?_
  refine q_getR (vA 0 (a0 + 11) 274) 190 rfl (show sCode 200 187 = some (.getfield 42, 3) by decide +kernel) (show sFR (sKo 200).1 42 = some (12, 23) by decide +kernel) (by decide +kernel) (Or.inl (Or.inl rfl)) rfl ?_
  refine q_sipush 193 rfl (show sCode 200 190 = some (.sipush 136, 3) by decide +kernel) ⟨by decide, by decide⟩ (by decide +kernel) ?_
  refine q_iconst 194 rfl (show sCode 200 193 = some (.iconst 5, 1) by decide +kernel) ⟨by decide, by decide⟩ ?_
  refine q_iload_n 195 rfl (show sCode 200 194 = some (.iload_n 1, 1) by decide +kernel) rfl ?_
  refine q_imul 196 rfl (show sCode 200 195 = some (.imul, 1) by decide +kernel) h1 ?_
  refine q_iadd 197 rfl (show sCode 200 196 = some (.iadd, 1) by decide +kernel) h2 ?_
  refine q_iconst 198 rfl (show sCode 200 197 = some (.iconst 3, 1) by decide +kernel) ⟨by decide, by decide⟩ ?_
  refine q_iadd 199 rfl (show sCode 200 198 = some (.iadd, 1) by decide +kernel) h3 ?_
  refine q_iconst 200 rfl (show sCode 200 199 = some (.iconst (-1), 1) by decide +kernel) ⟨by decide, by decide⟩ ?_
  refine q_iast 201 rfl (show sCode 200 200 = some (.iastore, 1) by decide +kernel) h4 ?_
  refine q_iinc [vO 12 a0, vI (x1 + 1), vN] 204 rfl (show sCode 200 201 = some (.iinc 1 1, 3) by decide +kernel) rfl rfl h5 rfl ?_
  refine q_goto 175 (by decide) (show sCode 200 204 = some (.goto (-29), 3) by decide +kernel) ?_
  exact kk
theorem b200_207 {d : Nat} {P : Int → sM → sG → Prop} {M : sM} {G : sG} {a0 : Nat}  (kk : P (M a0 7) M G) : sW (sC d) 200 (QI P) 207 [vO 12 a0, vN, vN] [] M G 0 0 := by
  refine q_aload_n 208 rfl (show sCode 200 207 = some (.aload_n 0, 1) by decide +kernel) rfl (Nat.le_of_ble_eq_true rfl) ?_
  refine q_getI 211 rfl (show sCode 200 208 = some (.getfield 217, 3) by decide +kernel) (show sFR (sKo 200).1 217 = some (12, 7) by decide +kernel) (by decide +kernel) (Or.inl (Or.inl rfl)) ?_
  exact q_iret (show sCode 200 211 = some (.ireturn, 1) by decide +kernel) (by decide +kernel) (by decide +kernel) kk
